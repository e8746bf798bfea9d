/-! ===== the constructors ===== -/
def mkB (z : gZ) (ov : Nat → va_E) (k : Nat) : Nat → va_E := fun j => if j < k then ov j else cellOf z M0 j
def U2 (z : gZ) (ov : Nat → va_E) (k : Nat) (e e1 : va_E) : Nat → va_E := fun j => if j < k then ov j else if j = k then e else if j = k + 1 then e1 else cellOf z M0 j
section U2S
variable {z : gZ} {ov : Nat → va_E} {k : Nat} {e e1 e2 : va_E}
theorem U2_0 : U2 z ov k e e1 k = e := by unfold U2; rw [if_neg (by omega), if_pos rfl]
theorem U2_1 : U2 z ov k e e1 (k + 1) = e1 := by unfold U2; rw [if_neg (by omega), if_neg (by omega), if_pos rfl]
theorem U2_n {j : Nat} (h : k + 1 < j) : U2 z ov k e e1 j = cellOf z M0 j := by unfold U2; rw [if_neg (by omega), if_neg (by omega), if_neg (by omega)]
theorem U2_e {b : Nat} (h : b ≠ k) : U2 z ov k e2 e1 b = U2 z ov k e e1 b := by unfold U2; rw [if_neg h, if_neg h]
theorem U2_e1 {b : Nat} (h : b ≠ k + 1) : U2 z ov k e e2 b = U2 z ov k e e1 b := by unfold U2; rw [if_neg h, if_neg h]
theorem U2_start {j : Nat} (ho : ov k = e) (hj : j < k + 1) : U2 z ov k e e1 j = ov j := by
  unfold U2
  by_cases h : j < k
  · rw [if_pos h]
  · rw [if_neg h, if_pos (by omega), show j = k by omega, ho]
theorem U2_back {n : Nat} {r : va_E} (h : (n = k + 1 ∧ n < k + 2) ∨ k + 1 < n) (j : Nat) (h1 : n = k + 1 → e1 = cellOf z M0 (k + 1) := by intro h; first | rfl | omega) : U2 z ov k e e1 j = mkB z (va_up (U2 z ov k e e1) n r) n j := by
  unfold mkB
  by_cases q : j < n
  · rw [if_pos q, va_up_ne _ _ (by omega)]
  · rw [if_neg q]
    rcases h with ⟨h, -⟩ | h
    · by_cases q2 : j = k + 1
      · rw [q2, U2_1, h1 h]
      · exact U2_n (by omega)
    · exact U2_n (by omega)
theorem U2_end {n : Nat} {H : Heap} (hV : gV z (U2 z ov k e (cellOf z M0 (k + 1))) n H) (he : cellOf z M0 k = e) : gV z (mkB z ov k) n H := gV_ext hV (fun j _ => by
  unfold mkB U2
  by_cases h : j < k
  · rw [if_pos h, if_pos h]
  · rw [if_neg h, if_neg h]
    by_cases h2 : j = k
    · rw [if_pos h2, h2, he]
    · rw [if_neg h2]
      by_cases h3 : j = k + 1
      · rw [if_pos h3, h3]
      · rw [if_neg h3])
theorem U2_endR {n N : Nat} {H : Heap} {cA : ClassId} {f g : Nat → Option Nat} (hV : gV z (U2 z ov k e (.inl (cA, N, .inr (.inr (.inr (.inr f)))))) n H) (he : cellOf z M0 k = e) (h1 : cellOf z M0 (k + 1) = .inl (cA, N, .inr (.inr (.inr (.inr g))))) (hfg : ∀ i, i < N → f i = g i) : gV z (mkB z ov k) n H := by
  refine ⟨fun j hj => ?_, hV.2⟩
  have h0 := hV.1 j hj
  unfold mkB
  by_cases h : j < k
  · rw [if_pos h]
    unfold U2 at h0; rw [if_pos h] at h0; exact h0
  · rw [if_neg h]
    by_cases h2 : j = k
    · subst h2; rw [he]; rw [U2_0] at h0; exact h0
    · by_cases h3 : j = k + 1
      · subst h3
        rw [h1]; rw [U2_1] at h0
        have h0 : H[gad z (k + 1)]? = some (vp_cell cA (N, .inr (.inr (.inr (.inr f))))) := h0
        show H[gad z (k + 1)]? = some (vp_cell cA (N, .inr (.inr (.inr (.inr g)))))
        rw [h0, vp_cell_q, vp_cell_q]
        exact congrArg some (arrV_congr (fun i hi => by rw [hfg i hi]))
      · rw [U2_n (by omega)] at h0; exact h0
end U2S
theorem cellM0_I {z : gZ} {a n : Nat} (h : kd a = 10000 + n) (hn : n < 10000) : cellOf z M0 a = .inl (gca z 0, n, .inl (fun _ => 0)) := by rw [cell_I z M0 h hn, M0_arr (by omega)]
theorem cellM0_J {z : gZ} {a n : Nat} (h : kd a = 20000 + n) (hn : n < 10000) : cellOf z M0 a = .inl (gca z 1, n, .inr (.inl (fun _ => 0))) := cell_J z M0 h hn
theorem dv_0 (j : Nat) (hj : j < 4) : defaultValue (tyX0 j) = vp_V [.null, .int 0, .int 0, .int 0] j := by
  match j, hj with
  | 0, _ => rfl
  | 1, _ => rfl
  | 2, _ => rfl
  | 3, _ => rfl
  | j + 4, hj => exact absurd hj (by omega)
theorem dv_1 (j : Nat) (hj : j < 6) : defaultValue (tyX1 j) = vp_V [.null, .int 0, .int 0, .int 0, .int 0, .int 0] j := by
  match j, hj with
  | 0, _ => rfl
  | 1, _ => rfl
  | 2, _ => rfl
  | 3, _ => rfl
  | 4, _ => rfl
  | 5, _ => rfl
  | j + 6, hj => exact absurd hj (by omega)
theorem dv_2 (j : Nat) (hj : j < 6) : defaultValue (tyX2 j) = vp_V [.null, .int 0, .int 0, .int 0, .int 0, .int 0] j := by
  match j, hj with
  | 0, _ => rfl
  | 1, _ => rfl
  | 2, _ => rfl
  | 3, _ => rfl
  | 4, _ => rfl
  | 5, _ => rfl
  | j + 6, hj => exact absurd hj (by omega)
theorem dv_3 (j : Nat) (hj : j < 4) : defaultValue (tyX3 j) = vp_V [.null, .int 0, .int 0, .int 0] j := by
  match j, hj with
  | 0, _ => rfl
  | 1, _ => rfl
  | 2, _ => rfl
  | 3, _ => rfl
  | j + 4, hj => exact absurd hj (by omega)
theorem dv_4 (j : Nat) (hj : j < 10) : defaultValue (tyX4 j) = vp_V [.null, .null, .null, .null, .null, .null, .null, .int 0, .int 0, .int 0] j := by
  match j, hj with
  | 0, _ => rfl
  | 1, _ => rfl
  | 2, _ => rfl
  | 3, _ => rfl
  | 4, _ => rfl
  | 5, _ => rfl
  | 6, _ => rfl
  | 7, _ => rfl
  | 8, _ => rfl
  | 9, _ => rfl
  | j + 10, hj => exact absurd hj (by omega)
theorem dv_5 (j : Nat) (hj : j < 5) : defaultValue (tyX5 j) = vp_V [.null, .null, .null, .int 0, .int 0] j := by
  match j, hj with
  | 0, _ => rfl
  | 1, _ => rfl
  | 2, _ => rfl
  | 3, _ => rfl
  | 4, _ => rfl
  | j + 5, hj => exact absurd hj (by omega)
theorem dv_6 (j : Nat) (hj : j < 8) : defaultValue (tyX6 j) = vp_V [.null, .null, .null, .null, .null, .null, .null, .int 0] j := by
  match j, hj with
  | 0, _ => rfl
  | 1, _ => rfl
  | 2, _ => rfl
  | 3, _ => rfl
  | 4, _ => rfl
  | 5, _ => rfl
  | 6, _ => rfl
  | 7, _ => rfl
  | j + 8, hj => exact absurd hj (by omega)
theorem kq_0_1 {a : Nat} (h : kd a = 0) : kd (a + 1) = 20000 + 64 := kd_r (P := fun a => kd a = 0 → kd (a + 1) = 20064) (by decide +kernel) (fun a ha h => by rw [kd_big ha] at h; cases h) a h
theorem kq_1_1 {a : Nat} (h : kd a = 1) : kd (a + 1) = 10000 + 160 := kd_r (P := fun a => kd a = 1 → kd (a + 1) = 10160) (by decide +kernel) (fun a ha h => by rw [kd_big ha] at h; cases h) a h
theorem kq_2_1 {a : Nat} (h : kd a = 2) : kd (a + 1) = 4 := kd_r (P := fun a => kd a = 2 → kd (a + 1) = 4) (by decide +kernel) (fun a ha h => by rw [kd_big ha] at h; cases h) a h
theorem kq_3_1 {a : Nat} (h : kd a = 3) : kd (a + 1) = 20000 + 40 := kd_r (P := fun a => kd a = 3 → kd (a + 1) = 20040) (by decide +kernel) (fun a ha h => by rw [kd_big ha] at h; cases h) a h
theorem kq_4_1 {a : Nat} (h : kd a = 4) : kd (a + 1) = 10000 + 12 := kd_r (P := fun a => kd a = 4 → kd (a + 1) = 10012) (by decide +kernel) (fun a ha h => by rw [kd_big ha] at h; cases h) a h
theorem kq_4_2 {a : Nat} (h : kd a = 4) : kd (a + 2) = 10000 + 12 := kd_r (P := fun a => kd a = 4 → kd (a + 2) = 10012) (by decide +kernel) (fun a ha h => by rw [kd_big ha] at h; cases h) a h
theorem kq_4_3 {a : Nat} (h : kd a = 4) : kd (a + 3) = 10000 + 12 := kd_r (P := fun a => kd a = 4 → kd (a + 3) = 10012) (by decide +kernel) (fun a ha h => by rw [kd_big ha] at h; cases h) a h
theorem kq_4_4 {a : Nat} (h : kd a = 4) : kd (a + 4) = 10000 + 12 := kd_r (P := fun a => kd a = 4 → kd (a + 4) = 10012) (by decide +kernel) (fun a ha h => by rw [kd_big ha] at h; cases h) a h
theorem kq_4_5 {a : Nat} (h : kd a = 4) : kd (a + 5) = 10000 + 12 := kd_r (P := fun a => kd a = 4 → kd (a + 5) = 10012) (by decide +kernel) (fun a ha h => by rw [kd_big ha] at h; cases h) a h
theorem kq_4_6 {a : Nat} (h : kd a = 4) : kd (a + 6) = 10000 + 144 := kd_r (P := fun a => kd a = 4 → kd (a + 6) = 10144) (by decide +kernel) (fun a ha h => by rw [kd_big ha] at h; cases h) a h
theorem kq_4_7 {a : Nat} (h : kd a = 4) : kd (a + 7) = 10000 + 12 := kd_r (P := fun a => kd a = 4 → kd (a + 7) = 10012) (by decide +kernel) (fun a ha h => by rw [kd_big ha] at h; cases h) a h
theorem kq_5_1 {a : Nat} (h : kd a = 5) : kd (a + 1) = 30000 + 4 := kd_r (P := fun a => kd a = 5 → kd (a + 1) = 30004) (by decide +kernel) (fun a ha h => by rw [kd_big ha] at h; cases h) a h
theorem kq_5_2 {a : Nat} (h : kd a = 5) : kd (a + 2) = 10000 + 6 := kd_r (P := fun a => kd a = 5 → kd (a + 2) = 10006) (by decide +kernel) (fun a ha h => by rw [kd_big ha] at h; cases h) a h
theorem kq_5_3 {a : Nat} (h : kd a = 5) : kd (a + 3) = 2 := kd_r (P := fun a => kd a = 5 → kd (a + 3) = 2) (by decide +kernel) (fun a ha h => by rw [kd_big ha] at h; cases h) a h
theorem kq_5_12 {a : Nat} (h : kd a = 5) : kd (a + 12) = 4 := kd_r (P := fun a => kd a = 5 → kd (a + 12) = 4) (by decide +kernel) (fun a ha h => by rw [kd_big ha] at h; cases h) a h
theorem kq_5_20 {a : Nat} (h : kd a = 5) : kd (a + 20) = 4 := kd_r (P := fun a => kd a = 5 → kd (a + 20) = 4) (by decide +kernel) (fun a ha h => by rw [kd_big ha] at h; cases h) a h
theorem kq_5_28 {a : Nat} (h : kd a = 5) : kd (a + 28) = 4 := kd_r (P := fun a => kd a = 5 → kd (a + 28) = 4) (by decide +kernel) (fun a ha h => by rw [kd_big ha] at h; cases h) a h
theorem kq_5_36 {a : Nat} (h : kd a = 5) : kd (a + 36) = 4 := kd_r (P := fun a => kd a = 5 → kd (a + 36) = 4) (by decide +kernel) (fun a ha h => by rw [kd_big ha] at h; cases h) a h
theorem kq_6_1 {a : Nat} (h : kd a = 6) : kd (a + 1) = 31000 + 8 := kd_r (P := fun a => kd a = 6 → kd (a + 1) = 31008) (by decide +kernel) (fun a ha h => by rw [kd_big ha] at h; cases h) a h
theorem kq_6_2 {a : Nat} (h : kd a = 6) : kd (a + 2) = 1 := kd_r (P := fun a => kd a = 6 → kd (a + 2) = 1) (by decide +kernel) (fun a ha h => by rw [kd_big ha] at h; cases h) a h
theorem kq_6_4 {a : Nat} (h : kd a = 6) : kd (a + 4) = 5 := kd_r (P := fun a => kd a = 6 → kd (a + 4) = 5) (by decide +kernel) (fun a ha h => by rw [kd_big ha] at h; cases h) a h
theorem kq_6_48 {a : Nat} (h : kd a = 6) : kd (a + 48) = 5 := kd_r (P := fun a => kd a = 6 → kd (a + 48) = 5) (by decide +kernel) (fun a ha h => by rw [kd_big ha] at h; cases h) a h
theorem kq_6_92 {a : Nat} (h : kd a = 6) : kd (a + 92) = 4 := kd_r (P := fun a => kd a = 6 → kd (a + 92) = 4) (by decide +kernel) (fun a ha h => by rw [kd_big ha] at h; cases h) a h
theorem kq_6_100 {a : Nat} (h : kd a = 6) : kd (a + 100) = 0 := kd_r (P := fun a => kd a = 6 → kd (a + 100) = 0) (by decide +kernel) (fun a ha h => by rw [kd_big ha] at h; cases h) a h
theorem kq_6_102 {a : Nat} (h : kd a = 6) : kd (a + 102) = 10000 + 5 := kd_r (P := fun a => kd a = 6 → kd (a + 102) = 10005) (by decide +kernel) (fun a ha h => by rw [kd_big ha] at h; cases h) a h
theorem kq_6_103 {a : Nat} (h : kd a = 6) : kd (a + 103) = 3 := kd_r (P := fun a => kd a = 6 → kd (a + 103) = 3) (by decide +kernel) (fun a ha h => by rw [kd_big ha] at h; cases h) a h
theorem kq_6_105 {a : Nat} (h : kd a = 6) : kd (a + 105) = 3 := kd_r (P := fun a => kd a = 6 → kd (a + 105) = 3) (by decide +kernel) (fun a ha h => by rw [kd_big ha] at h; cases h) a h
theorem kq_6_107 {a : Nat} (h : kd a = 6) : kd (a + 107) = 3 := kd_r (P := fun a => kd a = 6 → kd (a + 107) = 3) (by decide +kernel) (fun a ha h => by rw [kd_big ha] at h; cases h) a h
theorem kq_6_109 {a : Nat} (h : kd a = 6) : kd (a + 109) = 3 := kd_r (P := fun a => kd a = 6 → kd (a + 109) = 3) (by decide +kernel) (fun a ha h => by rw [kd_big ha] at h; cases h) a h
theorem kq_6_111 {a : Nat} (h : kd a = 6) : kd (a + 111) = 3 := kd_r (P := fun a => kd a = 6 → kd (a + 111) = 3) (by decide +kernel) (fun a ha h => by rw [kd_big ha] at h; cases h) a h
theorem kq_6_113 {a : Nat} (h : kd a = 6) : kd (a + 113) = 3 := kd_r (P := fun a => kd a = 6 → kd (a + 113) = 3) (by decide +kernel) (fun a ha h => by rw [kd_big ha] at h; cases h) a h
theorem kq_6_115 {a : Nat} (h : kd a = 6) : kd (a + 115) = 3 := kd_r (P := fun a => kd a = 6 → kd (a + 115) = 3) (by decide +kernel) (fun a ha h => by rw [kd_big ha] at h; cases h) a h
theorem kq_6_117 {a : Nat} (h : kd a = 6) : kd (a + 117) = 3 := kd_r (P := fun a => kd a = 6 → kd (a + 117) = 3) (by decide +kernel) (fun a ha h => by rw [kd_big ha] at h; cases h) a h
theorem fl0_3 {z : gZ} {k : Nat} (hk : kd k = 3) : (.inr (3, flds (gad z) M0 3 k) : va_E) = .inr (3, [.ref (gad z (k + 1)), .int (-1), .int 0, .int 0]) := by
  simp [flds, M0, hk]
set_option maxRecDepth 100000 in
set_option maxHeartbeats 4000000 in
theorem ct_X3_init (l : Launch) (z : gZ) {k : Nat} {ov : Nat → va_E} (hk : kd k = 3) (ho : ov k = .inr (3, [.null, .int 0, .int 0, .int 0])) : CtN l z yX3_init cX3_init 1 { frames := 1, cells := 1, slots := 40, locals := 12 } [.ref (gad z k)] ov (k + 1) (mkB z ov k) (k + 2) 1 40 := by
  refine CtN_of rfl (Nat.le_of_ble_eq_true rfl) ?_
  intro p e s m below meth c ls X hr hlk hname hV hS hl
  have X : gX p m c _ _ s _ RX3 z := X
  have hname : meth.name = "<init>" := hname
  have hl : lv_has ls 1 [(0, .ref (gad z k))] := hl
  have hx := X.1
  have hb := X.2.1
  have hV : gV z (U2 z ov k (.inr (3, [.null, .int 0, .int 0, .int 0])) (cellOf z M0 (k + 1))) (k + 1) s.heap := gV_ext hV (fun j hj => U2_start ho hj)
  refine lv_aload_n hx hb dX3_init_0 rfl (lv_at hl 0 rfl) ?_
  refine r_obj X ol_X3 hl.1 (Nat.le_of_ble_eq_true rfl) (Nat.le_of_ble_eq_true rfl) dX3_init_1 ?_
  refine lv_aload_n hx hb dX3_init_4 rfl (lv_at hl 0 rfl) ?_
  refine lv_bipush (v := 40) hx hb dX3_init_5 (by decide) ?_
  refine r_newJ (N := 40) X hV hS (U2_1.trans (cellM0_J (kq_3_1 hk) (Nat.le_of_ble_eq_true rfl))) (by decide) rfl (Nat.le_of_ble_eq_true rfl) (Nat.le_of_ble_eq_true rfl) (Nat.le_of_ble_eq_true rfl) dX3_init_7 (fun H hV hS => ?_)
  have hV : gV z (U2 z ov k (.inr (3, [.null, .int 0, .int 0, .int 0])) (cellOf z M0 (k + 1))) (k + 2) H := hV
  refine r_putF (ov2 := (U2 z ov k (.inr (3, [.ref (gad z (k + 1)), .int 0, .int 0, .int 0])) (cellOf z M0 (k + 1)))) (T := TX3) (N := 4) (ci := 3) (fs := [.null, .int 0, .int 0, .int 0]) (ty := (tyX3 0)) X hV hS tyX3 tyX3_ok nmX3 hname (by omega) U2_0 rfl layX3 0 (by decide) rfl fw_X3_9 rfl rfl rfl (Nat.le_of_ble_eq_true rfl) U2_0 (fun b hb => U2_e hb) dX3_init_9 (fun H locs hV hS => ?_)
  refine lv_aload_n hx hb dX3_init_12 rfl (lv_at hl 0 rfl) ?_
  refine lv_iconst (v := (-1)) hx hb dX3_init_13 (by decide) ?_
  refine r_putF (ov2 := (U2 z ov k (.inr (3, [.ref (gad z (k + 1)), .int (-1), .int 0, .int 0])) (cellOf z M0 (k + 1)))) (T := TX3) (N := 4) (ci := 3) (fs := [.ref (gad z (k + 1)), .int 0, .int 0, .int 0]) (ty := (.int)) X hV hS tyX3 tyX3_ok nmX3 hname (by omega) U2_0 rfl layX3 1 (by decide) rfl fw_X3_15 rfl rfl rfl (Nat.le_of_ble_eq_true rfl) U2_0 (fun b hb => U2_e hb) dX3_init_14 (fun H locs hV hS => ?_)
  have hV : gV z (mkB z ov k) (k + 2) H := U2_end hV (cell_O z M0 hk (by decide) |>.trans (fl0_3 hk))
  exact r_vret X hr hlk hV hS dX3_init_17
theorem fl0_1 {z : gZ} {k : Nat} (hk : kd k = 1) : (.inr (1, flds (gad z) M0 1 k) : va_E) = .inr (1, [.ref (gad z (k + 1)), .int 0, .int 0, .int 0, .int 0, .int 0]) := by
  simp [flds, M0, hk]
set_option maxRecDepth 100000 in
set_option maxHeartbeats 4000000 in
theorem ct_X1_init (l : Launch) (z : gZ) {k : Nat} {ov : Nat → va_E} (hk : kd k = 1) (ho : ov k = .inr (1, [.null, .int 0, .int 0, .int 0, .int 0, .int 0])) : CtN l z yX1_init cX1_init 1 { frames := 1, cells := 1, slots := 160, locals := 12 } [.ref (gad z k)] ov (k + 1) (mkB z ov k) (k + 2) 1 160 := by
  refine CtN_of rfl (Nat.le_of_ble_eq_true rfl) ?_
  intro p e s m below meth c ls X hr hlk hname hV hS hl
  have X : gX p m c _ _ s _ RX1 z := X
  have hname : meth.name = "<init>" := hname
  have hl : lv_has ls 1 [(0, .ref (gad z k))] := hl
  have hx := X.1
  have hb := X.2.1
  have hV : gV z (U2 z ov k (.inr (1, [.null, .int 0, .int 0, .int 0, .int 0, .int 0])) (cellOf z M0 (k + 1))) (k + 1) s.heap := gV_ext hV (fun j hj => U2_start ho hj)
  refine lv_aload_n hx hb dX1_init_0 rfl (lv_at hl 0 rfl) ?_
  refine r_obj X ol_X1 hl.1 (Nat.le_of_ble_eq_true rfl) (Nat.le_of_ble_eq_true rfl) dX1_init_1 ?_
  refine lv_aload_n hx hb dX1_init_4 rfl (lv_at hl 0 rfl) ?_
  refine lv_sipush (v := 160) hx hb dX1_init_5 (by decide) ?_
  refine r_newI (N := 160) X hV hS (U2_1.trans (cellM0_I (kq_1_1 hk) (Nat.le_of_ble_eq_true rfl))) (by decide) rfl (Nat.le_of_ble_eq_true rfl) (Nat.le_of_ble_eq_true rfl) (Nat.le_of_ble_eq_true rfl) dX1_init_8 (fun H hV hS => ?_)
  have hV : gV z (U2 z ov k (.inr (1, [.null, .int 0, .int 0, .int 0, .int 0, .int 0])) (cellOf z M0 (k + 1))) (k + 2) H := hV
  refine r_putF (ov2 := (U2 z ov k (.inr (1, [.ref (gad z (k + 1)), .int 0, .int 0, .int 0, .int 0, .int 0])) (cellOf z M0 (k + 1)))) (T := TX1) (N := 6) (ci := 1) (fs := [.null, .int 0, .int 0, .int 0, .int 0, .int 0]) (ty := (tyX1 0)) X hV hS tyX1 tyX1_ok nmX1 hname (by omega) U2_0 rfl layX1 0 (by decide) rfl fw_X1_9 rfl rfl rfl (Nat.le_of_ble_eq_true rfl) U2_0 (fun b hb => U2_e hb) dX1_init_10 (fun H locs hV hS => ?_)
  have hV : gV z (mkB z ov k) (k + 2) H := U2_end hV (cell_O z M0 hk (by decide) |>.trans (fl0_1 hk))
  exact r_vret X hr hlk hV hS dX1_init_13
theorem fl0_0 {z : gZ} {k : Nat} (hk : kd k = 0) : (.inr (0, flds (gad z) M0 0 k) : va_E) = .inr (0, [.ref (gad z (k + 1)), .int 0, .int 0, .int 0]) := by
  simp [flds, M0, hk]
set_option maxRecDepth 100000 in
set_option maxHeartbeats 4000000 in
theorem ct_X0_init (l : Launch) (z : gZ) {k : Nat} {ov : Nat → va_E} (hk : kd k = 0) (ho : ov k = .inr (0, [.null, .int 0, .int 0, .int 0])) : CtN l z yX0_init cX0_init 1 { frames := 1, cells := 1, slots := 64, locals := 12 } [.ref (gad z k)] ov (k + 1) (mkB z ov k) (k + 2) 1 64 := by
  refine CtN_of rfl (Nat.le_of_ble_eq_true rfl) ?_
  intro p e s m below meth c ls X hr hlk hname hV hS hl
  have X : gX p m c _ _ s _ RX0 z := X
  have hname : meth.name = "<init>" := hname
  have hl : lv_has ls 1 [(0, .ref (gad z k))] := hl
  have hx := X.1
  have hb := X.2.1
  have hV : gV z (U2 z ov k (.inr (0, [.null, .int 0, .int 0, .int 0])) (cellOf z M0 (k + 1))) (k + 1) s.heap := gV_ext hV (fun j hj => U2_start ho hj)
  refine lv_aload_n hx hb dX0_init_0 rfl (lv_at hl 0 rfl) ?_
  refine r_obj X ol_X0 hl.1 (Nat.le_of_ble_eq_true rfl) (Nat.le_of_ble_eq_true rfl) dX0_init_1 ?_
  refine lv_aload_n hx hb dX0_init_4 rfl (lv_at hl 0 rfl) ?_
  refine lv_bipush (v := 64) hx hb dX0_init_5 (by decide) ?_
  refine r_newJ (N := 64) X hV hS (U2_1.trans (cellM0_J (kq_0_1 hk) (Nat.le_of_ble_eq_true rfl))) (by decide) rfl (Nat.le_of_ble_eq_true rfl) (Nat.le_of_ble_eq_true rfl) (Nat.le_of_ble_eq_true rfl) dX0_init_7 (fun H hV hS => ?_)
  have hV : gV z (U2 z ov k (.inr (0, [.null, .int 0, .int 0, .int 0])) (cellOf z M0 (k + 1))) (k + 2) H := hV
  refine r_putF (ov2 := (U2 z ov k (.inr (0, [.ref (gad z (k + 1)), .int 0, .int 0, .int 0])) (cellOf z M0 (k + 1)))) (T := TX0) (N := 4) (ci := 0) (fs := [.null, .int 0, .int 0, .int 0]) (ty := (tyX0 0)) X hV hS tyX0 tyX0_ok nmX0 hname (by omega) U2_0 rfl layX0 0 (by decide) rfl fw_X0_11 rfl rfl rfl (Nat.le_of_ble_eq_true rfl) U2_0 (fun b hb => U2_e hb) dX0_init_9 (fun H locs hV hS => ?_)
  have hV : gV z (mkB z ov k) (k + 2) H := U2_end hV (cell_O z M0 hk (by decide) |>.trans (fl0_0 hk))
  exact r_vret X hr hlk hV hS dX0_init_12
theorem fl0_4 {z : gZ} {k : Nat} (hk : kd k = 4) : (.inr (4, flds (gad z) M0 4 k) : va_E) = .inr (4, [.ref (gad z (k + 1)), .ref (gad z (k + 2)), .ref (gad z (k + 3)), .ref (gad z (k + 4)), .ref (gad z (k + 5)), .ref (gad z (k + 6)), .ref (gad z (k + 7)), .int 0, .int 0, .int 0]) := by
  simp [flds, M0, hk]
set_option maxRecDepth 100000 in
set_option maxHeartbeats 4000000 in
theorem ct_X4_init (l : Launch) (z : gZ) {k : Nat} {ov : Nat → va_E} (hk : kd k = 4) (ho : ov k = .inr (4, [.null, .null, .null, .null, .null, .null, .null, .int 0, .int 0, .int 0])) : CtN l z yX4_init cX4_init 1 { frames := 1, cells := 7, slots := 216, locals := 12 } [.ref (gad z k)] ov (k + 1) (mkB z ov k) (k + 8) 7 216 := by
  refine CtN_of rfl (Nat.le_of_ble_eq_true rfl) ?_
  intro p e s m below meth c ls X hr hlk hname hV hS hl
  have X : gX p m c _ _ s _ RX4 z := X
  have hname : meth.name = "<init>" := hname
  have hl : lv_has ls 1 [(0, .ref (gad z k))] := hl
  have hx := X.1
  have hb := X.2.1
  have hV : gV z (U2 z ov k (.inr (4, [.null, .null, .null, .null, .null, .null, .null, .int 0, .int 0, .int 0])) (cellOf z M0 (k + 1))) (k + 1) s.heap := gV_ext hV (fun j hj => U2_start ho hj)
  refine lv_aload_n hx hb dX4_init_0 rfl (lv_at hl 0 rfl) ?_
  refine r_obj X ol_X4 hl.1 (Nat.le_of_ble_eq_true rfl) (Nat.le_of_ble_eq_true rfl) dX4_init_1 ?_
  refine lv_aload_n hx hb dX4_init_4 rfl (lv_at hl 0 rfl) ?_
  refine lv_bipush (v := 12) hx hb dX4_init_5 (by decide) ?_
  refine r_newI (N := 12) X hV hS (U2_1.trans (cellM0_I (kq_4_1 hk) (Nat.le_of_ble_eq_true rfl))) (by decide) rfl (Nat.le_of_ble_eq_true rfl) (Nat.le_of_ble_eq_true rfl) (Nat.le_of_ble_eq_true rfl) dX4_init_7 (fun H hV hS => ?_)
  have hV : gV z (U2 z ov k (.inr (4, [.null, .null, .null, .null, .null, .null, .null, .int 0, .int 0, .int 0])) (cellOf z M0 (k + 1))) (k + 2) H := hV
  refine r_putF (ov2 := (U2 z ov k (.inr (4, [.ref (gad z (k + 1)), .null, .null, .null, .null, .null, .null, .int 0, .int 0, .int 0])) (cellOf z M0 (k + 1)))) (T := TX4) (N := 10) (ci := 4) (fs := [.null, .null, .null, .null, .null, .null, .null, .int 0, .int 0, .int 0]) (ty := (tyX4 0)) X hV hS tyX4 tyX4_ok nmX4 hname (by omega) U2_0 rfl layX4 0 (by decide) rfl fw_X4_9 rfl rfl rfl (Nat.le_of_ble_eq_true rfl) U2_0 (fun b hb => U2_e hb) dX4_init_9 (fun H locs hV hS => ?_)
  refine lv_aload_n hx hb dX4_init_12 rfl (lv_at hl 0 rfl) ?_
  refine lv_bipush (v := 12) hx hb dX4_init_13 (by decide) ?_
  refine r_newI (N := 12) X hV hS ((U2_n (by omega)).trans (cellM0_I (kq_4_2 hk) (Nat.le_of_ble_eq_true rfl))) (by decide) rfl (Nat.le_of_ble_eq_true rfl) (Nat.le_of_ble_eq_true rfl) (Nat.le_of_ble_eq_true rfl) dX4_init_15 (fun H hV hS => ?_)
  have hV : gV z (U2 z ov k (.inr (4, [.ref (gad z (k + 1)), .null, .null, .null, .null, .null, .null, .int 0, .int 0, .int 0])) (cellOf z M0 (k + 1))) (k + 3) H := hV
  refine r_putF (ov2 := (U2 z ov k (.inr (4, [.ref (gad z (k + 1)), .ref (gad z (k + 2)), .null, .null, .null, .null, .null, .int 0, .int 0, .int 0])) (cellOf z M0 (k + 1)))) (T := TX4) (N := 10) (ci := 4) (fs := [.ref (gad z (k + 1)), .null, .null, .null, .null, .null, .null, .int 0, .int 0, .int 0]) (ty := (tyX4 1)) X hV hS tyX4 tyX4_ok nmX4 hname (by omega) U2_0 rfl layX4 1 (by decide) rfl fw_X4_15 rfl rfl rfl (Nat.le_of_ble_eq_true rfl) U2_0 (fun b hb => U2_e hb) dX4_init_17 (fun H locs hV hS => ?_)
  refine lv_aload_n hx hb dX4_init_20 rfl (lv_at hl 0 rfl) ?_
  refine lv_bipush (v := 12) hx hb dX4_init_21 (by decide) ?_
  refine r_newI (N := 12) X hV hS ((U2_n (by omega)).trans (cellM0_I (kq_4_3 hk) (Nat.le_of_ble_eq_true rfl))) (by decide) rfl (Nat.le_of_ble_eq_true rfl) (Nat.le_of_ble_eq_true rfl) (Nat.le_of_ble_eq_true rfl) dX4_init_23 (fun H hV hS => ?_)
  have hV : gV z (U2 z ov k (.inr (4, [.ref (gad z (k + 1)), .ref (gad z (k + 2)), .null, .null, .null, .null, .null, .int 0, .int 0, .int 0])) (cellOf z M0 (k + 1))) (k + 4) H := hV
  refine r_putF (ov2 := (U2 z ov k (.inr (4, [.ref (gad z (k + 1)), .ref (gad z (k + 2)), .ref (gad z (k + 3)), .null, .null, .null, .null, .int 0, .int 0, .int 0])) (cellOf z M0 (k + 1)))) (T := TX4) (N := 10) (ci := 4) (fs := [.ref (gad z (k + 1)), .ref (gad z (k + 2)), .null, .null, .null, .null, .null, .int 0, .int 0, .int 0]) (ty := (tyX4 2)) X hV hS tyX4 tyX4_ok nmX4 hname (by omega) U2_0 rfl layX4 2 (by decide) rfl fw_X4_18 rfl rfl rfl (Nat.le_of_ble_eq_true rfl) U2_0 (fun b hb => U2_e hb) dX4_init_25 (fun H locs hV hS => ?_)
  refine lv_aload_n hx hb dX4_init_28 rfl (lv_at hl 0 rfl) ?_
  refine lv_bipush (v := 12) hx hb dX4_init_29 (by decide) ?_
  refine r_newI (N := 12) X hV hS ((U2_n (by omega)).trans (cellM0_I (kq_4_4 hk) (Nat.le_of_ble_eq_true rfl))) (by decide) rfl (Nat.le_of_ble_eq_true rfl) (Nat.le_of_ble_eq_true rfl) (Nat.le_of_ble_eq_true rfl) dX4_init_31 (fun H hV hS => ?_)
  have hV : gV z (U2 z ov k (.inr (4, [.ref (gad z (k + 1)), .ref (gad z (k + 2)), .ref (gad z (k + 3)), .null, .null, .null, .null, .int 0, .int 0, .int 0])) (cellOf z M0 (k + 1))) (k + 5) H := hV
  refine r_putF (ov2 := (U2 z ov k (.inr (4, [.ref (gad z (k + 1)), .ref (gad z (k + 2)), .ref (gad z (k + 3)), .ref (gad z (k + 4)), .null, .null, .null, .int 0, .int 0, .int 0])) (cellOf z M0 (k + 1)))) (T := TX4) (N := 10) (ci := 4) (fs := [.ref (gad z (k + 1)), .ref (gad z (k + 2)), .ref (gad z (k + 3)), .null, .null, .null, .null, .int 0, .int 0, .int 0]) (ty := (tyX4 3)) X hV hS tyX4 tyX4_ok nmX4 hname (by omega) U2_0 rfl layX4 3 (by decide) rfl fw_X4_21 rfl rfl rfl (Nat.le_of_ble_eq_true rfl) U2_0 (fun b hb => U2_e hb) dX4_init_33 (fun H locs hV hS => ?_)
  refine lv_aload_n hx hb dX4_init_36 rfl (lv_at hl 0 rfl) ?_
  refine lv_bipush (v := 12) hx hb dX4_init_37 (by decide) ?_
  refine r_newI (N := 12) X hV hS ((U2_n (by omega)).trans (cellM0_I (kq_4_5 hk) (Nat.le_of_ble_eq_true rfl))) (by decide) rfl (Nat.le_of_ble_eq_true rfl) (Nat.le_of_ble_eq_true rfl) (Nat.le_of_ble_eq_true rfl) dX4_init_39 (fun H hV hS => ?_)
  have hV : gV z (U2 z ov k (.inr (4, [.ref (gad z (k + 1)), .ref (gad z (k + 2)), .ref (gad z (k + 3)), .ref (gad z (k + 4)), .null, .null, .null, .int 0, .int 0, .int 0])) (cellOf z M0 (k + 1))) (k + 6) H := hV
  refine r_putF (ov2 := (U2 z ov k (.inr (4, [.ref (gad z (k + 1)), .ref (gad z (k + 2)), .ref (gad z (k + 3)), .ref (gad z (k + 4)), .ref (gad z (k + 5)), .null, .null, .int 0, .int 0, .int 0])) (cellOf z M0 (k + 1)))) (T := TX4) (N := 10) (ci := 4) (fs := [.ref (gad z (k + 1)), .ref (gad z (k + 2)), .ref (gad z (k + 3)), .ref (gad z (k + 4)), .null, .null, .null, .int 0, .int 0, .int 0]) (ty := (tyX4 4)) X hV hS tyX4 tyX4_ok nmX4 hname (by omega) U2_0 rfl layX4 4 (by decide) rfl fw_X4_24 rfl rfl rfl (Nat.le_of_ble_eq_true rfl) U2_0 (fun b hb => U2_e hb) dX4_init_41 (fun H locs hV hS => ?_)
  refine lv_aload_n hx hb dX4_init_44 rfl (lv_at hl 0 rfl) ?_
  refine lv_sipush (v := 144) hx hb dX4_init_45 (by decide) ?_
  refine r_newI (N := 144) X hV hS ((U2_n (by omega)).trans (cellM0_I (kq_4_6 hk) (Nat.le_of_ble_eq_true rfl))) (by decide) rfl (Nat.le_of_ble_eq_true rfl) (Nat.le_of_ble_eq_true rfl) (Nat.le_of_ble_eq_true rfl) dX4_init_48 (fun H hV hS => ?_)
  have hV : gV z (U2 z ov k (.inr (4, [.ref (gad z (k + 1)), .ref (gad z (k + 2)), .ref (gad z (k + 3)), .ref (gad z (k + 4)), .ref (gad z (k + 5)), .null, .null, .int 0, .int 0, .int 0])) (cellOf z M0 (k + 1))) (k + 7) H := hV
  refine r_putF (ov2 := (U2 z ov k (.inr (4, [.ref (gad z (k + 1)), .ref (gad z (k + 2)), .ref (gad z (k + 3)), .ref (gad z (k + 4)), .ref (gad z (k + 5)), .ref (gad z (k + 6)), .null, .int 0, .int 0, .int 0])) (cellOf z M0 (k + 1)))) (T := TX4) (N := 10) (ci := 4) (fs := [.ref (gad z (k + 1)), .ref (gad z (k + 2)), .ref (gad z (k + 3)), .ref (gad z (k + 4)), .ref (gad z (k + 5)), .null, .null, .int 0, .int 0, .int 0]) (ty := (tyX4 5)) X hV hS tyX4 tyX4_ok nmX4 hname (by omega) U2_0 rfl layX4 5 (by decide) rfl fw_X4_27 rfl rfl rfl (Nat.le_of_ble_eq_true rfl) U2_0 (fun b hb => U2_e hb) dX4_init_50 (fun H locs hV hS => ?_)
  refine lv_aload_n hx hb dX4_init_53 rfl (lv_at hl 0 rfl) ?_
  refine lv_bipush (v := 12) hx hb dX4_init_54 (by decide) ?_
  refine r_newI (N := 12) X hV hS ((U2_n (by omega)).trans (cellM0_I (kq_4_7 hk) (Nat.le_of_ble_eq_true rfl))) (by decide) rfl (Nat.le_of_ble_eq_true rfl) (Nat.le_of_ble_eq_true rfl) (Nat.le_of_ble_eq_true rfl) dX4_init_56 (fun H hV hS => ?_)
  have hV : gV z (U2 z ov k (.inr (4, [.ref (gad z (k + 1)), .ref (gad z (k + 2)), .ref (gad z (k + 3)), .ref (gad z (k + 4)), .ref (gad z (k + 5)), .ref (gad z (k + 6)), .null, .int 0, .int 0, .int 0])) (cellOf z M0 (k + 1))) (k + 8) H := hV
  refine r_putF (ov2 := (U2 z ov k (.inr (4, [.ref (gad z (k + 1)), .ref (gad z (k + 2)), .ref (gad z (k + 3)), .ref (gad z (k + 4)), .ref (gad z (k + 5)), .ref (gad z (k + 6)), .ref (gad z (k + 7)), .int 0, .int 0, .int 0])) (cellOf z M0 (k + 1)))) (T := TX4) (N := 10) (ci := 4) (fs := [.ref (gad z (k + 1)), .ref (gad z (k + 2)), .ref (gad z (k + 3)), .ref (gad z (k + 4)), .ref (gad z (k + 5)), .ref (gad z (k + 6)), .null, .int 0, .int 0, .int 0]) (ty := (tyX4 6)) X hV hS tyX4 tyX4_ok nmX4 hname (by omega) U2_0 rfl layX4 6 (by decide) rfl fw_X4_30 rfl rfl rfl (Nat.le_of_ble_eq_true rfl) U2_0 (fun b hb => U2_e hb) dX4_init_58 (fun H locs hV hS => ?_)
  have hV : gV z (mkB z ov k) (k + 8) H := U2_end hV (cell_O z M0 hk (by decide) |>.trans (fl0_4 hk))
  exact r_vret X hr hlk hV hS dX4_init_61
theorem fl0_2 {z : gZ} {k : Nat} (hk : kd k = 2) : (.inr (2, flds (gad z) M0 2 k) : va_E) = .inr (2, [.ref (gad z (k + 1)), .int 0, .int 0, .int 0, .int 0, .int 0]) := by
  simp [flds, M0, hk]
set_option maxRecDepth 100000 in
set_option maxHeartbeats 4000000 in
theorem ct_X2_init (l : Launch) (z : gZ) {k : Nat} {ov : Nat → va_E} (hk : kd k = 2) (ho : ov k = .inr (2, [.null, .int 0, .int 0, .int 0, .int 0, .int 0])) : CtN l z yX2_init cX2_init 1 { frames := 2, cells := 8, slots := 226, locals := 32 } [.ref (gad z k)] ov (k + 1) (mkB z ov k) (k + 9) 8 226 := by
  refine CtN_of rfl (Nat.le_of_ble_eq_true rfl) ?_
  intro p e s m below meth c ls X hr hlk hname hV hS hl
  have X : gX p m c _ _ s _ RX2 z := X
  have hname : meth.name = "<init>" := hname
  have hl : lv_has ls 1 [(0, .ref (gad z k))] := hl
  have hx := X.1
  have hb := X.2.1
  have hV : gV z (U2 z ov k (.inr (2, [.null, .int 0, .int 0, .int 0, .int 0, .int 0])) (cellOf z M0 (k + 1))) (k + 1) s.heap := gV_ext hV (fun j hj => U2_start ho hj)
  refine lv_aload_n hx hb dX2_init_0 rfl (lv_at hl 0 rfl) ?_
  refine r_obj X ol_X2 hl.1 (Nat.le_of_ble_eq_true rfl) (Nat.le_of_ble_eq_true rfl) dX2_init_1 ?_
  refine lv_aload_n hx hb dX2_init_4 rfl (lv_at hl 0 rfl) ?_
  have hV : gV z (va_up (U2 z ov k (.inr (2, [.null, .int 0, .int 0, .int 0, .int 0, .int 0])) (cellOf z M0 (k + 1))) (k + 1) (.inr (4, [.null, .null, .null, .null, .null, .null, .null, .int 0, .int 0, .int 0]))) (k + 1) _ := gV_ext hV (fun j hj => va_up_ne _ _ (by omega))
  refine r_new (T := TX4) (N := 10) (ci := 4) (fs := [.null, .null, .null, .null, .null, .null, .null, .int 0, .int 0, .int 0]) X hV hS tyX4 tyX4_ok rfl layX4 cl_X2_9 in_X4 ii_X4 (va_up_self _ _ _) (fun j hj => dv_4 j hj) (Nat.le_of_ble_eq_true rfl) (Nat.le_of_ble_eq_true rfl) dX2_init_5 (fun H hV hS => ?_)
  refine lv_dup hx hb dX2_init_8 rfl ?_
  refine r_cI (av := []) (rest := [.ref (gad z (k + 1)), .ref (gad z k)]) X hV hS (ct_X4_init l z (k := (k + 1)) (ov := va_up (U2 z ov k (.inr (2, [.null, .int 0, .int 0, .int 0, .int 0, .int 0])) (cellOf z M0 (k + 1))) (k + 1) (.inr (4, [.null, .null, .null, .null, .null, .null, .null, .int 0, .int 0, .int 0]))) (kq_2_1 hk) (va_up_self _ _ _)) mi_X4_init mj_X4_init rfl ml_X2_11 rfl ⟨rfl, rfl, Nat.le_of_ble_eq_true rfl, Nat.le_of_ble_eq_true rfl⟩ ⟨Nat.le_of_ble_eq_true rfl, Nat.le_of_ble_eq_true rfl⟩ hl.1 (Nat.le_of_ble_eq_true rfl) rfl dX2_init_9 (fun H locs hV hS => ?_)
  have hV : gV z (U2 z ov k (.inr (2, [.null, .int 0, .int 0, .int 0, .int 0, .int 0])) (cellOf z M0 (k + 1))) (k + 9) H := gV_ext hV (fun j _ => U2_back (Or.inl ⟨rfl, Nat.lt_succ_self _⟩) j)
  refine r_putF (ov2 := (U2 z ov k (.inr (2, [.ref (gad z (k + 1)), .int 0, .int 0, .int 0, .int 0, .int 0])) (cellOf z M0 (k + 1)))) (T := TX2) (N := 6) (ci := 2) (fs := [.null, .int 0, .int 0, .int 0, .int 0, .int 0]) (ty := (tyX2 0)) X hV hS tyX2 tyX2_ok nmX2 hname (by omega) U2_0 rfl layX2 0 (by decide) rfl fw_X2_12 rfl rfl rfl (Nat.le_of_ble_eq_true rfl) U2_0 (fun b hb => U2_e hb) dX2_init_12 (fun H locs hV hS => ?_)
  have hV : gV z (mkB z ov k) (k + 9) H := U2_end hV (cell_O z M0 hk (by decide) |>.trans (fl0_2 hk))
  exact r_vret X hr hlk hV hS dX2_init_15
theorem fl0_5 {z : gZ} {k : Nat} (hk : kd k = 5) : (.inr (5, flds (gad z) M0 5 k) : va_E) = .inr (5, [.ref (gad z (k + 1)), .ref (gad z (k + 2)), .ref (gad z (k + 3)), .int 0, .int 1]) := by
  simp [flds, M0, hk]
theorem ra_5 {z : gZ} {k : Nat} : ∀ i, i < 4 → (va_up (va_up (va_up (va_up (fun _ => none) ((0 : Int32).toNatClampNeg) (some (gad z (k + 12)))) ((1 : Int32).toNatClampNeg) (some (gad z (k + 20)))) ((2 : Int32).toNatClampNeg) (some (gad z (k + 28)))) ((3 : Int32).toNatClampNeg) (some (gad z (k + 36)))) i = some (gad z (k + 1 + 11 + 8 * i)) := by
  intro i hi
  match i, hi with
  | 0, _ => rfl
  | 1, _ => rfl
  | 2, _ => rfl
  | 3, _ => rfl
set_option maxRecDepth 100000 in
set_option maxHeartbeats 4000000 in
theorem ct_X5_init (l : Launch) (z : gZ) {k : Nat} {ov : Nat → va_E} (hk : kd k = 5) (ho : ov k = .inr (5, [.null, .null, .null, .int 0, .int 0])) : CtN l z yX5_init cX5_init 2 { frames := 3, cells := 43, slots := 1146, locals := 52 } [.ref (gad z k)] ov (k + 1) (mkB z ov k) (k + 44) 43 1146 := by
  refine CtN_of rfl (Nat.le_of_ble_eq_true rfl) ?_
  intro p e s m below meth c ls X hr hlk hname hV hS hl
  have X : gX p m c _ _ s _ RX5 z := X
  have hname : meth.name = "<init>" := hname
  have hl : lv_has ls 2 [(0, .ref (gad z k))] := hl
  have hx := X.1
  have hb := X.2.1
  have hV : gV z (U2 z ov k (.inr (5, [.null, .null, .null, .int 0, .int 0])) (.inl (gca z 2, 4, .inr (.inr (.inr (.inr (fun _ => none))))))) (k + 1) s.heap := gV_ext hV (fun j hj => U2_start ho hj)
  refine lv_aload_n hx hb dX5_init_0 rfl (lv_at hl 0 rfl) ?_
  refine r_obj X ol_X5 hl.1 (Nat.le_of_ble_eq_true rfl) (Nat.le_of_ble_eq_true rfl) dX5_init_1 ?_
  refine lv_aload_n hx hb dX5_init_4 rfl (lv_at hl 0 rfl) ?_
  refine lv_iconst (v := 4) hx hb dX5_init_5 (by decide) ?_
  refine r_newR (N := 4) (t0 := 2) X hV hS rfl (gX_ao X (.object RX4) (by decide)) cl_X5_9 U2_1 (by decide) rfl (Nat.le_of_ble_eq_true rfl) (Nat.le_of_ble_eq_true rfl) (Nat.le_of_ble_eq_true rfl) dX5_init_6 (fun H hV hS => ?_)
  have hV : gV z (U2 z ov k (.inr (5, [.null, .null, .null, .int 0, .int 0])) (.inl (gca z 2, 4, .inr (.inr (.inr (.inr (fun _ => none))))))) (k + 2) H := hV
  refine r_putF (ov2 := (U2 z ov k (.inr (5, [.ref (gad z (k + 1)), .null, .null, .int 0, .int 0])) (.inl (gca z 2, 4, .inr (.inr (.inr (.inr (fun _ => none)))))))) (T := TX5) (N := 5) (ci := 5) (fs := [.null, .null, .null, .int 0, .int 0]) (ty := (tyX5 0)) X hV hS tyX5 tyX5_ok nmX5 hname (by omega) U2_0 rfl layX5 0 (by decide) rfl fw_X5_11 rfl rfl rfl (Nat.le_of_ble_eq_true rfl) U2_0 (fun b hb => U2_e hb) dX5_init_9 (fun H locs hV hS => ?_)
  refine lv_aload_n hx hb dX5_init_12 rfl (lv_at hl 0 rfl) ?_
  refine lv_bipush (v := 6) hx hb dX5_init_13 (by decide) ?_
  refine r_newI (N := 6) X hV hS ((U2_n (by omega)).trans (cellM0_I (kq_5_2 hk) (Nat.le_of_ble_eq_true rfl))) (by decide) rfl (Nat.le_of_ble_eq_true rfl) (Nat.le_of_ble_eq_true rfl) (Nat.le_of_ble_eq_true rfl) dX5_init_15 (fun H hV hS => ?_)
  have hV : gV z (U2 z ov k (.inr (5, [.ref (gad z (k + 1)), .null, .null, .int 0, .int 0])) (.inl (gca z 2, 4, .inr (.inr (.inr (.inr (fun _ => none))))))) (k + 3) H := hV
  refine r_putF (ov2 := (U2 z ov k (.inr (5, [.ref (gad z (k + 1)), .ref (gad z (k + 2)), .null, .int 0, .int 0])) (.inl (gca z 2, 4, .inr (.inr (.inr (.inr (fun _ => none)))))))) (T := TX5) (N := 5) (ci := 5) (fs := [.ref (gad z (k + 1)), .null, .null, .int 0, .int 0]) (ty := (tyX5 1)) X hV hS tyX5 tyX5_ok nmX5 hname (by omega) U2_0 rfl layX5 1 (by decide) rfl fw_X5_17 rfl rfl rfl (Nat.le_of_ble_eq_true rfl) U2_0 (fun b hb => U2_e hb) dX5_init_17 (fun H locs hV hS => ?_)
  refine lv_aload_n hx hb dX5_init_20 rfl (lv_at hl 0 rfl) ?_
  have hV : gV z (va_up (U2 z ov k (.inr (5, [.ref (gad z (k + 1)), .ref (gad z (k + 2)), .null, .int 0, .int 0])) (.inl (gca z 2, 4, .inr (.inr (.inr (.inr (fun _ => none))))))) (k + 3) (.inr (2, [.null, .int 0, .int 0, .int 0, .int 0, .int 0]))) (k + 3) _ := gV_ext hV (fun j hj => va_up_ne _ _ (by omega))
  refine r_new (T := TX2) (N := 6) (ci := 2) (fs := [.null, .int 0, .int 0, .int 0, .int 0, .int 0]) X hV hS tyX2 tyX2_ok rfl layX2 cl_X5_21 in_X2 ii_X2 (va_up_self _ _ _) (fun j hj => dv_2 j hj) (Nat.le_of_ble_eq_true rfl) (Nat.le_of_ble_eq_true rfl) dX5_init_21 (fun H hV hS => ?_)
  refine lv_dup hx hb dX5_init_24 rfl ?_
  refine r_cI (av := []) (rest := [.ref (gad z (k + 3)), .ref (gad z k)]) X hV hS (ct_X2_init l z (k := (k + 3)) (ov := va_up (U2 z ov k (.inr (5, [.ref (gad z (k + 1)), .ref (gad z (k + 2)), .null, .int 0, .int 0])) (.inl (gca z 2, 4, .inr (.inr (.inr (.inr (fun _ => none))))))) (k + 3) (.inr (2, [.null, .int 0, .int 0, .int 0, .int 0, .int 0]))) (kq_5_3 hk) (va_up_self _ _ _)) mi_X2_init mj_X2_init rfl ml_X5_23 rfl ⟨rfl, rfl, Nat.le_of_ble_eq_true rfl, Nat.le_of_ble_eq_true rfl⟩ ⟨Nat.le_of_ble_eq_true rfl, Nat.le_of_ble_eq_true rfl⟩ hl.1 (Nat.le_of_ble_eq_true rfl) rfl dX5_init_25 (fun H locs hV hS => ?_)
  have hV : gV z (U2 z ov k (.inr (5, [.ref (gad z (k + 1)), .ref (gad z (k + 2)), .null, .int 0, .int 0])) (.inl (gca z 2, 4, .inr (.inr (.inr (.inr (fun _ => none))))))) (k + 12) H := gV_ext hV (fun j _ => U2_back (Or.inr (by omega)) j)
  refine r_putF (ov2 := (U2 z ov k (.inr (5, [.ref (gad z (k + 1)), .ref (gad z (k + 2)), .ref (gad z (k + 3)), .int 0, .int 0])) (.inl (gca z 2, 4, .inr (.inr (.inr (.inr (fun _ => none)))))))) (T := TX5) (N := 5) (ci := 5) (fs := [.ref (gad z (k + 1)), .ref (gad z (k + 2)), .null, .int 0, .int 0]) (ty := (tyX5 2)) X hV hS tyX5 tyX5_ok nmX5 hname (by omega) U2_0 rfl layX5 2 (by decide) rfl fw_X5_24 rfl rfl rfl (Nat.le_of_ble_eq_true rfl) U2_0 (fun b hb => U2_e hb) dX5_init_28 (fun H locs hV hS => ?_)
  refine lv_aload_n hx hb dX5_init_31 rfl (lv_at hl 0 rfl) ?_
  refine lv_iconst (v := 1) hx hb dX5_init_32 (by decide) ?_
  refine r_putF (ov2 := (U2 z ov k (.inr (5, [.ref (gad z (k + 1)), .ref (gad z (k + 2)), .ref (gad z (k + 3)), .int 0, .int 1])) (.inl (gca z 2, 4, .inr (.inr (.inr (.inr (fun _ => none)))))))) (T := TX5) (N := 5) (ci := 5) (fs := [.ref (gad z (k + 1)), .ref (gad z (k + 2)), .ref (gad z (k + 3)), .int 0, .int 0]) (ty := (.int)) X hV hS tyX5 tyX5_ok nmX5 hname (by omega) U2_0 rfl layX5 4 (by decide) rfl fw_X5_28 rfl rfl rfl (Nat.le_of_ble_eq_true rfl) U2_0 (fun b hb => U2_e hb) dX5_init_33 (fun H locs hV hS => ?_)
  refine lv_iconst (v := 0) hx hb dX5_init_36 (by decide) ?_
  refine lv_istore_n (lv' := [(1, .int 0), (0, .ref (gad z k))]) hx hb dX5_init_37 rfl hl (by decide) rfl (fun ls hl => ?_)
  refine lv_iload_n hx hb dX5_init_38 rfl (lv_at hl 0 rfl) ?_
  refine lv_iconst (v := 4) hx hb dX5_init_39 (by decide) ?_
  refine lv_icmp_ge (tgt := 62) hx hb dX5_init_40 (by decide) (fun q => absurd q (by decide)) (fun _ => ?_)
  refine lv_aload_n hx hb dX5_init_43 rfl (lv_at hl 1 rfl) ?_
  refine r_get (T := TX5) (N := 5) (ci := 5) (fs := [.ref (gad z (k + 1)), .ref (gad z (k + 2)), .ref (gad z (k + 3)), .int 0, .int 1]) X hV (by omega) U2_0 rfl layX5 0 (by decide) rfl fw_X5_11 rfl dX5_init_44 ?_
  refine lv_iload_n hx hb dX5_init_47 rfl (lv_at hl 0 rfl) ?_
  have hV : gV z (va_up (U2 z ov k (.inr (5, [.ref (gad z (k + 1)), .ref (gad z (k + 2)), .ref (gad z (k + 3)), .int 0, .int 1])) (.inl (gca z 2, 4, .inr (.inr (.inr (.inr (fun _ => none))))))) (k + 12) (.inr (4, [.null, .null, .null, .null, .null, .null, .null, .int 0, .int 0, .int 0]))) (k + 12) _ := gV_ext hV (fun j hj => va_up_ne _ _ (by omega))
  refine r_new (T := TX4) (N := 10) (ci := 4) (fs := [.null, .null, .null, .null, .null, .null, .null, .int 0, .int 0, .int 0]) X hV hS tyX4 tyX4_ok rfl layX4 cl_X5_9 in_X4 ii_X4 (va_up_self _ _ _) (fun j hj => dv_4 j hj) (Nat.le_of_ble_eq_true rfl) (Nat.le_of_ble_eq_true rfl) dX5_init_48 (fun H hV hS => ?_)
  refine lv_dup hx hb dX5_init_51 rfl ?_
  refine r_cI (av := []) (rest := [.ref (gad z (k + 12)), .int 0, .ref (gad z (k + 1))]) X hV hS (ct_X4_init l z (k := (k + 12)) (ov := va_up (U2 z ov k (.inr (5, [.ref (gad z (k + 1)), .ref (gad z (k + 2)), .ref (gad z (k + 3)), .int 0, .int 1])) (.inl (gca z 2, 4, .inr (.inr (.inr (.inr (fun _ => none))))))) (k + 12) (.inr (4, [.null, .null, .null, .null, .null, .null, .null, .int 0, .int 0, .int 0]))) (kq_5_12 hk) (va_up_self _ _ _)) mi_X4_init mj_X4_init rfl ml_X5_32 rfl ⟨rfl, rfl, Nat.le_of_ble_eq_true rfl, Nat.le_of_ble_eq_true rfl⟩ ⟨Nat.le_of_ble_eq_true rfl, Nat.le_of_ble_eq_true rfl⟩ hl.1 (Nat.le_of_ble_eq_true rfl) rfl dX5_init_52 (fun H locs hV hS => ?_)
  have hV : gV z (U2 z ov k (.inr (5, [.ref (gad z (k + 1)), .ref (gad z (k + 2)), .ref (gad z (k + 3)), .int 0, .int 1])) (.inl (gca z 2, 4, .inr (.inr (.inr (.inr (fun _ => none))))))) (k + 20) H := gV_ext hV (fun j _ => U2_back (Or.inr (by omega)) j)
  refine r_aast (ov2 := (U2 z ov k (.inr (5, [.ref (gad z (k + 1)), .ref (gad z (k + 2)), .ref (gad z (k + 3)), .int 0, .int 1])) (.inl (gca z 2, 4, .inr (.inr (.inr (.inr (va_up (fun _ => none) ((0 : Int32).toNatClampNeg) (some (gad z (k + 12))))))))))) (t0 := 2) (ci := 4) (q := (RX4, TX4, 10)) X hV hS (by omega) (by omega) U2_1 ((U2_n (by omega)).trans (cell_O z M0 (kq_5_12 hk) (by decide))) rfl rfl (vin_lit (i := 0) (n := 4) (by decide)) U2_1 (fun j hj => U2_e1 hj) dX5_init_55 (fun H locs hV hS => ?_)
  refine lv_iinc (v := 1) (lv' := [(1, .int 1), (0, .ref (gad z k))]) hx hb dX5_init_56 hl (k := 0) rfl (by decide) (by decide) rfl (fun ls hl => ?_)
  refine lv_goto (tgt := 38) hx hb dX5_init_59 (by decide) ?_
  refine lv_iload_n hx hb dX5_init_38 rfl (lv_at hl 0 rfl) ?_
  refine lv_iconst (v := 4) hx hb dX5_init_39 (by decide) ?_
  refine lv_icmp_ge (tgt := 62) hx hb dX5_init_40 (by decide) (fun q => absurd q (by decide)) (fun _ => ?_)
  refine lv_aload_n hx hb dX5_init_43 rfl (lv_at hl 1 rfl) ?_
  refine r_get (T := TX5) (N := 5) (ci := 5) (fs := [.ref (gad z (k + 1)), .ref (gad z (k + 2)), .ref (gad z (k + 3)), .int 0, .int 1]) X hV (by omega) U2_0 rfl layX5 0 (by decide) rfl fw_X5_11 rfl dX5_init_44 ?_
  refine lv_iload_n hx hb dX5_init_47 rfl (lv_at hl 0 rfl) ?_
  have hV : gV z (va_up (U2 z ov k (.inr (5, [.ref (gad z (k + 1)), .ref (gad z (k + 2)), .ref (gad z (k + 3)), .int 0, .int 1])) (.inl (gca z 2, 4, .inr (.inr (.inr (.inr (va_up (fun _ => none) ((0 : Int32).toNatClampNeg) (some (gad z (k + 12)))))))))) (k + 20) (.inr (4, [.null, .null, .null, .null, .null, .null, .null, .int 0, .int 0, .int 0]))) (k + 20) _ := gV_ext hV (fun j hj => va_up_ne _ _ (by omega))
  refine r_new (T := TX4) (N := 10) (ci := 4) (fs := [.null, .null, .null, .null, .null, .null, .null, .int 0, .int 0, .int 0]) X hV hS tyX4 tyX4_ok rfl layX4 cl_X5_9 in_X4 ii_X4 (va_up_self _ _ _) (fun j hj => dv_4 j hj) (Nat.le_of_ble_eq_true rfl) (Nat.le_of_ble_eq_true rfl) dX5_init_48 (fun H hV hS => ?_)
  refine lv_dup hx hb dX5_init_51 rfl ?_
  refine r_cI (av := []) (rest := [.ref (gad z (k + 20)), .int 1, .ref (gad z (k + 1))]) X hV hS (ct_X4_init l z (k := (k + 20)) (ov := va_up (U2 z ov k (.inr (5, [.ref (gad z (k + 1)), .ref (gad z (k + 2)), .ref (gad z (k + 3)), .int 0, .int 1])) (.inl (gca z 2, 4, .inr (.inr (.inr (.inr (va_up (fun _ => none) ((0 : Int32).toNatClampNeg) (some (gad z (k + 12)))))))))) (k + 20) (.inr (4, [.null, .null, .null, .null, .null, .null, .null, .int 0, .int 0, .int 0]))) (kq_5_20 hk) (va_up_self _ _ _)) mi_X4_init mj_X4_init rfl ml_X5_32 rfl ⟨rfl, rfl, Nat.le_of_ble_eq_true rfl, Nat.le_of_ble_eq_true rfl⟩ ⟨Nat.le_of_ble_eq_true rfl, Nat.le_of_ble_eq_true rfl⟩ hl.1 (Nat.le_of_ble_eq_true rfl) rfl dX5_init_52 (fun H locs hV hS => ?_)
  have hV : gV z (U2 z ov k (.inr (5, [.ref (gad z (k + 1)), .ref (gad z (k + 2)), .ref (gad z (k + 3)), .int 0, .int 1])) (.inl (gca z 2, 4, .inr (.inr (.inr (.inr (va_up (fun _ => none) ((0 : Int32).toNatClampNeg) (some (gad z (k + 12)))))))))) (k + 28) H := gV_ext hV (fun j _ => U2_back (Or.inr (by omega)) j)
  refine r_aast (ov2 := (U2 z ov k (.inr (5, [.ref (gad z (k + 1)), .ref (gad z (k + 2)), .ref (gad z (k + 3)), .int 0, .int 1])) (.inl (gca z 2, 4, .inr (.inr (.inr (.inr (va_up (va_up (fun _ => none) ((0 : Int32).toNatClampNeg) (some (gad z (k + 12)))) ((1 : Int32).toNatClampNeg) (some (gad z (k + 20))))))))))) (t0 := 2) (ci := 4) (q := (RX4, TX4, 10)) X hV hS (by omega) (by omega) U2_1 ((U2_n (by omega)).trans (cell_O z M0 (kq_5_20 hk) (by decide))) rfl rfl (vin_lit (i := 1) (n := 4) (by decide)) U2_1 (fun j hj => U2_e1 hj) dX5_init_55 (fun H locs hV hS => ?_)
  refine lv_iinc (v := 2) (lv' := [(1, .int 2), (0, .ref (gad z k))]) hx hb dX5_init_56 hl (k := 0) rfl (by decide) (by decide) rfl (fun ls hl => ?_)
  refine lv_goto (tgt := 38) hx hb dX5_init_59 (by decide) ?_
  refine lv_iload_n hx hb dX5_init_38 rfl (lv_at hl 0 rfl) ?_
  refine lv_iconst (v := 4) hx hb dX5_init_39 (by decide) ?_
  refine lv_icmp_ge (tgt := 62) hx hb dX5_init_40 (by decide) (fun q => absurd q (by decide)) (fun _ => ?_)
  refine lv_aload_n hx hb dX5_init_43 rfl (lv_at hl 1 rfl) ?_
  refine r_get (T := TX5) (N := 5) (ci := 5) (fs := [.ref (gad z (k + 1)), .ref (gad z (k + 2)), .ref (gad z (k + 3)), .int 0, .int 1]) X hV (by omega) U2_0 rfl layX5 0 (by decide) rfl fw_X5_11 rfl dX5_init_44 ?_
  refine lv_iload_n hx hb dX5_init_47 rfl (lv_at hl 0 rfl) ?_
  have hV : gV z (va_up (U2 z ov k (.inr (5, [.ref (gad z (k + 1)), .ref (gad z (k + 2)), .ref (gad z (k + 3)), .int 0, .int 1])) (.inl (gca z 2, 4, .inr (.inr (.inr (.inr (va_up (va_up (fun _ => none) ((0 : Int32).toNatClampNeg) (some (gad z (k + 12)))) ((1 : Int32).toNatClampNeg) (some (gad z (k + 20)))))))))) (k + 28) (.inr (4, [.null, .null, .null, .null, .null, .null, .null, .int 0, .int 0, .int 0]))) (k + 28) _ := gV_ext hV (fun j hj => va_up_ne _ _ (by omega))
  refine r_new (T := TX4) (N := 10) (ci := 4) (fs := [.null, .null, .null, .null, .null, .null, .null, .int 0, .int 0, .int 0]) X hV hS tyX4 tyX4_ok rfl layX4 cl_X5_9 in_X4 ii_X4 (va_up_self _ _ _) (fun j hj => dv_4 j hj) (Nat.le_of_ble_eq_true rfl) (Nat.le_of_ble_eq_true rfl) dX5_init_48 (fun H hV hS => ?_)
  refine lv_dup hx hb dX5_init_51 rfl ?_
  refine r_cI (av := []) (rest := [.ref (gad z (k + 28)), .int 2, .ref (gad z (k + 1))]) X hV hS (ct_X4_init l z (k := (k + 28)) (ov := va_up (U2 z ov k (.inr (5, [.ref (gad z (k + 1)), .ref (gad z (k + 2)), .ref (gad z (k + 3)), .int 0, .int 1])) (.inl (gca z 2, 4, .inr (.inr (.inr (.inr (va_up (va_up (fun _ => none) ((0 : Int32).toNatClampNeg) (some (gad z (k + 12)))) ((1 : Int32).toNatClampNeg) (some (gad z (k + 20)))))))))) (k + 28) (.inr (4, [.null, .null, .null, .null, .null, .null, .null, .int 0, .int 0, .int 0]))) (kq_5_28 hk) (va_up_self _ _ _)) mi_X4_init mj_X4_init rfl ml_X5_32 rfl ⟨rfl, rfl, Nat.le_of_ble_eq_true rfl, Nat.le_of_ble_eq_true rfl⟩ ⟨Nat.le_of_ble_eq_true rfl, Nat.le_of_ble_eq_true rfl⟩ hl.1 (Nat.le_of_ble_eq_true rfl) rfl dX5_init_52 (fun H locs hV hS => ?_)
  have hV : gV z (U2 z ov k (.inr (5, [.ref (gad z (k + 1)), .ref (gad z (k + 2)), .ref (gad z (k + 3)), .int 0, .int 1])) (.inl (gca z 2, 4, .inr (.inr (.inr (.inr (va_up (va_up (fun _ => none) ((0 : Int32).toNatClampNeg) (some (gad z (k + 12)))) ((1 : Int32).toNatClampNeg) (some (gad z (k + 20)))))))))) (k + 36) H := gV_ext hV (fun j _ => U2_back (Or.inr (by omega)) j)
  refine r_aast (ov2 := (U2 z ov k (.inr (5, [.ref (gad z (k + 1)), .ref (gad z (k + 2)), .ref (gad z (k + 3)), .int 0, .int 1])) (.inl (gca z 2, 4, .inr (.inr (.inr (.inr (va_up (va_up (va_up (fun _ => none) ((0 : Int32).toNatClampNeg) (some (gad z (k + 12)))) ((1 : Int32).toNatClampNeg) (some (gad z (k + 20)))) ((2 : Int32).toNatClampNeg) (some (gad z (k + 28))))))))))) (t0 := 2) (ci := 4) (q := (RX4, TX4, 10)) X hV hS (by omega) (by omega) U2_1 ((U2_n (by omega)).trans (cell_O z M0 (kq_5_28 hk) (by decide))) rfl rfl (vin_lit (i := 2) (n := 4) (by decide)) U2_1 (fun j hj => U2_e1 hj) dX5_init_55 (fun H locs hV hS => ?_)
  refine lv_iinc (v := 3) (lv' := [(1, .int 3), (0, .ref (gad z k))]) hx hb dX5_init_56 hl (k := 0) rfl (by decide) (by decide) rfl (fun ls hl => ?_)
  refine lv_goto (tgt := 38) hx hb dX5_init_59 (by decide) ?_
  refine lv_iload_n hx hb dX5_init_38 rfl (lv_at hl 0 rfl) ?_
  refine lv_iconst (v := 4) hx hb dX5_init_39 (by decide) ?_
  refine lv_icmp_ge (tgt := 62) hx hb dX5_init_40 (by decide) (fun q => absurd q (by decide)) (fun _ => ?_)
  refine lv_aload_n hx hb dX5_init_43 rfl (lv_at hl 1 rfl) ?_
  refine r_get (T := TX5) (N := 5) (ci := 5) (fs := [.ref (gad z (k + 1)), .ref (gad z (k + 2)), .ref (gad z (k + 3)), .int 0, .int 1]) X hV (by omega) U2_0 rfl layX5 0 (by decide) rfl fw_X5_11 rfl dX5_init_44 ?_
  refine lv_iload_n hx hb dX5_init_47 rfl (lv_at hl 0 rfl) ?_
  have hV : gV z (va_up (U2 z ov k (.inr (5, [.ref (gad z (k + 1)), .ref (gad z (k + 2)), .ref (gad z (k + 3)), .int 0, .int 1])) (.inl (gca z 2, 4, .inr (.inr (.inr (.inr (va_up (va_up (va_up (fun _ => none) ((0 : Int32).toNatClampNeg) (some (gad z (k + 12)))) ((1 : Int32).toNatClampNeg) (some (gad z (k + 20)))) ((2 : Int32).toNatClampNeg) (some (gad z (k + 28)))))))))) (k + 36) (.inr (4, [.null, .null, .null, .null, .null, .null, .null, .int 0, .int 0, .int 0]))) (k + 36) _ := gV_ext hV (fun j hj => va_up_ne _ _ (by omega))
  refine r_new (T := TX4) (N := 10) (ci := 4) (fs := [.null, .null, .null, .null, .null, .null, .null, .int 0, .int 0, .int 0]) X hV hS tyX4 tyX4_ok rfl layX4 cl_X5_9 in_X4 ii_X4 (va_up_self _ _ _) (fun j hj => dv_4 j hj) (Nat.le_of_ble_eq_true rfl) (Nat.le_of_ble_eq_true rfl) dX5_init_48 (fun H hV hS => ?_)
  refine lv_dup hx hb dX5_init_51 rfl ?_
  refine r_cI (av := []) (rest := [.ref (gad z (k + 36)), .int 3, .ref (gad z (k + 1))]) X hV hS (ct_X4_init l z (k := (k + 36)) (ov := va_up (U2 z ov k (.inr (5, [.ref (gad z (k + 1)), .ref (gad z (k + 2)), .ref (gad z (k + 3)), .int 0, .int 1])) (.inl (gca z 2, 4, .inr (.inr (.inr (.inr (va_up (va_up (va_up (fun _ => none) ((0 : Int32).toNatClampNeg) (some (gad z (k + 12)))) ((1 : Int32).toNatClampNeg) (some (gad z (k + 20)))) ((2 : Int32).toNatClampNeg) (some (gad z (k + 28)))))))))) (k + 36) (.inr (4, [.null, .null, .null, .null, .null, .null, .null, .int 0, .int 0, .int 0]))) (kq_5_36 hk) (va_up_self _ _ _)) mi_X4_init mj_X4_init rfl ml_X5_32 rfl ⟨rfl, rfl, Nat.le_of_ble_eq_true rfl, Nat.le_of_ble_eq_true rfl⟩ ⟨Nat.le_of_ble_eq_true rfl, Nat.le_of_ble_eq_true rfl⟩ hl.1 (Nat.le_of_ble_eq_true rfl) rfl dX5_init_52 (fun H locs hV hS => ?_)
  have hV : gV z (U2 z ov k (.inr (5, [.ref (gad z (k + 1)), .ref (gad z (k + 2)), .ref (gad z (k + 3)), .int 0, .int 1])) (.inl (gca z 2, 4, .inr (.inr (.inr (.inr (va_up (va_up (va_up (fun _ => none) ((0 : Int32).toNatClampNeg) (some (gad z (k + 12)))) ((1 : Int32).toNatClampNeg) (some (gad z (k + 20)))) ((2 : Int32).toNatClampNeg) (some (gad z (k + 28)))))))))) (k + 44) H := gV_ext hV (fun j _ => U2_back (Or.inr (by omega)) j)
  refine r_aast (ov2 := (U2 z ov k (.inr (5, [.ref (gad z (k + 1)), .ref (gad z (k + 2)), .ref (gad z (k + 3)), .int 0, .int 1])) (.inl (gca z 2, 4, .inr (.inr (.inr (.inr (va_up (va_up (va_up (va_up (fun _ => none) ((0 : Int32).toNatClampNeg) (some (gad z (k + 12)))) ((1 : Int32).toNatClampNeg) (some (gad z (k + 20)))) ((2 : Int32).toNatClampNeg) (some (gad z (k + 28)))) ((3 : Int32).toNatClampNeg) (some (gad z (k + 36))))))))))) (t0 := 2) (ci := 4) (q := (RX4, TX4, 10)) X hV hS (by omega) (by omega) U2_1 ((U2_n (by omega)).trans (cell_O z M0 (kq_5_36 hk) (by decide))) rfl rfl (vin_lit (i := 3) (n := 4) (by decide)) U2_1 (fun j hj => U2_e1 hj) dX5_init_55 (fun H locs hV hS => ?_)
  refine lv_iinc (v := 4) (lv' := [(1, .int 4), (0, .ref (gad z k))]) hx hb dX5_init_56 hl (k := 0) rfl (by decide) (by decide) rfl (fun ls hl => ?_)
  refine lv_goto (tgt := 38) hx hb dX5_init_59 (by decide) ?_
  refine lv_iload_n hx hb dX5_init_38 rfl (lv_at hl 0 rfl) ?_
  refine lv_iconst (v := 4) hx hb dX5_init_39 (by decide) ?_
  refine lv_icmp_ge (tgt := 62) hx hb dX5_init_40 (by decide) (fun _ => ?_) (fun q => absurd (by decide) q)
  have hV : gV z (mkB z ov k) (k + 44) H := U2_endR hV (cell_O z M0 hk (by decide) |>.trans (fl0_5 hk)) (cell_S z M0 (kq_5_1 hk) (by decide)) (fun i hi => ra_5 i hi)
  exact r_vret X hr hlk hV hS dX5_init_62
theorem fl0_6 {z : gZ} {k : Nat} (hk : kd k = 6) : (.inr (6, flds (gad z) M0 6 k) : va_E) = .inr (6, [.ref (gad z (k + 1)), .ref (gad z (k + 2)), .ref (gad z (k + 4)), .ref (gad z (k + 48)), .ref (gad z (k + 92)), .ref (gad z (k + 100)), .ref (gad z (k + 102)), .int 0]) := by
  simp [flds, M0, hk]
theorem ra_6 {z : gZ} {k : Nat} : ∀ i, i < 8 → (va_up (va_up (va_up (va_up (va_up (va_up (va_up (va_up (fun _ => none) ((0 : Int32).toNatClampNeg) (some (gad z (k + 103)))) ((1 : Int32).toNatClampNeg) (some (gad z (k + 105)))) ((2 : Int32).toNatClampNeg) (some (gad z (k + 107)))) ((3 : Int32).toNatClampNeg) (some (gad z (k + 109)))) ((4 : Int32).toNatClampNeg) (some (gad z (k + 111)))) ((5 : Int32).toNatClampNeg) (some (gad z (k + 113)))) ((6 : Int32).toNatClampNeg) (some (gad z (k + 115)))) ((7 : Int32).toNatClampNeg) (some (gad z (k + 117)))) i = some (gad z (k + 1 + 102 + 2 * i)) := by
  intro i hi
  match i, hi with
  | 0, _ => rfl
  | 1, _ => rfl
  | 2, _ => rfl
  | 3, _ => rfl
  | 4, _ => rfl
  | 5, _ => rfl
  | 6, _ => rfl
  | 7, _ => rfl
set_option maxRecDepth 100000 in
set_option maxHeartbeats 4000000 in
theorem ct_X6_init (l : Launch) (z : gZ) {k : Nat} {ov : Nat → va_E} (hk : kd k = 6) (ho : ov k = .inr (6, [.null, .null, .null, .null, .null, .null, .null, .int 0])) : CtN l z yX6_init cX6_init 2 { frames := 4, cells := 118, slots := 3127, locals := 73 } [.ref (gad z k)] ov (k + 1) (mkB z ov k) (k + 119) 118 3127 := by
  refine CtN_of rfl (Nat.le_of_ble_eq_true rfl) ?_
  intro p e s m below meth c ls X hr hlk hname hV hS hl
  have X : gX p m c _ _ s _ RX6 z := X
  have hname : meth.name = "<init>" := hname
  have hl : lv_has ls 2 [(0, .ref (gad z k))] := hl
  have hx := X.1
  have hb := X.2.1
  have hV : gV z (U2 z ov k (.inr (6, [.null, .null, .null, .null, .null, .null, .null, .int 0])) (.inl (gca z 3, 8, .inr (.inr (.inr (.inr (fun _ => none))))))) (k + 1) s.heap := gV_ext hV (fun j hj => U2_start ho hj)
  refine lv_aload_n hx hb dX6_init_0 rfl (lv_at hl 0 rfl) ?_
  refine r_obj X ol_X6 hl.1 (Nat.le_of_ble_eq_true rfl) (Nat.le_of_ble_eq_true rfl) dX6_init_1 ?_
  refine lv_aload_n hx hb dX6_init_4 rfl (lv_at hl 0 rfl) ?_
  refine lv_bipush (v := 8) hx hb dX6_init_5 (by decide) ?_
  refine r_newR (N := 8) (t0 := 3) X hV hS rfl (gX_ao X (.object RX3) (by decide)) cl_X6_9 U2_1 (by decide) rfl (Nat.le_of_ble_eq_true rfl) (Nat.le_of_ble_eq_true rfl) (Nat.le_of_ble_eq_true rfl) dX6_init_7 (fun H hV hS => ?_)
  have hV : gV z (U2 z ov k (.inr (6, [.null, .null, .null, .null, .null, .null, .null, .int 0])) (.inl (gca z 3, 8, .inr (.inr (.inr (.inr (fun _ => none))))))) (k + 2) H := hV
  refine r_putF (ov2 := (U2 z ov k (.inr (6, [.ref (gad z (k + 1)), .null, .null, .null, .null, .null, .null, .int 0])) (.inl (gca z 3, 8, .inr (.inr (.inr (.inr (fun _ => none)))))))) (T := TX6) (N := 8) (ci := 6) (fs := [.null, .null, .null, .null, .null, .null, .null, .int 0]) (ty := (tyX6 0)) X hV hS tyX6 tyX6_ok nmX6 hname (by omega) U2_0 rfl layX6 0 (by decide) rfl fw_X6_11 rfl rfl rfl (Nat.le_of_ble_eq_true rfl) U2_0 (fun b hb => U2_e hb) dX6_init_10 (fun H locs hV hS => ?_)
  refine lv_aload_n hx hb dX6_init_13 rfl (lv_at hl 0 rfl) ?_
  have hV : gV z (va_up (U2 z ov k (.inr (6, [.ref (gad z (k + 1)), .null, .null, .null, .null, .null, .null, .int 0])) (.inl (gca z 3, 8, .inr (.inr (.inr (.inr (fun _ => none))))))) (k + 2) (.inr (1, [.null, .int 0, .int 0, .int 0, .int 0, .int 0]))) (k + 2) _ := gV_ext hV (fun j hj => va_up_ne _ _ (by omega))
  refine r_new (T := TX1) (N := 6) (ci := 1) (fs := [.null, .int 0, .int 0, .int 0, .int 0, .int 0]) X hV hS tyX1 tyX1_ok rfl layX1 cl_X6_15 in_X1 ii_X1 (va_up_self _ _ _) (fun j hj => dv_1 j hj) (Nat.le_of_ble_eq_true rfl) (Nat.le_of_ble_eq_true rfl) dX6_init_14 (fun H hV hS => ?_)
  refine lv_dup hx hb dX6_init_17 rfl ?_
  refine r_cI (av := []) (rest := [.ref (gad z (k + 2)), .ref (gad z k)]) X hV hS (ct_X1_init l z (k := (k + 2)) (ov := va_up (U2 z ov k (.inr (6, [.ref (gad z (k + 1)), .null, .null, .null, .null, .null, .null, .int 0])) (.inl (gca z 3, 8, .inr (.inr (.inr (.inr (fun _ => none))))))) (k + 2) (.inr (1, [.null, .int 0, .int 0, .int 0, .int 0, .int 0]))) (kq_6_2 hk) (va_up_self _ _ _)) mi_X1_init mj_X1_init rfl ml_X6_17 rfl ⟨rfl, rfl, Nat.le_of_ble_eq_true rfl, Nat.le_of_ble_eq_true rfl⟩ ⟨Nat.le_of_ble_eq_true rfl, Nat.le_of_ble_eq_true rfl⟩ hl.1 (Nat.le_of_ble_eq_true rfl) rfl dX6_init_18 (fun H locs hV hS => ?_)
  have hV : gV z (U2 z ov k (.inr (6, [.ref (gad z (k + 1)), .null, .null, .null, .null, .null, .null, .int 0])) (.inl (gca z 3, 8, .inr (.inr (.inr (.inr (fun _ => none))))))) (k + 4) H := gV_ext hV (fun j _ => U2_back (Or.inr (by omega)) j)
  refine r_putF (ov2 := (U2 z ov k (.inr (6, [.ref (gad z (k + 1)), .ref (gad z (k + 2)), .null, .null, .null, .null, .null, .int 0])) (.inl (gca z 3, 8, .inr (.inr (.inr (.inr (fun _ => none)))))))) (T := TX6) (N := 8) (ci := 6) (fs := [.ref (gad z (k + 1)), .null, .null, .null, .null, .null, .null, .int 0]) (ty := (tyX6 1)) X hV hS tyX6 tyX6_ok nmX6 hname (by omega) U2_0 rfl layX6 1 (by decide) rfl fw_X6_18 rfl rfl rfl (Nat.le_of_ble_eq_true rfl) U2_0 (fun b hb => U2_e hb) dX6_init_21 (fun H locs hV hS => ?_)
  refine lv_aload_n hx hb dX6_init_24 rfl (lv_at hl 0 rfl) ?_
  have hV : gV z (va_up (U2 z ov k (.inr (6, [.ref (gad z (k + 1)), .ref (gad z (k + 2)), .null, .null, .null, .null, .null, .int 0])) (.inl (gca z 3, 8, .inr (.inr (.inr (.inr (fun _ => none))))))) (k + 4) (.inr (5, [.null, .null, .null, .int 0, .int 0]))) (k + 4) _ := gV_ext hV (fun j hj => va_up_ne _ _ (by omega))
  refine r_new (T := TX5) (N := 5) (ci := 5) (fs := [.null, .null, .null, .int 0, .int 0]) X hV hS tyX5 tyX5_ok rfl layX5 cl_X6_22 in_X5 ii_X5 (va_up_self _ _ _) (fun j hj => dv_5 j hj) (Nat.le_of_ble_eq_true rfl) (Nat.le_of_ble_eq_true rfl) dX6_init_25 (fun H hV hS => ?_)
  refine lv_dup hx hb dX6_init_28 rfl ?_
  refine r_cI (av := []) (rest := [.ref (gad z (k + 4)), .ref (gad z k)]) X hV hS (ct_X5_init l z (k := (k + 4)) (ov := va_up (U2 z ov k (.inr (6, [.ref (gad z (k + 1)), .ref (gad z (k + 2)), .null, .null, .null, .null, .null, .int 0])) (.inl (gca z 3, 8, .inr (.inr (.inr (.inr (fun _ => none))))))) (k + 4) (.inr (5, [.null, .null, .null, .int 0, .int 0]))) (kq_6_4 hk) (va_up_self _ _ _)) mi_X5_init mj_X5_init rfl ml_X6_24 rfl ⟨rfl, rfl, Nat.le_of_ble_eq_true rfl, Nat.le_of_ble_eq_true rfl⟩ ⟨Nat.le_of_ble_eq_true rfl, Nat.le_of_ble_eq_true rfl⟩ hl.1 (Nat.le_of_ble_eq_true rfl) rfl dX6_init_29 (fun H locs hV hS => ?_)
  have hV : gV z (U2 z ov k (.inr (6, [.ref (gad z (k + 1)), .ref (gad z (k + 2)), .null, .null, .null, .null, .null, .int 0])) (.inl (gca z 3, 8, .inr (.inr (.inr (.inr (fun _ => none))))))) (k + 48) H := gV_ext hV (fun j _ => U2_back (Or.inr (by omega)) j)
  refine r_putF (ov2 := (U2 z ov k (.inr (6, [.ref (gad z (k + 1)), .ref (gad z (k + 2)), .ref (gad z (k + 4)), .null, .null, .null, .null, .int 0])) (.inl (gca z 3, 8, .inr (.inr (.inr (.inr (fun _ => none)))))))) (T := TX6) (N := 8) (ci := 6) (fs := [.ref (gad z (k + 1)), .ref (gad z (k + 2)), .null, .null, .null, .null, .null, .int 0]) (ty := (tyX6 2)) X hV hS tyX6 tyX6_ok nmX6 hname (by omega) U2_0 rfl layX6 2 (by decide) rfl fw_X6_25 rfl rfl rfl (Nat.le_of_ble_eq_true rfl) U2_0 (fun b hb => U2_e hb) dX6_init_32 (fun H locs hV hS => ?_)
  refine lv_aload_n hx hb dX6_init_35 rfl (lv_at hl 0 rfl) ?_
  have hV : gV z (va_up (U2 z ov k (.inr (6, [.ref (gad z (k + 1)), .ref (gad z (k + 2)), .ref (gad z (k + 4)), .null, .null, .null, .null, .int 0])) (.inl (gca z 3, 8, .inr (.inr (.inr (.inr (fun _ => none))))))) (k + 48) (.inr (5, [.null, .null, .null, .int 0, .int 0]))) (k + 48) _ := gV_ext hV (fun j hj => va_up_ne _ _ (by omega))
  refine r_new (T := TX5) (N := 5) (ci := 5) (fs := [.null, .null, .null, .int 0, .int 0]) X hV hS tyX5 tyX5_ok rfl layX5 cl_X6_22 in_X5 ii_X5 (va_up_self _ _ _) (fun j hj => dv_5 j hj) (Nat.le_of_ble_eq_true rfl) (Nat.le_of_ble_eq_true rfl) dX6_init_36 (fun H hV hS => ?_)
  refine lv_dup hx hb dX6_init_39 rfl ?_
  refine r_cI (av := []) (rest := [.ref (gad z (k + 48)), .ref (gad z k)]) X hV hS (ct_X5_init l z (k := (k + 48)) (ov := va_up (U2 z ov k (.inr (6, [.ref (gad z (k + 1)), .ref (gad z (k + 2)), .ref (gad z (k + 4)), .null, .null, .null, .null, .int 0])) (.inl (gca z 3, 8, .inr (.inr (.inr (.inr (fun _ => none))))))) (k + 48) (.inr (5, [.null, .null, .null, .int 0, .int 0]))) (kq_6_48 hk) (va_up_self _ _ _)) mi_X5_init mj_X5_init rfl ml_X6_24 rfl ⟨rfl, rfl, Nat.le_of_ble_eq_true rfl, Nat.le_of_ble_eq_true rfl⟩ ⟨Nat.le_of_ble_eq_true rfl, Nat.le_of_ble_eq_true rfl⟩ hl.1 (Nat.le_of_ble_eq_true rfl) rfl dX6_init_40 (fun H locs hV hS => ?_)
  have hV : gV z (U2 z ov k (.inr (6, [.ref (gad z (k + 1)), .ref (gad z (k + 2)), .ref (gad z (k + 4)), .null, .null, .null, .null, .int 0])) (.inl (gca z 3, 8, .inr (.inr (.inr (.inr (fun _ => none))))))) (k + 92) H := gV_ext hV (fun j _ => U2_back (Or.inr (by omega)) j)
  refine r_putF (ov2 := (U2 z ov k (.inr (6, [.ref (gad z (k + 1)), .ref (gad z (k + 2)), .ref (gad z (k + 4)), .ref (gad z (k + 48)), .null, .null, .null, .int 0])) (.inl (gca z 3, 8, .inr (.inr (.inr (.inr (fun _ => none)))))))) (T := TX6) (N := 8) (ci := 6) (fs := [.ref (gad z (k + 1)), .ref (gad z (k + 2)), .ref (gad z (k + 4)), .null, .null, .null, .null, .int 0]) (ty := (tyX6 3)) X hV hS tyX6 tyX6_ok nmX6 hname (by omega) U2_0 rfl layX6 3 (by decide) rfl fw_X6_29 rfl rfl rfl (Nat.le_of_ble_eq_true rfl) U2_0 (fun b hb => U2_e hb) dX6_init_43 (fun H locs hV hS => ?_)
  refine lv_aload_n hx hb dX6_init_46 rfl (lv_at hl 0 rfl) ?_
  have hV : gV z (va_up (U2 z ov k (.inr (6, [.ref (gad z (k + 1)), .ref (gad z (k + 2)), .ref (gad z (k + 4)), .ref (gad z (k + 48)), .null, .null, .null, .int 0])) (.inl (gca z 3, 8, .inr (.inr (.inr (.inr (fun _ => none))))))) (k + 92) (.inr (4, [.null, .null, .null, .null, .null, .null, .null, .int 0, .int 0, .int 0]))) (k + 92) _ := gV_ext hV (fun j hj => va_up_ne _ _ (by omega))
  refine r_new (T := TX4) (N := 10) (ci := 4) (fs := [.null, .null, .null, .null, .null, .null, .null, .int 0, .int 0, .int 0]) X hV hS tyX4 tyX4_ok rfl layX4 cl_X6_32 in_X4 ii_X4 (va_up_self _ _ _) (fun j hj => dv_4 j hj) (Nat.le_of_ble_eq_true rfl) (Nat.le_of_ble_eq_true rfl) dX6_init_47 (fun H hV hS => ?_)
  refine lv_dup hx hb dX6_init_50 rfl ?_
  refine r_cI (av := []) (rest := [.ref (gad z (k + 92)), .ref (gad z k)]) X hV hS (ct_X4_init l z (k := (k + 92)) (ov := va_up (U2 z ov k (.inr (6, [.ref (gad z (k + 1)), .ref (gad z (k + 2)), .ref (gad z (k + 4)), .ref (gad z (k + 48)), .null, .null, .null, .int 0])) (.inl (gca z 3, 8, .inr (.inr (.inr (.inr (fun _ => none))))))) (k + 92) (.inr (4, [.null, .null, .null, .null, .null, .null, .null, .int 0, .int 0, .int 0]))) (kq_6_92 hk) (va_up_self _ _ _)) mi_X4_init mj_X4_init rfl ml_X6_34 rfl ⟨rfl, rfl, Nat.le_of_ble_eq_true rfl, Nat.le_of_ble_eq_true rfl⟩ ⟨Nat.le_of_ble_eq_true rfl, Nat.le_of_ble_eq_true rfl⟩ hl.1 (Nat.le_of_ble_eq_true rfl) rfl dX6_init_51 (fun H locs hV hS => ?_)
  have hV : gV z (U2 z ov k (.inr (6, [.ref (gad z (k + 1)), .ref (gad z (k + 2)), .ref (gad z (k + 4)), .ref (gad z (k + 48)), .null, .null, .null, .int 0])) (.inl (gca z 3, 8, .inr (.inr (.inr (.inr (fun _ => none))))))) (k + 100) H := gV_ext hV (fun j _ => U2_back (Or.inr (by omega)) j)
  refine r_putF (ov2 := (U2 z ov k (.inr (6, [.ref (gad z (k + 1)), .ref (gad z (k + 2)), .ref (gad z (k + 4)), .ref (gad z (k + 48)), .ref (gad z (k + 92)), .null, .null, .int 0])) (.inl (gca z 3, 8, .inr (.inr (.inr (.inr (fun _ => none)))))))) (T := TX6) (N := 8) (ci := 6) (fs := [.ref (gad z (k + 1)), .ref (gad z (k + 2)), .ref (gad z (k + 4)), .ref (gad z (k + 48)), .null, .null, .null, .int 0]) (ty := (tyX6 4)) X hV hS tyX6 tyX6_ok nmX6 hname (by omega) U2_0 rfl layX6 4 (by decide) rfl fw_X6_35 rfl rfl rfl (Nat.le_of_ble_eq_true rfl) U2_0 (fun b hb => U2_e hb) dX6_init_54 (fun H locs hV hS => ?_)
  refine lv_aload_n hx hb dX6_init_57 rfl (lv_at hl 0 rfl) ?_
  have hV : gV z (va_up (U2 z ov k (.inr (6, [.ref (gad z (k + 1)), .ref (gad z (k + 2)), .ref (gad z (k + 4)), .ref (gad z (k + 48)), .ref (gad z (k + 92)), .null, .null, .int 0])) (.inl (gca z 3, 8, .inr (.inr (.inr (.inr (fun _ => none))))))) (k + 100) (.inr (0, [.null, .int 0, .int 0, .int 0]))) (k + 100) _ := gV_ext hV (fun j hj => va_up_ne _ _ (by omega))
  refine r_new (T := TX0) (N := 4) (ci := 0) (fs := [.null, .int 0, .int 0, .int 0]) X hV hS tyX0 tyX0_ok rfl layX0 cl_X6_39 in_X0 ii_X0 (va_up_self _ _ _) (fun j hj => dv_0 j hj) (Nat.le_of_ble_eq_true rfl) (Nat.le_of_ble_eq_true rfl) dX6_init_58 (fun H hV hS => ?_)
  refine lv_dup hx hb dX6_init_61 rfl ?_
  refine r_cI (av := []) (rest := [.ref (gad z (k + 100)), .ref (gad z k)]) X hV hS (ct_X0_init l z (k := (k + 100)) (ov := va_up (U2 z ov k (.inr (6, [.ref (gad z (k + 1)), .ref (gad z (k + 2)), .ref (gad z (k + 4)), .ref (gad z (k + 48)), .ref (gad z (k + 92)), .null, .null, .int 0])) (.inl (gca z 3, 8, .inr (.inr (.inr (.inr (fun _ => none))))))) (k + 100) (.inr (0, [.null, .int 0, .int 0, .int 0]))) (kq_6_100 hk) (va_up_self _ _ _)) mi_X0_init mj_X0_init rfl ml_X6_41 rfl ⟨rfl, rfl, Nat.le_of_ble_eq_true rfl, Nat.le_of_ble_eq_true rfl⟩ ⟨Nat.le_of_ble_eq_true rfl, Nat.le_of_ble_eq_true rfl⟩ hl.1 (Nat.le_of_ble_eq_true rfl) rfl dX6_init_62 (fun H locs hV hS => ?_)
  have hV : gV z (U2 z ov k (.inr (6, [.ref (gad z (k + 1)), .ref (gad z (k + 2)), .ref (gad z (k + 4)), .ref (gad z (k + 48)), .ref (gad z (k + 92)), .null, .null, .int 0])) (.inl (gca z 3, 8, .inr (.inr (.inr (.inr (fun _ => none))))))) (k + 102) H := gV_ext hV (fun j _ => U2_back (Or.inr (by omega)) j)
  refine r_putF (ov2 := (U2 z ov k (.inr (6, [.ref (gad z (k + 1)), .ref (gad z (k + 2)), .ref (gad z (k + 4)), .ref (gad z (k + 48)), .ref (gad z (k + 92)), .ref (gad z (k + 100)), .null, .int 0])) (.inl (gca z 3, 8, .inr (.inr (.inr (.inr (fun _ => none)))))))) (T := TX6) (N := 8) (ci := 6) (fs := [.ref (gad z (k + 1)), .ref (gad z (k + 2)), .ref (gad z (k + 4)), .ref (gad z (k + 48)), .ref (gad z (k + 92)), .null, .null, .int 0]) (ty := (tyX6 5)) X hV hS tyX6 tyX6_ok nmX6 hname (by omega) U2_0 rfl layX6 5 (by decide) rfl fw_X6_42 rfl rfl rfl (Nat.le_of_ble_eq_true rfl) U2_0 (fun b hb => U2_e hb) dX6_init_65 (fun H locs hV hS => ?_)
  refine lv_aload_n hx hb dX6_init_68 rfl (lv_at hl 0 rfl) ?_
  refine lv_iconst (v := 5) hx hb dX6_init_69 (by decide) ?_
  refine r_newI (N := 5) X hV hS ((U2_n (by omega)).trans (cellM0_I (kq_6_102 hk) (Nat.le_of_ble_eq_true rfl))) (by decide) rfl (Nat.le_of_ble_eq_true rfl) (Nat.le_of_ble_eq_true rfl) (Nat.le_of_ble_eq_true rfl) dX6_init_70 (fun H hV hS => ?_)
  have hV : gV z (U2 z ov k (.inr (6, [.ref (gad z (k + 1)), .ref (gad z (k + 2)), .ref (gad z (k + 4)), .ref (gad z (k + 48)), .ref (gad z (k + 92)), .ref (gad z (k + 100)), .null, .int 0])) (.inl (gca z 3, 8, .inr (.inr (.inr (.inr (fun _ => none))))))) (k + 103) H := hV
  refine r_putF (ov2 := (U2 z ov k (.inr (6, [.ref (gad z (k + 1)), .ref (gad z (k + 2)), .ref (gad z (k + 4)), .ref (gad z (k + 48)), .ref (gad z (k + 92)), .ref (gad z (k + 100)), .ref (gad z (k + 102)), .int 0])) (.inl (gca z 3, 8, .inr (.inr (.inr (.inr (fun _ => none)))))))) (T := TX6) (N := 8) (ci := 6) (fs := [.ref (gad z (k + 1)), .ref (gad z (k + 2)), .ref (gad z (k + 4)), .ref (gad z (k + 48)), .ref (gad z (k + 92)), .ref (gad z (k + 100)), .null, .int 0]) (ty := (tyX6 6)) X hV hS tyX6 tyX6_ok nmX6 hname (by omega) U2_0 rfl layX6 6 (by decide) rfl fw_X6_46 rfl rfl rfl (Nat.le_of_ble_eq_true rfl) U2_0 (fun b hb => U2_e hb) dX6_init_72 (fun H locs hV hS => ?_)
  refine lv_iconst (v := 0) hx hb dX6_init_75 (by decide) ?_
  refine lv_istore_n (lv' := [(1, .int 0), (0, .ref (gad z k))]) hx hb dX6_init_76 rfl hl (by decide) rfl (fun ls hl => ?_)
  refine lv_iload_n hx hb dX6_init_77 rfl (lv_at hl 0 rfl) ?_
  refine lv_bipush (v := 8) hx hb dX6_init_78 (by decide) ?_
  refine lv_icmp_ge (tgt := 102) hx hb dX6_init_80 (by decide) (fun q => absurd q (by decide)) (fun _ => ?_)
  refine lv_aload_n hx hb dX6_init_83 rfl (lv_at hl 1 rfl) ?_
  refine r_get (T := TX6) (N := 8) (ci := 6) (fs := [.ref (gad z (k + 1)), .ref (gad z (k + 2)), .ref (gad z (k + 4)), .ref (gad z (k + 48)), .ref (gad z (k + 92)), .ref (gad z (k + 100)), .ref (gad z (k + 102)), .int 0]) X hV (by omega) U2_0 rfl layX6 0 (by decide) rfl fw_X6_11 rfl dX6_init_84 ?_
  refine lv_iload_n hx hb dX6_init_87 rfl (lv_at hl 0 rfl) ?_
  have hV : gV z (va_up (U2 z ov k (.inr (6, [.ref (gad z (k + 1)), .ref (gad z (k + 2)), .ref (gad z (k + 4)), .ref (gad z (k + 48)), .ref (gad z (k + 92)), .ref (gad z (k + 100)), .ref (gad z (k + 102)), .int 0])) (.inl (gca z 3, 8, .inr (.inr (.inr (.inr (fun _ => none))))))) (k + 103) (.inr (3, [.null, .int 0, .int 0, .int 0]))) (k + 103) _ := gV_ext hV (fun j hj => va_up_ne _ _ (by omega))
  refine r_new (T := TX3) (N := 4) (ci := 3) (fs := [.null, .int 0, .int 0, .int 0]) X hV hS tyX3 tyX3_ok rfl layX3 cl_X6_9 in_X3 ii_X3 (va_up_self _ _ _) (fun j hj => dv_3 j hj) (Nat.le_of_ble_eq_true rfl) (Nat.le_of_ble_eq_true rfl) dX6_init_88 (fun H hV hS => ?_)
  refine lv_dup hx hb dX6_init_91 rfl ?_
  refine r_cI (av := []) (rest := [.ref (gad z (k + 103)), .int 0, .ref (gad z (k + 1))]) X hV hS (ct_X3_init l z (k := (k + 103)) (ov := va_up (U2 z ov k (.inr (6, [.ref (gad z (k + 1)), .ref (gad z (k + 2)), .ref (gad z (k + 4)), .ref (gad z (k + 48)), .ref (gad z (k + 92)), .ref (gad z (k + 100)), .ref (gad z (k + 102)), .int 0])) (.inl (gca z 3, 8, .inr (.inr (.inr (.inr (fun _ => none))))))) (k + 103) (.inr (3, [.null, .int 0, .int 0, .int 0]))) (kq_6_103 hk) (va_up_self _ _ _)) mi_X3_init mj_X3_init rfl ml_X6_50 rfl ⟨rfl, rfl, Nat.le_of_ble_eq_true rfl, Nat.le_of_ble_eq_true rfl⟩ ⟨Nat.le_of_ble_eq_true rfl, Nat.le_of_ble_eq_true rfl⟩ hl.1 (Nat.le_of_ble_eq_true rfl) rfl dX6_init_92 (fun H locs hV hS => ?_)
  have hV : gV z (U2 z ov k (.inr (6, [.ref (gad z (k + 1)), .ref (gad z (k + 2)), .ref (gad z (k + 4)), .ref (gad z (k + 48)), .ref (gad z (k + 92)), .ref (gad z (k + 100)), .ref (gad z (k + 102)), .int 0])) (.inl (gca z 3, 8, .inr (.inr (.inr (.inr (fun _ => none))))))) (k + 105) H := gV_ext hV (fun j _ => U2_back (Or.inr (by omega)) j)
  refine r_aast (ov2 := (U2 z ov k (.inr (6, [.ref (gad z (k + 1)), .ref (gad z (k + 2)), .ref (gad z (k + 4)), .ref (gad z (k + 48)), .ref (gad z (k + 92)), .ref (gad z (k + 100)), .ref (gad z (k + 102)), .int 0])) (.inl (gca z 3, 8, .inr (.inr (.inr (.inr (va_up (fun _ => none) ((0 : Int32).toNatClampNeg) (some (gad z (k + 103))))))))))) (t0 := 3) (ci := 3) (q := (RX3, TX3, 4)) X hV hS (by omega) (by omega) U2_1 ((U2_n (by omega)).trans (cell_O z M0 (kq_6_103 hk) (by decide))) rfl rfl (vin_lit (i := 0) (n := 8) (by decide)) U2_1 (fun j hj => U2_e1 hj) dX6_init_95 (fun H locs hV hS => ?_)
  refine lv_iinc (v := 1) (lv' := [(1, .int 1), (0, .ref (gad z k))]) hx hb dX6_init_96 hl (k := 0) rfl (by decide) (by decide) rfl (fun ls hl => ?_)
  refine lv_goto (tgt := 77) hx hb dX6_init_99 (by decide) ?_
  refine lv_iload_n hx hb dX6_init_77 rfl (lv_at hl 0 rfl) ?_
  refine lv_bipush (v := 8) hx hb dX6_init_78 (by decide) ?_
  refine lv_icmp_ge (tgt := 102) hx hb dX6_init_80 (by decide) (fun q => absurd q (by decide)) (fun _ => ?_)
  refine lv_aload_n hx hb dX6_init_83 rfl (lv_at hl 1 rfl) ?_
  refine r_get (T := TX6) (N := 8) (ci := 6) (fs := [.ref (gad z (k + 1)), .ref (gad z (k + 2)), .ref (gad z (k + 4)), .ref (gad z (k + 48)), .ref (gad z (k + 92)), .ref (gad z (k + 100)), .ref (gad z (k + 102)), .int 0]) X hV (by omega) U2_0 rfl layX6 0 (by decide) rfl fw_X6_11 rfl dX6_init_84 ?_
  refine lv_iload_n hx hb dX6_init_87 rfl (lv_at hl 0 rfl) ?_
  have hV : gV z (va_up (U2 z ov k (.inr (6, [.ref (gad z (k + 1)), .ref (gad z (k + 2)), .ref (gad z (k + 4)), .ref (gad z (k + 48)), .ref (gad z (k + 92)), .ref (gad z (k + 100)), .ref (gad z (k + 102)), .int 0])) (.inl (gca z 3, 8, .inr (.inr (.inr (.inr (va_up (fun _ => none) ((0 : Int32).toNatClampNeg) (some (gad z (k + 103)))))))))) (k + 105) (.inr (3, [.null, .int 0, .int 0, .int 0]))) (k + 105) _ := gV_ext hV (fun j hj => va_up_ne _ _ (by omega))
  refine r_new (T := TX3) (N := 4) (ci := 3) (fs := [.null, .int 0, .int 0, .int 0]) X hV hS tyX3 tyX3_ok rfl layX3 cl_X6_9 in_X3 ii_X3 (va_up_self _ _ _) (fun j hj => dv_3 j hj) (Nat.le_of_ble_eq_true rfl) (Nat.le_of_ble_eq_true rfl) dX6_init_88 (fun H hV hS => ?_)
  refine lv_dup hx hb dX6_init_91 rfl ?_
  refine r_cI (av := []) (rest := [.ref (gad z (k + 105)), .int 1, .ref (gad z (k + 1))]) X hV hS (ct_X3_init l z (k := (k + 105)) (ov := va_up (U2 z ov k (.inr (6, [.ref (gad z (k + 1)), .ref (gad z (k + 2)), .ref (gad z (k + 4)), .ref (gad z (k + 48)), .ref (gad z (k + 92)), .ref (gad z (k + 100)), .ref (gad z (k + 102)), .int 0])) (.inl (gca z 3, 8, .inr (.inr (.inr (.inr (va_up (fun _ => none) ((0 : Int32).toNatClampNeg) (some (gad z (k + 103)))))))))) (k + 105) (.inr (3, [.null, .int 0, .int 0, .int 0]))) (kq_6_105 hk) (va_up_self _ _ _)) mi_X3_init mj_X3_init rfl ml_X6_50 rfl ⟨rfl, rfl, Nat.le_of_ble_eq_true rfl, Nat.le_of_ble_eq_true rfl⟩ ⟨Nat.le_of_ble_eq_true rfl, Nat.le_of_ble_eq_true rfl⟩ hl.1 (Nat.le_of_ble_eq_true rfl) rfl dX6_init_92 (fun H locs hV hS => ?_)
  have hV : gV z (U2 z ov k (.inr (6, [.ref (gad z (k + 1)), .ref (gad z (k + 2)), .ref (gad z (k + 4)), .ref (gad z (k + 48)), .ref (gad z (k + 92)), .ref (gad z (k + 100)), .ref (gad z (k + 102)), .int 0])) (.inl (gca z 3, 8, .inr (.inr (.inr (.inr (va_up (fun _ => none) ((0 : Int32).toNatClampNeg) (some (gad z (k + 103)))))))))) (k + 107) H := gV_ext hV (fun j _ => U2_back (Or.inr (by omega)) j)
  refine r_aast (ov2 := (U2 z ov k (.inr (6, [.ref (gad z (k + 1)), .ref (gad z (k + 2)), .ref (gad z (k + 4)), .ref (gad z (k + 48)), .ref (gad z (k + 92)), .ref (gad z (k + 100)), .ref (gad z (k + 102)), .int 0])) (.inl (gca z 3, 8, .inr (.inr (.inr (.inr (va_up (va_up (fun _ => none) ((0 : Int32).toNatClampNeg) (some (gad z (k + 103)))) ((1 : Int32).toNatClampNeg) (some (gad z (k + 105))))))))))) (t0 := 3) (ci := 3) (q := (RX3, TX3, 4)) X hV hS (by omega) (by omega) U2_1 ((U2_n (by omega)).trans (cell_O z M0 (kq_6_105 hk) (by decide))) rfl rfl (vin_lit (i := 1) (n := 8) (by decide)) U2_1 (fun j hj => U2_e1 hj) dX6_init_95 (fun H locs hV hS => ?_)
  refine lv_iinc (v := 2) (lv' := [(1, .int 2), (0, .ref (gad z k))]) hx hb dX6_init_96 hl (k := 0) rfl (by decide) (by decide) rfl (fun ls hl => ?_)
  refine lv_goto (tgt := 77) hx hb dX6_init_99 (by decide) ?_
  refine lv_iload_n hx hb dX6_init_77 rfl (lv_at hl 0 rfl) ?_
  refine lv_bipush (v := 8) hx hb dX6_init_78 (by decide) ?_
  refine lv_icmp_ge (tgt := 102) hx hb dX6_init_80 (by decide) (fun q => absurd q (by decide)) (fun _ => ?_)
  refine lv_aload_n hx hb dX6_init_83 rfl (lv_at hl 1 rfl) ?_
  refine r_get (T := TX6) (N := 8) (ci := 6) (fs := [.ref (gad z (k + 1)), .ref (gad z (k + 2)), .ref (gad z (k + 4)), .ref (gad z (k + 48)), .ref (gad z (k + 92)), .ref (gad z (k + 100)), .ref (gad z (k + 102)), .int 0]) X hV (by omega) U2_0 rfl layX6 0 (by decide) rfl fw_X6_11 rfl dX6_init_84 ?_
  refine lv_iload_n hx hb dX6_init_87 rfl (lv_at hl 0 rfl) ?_
  have hV : gV z (va_up (U2 z ov k (.inr (6, [.ref (gad z (k + 1)), .ref (gad z (k + 2)), .ref (gad z (k + 4)), .ref (gad z (k + 48)), .ref (gad z (k + 92)), .ref (gad z (k + 100)), .ref (gad z (k + 102)), .int 0])) (.inl (gca z 3, 8, .inr (.inr (.inr (.inr (va_up (va_up (fun _ => none) ((0 : Int32).toNatClampNeg) (some (gad z (k + 103)))) ((1 : Int32).toNatClampNeg) (some (gad z (k + 105)))))))))) (k + 107) (.inr (3, [.null, .int 0, .int 0, .int 0]))) (k + 107) _ := gV_ext hV (fun j hj => va_up_ne _ _ (by omega))
  refine r_new (T := TX3) (N := 4) (ci := 3) (fs := [.null, .int 0, .int 0, .int 0]) X hV hS tyX3 tyX3_ok rfl layX3 cl_X6_9 in_X3 ii_X3 (va_up_self _ _ _) (fun j hj => dv_3 j hj) (Nat.le_of_ble_eq_true rfl) (Nat.le_of_ble_eq_true rfl) dX6_init_88 (fun H hV hS => ?_)
  refine lv_dup hx hb dX6_init_91 rfl ?_
  refine r_cI (av := []) (rest := [.ref (gad z (k + 107)), .int 2, .ref (gad z (k + 1))]) X hV hS (ct_X3_init l z (k := (k + 107)) (ov := va_up (U2 z ov k (.inr (6, [.ref (gad z (k + 1)), .ref (gad z (k + 2)), .ref (gad z (k + 4)), .ref (gad z (k + 48)), .ref (gad z (k + 92)), .ref (gad z (k + 100)), .ref (gad z (k + 102)), .int 0])) (.inl (gca z 3, 8, .inr (.inr (.inr (.inr (va_up (va_up (fun _ => none) ((0 : Int32).toNatClampNeg) (some (gad z (k + 103)))) ((1 : Int32).toNatClampNeg) (some (gad z (k + 105)))))))))) (k + 107) (.inr (3, [.null, .int 0, .int 0, .int 0]))) (kq_6_107 hk) (va_up_self _ _ _)) mi_X3_init mj_X3_init rfl ml_X6_50 rfl ⟨rfl, rfl, Nat.le_of_ble_eq_true rfl, Nat.le_of_ble_eq_true rfl⟩ ⟨Nat.le_of_ble_eq_true rfl, Nat.le_of_ble_eq_true rfl⟩ hl.1 (Nat.le_of_ble_eq_true rfl) rfl dX6_init_92 (fun H locs hV hS => ?_)
  have hV : gV z (U2 z ov k (.inr (6, [.ref (gad z (k + 1)), .ref (gad z (k + 2)), .ref (gad z (k + 4)), .ref (gad z (k + 48)), .ref (gad z (k + 92)), .ref (gad z (k + 100)), .ref (gad z (k + 102)), .int 0])) (.inl (gca z 3, 8, .inr (.inr (.inr (.inr (va_up (va_up (fun _ => none) ((0 : Int32).toNatClampNeg) (some (gad z (k + 103)))) ((1 : Int32).toNatClampNeg) (some (gad z (k + 105)))))))))) (k + 109) H := gV_ext hV (fun j _ => U2_back (Or.inr (by omega)) j)
  refine r_aast (ov2 := (U2 z ov k (.inr (6, [.ref (gad z (k + 1)), .ref (gad z (k + 2)), .ref (gad z (k + 4)), .ref (gad z (k + 48)), .ref (gad z (k + 92)), .ref (gad z (k + 100)), .ref (gad z (k + 102)), .int 0])) (.inl (gca z 3, 8, .inr (.inr (.inr (.inr (va_up (va_up (va_up (fun _ => none) ((0 : Int32).toNatClampNeg) (some (gad z (k + 103)))) ((1 : Int32).toNatClampNeg) (some (gad z (k + 105)))) ((2 : Int32).toNatClampNeg) (some (gad z (k + 107))))))))))) (t0 := 3) (ci := 3) (q := (RX3, TX3, 4)) X hV hS (by omega) (by omega) U2_1 ((U2_n (by omega)).trans (cell_O z M0 (kq_6_107 hk) (by decide))) rfl rfl (vin_lit (i := 2) (n := 8) (by decide)) U2_1 (fun j hj => U2_e1 hj) dX6_init_95 (fun H locs hV hS => ?_)
  refine lv_iinc (v := 3) (lv' := [(1, .int 3), (0, .ref (gad z k))]) hx hb dX6_init_96 hl (k := 0) rfl (by decide) (by decide) rfl (fun ls hl => ?_)
  refine lv_goto (tgt := 77) hx hb dX6_init_99 (by decide) ?_
  refine lv_iload_n hx hb dX6_init_77 rfl (lv_at hl 0 rfl) ?_
  refine lv_bipush (v := 8) hx hb dX6_init_78 (by decide) ?_
  refine lv_icmp_ge (tgt := 102) hx hb dX6_init_80 (by decide) (fun q => absurd q (by decide)) (fun _ => ?_)
  refine lv_aload_n hx hb dX6_init_83 rfl (lv_at hl 1 rfl) ?_
  refine r_get (T := TX6) (N := 8) (ci := 6) (fs := [.ref (gad z (k + 1)), .ref (gad z (k + 2)), .ref (gad z (k + 4)), .ref (gad z (k + 48)), .ref (gad z (k + 92)), .ref (gad z (k + 100)), .ref (gad z (k + 102)), .int 0]) X hV (by omega) U2_0 rfl layX6 0 (by decide) rfl fw_X6_11 rfl dX6_init_84 ?_
  refine lv_iload_n hx hb dX6_init_87 rfl (lv_at hl 0 rfl) ?_
  have hV : gV z (va_up (U2 z ov k (.inr (6, [.ref (gad z (k + 1)), .ref (gad z (k + 2)), .ref (gad z (k + 4)), .ref (gad z (k + 48)), .ref (gad z (k + 92)), .ref (gad z (k + 100)), .ref (gad z (k + 102)), .int 0])) (.inl (gca z 3, 8, .inr (.inr (.inr (.inr (va_up (va_up (va_up (fun _ => none) ((0 : Int32).toNatClampNeg) (some (gad z (k + 103)))) ((1 : Int32).toNatClampNeg) (some (gad z (k + 105)))) ((2 : Int32).toNatClampNeg) (some (gad z (k + 107)))))))))) (k + 109) (.inr (3, [.null, .int 0, .int 0, .int 0]))) (k + 109) _ := gV_ext hV (fun j hj => va_up_ne _ _ (by omega))
  refine r_new (T := TX3) (N := 4) (ci := 3) (fs := [.null, .int 0, .int 0, .int 0]) X hV hS tyX3 tyX3_ok rfl layX3 cl_X6_9 in_X3 ii_X3 (va_up_self _ _ _) (fun j hj => dv_3 j hj) (Nat.le_of_ble_eq_true rfl) (Nat.le_of_ble_eq_true rfl) dX6_init_88 (fun H hV hS => ?_)
  refine lv_dup hx hb dX6_init_91 rfl ?_
  refine r_cI (av := []) (rest := [.ref (gad z (k + 109)), .int 3, .ref (gad z (k + 1))]) X hV hS (ct_X3_init l z (k := (k + 109)) (ov := va_up (U2 z ov k (.inr (6, [.ref (gad z (k + 1)), .ref (gad z (k + 2)), .ref (gad z (k + 4)), .ref (gad z (k + 48)), .ref (gad z (k + 92)), .ref (gad z (k + 100)), .ref (gad z (k + 102)), .int 0])) (.inl (gca z 3, 8, .inr (.inr (.inr (.inr (va_up (va_up (va_up (fun _ => none) ((0 : Int32).toNatClampNeg) (some (gad z (k + 103)))) ((1 : Int32).toNatClampNeg) (some (gad z (k + 105)))) ((2 : Int32).toNatClampNeg) (some (gad z (k + 107)))))))))) (k + 109) (.inr (3, [.null, .int 0, .int 0, .int 0]))) (kq_6_109 hk) (va_up_self _ _ _)) mi_X3_init mj_X3_init rfl ml_X6_50 rfl ⟨rfl, rfl, Nat.le_of_ble_eq_true rfl, Nat.le_of_ble_eq_true rfl⟩ ⟨Nat.le_of_ble_eq_true rfl, Nat.le_of_ble_eq_true rfl⟩ hl.1 (Nat.le_of_ble_eq_true rfl) rfl dX6_init_92 (fun H locs hV hS => ?_)
  have hV : gV z (U2 z ov k (.inr (6, [.ref (gad z (k + 1)), .ref (gad z (k + 2)), .ref (gad z (k + 4)), .ref (gad z (k + 48)), .ref (gad z (k + 92)), .ref (gad z (k + 100)), .ref (gad z (k + 102)), .int 0])) (.inl (gca z 3, 8, .inr (.inr (.inr (.inr (va_up (va_up (va_up (fun _ => none) ((0 : Int32).toNatClampNeg) (some (gad z (k + 103)))) ((1 : Int32).toNatClampNeg) (some (gad z (k + 105)))) ((2 : Int32).toNatClampNeg) (some (gad z (k + 107)))))))))) (k + 111) H := gV_ext hV (fun j _ => U2_back (Or.inr (by omega)) j)
  refine r_aast (ov2 := (U2 z ov k (.inr (6, [.ref (gad z (k + 1)), .ref (gad z (k + 2)), .ref (gad z (k + 4)), .ref (gad z (k + 48)), .ref (gad z (k + 92)), .ref (gad z (k + 100)), .ref (gad z (k + 102)), .int 0])) (.inl (gca z 3, 8, .inr (.inr (.inr (.inr (va_up (va_up (va_up (va_up (fun _ => none) ((0 : Int32).toNatClampNeg) (some (gad z (k + 103)))) ((1 : Int32).toNatClampNeg) (some (gad z (k + 105)))) ((2 : Int32).toNatClampNeg) (some (gad z (k + 107)))) ((3 : Int32).toNatClampNeg) (some (gad z (k + 109))))))))))) (t0 := 3) (ci := 3) (q := (RX3, TX3, 4)) X hV hS (by omega) (by omega) U2_1 ((U2_n (by omega)).trans (cell_O z M0 (kq_6_109 hk) (by decide))) rfl rfl (vin_lit (i := 3) (n := 8) (by decide)) U2_1 (fun j hj => U2_e1 hj) dX6_init_95 (fun H locs hV hS => ?_)
  refine lv_iinc (v := 4) (lv' := [(1, .int 4), (0, .ref (gad z k))]) hx hb dX6_init_96 hl (k := 0) rfl (by decide) (by decide) rfl (fun ls hl => ?_)
  refine lv_goto (tgt := 77) hx hb dX6_init_99 (by decide) ?_
  refine lv_iload_n hx hb dX6_init_77 rfl (lv_at hl 0 rfl) ?_
  refine lv_bipush (v := 8) hx hb dX6_init_78 (by decide) ?_
  refine lv_icmp_ge (tgt := 102) hx hb dX6_init_80 (by decide) (fun q => absurd q (by decide)) (fun _ => ?_)
  refine lv_aload_n hx hb dX6_init_83 rfl (lv_at hl 1 rfl) ?_
  refine r_get (T := TX6) (N := 8) (ci := 6) (fs := [.ref (gad z (k + 1)), .ref (gad z (k + 2)), .ref (gad z (k + 4)), .ref (gad z (k + 48)), .ref (gad z (k + 92)), .ref (gad z (k + 100)), .ref (gad z (k + 102)), .int 0]) X hV (by omega) U2_0 rfl layX6 0 (by decide) rfl fw_X6_11 rfl dX6_init_84 ?_
  refine lv_iload_n hx hb dX6_init_87 rfl (lv_at hl 0 rfl) ?_
  have hV : gV z (va_up (U2 z ov k (.inr (6, [.ref (gad z (k + 1)), .ref (gad z (k + 2)), .ref (gad z (k + 4)), .ref (gad z (k + 48)), .ref (gad z (k + 92)), .ref (gad z (k + 100)), .ref (gad z (k + 102)), .int 0])) (.inl (gca z 3, 8, .inr (.inr (.inr (.inr (va_up (va_up (va_up (va_up (fun _ => none) ((0 : Int32).toNatClampNeg) (some (gad z (k + 103)))) ((1 : Int32).toNatClampNeg) (some (gad z (k + 105)))) ((2 : Int32).toNatClampNeg) (some (gad z (k + 107)))) ((3 : Int32).toNatClampNeg) (some (gad z (k + 109)))))))))) (k + 111) (.inr (3, [.null, .int 0, .int 0, .int 0]))) (k + 111) _ := gV_ext hV (fun j hj => va_up_ne _ _ (by omega))
  refine r_new (T := TX3) (N := 4) (ci := 3) (fs := [.null, .int 0, .int 0, .int 0]) X hV hS tyX3 tyX3_ok rfl layX3 cl_X6_9 in_X3 ii_X3 (va_up_self _ _ _) (fun j hj => dv_3 j hj) (Nat.le_of_ble_eq_true rfl) (Nat.le_of_ble_eq_true rfl) dX6_init_88 (fun H hV hS => ?_)
  refine lv_dup hx hb dX6_init_91 rfl ?_
  refine r_cI (av := []) (rest := [.ref (gad z (k + 111)), .int 4, .ref (gad z (k + 1))]) X hV hS (ct_X3_init l z (k := (k + 111)) (ov := va_up (U2 z ov k (.inr (6, [.ref (gad z (k + 1)), .ref (gad z (k + 2)), .ref (gad z (k + 4)), .ref (gad z (k + 48)), .ref (gad z (k + 92)), .ref (gad z (k + 100)), .ref (gad z (k + 102)), .int 0])) (.inl (gca z 3, 8, .inr (.inr (.inr (.inr (va_up (va_up (va_up (va_up (fun _ => none) ((0 : Int32).toNatClampNeg) (some (gad z (k + 103)))) ((1 : Int32).toNatClampNeg) (some (gad z (k + 105)))) ((2 : Int32).toNatClampNeg) (some (gad z (k + 107)))) ((3 : Int32).toNatClampNeg) (some (gad z (k + 109)))))))))) (k + 111) (.inr (3, [.null, .int 0, .int 0, .int 0]))) (kq_6_111 hk) (va_up_self _ _ _)) mi_X3_init mj_X3_init rfl ml_X6_50 rfl ⟨rfl, rfl, Nat.le_of_ble_eq_true rfl, Nat.le_of_ble_eq_true rfl⟩ ⟨Nat.le_of_ble_eq_true rfl, Nat.le_of_ble_eq_true rfl⟩ hl.1 (Nat.le_of_ble_eq_true rfl) rfl dX6_init_92 (fun H locs hV hS => ?_)
  have hV : gV z (U2 z ov k (.inr (6, [.ref (gad z (k + 1)), .ref (gad z (k + 2)), .ref (gad z (k + 4)), .ref (gad z (k + 48)), .ref (gad z (k + 92)), .ref (gad z (k + 100)), .ref (gad z (k + 102)), .int 0])) (.inl (gca z 3, 8, .inr (.inr (.inr (.inr (va_up (va_up (va_up (va_up (fun _ => none) ((0 : Int32).toNatClampNeg) (some (gad z (k + 103)))) ((1 : Int32).toNatClampNeg) (some (gad z (k + 105)))) ((2 : Int32).toNatClampNeg) (some (gad z (k + 107)))) ((3 : Int32).toNatClampNeg) (some (gad z (k + 109)))))))))) (k + 113) H := gV_ext hV (fun j _ => U2_back (Or.inr (by omega)) j)
  refine r_aast (ov2 := (U2 z ov k (.inr (6, [.ref (gad z (k + 1)), .ref (gad z (k + 2)), .ref (gad z (k + 4)), .ref (gad z (k + 48)), .ref (gad z (k + 92)), .ref (gad z (k + 100)), .ref (gad z (k + 102)), .int 0])) (.inl (gca z 3, 8, .inr (.inr (.inr (.inr (va_up (va_up (va_up (va_up (va_up (fun _ => none) ((0 : Int32).toNatClampNeg) (some (gad z (k + 103)))) ((1 : Int32).toNatClampNeg) (some (gad z (k + 105)))) ((2 : Int32).toNatClampNeg) (some (gad z (k + 107)))) ((3 : Int32).toNatClampNeg) (some (gad z (k + 109)))) ((4 : Int32).toNatClampNeg) (some (gad z (k + 111))))))))))) (t0 := 3) (ci := 3) (q := (RX3, TX3, 4)) X hV hS (by omega) (by omega) U2_1 ((U2_n (by omega)).trans (cell_O z M0 (kq_6_111 hk) (by decide))) rfl rfl (vin_lit (i := 4) (n := 8) (by decide)) U2_1 (fun j hj => U2_e1 hj) dX6_init_95 (fun H locs hV hS => ?_)
  refine lv_iinc (v := 5) (lv' := [(1, .int 5), (0, .ref (gad z k))]) hx hb dX6_init_96 hl (k := 0) rfl (by decide) (by decide) rfl (fun ls hl => ?_)
  refine lv_goto (tgt := 77) hx hb dX6_init_99 (by decide) ?_
  refine lv_iload_n hx hb dX6_init_77 rfl (lv_at hl 0 rfl) ?_
  refine lv_bipush (v := 8) hx hb dX6_init_78 (by decide) ?_
  refine lv_icmp_ge (tgt := 102) hx hb dX6_init_80 (by decide) (fun q => absurd q (by decide)) (fun _ => ?_)
  refine lv_aload_n hx hb dX6_init_83 rfl (lv_at hl 1 rfl) ?_
  refine r_get (T := TX6) (N := 8) (ci := 6) (fs := [.ref (gad z (k + 1)), .ref (gad z (k + 2)), .ref (gad z (k + 4)), .ref (gad z (k + 48)), .ref (gad z (k + 92)), .ref (gad z (k + 100)), .ref (gad z (k + 102)), .int 0]) X hV (by omega) U2_0 rfl layX6 0 (by decide) rfl fw_X6_11 rfl dX6_init_84 ?_
  refine lv_iload_n hx hb dX6_init_87 rfl (lv_at hl 0 rfl) ?_
  have hV : gV z (va_up (U2 z ov k (.inr (6, [.ref (gad z (k + 1)), .ref (gad z (k + 2)), .ref (gad z (k + 4)), .ref (gad z (k + 48)), .ref (gad z (k + 92)), .ref (gad z (k + 100)), .ref (gad z (k + 102)), .int 0])) (.inl (gca z 3, 8, .inr (.inr (.inr (.inr (va_up (va_up (va_up (va_up (va_up (fun _ => none) ((0 : Int32).toNatClampNeg) (some (gad z (k + 103)))) ((1 : Int32).toNatClampNeg) (some (gad z (k + 105)))) ((2 : Int32).toNatClampNeg) (some (gad z (k + 107)))) ((3 : Int32).toNatClampNeg) (some (gad z (k + 109)))) ((4 : Int32).toNatClampNeg) (some (gad z (k + 111)))))))))) (k + 113) (.inr (3, [.null, .int 0, .int 0, .int 0]))) (k + 113) _ := gV_ext hV (fun j hj => va_up_ne _ _ (by omega))
  refine r_new (T := TX3) (N := 4) (ci := 3) (fs := [.null, .int 0, .int 0, .int 0]) X hV hS tyX3 tyX3_ok rfl layX3 cl_X6_9 in_X3 ii_X3 (va_up_self _ _ _) (fun j hj => dv_3 j hj) (Nat.le_of_ble_eq_true rfl) (Nat.le_of_ble_eq_true rfl) dX6_init_88 (fun H hV hS => ?_)
  refine lv_dup hx hb dX6_init_91 rfl ?_
  refine r_cI (av := []) (rest := [.ref (gad z (k + 113)), .int 5, .ref (gad z (k + 1))]) X hV hS (ct_X3_init l z (k := (k + 113)) (ov := va_up (U2 z ov k (.inr (6, [.ref (gad z (k + 1)), .ref (gad z (k + 2)), .ref (gad z (k + 4)), .ref (gad z (k + 48)), .ref (gad z (k + 92)), .ref (gad z (k + 100)), .ref (gad z (k + 102)), .int 0])) (.inl (gca z 3, 8, .inr (.inr (.inr (.inr (va_up (va_up (va_up (va_up (va_up (fun _ => none) ((0 : Int32).toNatClampNeg) (some (gad z (k + 103)))) ((1 : Int32).toNatClampNeg) (some (gad z (k + 105)))) ((2 : Int32).toNatClampNeg) (some (gad z (k + 107)))) ((3 : Int32).toNatClampNeg) (some (gad z (k + 109)))) ((4 : Int32).toNatClampNeg) (some (gad z (k + 111)))))))))) (k + 113) (.inr (3, [.null, .int 0, .int 0, .int 0]))) (kq_6_113 hk) (va_up_self _ _ _)) mi_X3_init mj_X3_init rfl ml_X6_50 rfl ⟨rfl, rfl, Nat.le_of_ble_eq_true rfl, Nat.le_of_ble_eq_true rfl⟩ ⟨Nat.le_of_ble_eq_true rfl, Nat.le_of_ble_eq_true rfl⟩ hl.1 (Nat.le_of_ble_eq_true rfl) rfl dX6_init_92 (fun H locs hV hS => ?_)
  have hV : gV z (U2 z ov k (.inr (6, [.ref (gad z (k + 1)), .ref (gad z (k + 2)), .ref (gad z (k + 4)), .ref (gad z (k + 48)), .ref (gad z (k + 92)), .ref (gad z (k + 100)), .ref (gad z (k + 102)), .int 0])) (.inl (gca z 3, 8, .inr (.inr (.inr (.inr (va_up (va_up (va_up (va_up (va_up (fun _ => none) ((0 : Int32).toNatClampNeg) (some (gad z (k + 103)))) ((1 : Int32).toNatClampNeg) (some (gad z (k + 105)))) ((2 : Int32).toNatClampNeg) (some (gad z (k + 107)))) ((3 : Int32).toNatClampNeg) (some (gad z (k + 109)))) ((4 : Int32).toNatClampNeg) (some (gad z (k + 111)))))))))) (k + 115) H := gV_ext hV (fun j _ => U2_back (Or.inr (by omega)) j)
  refine r_aast (ov2 := (U2 z ov k (.inr (6, [.ref (gad z (k + 1)), .ref (gad z (k + 2)), .ref (gad z (k + 4)), .ref (gad z (k + 48)), .ref (gad z (k + 92)), .ref (gad z (k + 100)), .ref (gad z (k + 102)), .int 0])) (.inl (gca z 3, 8, .inr (.inr (.inr (.inr (va_up (va_up (va_up (va_up (va_up (va_up (fun _ => none) ((0 : Int32).toNatClampNeg) (some (gad z (k + 103)))) ((1 : Int32).toNatClampNeg) (some (gad z (k + 105)))) ((2 : Int32).toNatClampNeg) (some (gad z (k + 107)))) ((3 : Int32).toNatClampNeg) (some (gad z (k + 109)))) ((4 : Int32).toNatClampNeg) (some (gad z (k + 111)))) ((5 : Int32).toNatClampNeg) (some (gad z (k + 113))))))))))) (t0 := 3) (ci := 3) (q := (RX3, TX3, 4)) X hV hS (by omega) (by omega) U2_1 ((U2_n (by omega)).trans (cell_O z M0 (kq_6_113 hk) (by decide))) rfl rfl (vin_lit (i := 5) (n := 8) (by decide)) U2_1 (fun j hj => U2_e1 hj) dX6_init_95 (fun H locs hV hS => ?_)
  refine lv_iinc (v := 6) (lv' := [(1, .int 6), (0, .ref (gad z k))]) hx hb dX6_init_96 hl (k := 0) rfl (by decide) (by decide) rfl (fun ls hl => ?_)
  refine lv_goto (tgt := 77) hx hb dX6_init_99 (by decide) ?_
  refine lv_iload_n hx hb dX6_init_77 rfl (lv_at hl 0 rfl) ?_
  refine lv_bipush (v := 8) hx hb dX6_init_78 (by decide) ?_
  refine lv_icmp_ge (tgt := 102) hx hb dX6_init_80 (by decide) (fun q => absurd q (by decide)) (fun _ => ?_)
  refine lv_aload_n hx hb dX6_init_83 rfl (lv_at hl 1 rfl) ?_
  refine r_get (T := TX6) (N := 8) (ci := 6) (fs := [.ref (gad z (k + 1)), .ref (gad z (k + 2)), .ref (gad z (k + 4)), .ref (gad z (k + 48)), .ref (gad z (k + 92)), .ref (gad z (k + 100)), .ref (gad z (k + 102)), .int 0]) X hV (by omega) U2_0 rfl layX6 0 (by decide) rfl fw_X6_11 rfl dX6_init_84 ?_
  refine lv_iload_n hx hb dX6_init_87 rfl (lv_at hl 0 rfl) ?_
  have hV : gV z (va_up (U2 z ov k (.inr (6, [.ref (gad z (k + 1)), .ref (gad z (k + 2)), .ref (gad z (k + 4)), .ref (gad z (k + 48)), .ref (gad z (k + 92)), .ref (gad z (k + 100)), .ref (gad z (k + 102)), .int 0])) (.inl (gca z 3, 8, .inr (.inr (.inr (.inr (va_up (va_up (va_up (va_up (va_up (va_up (fun _ => none) ((0 : Int32).toNatClampNeg) (some (gad z (k + 103)))) ((1 : Int32).toNatClampNeg) (some (gad z (k + 105)))) ((2 : Int32).toNatClampNeg) (some (gad z (k + 107)))) ((3 : Int32).toNatClampNeg) (some (gad z (k + 109)))) ((4 : Int32).toNatClampNeg) (some (gad z (k + 111)))) ((5 : Int32).toNatClampNeg) (some (gad z (k + 113)))))))))) (k + 115) (.inr (3, [.null, .int 0, .int 0, .int 0]))) (k + 115) _ := gV_ext hV (fun j hj => va_up_ne _ _ (by omega))
  refine r_new (T := TX3) (N := 4) (ci := 3) (fs := [.null, .int 0, .int 0, .int 0]) X hV hS tyX3 tyX3_ok rfl layX3 cl_X6_9 in_X3 ii_X3 (va_up_self _ _ _) (fun j hj => dv_3 j hj) (Nat.le_of_ble_eq_true rfl) (Nat.le_of_ble_eq_true rfl) dX6_init_88 (fun H hV hS => ?_)
  refine lv_dup hx hb dX6_init_91 rfl ?_
  refine r_cI (av := []) (rest := [.ref (gad z (k + 115)), .int 6, .ref (gad z (k + 1))]) X hV hS (ct_X3_init l z (k := (k + 115)) (ov := va_up (U2 z ov k (.inr (6, [.ref (gad z (k + 1)), .ref (gad z (k + 2)), .ref (gad z (k + 4)), .ref (gad z (k + 48)), .ref (gad z (k + 92)), .ref (gad z (k + 100)), .ref (gad z (k + 102)), .int 0])) (.inl (gca z 3, 8, .inr (.inr (.inr (.inr (va_up (va_up (va_up (va_up (va_up (va_up (fun _ => none) ((0 : Int32).toNatClampNeg) (some (gad z (k + 103)))) ((1 : Int32).toNatClampNeg) (some (gad z (k + 105)))) ((2 : Int32).toNatClampNeg) (some (gad z (k + 107)))) ((3 : Int32).toNatClampNeg) (some (gad z (k + 109)))) ((4 : Int32).toNatClampNeg) (some (gad z (k + 111)))) ((5 : Int32).toNatClampNeg) (some (gad z (k + 113)))))))))) (k + 115) (.inr (3, [.null, .int 0, .int 0, .int 0]))) (kq_6_115 hk) (va_up_self _ _ _)) mi_X3_init mj_X3_init rfl ml_X6_50 rfl ⟨rfl, rfl, Nat.le_of_ble_eq_true rfl, Nat.le_of_ble_eq_true rfl⟩ ⟨Nat.le_of_ble_eq_true rfl, Nat.le_of_ble_eq_true rfl⟩ hl.1 (Nat.le_of_ble_eq_true rfl) rfl dX6_init_92 (fun H locs hV hS => ?_)
  have hV : gV z (U2 z ov k (.inr (6, [.ref (gad z (k + 1)), .ref (gad z (k + 2)), .ref (gad z (k + 4)), .ref (gad z (k + 48)), .ref (gad z (k + 92)), .ref (gad z (k + 100)), .ref (gad z (k + 102)), .int 0])) (.inl (gca z 3, 8, .inr (.inr (.inr (.inr (va_up (va_up (va_up (va_up (va_up (va_up (fun _ => none) ((0 : Int32).toNatClampNeg) (some (gad z (k + 103)))) ((1 : Int32).toNatClampNeg) (some (gad z (k + 105)))) ((2 : Int32).toNatClampNeg) (some (gad z (k + 107)))) ((3 : Int32).toNatClampNeg) (some (gad z (k + 109)))) ((4 : Int32).toNatClampNeg) (some (gad z (k + 111)))) ((5 : Int32).toNatClampNeg) (some (gad z (k + 113)))))))))) (k + 117) H := gV_ext hV (fun j _ => U2_back (Or.inr (by omega)) j)
  refine r_aast (ov2 := (U2 z ov k (.inr (6, [.ref (gad z (k + 1)), .ref (gad z (k + 2)), .ref (gad z (k + 4)), .ref (gad z (k + 48)), .ref (gad z (k + 92)), .ref (gad z (k + 100)), .ref (gad z (k + 102)), .int 0])) (.inl (gca z 3, 8, .inr (.inr (.inr (.inr (va_up (va_up (va_up (va_up (va_up (va_up (va_up (fun _ => none) ((0 : Int32).toNatClampNeg) (some (gad z (k + 103)))) ((1 : Int32).toNatClampNeg) (some (gad z (k + 105)))) ((2 : Int32).toNatClampNeg) (some (gad z (k + 107)))) ((3 : Int32).toNatClampNeg) (some (gad z (k + 109)))) ((4 : Int32).toNatClampNeg) (some (gad z (k + 111)))) ((5 : Int32).toNatClampNeg) (some (gad z (k + 113)))) ((6 : Int32).toNatClampNeg) (some (gad z (k + 115))))))))))) (t0 := 3) (ci := 3) (q := (RX3, TX3, 4)) X hV hS (by omega) (by omega) U2_1 ((U2_n (by omega)).trans (cell_O z M0 (kq_6_115 hk) (by decide))) rfl rfl (vin_lit (i := 6) (n := 8) (by decide)) U2_1 (fun j hj => U2_e1 hj) dX6_init_95 (fun H locs hV hS => ?_)
  refine lv_iinc (v := 7) (lv' := [(1, .int 7), (0, .ref (gad z k))]) hx hb dX6_init_96 hl (k := 0) rfl (by decide) (by decide) rfl (fun ls hl => ?_)
  refine lv_goto (tgt := 77) hx hb dX6_init_99 (by decide) ?_
  refine lv_iload_n hx hb dX6_init_77 rfl (lv_at hl 0 rfl) ?_
  refine lv_bipush (v := 8) hx hb dX6_init_78 (by decide) ?_
  refine lv_icmp_ge (tgt := 102) hx hb dX6_init_80 (by decide) (fun q => absurd q (by decide)) (fun _ => ?_)
  refine lv_aload_n hx hb dX6_init_83 rfl (lv_at hl 1 rfl) ?_
  refine r_get (T := TX6) (N := 8) (ci := 6) (fs := [.ref (gad z (k + 1)), .ref (gad z (k + 2)), .ref (gad z (k + 4)), .ref (gad z (k + 48)), .ref (gad z (k + 92)), .ref (gad z (k + 100)), .ref (gad z (k + 102)), .int 0]) X hV (by omega) U2_0 rfl layX6 0 (by decide) rfl fw_X6_11 rfl dX6_init_84 ?_
  refine lv_iload_n hx hb dX6_init_87 rfl (lv_at hl 0 rfl) ?_
  have hV : gV z (va_up (U2 z ov k (.inr (6, [.ref (gad z (k + 1)), .ref (gad z (k + 2)), .ref (gad z (k + 4)), .ref (gad z (k + 48)), .ref (gad z (k + 92)), .ref (gad z (k + 100)), .ref (gad z (k + 102)), .int 0])) (.inl (gca z 3, 8, .inr (.inr (.inr (.inr (va_up (va_up (va_up (va_up (va_up (va_up (va_up (fun _ => none) ((0 : Int32).toNatClampNeg) (some (gad z (k + 103)))) ((1 : Int32).toNatClampNeg) (some (gad z (k + 105)))) ((2 : Int32).toNatClampNeg) (some (gad z (k + 107)))) ((3 : Int32).toNatClampNeg) (some (gad z (k + 109)))) ((4 : Int32).toNatClampNeg) (some (gad z (k + 111)))) ((5 : Int32).toNatClampNeg) (some (gad z (k + 113)))) ((6 : Int32).toNatClampNeg) (some (gad z (k + 115)))))))))) (k + 117) (.inr (3, [.null, .int 0, .int 0, .int 0]))) (k + 117) _ := gV_ext hV (fun j hj => va_up_ne _ _ (by omega))
  refine r_new (T := TX3) (N := 4) (ci := 3) (fs := [.null, .int 0, .int 0, .int 0]) X hV hS tyX3 tyX3_ok rfl layX3 cl_X6_9 in_X3 ii_X3 (va_up_self _ _ _) (fun j hj => dv_3 j hj) (Nat.le_of_ble_eq_true rfl) (Nat.le_of_ble_eq_true rfl) dX6_init_88 (fun H hV hS => ?_)
  refine lv_dup hx hb dX6_init_91 rfl ?_
  refine r_cI (av := []) (rest := [.ref (gad z (k + 117)), .int 7, .ref (gad z (k + 1))]) X hV hS (ct_X3_init l z (k := (k + 117)) (ov := va_up (U2 z ov k (.inr (6, [.ref (gad z (k + 1)), .ref (gad z (k + 2)), .ref (gad z (k + 4)), .ref (gad z (k + 48)), .ref (gad z (k + 92)), .ref (gad z (k + 100)), .ref (gad z (k + 102)), .int 0])) (.inl (gca z 3, 8, .inr (.inr (.inr (.inr (va_up (va_up (va_up (va_up (va_up (va_up (va_up (fun _ => none) ((0 : Int32).toNatClampNeg) (some (gad z (k + 103)))) ((1 : Int32).toNatClampNeg) (some (gad z (k + 105)))) ((2 : Int32).toNatClampNeg) (some (gad z (k + 107)))) ((3 : Int32).toNatClampNeg) (some (gad z (k + 109)))) ((4 : Int32).toNatClampNeg) (some (gad z (k + 111)))) ((5 : Int32).toNatClampNeg) (some (gad z (k + 113)))) ((6 : Int32).toNatClampNeg) (some (gad z (k + 115)))))))))) (k + 117) (.inr (3, [.null, .int 0, .int 0, .int 0]))) (kq_6_117 hk) (va_up_self _ _ _)) mi_X3_init mj_X3_init rfl ml_X6_50 rfl ⟨rfl, rfl, Nat.le_of_ble_eq_true rfl, Nat.le_of_ble_eq_true rfl⟩ ⟨Nat.le_of_ble_eq_true rfl, Nat.le_of_ble_eq_true rfl⟩ hl.1 (Nat.le_of_ble_eq_true rfl) rfl dX6_init_92 (fun H locs hV hS => ?_)
  have hV : gV z (U2 z ov k (.inr (6, [.ref (gad z (k + 1)), .ref (gad z (k + 2)), .ref (gad z (k + 4)), .ref (gad z (k + 48)), .ref (gad z (k + 92)), .ref (gad z (k + 100)), .ref (gad z (k + 102)), .int 0])) (.inl (gca z 3, 8, .inr (.inr (.inr (.inr (va_up (va_up (va_up (va_up (va_up (va_up (va_up (fun _ => none) ((0 : Int32).toNatClampNeg) (some (gad z (k + 103)))) ((1 : Int32).toNatClampNeg) (some (gad z (k + 105)))) ((2 : Int32).toNatClampNeg) (some (gad z (k + 107)))) ((3 : Int32).toNatClampNeg) (some (gad z (k + 109)))) ((4 : Int32).toNatClampNeg) (some (gad z (k + 111)))) ((5 : Int32).toNatClampNeg) (some (gad z (k + 113)))) ((6 : Int32).toNatClampNeg) (some (gad z (k + 115)))))))))) (k + 119) H := gV_ext hV (fun j _ => U2_back (Or.inr (by omega)) j)
  refine r_aast (ov2 := (U2 z ov k (.inr (6, [.ref (gad z (k + 1)), .ref (gad z (k + 2)), .ref (gad z (k + 4)), .ref (gad z (k + 48)), .ref (gad z (k + 92)), .ref (gad z (k + 100)), .ref (gad z (k + 102)), .int 0])) (.inl (gca z 3, 8, .inr (.inr (.inr (.inr (va_up (va_up (va_up (va_up (va_up (va_up (va_up (va_up (fun _ => none) ((0 : Int32).toNatClampNeg) (some (gad z (k + 103)))) ((1 : Int32).toNatClampNeg) (some (gad z (k + 105)))) ((2 : Int32).toNatClampNeg) (some (gad z (k + 107)))) ((3 : Int32).toNatClampNeg) (some (gad z (k + 109)))) ((4 : Int32).toNatClampNeg) (some (gad z (k + 111)))) ((5 : Int32).toNatClampNeg) (some (gad z (k + 113)))) ((6 : Int32).toNatClampNeg) (some (gad z (k + 115)))) ((7 : Int32).toNatClampNeg) (some (gad z (k + 117))))))))))) (t0 := 3) (ci := 3) (q := (RX3, TX3, 4)) X hV hS (by omega) (by omega) U2_1 ((U2_n (by omega)).trans (cell_O z M0 (kq_6_117 hk) (by decide))) rfl rfl (vin_lit (i := 7) (n := 8) (by decide)) U2_1 (fun j hj => U2_e1 hj) dX6_init_95 (fun H locs hV hS => ?_)
  refine lv_iinc (v := 8) (lv' := [(1, .int 8), (0, .ref (gad z k))]) hx hb dX6_init_96 hl (k := 0) rfl (by decide) (by decide) rfl (fun ls hl => ?_)
  refine lv_goto (tgt := 77) hx hb dX6_init_99 (by decide) ?_
  refine lv_iload_n hx hb dX6_init_77 rfl (lv_at hl 0 rfl) ?_
  refine lv_bipush (v := 8) hx hb dX6_init_78 (by decide) ?_
  refine lv_icmp_ge (tgt := 102) hx hb dX6_init_80 (by decide) (fun _ => ?_) (fun q => absurd (by decide) q)
  have hV : gV z (mkB z ov k) (k + 119) H := U2_endR hV (cell_O z M0 hk (by decide) |>.trans (fl0_6 hk)) (cell_H z M0 (kq_6_1 hk) (by decide)) (fun i hi => ra_6 i hi)
  exact r_vret X hr hlk hV hS dX6_init_102
