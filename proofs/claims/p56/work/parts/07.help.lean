/-! helpers of the walks -/
theorem kd_big {a : Nat} (h : 237 ≤ a) : kd a = 99 := by
  have hl : kdL.length = 237 := by decide +kernel
  unfold kd; rw [List.getD_eq_getElem?_getD, List.getElem?_eq_none (by omega)]; rfl
theorem kd_r {P : Nat → Prop} [DecidablePred P] (h : ((List.range 237).all fun a => decide (P a)) = true) (hb : ∀ a, 237 ≤ a → P a) (a : Nat) : P a := by
  by_cases q : a < 237
  · exact of_decide_eq_true (List.all_eq_true.mp h a (List.mem_range.mpr q))
  · exact hb a (by omega)
theorem vin_lt {i : Int32} {n : Nat} (h : vp_in i n) : i.toNatClampNeg < n := Nat.not_le.mp fun q => h (Or.inr q)
theorem nx_0 {a n g : Nat} (h : a + (n + 1) ≤ g) : a < g := by omega
theorem nx_a {a n k g : Nat} (h : a + n ≤ g) (hk : k + 1 ≤ n) : a + k < g := by omega
theorem nx_o {a n k c g : Nat} (h : a + n ≤ g) (hk : k + c ≤ n) : a + k + c ≤ g := by omega
theorem nE {a n k g : Nat} {i : Int32} {q : Nat} (h : a + n ≤ g) (hi : vp_in i q) (hk : k + 1 + q ≤ n) : a + k + 1 + i.toNatClampNeg < g := by
  have := vin_lt hi; omega
theorem nS4 {a g : Nat} {i : Int32} (h : a + 44 ≤ g) (hi : vp_in i 4) : a + 1 + 11 + 8 * i.toNatClampNeg + 8 ≤ g := by
  have := vin_lt hi; omega
theorem nH8 {a g : Nat} {i : Int32} (h : a + 119 ≤ g) (hi : vp_in i 8) : a + 1 + 102 + 2 * i.toNatClampNeg + 2 ≤ g := by
  have := vin_lt hi; omega
theorem kS4 {q : Nat} {i : Int32} (h : kd q = 30000 + 4) (hi : vp_in i 4) : kd (q + 11 + 8 * i.toNatClampNeg) = 4 := kd_r (P := fun q => kd q = 30004 → ∀ j, j < 4 → kd (q + 11 + 8 * j) = 4) (by decide +kernel) (fun a ha h => by rw [kd_big ha] at h; cases h) q h _ (vin_lt hi)
theorem kH8 {q : Nat} {i : Int32} (h : kd q = 31000 + 8) (hi : vp_in i 8) : kd (q + 102 + 2 * i.toNatClampNeg) = 3 := kd_r (P := fun q => kd q = 31008 → ∀ j, j < 8 → kd (q + 102 + 2 * j) = 3) (by decide +kernel) (fun a ha h => by rw [kd_big ha] at h; cases h) q h _ (vin_lt hi)
theorem vin_lit {i : Int32} {n : Nat} (h : ¬ (i < 0 ∨ n ≤ i.toNatClampNeg)) : vp_in i n := h
theorem cnq {x : Int32} (h : x.toUInt32.toUInt16.toUInt32.toInt32 = x) : narrow .char (.int x) = .int x := congrArg Value.int h
theorem zn {x : Int32} (h : x = 0 ∨ x = 1) : narrow .boolean (.int x) = .int x := by rcases h with rfl | rfl <;> rfl
theorem kx_0_1 {a : Nat} (h : kd a = 0) : kd (a + 1) = 20000 + 64 := kd_r (P := fun a => kd a = 0 → kd (a + 1) = 20064) (by decide +kernel) (fun a ha h => by rw [kd_big ha] at h; cases h) a h
theorem kx_1_1 {a : Nat} (h : kd a = 1) : kd (a + 1) = 10000 + 160 := kd_r (P := fun a => kd a = 1 → kd (a + 1) = 10160) (by decide +kernel) (fun a ha h => by rw [kd_big ha] at h; cases h) a h
theorem kx_2_1 {a : Nat} (h : kd a = 2) : kd (a + 1) = 4 := kd_r (P := fun a => kd a = 2 → kd (a + 1) = 4) (by decide +kernel) (fun a ha h => by rw [kd_big ha] at h; cases h) a h
theorem kx_3_1 {a : Nat} (h : kd a = 3) : kd (a + 1) = 20000 + 40 := kd_r (P := fun a => kd a = 3 → kd (a + 1) = 20040) (by decide +kernel) (fun a ha h => by rw [kd_big ha] at h; cases h) a h
theorem kx_4_1 {a : Nat} (h : kd a = 4) : kd (a + 1) = 10000 + 12 := kd_r (P := fun a => kd a = 4 → kd (a + 1) = 10012) (by decide +kernel) (fun a ha h => by rw [kd_big ha] at h; cases h) a h
theorem kx_4_2 {a : Nat} (h : kd a = 4) : kd (a + 2) = 10000 + 12 := kd_r (P := fun a => kd a = 4 → kd (a + 2) = 10012) (by decide +kernel) (fun a ha h => by rw [kd_big ha] at h; cases h) a h
theorem kx_4_3 {a : Nat} (h : kd a = 4) : kd (a + 3) = 10000 + 12 := kd_r (P := fun a => kd a = 4 → kd (a + 3) = 10012) (by decide +kernel) (fun a ha h => by rw [kd_big ha] at h; cases h) a h
theorem kx_4_4 {a : Nat} (h : kd a = 4) : kd (a + 4) = 10000 + 12 := kd_r (P := fun a => kd a = 4 → kd (a + 4) = 10012) (by decide +kernel) (fun a ha h => by rw [kd_big ha] at h; cases h) a h
theorem kx_4_5 {a : Nat} (h : kd a = 4) : kd (a + 5) = 10000 + 12 := kd_r (P := fun a => kd a = 4 → kd (a + 5) = 10012) (by decide +kernel) (fun a ha h => by rw [kd_big ha] at h; cases h) a h
theorem kx_4_6 {a : Nat} (h : kd a = 4) : kd (a + 6) = 10000 + 144 := kd_r (P := fun a => kd a = 4 → kd (a + 6) = 10144) (by decide +kernel) (fun a ha h => by rw [kd_big ha] at h; cases h) a h
theorem kx_4_7 {a : Nat} (h : kd a = 4) : kd (a + 7) = 10000 + 12 := kd_r (P := fun a => kd a = 4 → kd (a + 7) = 10012) (by decide +kernel) (fun a ha h => by rw [kd_big ha] at h; cases h) a h
theorem kx_5_1 {a : Nat} (h : kd a = 5) : kd (a + 1) = 30000 + 4 := kd_r (P := fun a => kd a = 5 → kd (a + 1) = 30004) (by decide +kernel) (fun a ha h => by rw [kd_big ha] at h; cases h) a h
theorem kx_5_2 {a : Nat} (h : kd a = 5) : kd (a + 2) = 10000 + 6 := kd_r (P := fun a => kd a = 5 → kd (a + 2) = 10006) (by decide +kernel) (fun a ha h => by rw [kd_big ha] at h; cases h) a h
theorem kx_5_3 {a : Nat} (h : kd a = 5) : kd (a + 3) = 2 := kd_r (P := fun a => kd a = 5 → kd (a + 3) = 2) (by decide +kernel) (fun a ha h => by rw [kd_big ha] at h; cases h) a h
theorem kx_6_1 {a : Nat} (h : kd a = 6) : kd (a + 1) = 31000 + 8 := kd_r (P := fun a => kd a = 6 → kd (a + 1) = 31008) (by decide +kernel) (fun a ha h => by rw [kd_big ha] at h; cases h) a h
theorem kx_6_2 {a : Nat} (h : kd a = 6) : kd (a + 2) = 1 := kd_r (P := fun a => kd a = 6 → kd (a + 2) = 1) (by decide +kernel) (fun a ha h => by rw [kd_big ha] at h; cases h) a h
theorem kx_6_4 {a : Nat} (h : kd a = 6) : kd (a + 4) = 5 := kd_r (P := fun a => kd a = 6 → kd (a + 4) = 5) (by decide +kernel) (fun a ha h => by rw [kd_big ha] at h; cases h) a h
theorem kx_6_48 {a : Nat} (h : kd a = 6) : kd (a + 48) = 5 := kd_r (P := fun a => kd a = 6 → kd (a + 48) = 5) (by decide +kernel) (fun a ha h => by rw [kd_big ha] at h; cases h) a h
theorem kx_6_100 {a : Nat} (h : kd a = 6) : kd (a + 100) = 0 := kd_r (P := fun a => kd a = 6 → kd (a + 100) = 0) (by decide +kernel) (fun a ha h => by rw [kd_big ha] at h; cases h) a h
theorem kx_6_102 {a : Nat} (h : kd a = 6) : kd (a + 102) = 10000 + 5 := kd_r (P := fun a => kd a = 6 → kd (a + 102) = 10005) (by decide +kernel) (fun a ha h => by rw [kd_big ha] at h; cases h) a h
