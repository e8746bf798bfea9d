/-! ===== rows of the memory, filled and copied ===== -/
theorem mem_ext {M M' : Mem} (h1 : ∀ x i, M.1 x i = M'.1 x i) (h2 : ∀ x i, M.2 x i = M'.2 x i) : M = M' := Prod.ext (funext fun x => funext fun i => h1 x i) (funext fun x => funext fun i => h2 x i)
theorem fI_s {M : Mem} {a : Nat} {f : Nat → Int32} (i : Nat) : (fI M a f).1 a i = f i := if_pos rfl
theorem fI_o {M : Mem} {x a : Nat} {f : Nat → Int32} (h : x ≠ a) (i : Nat) : (fI M a f).1 x i = M.1 x i := if_neg h
theorem fJ_s {M : Mem} {a : Nat} {f : Nat → Int64} (i : Nat) : (fJ M a f).2 a i = f i := if_pos rfl
theorem fJ_o {M : Mem} {x a : Nat} {f : Nat → Int64} (h : x ≠ a) (i : Nat) : (fJ M a f).2 x i = M.2 x i := if_neg h
theorem sI_fI (M : Mem) (a k : Nat) (f : Nat → Int32) (v : Int32) : sI (fI M a f) a k v = fI M a (fun i => if i = k then v else f i) := mem_ext (fun x i => by
  unfold sI fI
  show (if x = a ∧ i = k then v else if x = a then f i else M.1 x i) = if x = a then (if i = k then v else f i) else M.1 x i
  by_cases h : x = a
  · by_cases h2 : i = k
    · rw [if_pos ⟨h, h2⟩, if_pos h, if_pos h2]
    · rw [if_neg (fun q => h2 q.2), if_pos h, if_pos h, if_neg h2]
  · rw [if_neg (fun q => h q.1), if_neg h, if_neg h]) (fun _ _ => rfl)
theorem sJ_fJ (M : Mem) (a k : Nat) (f : Nat → Int64) (v : Int64) : sJ (fJ M a f) a k v = fJ M a (fun i => if i = k then v else f i) := mem_ext (fun _ _ => rfl) (fun x i => by
  unfold sJ fJ
  show (if x = a ∧ i = k then v else if x = a then f i else M.2 x i) = if x = a then (if i = k then v else f i) else M.2 x i
  by_cases h : x = a
  · by_cases h2 : i = k
    · rw [if_pos ⟨h, h2⟩, if_pos h, if_pos h2]
    · rw [if_neg (fun q => h2 q.2), if_pos h, if_pos h, if_neg h2]
  · rw [if_neg (fun q => h q.1), if_neg h, if_neg h])
theorem fI_same {M : Mem} {a : Nat} {f : Nat → Int32} (h : ∀ i, f i = M.1 a i) : fI M a f = M := mem_ext (fun x i => by
  by_cases q : x = a
  · subst q; rw [fI_s, h]
  · rw [fI_o q]) (fun _ _ => rfl)
theorem fJ_same {M : Mem} {a : Nat} {f : Nat → Int64} (h : ∀ i, f i = M.2 a i) : fJ M a f = M := mem_ext (fun _ _ => rfl) (fun x i => by
  by_cases q : x = a
  · subst q; rw [fJ_s, h]
  · rw [fJ_o q])
/-- the first k of a row are f's, the rest as they were -/
def upto {α : Type} (f g : Nat → α) (k : Nat) : Nat → α := fun i => if i < k then f i else g i
theorem upto_0 {α : Type} (f g : Nat → α) (i : Nat) : upto f g 0 i = g i := if_neg (Nat.not_lt_zero i)
theorem upto_in {α : Type} {f g : Nat → α} {k i : Nat} (h : i < k) : upto f g k i = f i := if_pos h
theorem upto_out {α : Type} {f g : Nat → α} {k i : Nat} (h : k ≤ i) : upto f g k i = g i := if_neg (by omega)
theorem upto_s {α : Type} (f g : Nat → α) (k : Nat) : (fun i => if i = k then f k else upto f g k i) = upto f g (k + 1) := funext fun i => by
  unfold upto
  by_cases h : i = k
  · subst h; rw [if_pos rfl, if_pos (Nat.lt_succ_self i)]
  · rw [if_neg h]
    by_cases h2 : i < k
    · rw [if_pos h2, if_pos (by omega)]
    · rw [if_neg h2, if_neg (by omega)]
theorem fill_I {N : Nat} (M : Mem) {len : Nat} (b0 : Nat) (v : Int32) (hl : len < 1000) (hN : 4097 < N) : fJ7_fill_53178 N M len b0 v = some (fI M b0 (upto (fun _ => v) (M.1 b0) len)) := by
  unfold fJ7_fill_53178
  obtain ⟨k, hk⟩ := lp (fun k (s : Mem × Int32) => fJ7_fill_53178_5 N b0 len v (nI len) k s.1 s.2) (fun p => (fI M b0 (upto (fun _ => v) (M.1 b0) p), nI p)) len (fun k p hp => by
    show fJ7_fill_53178_5 N b0 len v (nI len) (k + 1) _ (nI p) = fJ7_fill_53178_5 N b0 len v (nI len) k _ (nI (p + 1))
    rw [fJ7_fill_53178_5, if_neg (nI_ge hp (by omega)), gd_nI hp (by omega), nm_eq, nI_clamp (by omega), sI_fI, upto_s (fun _ => v), nI_1]) (N := N) (by omega)
  rw [nm_eq]
  have e : M = fI M b0 (upto (fun _ => v) (M.1 b0) 0) := (fI_same (fun i => upto_0 _ _ i)).symm
  refine Eq.trans ?_ (hk.trans ?_)
  · show fJ7_fill_53178_5 N b0 len v (nI len) N M 0 = fJ7_fill_53178_5 N b0 len v (nI len) N (fI M b0 (upto (fun _ => v) (M.1 b0) 0)) (nI 0)
    rw [← e]; rfl
  · show fJ7_fill_53178_5 N b0 len v (nI len) (k + 1) _ (nI len) = _
    rw [fJ7_fill_53178_5, if_pos (nI_le (Nat.le_refl len) (by omega))]
theorem fill_J {N : Nat} (M : Mem) {len : Nat} (b0 : Nat) (v : Int64) (hl : len < 1000) (hN : 4097 < N) : fJ7_fill_d0a16 N M len b0 v = some (fJ M b0 (upto (fun _ => v) (M.2 b0) len)) := by
  unfold fJ7_fill_d0a16
  obtain ⟨k, hk⟩ := lp (fun k (s : Mem × Int32) => fJ7_fill_d0a16_6 N b0 len v (nI len) k s.1 s.2) (fun p => (fJ M b0 (upto (fun _ => v) (M.2 b0) p), nI p)) len (fun k p hp => by
    show fJ7_fill_d0a16_6 N b0 len v (nI len) (k + 1) _ (nI p) = fJ7_fill_d0a16_6 N b0 len v (nI len) k _ (nI (p + 1))
    rw [fJ7_fill_d0a16_6, if_neg (nI_ge hp (by omega)), gd_nI hp (by omega), nm_eq, nI_clamp (by omega), sJ_fJ, upto_s (fun _ => v), nI_1]) (N := N) (by omega)
  rw [nm_eq]
  have e : M = fJ M b0 (upto (fun _ => v) (M.2 b0) 0) := (fJ_same (fun i => upto_0 _ _ i)).symm
  refine Eq.trans ?_ (hk.trans ?_)
  · show fJ7_fill_d0a16_6 N b0 len v (nI len) N M 0 = fJ7_fill_d0a16_6 N b0 len v (nI len) N (fJ M b0 (upto (fun _ => v) (M.2 b0) 0)) (nI 0)
    rw [← e]; rfl
  · show fJ7_fill_d0a16_6 N b0 len v (nI len) (k + 1) _ (nI len) = _
    rw [fJ7_fill_d0a16_6, if_pos (nI_le (Nat.le_refl len) (by omega))]
theorem over_m {N : Nat} (M : Mem) {len : Nat} {b0 b1 : Nat} (hb : b0 ≠ b1) (hl : len < 1000) (hN : 4097 < N) : fX7_over N M len b0 len b1 = some (fI M b1 (upto (M.1 b0) (M.1 b1) len)) := by
  unfold fX7_over
  obtain ⟨k, hk⟩ := lp (fun k (s : Mem × Int32) => fX7_over_2 N b0 b1 len len k s.1 s.2) (fun p => (fI M b1 (upto (M.1 b0) (M.1 b1) p), nI p)) len (fun k p hp => by
    show fX7_over_2 N b0 b1 len len (k + 1) _ (nI p) = fX7_over_2 N b0 b1 len len k _ (nI (p + 1))
    rw [fX7_over_2, if_neg (nI_ge hp (by omega)), gd_nI hp (by omega), gd_nI hp (by omega), nm_eq, nI_clamp (by omega), fI_o hb, sI_fI, upto_s (M.1 b0), nI_1]) (N := N) (by omega)
  have e : M = fI M b1 (upto (M.1 b0) (M.1 b1) 0) := (fI_same (fun i => upto_0 _ _ i)).symm
  refine Eq.trans ?_ (hk.trans ?_)
  · show fX7_over_2 N b0 b1 len len N M 0 = fX7_over_2 N b0 b1 len len N (fI M b1 (upto (M.1 b0) (M.1 b1) 0)) (nI 0)
    rw [← e]; rfl
  · show fX7_over_2 N b0 b1 len len (k + 1) _ (nI len) = _
    rw [fX7_over_2, if_pos (nI_le (Nat.le_refl len) (by omega))]
theorem row_m {N : Nat} (M : Mem) {m s : Nat} (hs : s < 8) (hN : 4097 < N) : fX7_row_67 N m (nI s) N M 0 = some (1, fJ M (m + 4 + 1 + s) (upto (fun _ => 0) (M.2 (m + 4 + 1 + s)) 40)) := by
  obtain ⟨k, hk⟩ := lp (fun k (q : Mem × Int32) => fX7_row_67 N m (nI s) k q.1 q.2) (fun p => (fJ M (m + 4 + 1 + s) (upto (fun _ => 0) (M.2 (m + 4 + 1 + s)) p), nI p)) 40 (fun k p hp => by
    show fX7_row_67 N m (nI s) (k + 1) _ (nI p) = fX7_row_67 N m (nI s) k _ (nI (p + 1))
    rw [fX7_row_67, if_neg (show ¬ (40 : Int32) ≤ nI p from nI_ge (b := 40) hp (by omega)), gd_nI hs (by omega), gd_nI hp (by omega), nm_eq, nI_clamp (n := s) (by omega), nI_clamp (n := p) (by omega), sJ_fJ, upto_s (fun _ => 0), nI_1]) (N := N) (by omega)
  have e : M = fJ M (m + 4 + 1 + s) (upto (fun _ => 0) (M.2 (m + 4 + 1 + s)) 0) := (fJ_same (fun i => upto_0 _ _ i)).symm
  refine Eq.trans ?_ (hk.trans ?_)
  · show fX7_row_67 N m (nI s) N M 0 = fX7_row_67 N m (nI s) N (fJ M (m + 4 + 1 + s) (upto (fun _ => 0) (M.2 (m + 4 + 1 + s)) 0)) (nI 0)
    rw [← e]; rfl
  · show fX7_row_67 N m (nI s) (k + 1) _ (nI 40) = _
    rw [fX7_row_67, if_pos (by decide)]
theorem cpy_s {f g : Nat → Int64} {sp dp k : Nat} : (fun i => if i = dp + k then f (sp + k) else va_cpy f g sp dp k i) = va_cpy f g sp dp (k + 1) := funext fun i => by
  unfold va_cpy
  by_cases h : i = dp + k
  · subst h; rw [if_pos rfl, if_pos (by omega), Nat.add_sub_cancel_left]
  · rw [if_neg h]
    by_cases h2 : dp ≤ i ∧ i < dp + k
    · rw [if_pos h2, if_pos (by omega)]
    · rw [if_neg h2, if_neg (by omega)]
theorem cpy_0 {α : Type} {f g : Nat → α} {sp dp i : Nat} : va_cpy f g sp dp 0 i = g i := by unfold va_cpy; rw [if_neg (by omega)]
/-- the reference's copy by way of 'moved' -/
def cpM (M : Mem) (m p q i j n : Nat) : Mem := fJ (fJ M (m + 15) (va_cpy (M.2 (m + 4 + 1 + p)) (M.2 (m + 15)) i 0 n)) (m + 4 + 1 + q) (va_cpy (M.2 (m + 4 + 1 + p)) (M.2 (m + 4 + 1 + q)) i j n)
theorem copy_m {N : Nat} (M : Mem) {m p q i j n : Nat} (hp : p < 8) (hq : q < 8) (hi : i + n ≤ 40) (hj : j + n ≤ 40) (hN : 4097 < N) : fX7_copy_191 N m (nI p) (nI q) (nI i) (nI j) (nI n) N M 0 = some (nI n, cpM M m p q i j n) := by
  obtain ⟨k, hk⟩ := lp (fun k (s : Mem × Int32) => fX7_copy_191 N m (nI p) (nI q) (nI i) (nI j) (nI n) k s.1 s.2) (fun r => (fJ M (m + 15) (va_cpy (M.2 (m + 4 + 1 + p)) (M.2 (m + 15)) i 0 r), nI r)) n (fun k r hr => by
    show fX7_copy_191 N m (nI p) (nI q) (nI i) (nI j) (nI n) (k + 1) _ (nI r) = fX7_copy_191 N m (nI p) (nI q) (nI i) (nI j) (nI n) k _ (nI (r + 1))
    have e := cpy_s (f := M.2 (m + 4 + 1 + p)) (g := M.2 (m + 15)) (sp := i) (dp := 0) (k := r)
    rw [Nat.zero_add] at e
    rw [fX7_copy_191, if_neg (nI_ge hr (by omega)), gd_nI hp (by omega), nI_add, gd_nI (p := i + r) (by omega) (by omega), gd_nI (p := r) (by omega) (by omega), nm_eq, nI_clamp (n := p) (by omega), nI_clamp (n := r) (by omega), nI_clamp (n := i + r) (by omega), fJ_o (by omega), sJ_fJ, e, nI_1]) (N := N) (by omega)
  have e : M = fJ M (m + 15) (va_cpy (M.2 (m + 4 + 1 + p)) (M.2 (m + 15)) i 0 0) := (fJ_same (fun i => cpy_0)).symm
  refine Eq.trans ?_ (hk.trans ?_)
  · show fX7_copy_191 N m (nI p) (nI q) (nI i) (nI j) (nI n) N M 0 = fX7_copy_191 N m (nI p) (nI q) (nI i) (nI j) (nI n) N (fJ M (m + 15) (va_cpy (M.2 (m + 4 + 1 + p)) (M.2 (m + 15)) i 0 0)) (nI 0)
    rw [← e]; rfl
  show fX7_copy_191 N m (nI p) (nI q) (nI i) (nI j) (nI n) (k + 1) _ (nI n) = _
  rw [fX7_copy_191, if_pos (nI_le (Nat.le_refl n) (by omega))]
  obtain ⟨k2, hk2⟩ := lp (fun k (s : Mem × Int32) => fX7_copy_225 N m (nI q) (nI j) (nI n) k s.1 s.2) (fun r => (fJ (fJ M (m + 15) (va_cpy (M.2 (m + 4 + 1 + p)) (M.2 (m + 15)) i 0 n)) (m + 4 + 1 + q) (va_cpy (M.2 (m + 4 + 1 + p)) (M.2 (m + 4 + 1 + q)) i j r), nI r)) n (fun k r hr => by
    show fX7_copy_225 N m (nI q) (nI j) (nI n) (k + 1) _ (nI r) = fX7_copy_225 N m (nI q) (nI j) (nI n) k _ (nI (r + 1))
    rw [fX7_copy_225, if_neg (nI_ge hr (by omega)), gd_nI hq (by omega), nI_add, gd_nI (p := r) (by omega) (by omega), gd_nI (p := j + r) (by omega) (by omega), nm_eq, nI_clamp (n := q) (by omega), nI_clamp (n := r) (by omega), nI_clamp (n := j + r) (by omega), fJ_o (by omega), fJ_s, pk_cpy_in (by omega) (by omega), Nat.sub_zero, sJ_fJ, cpy_s, nI_1]) (N := N) (by omega)
  have e2 : fJ M (m + 15) (va_cpy (M.2 (m + 4 + 1 + p)) (M.2 (m + 15)) i 0 n) = fJ (fJ M (m + 15) (va_cpy (M.2 (m + 4 + 1 + p)) (M.2 (m + 15)) i 0 n)) (m + 4 + 1 + q) (va_cpy (M.2 (m + 4 + 1 + p)) (M.2 (m + 4 + 1 + q)) i j 0) := (fJ_same (fun i => by rw [cpy_0, fJ_o (by omega)])).symm
  refine Eq.trans ?_ (hk2.trans ?_)
  · show fX7_copy_225 N m (nI q) (nI j) (nI n) N _ 0 = fX7_copy_225 N m (nI q) (nI j) (nI n) N _ (nI 0)
    rw [← e2]; rfl
  show fX7_copy_225 N m (nI q) (nI j) (nI n) (k2 + 1) _ (nI n) = _
  rw [fX7_copy_225, if_pos (nI_le (Nat.le_refl n) (by omega))]
  rfl
