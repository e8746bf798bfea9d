/-! ===== the memory: what each cell of the two systems holds, by a number; the cells' kinds are fixed ===== -/
abbrev Mem : Type := (Nat → Nat → Int32) × (Nat → Nat → Int64)
def sI (M : Mem) (a i : Nat) (v : Int32) : Mem := (fun b j => if b = a ∧ j = i then v else M.1 b j, M.2)
def sJ (M : Mem) (a i : Nat) (v : Int64) : Mem := (M.1, fun b j => if b = a ∧ j = i then v else M.2 b j)
def fI (M : Mem) (a : Nat) (f : Nat → Int32) : Mem := (fun b j => if b = a then f j else M.1 b j, M.2)
def fJ (M : Mem) (a : Nat) (f : Nat → Int64) : Mem := (M.1, fun b j => if b = a then f j else M.2 b j)
def kdL : List Nat := [6, 31008, 1, 10160, 5, 30004, 10006, 2, 4, 10012, 10012, 10012, 10012, 10012, 10144, 10012, 4, 10012, 10012, 10012, 10012, 10012, 10144, 10012, 4, 10012, 10012, 10012, 10012, 10012, 10144, 10012, 4, 10012, 10012, 10012, 10012, 10012, 10144, 10012, 4, 10012, 10012, 10012, 10012, 10012, 10144, 10012, 5, 30004, 10006, 2, 4, 10012, 10012, 10012, 10012, 10012, 10144, 10012, 4, 10012, 10012, 10012, 10012, 10012, 10144, 10012, 4, 10012, 10012, 10012, 10012, 10012, 10144, 10012, 4, 10012, 10012, 10012, 10012, 10012, 10144, 10012, 4, 10012, 10012, 10012, 10012, 10012, 10144, 10012, 4, 10012, 10012, 10012, 10012, 10012, 10144, 10012, 0, 20064, 10005, 3, 20040, 3, 20040, 3, 20040, 3, 20040, 3, 20040, 3, 20040, 3, 20040, 3, 20040, 7, 10008, 10008, 10008, 33008, 20040, 20040, 20040, 20040, 20040, 20040, 20040, 20040, 10008, 10008, 20040, 10160, 10008, 10005, 10005, 10005, 32005, 10012, 10012, 10012, 10012, 10012, 32005, 10012, 10012, 10012, 10012, 10012, 32005, 10012, 10012, 10012, 10012, 10012, 32005, 10144, 10144, 10144, 10144, 10144, 32005, 10012, 10012, 10012, 10012, 10012, 32005, 10012, 10012, 10012, 10012, 10012, 10006, 14097, 7, 10008, 10008, 10008, 33008, 20040, 20040, 20040, 20040, 20040, 20040, 20040, 20040, 10008, 10008, 20040, 10160, 10008, 10005, 10005, 10005, 32005, 10012, 10012, 10012, 10012, 10012, 32005, 10012, 10012, 10012, 10012, 10012, 32005, 10012, 10012, 10012, 10012, 10012, 32005, 10144, 10144, 10144, 10144, 10144, 32005, 10012, 10012, 10012, 10012, 10012, 32005, 10012, 10012, 10012, 10012, 10012, 10006, 14097]
def kd (k : Nat) : Nat := kdL.getD k 99
theorem kk_X0 : ∀ a, a < 237 → kd a = 0 → kd (a + 1) = 20064 := by decide +kernel
theorem kk_X1 : ∀ a, a < 237 → kd a = 1 → kd (a + 1) = 10160 := by decide +kernel
theorem kk_X2 : ∀ a, a < 237 → kd a = 2 → kd (a + 1) = 4 ∧ kd (a + 2) = 10012 ∧ kd (a + 3) = 10012 ∧ kd (a + 4) = 10012 ∧ kd (a + 5) = 10012 ∧ kd (a + 6) = 10012 ∧ kd (a + 7) = 10144 ∧ kd (a + 8) = 10012 := by decide +kernel
theorem kk_X3 : ∀ a, a < 237 → kd a = 3 → kd (a + 1) = 20040 := by decide +kernel
theorem kk_X4 : ∀ a, a < 237 → kd a = 4 → kd (a + 1) = 10012 ∧ kd (a + 2) = 10012 ∧ kd (a + 3) = 10012 ∧ kd (a + 4) = 10012 ∧ kd (a + 5) = 10012 ∧ kd (a + 6) = 10144 ∧ kd (a + 7) = 10012 := by decide +kernel
theorem sI_1 {M : Mem} {a i b : Nat} {v : Int32} (h : b ≠ a) : (sI M a i v).1 b = M.1 b := by
  funext j; simp [sI, h]
theorem sI_2 {M : Mem} {a i b : Nat} {v : Int32} (_ : b ≠ a) : (sI M a i v).2 b = M.2 b := rfl
theorem sJ_1 {M : Mem} {a i b : Nat} {v : Int64} (_ : b ≠ a) : (sJ M a i v).1 b = M.1 b := rfl
theorem sJ_2 {M : Mem} {a i b : Nat} {v : Int64} (h : b ≠ a) : (sJ M a i v).2 b = M.2 b := by
  funext j; simp [sJ, h]
theorem fI_1 {M : Mem} {a b : Nat} {f : Nat → Int32} (h : b ≠ a) : (fI M a f).1 b = M.1 b := by
  funext j; simp [fI, h]
theorem fI_2 {M : Mem} {a b : Nat} {f : Nat → Int32} (_ : b ≠ a) : (fI M a f).2 b = M.2 b := rfl
theorem fJ_1 {M : Mem} {a b : Nat} {f : Nat → Int64} (_ : b ≠ a) : (fJ M a f).1 b = M.1 b := rfl
theorem fJ_2 {M : Mem} {a b : Nat} {f : Nat → Int64} (h : b ≠ a) : (fJ M a f).2 b = M.2 b := by
  funext j; simp [fJ, h]
theorem ite_y {α : Type} {c : Prop} [Decidable c] {A B : Option α} {o : α} (h : (if c then A else B) = some o) (hc : c) : A = some o := by rw [if_pos hc] at h; exact h
theorem ite_n {α : Type} {c : Prop} [Decidable c] {A B : Option α} {o : α} (h : (if c then A else B) = some o) (hc : ¬ c) : B = some o := by rw [if_neg hc] at h; exact h
/-- an index within: else nothing -/
def gd {α : Type} (i : Int32) (n : Nat) (k : Option α) : Option α := if i < 0 ∨ n ≤ i.toNatClampNeg then none else k
theorem gd_y {α : Type} {i : Int32} {n : Nat} {k : Option α} {o : α} (h : gd i n k = some o) : vp_in i n ∧ k = some o := by
  unfold gd at h
  by_cases q : i < 0 ∨ n ≤ i.toNatClampNeg
  · rw [if_pos q] at h; cases h
  · rw [if_neg q] at h; exact ⟨q, h⟩
theorem gd_of {α : Type} {i : Int32} {n : Nat} {k : Option α} (h : vp_in i n) : gd i n k = k := if_neg h
/-- a condition that must hold: else nothing -/
def gc {α : Type} (c : Prop) [Decidable c] (k : Option α) : Option α := if c then k else none
theorem gc_y {α : Type} {c : Prop} [Decidable c] {k : Option α} {o : α} (h : gc c k = some o) : c ∧ k = some o := by
  unfold gc at h
  by_cases q : c
  · rw [if_pos q] at h; exact ⟨q, h⟩
  · rw [if_neg q] at h; cases h
theorem gc_of {α : Type} {c : Prop} [Decidable c] {k : Option α} (h : c) : gc c k = k := if_pos h
def bd {α β : Type} (x : Option α) (k : α → Option β) : Option β := match x with
  | none => none
  | some a => k a
theorem bd_y {α β : Type} {x : Option α} {k : α → Option β} {o : β} (h : bd x k = some o) : ∃ a, x = some a ∧ k a = some o := by
  cases x with
  | none => cases h
  | some a => exact ⟨a, rfl, h⟩
theorem bd_of {α β : Type} {x : Option α} {k : α → Option β} {a : α} (h : x = some a) : bd x k = k a := by rw [h]; rfl
/-- a value named -/
def nm {α β : Type} (x : α) (k : α → Option β) : Option β := k x
theorem nm_y {α β : Type} {x : α} {k : α → Option β} {o : β} (h : nm x k = some o) (y : α) (e : y = x) : k y = some o := by subst e; exact h
/-- null, or the number of a cell -/
def onO {β : Type} (x : Option Nat) (A : Option β) (B : Nat → Option β) : Option β := match x with
  | none => A
  | some q => B q
theorem onO_y {β : Type} {x : Option Nat} {A : Option β} {B : Nat → Option β} {o : β} (h : onO x A B = some o) : (x = none ∧ A = some o) ∨ ∃ q, x = some q ∧ B q = some o := by
  cases x with
  | none => exact Or.inl ⟨rfl, h⟩
  | some q => exact Or.inr ⟨q, rfl, h⟩
def lenS : List Nat := [6, 4, 5, 4, 3, 3, 5, 4, 4, 3, 7, 6, 7, 6, 5, 4, 6, 5, 6, 7, 5, 1]
def bytS : List (List Int32) := [[112, 101, 111, 112, 108, 101], [99, 111, 115, 116], [119, 111, 114, 116, 104], [109, 111, 114, 101], [111, 110, 101], [116, 105, 101], [112, 114, 105, 99, 101], [109, 117, 115, 116], [114, 105, 110, 103], [97, 108, 108], [112, 101, 111, 112, 108, 101, 32], [59, 99, 111, 115, 116, 32], [59, 119, 111, 114, 116, 104, 32], [59, 109, 111, 114, 101, 32], [59, 114, 105, 110, 103], [59, 97, 108, 108], [59, 109, 117, 115, 116, 32], [59, 111, 110, 101, 32], [32, 99, 111, 115, 116, 32], [32, 119, 111, 114, 116, 104, 32], [59, 116, 105, 101, 32], [32]]
