/-! ===== pure steps: guards, loops with fuel ===== -/
/-- how many rounds a loop may take -/
def fu : Nat := 100000
theorem ite_t {α : Type} {c : Prop} {dc : Decidable c} {a b : Option α} {o : α} (hc : c) (h : (@ite _ c dc a b) = some o) : a = some o := by
  rwa [if_pos hc] at h
theorem ite_f {α : Type} {c : Prop} {dc : Decidable c} {a b : Option α} {o : α} (hc : ¬ c) (h : (@ite _ c dc a b) = some o) : b = some o := by
  rwa [if_neg hc] at h
theorem bd_s {α β : Type} {x : Option α} {f : α → Option β} {o : β} (h : Option.bind x f = some o) : ∃ a, x = some a ∧ f a = some o := by
  cases x with
  | none => cases h
  | some a => exact ⟨a, rfl, h⟩
theorem no_s {α : Type} {o : α} {P : Prop} (h : (none : Option α) = some o) : P := by cases h
def gb {O : Type} (v : Int32) (a : Option O) : Option O := if v = 0 ∨ v = 1 then a else none
theorem gb_s {O : Type} {v : Int32} {a : Option O} {o : O} (h : gb v a = some o) : narrow .boolean (.int v) = .int v ∧ a = some o := by
  unfold gb at h
  by_cases hc : v = 0 ∨ v = 1
  · rw [if_pos hc] at h
    refine ⟨?_, h⟩
    rcases hc with rfl | rfl <;> rfl
  · rw [if_neg hc] at h; cases h
def gi {O : Type} (i : Int32) (N : Nat) (a : Option O) : Option O := if i < 0 ∨ N ≤ i.toNatClampNeg then none else a
theorem gi_s {O : Type} {i : Int32} {N : Nat} {a : Option O} {o : O} (h : gi i N a = some o) : vp_in i N ∧ a = some o := by
  unfold gi at h
  by_cases hc : i < 0 ∨ N ≤ i.toNatClampNeg
  · rw [if_pos hc] at h; cases h
  · rw [if_neg hc] at h; exact ⟨hc, h⟩
def gz {O : Type} (y : Int32) (a : Option O) : Option O := if y = 0 then none else a
theorem gz_s {O : Type} {y : Int32} {a : Option O} {o : O} (h : gz y a = some o) : ¬ y = 0 ∧ a = some o := by
  unfold gz at h
  by_cases hc : y = 0
  · rw [if_pos hc] at h; cases h
  · rw [if_neg hc] at h; exact ⟨hc, h⟩
def gzl {O : Type} (y : Int64) (a : Option O) : Option O := if y = 0 then none else a
theorem gzl_s {O : Type} {y : Int64} {a : Option O} {o : O} (h : gzl y a = some o) : ¬ y = 0 ∧ a = some o := by
  unfold gzl at h
  by_cases hc : y = 0
  · rw [if_pos hc] at h; cases h
  · rw [if_neg hc] at h; exact ⟨hc, h⟩
def fl1 {A1 O : Type} (b : (A1 → Option O) → A1 → Option O) : Nat → A1 → Option O
  | 0 => fun _ => none
  | k + 1 => b (fl1 b k)
theorem fl1_s {A1 O : Type} (b : (A1 → Option O) → A1 → Option O) (k : Nat) : fl1 b (k + 1) = b (fl1 b k) := rfl
def fl2 {A1 A2 O : Type} (b : (A1 → A2 → Option O) → A1 → A2 → Option O) : Nat → A1 → A2 → Option O
  | 0 => fun _ _ => none
  | k + 1 => b (fl2 b k)
theorem fl2_s {A1 A2 O : Type} (b : (A1 → A2 → Option O) → A1 → A2 → Option O) (k : Nat) : fl2 b (k + 1) = b (fl2 b k) := rfl
def fl3 {A1 A2 A3 O : Type} (b : (A1 → A2 → A3 → Option O) → A1 → A2 → A3 → Option O) : Nat → A1 → A2 → A3 → Option O
  | 0 => fun _ _ _ => none
  | k + 1 => b (fl3 b k)
theorem fl3_s {A1 A2 A3 O : Type} (b : (A1 → A2 → A3 → Option O) → A1 → A2 → A3 → Option O) (k : Nat) : fl3 b (k + 1) = b (fl3 b k) := rfl
def fl4 {A1 A2 A3 A4 O : Type} (b : (A1 → A2 → A3 → A4 → Option O) → A1 → A2 → A3 → A4 → Option O) : Nat → A1 → A2 → A3 → A4 → Option O
  | 0 => fun _ _ _ _ => none
  | k + 1 => b (fl4 b k)
theorem fl4_s {A1 A2 A3 A4 O : Type} (b : (A1 → A2 → A3 → A4 → Option O) → A1 → A2 → A3 → A4 → Option O) (k : Nat) : fl4 b (k + 1) = b (fl4 b k) := rfl
def fl5 {A1 A2 A3 A4 A5 O : Type} (b : (A1 → A2 → A3 → A4 → A5 → Option O) → A1 → A2 → A3 → A4 → A5 → Option O) : Nat → A1 → A2 → A3 → A4 → A5 → Option O
  | 0 => fun _ _ _ _ _ => none
  | k + 1 => b (fl5 b k)
theorem fl5_s {A1 A2 A3 A4 A5 O : Type} (b : (A1 → A2 → A3 → A4 → A5 → Option O) → A1 → A2 → A3 → A4 → A5 → Option O) (k : Nat) : fl5 b (k + 1) = b (fl5 b k) := rfl
def fl6 {A1 A2 A3 A4 A5 A6 O : Type} (b : (A1 → A2 → A3 → A4 → A5 → A6 → Option O) → A1 → A2 → A3 → A4 → A5 → A6 → Option O) : Nat → A1 → A2 → A3 → A4 → A5 → A6 → Option O
  | 0 => fun _ _ _ _ _ _ => none
  | k + 1 => b (fl6 b k)
theorem fl6_s {A1 A2 A3 A4 A5 A6 O : Type} (b : (A1 → A2 → A3 → A4 → A5 → A6 → Option O) → A1 → A2 → A3 → A4 → A5 → A6 → Option O) (k : Nat) : fl6 b (k + 1) = b (fl6 b k) := rfl
def fl7 {A1 A2 A3 A4 A5 A6 A7 O : Type} (b : (A1 → A2 → A3 → A4 → A5 → A6 → A7 → Option O) → A1 → A2 → A3 → A4 → A5 → A6 → A7 → Option O) : Nat → A1 → A2 → A3 → A4 → A5 → A6 → A7 → Option O
  | 0 => fun _ _ _ _ _ _ _ => none
  | k + 1 => b (fl7 b k)
theorem fl7_s {A1 A2 A3 A4 A5 A6 A7 O : Type} (b : (A1 → A2 → A3 → A4 → A5 → A6 → A7 → Option O) → A1 → A2 → A3 → A4 → A5 → A6 → A7 → Option O) (k : Nat) : fl7 b (k + 1) = b (fl7 b k) := rfl
def fl8 {A1 A2 A3 A4 A5 A6 A7 A8 O : Type} (b : (A1 → A2 → A3 → A4 → A5 → A6 → A7 → A8 → Option O) → A1 → A2 → A3 → A4 → A5 → A6 → A7 → A8 → Option O) : Nat → A1 → A2 → A3 → A4 → A5 → A6 → A7 → A8 → Option O
  | 0 => fun _ _ _ _ _ _ _ _ => none
  | k + 1 => b (fl8 b k)
theorem fl8_s {A1 A2 A3 A4 A5 A6 A7 A8 O : Type} (b : (A1 → A2 → A3 → A4 → A5 → A6 → A7 → A8 → Option O) → A1 → A2 → A3 → A4 → A5 → A6 → A7 → A8 → Option O) (k : Nat) : fl8 b (k + 1) = b (fl8 b k) := rfl
def fl9 {A1 A2 A3 A4 A5 A6 A7 A8 A9 O : Type} (b : (A1 → A2 → A3 → A4 → A5 → A6 → A7 → A8 → A9 → Option O) → A1 → A2 → A3 → A4 → A5 → A6 → A7 → A8 → A9 → Option O) : Nat → A1 → A2 → A3 → A4 → A5 → A6 → A7 → A8 → A9 → Option O
  | 0 => fun _ _ _ _ _ _ _ _ _ => none
  | k + 1 => b (fl9 b k)
theorem fl9_s {A1 A2 A3 A4 A5 A6 A7 A8 A9 O : Type} (b : (A1 → A2 → A3 → A4 → A5 → A6 → A7 → A8 → A9 → Option O) → A1 → A2 → A3 → A4 → A5 → A6 → A7 → A8 → A9 → Option O) (k : Nat) : fl9 b (k + 1) = b (fl9 b k) := rfl
def fl10 {A1 A2 A3 A4 A5 A6 A7 A8 A9 A10 O : Type} (b : (A1 → A2 → A3 → A4 → A5 → A6 → A7 → A8 → A9 → A10 → Option O) → A1 → A2 → A3 → A4 → A5 → A6 → A7 → A8 → A9 → A10 → Option O) : Nat → A1 → A2 → A3 → A4 → A5 → A6 → A7 → A8 → A9 → A10 → Option O
  | 0 => fun _ _ _ _ _ _ _ _ _ _ => none
  | k + 1 => b (fl10 b k)
theorem fl10_s {A1 A2 A3 A4 A5 A6 A7 A8 A9 A10 O : Type} (b : (A1 → A2 → A3 → A4 → A5 → A6 → A7 → A8 → A9 → A10 → Option O) → A1 → A2 → A3 → A4 → A5 → A6 → A7 → A8 → A9 → A10 → Option O) (k : Nat) : fl10 b (k + 1) = b (fl10 b k) := rfl
def fl11 {A1 A2 A3 A4 A5 A6 A7 A8 A9 A10 A11 O : Type} (b : (A1 → A2 → A3 → A4 → A5 → A6 → A7 → A8 → A9 → A10 → A11 → Option O) → A1 → A2 → A3 → A4 → A5 → A6 → A7 → A8 → A9 → A10 → A11 → Option O) : Nat → A1 → A2 → A3 → A4 → A5 → A6 → A7 → A8 → A9 → A10 → A11 → Option O
  | 0 => fun _ _ _ _ _ _ _ _ _ _ _ => none
  | k + 1 => b (fl11 b k)
theorem fl11_s {A1 A2 A3 A4 A5 A6 A7 A8 A9 A10 A11 O : Type} (b : (A1 → A2 → A3 → A4 → A5 → A6 → A7 → A8 → A9 → A10 → A11 → Option O) → A1 → A2 → A3 → A4 → A5 → A6 → A7 → A8 → A9 → A10 → A11 → Option O) (k : Nat) : fl11 b (k + 1) = b (fl11 b k) := rfl
def fl12 {A1 A2 A3 A4 A5 A6 A7 A8 A9 A10 A11 A12 O : Type} (b : (A1 → A2 → A3 → A4 → A5 → A6 → A7 → A8 → A9 → A10 → A11 → A12 → Option O) → A1 → A2 → A3 → A4 → A5 → A6 → A7 → A8 → A9 → A10 → A11 → A12 → Option O) : Nat → A1 → A2 → A3 → A4 → A5 → A6 → A7 → A8 → A9 → A10 → A11 → A12 → Option O
  | 0 => fun _ _ _ _ _ _ _ _ _ _ _ _ => none
  | k + 1 => b (fl12 b k)
theorem fl12_s {A1 A2 A3 A4 A5 A6 A7 A8 A9 A10 A11 A12 O : Type} (b : (A1 → A2 → A3 → A4 → A5 → A6 → A7 → A8 → A9 → A10 → A11 → A12 → Option O) → A1 → A2 → A3 → A4 → A5 → A6 → A7 → A8 → A9 → A10 → A11 → A12 → Option O) (k : Nat) : fl12 b (k + 1) = b (fl12 b k) := rfl
def fl13 {A1 A2 A3 A4 A5 A6 A7 A8 A9 A10 A11 A12 A13 O : Type} (b : (A1 → A2 → A3 → A4 → A5 → A6 → A7 → A8 → A9 → A10 → A11 → A12 → A13 → Option O) → A1 → A2 → A3 → A4 → A5 → A6 → A7 → A8 → A9 → A10 → A11 → A12 → A13 → Option O) : Nat → A1 → A2 → A3 → A4 → A5 → A6 → A7 → A8 → A9 → A10 → A11 → A12 → A13 → Option O
  | 0 => fun _ _ _ _ _ _ _ _ _ _ _ _ _ => none
  | k + 1 => b (fl13 b k)
theorem fl13_s {A1 A2 A3 A4 A5 A6 A7 A8 A9 A10 A11 A12 A13 O : Type} (b : (A1 → A2 → A3 → A4 → A5 → A6 → A7 → A8 → A9 → A10 → A11 → A12 → A13 → Option O) → A1 → A2 → A3 → A4 → A5 → A6 → A7 → A8 → A9 → A10 → A11 → A12 → A13 → Option O) (k : Nat) : fl13 b (k + 1) = b (fl13 b k) := rfl
def fl14 {A1 A2 A3 A4 A5 A6 A7 A8 A9 A10 A11 A12 A13 A14 O : Type} (b : (A1 → A2 → A3 → A4 → A5 → A6 → A7 → A8 → A9 → A10 → A11 → A12 → A13 → A14 → Option O) → A1 → A2 → A3 → A4 → A5 → A6 → A7 → A8 → A9 → A10 → A11 → A12 → A13 → A14 → Option O) : Nat → A1 → A2 → A3 → A4 → A5 → A6 → A7 → A8 → A9 → A10 → A11 → A12 → A13 → A14 → Option O
  | 0 => fun _ _ _ _ _ _ _ _ _ _ _ _ _ _ => none
  | k + 1 => b (fl14 b k)
theorem fl14_s {A1 A2 A3 A4 A5 A6 A7 A8 A9 A10 A11 A12 A13 A14 O : Type} (b : (A1 → A2 → A3 → A4 → A5 → A6 → A7 → A8 → A9 → A10 → A11 → A12 → A13 → A14 → Option O) → A1 → A2 → A3 → A4 → A5 → A6 → A7 → A8 → A9 → A10 → A11 → A12 → A13 → A14 → Option O) (k : Nat) : fl14 b (k + 1) = b (fl14 b k) := rfl
def fl15 {A1 A2 A3 A4 A5 A6 A7 A8 A9 A10 A11 A12 A13 A14 A15 O : Type} (b : (A1 → A2 → A3 → A4 → A5 → A6 → A7 → A8 → A9 → A10 → A11 → A12 → A13 → A14 → A15 → Option O) → A1 → A2 → A3 → A4 → A5 → A6 → A7 → A8 → A9 → A10 → A11 → A12 → A13 → A14 → A15 → Option O) : Nat → A1 → A2 → A3 → A4 → A5 → A6 → A7 → A8 → A9 → A10 → A11 → A12 → A13 → A14 → A15 → Option O
  | 0 => fun _ _ _ _ _ _ _ _ _ _ _ _ _ _ _ => none
  | k + 1 => b (fl15 b k)
theorem fl15_s {A1 A2 A3 A4 A5 A6 A7 A8 A9 A10 A11 A12 A13 A14 A15 O : Type} (b : (A1 → A2 → A3 → A4 → A5 → A6 → A7 → A8 → A9 → A10 → A11 → A12 → A13 → A14 → A15 → Option O) → A1 → A2 → A3 → A4 → A5 → A6 → A7 → A8 → A9 → A10 → A11 → A12 → A13 → A14 → A15 → Option O) (k : Nat) : fl15 b (k + 1) = b (fl15 b k) := rfl
def fl16 {A1 A2 A3 A4 A5 A6 A7 A8 A9 A10 A11 A12 A13 A14 A15 A16 O : Type} (b : (A1 → A2 → A3 → A4 → A5 → A6 → A7 → A8 → A9 → A10 → A11 → A12 → A13 → A14 → A15 → A16 → Option O) → A1 → A2 → A3 → A4 → A5 → A6 → A7 → A8 → A9 → A10 → A11 → A12 → A13 → A14 → A15 → A16 → Option O) : Nat → A1 → A2 → A3 → A4 → A5 → A6 → A7 → A8 → A9 → A10 → A11 → A12 → A13 → A14 → A15 → A16 → Option O
  | 0 => fun _ _ _ _ _ _ _ _ _ _ _ _ _ _ _ _ => none
  | k + 1 => b (fl16 b k)
theorem fl16_s {A1 A2 A3 A4 A5 A6 A7 A8 A9 A10 A11 A12 A13 A14 A15 A16 O : Type} (b : (A1 → A2 → A3 → A4 → A5 → A6 → A7 → A8 → A9 → A10 → A11 → A12 → A13 → A14 → A15 → A16 → Option O) → A1 → A2 → A3 → A4 → A5 → A6 → A7 → A8 → A9 → A10 → A11 → A12 → A13 → A14 → A15 → A16 → Option O) (k : Nat) : fl16 b (k + 1) = b (fl16 b k) := rfl
def fl17 {A1 A2 A3 A4 A5 A6 A7 A8 A9 A10 A11 A12 A13 A14 A15 A16 A17 O : Type} (b : (A1 → A2 → A3 → A4 → A5 → A6 → A7 → A8 → A9 → A10 → A11 → A12 → A13 → A14 → A15 → A16 → A17 → Option O) → A1 → A2 → A3 → A4 → A5 → A6 → A7 → A8 → A9 → A10 → A11 → A12 → A13 → A14 → A15 → A16 → A17 → Option O) : Nat → A1 → A2 → A3 → A4 → A5 → A6 → A7 → A8 → A9 → A10 → A11 → A12 → A13 → A14 → A15 → A16 → A17 → Option O
  | 0 => fun _ _ _ _ _ _ _ _ _ _ _ _ _ _ _ _ _ => none
  | k + 1 => b (fl17 b k)
theorem fl17_s {A1 A2 A3 A4 A5 A6 A7 A8 A9 A10 A11 A12 A13 A14 A15 A16 A17 O : Type} (b : (A1 → A2 → A3 → A4 → A5 → A6 → A7 → A8 → A9 → A10 → A11 → A12 → A13 → A14 → A15 → A16 → A17 → Option O) → A1 → A2 → A3 → A4 → A5 → A6 → A7 → A8 → A9 → A10 → A11 → A12 → A13 → A14 → A15 → A16 → A17 → Option O) (k : Nat) : fl17 b (k + 1) = b (fl17 b k) := rfl
def fl18 {A1 A2 A3 A4 A5 A6 A7 A8 A9 A10 A11 A12 A13 A14 A15 A16 A17 A18 O : Type} (b : (A1 → A2 → A3 → A4 → A5 → A6 → A7 → A8 → A9 → A10 → A11 → A12 → A13 → A14 → A15 → A16 → A17 → A18 → Option O) → A1 → A2 → A3 → A4 → A5 → A6 → A7 → A8 → A9 → A10 → A11 → A12 → A13 → A14 → A15 → A16 → A17 → A18 → Option O) : Nat → A1 → A2 → A3 → A4 → A5 → A6 → A7 → A8 → A9 → A10 → A11 → A12 → A13 → A14 → A15 → A16 → A17 → A18 → Option O
  | 0 => fun _ _ _ _ _ _ _ _ _ _ _ _ _ _ _ _ _ _ => none
  | k + 1 => b (fl18 b k)
theorem fl18_s {A1 A2 A3 A4 A5 A6 A7 A8 A9 A10 A11 A12 A13 A14 A15 A16 A17 A18 O : Type} (b : (A1 → A2 → A3 → A4 → A5 → A6 → A7 → A8 → A9 → A10 → A11 → A12 → A13 → A14 → A15 → A16 → A17 → A18 → Option O) → A1 → A2 → A3 → A4 → A5 → A6 → A7 → A8 → A9 → A10 → A11 → A12 → A13 → A14 → A15 → A16 → A17 → A18 → Option O) (k : Nat) : fl18 b (k + 1) = b (fl18 b k) := rfl
def fl19 {A1 A2 A3 A4 A5 A6 A7 A8 A9 A10 A11 A12 A13 A14 A15 A16 A17 A18 A19 O : Type} (b : (A1 → A2 → A3 → A4 → A5 → A6 → A7 → A8 → A9 → A10 → A11 → A12 → A13 → A14 → A15 → A16 → A17 → A18 → A19 → Option O) → A1 → A2 → A3 → A4 → A5 → A6 → A7 → A8 → A9 → A10 → A11 → A12 → A13 → A14 → A15 → A16 → A17 → A18 → A19 → Option O) : Nat → A1 → A2 → A3 → A4 → A5 → A6 → A7 → A8 → A9 → A10 → A11 → A12 → A13 → A14 → A15 → A16 → A17 → A18 → A19 → Option O
  | 0 => fun _ _ _ _ _ _ _ _ _ _ _ _ _ _ _ _ _ _ _ => none
  | k + 1 => b (fl19 b k)
theorem fl19_s {A1 A2 A3 A4 A5 A6 A7 A8 A9 A10 A11 A12 A13 A14 A15 A16 A17 A18 A19 O : Type} (b : (A1 → A2 → A3 → A4 → A5 → A6 → A7 → A8 → A9 → A10 → A11 → A12 → A13 → A14 → A15 → A16 → A17 → A18 → A19 → Option O) → A1 → A2 → A3 → A4 → A5 → A6 → A7 → A8 → A9 → A10 → A11 → A12 → A13 → A14 → A15 → A16 → A17 → A18 → A19 → Option O) (k : Nat) : fl19 b (k + 1) = b (fl19 b k) := rfl
def fl20 {A1 A2 A3 A4 A5 A6 A7 A8 A9 A10 A11 A12 A13 A14 A15 A16 A17 A18 A19 A20 O : Type} (b : (A1 → A2 → A3 → A4 → A5 → A6 → A7 → A8 → A9 → A10 → A11 → A12 → A13 → A14 → A15 → A16 → A17 → A18 → A19 → A20 → Option O) → A1 → A2 → A3 → A4 → A5 → A6 → A7 → A8 → A9 → A10 → A11 → A12 → A13 → A14 → A15 → A16 → A17 → A18 → A19 → A20 → Option O) : Nat → A1 → A2 → A3 → A4 → A5 → A6 → A7 → A8 → A9 → A10 → A11 → A12 → A13 → A14 → A15 → A16 → A17 → A18 → A19 → A20 → Option O
  | 0 => fun _ _ _ _ _ _ _ _ _ _ _ _ _ _ _ _ _ _ _ _ => none
  | k + 1 => b (fl20 b k)
theorem fl20_s {A1 A2 A3 A4 A5 A6 A7 A8 A9 A10 A11 A12 A13 A14 A15 A16 A17 A18 A19 A20 O : Type} (b : (A1 → A2 → A3 → A4 → A5 → A6 → A7 → A8 → A9 → A10 → A11 → A12 → A13 → A14 → A15 → A16 → A17 → A18 → A19 → A20 → Option O) → A1 → A2 → A3 → A4 → A5 → A6 → A7 → A8 → A9 → A10 → A11 → A12 → A13 → A14 → A15 → A16 → A17 → A18 → A19 → A20 → Option O) (k : Nat) : fl20 b (k + 1) = b (fl20 b k) := rfl
def fl41 {A1 A2 A3 A4 A5 A6 A7 A8 A9 A10 A11 A12 A13 A14 A15 A16 A17 A18 A19 A20 A21 A22 A23 A24 A25 A26 A27 A28 A29 A30 A31 A32 A33 A34 A35 A36 A37 A38 A39 A40 A41 O : Type} (b : (A1 → A2 → A3 → A4 → A5 → A6 → A7 → A8 → A9 → A10 → A11 → A12 → A13 → A14 → A15 → A16 → A17 → A18 → A19 → A20 → A21 → A22 → A23 → A24 → A25 → A26 → A27 → A28 → A29 → A30 → A31 → A32 → A33 → A34 → A35 → A36 → A37 → A38 → A39 → A40 → A41 → Option O) → A1 → A2 → A3 → A4 → A5 → A6 → A7 → A8 → A9 → A10 → A11 → A12 → A13 → A14 → A15 → A16 → A17 → A18 → A19 → A20 → A21 → A22 → A23 → A24 → A25 → A26 → A27 → A28 → A29 → A30 → A31 → A32 → A33 → A34 → A35 → A36 → A37 → A38 → A39 → A40 → A41 → Option O) : Nat → A1 → A2 → A3 → A4 → A5 → A6 → A7 → A8 → A9 → A10 → A11 → A12 → A13 → A14 → A15 → A16 → A17 → A18 → A19 → A20 → A21 → A22 → A23 → A24 → A25 → A26 → A27 → A28 → A29 → A30 → A31 → A32 → A33 → A34 → A35 → A36 → A37 → A38 → A39 → A40 → A41 → Option O
  | 0 => fun _ _ _ _ _ _ _ _ _ _ _ _ _ _ _ _ _ _ _ _ _ _ _ _ _ _ _ _ _ _ _ _ _ _ _ _ _ _ _ _ _ => none
  | k + 1 => b (fl41 b k)
theorem fl41_s {A1 A2 A3 A4 A5 A6 A7 A8 A9 A10 A11 A12 A13 A14 A15 A16 A17 A18 A19 A20 A21 A22 A23 A24 A25 A26 A27 A28 A29 A30 A31 A32 A33 A34 A35 A36 A37 A38 A39 A40 A41 O : Type} (b : (A1 → A2 → A3 → A4 → A5 → A6 → A7 → A8 → A9 → A10 → A11 → A12 → A13 → A14 → A15 → A16 → A17 → A18 → A19 → A20 → A21 → A22 → A23 → A24 → A25 → A26 → A27 → A28 → A29 → A30 → A31 → A32 → A33 → A34 → A35 → A36 → A37 → A38 → A39 → A40 → A41 → Option O) → A1 → A2 → A3 → A4 → A5 → A6 → A7 → A8 → A9 → A10 → A11 → A12 → A13 → A14 → A15 → A16 → A17 → A18 → A19 → A20 → A21 → A22 → A23 → A24 → A25 → A26 → A27 → A28 → A29 → A30 → A31 → A32 → A33 → A34 → A35 → A36 → A37 → A38 → A39 → A40 → A41 → Option O) (k : Nat) : fl41 b (k + 1) = b (fl41 b k) := rfl
/-! ===== the world behind a call ===== -/
def vpick (k : Nat) : List Nat → va_W → Option (Nat × va_E)
  | i :: is, y :: ys => cond (Nat.beq i k) (some y) (vpick k is ys)
  | _, _ => none
def vmapi (is : List Nat) (w1 : va_W) : Nat → va_W → va_W
  | _, [] => []
  | k, x :: xs => (vpick k is w1).getD x :: vmapi is w1 (k + 1) xs
def vput (ws : va_W) (is : List Nat) (w1 : va_W) : va_W := vmapi is w1 0 ws
theorem vmapi_get (is : List Nat) (w1 : va_W) : ∀ (ws : va_W) (n k : Nat), (vmapi is w1 n ws)[k]? = (ws[k]?).map (fun x => (vpick (n + k) is w1).getD x)
  | [], n, k => by simp [vmapi]
  | x :: xs, n, 0 => by simp [vmapi]
  | x :: xs, n, k + 1 => by
    have := vmapi_get is w1 xs (n + 1) k
    simp only [vmapi, List.getElem?_cons_succ, this]
    rw [show n + 1 + k = n + (k + 1) by omega]
theorem vpick_some {k : Nat} : ∀ {is : List Nat} {w1 : va_W} {y : Nat × va_E}, vpick k is w1 = some y → ∃ j : Nat, is[j]? = some k ∧ w1[j]? = some y
  | [], w1, y, h => by cases w1 <;> simp [vpick] at h
  | i :: is, [], y, h => by simp [vpick] at h
  | i :: is, z :: ys, y, h => by
    by_cases hik : i = k
    · subst hik
      have : Nat.beq i i = true := Nat.beq_refl i
      simp only [vpick, this, cond_true, Option.some.injEq] at h
      subst h
      exact ⟨0, rfl, rfl⟩
    · have hb : Nat.beq i k = false := by
        cases hb : Nat.beq i k with
        | true => exact absurd (Nat.eq_of_beq_eq_true hb) hik
        | false => rfl
      simp only [vpick, hb, cond_false] at h
      obtain ⟨j, h1, h2⟩ := vpick_some h
      exact ⟨j + 1, by simpa using h1, by simpa using h2⟩
theorem vpick_none {k : Nat} : ∀ {is : List Nat} {w1 : va_W}, vpick k is w1 = none → is.length = w1.length → k ∉ is
  | [], w1, _, _ => by simp
  | i :: is, [], _, hl => by simp at hl
  | i :: is, z :: ys, h, hl => by
    by_cases hik : i = k
    · subst hik
      have : Nat.beq i i = true := Nat.beq_refl i
      simp [vpick, this] at h
    · have hb : Nat.beq i k = false := by
        cases hb : Nat.beq i k with
        | true => exact absurd (Nat.eq_of_beq_eq_true hb) hik
        | false => rfl
      simp only [vpick, hb, cond_false] at h
      have := vpick_none h (by simpa using hl)
      intro hm
      rcases List.mem_cons.mp hm with e | e
      · exact hik e.symm
      · exact this e
theorem hn_at' {is : List Nat} {ws w : va_W} (hs : is.map (fun i => ws[i]?) = w.map some) {k i : Nat} (hi : is[k]? = some i) : ∃ q, w[k]? = some q ∧ ws[i]? = some q := by
  have h1 : (is.map (fun i => ws[i]?))[k]? = some (ws[i]?) := by rw [List.getElem?_map, hi]; rfl
  rw [hs, List.getElem?_map] at h1
  cases hw : w[k]? with
  | none => rw [hw] at h1; cases h1
  | some q => rw [hw] at h1; exact ⟨q, rfl, (Option.some.inj h1).symm⟩
theorem hn_after {A : Nat → Prop} {D : va_G} {cl : List vw_C} {ws wc w1 : va_W} {H H1 : Heap} (hP : va_P D cl ws H) (hD : va_D A ws) (isC : List Nat) (hC : isC.map (fun i => ws[i]?) = wc.map some) (hadr : w1.map Prod.fst = wc.map Prod.fst)
    (hk : ∀ q : Nat, q < H.size → ¬ va_A wc H.size q → H1[q]? = H[q]?) (hP1 : va_P D cl w1 H1) : va_P D cl (vput ws isC w1) H1 ∧ va_D A (vput ws isC w1) := by
  have hlen : isC.length = w1.length := by
    have h1 := congrArg List.length hC
    have h2 := congrArg List.length hadr
    simp at h1 h2
    omega
  have key : ∀ (k : Nat) (q : Nat × va_E), (vput ws isC w1)[k]? = some q → ∃ x, ws[k]? = some x ∧ x.1 = q.1 ∧ va_at D cl q H1 := by
    intro k q hq
    unfold vput at hq
    rw [vmapi_get] at hq
    cases hx : ws[k]? with
    | none => rw [hx] at hq; cases hq
    | some x =>
      rw [hx] at hq
      simp only [Option.map_some, Nat.zero_add, Option.some.injEq] at hq
      refine ⟨x, rfl, ?_⟩
      cases hv : vpick k isC w1 with
      | some y =>
        rw [hv] at hq
        simp only [Option.getD_some] at hq
        subst hq
        obtain ⟨j, h1, h2⟩ := vpick_some hv
        obtain ⟨z, h3, h4⟩ := hn_at' hC h1
        rw [hx] at h4
        have e1 : x = z := Option.some.inj h4
        have e2 : (w1.map Prod.fst)[j]? = some y.1 := by rw [List.getElem?_map, h2]; rfl
        rw [hadr, List.getElem?_map, h3] at e2
        refine ⟨?_, hP1 j y h2⟩
        rw [e1]; exact Option.some.inj e2
      | none =>
        rw [hv] at hq
        simp only [Option.getD_none] at hq
        subst hq
        have hni := vpick_none hv hlen
        refine ⟨rfl, (hP k x hx).kept (hk x.1 (hP k x hx).lt ?_)⟩
        intro hA
        rcases hA with ⟨j, e, h⟩ | h
        · have hjl : j < isC.length := by
            have h1 := congrArg List.length hC
            simp at h1
            rw [h1]
            exact (List.getElem?_eq_some_iff.mp h).1
          have hj : isC[j]? = some isC[j] := List.getElem?_eq_getElem hjl
          obtain ⟨z, h3, h4⟩ := hn_at' hC hj
          rw [h] at h3
          have e1 : (x.1, e) = z := Option.some.inj h3
          have := hD.1 k _ x z hx h4 (by rw [← e1])
          exact hni (this ▸ List.getElem_mem hjl)
        · have := (hP k x hx).lt
          omega
  refine ⟨fun k q hq => (key k q hq).choose_spec.2.2, ⟨fun i j p q hi hj hpq => ?_, fun k q hq => ?_⟩⟩
  · obtain ⟨x, h1, h2, -⟩ := key i p hi
    obtain ⟨y, h3, h4, -⟩ := key j q hj
    exact hD.1 i j x y h1 h3 (h2.trans (hpq.trans h4.symm))
  · obtain ⟨x, h1, h2, -⟩ := key k q hq
    rw [← h2]
    exact hD.2 k x h1
/-! ===== what every method of both sides takes as given, and gives back ===== -/
def tb_good (j : Nat) : Int32 := ([45, 46, 48, 57, 97, 122, 224, 246, 248, 255, 768, 769, 776, 776, 807, 807, 945, 961, 963, 969, 1488, 1514, 1575, 1576, 1614, 1614, 1632, 1641, 1776, 1785, 2325, 2361, 2381, 2381, 19968, 40959] : List Int32).getD j 0
def tb_pc (j : Nat) : Int32 := ([224, 232, 236, 242, 249, 225, 233, 237, 243, 250, 253, 228, 235, 239, 246, 252, 255, 231] : List Int32).getD j 0
def tb_pl (j : Nat) : Int32 := ([97, 101, 105, 111, 117, 97, 101, 105, 111, 117, 121, 97, 101, 105, 111, 117, 121, 99] : List Int32).getD j 0
def tb_pm (j : Nat) : Int32 := ([768, 768, 768, 768, 768, 769, 769, 769, 769, 769, 769, 776, 776, 776, 776, 776, 776, 807] : List Int32).getD j 0
def tb_tag (j : Nat) : Int32 := ([120, 110, 45, 45] : List Int32).getD j 0
/-- the static tables and the one link between nest mates -/
def hn_ST (tt : Nat → Nat) (A : Nat → Prop) (U : State) (H : Heap) : Prop :=
  va_Z "HostNames$Codes" "GOOD_RANGES" "[I" (.ref (tt 0)) A U H ∧
  va_T .int (tt 0) 36 (fun j => .int (tb_good j)) A U H ∧
  va_Z "HostNames$Composer" "PAIR_CODES" "[I" (.ref (tt 1)) A U H ∧
  va_T .int (tt 1) 18 (fun j => .int (tb_pc j)) A U H ∧
  va_Z "HostNames$Composer" "PAIR_LETTERS" "[I" (.ref (tt 2)) A U H ∧
  va_T .int (tt 2) 18 (fun j => .int (tb_pl j)) A U H ∧
  va_Z "HostNames$Composer" "PAIR_MARKS" "[I" (.ref (tt 3)) A U H ∧
  va_T .int (tt 3) 18 (fun j => .int (tb_pm j)) A U H ∧
  va_Z "HostNames$Checker" "TAG" "[I" (.ref (tt 4)) A U H ∧
  va_T .int (tt 4) 4 (fun j => .int (tb_tag j)) A U H ∧
  va_Nw (.methodLinkNest R_Checker 46 y_Host_bit "HostNames") U
theorem hn_ST.go {tt : Nat → Nat} {A A' : Nat → Prop} {s U : State} {H : Heap} {locs : List Loc} (h : hn_ST tt A s s.heap) (hS : va_S A s.heap H locs) (hA : ∀ q, A' q → A q) (hW : s.WarmedH U.vm) (hU : U.heap = H) : hn_ST tt A' U U.heap := by
  subst hU
  obtain ⟨h0, h1, h2, h3, h4, h5, h6, h7, h8, h9, h10⟩ := h
  exact ⟨((h0.kept hS.2.1).narrow hA).moved hW.alike, ((h1.kept hS.2.1).narrow hA).moved hW.alike, ((h2.kept hS.2.1).narrow hA).moved hW.alike, ((h3.kept hS.2.1).narrow hA).moved hW.alike, ((h4.kept hS.2.1).narrow hA).moved hW.alike, ((h5.kept hS.2.1).narrow hA).moved hW.alike, ((h6.kept hS.2.1).narrow hA).moved hW.alike, ((h7.kept hS.2.1).narrow hA).moved hW.alike, ((h8.kept hS.2.1).narrow hA).moved hW.alike, ((h9.kept hS.2.1).narrow hA).moved hW.alike, va_Nw.warmM hW h10⟩
theorem hn_ST.call {tt : Nat → Nat} {A : Nat → Prop} {U : State} {g : JFrame} {mk : MethodId} {a : Array Value} (h : hn_ST tt A U U.heap) : hn_ST tt A (U.calling g mk a) (U.calling g mk a).heap := by
  have e : U.vm.Alike (U.calling g mk a).vm := Vm.Alike.refl U.vm
  obtain ⟨h0, h1, h2, h3, h4, h5, h6, h7, h8, h9, h10⟩ := h
  exact ⟨h0.moved e, h1.moved e, h2.moved e, h3.moved e, h4.moved e, h5.moved e, h6.moved e, h7.moved e, h8.moved e, h9.moved e, va_Nw.same rfl rfl h10⟩
theorem st_z0 {tt : Nat → Nat} {A : Nat → Prop} {U : State} {H : Heap} (h : hn_ST tt A U H) : va_Z "HostNames$Codes" "GOOD_RANGES" "[I" (.ref (tt 0)) A U H := h.1
theorem st_t0 {tt : Nat → Nat} {A : Nat → Prop} {U : State} {H : Heap} (h : hn_ST tt A U H) : va_T .int (tt 0) 36 (fun j => .int (tb_good j)) A U H := h.2.1
theorem st_z1 {tt : Nat → Nat} {A : Nat → Prop} {U : State} {H : Heap} (h : hn_ST tt A U H) : va_Z "HostNames$Composer" "PAIR_CODES" "[I" (.ref (tt 1)) A U H := h.2.2.1
theorem st_t1 {tt : Nat → Nat} {A : Nat → Prop} {U : State} {H : Heap} (h : hn_ST tt A U H) : va_T .int (tt 1) 18 (fun j => .int (tb_pc j)) A U H := h.2.2.2.1
theorem st_z2 {tt : Nat → Nat} {A : Nat → Prop} {U : State} {H : Heap} (h : hn_ST tt A U H) : va_Z "HostNames$Composer" "PAIR_LETTERS" "[I" (.ref (tt 2)) A U H := h.2.2.2.2.1
theorem st_t2 {tt : Nat → Nat} {A : Nat → Prop} {U : State} {H : Heap} (h : hn_ST tt A U H) : va_T .int (tt 2) 18 (fun j => .int (tb_pl j)) A U H := h.2.2.2.2.2.1
theorem st_z3 {tt : Nat → Nat} {A : Nat → Prop} {U : State} {H : Heap} (h : hn_ST tt A U H) : va_Z "HostNames$Composer" "PAIR_MARKS" "[I" (.ref (tt 3)) A U H := h.2.2.2.2.2.2.1
theorem st_t3 {tt : Nat → Nat} {A : Nat → Prop} {U : State} {H : Heap} (h : hn_ST tt A U H) : va_T .int (tt 3) 18 (fun j => .int (tb_pm j)) A U H := h.2.2.2.2.2.2.2.1
theorem st_z4 {tt : Nat → Nat} {A : Nat → Prop} {U : State} {H : Heap} (h : hn_ST tt A U H) : va_Z "HostNames$Checker" "TAG" "[I" (.ref (tt 4)) A U H := h.2.2.2.2.2.2.2.2.1
theorem st_t4 {tt : Nat → Nat} {A : Nat → Prop} {U : State} {H : Heap} (h : hn_ST tt A U H) : va_T .int (tt 4) 4 (fun j => .int (tb_tag j)) A U H := h.2.2.2.2.2.2.2.2.2.1
theorem st_n {tt : Nat → Nat} {A : Nat → Prop} {U : State} {H : Heap} (h : hn_ST tt A U H) : va_Nw (.methodLinkNest R_Checker 46 y_Host_bit "HostNames") U := h.2.2.2.2.2.2.2.2.2.2
abbrev TY (cI cZ : ClassId) : List (ClassId × FieldType) := [(cI, .int), (cZ, .boolean)]
/-- the world in the midst of a method -/
def hn_E (D : va_G) (ty : List (ClassId × FieldType)) (tt : Nat → Nat) (A : Nat → Prop) (s : State) (H : Heap) (locs : List Loc) (ws : va_W) : Prop :=
  va_K D classes ty s ∧ va_P D classes ws H ∧ va_D A ws ∧ va_S A s.heap H locs ∧ (∀ q, s.heap.size ≤ q → A q) ∧ hn_ST tt A s s.heap
def hn_Pc (D : va_G) (ty : List (ClassId × FieldType)) (tt : Nat → Nat) (av : List Value) (sz : Nat) (ws : va_W) : Array Value → State → Prop :=
  va_Pc av (fun U => U.heap.size = sz ∧ va_P D classes ws U.heap ∧ va_K D classes ty U ∧ va_D (fun _ => True) ws ∧ hn_ST tt (va_A ws sz) U U.heap)
def hn_Qi (D : va_G) (ws : va_W) (sz : Nat) (w1 : va_W) (r0 : Int32) : Array Value → State → Outcome → State → Prop := va_Qi (fun r (_ : Unit) => r = r0) (fun _ t => va_P D classes w1 t.heap) (va_A ws sz)
def hn_Qz (D : va_G) (ws : va_W) (sz : Nat) (w1 : va_W) (r0 : Int32) : Array Value → State → Outcome → State → Prop := va_Qi (fun r (_ : Unit) => r = r0 ∧ narrow .boolean (.int r0) = .int r0) (fun _ t => va_P D classes w1 t.heap) (va_A ws sz)
def hn_Ql (D : va_G) (ws : va_W) (sz : Nat) (w1 : va_W) (r0 : Int64) : Array Value → State → Outcome → State → Prop := va_Ql (fun r (_ : Unit) => r = r0) (fun _ t => va_P D classes w1 t.heap) (va_A ws sz)
def hn_Qv (D : va_G) (ws : va_W) (sz : Nat) (w1 : va_W) : Array Value → State → Outcome → State → Prop := va_Qv (fun (_ : Unit) => True) (fun _ t => va_P D classes w1 t.heap) (va_A ws sz)
def hn_Qr (D : va_G) (ws : va_W) (sz : Nat) (w1 : va_W) (q0 : Nat) : Array Value → State → Outcome → State → Prop := va_Qr (fun (_ : Unit) => True) (fun _ a t => a = q0 ∧ va_P D classes w1 t.heap) (va_A ws sz)
def hn_w (y : MethodName) (cc : ByteArray) (n : Nat) (r : Option FieldType) : List Cond := Cond.code y cc n r :: hn_T
/-! ===== a method's start ===== -/
section HNM
variable {l : Launch} {y : MethodName} {cc : ByteArray} {maxL : Nat} {rm : Room} {D : va_G} {ty : List (ClassId × FieldType)} {tt : Nat → Nat} {av : List Value} {sz : Nat} {ws w1 : va_W} {own : String}
theorem hn_ofWv (hy : plainName y.cls = true) (hown : y.cls = own) (hlen : (lg_sl av).length ≤ maxL)
    (body : ∀ (p : Program) (e : Env) (s : State) (m : MethodId) (args : Array Value) (below : List Frame) (meth : Method) (c : Code) (A : Nat → Prop) (H : Heap) (locs : List Loc) (ls : Array Slot) (Q : State → Prop), CallFix p m c cc maxL s args hn_T own → hn_E D ty tt A s H locs ws → lv_has ls maxL (lv_args 0 av) →
      (∀ (H : Heap) (locs : List Loc) (ls : Array Slot) (pc : Nat), decode cc pc = .ok (.return_, 1) → hn_E D ty tt A s H locs w1 → W p l e rm s m args below meth c H locs 0 0 Q (F0 m pc ls [])) →
      W p l e rm s m args below meth c H locs 0 0 Q (F0 m 0 ls [])) : Met l y (hn_w y cc maxL none) rm (hn_Pc D ty tt av sz ws) (hn_Qv D ws sz w1) 0 0 (va_A ws sz) := by
  refine Met.ofW (cc := cc) (maxL := maxL) (ret := none) hy rfl ?_
  intro p e s m args below meth c s₁ B hml hv
  obtain ⟨rfl, hsz, hP, hK, hD0, hST⟩ := hv
  subst hsz
  have hts := atoms_spec (ws := hn_w y cc maxL none) B.pre
  rw [lg_entry_eq]
  exact body p e s m _ below meth c _ _ _ _ _ ⟨B.exec, B.bytes, hml, hown ▸ findClass_of_methodNamed B.named, fun w hw => hts w (List.mem_cons_of_mem _ hw)⟩ ⟨hK, hP, hD0.self, va_S.rf, fun q h => Or.inr h, hST⟩ (lv_entry av (n := maxL) hlen)
    (fun H locs ls pc hd hE => W.vret B.exec B.bytes B.returns (fun t ht hW => ⟨⟨(), rfl, trivial, (show va_P D classes w1 t.heap by rw [ht]; exact hE.2.1)⟩, hE.2.2.2.1.F ht⟩) hE.2.2.2.1.2.2 hd B.notSynchronized)
theorem hn_ofWi {r0 : Int32} (hy : plainName y.cls = true) (hown : y.cls = own) (hlen : (lg_sl av).length ≤ maxL)
    (body : ∀ (p : Program) (e : Env) (s : State) (m : MethodId) (args : Array Value) (below : List Frame) (meth : Method) (c : Code) (A : Nat → Prop) (H : Heap) (locs : List Loc) (ls : Array Slot) (Q : State → Prop), CallFix p m c cc maxL s args hn_T own → hn_E D ty tt A s H locs ws → lv_has ls maxL (lv_args 0 av) →
      (∀ (H : Heap) (locs : List Loc) (ls : Array Slot) (pc : Nat), decode cc pc = .ok (.ireturn, 1) → hn_E D ty tt A s H locs w1 → W p l e rm s m args below meth c H locs 0 0 Q (F0 m pc ls [.int r0])) →
      W p l e rm s m args below meth c H locs 0 0 Q (F0 m 0 ls [])) : Met l y (hn_w y cc maxL (some .int)) rm (hn_Pc D ty tt av sz ws) (hn_Qi D ws sz w1 r0) 0 0 (va_A ws sz) := by
  refine Met.ofW (cc := cc) (maxL := maxL) (ret := some .int) hy rfl ?_
  intro p e s m args below meth c s₁ B hml hv
  obtain ⟨rfl, hsz, hP, hK, hD0, hST⟩ := hv
  subst hsz
  have hts := atoms_spec (ws := hn_w y cc maxL (some .int)) B.pre
  rw [lg_entry_eq]
  exact body p e s m _ below meth c _ _ _ _ _ ⟨B.exec, B.bytes, hml, hown ▸ findClass_of_methodNamed B.named, fun w hw => hts w (List.mem_cons_of_mem _ hw)⟩ ⟨hK, hP, hD0.self, va_S.rf, fun q h => Or.inr h, hST⟩ (lv_entry av (n := maxL) hlen)
    (fun H locs ls pc hd hE => W.iret B.exec B.bytes B.returns (fun t ht hW => ⟨⟨r0, (), rfl, rfl, (show va_P D classes w1 t.heap by rw [ht]; exact hE.2.1)⟩, hE.2.2.2.1.F ht⟩) hE.2.2.2.1.2.2 hd B.notSynchronized)
theorem hn_ofWz {r0 : Int32} (hy : plainName y.cls = true) (hown : y.cls = own) (hlen : (lg_sl av).length ≤ maxL)
    (body : ∀ (p : Program) (e : Env) (s : State) (m : MethodId) (args : Array Value) (below : List Frame) (meth : Method) (c : Code) (A : Nat → Prop) (H : Heap) (locs : List Loc) (ls : Array Slot) (Q : State → Prop), CallFix p m c cc maxL s args hn_T own → hn_E D ty tt A s H locs ws → lv_has ls maxL (lv_args 0 av) →
      (∀ (H : Heap) (locs : List Loc) (ls : Array Slot) (pc : Nat), decode cc pc = .ok (.ireturn, 1) → narrow .boolean (.int r0) = .int r0 → hn_E D ty tt A s H locs w1 → W p l e rm s m args below meth c H locs 0 0 Q (F0 m pc ls [.int r0])) →
      W p l e rm s m args below meth c H locs 0 0 Q (F0 m 0 ls [])) : Met l y (hn_w y cc maxL (some .boolean)) rm (hn_Pc D ty tt av sz ws) (hn_Qz D ws sz w1 r0) 0 0 (va_A ws sz) := by
  refine Met.ofW (cc := cc) (maxL := maxL) (ret := some .boolean) hy rfl ?_
  intro p e s m args below meth c s₁ B hml hv
  obtain ⟨rfl, hsz, hP, hK, hD0, hST⟩ := hv
  subst hsz
  have hts := atoms_spec (ws := hn_w y cc maxL (some .boolean)) B.pre
  rw [lg_entry_eq]
  exact body p e s m _ below meth c _ _ _ _ _ ⟨B.exec, B.bytes, hml, hown ▸ findClass_of_methodNamed B.named, fun w hw => hts w (List.mem_cons_of_mem _ hw)⟩ ⟨hK, hP, hD0.self, va_S.rf, fun q h => Or.inr h, hST⟩ (lv_entry av (n := maxL) hlen)
    (fun H locs ls pc hd hz hE => W.zret B.exec B.bytes B.returns hz (fun t ht hW => ⟨⟨r0, (), rfl, ⟨rfl, hz⟩, (show va_P D classes w1 t.heap by rw [ht]; exact hE.2.1)⟩, hE.2.2.2.1.F ht⟩) hE.2.2.2.1.2.2 hd B.notSynchronized)
theorem hn_ofWl {r0 : Int64} (hy : plainName y.cls = true) (hown : y.cls = own) (hlen : (lg_sl av).length ≤ maxL)
    (body : ∀ (p : Program) (e : Env) (s : State) (m : MethodId) (args : Array Value) (below : List Frame) (meth : Method) (c : Code) (A : Nat → Prop) (H : Heap) (locs : List Loc) (ls : Array Slot) (Q : State → Prop), CallFix p m c cc maxL s args hn_T own → hn_E D ty tt A s H locs ws → lv_has ls maxL (lv_args 0 av) →
      (∀ (H : Heap) (locs : List Loc) (ls : Array Slot) (pc : Nat), decode cc pc = .ok (.lreturn, 1) → hn_E D ty tt A s H locs w1 → W p l e rm s m args below meth c H locs 0 0 Q (F0 m pc ls [.long r0])) →
      W p l e rm s m args below meth c H locs 0 0 Q (F0 m 0 ls [])) : Met l y (hn_w y cc maxL (some .long)) rm (hn_Pc D ty tt av sz ws) (hn_Ql D ws sz w1 r0) 0 0 (va_A ws sz) := by
  refine Met.ofW (cc := cc) (maxL := maxL) (ret := some .long) hy rfl ?_
  intro p e s m args below meth c s₁ B hml hv
  obtain ⟨rfl, hsz, hP, hK, hD0, hST⟩ := hv
  subst hsz
  have hts := atoms_spec (ws := hn_w y cc maxL (some .long)) B.pre
  rw [lg_entry_eq]
  exact body p e s m _ below meth c _ _ _ _ _ ⟨B.exec, B.bytes, hml, hown ▸ findClass_of_methodNamed B.named, fun w hw => hts w (List.mem_cons_of_mem _ hw)⟩ ⟨hK, hP, hD0.self, va_S.rf, fun q h => Or.inr h, hST⟩ (lv_entry av (n := maxL) hlen)
    (fun H locs ls pc hd hE => W.lret B.exec B.bytes B.returns (fun t ht hW => ⟨⟨r0, (), rfl, rfl, (show va_P D classes w1 t.heap by rw [ht]; exact hE.2.1)⟩, hE.2.2.2.1.F ht⟩) hE.2.2.2.1.2.2 hd B.notSynchronized)
theorem hn_ofWr {q0 : Nat} {C : String} (hy : plainName y.cls = true) (hown : y.cls = own) (hlen : (lg_sl av).length ≤ maxL)
    (body : ∀ (p : Program) (e : Env) (s : State) (m : MethodId) (args : Array Value) (below : List Frame) (meth : Method) (c : Code) (A : Nat → Prop) (H : Heap) (locs : List Loc) (ls : Array Slot) (Q : State → Prop), CallFix p m c cc maxL s args hn_T own → hn_E D ty tt A s H locs ws → lv_has ls maxL (lv_args 0 av) →
      (∀ (H : Heap) (locs : List Loc) (ls : Array Slot) (pc : Nat), decode cc pc = .ok (.areturn, 1) → hn_E D ty tt A s H locs w1 → W p l e rm s m args below meth c H locs 0 0 Q (F0 m pc ls [.ref q0])) →
      W p l e rm s m args below meth c H locs 0 0 Q (F0 m 0 ls [])) : Met l y (hn_w y cc maxL (some (.object C))) rm (hn_Pc D ty tt av sz ws) (hn_Qr D ws sz w1 q0) 0 0 (va_A ws sz) := by
  refine Met.ofW (cc := cc) (maxL := maxL) (ret := some (.object C)) hy rfl ?_
  intro p e s m args below meth c s₁ B hml hv
  obtain ⟨rfl, hsz, hP, hK, hD0, hST⟩ := hv
  subst hsz
  have hts := atoms_spec (ws := hn_w y cc maxL (some (.object C))) B.pre
  rw [lg_entry_eq]
  exact body p e s m _ below meth c _ _ _ _ _ ⟨B.exec, B.bytes, hml, hown ▸ findClass_of_methodNamed B.named, fun w hw => hts w (List.mem_cons_of_mem _ hw)⟩ ⟨hK, hP, hD0.self, va_S.rf, fun q h => Or.inr h, hST⟩ (lv_entry av (n := maxL) hlen)
    (fun H locs ls pc hd hE => W.aret B.exec B.bytes B.returns (Or.inl ⟨_, rfl⟩) (Or.inr ⟨_, rfl⟩) (fun t ht hW => ⟨⟨(), q0, rfl, trivial, rfl, (show va_P D classes w1 t.heap by rw [ht]; exact hE.2.1)⟩, hE.2.2.2.1.F ht⟩) hE.2.2.2.1.2.2 hd B.notSynchronized)
end HNM
/-! ===== rows over hn_E ===== -/
section HNR
variable {p : Program} {l : Launch} {e : Env} {R : Room} {s : State} {m : MethodId} {args : Array Value} {below : List Frame} {meth : Method} {c : Code} {H : Heap} {locs : List Loc} {cells slots : Nat} {Q : State → Prop}
variable {cc : ByteArray} {pc nL : Nat} {ls : Array Slot} {rest : List Value} {D : va_G} {A : Nat → Prop} {a : Nat} {ty : List (ClassId × FieldType)} {tt : Nat → Nat} {ws : va_W} {own : String}
theorem hn_get (S : CallFix p m c cc nL s args hn_T own) (hE : hn_E D ty tt A s H locs ws) {C : String} {T : u_T} {N ci index : Nat} (hin : ∀ w ∈ u_ws C T N, w ∈ hn_T) (q0 : Nat) {fs : List Value} (he : ws[q0]? = some (a, .inr (ci, fs))) (hc : classes[ci]? = some (C, T, N)) (k : Nat) (hk : k < N) (hlink : Cond.fieldLink own index (T k).1 (T k).2.1 (T k).2.2.1 ∈ hn_T) {v : Value} (hv : fs[k]? = some v) (hdg : decode cc pc = .ok (.getfield index, 3))
    (kk : W p l e R s m args below meth c H locs cells slots Q (F0 m (pc + 3) ls (v :: rest))) : W p l e R s m args below meth c H locs cells slots Q (F0 m pc ls (.ref a :: rest)) :=
  va_get S.1 S.2.1 S.2.2.2.2 hin S.2.2.2.1 hE.1 hE.2.1 q0 he hc k hk (S.2.2.2.2 _ hlink) (fun _ h => h) hv hdg kk
theorem hn_put (S : CallFix p m c cc nL s args hn_T own) (hE : hn_E D ty tt A s H locs ws) {C : String} {T : u_T} {N ci index : Nat} (hin : ∀ w ∈ u_ws C T N, w ∈ hn_T) {ty0 : Nat → FieldType} (hty : ∀ k, k < N → parseFieldDescriptor (T k).2.2.1 = some (ty0 k)) (hnm : ∀ a, a < N → ∀ b, b < N → a ≠ b → (T a).2.1 ≠ (T b).2.1) (q0 : Nat) {fs : List Value} (he : ws[q0]? = some (a, .inr (ci, fs))) (hc : classes[ci]? = some (C, T, N)) (k : Nat) (hk : k < N) (hlink : Cond.fieldLink own index (T k).1 (T k).2.1 (T k).2.2.1 ∈ hn_T) (hfin : (T k).2.2.2 = false) {tv : FieldType} {v : Value} (hd : parseFieldDescriptor (T k).2.2.1 = some tv) (hn : narrow tv v = v) (hfit : fits tv v = true) (hl : k < fs.length)
    (hdg : decode cc pc = .ok (.putfield index, 3)) (kk : ∀ (H1 : Heap) (locs1 : List Loc), hn_E D ty tt A s H1 locs1 (ws.set q0 (a, .inr (ci, fs.set k v))) → W p l e R s m args below meth c H1 locs1 cells slots Q (F0 m (pc + 3) ls rest)) : W p l e R s m args below meth c H locs cells slots Q (F0 m pc ls (v :: .ref a :: rest)) :=
  va_put S.1 S.2.1 S.2.2.2.2 hin ty0 hty hnm S.2.2.2.1 hE.1 hE.2.1 hE.2.2.1 hE.2.2.2.1 q0 he hc k hk (S.2.2.2.2 _ hlink) (fun _ h => h) hfin hd hn hfit hl hdg (fun H1 locs1 hP hD hS => kk H1 locs1 ⟨hE.1, hP, hD, hS, hE.2.2.2.2.1, hE.2.2.2.2.2⟩)
theorem hn_iald (S : CallFix p m c cc nL s args hn_T own) (hE : hn_E D ty tt A s H locs ws) (q0 t0 : Nat) {cA : ClassId} {n : Nat} {f : Nat → Int32} (ha : ws[q0]? = some (a, .inl (cA, n, .inl f))) (ht : ty[t0]? = some (cA, .int)) {i : Int32} (hin : vp_in i n) (hdg : decode cc pc = .ok (.iaload, 1))
    (kk : W p l e R s m args below meth c H locs cells slots Q (F0 m (pc + 1) ls (.int (f i.toNatClampNeg) :: rest))) : W p l e R s m args below meth c H locs cells slots Q (F0 m pc ls (.int i :: .ref a :: rest)) :=
  va_iald S.1 S.2.1 hE.1 hE.2.1 q0 t0 ha ht hin hdg kk
theorem hn_zald (S : CallFix p m c cc nL s args hn_T own) (hE : hn_E D ty tt A s H locs ws) (q0 t0 : Nat) {cA : ClassId} {n : Nat} {f : Nat → Int32} (ha : ws[q0]? = some (a, .inl (cA, n, .inl f))) (ht : ty[t0]? = some (cA, .boolean)) {i : Int32} (hin : vp_in i n) (hdg : decode cc pc = .ok (.baload, 1))
    (kk : W p l e R s m args below meth c H locs cells slots Q (F0 m (pc + 1) ls (.int (f i.toNatClampNeg) :: rest))) : W p l e R s m args below meth c H locs cells slots Q (F0 m pc ls (.int i :: .ref a :: rest)) :=
  va_zald S.1 S.2.1 hE.1 hE.2.1 q0 t0 ha ht hin hdg kk
theorem hn_iast (S : CallFix p m c cc nL s args hn_T own) (hE : hn_E D ty tt A s H locs ws) (q0 t0 : Nat) {cA : ClassId} {n : Nat} {f : Nat → Int32} (ha : ws[q0]? = some (a, .inl (cA, n, .inl f))) (ht : ty[t0]? = some (cA, .int)) {i x : Int32} (hin : vp_in i n) (hdg : decode cc pc = .ok (.iastore, 1))
    (kk : ∀ (H1 : Heap) (locs1 : List Loc), hn_E D ty tt A s H1 locs1 (ws.set q0 (a, .inl (cA, n, .inl (upd f i.toNatClampNeg x)))) → W p l e R s m args below meth c H1 locs1 cells slots Q (F0 m (pc + 1) ls rest)) : W p l e R s m args below meth c H locs cells slots Q (F0 m pc ls (.int x :: .int i :: .ref a :: rest)) :=
  va_iast S.1 S.2.1 hE.1 hE.2.1 hE.2.2.1 hE.2.2.2.1 q0 t0 ha ht hin hdg (fun H1 locs1 hP hD hS => kk H1 locs1 ⟨hE.1, hP, hD, hS, hE.2.2.2.2.1, hE.2.2.2.2.2⟩)
theorem hn_zast (S : CallFix p m c cc nL s args hn_T own) (hE : hn_E D ty tt A s H locs ws) (q0 t0 : Nat) {cA : ClassId} {n : Nat} {f : Nat → Int32} (ha : ws[q0]? = some (a, .inl (cA, n, .inl f))) (ht : ty[t0]? = some (cA, .boolean)) {i x : Int32} (hin : vp_in i n) (hdg : decode cc pc = .ok (.bastore, 1))
    (kk : ∀ (H1 : Heap) (locs1 : List Loc), hn_E D ty tt A s H1 locs1 (ws.set q0 (a, .inl (cA, n, .inl (upd f i.toNatClampNeg (vp_nar .boolean x))))) → W p l e R s m args below meth c H1 locs1 cells slots Q (F0 m (pc + 1) ls rest)) : W p l e R s m args below meth c H locs cells slots Q (F0 m pc ls (.int x :: .int i :: .ref a :: rest)) :=
  va_zast S.1 S.2.1 hE.1 hE.2.1 hE.2.2.1 hE.2.2.2.1 q0 t0 ha ht hin hdg (fun H1 locs1 hP hD hS => kk H1 locs1 ⟨hE.1, hP, hD, hS, hE.2.2.2.2.1, hE.2.2.2.2.2⟩)
theorem hn_alen (S : CallFix p m c cc nL s args hn_T own) (hE : hn_E D ty tt A s H locs ws) (q0 t0 : Nat) {cA : ClassId} {x : vp_A} (ha : ws[q0]? = some (a, .inl (cA, x))) {t : FieldType} (ht : ty[t0]? = some (cA, t)) (hdg : decode cc pc = .ok (.arraylength, 1))
    (kk : W p l e R s m args below meth c H locs cells slots Q (F0 m (pc + 1) ls (.int (nI x.1) :: rest))) : W p l e R s m args below meth c H locs cells slots Q (F0 m pc ls (.ref a :: rest)) :=
  va_alen S.1 S.2.1 hE.1 hE.2.1 q0 t0 ha ht rfl hdg kk
theorem hn_gets (S : CallFix p m c cc nL s args hn_T own) (hE : hn_E D ty tt A s H locs ws) {C n d : String} {v : Value} {index : Nat} (hZ : hn_ST tt A s s.heap → va_Z C n d v A s s.heap) (hlink : Cond.fieldLink own index C n d ∈ hn_T) (hdg : decode cc pc = .ok (.getstatic index, 3))
    (kk : W p l e R s m args below meth c H locs cells slots Q (F0 m (pc + 3) ls (v :: rest))) : W p l e R s m args below meth c H locs cells slots Q (F0 m pc ls rest) :=
  va_gets S.1 S.2.1 (hZ hE.2.2.2.2.2) hE.2.2.2.1 S.2.2.2.1 (S.2.2.2.2 _ hlink) (fun _ h => h) hdg kk
theorem hn_tlen (S : CallFix p m c cc nL s args hn_T own) (hE : hn_E D ty tt A s H locs ws) {t N : Nat} {f : Nat → Value} (hT : hn_ST tt A s s.heap → va_T .int t N f A s s.heap) {v : Int32} (hv : Int32.ofNat N = v) (hdg : decode cc pc = .ok (.arraylength, 1))
    (kk : W p l e R s m args below meth c H locs cells slots Q (F0 m (pc + 1) ls (.int v :: rest))) : W p l e R s m args below meth c H locs cells slots Q (F0 m pc ls (.ref t :: rest)) :=
  va_tlen S.1 S.2.1 (hT hE.2.2.2.2.2) hE.2.2.2.1 hv hdg kk
theorem hn_ti (S : CallFix p m c cc nL s args hn_T own) (hE : hn_E D ty tt A s H locs ws) {t N : Nat} {f : Nat → Value} (hT : hn_ST tt A s s.heap → va_T .int t N f A s s.heap) {i : Int32} (hin : vp_in i N) {v : Value} (hv : f i.toNatClampNeg = v) (hdg : decode cc pc = .ok (.iaload, 1))
    (kk : W p l e R s m args below meth c H locs cells slots Q (F0 m (pc + 1) ls (v :: rest))) : W p l e R s m args below meth c H locs cells slots Q (F0 m pc ls (.int i :: .ref t :: rest)) :=
  va_ti S.1 S.2.1 (hT hE.2.2.2.2.2) hE.2.2.2.1 hin hv hdg kk
def jmax (x y : Int32) : Int32 := if x < y then y else x
def jmin (x y : Int32) : Int32 := if y < x then y else x
theorem hn_Mmax (S : CallFix p m c cc nL s args hn_T own) (hsz : ls.size = nL) {index : Nat} (hl : Cond.methodLink own index y_Math_max ∈ hn_T) (hframes : 1 ≤ R.frames) (hlocals : (rest.map fun v => v.category).sum + 13 ≤ R.locals) (hf : cells ≤ R.cells ∧ slots ≤ R.slots) {x y : Int32} (hdg : decode cc pc = .ok (.invokestatic index, 3))
    (kk : W p l e R s m args below meth c H locs cells slots Q (F0 m (pc + 3) ls (.int (jmax x y) :: rest))) : W p l e R s m args below meth c H locs cells slots Q (F0 m pc ls (.int y :: .int x :: rest)) :=
  va_mmax S.1 S.2.1 (S.2.2.1.trans hsz.symm) S.2.2.2.1 (S.2.2.2.2 _ hl) (S.2.2.2.2 _ mw_309) (S.2.2.2.2 _ mw_9) (S.2.2.2.2 _ mw_310) hframes hlocals hf.1 hf.2 hdg kk
theorem hn_Mmin (S : CallFix p m c cc nL s args hn_T own) (hsz : ls.size = nL) {index : Nat} (hl : Cond.methodLink own index y_Math_min ∈ hn_T) (hframes : 1 ≤ R.frames) (hlocals : (rest.map fun v => v.category).sum + 13 ≤ R.locals) (hf : cells ≤ R.cells ∧ slots ≤ R.slots) {x y : Int32} (hdg : decode cc pc = .ok (.invokestatic index, 3))
    (kk : W p l e R s m args below meth c H locs cells slots Q (F0 m (pc + 3) ls (.int (jmin x y) :: rest))) : W p l e R s m args below meth c H locs cells slots Q (F0 m pc ls (.int y :: .int x :: rest)) :=
  va_mmin S.1 S.2.1 (S.2.2.1.trans hsz.symm) S.2.2.2.1 (S.2.2.2.2 _ hl) (S.2.2.2.2 _ mw_306) (S.2.2.2.2 _ mw_9) (S.2.2.2.2 _ mw_307) hframes hlocals hf.1 hf.2 hdg kk
/-! ===== calls ===== -/
/-- what the tables say of a callee: its code, its class ready, how many it takes -/
def hn_CF (y : MethodName) (bytes : ByteArray) (maxL : Nat) (ret : Option FieldType) (n : Nat) : Prop :=
  Cond.code y bytes maxL ret ∈ hn_T ∧ Cond.initialized y.cls ∈ hn_T ∧ y.cls ≠ "java/lang/invoke/MethodHandle" ∧ y.cls ≠ "java/lang/invoke/VarHandle" ∧ (parseMethodDescriptor y.desc).map (fun d => d.parameters.length) = some n
theorem hn_good {y : MethodName} {bytes : ByteArray} {maxL : Nat} {ret : Option FieldType} (h : Cond.code y bytes maxL ret ∈ hn_T) : GoodIn hn_T (hn_w y bytes maxL ret) := by
  intro w hw
  have hm : w ∈ hn_T := by
    rcases List.mem_cons.mp hw with e | e
    · rw [e]; exact h
    · exact e
  exact ⟨hm, good_of_word (List.mem_filter.mp hm).2⟩
variable {y : MethodName} {bytes : ByteArray} {maxL n index : Nat} {ret : Option FieldType} {rm : Room} {wc w1 : va_W} {As st : List Value} {b : Nat}
theorem hn_sub (hP : va_P D classes ws H) (isC : List Nat) (hC : isC.map (fun i => ws[i]?) = wc.map some) : va_P D classes wc H := by
  intro k q hk
  have hlt : k < isC.length := by
    have h1 := congrArg List.length hC
    simp at h1
    rw [h1]
    exact (List.getElem?_eq_some_iff.mp hk).1
  obtain ⟨z, h1, h2⟩ := hn_at' hC (List.getElem?_eq_getElem hlt)
  rw [hk] at h1
  cases h1
  exact hP _ _ h2
theorem hn_pre (hE : hn_E D ty tt A s H locs ws) (isC : List Nat) (hC : isC.map (fun i => ws[i]?) = wc.map some) (hnd : va_nd isC = true) : PreS s H (hn_Pc D ty tt As H.size wc) As := by
  obtain ⟨hK, hP, hD, hS, hA, hT⟩ := hE
  have hF := va_free (wc := wc) hD hS hA isC hC
  refine ⟨fun a U g mk q => ?_, fun U hU hW => ?_⟩
  · obtain ⟨q0, q1, qP, qK, qD, qS⟩ := q
    exact ⟨q0, q1, qP, va_K.moved (u := U) (U := U.calling g mk a) (Vm.Alike.refl U.vm) qK, qD, qS.call⟩
  · refine ⟨rfl, by rw [hU], ?_, va_K.moved hW.alike hK, ?_, hT.go hS hF hW hU⟩
    · rw [hU]; exact hn_sub hP isC hC
    · exact (hD.sub isC hnd hC).weaken (fun _ _ _ _ => trivial)
theorem hn_callB (hT : ∀ w ∈ hn_T, w.before args s = true) (cf : hn_CF y bytes maxL ret n) (hl : Cond.methodLink own index y ∈ hn_T) (hrc : rm.cells = 0 ∧ rm.slots = 0) (hR : rm.frames + 1 ≤ R.frames ∧ 8 + (maxL + 11) + rm.locals ≤ R.locals) : CallB R s args own index y bytes maxL ret (hn_w y bytes maxL ret) rm 0 0 n :=
  callB_of n hT (hn_good cf.1) rfl hrc.1 hrc.2 (hT _ cf.2.1) (hT _ hl) ⟨cf.2.2.1, cf.2.2.2.1, cf.2.2.2.2⟩ hR
/-- behind a call: the world put together again -/
theorem hn_back (hE : hn_E D ty tt A s H locs ws) (isC : List Nat) (hC : isC.map (fun i => ws[i]?) = wc.map some) (hadr : w1.map Prod.fst = wc.map Prod.fst) {H1 : Heap} {locs1 : List Loc} {t : State} (ht : t.heap = H1) (hP1 : va_P D classes w1 t.heap)
    (hk : ∀ q : Nat, q < H.size → ¬ va_A wc H.size q → H1[q]? = H[q]?) (hS : va_S A s.heap H1 locs1) : hn_E D ty tt A s H1 locs1 (vput ws isC w1) := by
  rw [ht] at hP1
  obtain ⟨h1, h2⟩ := hn_after hE.2.1 hE.2.2.1 isC hC hadr hk hP1
  exact ⟨hE.1, h1, h2, hS, hE.2.2.2.2.1, hE.2.2.2.2.2⟩
/-- a call of an instance method: the run of it -/
theorem hn_runV {Qc : Array Value → State → Outcome → State → Prop} (S : CallFix p m c cc nL s args hn_T own) (hE : hn_E D ty tt A s H locs ws) (hM : Met l y (hn_w y bytes maxL ret) rm (hn_Pc D ty tt (.ref b :: As) H.size wc) Qc 0 0 (va_A wc H.size)) (cf : hn_CF y bytes maxL ret n) (hl : Cond.methodLink own index y ∈ hn_T) (hi : Cond.instanceMethod y ∈ hn_T) (hs : Cond.selects y.cls y y ∈ hn_T) (hrc : rm.cells = 0 ∧ rm.slots = 0) (hR : rm.frames + 1 ≤ R.frames ∧ 8 + (maxL + 11) + rm.locals ≤ R.locals)
    (isC : List Nat) (hC : isC.map (fun i => ws[i]?) = wc.map some) (hnd : va_nd isC = true) {ci N : Nat} {T : u_T} {fs : List Value} (hc : classes[ci]? = some (y.cls, T, N)) (he : wc[0]? = some (b, .inr (ci, fs))) (hn : As.length = n) (hst : st = As.reverse ++ .ref b :: rest) (hsize : ls.size = nL) (hW : 2 * (F0 m pc ls st).monitorRoom + (rest.map fun v => v.category).sum ≤ 8) (hdg : decode cc pc = .ok (.invokevirtual index, 3)) (hf : cells ≤ R.cells ∧ slots ≤ R.slots) :
    va_Run p l e R s m args below meth c H locs cells slots 0 0 (F0 m pc ls st) rest (Qc (Value.ref b :: As).toArray) (va_A wc H.size) := by
  have hpre := hn_pre (As := .ref b :: As) hE isC hC hnd
  have hPc : va_P D classes wc H := hn_sub hE.2.1 isC hC
  exact va_runV S hM ⟨hn_callB S.2.2.2.2 cf hl hrc hR, S.2.2.2.2 _ hi, S.2.2.2.2 _ hs⟩ ⟨hpre.1, va_recv hE.1 hPc hc he, hpre.2⟩ rfl hn hsize hst hW hdg hf
/-- a call of a static method: the run of it -/
theorem hn_runS {Qc : Array Value → State → Outcome → State → Prop} (S : CallFix p m c cc nL s args hn_T own) (hE : hn_E D ty tt A s H locs ws) (hM : Met l y (hn_w y bytes maxL ret) rm (hn_Pc D ty tt As H.size wc) Qc 0 0 (va_A wc H.size)) (cf : hn_CF y bytes maxL ret n) (hl : Cond.methodLink own index y ∈ hn_T) (hi : Cond.static y ∈ hn_T) (hrc : rm.cells = 0 ∧ rm.slots = 0) (hR : rm.frames + 1 ≤ R.frames ∧ 8 + (maxL + 11) + rm.locals ≤ R.locals)
    (isC : List Nat) (hC : isC.map (fun i => ws[i]?) = wc.map some) (hnd : va_nd isC = true) (hn : As.length = n) (hst : st = As.reverse ++ rest) (hsize : ls.size = nL) (hW : 2 * (F0 m pc ls st).monitorRoom + (rest.map fun v => v.category).sum ≤ 8) (hdg : decode cc pc = .ok (.invokestatic index, 3)) (hf : cells ≤ R.cells ∧ slots ≤ R.slots) :
    va_Run p l e R s m args below meth c H locs cells slots 0 0 (F0 m pc ls st) rest (Qc As.toArray) (va_A wc H.size) :=
  va_runS S hM ⟨hn_callB S.2.2.2.2 cf hl hrc hR, S.2.2.2.2 _ hi⟩ (hn_pre hE isC hC hnd) rfl hn hsize hst hW hdg hf
/-- a call of a nest mate's private static method -/
theorem hn_runN {Qc : Array Value → State → Outcome → State → Prop} {host : String} (S : CallFix p m c cc nL s args hn_T own) (hE : hn_E D ty tt A s H locs ws) (hM : Met l y (hn_w y bytes maxL ret) rm (hn_Pc D ty tt As H.size wc) Qc 0 0 (va_A wc H.size)) (cf : hn_CF y bytes maxL ret n) (hl : hn_ST tt A s s.heap → va_Nw (.methodLinkNest own index y host) s) (hi : Cond.static y ∈ hn_T) (hrc : rm.cells = 0 ∧ rm.slots = 0) (hR : rm.frames + 1 ≤ R.frames ∧ 8 + (maxL + 11) + rm.locals ≤ R.locals)
    (isC : List Nat) (hC : isC.map (fun i => ws[i]?) = wc.map some) (hnd : va_nd isC = true) (hn : As.length = n) (hst : st = As.reverse ++ rest) (hsize : ls.size = nL) (hW : 2 * (F0 m pc ls st).monitorRoom + (rest.map fun v => v.category).sum ≤ 8) (hdg : decode cc pc = .ok (.invokestatic index, 3)) (hf : cells ≤ R.cells ∧ slots ≤ R.slots) :
    va_Run p l e R s m args below meth c H locs cells slots 0 0 (F0 m pc ls st) rest (Qc As.toArray) (va_A wc H.size) :=
  va_runSN S hM ⟨va_cnB n S.2.2.2.2 (hn_good cf.1) rfl hrc.1 hrc.2 (hl hE.2.2.2.2.2) (S.2.2.2.2 _ cf.2.1) ⟨cf.2.2.1, cf.2.2.2.1, cf.2.2.2.2⟩ hR, S.2.2.2.2 _ hi, trivial⟩ (hn_pre hE isC hC hnd) rfl hn hsize hst hW hdg hf
theorem hn_ci {r0 : Int32} {av : Array Value} (hE : hn_E D ty tt A s H locs ws) (hr : va_Run p l e R s m args below meth c H locs cells slots 0 0 (F0 m pc ls st) rest (hn_Qi D wc H.size w1 r0 av) (va_A wc H.size)) (isC : List Nat) (hC : isC.map (fun i => ws[i]?) = wc.map some) (hadr : w1.map Prod.fst = wc.map Prod.fst)
    (kk : ∀ (H1 : Heap) (locs1 : List Loc), hn_E D ty tt A s H1 locs1 (vput ws isC w1) → W p l e R s m args below meth c H1 locs1 cells slots Q (F0 m (pc + 3) ls (.int r0 :: rest))) : W p l e R s m args below meth c H locs cells slots Q (F0 m pc ls st) := by
  have hF := va_free (wc := wc) hE.2.2.1 hE.2.2.2.1 hE.2.2.2.2.1 isC hC
  refine va_calli hr hE.2.2.2.1 (fun q _ h => hF q h) hF (fun r u t H1 locs1 ht hvm hw hB hz hk hS => ?_)
  have hw : r = r0 := hw
  subst hw
  exact kk H1 locs1 (hn_back hE isC hC hadr ht hB hk hS)
theorem hn_cz {r0 : Int32} {av : Array Value} (hE : hn_E D ty tt A s H locs ws) (hr : va_Run p l e R s m args below meth c H locs cells slots 0 0 (F0 m pc ls st) rest (hn_Qz D wc H.size w1 r0 av) (va_A wc H.size)) (isC : List Nat) (hC : isC.map (fun i => ws[i]?) = wc.map some) (hadr : w1.map Prod.fst = wc.map Prod.fst)
    (kk : ∀ (H1 : Heap) (locs1 : List Loc), narrow .boolean (.int r0) = .int r0 → hn_E D ty tt A s H1 locs1 (vput ws isC w1) → W p l e R s m args below meth c H1 locs1 cells slots Q (F0 m (pc + 3) ls (.int r0 :: rest))) : W p l e R s m args below meth c H locs cells slots Q (F0 m pc ls st) := by
  have hF := va_free (wc := wc) hE.2.2.1 hE.2.2.2.1 hE.2.2.2.2.1 isC hC
  refine va_calli hr hE.2.2.2.1 (fun q _ h => hF q h) hF (fun r u t H1 locs1 ht hvm hw hB hz hk hS => ?_)
  obtain ⟨hw, hn⟩ : r = r0 ∧ narrow .boolean (.int r0) = .int r0 := hw
  subst hw
  exact kk H1 locs1 hn (hn_back hE isC hC hadr ht hB hk hS)
theorem hn_cl {r0 : Int64} {av : Array Value} (hE : hn_E D ty tt A s H locs ws) (hr : va_Run p l e R s m args below meth c H locs cells slots 0 0 (F0 m pc ls st) rest (hn_Ql D wc H.size w1 r0 av) (va_A wc H.size)) (isC : List Nat) (hC : isC.map (fun i => ws[i]?) = wc.map some) (hadr : w1.map Prod.fst = wc.map Prod.fst)
    (kk : ∀ (H1 : Heap) (locs1 : List Loc), hn_E D ty tt A s H1 locs1 (vput ws isC w1) → W p l e R s m args below meth c H1 locs1 cells slots Q (F0 m (pc + 3) ls (.long r0 :: rest))) : W p l e R s m args below meth c H locs cells slots Q (F0 m pc ls st) := by
  have hF := va_free (wc := wc) hE.2.2.1 hE.2.2.2.1 hE.2.2.2.2.1 isC hC
  refine va_calll hr hE.2.2.2.1 (fun q _ h => hF q h) hF (fun r u t H1 locs1 ht hvm hw hB hz hk hS => ?_)
  have hw : r = r0 := hw
  subst hw
  exact kk H1 locs1 (hn_back hE isC hC hadr ht hB hk hS)
theorem hn_cv {av : Array Value} (hE : hn_E D ty tt A s H locs ws) (hr : va_Run p l e R s m args below meth c H locs cells slots 0 0 (F0 m pc ls st) rest (hn_Qv D wc H.size w1 av) (va_A wc H.size)) (isC : List Nat) (hC : isC.map (fun i => ws[i]?) = wc.map some) (hadr : w1.map Prod.fst = wc.map Prod.fst)
    (kk : ∀ (H1 : Heap) (locs1 : List Loc), hn_E D ty tt A s H1 locs1 (vput ws isC w1) → W p l e R s m args below meth c H1 locs1 cells slots Q (F0 m (pc + 3) ls rest)) : W p l e R s m args below meth c H locs cells slots Q (F0 m pc ls st) := by
  have hF := va_free (wc := wc) hE.2.2.1 hE.2.2.2.1 hE.2.2.2.2.1 isC hC
  refine va_callv hr hE.2.2.2.1 (fun q _ h => hF q h) hF (fun u t H1 locs1 ht hvm hw hB hz hk hS => ?_)
  exact kk H1 locs1 (hn_back hE isC hC hadr ht hB hk hS)
theorem hn_cr {q0 : Nat} {av : Array Value} (hE : hn_E D ty tt A s H locs ws) (hr : va_Run p l e R s m args below meth c H locs cells slots 0 0 (F0 m pc ls st) rest (hn_Qr D wc H.size w1 q0 av) (va_A wc H.size)) (isC : List Nat) (hC : isC.map (fun i => ws[i]?) = wc.map some) (hadr : w1.map Prod.fst = wc.map Prod.fst)
    (kk : ∀ (H1 : Heap) (locs1 : List Loc), hn_E D ty tt A s H1 locs1 (vput ws isC w1) → W p l e R s m args below meth c H1 locs1 cells slots Q (F0 m (pc + 3) ls (.ref q0 :: rest))) : W p l e R s m args below meth c H locs cells slots Q (F0 m pc ls st) := by
  have hF := va_free (wc := wc) hE.2.2.1 hE.2.2.2.1 hE.2.2.2.2.1 isC hC
  refine va_callr hr hE.2.2.2.1 (fun q _ h => hF q h) hF (fun u ra t H1 locs1 ht hvm hw hB hz hk hS => ?_)
  obtain ⟨hw, hB⟩ : ra = q0 ∧ va_P D classes w1 t.heap := hB
  subst hw
  exact kk H1 locs1 (hn_back hE isC hC hadr ht hB hk hS)
end HNR
