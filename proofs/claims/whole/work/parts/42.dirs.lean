/-! directions: the reference's number of a code -/
def drZ (z : Int) : Nat := if 1488 ≤ z ∧ z ≤ 1514 then 1 else if z = 1575 ∨ z = 1576 then 2 else if 1632 ≤ z ∧ z ≤ 1641 then 3 else if (48 ≤ z ∧ z ≤ 57) ∨ (1776 ≤ z ∧ z ≤ 1785) then 4 else if z = 45 then 5 else if z = 768 ∨ z = 769 ∨ z = 776 ∨ z = 807 ∨ z = 1614 ∨ z = 2381 then 6 else if z = 8204 ∨ z = 8205 then 7 else if (0 ≤ z ∧ z ≤ 127) ∧ ¬ (65 ≤ z ∧ z ≤ 90) ∧ ¬ (97 ≤ z ∧ z ≤ 122) then 8 else 9
def drN (c : Int32) : Nat := drZ c.toInt
theorem wi_d (c lo hi : Int) : wi c lo hi = decide (lo ≤ c ∧ c ≤ hi) := by
  by_cases h1 : lo ≤ c <;> by_cases h2 : c ≤ hi <;> simp [wi, h1, h2]
theorem mk_d (c : Int32) : mkB c = decide (c.toInt = 768 ∨ c.toInt = 769 ∨ c.toInt = 776 ∨ c.toInt = 807 ∨ c.toInt = 1614 ∨ c.toInt = 2381) := by
  rw [Bool.eq_iff_iff]
  simp only [mkB, Bool.or_eq_true, eqI_t, Int32.reduceToInt, decide_eq_true_eq]
  omega
theorem condd {α : Sort _} (p : Prop) [Decidable p] (a b : α) : cond (decide p) a b = if p then a else b := (ifb p a b).symm
theorem ite_some {α : Type} (p : Prop) [Decidable p] (a b : α) : (if p then some a else some b) = some (if p then a else b) := by
  by_cases h : p <;> simp [h]
def drI (z : Int) : Int32 := if 1488 ≤ z ∧ z ≤ 1514 then (1 : Int32) else if z = 1575 ∨ z = 1576 then (2 : Int32) else if 1632 ≤ z ∧ z ≤ 1641 then (3 : Int32) else if (48 ≤ z ∧ z ≤ 57) ∨ (1776 ≤ z ∧ z ≤ 1785) then (4 : Int32) else if z = 45 then (5 : Int32) else if z = 768 ∨ z = 769 ∨ z = 776 ∨ z = 807 ∨ z = 1614 ∨ z = 2381 then (6 : Int32) else if z = 8204 ∨ z = 8205 then (7 : Int32) else if (0 ≤ z ∧ z ≤ 127) ∧ ¬ (65 ≤ z ∧ z ≤ 90) ∧ ¬ (97 ≤ z ∧ z ≤ 122) then (8 : Int32) else 9
theorem drI_eq (z : Int) : drI z = nI (drZ z) := by
  unfold drI drZ
  by_cases h0 : 1488 ≤ z ∧ z ≤ 1514
  · rw [if_pos h0, if_pos h0]; rfl
  rw [if_neg h0, if_neg h0]
  by_cases h1 : z = 1575 ∨ z = 1576
  · rw [if_pos h1, if_pos h1]; rfl
  rw [if_neg h1, if_neg h1]
  by_cases h2 : 1632 ≤ z ∧ z ≤ 1641
  · rw [if_pos h2, if_pos h2]; rfl
  rw [if_neg h2, if_neg h2]
  by_cases h3 : (48 ≤ z ∧ z ≤ 57) ∨ (1776 ≤ z ∧ z ≤ 1785)
  · rw [if_pos h3, if_pos h3]; rfl
  rw [if_neg h3, if_neg h3]
  by_cases h4 : z = 45
  · rw [if_pos h4, if_pos h4]; rfl
  rw [if_neg h4, if_neg h4]
  by_cases h5 : z = 768 ∨ z = 769 ∨ z = 776 ∨ z = 807 ∨ z = 1614 ∨ z = 2381
  · rw [if_pos h5, if_pos h5]; rfl
  rw [if_neg h5, if_neg h5]
  by_cases h6 : z = 8204 ∨ z = 8205
  · rw [if_pos h6, if_pos h6]; rfl
  rw [if_neg h6, if_neg h6]
  by_cases h7 : (0 ≤ z ∧ z ≤ 127) ∧ ¬ (65 ≤ z ∧ z ≤ 90) ∧ ¬ (97 ≤ z ∧ z ≤ 122)
  · rw [if_pos h7, if_pos h7]; rfl
  rw [if_neg h7, if_neg h7]
  rfl
def drB (c : Int32) : Int32 := cond (wi c.toInt 1488 1514) (1 : Int32) (cond ((eqI c 1575 || eqI c 1576)) (2 : Int32) (cond (wi c.toInt 1632 1641) (3 : Int32) (cond ((wi c.toInt 48 57 || wi c.toInt 1776 1785)) (4 : Int32) (cond (eqI c 45) (5 : Int32) (cond (mkB c) (6 : Int32) (cond ((eqI c 8204 || eqI c 8205)) (7 : Int32) (cond ((wi c.toInt 0 127 && !wi c.toInt 65 90 && !wi c.toInt 97 122)) (8 : Int32) (9))))))))
theorem cond_if {α : Sort _} {b : Bool} {p : Prop} [Decidable p] (h : b = true ↔ p) (x y : α) : cond b x y = if p then x else y := by
  cases b with
  | true => rw [if_pos (h.mp rfl)]; rfl
  | false => rw [if_neg (fun q => by simpa using h.mpr q)]; rfl
theorem drB_eq (c : Int32) : drB c = nI (drN c) := by
  unfold drN
  rw [← drI_eq]
  have h0 : (wi c.toInt 1488 1514) = true ↔ (1488 ≤ c.toInt ∧ c.toInt ≤ 1514) := by
    simp only [mk_d, decide_eq_true_eq, Bool.or_eq_true, Bool.and_eq_true, Bool.not_eq_true', ← Bool.not_eq_true, wi_iff, eqI_t, Int32.reduceToInt, and_assoc]
  have h1 : ((eqI c 1575 || eqI c 1576)) = true ↔ (c.toInt = 1575 ∨ c.toInt = 1576) := by
    simp only [mk_d, decide_eq_true_eq, Bool.or_eq_true, Bool.and_eq_true, Bool.not_eq_true', ← Bool.not_eq_true, wi_iff, eqI_t, Int32.reduceToInt, and_assoc]
  have h2 : (wi c.toInt 1632 1641) = true ↔ (1632 ≤ c.toInt ∧ c.toInt ≤ 1641) := by
    simp only [mk_d, decide_eq_true_eq, Bool.or_eq_true, Bool.and_eq_true, Bool.not_eq_true', ← Bool.not_eq_true, wi_iff, eqI_t, Int32.reduceToInt, and_assoc]
  have h3 : ((wi c.toInt 48 57 || wi c.toInt 1776 1785)) = true ↔ ((48 ≤ c.toInt ∧ c.toInt ≤ 57) ∨ (1776 ≤ c.toInt ∧ c.toInt ≤ 1785)) := by
    simp only [mk_d, decide_eq_true_eq, Bool.or_eq_true, Bool.and_eq_true, Bool.not_eq_true', ← Bool.not_eq_true, wi_iff, eqI_t, Int32.reduceToInt, and_assoc]
  have h4 : (eqI c 45) = true ↔ (c.toInt = 45) := by
    simp only [mk_d, decide_eq_true_eq, Bool.or_eq_true, Bool.and_eq_true, Bool.not_eq_true', ← Bool.not_eq_true, wi_iff, eqI_t, Int32.reduceToInt, and_assoc]
  have h5 : (mkB c) = true ↔ (c.toInt = 768 ∨ c.toInt = 769 ∨ c.toInt = 776 ∨ c.toInt = 807 ∨ c.toInt = 1614 ∨ c.toInt = 2381) := by
    simp only [mk_d, decide_eq_true_eq, Bool.or_eq_true, Bool.and_eq_true, Bool.not_eq_true', ← Bool.not_eq_true, wi_iff, eqI_t, Int32.reduceToInt, and_assoc]
  have h6 : ((eqI c 8204 || eqI c 8205)) = true ↔ (c.toInt = 8204 ∨ c.toInt = 8205) := by
    simp only [mk_d, decide_eq_true_eq, Bool.or_eq_true, Bool.and_eq_true, Bool.not_eq_true', ← Bool.not_eq_true, wi_iff, eqI_t, Int32.reduceToInt, and_assoc]
  have h7 : ((wi c.toInt 0 127 && !wi c.toInt 65 90 && !wi c.toInt 97 122)) = true ↔ ((0 ≤ c.toInt ∧ c.toInt ≤ 127) ∧ ¬ (65 ≤ c.toInt ∧ c.toInt ≤ 90) ∧ ¬ (97 ≤ c.toInt ∧ c.toInt ≤ 122)) := by
    simp only [mk_d, decide_eq_true_eq, Bool.or_eq_true, Bool.and_eq_true, Bool.not_eq_true', ← Bool.not_eq_true, wi_iff, eqI_t, Int32.reduceToInt, and_assoc]
  unfold drB drI
  rw [cond_if h0, cond_if h1, cond_if h2, cond_if h3, cond_if h4, cond_if h5, cond_if h6, cond_if h7]
theorem mod_dir (c : Int32) : P_Mod_direction c = some (nI (drN c)) := by
  rw [← drB_eq]
  unfold P_Mod_direction drB
  simp only [mod_within, mod_order, Option.bind_some, Int32.reduceToInt, ifb, ordS_npos, eqI_def, eqI_b2]
  cases wi c.toInt 1488 1514 <;> try rfl
  cases eqI c 1575 <;> try rfl
  cases eqI c 1576 <;> try rfl
  cases wi c.toInt 1632 1641 <;> try rfl
  cases wi c.toInt 48 57 <;> try rfl
  cases wi c.toInt 1776 1785 <;> try rfl
  cases eqI c 45 <;> try rfl
  cases mkB c <;> try rfl
  cases eqI c 8204 <;> try rfl
  cases eqI c 8205 <;> try rfl
  cases wi c.toInt 0 127 <;> try rfl
  cases wi c.toInt 65 90 <;> try rfl
  cases wi c.toInt 97 122 <;> rfl
def fdir (k : Nat) : Int32 := match k with
  | 1 => 2 | 2 => 4 | 3 => 8 | 4 => 16 | 5 => 32 | 6 => 64 | 7 => 128 | 8 => 256 | _ => 1
theorem codes_mark (c : Int32) : P_Codes_isMark c = some (b2 (mkB c)) := by
  unfold P_Codes_isMark
  simp only [codes_order, Option.bind_some, ifb, ordS_npos]
  cases mkB c <;> rfl
theorem codes_dir (c : Int32) : P_Codes_direction c = some (fdir (drN c)) := by
  unfold P_Codes_direction P_Codes_asciiDirection drN
  simp only [codes_within, codes_capital, codes_mark, Option.bind_some, b2_0, Int32.reduceToInt, i32_eq (a := c), wi_d, mk_d, ← Bool.not_eq_true, decide_eq_true_eq]
  generalize c.toInt = z
  unfold drZ
  repeat' split
  all_goals first | rfl | omega
/-! joining -/
def joS (c : Int32) : Int32 := if c = 1575 then 1 else if c = 1576 then 2 else if c = 1614 then 3 else if c = 2381 then 3 else 0
theorem codes_joining (c : Int32) : P_Codes_joining c = some (joS c) := by
  unfold P_Codes_joining joS
  repeat' split
  all_goals rfl
theorem mod_joins (c : Int32) : P_Mod_joins c = some (joS c) := by
  unfold P_Mod_joins joS
  repeat' split
  all_goals rfl
theorem drN_rng (c : Int32) : 1 ≤ drN c ∧ drN c ≤ 9 := by
  unfold drN drZ
  repeat' split
  all_goals omega
