/-! ===== pure part: numbers, codes ===== -/
def b2 (p : Bool) : Int32 := if p then 1 else 0
theorem b2_0 {p : Bool} : (b2 p = 0) ↔ p = false := by cases p <;> simp [b2]
theorem b2_1 {p : Bool} : (b2 p = 1) ↔ p = true := by cases p <;> simp [b2]
theorem b2_le {p : Bool} : (b2 p ≤ 0) ↔ p = false := by cases p <;> simp [b2] <;> decide
theorem b2_lt {p : Bool} : (0 < b2 p) ↔ p = true := by cases p <;> simp [b2] <;> decide
/-- a code as a whole number -/
def wi (c lo hi : Int) : Bool := decide (lo ≤ c) && decide (c ≤ hi)
theorem mod_within (c lo hi : Int32) : P_Mod_within c lo hi = some (b2 (wi c.toInt lo.toInt hi.toInt)) := by
  unfold P_Mod_within wi b2
  simp only [Int32.lt_iff_toInt_lt]
  by_cases h1 : c.toInt < lo.toInt
  · simp [h1, Int.not_le.mpr h1]
  · by_cases h2 : hi.toInt < c.toInt
    · simp [h1, h2, Int.not_le.mpr h2]
    · simp [h1, h2, Int.not_lt.mp h1, Int.not_lt.mp h2]
theorem codes_within (c lo hi : Int32) : P_Codes_isWithin c lo hi = some (b2 (wi c.toInt lo.toInt hi.toInt)) := mod_within c lo hi
theorem codes_capital (c : Int32) : P_Codes_isCapital c = some (b2 (wi c.toInt 65 90)) := mod_within c 65 90
def odB (c : Int32) : Bool := c == 223 || c == 962 || c == 8204 || c == 8205
theorem codes_odd (c : Int32) : P_Codes_isOdd c = some (b2 (odB c)) := by
  unfold P_Codes_isOdd odB b2
  by_cases h1 : c = 223
  · simp [h1]
  by_cases h2 : c = 962
  · simp [h2]
  by_cases h3 : c = 8204
  · simp [h3]
  by_cases h4 : c = 8205
  · simp [h4]
  simp [h1, h2, h3, h4]
theorem mod_odd (c : Int32) : P_Mod_isOdd c = some (b2 (odB c)) := codes_odd c
def ordS (c : Int32) : Int32 := if c = 768 then 230 else if c = 769 then 230 else if c = 776 then 230 else if c = 807 then 202 else if c = 1614 then 30 else if c = 2381 then 9 else 0
theorem codes_order (c : Int32) : P_Codes_order c = some (ordS c) := by
  unfold P_Codes_order ordS
  repeat' split
  all_goals rfl
theorem mod_order (c : Int32) : P_Mod_order c = some (ordS c) := codes_order c
theorem i32_eq {a b : Int32} : (a = b) ↔ a.toInt = b.toInt := Int32.toInt_inj.symm
theorem ifb {α : Sort _} (p : Prop) [Decidable p] (a b : α) : (if p then a else b) = cond (decide p) a b := by
  by_cases h : p <;> simp [h]
theorem dbf (b : Bool) : decide (b = false) = !b := by cases b <;> rfl
/-- a code that is one of these -/
def eqI (c : Int32) (k : Int32) : Bool := decide (c = k)
theorem eqI_def (c k : Int32) : decide (c = k) = eqI c k := rfl
theorem eqI_b2 (p : Bool) : eqI (b2 p) 0 = !p := by cases p <;> rfl
def mkB (c : Int32) : Bool := eqI c 768 || eqI c 769 || eqI c 776 || eqI c 807 || eqI c 1614 || eqI c 2381
theorem ordS_pos (c : Int32) : decide (0 < ordS c) = mkB c := by
  unfold ordS mkB eqI
  repeat' split
  all_goals simp_all
  all_goals decide
theorem ordS_npos (c : Int32) : decide (ordS c ≤ 0) = !mkB c := by
  unfold ordS mkB eqI
  repeat' split
  all_goals simp_all
  all_goals decide
def gdB (c : Int32) : Bool := eqI c 45 || eqI c 46 || wi c.toInt 48 57 || wi c.toInt 97 122 || (wi c.toInt 224 255 && !eqI c 247) || mkB c || (wi c.toInt 945 969 && !eqI c 962) || wi c.toInt 1488 1514 || eqI c 1575 || eqI c 1576 || wi c.toInt 1632 1641 || wi c.toInt 1776 1785 || wi c.toInt 2325 2361 || wi c.toInt 19968 40959
theorem mod_good_119 (c : Int32) (a b : Bool) : P_Mod_isGood_119 c (b2 a) (b2 b) = some (b2 (a || b || wi c.toInt 1632 1641 || wi c.toInt 1776 1785 || wi c.toInt 2325 2361 || wi c.toInt 19968 40959)) := by
  unfold P_Mod_isGood_119
  simp only [mod_within, Option.bind_some, b2_0, Int32.reduceToInt, ifb, dbf, eqI_def, eqI_b2]
  cases a <;> cases b <;> cases wi c.toInt 1632 1641 <;> cases wi c.toInt 1776 1785 <;> cases wi c.toInt 2325 2361 <;> cases wi c.toInt 19968 40959 <;> rfl
theorem mod_good_87 (c : Int32) (a : Bool) : P_Mod_isGood_87 c (b2 a) = some (b2 (a || (wi c.toInt 1488 1514 || eqI c 1575 || eqI c 1576) || wi c.toInt 1632 1641 || wi c.toInt 1776 1785 || wi c.toInt 2325 2361 || wi c.toInt 19968 40959)) := by
  unfold P_Mod_isGood_87
  have e1 : P_Mod_isGood_119 c (b2 a) 1 = _ := mod_good_119 c a true
  have e0 : P_Mod_isGood_119 c (b2 a) 0 = _ := mod_good_119 c a false
  simp only [mod_within, Option.bind_some, b2_0, Int32.reduceToInt, e0, e1, ifb, dbf, eqI_def, eqI_b2]
  cases wi c.toInt 1488 1514 <;> cases eqI c 1575 <;> cases eqI c 1576 <;> cases a <;> rfl
theorem mod_good_59 (c : Int32) (a : Bool) : P_Mod_isGood_59 c (b2 a) = some (b2 (a || mkB c || (wi c.toInt 945 969 && !eqI c 962) || (wi c.toInt 1488 1514 || eqI c 1575 || eqI c 1576) || wi c.toInt 1632 1641 || wi c.toInt 1776 1785 || wi c.toInt 2325 2361 || wi c.toInt 19968 40959)) := by
  unfold P_Mod_isGood_59
  have e1 : P_Mod_isGood_119 c (b2 a) 1 = _ := mod_good_119 c a true
  simp only [mod_within, mod_order, Option.bind_some, b2_0, Int32.reduceToInt, e1, mod_good_87, ifb, dbf, ordS_pos, eqI_def, eqI_b2]
  cases mkB c <;> cases wi c.toInt 945 969 <;> cases eqI c 962 <;> cases a <;> rfl
theorem mod_good (c : Int32) : P_Mod_isGood c = some (b2 (gdB c)) := by
  unfold P_Mod_isGood gdB
  have e1 : P_Mod_isGood_59 c 1 = _ := mod_good_59 c true
  have e0 : P_Mod_isGood_59 c 0 = _ := mod_good_59 c false
  simp only [mod_within, Option.bind_some, b2_0, Int32.reduceToInt, e0, e1, ifb, dbf, eqI_def, eqI_b2]
  cases eqI c 45 <;> cases eqI c 46 <;> cases wi c.toInt 48 57 <;> cases wi c.toInt 97 122 <;> cases wi c.toInt 224 255 <;> cases eqI c 247 <;> simp [Bool.or_assoc]
def plB (c : Int32) : Bool := wi c.toInt 0 127 && !gdB c && !wi c.toInt 65 90
theorem mod_plain (c : Int32) : P_Mod_isPlain c = some (b2 (plB c)) := by
  unfold P_Mod_isPlain plB
  simp only [mod_within, mod_good, Option.bind_some, b2_0, Int32.reduceToInt, ifb, dbf, eqI_def, eqI_b2]
  cases wi c.toInt 0 127 <;> cases gdB c <;> cases wi c.toInt 65 90 <;> rfl
theorem eqI_iff (c k : Int32) : eqI c k = decide (c.toInt = k.toInt) := by
  unfold eqI
  by_cases h : c = k
  · simp [h]
  · have : ¬ c.toInt = k.toInt := fun q => h (Int32.toInt_inj.mp q)
    simp [h, this]
/-- one look at the table of good ranges -/
theorem good_step (c : Int32) (K : Int32 → Option Int32) (j : Nat) (hj : j < 18) : P_Codes_isInGoodRanges_2 c K (nI (2 * j)) = cond (wi c.toInt (tb_good (2 * j)).toInt (tb_good (2 * j + 1)).toInt) (some 1) (K (nI (2 * (j + 1)))) := by
  have n1 : nI (2 * j) + 1 = nI (2 * j + 1) := nI_1 _
  have n2 : nI (2 * j) + 2 = nI (2 * (j + 1)) := by
    have : (2 : Int32) = nI 2 := rfl
    rw [this, nI_add]
    rfl
  have c1 : (nI (2 * j)).toNatClampNeg = 2 * j := nI_clamp (by omega)
  have c2 : (nI (2 * j + 1)).toNatClampNeg = 2 * j + 1 := nI_clamp (by omega)
  unfold P_Codes_isInGoodRanges_2 gi
  rw [n1, n2, c1, c2]
  have h0 : ¬ ((36 : Int32) ≤ nI (2 * j + 1)) := by
    have : (36 : Int32) = nI 36 := rfl
    rw [this, nI_leI (by omega) (by omega)]
    omega
  have h1 : ¬ (nI (2 * j) < 0 ∨ 36 ≤ 2 * j) := by
    rintro (h | h)
    · exact nI_pos (by omega) h
    · omega
  have h2 : ¬ (nI (2 * j + 1) < 0 ∨ 36 ≤ 2 * j + 1) := by
    rintro (h | h)
    · exact nI_pos (by omega) h
    · omega
  rw [if_neg h0, if_neg h1, if_neg h2]
  simp only [Int32.lt_iff_toInt_lt, ifb, wi]
  by_cases a : c.toInt < (tb_good (2 * j)).toInt
  · simp [a, Int.not_le.mpr a]
  · by_cases b : (tb_good (2 * j + 1)).toInt < c.toInt
    · simp [a, b, Int.not_le.mpr b]
    · simp [a, b, Int.not_lt.mp a, Int.not_lt.mp b]
theorem good_end (c : Int32) (K : Int32 → Option Int32) : P_Codes_isInGoodRanges_2 c K (nI 36) = some 0 := by
  unfold P_Codes_isInGoodRanges_2
  rw [if_pos (by decide)]
theorem codes_ranges (c : Int32) : P_Codes_isInGoodRanges c = some (b2 (gdB c)) := by
  have hfu : fu = 99981 + 19 := rfl
  unfold P_Codes_isInGoodRanges
  rw [hfu]
  have z : (0 : Int32) = nI (2 * 0) := rfl
  rw [z]
  have st : ∀ j, j < 18 → ∀ k, fl1 (P_Codes_isInGoodRanges_2 c) (k + 1) (nI (2 * j)) = cond (wi c.toInt (tb_good (2 * j)).toInt (tb_good (2 * j + 1)).toInt) (some 1) (fl1 (P_Codes_isInGoodRanges_2 c) k (nI (2 * (j + 1)))) := fun j hj k => good_step c _ j hj
  rw [st 0 (by decide), st 1 (by decide), st 2 (by decide), st 3 (by decide), st 4 (by decide), st 5 (by decide), st 6 (by decide), st 7 (by decide), st 8 (by decide), st 9 (by decide), st 10 (by decide), st 11 (by decide), st 12 (by decide), st 13 (by decide), st 14 (by decide), st 15 (by decide), st 16 (by decide), st 17 (by decide)]
  have en : fl1 (P_Codes_isInGoodRanges_2 c) (99981 + 1) (nI (2 * (17 + 1))) = some 0 := good_end c _
  rw [en]
  have a0 : (tb_good (2 * 0)).toInt = 45 := by decide
  have z0 : (tb_good (2 * 0 + 1)).toInt = 46 := by decide
  have a1 : (tb_good (2 * 1)).toInt = 48 := by decide
  have z1 : (tb_good (2 * 1 + 1)).toInt = 57 := by decide
  have a2 : (tb_good (2 * 2)).toInt = 97 := by decide
  have z2 : (tb_good (2 * 2 + 1)).toInt = 122 := by decide
  have a3 : (tb_good (2 * 3)).toInt = 224 := by decide
  have z3 : (tb_good (2 * 3 + 1)).toInt = 246 := by decide
  have a4 : (tb_good (2 * 4)).toInt = 248 := by decide
  have z4 : (tb_good (2 * 4 + 1)).toInt = 255 := by decide
  have a5 : (tb_good (2 * 5)).toInt = 768 := by decide
  have z5 : (tb_good (2 * 5 + 1)).toInt = 769 := by decide
  have a6 : (tb_good (2 * 6)).toInt = 776 := by decide
  have z6 : (tb_good (2 * 6 + 1)).toInt = 776 := by decide
  have a7 : (tb_good (2 * 7)).toInt = 807 := by decide
  have z7 : (tb_good (2 * 7 + 1)).toInt = 807 := by decide
  have a8 : (tb_good (2 * 8)).toInt = 945 := by decide
  have z8 : (tb_good (2 * 8 + 1)).toInt = 961 := by decide
  have a9 : (tb_good (2 * 9)).toInt = 963 := by decide
  have z9 : (tb_good (2 * 9 + 1)).toInt = 969 := by decide
  have a10 : (tb_good (2 * 10)).toInt = 1488 := by decide
  have z10 : (tb_good (2 * 10 + 1)).toInt = 1514 := by decide
  have a11 : (tb_good (2 * 11)).toInt = 1575 := by decide
  have z11 : (tb_good (2 * 11 + 1)).toInt = 1576 := by decide
  have a12 : (tb_good (2 * 12)).toInt = 1614 := by decide
  have z12 : (tb_good (2 * 12 + 1)).toInt = 1614 := by decide
  have a13 : (tb_good (2 * 13)).toInt = 1632 := by decide
  have z13 : (tb_good (2 * 13 + 1)).toInt = 1641 := by decide
  have a14 : (tb_good (2 * 14)).toInt = 1776 := by decide
  have z14 : (tb_good (2 * 14 + 1)).toInt = 1785 := by decide
  have a15 : (tb_good (2 * 15)).toInt = 2325 := by decide
  have z15 : (tb_good (2 * 15 + 1)).toInt = 2361 := by decide
  have a16 : (tb_good (2 * 16)).toInt = 2381 := by decide
  have z16 : (tb_good (2 * 16 + 1)).toInt = 2381 := by decide
  have a17 : (tb_good (2 * 17)).toInt = 19968 := by decide
  have z17 : (tb_good (2 * 17 + 1)).toInt = 40959 := by decide
  rw [a0, z0, a1, z1, a2, z2, a3, z3, a4, z4, a5, z5, a6, z6, a7, z7, a8, z8, a9, z9, a10, z10, a11, z11, a12, z12, a13, z13, a14, z14, a15, z15, a16, z16, a17, z17]
  have key : gdB c = (wi c.toInt 45 46 || wi c.toInt 48 57 || wi c.toInt 97 122 || wi c.toInt 224 246 || wi c.toInt 248 255 || wi c.toInt 768 769 || wi c.toInt 776 776 || wi c.toInt 807 807 || wi c.toInt 945 961 || wi c.toInt 963 969 || wi c.toInt 1488 1514 || wi c.toInt 1575 1576 || wi c.toInt 1614 1614 || wi c.toInt 1632 1641 || wi c.toInt 1776 1785 || wi c.toInt 2325 2361 || wi c.toInt 2381 2381 || wi c.toInt 19968 40959) := by
    rw [Bool.eq_iff_iff]
    simp only [gdB, mkB, wi, eqI_iff, Bool.or_eq_true, Bool.and_eq_true, Bool.not_eq_true', decide_eq_true_eq, decide_eq_false_iff_not, Int32.reduceToInt]
    omega
  rw [key]
  cases wi c.toInt 45 46 <;> try rfl
  cases wi c.toInt 48 57 <;> try rfl
  cases wi c.toInt 97 122 <;> try rfl
  cases wi c.toInt 224 246 <;> try rfl
  cases wi c.toInt 248 255 <;> try rfl
  cases wi c.toInt 768 769 <;> try rfl
  cases wi c.toInt 776 776 <;> try rfl
  cases wi c.toInt 807 807 <;> try rfl
  cases wi c.toInt 945 961 <;> try rfl
  cases wi c.toInt 963 969 <;> try rfl
  cases wi c.toInt 1488 1514 <;> try rfl
  cases wi c.toInt 1575 1576 <;> try rfl
  cases wi c.toInt 1614 1614 <;> try rfl
  cases wi c.toInt 1632 1641 <;> try rfl
  cases wi c.toInt 1776 1785 <;> try rfl
  cases wi c.toInt 2325 2361 <;> try rfl
  cases wi c.toInt 2381 2381 <;> try rfl
  cases wi c.toInt 19968 40959 <;> try rfl
