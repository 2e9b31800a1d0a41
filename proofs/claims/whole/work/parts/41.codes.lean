theorem codes_plain (c : Int32) : P_Codes_isPlain c = some (b2 (plB c)) := by
  unfold P_Codes_isPlain plB
  simp only [codes_within, codes_capital, codes_ranges, Option.bind_some, b2_0, Int32.reduceToInt, ifb, dbf, eqI_def, eqI_b2]
  cases wi c.toInt 0 127 <;> cases gdB c <;> cases wi c.toInt 65 90 <;> rfl
theorem codes_good_18 (c : Int32) (b : Bool) : P_Codes_isGood_18 c (b2 b) = some (b2 (!b && odB c)) := by
  unfold P_Codes_isGood_18
  simp only [codes_odd, Option.bind_some, b2_0, ifb, dbf, eqI_def, eqI_b2]
  cases b <;> cases odB c <;> rfl
theorem codes_good (c : Int32) (a b : Bool) : P_Codes_isGood c (b2 a) (b2 b) = some (b2 (gdB c || (!a && plB c) || (!b && odB c))) := by
  unfold P_Codes_isGood
  simp only [codes_ranges, codes_plain, codes_good_18, Option.bind_some, b2_0, ifb, dbf, eqI_def, eqI_b2]
  cases gdB c <;> cases a <;> cases plB c <;> (simp <;> rfl)
/-- the code that a fullwidth one stands for -/
def fwS (c : Int32) : Int32 := cond (wi (c - 65248).toInt 65 90) (c - 65248 + 32) (c - 65248)
def upB (c : Int32) : Bool := wi c.toInt 65 90 || (wi c.toInt 192 222 && !eqI c 215) || (wi c.toInt 913 937 && !eqI c 930)
def mpS (c : Int32) : Int32 := cond (wi c.toInt 65281 65374) (fwS c) (cond (eqI c 12290) 46 (cond (upB c) (c + 32) c))
def imS (c : Int32) : Int32 := cond (upB c) (c + 32) (cond (eqI c 12290) 46 (cond (wi c.toInt 65281 65374) (fwS c) (-1)))
theorem codes_map_93 (c : Int32) (a b : Bool) : P_Codes_mappedTo_93 c (b2 a) (b2 b) = some (cond (wi c.toInt 65 90 || a || b) (c + 32) c) := by
  unfold P_Codes_mappedTo_93
  simp only [codes_capital, Option.bind_some, b2_0, ifb, dbf, eqI_def, eqI_b2]
  cases wi c.toInt 65 90 <;> cases a <;> cases b <;> rfl
theorem codes_map_67 (c : Int32) (a : Bool) : P_Codes_mappedTo_67 c (b2 a) = some (cond (wi c.toInt 65 90 || a || (wi c.toInt 913 937 && !eqI c 930)) (c + 32) c) := by
  unfold P_Codes_mappedTo_67
  have e0 : P_Codes_mappedTo_93 c (b2 a) 0 = _ := codes_map_93 c a false
  have e1 : P_Codes_mappedTo_93 c (b2 a) 1 = _ := codes_map_93 c a true
  simp only [codes_within, Option.bind_some, b2_0, Int32.reduceToInt, e0, e1, ifb, dbf, eqI_def, eqI_b2]
  cases wi c.toInt 913 937 <;> cases eqI c 930 <;> simp
theorem codes_map (c : Int32) : P_Codes_mappedTo c = some (mpS c) := by
  unfold P_Codes_mappedTo mpS fwS upB
  have e0 : P_Codes_mappedTo_67 c 0 = _ := codes_map_67 c false
  have e1 : P_Codes_mappedTo_67 c 1 = _ := codes_map_67 c true
  simp only [codes_within, codes_capital, Option.bind_some, b2_0, Int32.reduceToInt, e0, e1, ifb, dbf, eqI_def, eqI_b2]
  cases wi c.toInt 65281 65374 <;> cases eqI c 12290 <;> cases wi c.toInt 192 222 <;> cases eqI c 215 <;> cases wi (c - 65248).toInt 65 90 <;> simp
theorem mod_image_56 (c : Int32) : P_Mod_image_56 c = some (cond (eqI c 12290) 46 (cond (wi c.toInt 65281 65374) (fwS c) (-1))) := by
  unfold P_Mod_image_56 fwS
  simp only [mod_within, Option.bind_some, b2_0, Int32.reduceToInt, ifb, dbf, eqI_def, eqI_b2]
  cases eqI c 12290 <;> cases wi c.toInt 65281 65374 <;> cases wi (c - 65248).toInt 65 90 <;> simp
theorem mod_image_31 (c : Int32) : P_Mod_image_31 c = some (cond (wi c.toInt 913 937 && !eqI c 930) (c + 32) (cond (eqI c 12290) 46 (cond (wi c.toInt 65281 65374) (fwS c) (-1)))) := by
  unfold P_Mod_image_31
  simp only [mod_within, mod_image_56, Option.bind_some, b2_0, Int32.reduceToInt, ifb, dbf, eqI_def, eqI_b2]
  cases wi c.toInt 913 937 <;> cases eqI c 930 <;> simp
theorem mod_image (c : Int32) : P_Mod_image c = some (imS c) := by
  unfold P_Mod_image imS upB
  simp only [mod_within, mod_image_31, Option.bind_some, b2_0, Int32.reduceToInt, ifb, dbf, eqI_def, eqI_b2]
  cases wi c.toInt 65 90 <;> cases wi c.toInt 192 222 <;> cases eqI c 215 <;> simp
theorem add_toInt {a b : Int32} {x y : Int} (ha : a.toInt = x) (hb : b.toInt = y) (h1 : -2147483648 ≤ x + y) (h2 : x + y ≤ 2147483647) : (a + b).toInt = x + y := by
  rw [Int32.toInt_add, ha, hb]
  exact Int.bmod_eq_of_le (by omega) (by omega)
theorem sub_toInt {a b : Int32} {x y : Int} (ha : a.toInt = x) (hb : b.toInt = y) (h1 : -2147483648 ≤ x - y) (h2 : x - y ≤ 2147483647) : (a - b).toInt = x - y := by
  rw [Int32.toInt_sub, ha, hb]
  exact Int.bmod_eq_of_le (by omega) (by omega)
theorem wi_iff {c lo hi : Int} : wi c lo hi = true ↔ lo ≤ c ∧ c ≤ hi := by
  simp [wi]
theorem eqI_t {c k : Int32} : eqI c k = true ↔ c.toInt = k.toInt := by rw [eqI_iff]; simp
theorem eqI_f {c k : Int32} : eqI c k = false ↔ ¬ c.toInt = k.toInt := by rw [eqI_iff]; simp
theorem up_iff {c : Int32} : upB c = true ↔ (65 ≤ c.toInt ∧ c.toInt ≤ 90) ∨ (192 ≤ c.toInt ∧ c.toInt ≤ 222 ∧ c.toInt ≠ 215) ∨ (913 ≤ c.toInt ∧ c.toInt ≤ 937 ∧ c.toInt ≠ 930) := by
  simp only [upB, Bool.or_eq_true, Bool.and_eq_true, Bool.not_eq_true', wi_iff, eqI_f, Int32.reduceToInt]
  omega
theorem gd_iff {c : Int32} : gdB c = true ↔ ((c.toInt = 45 ∨ c.toInt = 46) ∨ (48 ≤ c.toInt ∧ c.toInt ≤ 57) ∨ (97 ≤ c.toInt ∧ c.toInt ≤ 122) ∨ (224 ≤ c.toInt ∧ c.toInt ≤ 255 ∧ c.toInt ≠ 247) ∨ (c.toInt = 768 ∨ c.toInt = 769 ∨ c.toInt = 776 ∨ c.toInt = 807 ∨ c.toInt = 1614 ∨ c.toInt = 2381) ∨ (945 ≤ c.toInt ∧ c.toInt ≤ 969 ∧ c.toInt ≠ 962) ∨ (1488 ≤ c.toInt ∧ c.toInt ≤ 1514) ∨ c.toInt = 1575 ∨ c.toInt = 1576 ∨ (1632 ≤ c.toInt ∧ c.toInt ≤ 1641) ∨ (1776 ≤ c.toInt ∧ c.toInt ≤ 1785) ∨ (2325 ≤ c.toInt ∧ c.toInt ≤ 2361) ∨ (19968 ≤ c.toInt ∧ c.toInt ≤ 40959)) := by
  simp only [gdB, mkB, Bool.or_eq_true, Bool.and_eq_true, Bool.not_eq_true', wi_iff, eqI_f, eqI_t, Int32.reduceToInt]
  omega
theorem pl_iff {c : Int32} : plB c = true ↔ (0 ≤ c.toInt ∧ c.toInt ≤ 127) ∧ ¬ (gdB c = true) ∧ ¬ (65 ≤ c.toInt ∧ c.toInt ≤ 90) := by
  simp only [plB, Bool.and_eq_true, Bool.not_eq_true', ← Bool.not_eq_true, wi_iff, and_assoc]
theorem od_iff {c : Int32} : odB c = true ↔ c.toInt = 223 ∨ c.toInt = 962 ∨ c.toInt = 8204 ∨ c.toInt = 8205 := by
  simp only [odB, Bool.or_eq_true, beq_iff_eq, i32_eq, Int32.reduceToInt]
  omega
/-- what a mapped code comes to is good or plain, and not odd -/
theorem im_ok {c : Int32} (h : imS c ≠ -1) : mpS c = imS c ∧ 0 ≤ (imS c).toInt ∧ (imS c).toInt ≤ 1114111 ∧ odB c = false ∧ odB (imS c) = false ∧ (gdB (imS c) = true ∨ plB (imS c) = true) ∧ c ≠ 173 := by
  by_cases hu : upB c = true
  · have e : imS c = c + 32 := by simp [imS, hu]
    have hc := up_iff.mp hu
    have e2 : (c + 32).toInt = c.toInt + 32 := add_toInt rfl rfl (by omega) (by omega)
    have e3 : mpS c = c + 32 := by
      have h1 : wi c.toInt 65281 65374 = false := by
        rw [← Bool.not_eq_true, wi_iff]; omega
      have h2 : eqI c 12290 = false := by
        rw [eqI_f]; simp only [Int32.reduceToInt]; omega
      simp [mpS, h1, h2, hu]
    rw [e, e3]
    refine ⟨rfl, by omega, by omega, ?_, ?_, Or.inl ?_, ?_⟩
    · rw [← Bool.not_eq_true, od_iff]; omega
    · rw [← Bool.not_eq_true, od_iff]; omega
    · rw [gd_iff, e2]; omega
    · intro q; rw [q] at hc; revert hc; decide
  · by_cases h2 : eqI c 12290 = true
    · have e : imS c = 46 := by simp [imS, hu, h2]
      have hc := eqI_t.mp h2
      have h1 : wi c.toInt 65281 65374 = false := by
        rw [← Bool.not_eq_true, wi_iff]; simp only [Int32.reduceToInt] at hc; omega
      rw [e]
      refine ⟨by simp [mpS, h1, h2], by decide, by decide, ?_, by decide, Or.inl (by decide), ?_⟩
      · rw [← Bool.not_eq_true, od_iff]; simp only [Int32.reduceToInt] at hc; omega
      · intro q; rw [q] at hc; revert hc; decide
    · by_cases h1 : wi c.toInt 65281 65374 = true
      · have e : imS c = fwS c := by simp [imS, hu, h2, h1]
        have em : mpS c = fwS c := by simp [mpS, h1]
        have hc := wi_iff.mp h1
        have e2 : (c - 65248).toInt = c.toInt - 65248 := sub_toInt rfl rfl (by omega) (by omega)
        have e3 : (c - 65248 + 32).toInt = c.toInt - 65248 + 32 := add_toInt e2 rfl (by omega) (by omega)
        have e4 : odB c = false := by rw [← Bool.not_eq_true, od_iff]; omega
        have e5 : c ≠ 173 := by intro q; rw [q] at hc; revert hc; decide
        rw [e, em]
        by_cases h3 : wi (c - 65248).toInt 65 90 = true
        · have e6 : fwS c = c - 65248 + 32 := by unfold fwS; rw [h3]; rfl
          have h4 := wi_iff.mp h3
          rw [e6]
          refine ⟨rfl, by omega, by omega, e4, ?_, Or.inl ?_, e5⟩
          · rw [← Bool.not_eq_true, od_iff]; omega
          · rw [gd_iff, e3]; omega
        · have e6 : fwS c = c - 65248 := by unfold fwS; rw [Bool.not_eq_true] at h3; rw [h3]; rfl
          have h4 : ¬ (65 ≤ (c - 65248).toInt ∧ (c - 65248).toInt ≤ 90) := fun q => h3 (wi_iff.mpr q)
          rw [e6]
          refine ⟨rfl, by omega, by omega, e4, ?_, ?_, e5⟩
          · rw [← Bool.not_eq_true, od_iff]; omega
          · by_cases hg : gdB (c - 65248) = true
            · exact Or.inl hg
            · exact Or.inr (pl_iff.mpr ⟨by omega, hg, h4⟩)
      · exact absurd (by simp [imS, hu, h2, h1]) h
theorem im_no {c : Int32} (h : imS c = -1) : mpS c = c := by
  by_cases hu : upB c = true
  · have e : imS c = c + 32 := by simp [imS, hu]
    have hc := up_iff.mp hu
    have e2 : (c + 32).toInt = c.toInt + 32 := add_toInt rfl rfl (by omega) (by omega)
    rw [e] at h
    rw [h] at e2
    simp only [Int32.reduceToInt] at e2
    exfalso
    omega
  · by_cases h2 : eqI c 12290 = true
    · simp [imS, hu, h2] at h
    · by_cases h1 : wi c.toInt 65281 65374 = true
      · have e : imS c = fwS c := by simp [imS, hu, h2, h1]
        have hc := wi_iff.mp h1
        have e2 : (c - 65248).toInt = c.toInt - 65248 := sub_toInt rfl rfl (by omega) (by omega)
        have e3 : (c - 65248 + 32).toInt = c.toInt - 65248 + 32 := add_toInt e2 rfl (by omega) (by omega)
        rw [e] at h
        have h5 : (fwS c).toInt = -1 := by rw [h]; rfl
        unfold fwS at h5
        by_cases hw : wi (c - 65248).toInt 65 90 = true
        · rw [hw] at h5
          have h5 : (c - 65248 + 32).toInt = -1 := h5
          omega
        · rw [Bool.not_eq_true] at hw
          rw [hw] at h5
          have h5 : (c - 65248).toInt = -1 := h5
          omega
      · simp [mpS, hu, h2, h1]
theorem im_neg (c : Int32) : decide (0 ≤ imS c) = !eqI (imS c) (-1) := by
  by_cases h : imS c = -1
  · rw [h]; decide
  · have := im_ok h
    have h0 : (0 : Int32) ≤ imS c := by rw [Int32.le_iff_toInt_le]; exact this.2.1
    simp [h0, eqI, h]
