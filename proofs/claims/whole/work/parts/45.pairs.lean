/-! ===== pairs of a letter and a mark ===== -/
def pcL : List Int32 := [224, 232, 236, 242, 249, 225, 233, 237, 243, 250, 253, 228, 235, 239, 246, 252, 255, 231]
def apL (c : Int32) : List Int32 := if c = 224 then [97, 768] else if c = 232 then [101, 768] else if c = 236 then [105, 768] else if c = 242 then [111, 768] else if c = 249 then [117, 768] else if c = 225 then [97, 769] else if c = 233 then [101, 769] else if c = 237 then [105, 769] else if c = 243 then [111, 769] else if c = 250 then [117, 769] else if c = 253 then [121, 769] else if c = 228 then [97, 776] else if c = 235 then [101, 776] else if c = 239 then [105, 776] else if c = 246 then [111, 776] else if c = 252 then [117, 776] else if c = 255 then [121, 776] else if c = 231 then [99, 807] else [c]
/-- the one code of a pair; 0 if there is none -/
def pjS (a m : Int32) : Int32 := if a = 97 ∧ m = 768 then 224 else if a = 101 ∧ m = 768 then 232 else if a = 105 ∧ m = 768 then 236 else if a = 111 ∧ m = 768 then 242 else if a = 117 ∧ m = 768 then 249 else if a = 97 ∧ m = 769 then 225 else if a = 101 ∧ m = 769 then 233 else if a = 105 ∧ m = 769 then 237 else if a = 111 ∧ m = 769 then 243 else if a = 117 ∧ m = 769 then 250 else if a = 121 ∧ m = 769 then 253 else if a = 97 ∧ m = 776 then 228 else if a = 101 ∧ m = 776 then 235 else if a = 105 ∧ m = 776 then 239 else if a = 111 ∧ m = 776 then 246 else if a = 117 ∧ m = 776 then 252 else if a = 121 ∧ m = 776 then 255 else if a = 99 ∧ m = 807 then 231 else 0
def prL : List (Int32 × Int32) := [(97, 768), (101, 768), (105, 768), (111, 768), (117, 768), (97, 769), (101, 769), (105, 769), (111, 769), (117, 769), (121, 769), (97, 776), (101, 776), (105, 776), (111, 776), (117, 776), (121, 776), (99, 807)]
theorem apL_no {c : Int32} (h : c ∉ pcL) : apL c = [c] := by
  simp only [pcL, List.mem_cons, List.not_mem_nil, or_false, not_or] at h
  obtain ⟨h0, h1, h2, h3, h4, h5, h6, h7, h8, h9, h10, h11, h12, h13, h14, h15, h16, h17⟩ := h
  unfold apL
  rw [if_neg h0, if_neg h1, if_neg h2, if_neg h3, if_neg h4, if_neg h5, if_neg h6, if_neg h7, if_neg h8, if_neg h9, if_neg h10, if_neg h11, if_neg h12, if_neg h13, if_neg h14, if_neg h15, if_neg h16, if_neg h17]
theorem pcL_cases {c : Int32} (h : c ∈ pcL) : c = 224 ∨ c = 232 ∨ c = 236 ∨ c = 242 ∨ c = 249 ∨ c = 225 ∨ c = 233 ∨ c = 237 ∨ c = 243 ∨ c = 250 ∨ c = 253 ∨ c = 228 ∨ c = 235 ∨ c = 239 ∨ c = 246 ∨ c = 252 ∨ c = 255 ∨ c = 231 := by
  simpa only [pcL, List.mem_cons, List.not_mem_nil, or_false] using h
theorem codes_pair {c : Int32} (h : c ∈ pcL) : ∃ k : Nat, k < 18 ∧ P_Composer_pairOfCode c = some (nI k) ∧ apL c = [tb_pl k, tb_pm k] := by
  rcases pcL_cases h with rfl | rfl | rfl | rfl | rfl | rfl | rfl | rfl | rfl | rfl | rfl | rfl | rfl | rfl | rfl | rfl | rfl | rfl
  · exact ⟨0, by decide, by decide +kernel, by decide +kernel⟩
  · exact ⟨1, by decide, by decide +kernel, by decide +kernel⟩
  · exact ⟨2, by decide, by decide +kernel, by decide +kernel⟩
  · exact ⟨3, by decide, by decide +kernel, by decide +kernel⟩
  · exact ⟨4, by decide, by decide +kernel, by decide +kernel⟩
  · exact ⟨5, by decide, by decide +kernel, by decide +kernel⟩
  · exact ⟨6, by decide, by decide +kernel, by decide +kernel⟩
  · exact ⟨7, by decide, by decide +kernel, by decide +kernel⟩
  · exact ⟨8, by decide, by decide +kernel, by decide +kernel⟩
  · exact ⟨9, by decide, by decide +kernel, by decide +kernel⟩
  · exact ⟨10, by decide, by decide +kernel, by decide +kernel⟩
  · exact ⟨11, by decide, by decide +kernel, by decide +kernel⟩
  · exact ⟨12, by decide, by decide +kernel, by decide +kernel⟩
  · exact ⟨13, by decide, by decide +kernel, by decide +kernel⟩
  · exact ⟨14, by decide, by decide +kernel, by decide +kernel⟩
  · exact ⟨15, by decide, by decide +kernel, by decide +kernel⟩
  · exact ⟨16, by decide, by decide +kernel, by decide +kernel⟩
  · exact ⟨17, by decide, by decide +kernel, by decide +kernel⟩
theorem tb_pc_in : ∀ j, j < 18 → tb_pc j ∈ pcL := by decide
theorem codes_pair_no {c : Int32} (h : c ∉ pcL) : P_Composer_pairOfCode c = some (-1) := by
  unfold P_Composer_pairOfCode
  refine fl1_p (P_Composer_pairOfCode_2 c) (fun n v => ∃ j, n = 18 - j ∧ j ≤ 18 ∧ v = nI j) (fun r => r = some (-1)) ?_ fu 18 (0 : Int32) (by unfold fu; omega) ⟨0, rfl, by omega, rfl⟩
  rintro n K v ⟨j, hn, hj, rfl⟩ ih
  unfold P_Composer_pairOfCode_2
  have e18 : (18 : Int32) = nI 18 := rfl
  by_cases hj2 : 18 ≤ j
  · have : j = 18 := by omega
    subst this
    rw [if_pos (by decide)]
  · rw [e18, if_neg (nI_ge (by omega) (by omega)), gi_ok (by omega) (by omega), nI_clamp (by omega), if_neg (fun q => h (by rw [← q]; exact tb_pc_in j (by omega))), nI_1]
    exact ih (18 - (j + 1)) _ (by omega) ⟨j + 1, rfl, by omega, rfl⟩
theorem mod_pair_167m (m v s0 : Int32) (h1 : s0 ∈ pcL) (h2 : s0 + 1 ∈ pcL) : ∃ x, P_Mod_pair_167 m v s0 = some x ∧ (x = 0 ∨ x ∈ pcL) := by
  unfold P_Mod_pair_167
  repeat' split
  all_goals first | exact ⟨_, rfl, Or.inl rfl⟩ | exact ⟨_, rfl, Or.inr h1⟩ | exact ⟨_, rfl, Or.inr h2⟩ | exact ⟨_, rfl, Or.inr (by decide)⟩
theorem mod_pair_110m (m v : Int32) : ∃ x, P_Mod_pair_110 m v = some x ∧ (x = 0 ∨ x ∈ pcL) := by
  unfold P_Mod_pair_110
  repeat' split
  all_goals exact mod_pair_167m _ _ _ (by decide) (by decide)
theorem mod_pair_61m (a m s : Int32) : ∃ x, P_Mod_pair_61 a m s = some x ∧ (x = 0 ∨ x ∈ pcL) := by
  unfold P_Mod_pair_61
  repeat' split
  all_goals first | exact mod_pair_110m _ _ | exact ⟨_, rfl, by decide⟩
theorem mod_pairm (a m : Int32) : ∃ x, P_Mod_pair a m = some x ∧ (x = 0 ∨ x ∈ pcL) := by
  unfold P_Mod_pair
  repeat' split
  all_goals exact mod_pair_61m _ _ _
theorem mod_letter_no {c : Int32} (h : c ∉ pcL) : P_Mod_letterOf c = some 0 := by
  unfold P_Mod_letterOf
  refine fl2_p (P_Mod_letterOf_5 c) (fun n v1 v2 => ∃ j, n = 122 - j ∧ 97 ≤ j ∧ j ≤ 122 ∧ v1 = 0 ∧ v2 = nI j) (fun r => r = some 0) ?_ fu 25 (0 : Int32) (97 : Int32) (by unfold fu; omega) ⟨97, rfl, by omega, by omega, rfl, rfl⟩
  rintro n K v1 v2 ⟨j, hn, h97, hj, rfl, rfl⟩ ih
  unfold P_Mod_letterOf_5
  by_cases hj2 : 122 ≤ j
  · have : j = 122 := by omega
    subst this
    rw [if_pos (by decide)]
  · have e121 : (121 : Int32) = nI 121 := rfl
    rw [e121, if_neg (nI_nlt (by omega) (by omega))]
    have k1 : K 0 (nI j + 1) = some 0 := by
      rw [nI_1]
      exact ih (122 - (j + 1)) _ _ (by omega) ⟨j + 1, rfl, by omega, by omega, rfl, rfl⟩
    have g0 : P_Mod_letterOf_60 c K 0 (nI j) 0 = some 0 := by
      unfold P_Mod_letterOf_60
      by_cases hc : c ≤ 0
      · rw [if_pos hc, k1]
      · rw [if_neg hc, if_pos rfl, k1]
    have g1 : ∀ x, (x = 0 ∨ x ∈ pcL) → x = c → P_Mod_letterOf_60 c K 0 (nI j) 1 = some 0 := by
      intro x hx hxc
      unfold P_Mod_letterOf_60
      have : c = 0 := by
        rcases hx with hx | hx
        · rw [← hxc, hx]
        · exact absurd (hxc ▸ hx) h
      rw [if_pos (by rw [this]; decide), k1]
    obtain ⟨x1, e1, m1⟩ := mod_pairm (nI j) 768
    obtain ⟨x2, e2, m2⟩ := mod_pairm (nI j) 769
    obtain ⟨x3, e3, m3⟩ := mod_pairm (nI j) 776
    obtain ⟨x4, e4, m4⟩ := mod_pairm (nI j) 807
    rw [e1, Option.bind_some]
    by_cases q1 : x1 = c
    · rw [if_pos q1]; exact g1 x1 m1 q1
    rw [if_neg q1, e2, Option.bind_some]
    by_cases q2 : x2 = c
    · rw [if_pos q2]; exact g1 x2 m2 q2
    rw [if_neg q2, e3, Option.bind_some]
    by_cases q3 : x3 = c
    · rw [if_pos q3]; exact g1 x3 m3 q3
    rw [if_neg q3, e4, Option.bind_some]
    by_cases q4 : x4 = c
    · rw [if_pos q4]; exact g1 x4 m4 q4
    rw [if_neg q4]; exact g0
theorem mod_letter {c : Int32} (h : c ∈ pcL) : ∃ a m : Int32, P_Mod_letterOf c = some a ∧ ¬ a ≤ 0 ∧ P_Mod_markOf c = some m ∧ apL c = [a, m] := by
  rcases pcL_cases h with rfl | rfl | rfl | rfl | rfl | rfl | rfl | rfl | rfl | rfl | rfl | rfl | rfl | rfl | rfl | rfl | rfl | rfl
  · exact ⟨97, 768, by decide +kernel, by decide, by decide +kernel, by decide +kernel⟩
  · exact ⟨101, 768, by decide +kernel, by decide, by decide +kernel, by decide +kernel⟩
  · exact ⟨105, 768, by decide +kernel, by decide, by decide +kernel, by decide +kernel⟩
  · exact ⟨111, 768, by decide +kernel, by decide, by decide +kernel, by decide +kernel⟩
  · exact ⟨117, 768, by decide +kernel, by decide, by decide +kernel, by decide +kernel⟩
  · exact ⟨97, 769, by decide +kernel, by decide, by decide +kernel, by decide +kernel⟩
  · exact ⟨101, 769, by decide +kernel, by decide, by decide +kernel, by decide +kernel⟩
  · exact ⟨105, 769, by decide +kernel, by decide, by decide +kernel, by decide +kernel⟩
  · exact ⟨111, 769, by decide +kernel, by decide, by decide +kernel, by decide +kernel⟩
  · exact ⟨117, 769, by decide +kernel, by decide, by decide +kernel, by decide +kernel⟩
  · exact ⟨121, 769, by decide +kernel, by decide, by decide +kernel, by decide +kernel⟩
  · exact ⟨97, 776, by decide +kernel, by decide, by decide +kernel, by decide +kernel⟩
  · exact ⟨101, 776, by decide +kernel, by decide, by decide +kernel, by decide +kernel⟩
  · exact ⟨105, 776, by decide +kernel, by decide, by decide +kernel, by decide +kernel⟩
  · exact ⟨111, 776, by decide +kernel, by decide, by decide +kernel, by decide +kernel⟩
  · exact ⟨117, 776, by decide +kernel, by decide, by decide +kernel, by decide +kernel⟩
  · exact ⟨121, 776, by decide +kernel, by decide, by decide +kernel, by decide +kernel⟩
  · exact ⟨99, 807, by decide +kernel, by decide, by decide +kernel, by decide +kernel⟩
theorem pjS_no {a m : Int32} (h : (a, m) ∉ prL) : pjS a m = 0 := by
  simp only [prL, List.mem_cons, List.not_mem_nil, or_false, not_or, Prod.mk.injEq] at h
  obtain ⟨h0, h1, h2, h3, h4, h5, h6, h7, h8, h9, h10, h11, h12, h13, h14, h15, h16, h17⟩ := h
  unfold pjS
  rw [if_neg h0, if_neg h1, if_neg h2, if_neg h3, if_neg h4, if_neg h5, if_neg h6, if_neg h7, if_neg h8, if_neg h9, if_neg h10, if_neg h11, if_neg h12, if_neg h13, if_neg h14, if_neg h15, if_neg h16, if_neg h17]
theorem prL_cases {a m : Int32} (h : (a, m) ∈ prL) : (a = 97 ∧ m = 768) ∨ (a = 101 ∧ m = 768) ∨ (a = 105 ∧ m = 768) ∨ (a = 111 ∧ m = 768) ∨ (a = 117 ∧ m = 768) ∨ (a = 97 ∧ m = 769) ∨ (a = 101 ∧ m = 769) ∨ (a = 105 ∧ m = 769) ∨ (a = 111 ∧ m = 769) ∨ (a = 117 ∧ m = 769) ∨ (a = 121 ∧ m = 769) ∨ (a = 97 ∧ m = 776) ∨ (a = 101 ∧ m = 776) ∨ (a = 105 ∧ m = 776) ∨ (a = 111 ∧ m = 776) ∨ (a = 117 ∧ m = 776) ∨ (a = 121 ∧ m = 776) ∨ (a = 99 ∧ m = 807) := by
  simpa only [prL, List.mem_cons, List.not_mem_nil, or_false, Prod.mk.injEq] using h
theorem codes_parts {a m : Int32} (h : (a, m) ∈ prL) : ∃ k : Nat, k < 18 ∧ P_Composer_pairOfParts a m = some (nI k) ∧ pjS a m = tb_pc k ∧ 0 < pjS a m := by
  rcases prL_cases h with ⟨rfl, rfl⟩ | ⟨rfl, rfl⟩ | ⟨rfl, rfl⟩ | ⟨rfl, rfl⟩ | ⟨rfl, rfl⟩ | ⟨rfl, rfl⟩ | ⟨rfl, rfl⟩ | ⟨rfl, rfl⟩ | ⟨rfl, rfl⟩ | ⟨rfl, rfl⟩ | ⟨rfl, rfl⟩ | ⟨rfl, rfl⟩ | ⟨rfl, rfl⟩ | ⟨rfl, rfl⟩ | ⟨rfl, rfl⟩ | ⟨rfl, rfl⟩ | ⟨rfl, rfl⟩ | ⟨rfl, rfl⟩
  · exact ⟨0, by decide, by decide +kernel, by decide +kernel, by decide⟩
  · exact ⟨1, by decide, by decide +kernel, by decide +kernel, by decide⟩
  · exact ⟨2, by decide, by decide +kernel, by decide +kernel, by decide⟩
  · exact ⟨3, by decide, by decide +kernel, by decide +kernel, by decide⟩
  · exact ⟨4, by decide, by decide +kernel, by decide +kernel, by decide⟩
  · exact ⟨5, by decide, by decide +kernel, by decide +kernel, by decide⟩
  · exact ⟨6, by decide, by decide +kernel, by decide +kernel, by decide⟩
  · exact ⟨7, by decide, by decide +kernel, by decide +kernel, by decide⟩
  · exact ⟨8, by decide, by decide +kernel, by decide +kernel, by decide⟩
  · exact ⟨9, by decide, by decide +kernel, by decide +kernel, by decide⟩
  · exact ⟨10, by decide, by decide +kernel, by decide +kernel, by decide⟩
  · exact ⟨11, by decide, by decide +kernel, by decide +kernel, by decide⟩
  · exact ⟨12, by decide, by decide +kernel, by decide +kernel, by decide⟩
  · exact ⟨13, by decide, by decide +kernel, by decide +kernel, by decide⟩
  · exact ⟨14, by decide, by decide +kernel, by decide +kernel, by decide⟩
  · exact ⟨15, by decide, by decide +kernel, by decide +kernel, by decide⟩
  · exact ⟨16, by decide, by decide +kernel, by decide +kernel, by decide⟩
  · exact ⟨17, by decide, by decide +kernel, by decide +kernel, by decide⟩
theorem tb_pr_in : ∀ j, j < 18 → (tb_pl j, tb_pm j) ∈ prL := by decide
theorem codes_parts_no {a m : Int32} (h : (a, m) ∉ prL) : P_Composer_pairOfParts a m = some (-1) := by
  unfold P_Composer_pairOfParts
  refine fl1_p (P_Composer_pairOfParts_2 a m) (fun n v => ∃ j, n = 18 - j ∧ j ≤ 18 ∧ v = nI j) (fun r => r = some (-1)) ?_ fu 18 (0 : Int32) (by unfold fu; omega) ⟨0, rfl, by omega, rfl⟩
  rintro n K v ⟨j, hn, hj, rfl⟩ ih
  unfold P_Composer_pairOfParts_2
  have e18 : (18 : Int32) = nI 18 := rfl
  by_cases hj2 : 18 ≤ j
  · have : j = 18 := by omega
    subst this
    rw [if_pos (by decide)]
  · have k1 : K (nI j + 1) = some (-1) := by
      rw [nI_1]
      exact ih (18 - (j + 1)) _ (by omega) ⟨j + 1, rfl, by omega, rfl⟩
    rw [e18, if_neg (nI_ge (by omega) (by omega)), gi_ok (by omega) (by omega), nI_clamp (by omega), gi_ok (by omega) (by omega), k1]
    by_cases q1 : tb_pl j = a
    · rw [if_pos q1]
      by_cases q2 : tb_pm j = m
      · exact absurd (by rw [← q1, ← q2]; exact tb_pr_in j (by omega)) h
      · rw [if_neg q2]
    · rw [if_neg q1]
theorem mod_pair_in {a m : Int32} (h : (a, m) ∈ prL) : P_Mod_pair a m = some (pjS a m) := by
  rcases prL_cases h with ⟨rfl, rfl⟩ | ⟨rfl, rfl⟩ | ⟨rfl, rfl⟩ | ⟨rfl, rfl⟩ | ⟨rfl, rfl⟩ | ⟨rfl, rfl⟩ | ⟨rfl, rfl⟩ | ⟨rfl, rfl⟩ | ⟨rfl, rfl⟩ | ⟨rfl, rfl⟩ | ⟨rfl, rfl⟩ | ⟨rfl, rfl⟩ | ⟨rfl, rfl⟩ | ⟨rfl, rfl⟩ | ⟨rfl, rfl⟩ | ⟨rfl, rfl⟩ | ⟨rfl, rfl⟩ | ⟨rfl, rfl⟩
  all_goals decide +kernel
theorem mod_pair_no {a m : Int32} (h : (a, m) ∉ prL) : P_Mod_pair a m = some 0 := by
  by_cases m1 : m = 807
  · subst m1
    have ha : ¬ a = 99 := fun q => h (by rw [q]; decide)
    have e : ∀ s, P_Mod_pair_61 a 807 s = some 0 := by
      intro s
      unfold P_Mod_pair_61
      rw [if_pos rfl, if_neg ha]
    unfold P_Mod_pair
    simp only [e]
    repeat' split
    all_goals rfl
  by_cases m2 : m = 768 ∨ m = 769 ∨ m = 776
  · have e : P_Mod_pair_61 a m (-1) = some 0 := by
      unfold P_Mod_pair_61
      rw [if_neg m1, if_pos (by decide)]
    by_cases a1 : a = 97
    · subst a1; rcases m2 with rfl | rfl | rfl <;> exact absurd (by decide) h
    by_cases a2 : a = 101
    · subst a2; rcases m2 with rfl | rfl | rfl <;> exact absurd (by decide) h
    by_cases a3 : a = 105
    · subst a3; rcases m2 with rfl | rfl | rfl <;> exact absurd (by decide) h
    by_cases a4 : a = 111
    · subst a4; rcases m2 with rfl | rfl | rfl <;> exact absurd (by decide) h
    by_cases a5 : a = 117
    · subst a5; rcases m2 with rfl | rfl | rfl <;> exact absurd (by decide) h
    by_cases a6 : a = 121
    · subst a6
      rcases m2 with rfl | rfl | rfl
      · decide +kernel
      · exact absurd (by decide) h
      · exact absurd (by decide) h
    unfold P_Mod_pair
    rw [if_neg a1, if_neg a2, if_neg a3, if_neg a4, if_neg a5, if_neg a6, e]
  · have e : ∀ s, P_Mod_pair_61 a m s = some 0 := by
      intro s
      unfold P_Mod_pair_61
      rw [if_neg m1]
      rw [not_or, not_or] at m2
      by_cases hs : s < 0
      · rw [if_pos hs]
      · rw [if_neg hs, if_neg m2.1, if_neg m2.2.1, if_neg m2.2.2]
    unfold P_Mod_pair
    simp only [e]
    repeat' split
    all_goals rfl
theorem mod_pair (a m : Int32) : P_Mod_pair a m = some (pjS a m) := by
  by_cases h : (a, m) ∈ prL
  · exact mod_pair_in h
  · rw [mod_pair_no h, pjS_no h]
