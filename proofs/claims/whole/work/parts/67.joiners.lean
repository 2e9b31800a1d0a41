/-! ===== joiners ===== -/
def rbS : List Int32 → Int32
  | [] => 0
  | c :: cs => if joS c = 3 then rbS cs else joS c
theorem jo_m1 : joS (-1) = 0 := by decide
theorem codes_right {N : Nat} {f : Nat → Int32} {x : List Int32} (h : Rp f x) (hN : x.length ≤ N) (hN2 : N < 90000) {i : Nat} (hi : i < x.length) : P_Checker_joiningBeyond N (nI x.length) f (nI i) 1 = some (rbS (x.drop (i + 1))) := by
  unfold P_Checker_joiningBeyond
  refine fl1_p (P_Checker_joiningBeyond_2 N (nI x.length) f (nI i) 1) (fun m v => ∃ j, m = x.length + 1 - j ∧ j ≤ x.length + 1 ∧ v = nI j ∧ rbS (x.drop (i + 1)) = rbS (x.drop (i + j))) (fun r => r = some (rbS (x.drop (i + 1)))) ?_ fu x.length (1 : Int32) (by unfold fu; omega) ⟨1, by omega, by omega, rfl, rfl⟩
  rintro m K v ⟨j, hm, hj, rfl, he⟩ ih
  unfold P_Checker_joiningBeyond_2 P_Row_size
  rw [Option.bind_some]
  by_cases hjl : x.length < j
  · rw [if_pos (nI_lt hjl (by omega)), he, List.drop_eq_nil_of_le (show x.length ≤ i + j by omega)]; rfl
  · rw [if_neg (nI_nlt (show j ≤ x.length by omega) (by omega)), Int32.mul_one, nI_add, row_get h hN (by omega) (by omega), Option.bind_some, codes_joining, Option.bind_some, nI_1]
    by_cases hb : i + j < x.length
    · rw [drop_get_cons hb] at he
      simp only [rbS] at he
      by_cases h3 : joS (x.getD (i + j) (-1)) = 3
      · rw [if_pos h3] at he ⊢
        exact ih (x.length + 1 - (j + 1)) _ (by omega) ⟨j + 1, rfl, by omega, rfl, by rw [← Nat.add_assoc]; exact he⟩
      · rw [if_neg h3] at he ⊢
        rw [he]
    · have hg : x.getD (i + j) (-1) = -1 := by rw [List.getD_eq_getElem?_getD, List.getElem?_eq_none (by omega)]; rfl
      rw [hg, if_neg (show ¬ joS (-1) = 3 by decide), jo_m1, he, List.drop_eq_nil_of_le (show x.length ≤ i + j by omega)]; rfl
theorem far_l (i j : Nat) : nI i + nI j * (-1) = nI i - nI j := by rw [Int32.mul_neg, Int32.mul_one, ← Int32.sub_eq_add_neg]
theorem far_ge {i j : Nat} (h : j ≤ i) (hi : i < 90000) : nI i + nI j * (-1) = nI (i - j) := by
  rw [far_l]
  refine nI_of_toInt ?_ (by omega)
  rw [sub_toInt (nI_toInt (by omega)) (nI_toInt (by omega)) (by omega) (by omega)]
  omega
theorem far_lt {i j : Nat} (h : i < j) (hj : j < 90000) : nI i + nI j * (-1) < 0 := by
  rw [far_l, Int32.lt_iff_toInt_lt, sub_toInt (nI_toInt (by omega)) (nI_toInt (by omega)) (by omega) (by omega), Int32.toInt_zero]
  omega
theorem rev_take {x : List Int32} {q : Nat} (h : q < x.length) : (x.take (q + 1)).reverse = x.getD q (-1) :: (x.take q).reverse := by
  rw [take_snoc h, getD_get h, List.reverse_append]; rfl
theorem nI_m (p : Nat) : nI p + (-1) = nI p - 1 := by rw [Int32.sub_eq_add_neg]
theorem codes_left {N : Nat} {f : Nat → Int32} {x : List Int32} (h : Rp f x) (hN : x.length ≤ N) (hN2 : N < 90000) {i : Nat} (hi : i < x.length) : P_Checker_joiningBeyond N (nI x.length) f (nI i) (-1) = some (rbS (x.take i).reverse) := by
  unfold P_Checker_joiningBeyond
  refine fl1_p (P_Checker_joiningBeyond_2 N (nI x.length) f (nI i) (-1)) (fun m v => ∃ j, m = x.length + 1 - j ∧ 1 ≤ j ∧ j ≤ x.length + 1 ∧ v = nI j ∧ rbS (x.take i).reverse = rbS (x.take (i + 1 - j)).reverse) (fun r => r = some (rbS (x.take i).reverse)) ?_ fu x.length (1 : Int32) (by unfold fu; omega) ⟨1, by omega, by omega, by omega, rfl, by rw [Nat.add_sub_cancel]⟩
  rintro m K v ⟨j, hm, h1, hj, rfl, he⟩ ih
  unfold P_Checker_joiningBeyond_2 P_Row_size
  rw [Option.bind_some]
  by_cases hjl : x.length < j
  · rw [if_pos (nI_lt hjl (by omega)), he, show i + 1 - j = 0 by omega]; rfl
  · rw [if_neg (nI_nlt (show j ≤ x.length by omega) (by omega))]
    by_cases hb : j ≤ i
    · rw [far_ge hb (by omega), row_get h hN (by omega) (by omega), Option.bind_some, codes_joining, Option.bind_some, nI_1]
      rw [show i + 1 - j = i - j + 1 by omega, rev_take (show i - j < x.length by omega)] at he
      simp only [rbS] at he
      by_cases h3 : joS (x.getD (i - j) (-1)) = 3
      · rw [if_pos h3] at he ⊢
        exact ih (x.length + 1 - (j + 1)) _ (by omega) ⟨j + 1, rfl, by omega, by omega, rfl, by rw [he, show i + 1 - (j + 1) = i - j by omega]⟩
      · rw [if_neg h3] at he ⊢
        rw [he]
    · rw [row_getm (far_lt (show i < j by omega) (by omega)), Option.bind_some, codes_joining, Option.bind_some, if_neg (show ¬ joS (-1) = 3 by decide), jo_m1, he, show i + 1 - j = 0 by omega]; rfl
def behB (x : List Int32) : Nat → Bool
  | 0 => false
  | i + 1 => decide (ordS (x.getD i (-1)) = 9)
def prevC (x : List Int32) : Nat → Int32
  | 0 => -1
  | i + 1 => x.getD i (-1)
theorem prev_beh (x : List Int32) (j : Nat) : decide (ordS (prevC x j) = 9) = behB x j := by
  cases j with
  | zero => show decide (ordS (-1) = 9) = false; decide
  | succ q => rfl
def btwB (x : List Int32) (i : Nat) : Bool := decide (rbS (x.take i).reverse = 2) && (decide (rbS (x.drop (i + 1)) = 1) || decide (rbS (x.drop (i + 1)) = 2))
def okJ (x : List Int32) (i : Nat) : Bool := !(decide (x.getD i (-1) = 8205) && !behB x i) && !(decide (x.getD i (-1) = 8204) && !behB x i && !btwB x i)
def jnP (x : List Int32) (j : Nat) : Bool := (List.range j).all (okJ x)
theorem jnP_succ (x : List Int32) (j : Nat) : jnP x (j + 1) = (jnP x j && okJ x j) := by
  unfold jnP; rw [List.range_succ, List.all_append]; simp
theorem jnP_false {x : List Int32} {j : Nat} (h : jnP x j = false) : ∀ d, jnP x (j + d) = false
  | 0 => h
  | d + 1 => by rw [← Nat.add_assoc, jnP_succ, jnP_false h d]; rfl
theorem codes_between {N : Nat} {f : Nat → Int32} {x : List Int32} (h : Rp f x) (hN : x.length ≤ N) (hN2 : N < 90000) {i : Nat} (hi : i < x.length) : P_Checker_isBetweenJoining N (nI x.length) f (nI i) = some (b2 (btwB x i)) := by
  unfold P_Checker_isBetweenJoining P_Checker_isBetweenJoining_29 btwB
  rw [codes_left h hN hN2 hi, codes_right h hN hN2 hi, Option.bind_some, Option.bind_some]
  have h1 : ¬ (1 : Int32) = 0 := by decide
  by_cases ha : rbS (x.take i).reverse = 2
  · by_cases hb : rbS (x.drop (i + 1)) = 1
    · rw [if_pos hb, if_pos ha, if_neg h1]; simp [ha, hb, b2]
    · rw [if_neg hb]
      by_cases hc : rbS (x.drop (i + 1)) = 2
      · rw [if_pos hc, if_pos ha, if_neg h1]; simp [ha, hc, b2]
      · rw [if_neg hc, if_pos ha, if_pos rfl]; simp [ha, hb, hc, b2]
  · simp only [if_neg ha]
    simp [ha, b2]
theorem codes_joiners {N : Nat} {f : Nat → Int32} {x : List Int32} (h : Rp f x) (hN : x.length ≤ N) (hN2 : N < 90000) : P_Checker_areJoinersRight N (nI x.length) f = some (b2 (jnP x x.length)) := by
  unfold P_Checker_areJoinersRight
  refine fl1_p (P_Checker_areJoinersRight_2 N (nI x.length) f) (fun m v => ∃ j, m = x.length - j ∧ j ≤ x.length ∧ v = nI j ∧ jnP x j = true) (fun r => r = some (b2 (jnP x x.length))) ?_ fu x.length (0 : Int32) (by unfold fu; omega) ⟨0, rfl, by omega, rfl, rfl⟩
  rintro m K v ⟨j, hm, hj, rfl, hJ⟩ ih
  unfold P_Checker_areJoinersRight_2 P_Row_size
  rw [Option.bind_some]
  by_cases hjl : x.length ≤ j
  · have ej : j = x.length := by omega
    subst ej
    rw [if_pos (nI_le (Nat.le_refl _) (by omega)), hJ]; rfl
  · have hjl2 : j < x.length := by omega
    have hbeh : P_Row_get N (nI x.length) f (nI j - 1) = some (prevC x j) := by
      cases j with
      | zero => exact row_getm (by decide)
      | succ q => rw [nI_pred, row_get h hN (by omega) (by omega)]; rfl
    have hbb := prev_beh x j
    rw [if_neg (nI_ge (by omega) (by omega)), row_get h hN (by omega) (by omega), Option.bind_some, hbeh, Option.bind_some, codes_order, Option.bind_some]
    have hsucc := jnP_succ x j
    rw [hJ, Bool.true_and] at hsucc
    have bad : okJ x j = false → some (0 : Int32) = some (b2 (jnP x x.length)) := by
      intro z
      rw [z] at hsucc
      have := jnP_false hsucc (x.length - (j + 1))
      rw [show j + 1 + (x.length - (j + 1)) = x.length by omega] at this
      rw [this]; rfl
    have good : okJ x j = true → K (nI (j + 1)) = some (b2 (jnP x x.length)) := by
      intro z
      rw [z] at hsucc
      exact ih (x.length - (j + 1)) _ (by omega) ⟨j + 1, rfl, by omega, rfl, hsucc⟩
    have main : ∀ bh : Bool, bh = behB x j → P_Checker_areJoinersRight_36 N (nI x.length) f K (nI j) (x.getD j (-1)) (b2 bh) = some (b2 (jnP x x.length)) := by
      intro bh hbh
      unfold P_Checker_areJoinersRight_36 P_Checker_areJoinersRight_50
      rw [codes_between h hN hN2 hjl2, Option.bind_some, nI_1]
      simp only [b2_0]
      unfold okJ at bad good
      rw [← hbh] at bad good
      generalize x.getD j (-1) = c at *
      by_cases c1 : c = 8205
      · have c2 : ¬ c = 8204 := by rw [c1]; decide
        rw [if_pos c1, if_neg c2]
        cases bh with
        | false => exact bad (by simp [c1])
        | true => exact good (by simp)
      · rw [if_neg c1]
        by_cases c2 : c = 8204
        · rw [if_pos c2]
          cases bh with
          | true => exact good (by simp)
          | false =>
            simp only [if_true]
            cases hbt : btwB x j with
            | false => exact bad (by simp [c2, hbt])
            | true => exact good (by simp [c2, hbt])
        · rw [if_neg c2]
          exact good (by rw [decide_eq_false c1, decide_eq_false c2]; rfl)
    by_cases h9 : ordS (prevC x j) = 9
    · rw [if_pos h9]
      exact main true (by rw [← hbb, decide_eq_true h9])
    · rw [if_neg h9]
      exact main false (by rw [← hbb, decide_eq_false h9])
/-! the reference -/
theorem mod_right {st sz pool : Nat → Int32} {k : Nat} {x : List Int32} (hk : k < 50) (hsz : sz k = nI x.length) (hlen : x.length ≤ 96) (hcode : ∀ i, i < x.length → P_Mod_codeOf st pool (nI k) (nI i) = some (x.getD i (-1))) {i : Nat} (hi : i < x.length) : ∃ c, P_Mod_across st sz pool (nI k) (nI i) 1 = some c ∧ joS c = rbS (x.drop (i + 1)) := by
  unfold P_Mod_across
  rw [nI_1]
  refine fl1_p (P_Mod_across_5 st sz pool (nI k) 1) (fun m v => ∃ j, m = x.length - j ∧ j ≤ x.length ∧ v = nI j ∧ rbS (x.drop (i + 1)) = rbS (x.drop j)) (fun r => ∃ c, r = some c ∧ joS c = rbS (x.drop (i + 1))) ?_ fu (x.length - (i + 1)) (nI (i + 1)) (by unfold fu; omega) ⟨i + 1, rfl, by omega, rfl, rfl⟩
  rintro m K v ⟨j, hm, hj, rfl, he⟩ ih
  unfold P_Mod_across_5 P_Mod_across_44
  have hneg : ¬ nI j < 0 := nI_pos (by omega)
  simp only [if_neg hneg, gi_ok hk (show 50 < 2 ^ 31 by omega), nI_clamp (show k < 2 ^ 31 by omega), hsz]
  by_cases hjl : x.length ≤ j
  · have hA : nI x.length ≤ nI j := nI_le hjl (by omega)
    simp only [if_pos hA]
    exact ⟨_, rfl, by rw [he, List.drop_eq_nil_of_le hjl]; exact jo_m1⟩
  · have hjl2 : j < x.length := by omega
    have hA : ¬ nI x.length ≤ nI j := nI_ge (by omega) (by omega)
    simp only [if_neg hA]
    rw [hcode j hjl2, Option.bind_some, mod_joins, Option.bind_some, nI_1]
    rw [drop_get_cons hjl2] at he
    simp only [rbS] at he
    by_cases h3 : joS (x.getD j (-1)) = 3
    · rw [if_pos h3] at he ⊢
      exact ih (x.length - (j + 1)) _ (by omega) ⟨j + 1, rfl, by omega, rfl, he⟩
    · rw [if_neg h3] at he ⊢
      exact ⟨_, rfl, he.symm⟩
theorem mod_left {st sz pool : Nat → Int32} {k : Nat} {x : List Int32} (hk : k < 50) (hsz : sz k = nI x.length) (hlen : x.length ≤ 96) (hcode : ∀ i, i < x.length → P_Mod_codeOf st pool (nI k) (nI i) = some (x.getD i (-1))) {i : Nat} (hi : i < x.length) : ∃ c, P_Mod_across st sz pool (nI k) (nI i) (-1) = some c ∧ joS c = rbS (x.take i).reverse := by
  unfold P_Mod_across
  rw [nI_m]
  refine fl1_p (P_Mod_across_5 st sz pool (nI k) (-1)) (fun m v => ∃ p, m = p ∧ p ≤ i ∧ v = nI p - 1 ∧ rbS (x.take i).reverse = rbS (x.take p).reverse) (fun r => ∃ c, r = some c ∧ joS c = rbS (x.take i).reverse) ?_ fu i (nI i - 1) (by unfold fu; omega) ⟨i, rfl, by omega, rfl, rfl⟩
  rintro m K v ⟨p, rfl, hp, rfl, he⟩ ih
  unfold P_Mod_across_5 P_Mod_across_44
  cases m with
  | zero =>
    have hA : nI 0 - 1 < 0 := by decide
    simp only [if_pos hA]
    exact ⟨_, rfl, by rw [he]; exact jo_m1⟩
  | succ q =>
    have hq : q < x.length := by omega
    have hA : ¬ nI q < 0 := nI_pos (by omega)
    have hB : ¬ nI x.length ≤ nI q := nI_ge (by omega) (by omega)
    rw [nI_pred, if_neg hA, if_neg hA, gi_ok hk (by omega), gi_ok hk (by omega), nI_clamp (by omega), hsz, if_neg hB, if_neg hB, hcode q hq, Option.bind_some, mod_joins, Option.bind_some, Option.bind_some]
    rw [rev_take hq] at he
    simp only [rbS] at he
    by_cases h3 : joS (x.getD q (-1)) = 3
    · rw [if_pos h3] at he ⊢
      rw [nI_m]
      exact ih q _ (by omega) ⟨q, rfl, by omega, rfl, he⟩
    · rw [if_neg h3] at he ⊢
      exact ⟨_, rfl, he.symm⟩
theorem mod_joiners {st sz pool : Nat → Int32} {k : Nat} {x : List Int32} (hk : k < 50) (hsz : sz k = nI x.length) (hlen : x.length ≤ 96) (hcode : ∀ i, i < x.length → P_Mod_codeOf st pool (nI k) (nI i) = some (x.getD i (-1))) : P_Mod_joinersRight st sz pool (nI k) = some (b2 (jnP x x.length)) := by
  unfold P_Mod_joinersRight
  refine fl2_p (P_Mod_joinersRight_4 st sz pool (nI k)) (fun m v2 v3 => ∃ j, m = x.length - j ∧ j ≤ x.length ∧ v3 = nI j ∧ v2 = b2 (jnP x j)) (fun r => r = some (b2 (jnP x x.length))) ?_ fu x.length (1 : Int32) (0 : Int32) (by unfold fu; omega) ⟨0, rfl, by omega, rfl, rfl⟩
  rintro m K v2 v3 ⟨j, hm, hj, rfl, rfl⟩ ih
  unfold P_Mod_joinersRight_4
  rw [gi_ok hk (by omega), nI_clamp (by omega), hsz]
  by_cases hjl : x.length ≤ j
  · have ej : j = x.length := by omega
    subst ej
    rw [if_pos (nI_le (Nat.le_refl _) (by omega))]
    unfold gb
    cases jnP x x.length <;> rfl
  · have hjl2 : j < x.length := by omega
    rw [if_neg (nI_ge (by omega) (by omega)), hcode j hjl2, Option.bind_some]
    have hsucc := jnP_succ x j
    have go : ∀ v, v = b2 (jnP x j && okJ x j) → K v (nI (j + 1)) = some (b2 (jnP x x.length)) := by
      rintro v rfl
      exact ih (x.length - (j + 1)) _ _ (by omega) ⟨j + 1, rfl, by omega, rfl, by rw [hsucc]⟩
    obtain ⟨cr, r1, r2⟩ := mod_right hk hsz hlen hcode hjl2
    obtain ⟨cl, l1, l2⟩ := mod_left hk hsz hlen hcode hjl2
    have main : ∀ bh : Bool, bh = behB x j → P_Mod_joinersRight_47 st sz pool (nI k) K (b2 (jnP x j)) (nI j) (x.getD j (-1)) (b2 bh) = some (b2 (jnP x x.length)) := by
      intro bh hbh
      unfold okJ btwB at go
      rw [← hbh] at go
      generalize jnP x j = J at *
      generalize x.getD j (-1) = c at *
      generalize rbS (x.take j).reverse = rl at *
      generalize rbS (x.drop (j + 1)) = rr at *
      unfold P_Mod_joinersRight_47 P_Mod_joinersRight_72 P_Mod_joinersRight_123
      simp only [r1, l1, Option.bind_some, mod_joins, r2, l2, nI_1, b2_0]
      by_cases c1 : c = 8205
      · have c2 : ¬ c = 8204 := by rw [c1]; decide
        simp only [if_pos c1, if_neg c2]
        cases J with
        | false => exact go 0 (by simp [b2])
        | true =>
          cases bh with
          | false => exact go 0 (by simp [c1, b2])
          | true => exact go 1 (by simp [b2])
      · simp only [if_neg c1]
        by_cases c2 : c = 8204
        · simp only [if_pos c2]
          by_cases ha : rl = 2
          · by_cases hb : rr = 1
            · simp only [if_pos ha, if_pos hb]
              cases J <;> cases bh <;> simp [b2] <;> exact go _ (by simp [c1, c2, ha, hb, b2])
            · by_cases hc : rr = 2
              · simp only [if_pos ha, if_neg hb, if_pos hc]
                cases J <;> cases bh <;> simp [b2] <;> exact go _ (by simp [c1, c2, ha, hc, b2])
              · simp only [if_pos ha, if_neg hb, if_neg hc]
                cases J <;> cases bh <;> simp [b2] <;> exact go _ (by simp [c1, c2, ha, hb, hc, b2])
          · simp only [if_neg ha]
            cases J <;> cases bh <;> simp [b2] <;> exact go _ (by simp [c1, c2, ha, b2])
        · simp only [if_neg c2]
          exact go _ (by rw [decide_eq_false c1, decide_eq_false c2]; simp)
    cases j with
    | zero =>
      rw [if_pos (by decide)]
      exact main false rfl
    | succ q =>
      have hB : ¬ nI (q + 1) ≤ 0 := nI_ge (a := 0) (by omega) (by omega)
      rw [if_neg hB, nI_pred, hcode q (by omega), Option.bind_some, mod_order, Option.bind_some]
      by_cases h9 : ordS (x.getD q (-1)) = 9
      · rw [if_pos h9]
        exact main true (by show true = decide _; rw [decide_eq_true h9])
      · rw [if_neg h9]
        exact main false (by show false = decide _; rw [decide_eq_false h9])
