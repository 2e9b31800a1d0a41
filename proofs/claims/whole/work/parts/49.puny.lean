/-! ===== the numbers of packing ===== -/
def thN (b j : Nat) : Nat := max 1 (min 26 (36 * (j + 1) - b))
theorem thN_rng (b j : Nat) : 1 ≤ thN b j ∧ thN b j ≤ 26 := by unfold thN; omega
theorem mod_thr {b k : Nat} (hb : b < 100000) (hk : k < 100000) : P_Mod_threshold (nI b) (nI k) = some (nI (max 1 (min 26 (k - b)))) := by
  unfold P_Mod_threshold
  have e : (nI k - nI b).toInt = (k : Int) - b := pk_sub_toInt (by omega) (by omega)
  by_cases h : b < k
  · have e1 : nI k - nI b = nI (k - b) := pk_sub (by omega)
    rw [e1]
    have e26 : (26 : Int32) = nI 26 := rfl
    have e01 : (1 : Int32) = nI 1 := rfl
    rw [e26, e01, if_pos (nI_le (by omega) (by omega))]
    by_cases h2 : k - b ≤ 26
    · rw [if_pos (nI_le h2 (by omega))]
      congr 2; omega
    · rw [if_neg (nI_ge (by omega) (by omega))]
      congr 2; omega
  · rw [if_neg]
    · congr 1
      have : max 1 (min 26 (k - b)) = 1 := by omega
      rw [this]; rfl
    · rw [Int32.le_iff_toInt_le, e]
      simp only [Int32.reduceToInt]; omega
theorem codes_thr {b j : Nat} (hb : b < 100000) (hj : j < 1000) : P_Packer_threshold (nI b) (nI j) = some (nI (thN b j)) := by
  unfold P_Packer_threshold thN
  have e36 : (36 : Int32) = nI 36 := rfl
  have e26 : (26 : Int32) = nI 26 := rfl
  have e01 : (1 : Int32) = nI 1 := rfl
  rw [nI_1, e36, pk_mul]
  generalize hk : 36 * (j + 1) = k
  have hk2 : k < 100000 := by omega
  have e : (nI k - nI b).toInt = (k : Int) - b := pk_sub_toInt (by omega) (by omega)
  congr 1
  unfold jmax jmin
  by_cases h : b < k
  · have e1 : nI k - nI b = nI (k - b) := pk_sub (by omega)
    rw [e1, e26, e01]
    by_cases h2 : k - b < 26
    · rw [if_pos (nI_lt h2 (by omega))]
      by_cases h3 : 1 < k - b
      · rw [if_pos (nI_lt h3 (by omega))]; congr 1; omega
      · rw [if_neg (nI_nlt (by omega) (by omega))]; congr 1; omega
    · rw [if_neg (nI_nlt (by omega) (by omega)), if_pos (nI_lt (by omega) (by omega))]; congr 1; omega
  · have e2 : nI k - nI b < 26 := by
      rw [Int32.lt_iff_toInt_lt, e]; simp only [Int32.reduceToInt]; omega
    have e3 : ¬ 1 < nI k - nI b := by
      rw [Int32.lt_iff_toInt_lt, e]; simp only [Int32.reduceToInt]; omega
    rw [if_pos e2, if_neg e3]
    have : max 1 (min 26 (k - b)) = 1 := by omega
    rw [this]; rfl
/-- the bias out of a delta -/
def adV (d k : Nat) : Nat := if d ≤ 455 then k + 36 * d / (d + 38) else adV (d / 35) (k + 36)
termination_by d
decreasing_by omega
theorem adV_le : ∀ (m d k : Nat), d ≤ 455 * 35 ^ m → adV d k ≤ k + 36 * m + 35
  | 0, d, k, h => by
    rw [adV, if_pos (by simpa using h)]
    have : 36 * d / (d + 38) ≤ 35 := by
      have : 36 * d / (d + 38) < 36 := by rw [Nat.div_lt_iff_lt_mul (by omega)]; omega
      omega
    omega
  | m + 1, d, k, h => by
    rw [adV]
    split
    · have : 36 * d / (d + 38) < 36 := by rw [Nat.div_lt_iff_lt_mul (by omega)]; omega
      omega
    · have h1 : d / 35 ≤ 455 * 35 ^ m := by
        rw [Nat.pow_succ] at h
        rw [Nat.div_le_iff_le_mul_add_pred (by omega)]
        omega
      have := adV_le m (d / 35) (k + 36) h1
      omega
theorem final_ad {d k : Nat} (hd : d < 50000000) (hk : k < 100000) : gz (nI d + 38) (some (nI k + 36 * nI d / (nI d + 38))) = some (nI (k + 36 * d / (d + 38))) := by
  have e38 : (38 : Int32) = nI 38 := rfl
  have e36 : (36 : Int32) = nI 36 := rfl
  unfold gz
  rw [e38, nI_add, if_neg (nI_ne0 (by omega) (by omega)), e36, pk_mul, pk_div (by omega) (by omega) (by omega), nI_add]
theorem ad_step {d n : Nat} (h : d ≤ 455 * 35 ^ n) (h2 : ¬ d ≤ 455) : 1 ≤ n ∧ d / 35 ≤ 455 * 35 ^ (n - 1) := by
  cases n with
  | zero => simp at h; omega
  | succ m =>
    refine ⟨by omega, ?_⟩
    rw [Nat.pow_succ] at h
    rw [Nat.add_sub_cancel, Nat.div_le_iff_le_mul_add_pred (by omega)]
    omega
theorem ad_start {d : Nat} (hd : d < 2 ^ 31) : d ≤ 455 * 35 ^ 6 := by omega
theorem mod_adL {d : Nat} (hd : d < 2 ^ 31) : fl2 P_Mod_adapt_29 fu (nI d) (nI 0) = some (nI (adV d 0)) := by
  refine fl2_p P_Mod_adapt_29 (fun n v w => ∃ (d' k' : Nat), v = nI d' ∧ w = nI k' ∧ d' ≤ 455 * 35 ^ n ∧ d' < 2 ^ 31 ∧ k' + 36 * n < 1000 ∧ adV d' k' = adV d 0) (fun r => r = some (nI (adV d 0))) ?_ fu 6 (nI d) (nI 0) (by decide) ⟨d, 0, rfl, rfl, ad_start hd, hd, by omega, rfl⟩
  rintro n K v w ⟨d', k', rfl, rfl, h1, h2, h3, h4⟩ ih
  unfold P_Mod_adapt_29
  have e455 : (455 : Int32) = nI 455 := rfl
  have e35 : (35 : Int32) = nI 35 := rfl
  have e36 : (36 : Int32) = nI 36 := rfl
  by_cases hle : d' ≤ 455
  · rw [e455, if_pos (nI_le hle (by omega)), final_ad (by omega) (by omega), ← h4, adV, if_pos hle]
  · obtain ⟨g1, g2⟩ := ad_step h1 hle
    rw [e455, if_neg (nI_ge (by omega) (by omega)), e35, pk_div h2 (by omega) (by omega), e36, nI_add]
    refine ih (n - 1) _ _ (by omega) ⟨d' / 35, k' + 36, rfl, rfl, g2, by omega, by omega, ?_⟩
    rw [← h4]
    conv => rhs; rw [adV, if_neg hle]
theorem codes_adL {d : Nat} (hd : d < 2 ^ 31) : fl3 P_Packer_adapt_36 fu (nI d) (nI 0) (nI 0) = some (nI (adV d 0)) := by
  refine fl3_p P_Packer_adapt_36 (fun n v w z => ∃ (d' k' : Nat), v = nI d' ∧ w = nI k' ∧ z = nI (6 - n) ∧ n ≤ 6 ∧ d' ≤ 455 * 35 ^ n ∧ d' < 2 ^ 31 ∧ k' + 36 * n < 1000 ∧ adV d' k' = adV d 0) (fun r => r = some (nI (adV d 0))) ?_ fu 6 (nI d) (nI 0) (nI 0) (by decide) ⟨d, 0, rfl, rfl, rfl, by omega, ad_start hd, hd, by omega, rfl⟩
  rintro n K v w z ⟨d', k', rfl, rfl, rfl, hn, h1, h2, h3, h4⟩ ih
  unfold P_Packer_adapt_36 P_Packer_adapt_67
  have e455 : (455 : Int32) = nI 455 := rfl
  have e35 : (35 : Int32) = nI 35 := rfl
  have e36 : (36 : Int32) = nI 36 := rfl
  have e100 : (100 : Int32) = nI 100 := rfl
  rw [e100, if_neg (nI_ge (by omega) (by omega))]
  by_cases hle : d' ≤ 455
  · rw [e455, if_pos (nI_le hle (by omega)), final_ad (by omega) (by omega), ← h4, adV, if_pos hle]
  · obtain ⟨g1, g2⟩ := ad_step h1 hle
    rw [e455, if_neg (nI_ge (by omega) (by omega)), e35, pk_div h2 (by omega) (by omega), e36, nI_add, nI_1]
    refine ih (n - 1) _ _ _ (by omega) ⟨d' / 35, k' + 36, rfl, rfl, by congr 1; omega, by omega, g2, by omega, by omega, ?_⟩
    rw [← h4]
    conv => rhs; rw [adV, if_neg hle]
/-- ADAPTED: d, many, first -/
def adF (d many : Nat) (first : Bool) : Nat := adV ((if first then d / 700 else d / 2) + (if first then d / 700 else d / 2) / many) 0
theorem adF_le {d many : Nat} (first : Bool) (hd : d < 2 ^ 31) (hm : 1 ≤ many) : adF d many first ≤ 251 := by
  unfold adF
  have : ∀ x, x ≤ d / 2 → x + x / many < 2 ^ 31 := by
    intro x hx
    have := Nat.div_le_self x many
    omega
  have h2 : (if first = true then d / 700 else d / 2) ≤ d / 2 := by split <;> omega
  exact adV_le 6 _ 0 (ad_start (this _ h2))
theorem mod_adapt {d many : Nat} (first : Bool) (hd : d < 2 ^ 31) (hm : 1 ≤ many) (hm2 : many < 2 ^ 31) : P_Mod_adapt (nI d) (nI many) (b2 first) = some (nI (adF d many first)) := by
  unfold P_Mod_adapt P_Mod_adapt_15 adF
  have e2 : (2 : Int32) = nI 2 := rfl
  have e700 : (700 : Int32) = nI 700 := rfl
  have e0 : (0 : Int32) = nI 0 := rfl
  have key : ∀ x, x ≤ d / 2 → gz (nI many) (fl2 P_Mod_adapt_29 fu (nI x + nI x / nI many) 0) = some (nI (adV (x + x / many) 0)) := by
    intro x hx
    have := Nat.div_le_self x many
    unfold gz
    rw [if_neg (nI_ne0 (by omega) hm2), pk_div (by omega) (by omega) hm2, nI_add]
    exact mod_adL (by omega)
  cases first with
  | false =>
    rw [if_pos (show b2 false = 0 from rfl), e2, pk_div hd (by omega) (by omega)]
    exact key _ (Nat.le_refl _)
  | true =>
    rw [if_neg (by decide), e700, pk_div hd (by omega) (by omega)]
    exact key _ (by omega)
theorem codes_adapt {d many : Nat} (first : Bool) (hd : d < 2 ^ 31) (hm : 1 ≤ many) (hm2 : many < 2 ^ 31) : P_Packer_adapt (nI d) (nI many) (b2 first) = some (nI (adF d many first)) := by
  unfold P_Packer_adapt P_Packer_adapt_15 adF
  have e2 : (2 : Int32) = nI 2 := rfl
  have e700 : (700 : Int32) = nI 700 := rfl
  have ej : jmax 1 (nI many) = nI many := by
    unfold jmax
    have e1 : (1 : Int32) = nI 1 := rfl
    rw [e1]
    by_cases h : 1 < many
    · rw [if_pos (nI_lt h hm2)]
    · rw [if_neg (nI_nlt (by omega) (by omega))]; congr 1; omega
  have key : ∀ x, x ≤ d / 2 → gz (jmax 1 (nI many)) (fl3 P_Packer_adapt_36 fu (nI x + nI x / jmax 1 (nI many)) 0 0) = some (nI (adV (x + x / many) 0)) := by
    intro x hx
    have := Nat.div_le_self x many
    unfold gz
    rw [ej, if_neg (nI_ne0 (by omega) hm2), pk_div (by omega) (by omega) hm2, nI_add]
    exact codes_adL (by omega)
  cases first with
  | false =>
    rw [if_pos (show b2 false = 0 from rfl), e2, pk_div hd (by omega) (by omega)]
    exact key _ (Nat.le_refl _)
  | true =>
    rw [if_neg (by decide), e700, pk_div hd (by omega) (by omega)]
    exact key _ (by omega)
/-! digits: 36 for a code that is none -/
def dgN (c : Int32) : Nat := if 97 ≤ c.toInt ∧ c.toInt ≤ 122 then (c.toInt - 97).toNat else if 65 ≤ c.toInt ∧ c.toInt ≤ 90 then (c.toInt - 65).toNat else if 48 ≤ c.toInt ∧ c.toInt ≤ 57 then (c.toInt - 22).toNat else 36
theorem dgN_le (c : Int32) : dgN c ≤ 36 := by
  unfold dgN
  repeat' split
  all_goals omega
def dgI (c : Int32) : Int32 := if dgN c = 36 then -1 else nI (dgN c)
theorem nI_of_toInt {x : Int32} {n : Nat} (h : x.toInt = n) (hn : n < 2 ^ 31) : x = nI n := by
  apply Int32.toInt_inj.mp
  rw [h, nI_toInt hn]
theorem mod_digit (c : Int32) : P_Mod_digit c = some (dgI c) := by
  unfold P_Mod_digit
  simp only [mod_within, Option.bind_some, Int32.reduceToInt, b2_0]
  by_cases h1 : 97 ≤ c.toInt ∧ c.toInt ≤ 122
  · have r : dgI c = nI (c.toInt - 97).toNat := by
      unfold dgI dgN; rw [if_pos h1]; exact if_neg (by omega)
    have : (c - 97).toInt = c.toInt - 97 := sub_toInt rfl rfl (by omega) (by omega)
    rw [r, (wi_iff).mpr h1, if_neg (show ¬ (true = false) by decide)]
    congr 1
    exact nI_of_toInt (by rw [this]; omega) (by omega)
  · have w1 : wi c.toInt 97 122 = false := by rw [← Bool.not_eq_true, wi_iff]; exact h1
    rw [w1, if_pos (rfl : false = false)]
    by_cases h2 : 65 ≤ c.toInt ∧ c.toInt ≤ 90
    · have r : dgI c = nI (c.toInt - 65).toNat := by
        unfold dgI dgN; rw [if_neg h1, if_pos h2]; exact if_neg (by omega)
      have : (c - 65).toInt = c.toInt - 65 := sub_toInt rfl rfl (by omega) (by omega)
      rw [r, (wi_iff).mpr h2, if_neg (show ¬ (true = false) by decide)]
      congr 1
      exact nI_of_toInt (by rw [this]; omega) (by omega)
    · have w2 : wi c.toInt 65 90 = false := by rw [← Bool.not_eq_true, wi_iff]; exact h2
      rw [w2, if_pos (rfl : false = false)]
      by_cases h3 : 48 ≤ c.toInt ∧ c.toInt ≤ 57
      · have r : dgI c = nI (c.toInt - 22).toNat := by
          unfold dgI dgN; rw [if_neg h1, if_neg h2, if_pos h3]; exact if_neg (by omega)
        have : (c - 22).toInt = c.toInt - 22 := sub_toInt rfl rfl (by omega) (by omega)
        rw [r, (wi_iff).mpr h3, if_neg (show ¬ (true = false) by decide)]
        congr 1
        exact nI_of_toInt (by rw [this]; omega) (by omega)
      · have w3 : wi c.toInt 48 57 = false := by rw [← Bool.not_eq_true, wi_iff]; exact h3
        have r : dgI c = -1 := by
          unfold dgI dgN; rw [if_neg h1, if_neg h2, if_neg h3]; rfl
        rw [r, w3]; rfl
theorem codes_digit (c : Int32) : P_Packer_digitOfCode c = some (dgI c) := by
  rw [← mod_digit]
  unfold P_Packer_digitOfCode P_Mod_digit
  have e : ∀ c : Int32, c - 48 + 26 = c - 22 := by
    intro c
    have : (26 : Int32) = 48 - 22 := by decide
    rw [this, Int32.sub_eq_add_neg, Int32.sub_eq_add_neg (a := 48), Int32.sub_eq_add_neg (a := c) (b := 22), ← Int32.add_assoc, Int32.add_assoc (c := 48)]
    simp
  simp only [codes_within, codes_capital, mod_within, Int32.reduceToInt, e]
