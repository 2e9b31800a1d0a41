/-! ===== packing: a number as digits ===== -/
def cdD (d : Nat) : Int32 := if d < 26 then nI (97 + d) else nI (22 + d)
def dgS (b : Nat) : Nat → Nat → Nat → List Int32
  | 0, _, _ => []
  | f + 1, q, j => if q < thN b j then [cdD q] else cdD (thN b j + (q - thN b j) % (36 - thN b j)) :: dgS b f ((q - thN b j) / (36 - thN b j)) (j + 1)
theorem dgS_len (b : Nat) : ∀ (f q j : Nat), (dgS b f q j).length ≤ f
  | 0, _, _ => Nat.le_refl _
  | f + 1, q, j => by
    simp only [dgS]
    split
    · simp
    · have := dgS_len b f ((q - thN b j) / (36 - thN b j)) (j + 1)
      simp; omega
theorem codes_cd {d : Nat} (hd : d < 1000) : P_Packer_codeOfDigit (nI d) = some (cdD d) := by
  unfold P_Packer_codeOfDigit cdD
  have e26 : (26 : Int32) = nI 26 := rfl
  have e97 : (97 : Int32) = nI 97 := rfl
  have e48 : (48 : Int32) = nI 48 := rfl
  by_cases h : d < 26
  · rw [e26, if_neg (nI_ge h (by omega)), if_pos h, e97, nI_add]
  · rw [e26, if_pos (nI_le (by omega) (by omega)), if_neg h, e48, nI_add, pk_sub (by omega)]
    congr 2; omega
/-- below this a number has m + 1 digits at most -/
def Bq : Nat → Nat
  | 0 => 1
  | 1 => 26
  | m + 2 => 10 * Bq (m + 1)
theorem divq {q t m : Nat} (ht : 1 ≤ t ∧ t ≤ 26) (hq : q < Bq (m + 1)) : (q - t) / (36 - t) < Bq m := by
  rw [Nat.div_lt_iff_lt_mul (by omega)]
  cases m with
  | zero =>
    have : q < 26 := hq
    show q - t < 1 * (36 - t)
    omega
  | succ m =>
    have h1 : q < 10 * Bq (m + 1) := hq
    have h2 : Bq (m + 1) * 10 ≤ Bq (m + 1) * (36 - t) := Nat.mul_le_mul_left _ (by omega)
    omega
theorem divle (q t : Nat) : (q - t) / (36 - t) ≤ q := Nat.le_trans (Nat.div_le_self _ _) (Nat.sub_le _ _)
theorem digit_lt {q t : Nat} (ht : 1 ≤ t ∧ t ≤ 26) : t + (q - t) % (36 - t) < 36 := by
  have : (q - t) % (36 - t) < 36 - t := Nat.mod_lt _ (by omega)
  omega
/-- the class writes a number -/
theorem codes_wr {N2 b : Nat} (hN2 : N2 < 90000) (hb : b < 100000) : ∀ (m q j : Nat) (o : List Int32) (g : Nat → Int32) (fuel : Nat), m < fuel → q < Bq m → q < 2 ^ 31 → j + m ≤ 50 → o.length + (dgS b (m + 1) q j).length ≤ N2 → Rp g o →
    ∃ g', fl4 (P_Packer_writeNumber_5 N2 (nI b)) fuel (nI q) (nI j) (nI o.length) g = some (nI (o ++ dgS b (m + 1) q j).length, g') ∧ Rp g' (o ++ dgS b (m + 1) q j) := by
  intro m
  induction m with
  | zero =>
    intro q j o g fuel hfu hq hm hj ho hg
    obtain ⟨k, rfl⟩ : ∃ k, fuel = k + 1 := ⟨fuel - 1, by omega⟩
    have hq0 : q = 0 := by have : q < 1 := hq; omega
    subst hq0
    have ht := thN_rng b j
    have e1 : dgS b (0 + 1) 0 j = [cdD 0] := by simp only [dgS]; rw [if_pos (by omega)]
    rw [e1] at ho ⊢
    rw [fl4_s]
    unfold P_Packer_writeNumber_5 P_Packer_writeNumber_67
    have e100 : (100 : Int32) = nI 100 := rfl
    rw [e100, if_neg (nI_ge (by omega) (by omega)), codes_thr hb (by omega), Option.bind_some, if_neg (nI_ge (by omega) (by omega)), codes_cd (by omega), Option.bind_some, row_add (by simp at ho; omega) (by omega), Option.bind_some]
    exact ⟨_, by simp, hg.add _⟩
  | succ m ih =>
    intro q j o g fuel hfu hq hm hj ho hg
    obtain ⟨k, rfl⟩ : ∃ k, fuel = k + 1 := ⟨fuel - 1, by omega⟩
    have ht := thN_rng b j
    rw [fl4_s]
    generalize hK : fl4 (P_Packer_writeNumber_5 N2 (nI b)) k = K
    unfold P_Packer_writeNumber_5 P_Packer_writeNumber_67
    have e100 : (100 : Int32) = nI 100 := rfl
    have e36 : (36 : Int32) = nI 36 := rfl
    have hq31 : q < 2 ^ 31 := hm
    have hqle := divle q (thN b j)
    rw [e100, if_neg (nI_ge (by omega) (by omega)), codes_thr hb (by omega), Option.bind_some]
    by_cases hqt : q < thN b j
    · have e1 : dgS b (m + 1 + 1) q j = [cdD q] := by simp only [dgS]; rw [if_pos hqt]
      rw [e1] at ho ⊢
      rw [if_neg (nI_ge hqt (by omega)), codes_cd (by omega), Option.bind_some, row_add (by simp at ho; omega) (by omega), Option.bind_some]
      exact ⟨_, by simp, hg.add _⟩
    · have e1 : dgS b (m + 1 + 1) q j = cdD (thN b j + (q - thN b j) % (36 - thN b j)) :: dgS b (m + 1) ((q - thN b j) / (36 - thN b j)) (j + 1) := by
        conv => lhs; rw [dgS]
        rw [if_neg hqt]
      rw [e1] at ho ⊢
      simp only [List.length_cons] at ho
      have hdl := digit_lt (q := q) ht
      rw [if_pos (nI_le (by omega) (by omega)), e36, pk_sub (by omega), pk_sub (by omega)]
      unfold gz
      have hrem : nI (q - thN b j) - nI (q - thN b j) / nI (36 - thN b j) * nI (36 - thN b j) = nI ((q - thN b j) % (36 - thN b j)) := pk_rem (by omega) (by omega) (by omega)
      have hne : ¬ nI (36 - thN b j) = 0 := nI_ne0 (by omega) (by omega)
      rw [if_neg hne, hrem, nI_add, codes_cd (by omega), Option.bind_some, row_add (by omega) (by omega), Option.bind_some, if_neg hne, pk_div (by omega) (by omega) (by omega), nI_1, ← hK]
      have := ih ((q - thN b j) / (36 - thN b j)) (j + 1) (o ++ [cdD (thN b j + (q - thN b j) % (36 - thN b j))]) (upd g o.length (cdD (thN b j + (q - thN b j) % (36 - thN b j)))) k (by omega) (divq ht hq) (by omega) (by omega) (by simp; omega) (hg.add _)
      simp only [List.append_assoc, List.cons_append, List.nil_append, List.length_append, List.length_cons, List.length_nil] at this ⊢
      exact this
/-- the reference writes a digit -/
theorem mod_outd {o : List Int32} {g : Nat → Int32} (ho : o.length < 2000) {d : Nat} (hd : d < 1000) : P_Mod_outDigit (nI o.length) g (nI d) = some (nI (o.length + 1), upd g o.length (cdD d)) := by
  unfold P_Mod_outDigit P_Mod_outDigit_18 P_Mod_out cdD
  have e26 : (26 : Int32) = nI 26 := rfl
  have e97 : (97 : Int32) = nI 97 := rfl
  have e22 : (22 : Int32) = nI 22 := rfl
  rw [gi_ok ho (by omega), gi_ok ho (by omega), nI_1, nI_clamp (by omega), Option.bind_some, Option.bind_some]
  by_cases h : d < 26
  · rw [e26, if_neg (nI_ge h (by omega)), if_pos h, e97, nI_add]
  · rw [e26, if_pos (nI_le (by omega) (by omega)), if_neg h, e22, nI_add]
theorem mod_out {o : List Int32} {g : Nat → Int32} (ho : o.length < 2000) (c : Int32) : P_Mod_out (nI o.length) g c = some (nI (o.length + 1), upd g o.length c) := by
  unfold P_Mod_out
  rw [gi_ok ho (by omega), nI_1, nI_clamp (by omega)]
theorem mod_wr {b : Nat} (hb : b < 100000) : ∀ (m q j : Nat) (o : List Int32) (g : Nat → Int32) (fuel : Nat), m < fuel → q < Bq m → q < 2 ^ 31 → j + m ≤ 50 → o.length + (dgS b (m + 1) q j).length ≤ 2000 → Rp g o →
    ∃ g', fl5 (P_Mod_outNumber_12 (nI b)) fuel (nI q) (nI (36 * (j + 1))) (nI (thN b j)) (nI o.length) g = some (nI (o ++ dgS b (m + 1) q j).length, g') ∧ Rp g' (o ++ dgS b (m + 1) q j) := by
  intro m
  induction m with
  | zero =>
    intro q j o g fuel hfu hq hm hj ho hg
    obtain ⟨k, rfl⟩ : ∃ k, fuel = k + 1 := ⟨fuel - 1, by omega⟩
    have hq0 : q = 0 := by have : q < 1 := hq; omega
    subst hq0
    have ht := thN_rng b j
    have e1 : dgS b (0 + 1) 0 j = [cdD 0] := by simp only [dgS]; rw [if_pos (by omega)]
    rw [e1] at ho ⊢
    rw [fl5_s]
    unfold P_Mod_outNumber_12
    rw [if_pos (nI_lt (by omega) (by omega)), mod_outd (by simp at ho; omega) (by omega), Option.bind_some]
    exact ⟨_, by simp, hg.add _⟩
  | succ m ih =>
    intro q j o g fuel hfu hq hm hj ho hg
    obtain ⟨k, rfl⟩ : ∃ k, fuel = k + 1 := ⟨fuel - 1, by omega⟩
    have ht := thN_rng b j
    rw [fl5_s]
    generalize hK : fl5 (P_Mod_outNumber_12 (nI b)) k = K
    unfold P_Mod_outNumber_12
    have e36 : (36 : Int32) = nI 36 := rfl
    have hq31 : q < 2 ^ 31 := hm
    have hqle := divle q (thN b j)
    by_cases hqt : q < thN b j
    · have e1 : dgS b (m + 1 + 1) q j = [cdD q] := by simp only [dgS]; rw [if_pos hqt]
      rw [e1] at ho ⊢
      rw [if_pos (nI_lt hqt (by omega)), mod_outd (by simp at ho; omega) (by omega), Option.bind_some]
      exact ⟨_, by simp, hg.add _⟩
    · have e1 : dgS b (m + 1 + 1) q j = cdD (thN b j + (q - thN b j) % (36 - thN b j)) :: dgS b (m + 1) ((q - thN b j) / (36 - thN b j)) (j + 1) := by
        conv => lhs; rw [dgS]
        rw [if_neg hqt]
      rw [e1] at ho ⊢
      simp only [List.length_cons] at ho
      have hdl := digit_lt (q := q) ht
      have hthr : P_Mod_threshold (nI b) (nI (36 * (j + 1) + 36)) = some (nI (thN b (j + 1))) := by
        rw [mod_thr hb (by omega)]
        unfold thN
        congr 3
      rw [if_neg (nI_nlt (by omega) (by omega)), e36, pk_sub (by omega), pk_sub (by omega)]
      unfold gz
      have hrem : nI (q - thN b j) - nI (q - thN b j) / nI (36 - thN b j) * nI (36 - thN b j) = nI ((q - thN b j) % (36 - thN b j)) := pk_rem (by omega) (by omega) (by omega)
      have hne : ¬ nI (36 - thN b j) = 0 := nI_ne0 (by omega) (by omega)
      rw [if_neg hne, hrem, nI_add, mod_outd (by omega) (by omega), Option.bind_some, if_neg hne, pk_div (by omega) (by omega) (by omega), nI_add, hthr, Option.bind_some, ← hK]
      have := ih ((q - thN b j) / (36 - thN b j)) (j + 1) (o ++ [cdD (thN b j + (q - thN b j) % (36 - thN b j))]) (upd g o.length (cdD (thN b j + (q - thN b j) % (36 - thN b j)))) k (by omega) (divq ht hq) (by omega) (by omega) (by simp; omega) (hg.add _)
      simp only [List.append_assoc, List.cons_append, List.nil_append, List.length_append, List.length_cons, List.length_nil] at this ⊢
      exact this
def numS (b q : Nat) : List Int32 := dgS b 9 q 0
theorem codes_num {N2 b q : Nat} {o : List Int32} {g : Nat → Int32} (hN2 : N2 < 90000) (hb : b < 100000) (hq : q < 260000000) (ho : o.length + (numS b q).length ≤ N2) (hg : Rp g o) : ∃ g', P_Packer_writeNumber N2 (nI b) (nI o.length) g (nI q) = some (nI (o ++ numS b q).length, g') ∧ Rp g' (o ++ numS b q) := by
  unfold P_Packer_writeNumber
  exact codes_wr hN2 hb 8 q 0 o g fu (by decide) hq (by omega) (by omega) ho hg
theorem mod_num {b q : Nat} {o : List Int32} {g : Nat → Int32} (hb : b < 100000) (hq : q < 260000000) (ho : o.length + (numS b q).length ≤ 2000) (hg : Rp g o) : ∃ g', P_Mod_outNumber (nI o.length) (nI b) g (nI q) = some (nI (o ++ numS b q).length, g') ∧ Rp g' (o ++ numS b q) := by
  unfold P_Mod_outNumber
  have hthr : P_Mod_threshold (nI b) 36 = some (nI (thN b 0)) := by
    have e36 : (36 : Int32) = nI 36 := rfl
    rw [e36, mod_thr hb (by omega)]; rfl
  rw [hthr, Option.bind_some]
  exact mod_wr hb 8 q 0 o g fu (by decide) hq (by omega) (by omega) ho hg
