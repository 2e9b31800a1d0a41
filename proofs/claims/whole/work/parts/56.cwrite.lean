/-! ===== packing: the class's writer ===== -/
theorem codes_bas {N N2 : Nat} {f : Nat → Int32} {l : List Int32} (h : Rp f l) (hN : l.length ≤ N) (hNb : N < 90000) (hN2 : N2 < 90000) {o : List Int32} {g : Nat → Int32} (hg : Rp g o) (ho : o.length + (basS l ++ (if basS l = [] then [] else [45])).length ≤ N2) :
    ∃ g', P_Packer_writeBasic N N2 (nI l.length) f (nI o.length) g = some (nI (basS l).length, nI (o ++ (basS l ++ (if basS l = [] then [] else [45]))).length, g') ∧ Rp g' (o ++ (basS l ++ (if basS l = [] then [] else [45]))) := by
  unfold P_Packer_writeBasic
  refine fl4_p (P_Packer_writeBasic_4 N N2 (nI l.length) f) (fun m v1 v2 sz gg => ∃ j, m = l.length - j ∧ j ≤ l.length ∧ v1 = nI (basS (l.take j)).length ∧ v2 = nI j ∧ sz = nI (o ++ basS (l.take j)).length ∧ Rp gg (o ++ basS (l.take j))) (fun r => ∃ g', r = some (nI (basS l).length, nI (o ++ (basS l ++ (if basS l = [] then [] else [45]))).length, g') ∧ Rp g' (o ++ (basS l ++ (if basS l = [] then [] else [45])))) ?_ fu l.length (0 : Int32) (0 : Int32) (nI o.length) g (by unfold fu; omega) ⟨0, rfl, by omega, rfl, rfl, by simp [basS_nil], by simpa [basS_nil] using hg⟩
  rintro m K v1 v2 sz gg ⟨j, hm, hj, rfl, rfl, rfl, hgg⟩ ih
  unfold P_Packer_writeBasic_4 P_Row_size
  rw [Option.bind_some]
  have hbl := basS_take_len l j
  have hbl2 := basS_len_le l
  by_cases hjl : l.length ≤ j
  · have ej : j = l.length := by omega
    subst ej
    rw [List.take_length] at *
    rw [if_pos (nI_le (Nat.le_refl _) (by omega))]
    by_cases hb : basS l = []
    · rw [hb] at hgg ⊢
      rw [if_pos (by decide)]
      exact ⟨gg, by simp, by simpa using hgg⟩
    · have hpos : 0 < (basS l).length := List.length_pos_iff.2 hb
      have hA : ¬ nI (basS l).length ≤ 0 := nI_ge (a := 0) (by omega) (by omega)
      simp only [if_neg hb, List.length_append, List.length_singleton] at ho ⊢
      rw [if_neg hA]
      have e := row_add (N := N2) (f := gg) (l := o ++ basS l) (by simp; omega) (by omega) 45
      rw [List.length_append] at e
      rw [e, Option.bind_some]
      refine ⟨_, rfl, ?_⟩
      have := hgg.add 45
      rw [List.append_assoc, List.length_append] at this
      exact this
  · have hjl2 : j < l.length := by omega
    have hbt := basS_take hjl2
    have hbl3 := basS_take_len l (j + 1)
    rw [if_neg (nI_ge (by omega) (by omega)), row_get h hN (by omega) (by omega), Option.bind_some, Option.bind_some]
    have hpk : (basS l ++ (if basS l = [] then [] else [45])).length ≥ (basS l).length := by simp
    by_cases hx : l.getD j (-1) < 128
    · have hA : ¬ (128 : Int32) ≤ l.getD j (-1) := lt_128.1 hx
      rw [if_pos hx] at hbt
      have hbt' := congrArg List.length hbt
      simp only [List.length_append, List.length_singleton] at hbt'
      rw [if_neg hA, row_add (by simp only [List.length_append] at hpk ⊢; simp only [List.length_append] at ho; omega) (by omega), Option.bind_some, nI_1, nI_1]
      refine ih (l.length - (j + 1)) _ _ _ _ (by omega) ⟨j + 1, rfl, by omega, by rw [hbt'], rfl, by rw [hbt]; simp [Nat.add_assoc], ?_⟩
      rw [hbt, ← List.append_assoc]; exact hgg.add _
    · have hA : (128 : Int32) ≤ l.getD j (-1) := by
        by_cases z : (128 : Int32) ≤ l.getD j (-1)
        · exact z
        · exact absurd (lt_128.2 z) hx
      rw [if_neg hx, List.append_nil] at hbt
      rw [if_pos hA, nI_1]
      exact ih (l.length - (j + 1)) _ _ _ _ (by omega) ⟨j + 1, rfl, by omega, by rw [hbt], rfl, by rw [hbt], by rw [hbt]; exact hgg⟩
/-- the least code from n on -/
theorem codes_least {N : Nat} {f : Nat → Int32} {l : List Int32} (h : Rp f l) (hN : l.length ≤ N) (hNb : N < 90000) (hc : okC l) {n q : Nat} (hn : n ≤ 2000000) (hq : q < l.length) (hqn : n ≤ vN l q) :
    ∃ m p, P_Packer_leastFrom N (nI l.length) f (nI n) = some (nI m) ∧ n ≤ m ∧ m ≤ 1114111 ∧ p < l.length ∧ vN l p = m ∧ ∀ z, z < l.length → n ≤ vN l z → m ≤ vN l z := by
  unfold P_Packer_leastFrom
  refine fl2_p (P_Packer_leastFrom_5 N (nI l.length) f (nI n)) (fun k v w => ∃ (m j : Nat), k = l.length - j ∧ j ≤ l.length ∧ v = nI m ∧ w = nI j ∧ m ≤ 1114111 ∧ (m = 1114111 ∨ ∃ p, p < l.length ∧ vN l p = m ∧ n ≤ m) ∧ ∀ z, z < j → n ≤ vN l z → m ≤ vN l z) (fun r => ∃ m p, r = some (nI m) ∧ n ≤ m ∧ m ≤ 1114111 ∧ p < l.length ∧ vN l p = m ∧ ∀ z, z < l.length → n ≤ vN l z → m ≤ vN l z) ?_ fu l.length (1114111 : Int32) (0 : Int32) (by unfold fu; omega) ⟨1114111, 0, rfl, by omega, rfl, rfl, by omega, Or.inl rfl, fun z hz => absurd hz (Nat.not_lt_zero _)⟩
  rintro k K v w ⟨m, j, hk, hj, rfl, rfl, hm, hor, hz⟩ ih
  unfold P_Packer_leastFrom_5 P_Row_size
  rw [Option.bind_some]
  by_cases hjl : l.length ≤ j
  · have ej : j = l.length := by omega
    subst ej
    rw [if_pos (nI_le (Nat.le_refl _) (by omega))]
    have h1 := hz q hq hqn
    have h2 := (okC_get hc hq).2
    rcases hor with rfl | ⟨p, p1, p2, p3⟩
    · exact ⟨1114111, q, rfl, by omega, by omega, hq, by omega, hz⟩
    · exact ⟨m, p, rfl, p3, hm, p1, p2, hz⟩
  · have hjl2 : j < l.length := by omega
    obtain ⟨v1, v2⟩ := okC_get hc hjl2
    rw [if_neg (nI_ge (by omega) (by omega)), row_get h hN (by omega) (by omega), Option.bind_some, Option.bind_some, Option.bind_some, v1, nI_1]
    by_cases h1 : vN l j < n
    · rw [if_pos (nI_lt h1 (by omega))]
      refine ih (l.length - (j + 1)) _ _ (by omega) ⟨m, j + 1, rfl, by omega, rfl, rfl, hm, hor, fun z hz1 hz2 => ?_⟩
      by_cases e : z = j
      · subst e; omega
      · exact hz z (by omega) hz2
    · rw [if_neg (nI_nlt (by omega) (by omega))]
      by_cases h2 : m ≤ vN l j
      · rw [if_pos (nI_le h2 (by omega))]
        refine ih (l.length - (j + 1)) _ _ (by omega) ⟨m, j + 1, rfl, by omega, rfl, rfl, hm, hor, fun z hz1 hz2 => ?_⟩
        by_cases e : z = j
        · subst e; omega
        · exact hz z (by omega) hz2
      · rw [if_neg (nI_ge (by omega) (by omega))]
        refine ih (l.length - (j + 1)) _ _ (by omega) ⟨vN l j, j + 1, rfl, by omega, rfl, rfl, v2, Or.inr ⟨j, hjl2, rfl, by omega⟩, fun z hz1 hz2 => ?_⟩
        by_cases e : z = j
        · subst e; omega
        · have := hz z (by omega) hz2; omega
/-! what the writer knows at place i of code n -/
theorem hN_congr {l : List Int32} {n i n' i' : Nat} : ∀ m, (∀ p, p < m → Gt l n i p = Gt l n' i' p) → hN l n i m = hN l n' i' m
  | 0, _ => rfl
  | m + 1, h => by
    simp only [hN, h m (by omega), hN_congr m (fun p hp => h p (by omega))]
def WI (l T : List Int32) (h0 n' i' d b : Nat) (o : List Int32) : Prop := ∃ n i f, n ≤ n' ∧ n ≤ 1114111 ∧ i ≤ l.length ∧ (∀ p, p < l.length → Gt l n i p = Gt l n' i' p) ∧ d + cN l n i = (n' - n) * (hN l n' i' l.length + 1) + cN l n' i' ∧ l.length - hN l n' i' l.length < f ∧ b < 100000 ∧ o ++ encS l f n i b (decide (hN l n' i' l.length = h0)) = T
theorem Gt_skip {l : List Int32} {n i : Nat} (h : vN l i ≠ n) (p : Nat) : Gt l n i p = Gt l n (i + 1) p := by
  rw [Bool.eq_iff_iff, Gt_iff, Gt_iff]
  constructor
  · rintro (z | ⟨z1, z2⟩)
    · exact Or.inl z
    · by_cases e : p = i
      · subst e; omega
      · exact Or.inr ⟨z1, by omega⟩
  · rintro (z | ⟨z1, z2⟩)
    · exact Or.inl z
    · exact Or.inr ⟨z1, by omega⟩
theorem WI_skip {l T : List Int32} {h0 n' i' d b : Nat} {o : List Int32} (h : vN l i' ≠ n') (w : WI l T h0 n' i' d b o) : WI l T h0 n' (i' + 1) (d + if vN l i' < n' then 1 else 0) b o ∧ hN l n' (i' + 1) l.length = hN l n' i' l.length := by
  have hh : hN l n' (i' + 1) l.length = hN l n' i' l.length := (hN_congr _ (fun p _ => Gt_skip h p)).symm
  refine ⟨?_, hh⟩
  obtain ⟨n, i, f, h1, h2, h3, h4, h5, h6, h7, h8⟩ := w
  refine ⟨n, i, f, h1, h2, h3, fun p hp => by rw [h4 p hp, Gt_skip h], ?_, by omega, h7, by rw [hh]; exact h8⟩
  rw [hh]
  simp only [cN]
  by_cases z : vN l i' < n'
  · rw [if_pos z, if_pos (by omega)]; omega
  · rw [if_neg z, if_neg (by omega)]; omega
theorem WI_end {l T : List Int32} {h0 n' d b : Nat} {o : List Int32} (w : WI l T h0 n' l.length d b o) : WI l T h0 (n' + 1) 0 (d + 1) b o ∧ hN l (n' + 1) 0 l.length = hN l n' l.length l.length := by
  have hG : ∀ p, p < l.length → Gt l n' l.length p = Gt l (n' + 1) 0 p := by
    intro p hp
    rw [Bool.eq_iff_iff, Gt_iff, Gt_iff]
    omega
  have hh : hN l (n' + 1) 0 l.length = hN l n' l.length l.length := (hN_congr _ hG).symm
  have hc : ∀ m, m ≤ l.length → cN l n' m = hN l n' l.length m := by
    intro m
    induction m with
    | zero => intro _; rfl
    | succ m ih =>
      intro hm
      simp only [cN, hN, ih (by omega)]
      have : Gt l n' l.length m = true ↔ ¬ vN l m ≤ n' := by rw [Gt_iff]; omega
      by_cases z : vN l m ≤ n'
      · rw [if_pos z, if_neg (by rw [this]; omega)]
      · rw [if_neg z, if_pos (by rw [this]; omega)]
  refine ⟨?_, hh⟩
  obtain ⟨n, i, f, h1, h2, h3, h4, h5, h6, h7, h8⟩ := w
  refine ⟨n, i, f, by omega, h2, h3, fun p hp => by rw [h4 p hp, hG p hp], ?_, by omega, h7, by rw [hh]; exact h8⟩
  rw [hh]
  have := hc l.length (Nat.le_refl _)
  rw [this] at h5
  show _ = _ + 0
  rw [show n' + 1 - n = (n' - n) + 1 by omega, Nat.succ_mul]
  omega
theorem WI_jump {l T : List Int32} {h0 n' m d b : Nat} {o : List Int32} (hm : n' ≤ m) (hno : ∀ z, z < l.length → n' ≤ vN l z → m ≤ vN l z) (w : WI l T h0 n' 0 d b o) : WI l T h0 m 0 (d + (m - n') * (hN l n' 0 l.length + 1)) b o ∧ hN l m 0 l.length = hN l n' 0 l.length := by
  have hG : ∀ p, p < l.length → Gt l n' 0 p = Gt l m 0 p := by
    intro p hp
    have := hno p hp
    rw [Bool.eq_iff_iff, Gt_iff, Gt_iff]
    omega
  have hh : hN l m 0 l.length = hN l n' 0 l.length := (hN_congr _ hG).symm
  refine ⟨?_, hh⟩
  obtain ⟨n, i, f, h1, h2, h3, h4, h5, h6, h7, h8⟩ := w
  refine ⟨n, i, f, by omega, h2, h3, fun p hp => by rw [h4 p hp, hG p hp], ?_, by omega, h7, by rw [hh]; exact h8⟩
  rw [hh]
  show _ = _ + 0
  have h5' : d + cN l n i = (n' - n) * (hN l n' 0 l.length + 1) + 0 := h5
  rw [show m - n = (n' - n) + (m - n') by omega, Nat.add_mul]
  omega
theorem WI_d {l T : List Int32} {h0 n' i' d b : Nat} {o : List Int32} (hl : l.length ≤ 96) (hn : n' ≤ 1114112) (hi : i' ≤ l.length) (w : WI l T h0 n' i' d b o) : d ≤ 1114112 * 97 + 96 ∧ b < 100000 := by
  obtain ⟨n, i, f, h1, h2, h3, h4, h5, h6, h7, h8⟩ := w
  have a1 := hN_le l n' i' l.length
  have a2 := cN_le l n' i'
  have : (n' - n) * (hN l n' i' l.length + 1) ≤ 1114112 * 97 := Nat.mul_le_mul (by omega) (by omega)
  exact ⟨by omega, h7⟩
theorem lsN_here {l : List Int32} {n i n' k : Nat} (hk : k < l.length) (hv : vN l k = n') (h4 : ∀ p, p < l.length → Gt l n i p = Gt l n' k p) : lsN l (Gt l n i) = some k := by
  have hok := lsN_ok l (Gt l n i)
  have hG : Gt l n' k k = true := by rw [Gt_iff]; omega
  cases hls : lsN l (Gt l n i) with
  | none =>
    rw [hls] at hok
    have := hok k (Nat.zero_le _) hk
    rw [h4 k hk, hG] at this; cases this
  | some q =>
    rw [hls] at hok
    obtain ⟨q1, -, q2, q3⟩ := hok
    have r := q3 k (Nat.zero_le _) hk (by rw [h4 k hk]; exact hG)
    rw [h4 q q1, Gt_iff] at q2
    unfold lexle at r
    congr 1
    omega
theorem WI_emit {l T : List Int32} {h0 n' k d b : Nat} {o : List Int32} (hc : okC l) (hl : l.length ≤ 96) (hk : k < l.length) (hv : vN l k = n') (hh0 : h0 ≤ hN l n' k l.length) (w : WI l T h0 n' k d b o) :
    d < 260000000 ∧ WI l T h0 n' (k + 1) 0 (adF d (hN l n' k l.length + 1) (decide (hN l n' k l.length = h0))) (o ++ numS b d) ∧ hN l n' (k + 1) l.length = hN l n' k l.length + 1 ∧ o.length + (numS b d).length ≤ T.length := by
  obtain ⟨n, i, f, h1, h2, h3, h4, h5, h6, h7, h8⟩ := w
  have hG : Gt l n i k = true := by rw [h4 k hk, Gt_iff]; omega
  have hls := lsN_here hk hv h4
  have hhh : hN l n i l.length = hN l n' k l.length := hN_congr _ h4
  have hok := lsN_ok l (Gt l n i)
  rw [hls] at hok
  have hmin : ∀ p, p < l.length → Gt l n i p = true → lexle l k p := fun p hp => hok.2.2.2 p (Nat.zero_le _) hp
  obtain ⟨d1, d2, d3⟩ := delta_ok hc hl h2 h3 hk hG
  rw [hv, hhh] at d1 d2
  rw [hv] at d3
  have hd : (n' - n) * (hN l n' k l.length + 1) + cN l n' k - cN l n i = d := by omega
  have hnx := left_dec hk hG hmin
  rw [hv, hhh] at hnx
  have hlt := hN_lt hG l.length hk
  rw [hhh] at hlt
  obtain ⟨f, rfl⟩ : ∃ f', f = f' + 1 := ⟨f - 1, by omega⟩
  have e : encS l (f + 1) n i b (decide (hN l n' k l.length = h0)) = numS b d ++ encS l f n' (k + 1) (adF d (hN l n' k l.length + 1) (decide (hN l n' k l.length = h0))) false := by
    conv => lhs; rw [encS]
    rw [hls]
    simp only [hv, hhh, hd]
  rw [e] at h8
  have hv2 := (okC_get hc hk).2
  refine ⟨by omega, ?_, hnx, ?_⟩
  · refine ⟨n', k + 1, f, Nat.le_refl _, by omega, by omega, fun p hp => rfl, by simp, by omega, ?_, ?_⟩
    · have := adF_le (decide (hN l n' k l.length = h0)) (d := d) (many := hN l n' k l.length + 1) (by omega) (by omega)
      omega
    · rw [hnx]
      have : decide (hN l n' k l.length + 1 = h0) = false := by rw [decide_eq_false_iff_not]; omega
      rw [this, List.append_assoc]; exact h8
  · have := congrArg List.length h8
    simp only [List.length_append] at this
    omega
theorem WI_done {l T : List Int32} {h0 n' d b : Nat} {o : List Int32} (hh : l.length ≤ hN l n' 0 l.length) (w : WI l T h0 n' 0 d b o) : o = T := by
  obtain ⟨n, i, f, h1, h2, h3, h4, h5, h6, h7, h8⟩ := w
  have hok := lsN_ok l (Gt l n i)
  cases hls : lsN l (Gt l n i) with
  | none =>
    cases f with
    | zero => omega
    | succ f =>
      have : encS l (f + 1) n i b (decide (hN l n' 0 l.length = h0)) = [] := by
        conv => lhs; rw [encS]
        rw [hls]
      rw [this, List.append_nil] at h8
      exact h8
  | some q =>
    rw [hls] at hok
    have a1 := hN_lt hok.2.2.1 l.length hok.1
    rw [hN_congr _ h4] at a1
    omega
