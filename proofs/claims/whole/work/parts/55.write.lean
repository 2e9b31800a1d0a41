/-! ===== packing: both sides whole ===== -/
theorem basS_nil : basS [] = [] := rfl
theorem basS_snoc (l : List Int32) (c : Int32) : basS (l ++ [c]) = basS l ++ (if c < 128 then [c] else []) := by
  unfold basS
  rw [List.filter_append]
  by_cases h : c < 128
  · simp [h]
  · simp [h]
theorem basS_take {l : List Int32} {j : Nat} (h : j < l.length) : basS (l.take (j + 1)) = basS (l.take j) ++ (if l.getD j (-1) < 128 then [l.getD j (-1)] else []) := by
  rw [take_snoc h, basS_snoc, getD_get h]
theorem basS_len_le (l : List Int32) : (basS l).length ≤ l.length := List.length_filter_le _ _
theorem basS_take_len (l : List Int32) (j : Nat) : (basS (l.take j)).length ≤ (basS l).length := by
  unfold basS
  have : l.filter (fun x => decide (x < 128)) = (l.take j).filter (fun x => decide (x < 128)) ++ (l.drop j).filter (fun x => decide (x < 128)) := by
    rw [← List.filter_append, List.take_append_drop]
  rw [this]; simp
theorem lt128_v {l : List Int32} (hc : okC l) {p : Nat} (hp : p < l.length) : (l.getD p (-1) < 128) ↔ vN l p < 128 := by
  obtain ⟨v1, v2⟩ := okC_get hc hp
  have e : (128 : Int32) = nI 128 := rfl
  rw [v1, e]
  constructor
  · intro h
    exact Nat.lt_of_not_le (fun z => nI_nlt z (by omega) h)
  · intro h; exact nI_lt h (by omega)
theorem Gt_128 {l : List Int32} {p : Nat} : Gt l 128 0 p = true ↔ ¬ vN l p < 128 := by rw [Gt_iff]; omega
theorem hN_128 {l : List Int32} (hc : okC l) : ∀ m, m ≤ l.length → hN l 128 0 m = (basS (l.take m)).length
  | 0, _ => rfl
  | m + 1, h => by
    have ih := hN_128 hc m (by omega)
    rw [basS_take (by omega)]
    simp only [hN, ih]
    have e := lt128_v hc (p := m) (by omega)
    have e2 := Gt_128 (l := l) (p := m)
    by_cases hv : vN l m < 128
    · rw [if_neg (by rw [e2]; omega), if_pos (e.2 hv)]; simp
    · rw [if_pos (by rw [e2]; omega), if_neg (by rw [e]; omega)]; simp
theorem hN_128L {l : List Int32} (hc : okC l) : hN l 128 0 l.length = (basS l).length := by
  rw [hN_128 hc _ (Nat.le_refl _), List.take_length]
theorem mod_pack {l : List Int32} {row : Nat → Int32} (h : Rp row l) (hc : okC l) (hl : l.length ≤ 96) {o : List Int32} {g pl : Nat → Int32} (hg : Rp g o) (ho : o.length + (packS l).length ≤ 2000) :
    ∃ b' g' pl', P_Mod_packRow (nI o.length) (nI l.length) g row pl = some (nI (o ++ packS l).length, b', g', pl') ∧ Rp g' (o ++ packS l) := by
  unfold P_Mod_packRow
  refine fl5_p (P_Mod_packRow_4 (nI l.length) row) (fun m v1 v2 sz gg pp => ∃ j, m = l.length - j ∧ j ≤ l.length ∧ v1 = nI (basS (l.take j)).length ∧ v2 = nI j ∧ sz = nI (o ++ basS (l.take j)).length ∧ Rp gg (o ++ basS (l.take j)) ∧ ∀ p, p < j → pp p = b2 (!Gt l 128 0 p)) (fun r => ∃ b' g' pl', r = some (nI (o ++ packS l).length, b', g', pl') ∧ Rp g' (o ++ packS l)) ?_ fu l.length (0 : Int32) (0 : Int32) (nI o.length) g pl (by unfold fu; omega) ⟨0, rfl, by omega, rfl, rfl, by simp [basS_nil], by simpa [basS_nil] using hg, fun p hp => absurd hp (Nat.not_lt_zero _)⟩
  rintro m K v1 v2 sz gg pp ⟨j, hm, hj, rfl, rfl, rfl, hgg, hpp⟩ ih
  unfold P_Mod_packRow_4
  have hbl := basS_take_len l j
  have hbl2 := basS_len_le l
  by_cases hjl : l.length ≤ j
  · have ej : j = l.length := by omega
    subst ej
    rw [List.take_length] at *
    rw [if_pos (nI_le (Nat.le_refl _) (by omega))]
    have fin : ∀ (o2 : List Int32) (g2 : Nat → Int32), Rp g2 o2 → o2 = o ++ basS l ++ (if basS l = [] then [] else [45]) → ∃ b' g' pl', P_Mod_packRow_73 (nI l.length) row (nI (basS l).length) (nI o2.length) g2 pp = some (nI (o ++ packS l).length, b', g', pl') ∧ Rp g' (o ++ packS l) := by
      intro o2 g2 hg2 ho2
      unfold P_Mod_packRow_73
      rw [mod_least h hc hl hpp, Option.bind_some]
      have e : o ++ packS l = o2 ++ encS l (l.length + 1) 128 0 72 true := by
        rw [ho2]; unfold packS; simp only [List.append_assoc]
      have := mod_enc h hc hl (l.length + 1) 128 0 72 true o2 g2 pp fu (by omega) (by unfold fu; omega) (by omega) (by omega) (by omega) hpp hg2 (by have := congrArg List.length e; simp only [List.length_append] at this; omega)
      rw [← e, hN_128L hc] at this
      exact this
    by_cases hb : basS l = []
    · rw [hb]
      rw [if_pos (by decide)]
      have := fin o gg (by simpa [hb] using hgg) (by simp [hb])
      simpa [hb] using this
    · have hpos : 0 < (basS l).length := List.length_pos_iff.2 hb
      have hA : ¬ nI (basS l).length ≤ 0 := nI_ge (a := 0) (by omega) (by omega)
      have hpk : (packS l).length ≥ (basS l).length + 1 := by unfold packS; rw [if_neg hb]; simp
      rw [if_neg hA, mod_out (by simp; omega), Option.bind_some]
      have := fin (o ++ basS l ++ [45]) _ (hgg.add 45) (by rw [if_neg hb])
      rw [List.length_append (bs := [45])] at this
      exact this
  · have hjl2 : j < l.length := by omega
    have e := lt128_v hc hjl2
    have e2 := Gt_128 (l := l) (p := j)
    have hbt := basS_take hjl2
    have hbl3 := basS_take_len l (j + 1)
    rw [if_neg (nI_ge (by omega) (by omega)), gi_ok (by omega) (by omega), nI_clamp (by omega), h.get hjl2 (-1)]
    unfold P_Mod_packRow_34
    have hpk : (packS l).length ≥ (basS l).length := by unfold packS; simp
    by_cases hv : vN l j < 128
    · have hx := e.2 hv
      have hA : ¬ (128 : Int32) ≤ l.getD j (-1) := lt_128.1 hx
      rw [if_pos hx] at hbt
      have hbt' := congrArg List.length hbt
      simp only [List.length_append, List.length_singleton] at hbt'
      rw [if_neg hA, gi_ok (by omega) (by omega), gi_ok (by omega) (by omega), nI_clamp (by omega), nar1, upd_s, if_neg (by decide), gi_ok (by omega) (by omega), mod_out (by simp; omega), Option.bind_some, nI_1, nI_1, h.get hjl2 (-1)]
      refine ih (l.length - (j + 1)) _ _ _ _ _ (by omega) ⟨j + 1, rfl, by omega, by rw [hbt'], rfl, by rw [hbt]; simp [Nat.add_assoc], ?_, ?_⟩
      · rw [hbt, ← List.append_assoc]; exact hgg.add _
      · intro p hp
        by_cases hpj : p = j
        · subst hpj
          rw [upd_s]
          have : Gt l 128 0 p = false := by rw [Bool.eq_false_iff]; intro z; exact (e2.1 z) hv
          rw [this]; rfl
        · rw [upd_n _ _ hpj]; exact hpp p (by omega)
    · have hx : ¬ l.getD j (-1) < 128 := fun z => hv (e.1 z)
      have hA : (128 : Int32) ≤ l.getD j (-1) := by
        by_cases z : (128 : Int32) ≤ l.getD j (-1)
        · exact z
        · exact absurd (lt_128.2 z) hx
      rw [if_neg hx, List.append_nil] at hbt
      rw [if_pos hA, gi_ok (by omega) (by omega), gi_ok (by omega) (by omega), nI_clamp (by omega), nar0, upd_s, if_pos rfl, nI_1]
      refine ih (l.length - (j + 1)) _ _ _ _ _ (by omega) ⟨j + 1, rfl, by omega, by rw [hbt], rfl, by rw [hbt], by rw [hbt]; exact hgg, ?_⟩
      intro p hp
      by_cases hpj : p = j
      · subst hpj
        rw [upd_s, e2.2 hv]; rfl
      · rw [upd_n _ _ hpj]; exact hpp p (by omega)
