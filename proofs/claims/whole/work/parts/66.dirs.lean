/-! ===== directions, both sides ===== -/
theorem fd64 (c : Int32) : (fdir (drN c) = 64) ↔ drN c = 6 := by
  rcases dr_cases c with h | h | h | h | h | h | h | h | h <;> rw [h] <;> decide
theorem codes_direct {N : Nat} {f : Nat → Int32} {x : List Int32} (h : Rp f x) (hN : x.length ≤ N) (hN2 : N < 90000) : P_Checker_isDirectionRight N (nI x.length) f = some (b2 (dirB x)) := by
  unfold P_Checker_isDirectionRight
  rw [show (0 : Int32) = nI 0 from rfl, row_get h hN (by omega) (by omega), Option.bind_some, codes_dir, Option.bind_some]
  generalize hd : drN (x.getD 0 (-1)) = d
  refine fl3_p (P_Checker_isDirectionRight_16 N (nI x.length) f (fdir d)) (fun m v2 v3 v4 => ∃ j, m = x.length - j ∧ j ≤ x.length ∧ v4 = nI j ∧ v3 = fdir (endD d (x.take j)) ∧ decide (v2 &&& 14 = 0) = !dirA p123 (x.take j) ∧ decide (v2 &&& 1 = 0) = !dirA (pD 9) (x.take j) ∧ decide (v2 &&& 16 = 0) = !dirA (pD 4) (x.take j) ∧ decide (v2 &&& 8 = 0) = !dirA (pD 3) (x.take j)) (fun r => r = some (b2 (dirB x))) ?_ fu x.length (nI 0) (fdir d) (nI 0) (by unfold fu; omega) ⟨0, rfl, by omega, rfl, rfl, rfl, rfl, rfl, rfl⟩
  rintro m K v2 v3 v4 ⟨j, hm, hj, rfl, rfl, m1, m2, m3, m4⟩ ih
  unfold P_Checker_isDirectionRight_16 P_Row_size
  rw [Option.bind_some]
  by_cases hjl : x.length ≤ j
  · have ej : j = x.length := by omega
    subst ej
    rw [List.take_length] at *
    have hA : nI x.length ≤ nI x.length := nI_le (Nat.le_refl _) (by omega)
    rw [if_pos hA]
    exact codes_dirfin hd.symm rfl rfl rfl m1 m2 m3 m4
  · have hjl2 : j < x.length := by omega
    have hA : ¬ nI x.length ≤ nI j := nI_ge (by omega) (by omega)
    rw [if_neg hA, row_get h hN (by omega) (by omega), Option.bind_some, codes_dir, Option.bind_some, nI_1]
    generalize hc : x.getD j (-1) = c
    have et : x.take (j + 1) = x.take j ++ [c] := by rw [take_snoc hjl2, ← hc, getD_get hjl2]
    have k1 := mask_step m1 (fd14 c)
    have k2 := mask_step m2 (fd1 c)
    have k3 := mask_step m3 (fd16 c)
    have k4 := mask_step m4 (fd8 c)
    rw [← dirA_snoc, ← et] at k1 k2 k3 k4
    have ee := endD_snoc d (x.take j) c
    rw [← et] at ee
    by_cases h6 : drN c = 6
    · rw [if_pos ((fd64 c).2 h6)]
      rw [if_pos h6] at ee
      exact ih (x.length - (j + 1)) _ _ _ (by omega) ⟨j + 1, rfl, by omega, rfl, by rw [ee], k1, k2, k3, k4⟩
    · have hB : ¬ fdir (drN c) = 64 := fun z => h6 ((fd64 c).1 z)
      rw [if_neg hB]
      rw [if_neg h6] at ee
      exact ih (x.length - (j + 1)) _ _ _ (by omega) ⟨j + 1, rfl, by omega, rfl, by rw [ee], k1, k2, k3, k4⟩
/-! the reference -/
theorem mod_dirfin {v3 : Int32} {d e : Nat} {x : List Int32} (hd : d = drN (x.getD 0 (-1))) (he : e = endD d x) (m14 : decide (v3 &&& 14 = 0) = !dirA p123 x) (m1 : decide (v3 &&& 512 = 0) = !dirA (pD 9) x) (m16 : decide (v3 &&& 16 = 0) = !dirA (pD 4) x) (m8 : decide (v3 &&& 8 = 0) = !dirA (pD 3) x) :
    (if nI d = (9 : Int32) then (if (v3 &&& (14 : Int32)) = 0 then (if nI e = (9 : Int32) then (some ((1 : Int32))) else (if nI e = (4 : Int32) then (some ((1 : Int32))) else (some ((0 : Int32))))) else (some ((0 : Int32)))) else (if ((v3 >>> ((3 : Int32) &&& 31)) &&& (1 : Int32)) = (1 : Int32) then (if ((v3 >>> ((4 : Int32) &&& 31)) &&& (1 : Int32)) = (1 : Int32) then (P_Mod_directed_149 v3 (nI e) (nI d) (1 : Int32)) else (P_Mod_directed_149 v3 (nI e) (nI d) (0 : Int32))) else (P_Mod_directed_149 v3 (nI e) (nI d) (0 : Int32)))) = some (b2 (dirB x)) := by
  have hdr := drN_rng (x.getD 0 (-1))
  have her := endD_rng d (by rw [hd]; exact hdr) x
  rw [← he] at her
  rw [← hd] at hdr
  have hv14 := ofdec m14
  have hv1 := ofdec m1
  have hv16 := ofdec m16
  have hv8 := ofdec m8
  unfold P_Mod_directed_149 P_Mod_directed_163
  simp only [shr3, shr4, shr9, hv14, hv1, hv16, hv8]
  unfold dirB
  rw [← hd, ← he]
  clear hv14 hv1 hv16 hv8 m14 m1 m16 m8
  generalize dirA p123 x = A
  generalize dirA (pD 9) x = B
  generalize dirA (pD 4) x = C
  generalize dirA (pD 3) x = D
  have hd9 : d = 1 ∨ d = 2 ∨ d = 3 ∨ d = 4 ∨ d = 5 ∨ d = 6 ∨ d = 7 ∨ d = 8 ∨ d = 9 := by omega
  have he9 : e = 1 ∨ e = 2 ∨ e = 3 ∨ e = 4 ∨ e = 5 ∨ e = 6 ∨ e = 7 ∨ e = 8 ∨ e = 9 := by omega
  clear hd he hdr her
  rcases hd9 with rfl | rfl | rfl | rfl | rfl | rfl | rfl | rfl | rfl <;> rcases he9 with rfl | rfl | rfl | rfl | rfl | rfl | rfl | rfl | rfl <;> revert A B C D <;> decide
theorem dr6 (c : Int32) : (nI (drN c) = 6) ↔ drN c = 6 := by
  rcases dr_cases c with h | h | h | h | h | h | h | h | h <;> rw [h] <;> decide
theorem mod_direct {ls : List (List Int32)} {st sz pool : Nat → Int32} {ps k : Nat} (h : MR ls st sz pool ps) (hps : ps ≤ 300) (hk : k < ls.length) (hls : ls.length ≤ 50) (hpos : 0 < (ls.getD k []).length) (hlen : (ls.getD k []).length ≤ 96) : P_Mod_directed st sz pool (nI k) = some (b2 (dirB (ls.getD k []))) := by
  unfold P_Mod_directed
  have hcode := fun i (hi : i < (ls.getD k []).length) => mod_code h hps hk hls hi
  obtain ⟨s, a1, a2, a3, a4⟩ := h k hk
  rw [gi_ok (by omega) (by omega), nI_clamp (by omega), a2]
  clear a1 a2 a3 a4 h
  generalize ls.getD k [] = x at *
  refine fl2_p (P_Mod_directed_12 st pool (nI k) (nI x.length)) (fun m v3 v4 => ∃ j, m = x.length - j ∧ j ≤ x.length ∧ v4 = nI j ∧ decide (v3 &&& 14 = 0) = !dirA p123 (x.take j) ∧ decide (v3 &&& 512 = 0) = !dirA (pD 9) (x.take j) ∧ decide (v3 &&& 16 = 0) = !dirA (pD 4) (x.take j) ∧ decide (v3 &&& 8 = 0) = !dirA (pD 3) (x.take j)) (fun r => r = some (b2 (dirB x))) ?_ fu x.length (0 : Int32) (0 : Int32) (by unfold fu; omega) ⟨0, rfl, by omega, rfl, rfl, rfl, rfl, rfl⟩
  rintro m K v3 v4 ⟨j, hm, hj, rfl, m1, m2, m3, m4⟩ ih
  unfold P_Mod_directed_12
  by_cases hjl : x.length ≤ j
  · have ej : j = x.length := by omega
    subst ej
    rw [List.take_length] at *
    have hA : nI x.length ≤ nI x.length := nI_le (Nat.le_refl _) (by omega)
    rw [if_pos hA]
    generalize hd : drN (x.getD 0 (-1)) = d
    have e0 : nI x.length - 1 = nI (x.length - 1) := by
      obtain ⟨q, hq⟩ : ∃ q, x.length = q + 1 := ⟨x.length - 1, by omega⟩
      rw [hq]; exact nI_pred q
    rw [e0]
    have c0 := hcode 0 hpos
    rw [show nI 0 = (0 : Int32) from rfl] at c0
    have fin : ∀ q, q < x.length → drN (x.getD q (-1)) = endD d x → P_Mod_directed_70 st pool (nI k) v3 (nI q) = some (b2 (dirB x)) := by
      intro q hq hend
      unfold P_Mod_directed_70
      rw [hcode q hq, Option.bind_some, mod_dir, Option.bind_some, c0, Option.bind_some, mod_dir, Option.bind_some, hd, hend]
      exact mod_dirfin hd.symm rfl m1 m2 m3 m4
    refine fl1_p (P_Mod_directed_44 st pool (nI k) v3) (fun m v => ∃ q, m = q ∧ q < x.length ∧ v = nI q ∧ endD d x = endD d (x.take (q + 1))) (fun r => r = some (b2 (dirB x))) ?_ fu (x.length - 1) (nI (x.length - 1)) (by unfold fu; omega) ⟨x.length - 1, rfl, by omega, rfl, by rw [show x.length - 1 + 1 = x.length by omega, List.take_length]⟩
    rintro m K v ⟨q, rfl, hq, rfl, hend⟩ ih2
    unfold P_Mod_directed_44
    have et : x.take (m + 1) = x.take m ++ [x.getD m (-1)] := by rw [take_snoc hq, getD_get hq]
    rw [et, endD_snoc] at hend
    by_cases hq0 : m = 0
    · subst hq0
      have hB : nI 0 ≤ 0 := by decide
      rw [if_pos hB]
      refine fin 0 hq ?_
      rw [hend]
      by_cases h6 : drN (x.getD 0 (-1)) = 6
      · rw [if_pos h6, hd]; rfl
      · rw [if_neg h6]
    · have hB : ¬ nI m ≤ 0 := nI_ge (a := 0) (by omega) (by omega)
      rw [if_neg hB, hcode m hq, Option.bind_some, mod_dir, Option.bind_some]
      by_cases h6 : drN (x.getD m (-1)) = 6
      · rw [if_pos ((dr6 _).2 h6)]
        rw [if_pos h6] at hend
        have e1 : nI m + (-1) = nI (m - 1) := by
          obtain ⟨q, hq⟩ : ∃ q, m = q + 1 := ⟨m - 1, by omega⟩
          rw [hq, ← Int32.sub_eq_add_neg]; exact nI_pred q
        rw [e1]
        exact ih2 (m - 1) _ (by omega) ⟨m - 1, rfl, by omega, rfl, by rw [show m - 1 + 1 = m by omega]; exact hend⟩
      · have hC : ¬ nI (drN (x.getD m (-1))) = 6 := fun z => h6 ((dr6 _).1 z)
        rw [if_neg hC]
        rw [if_neg h6] at hend
        exact fin m hq hend.symm
  · have hjl2 : j < x.length := by omega
    have hA : ¬ nI x.length ≤ nI j := nI_ge (by omega) (by omega)
    rw [if_neg hA, hcode j hjl2, Option.bind_some, mod_dir, Option.bind_some, nI_1]
    generalize hc : x.getD j (-1) = c
    have et : x.take (j + 1) = x.take j ++ [c] := by rw [take_snoc hjl2, ← hc, getD_get hjl2]
    have k1 := mask_step m1 (sh14 c)
    have k2 := mask_step m2 (sh512 c)
    have k3 := mask_step m3 (sh16 c)
    have k4 := mask_step m4 (sh8 c)
    rw [← dirA_snoc, ← et] at k1 k2 k3 k4
    exact ih (x.length - (j + 1)) _ _ (by omega) ⟨j + 1, rfl, by omega, rfl, k1, k2, k3, k4⟩
/-! whether anything runs from right to left -/
theorem codes_rtl {N : Nat} {f : Nat → Int32} {x : List Int32} (h : Rp f x) (hN : x.length ≤ N) (hN2 : N < 90000) : P_Codes_hasRightToLeft N (nI x.length) f = some (b2 (dirA p123 x)) := by
  unfold P_Codes_hasRightToLeft
  refine fl1_p (P_Codes_hasRightToLeft_2 N (nI x.length) f) (fun m v => ∃ j, m = x.length - j ∧ j ≤ x.length ∧ v = nI j ∧ dirA p123 x = dirA p123 (x.drop j)) (fun r => r = some (b2 (dirA p123 x))) ?_ fu x.length (0 : Int32) (by unfold fu; omega) ⟨0, rfl, by omega, rfl, by simp⟩
  rintro m K v ⟨j, hm, hj, rfl, he⟩ ih
  unfold P_Codes_hasRightToLeft_2 P_Row_size
  rw [Option.bind_some]
  by_cases hjl : x.length ≤ j
  · have ej : j = x.length := by omega
    subst ej
    rw [if_pos (nI_le (Nat.le_refl _) (by omega)), he, List.drop_length]; rfl
  · have hjl2 : j < x.length := by omega
    rw [if_neg (nI_ge (by omega) (by omega)), row_get h hN (by omega) (by omega), Option.bind_some, codes_dir, Option.bind_some, nI_1]
    rw [drop_get_cons hjl2] at he
    have he2 : dirA p123 x = (p123 (drN (x.getD j (-1))) || dirA p123 (x.drop (j + 1))) := he
    have hm := ofdec (fd14 (x.getD j (-1)))
    cases hp : p123 (drN (x.getD j (-1))) with
    | false =>
      rw [hp] at hm he2
      rw [if_pos (hm.2 rfl)]
      exact ih (x.length - (j + 1)) _ (by omega) ⟨j + 1, rfl, by omega, rfl, by rw [he2]; simp⟩
    | true =>
      rw [hp] at hm he2
      have hA : ¬ fdir (drN (x.getD j (-1))) &&& 14 = 0 := fun z => by have := hm.1 z; simp at this
      rw [if_neg hA, he2]; rfl
theorem dr3 (c : Int32) : (3 < nI (drN c)) ↔ p123 (drN c) = false := by
  rcases dr_cases c with h | h | h | h | h | h | h | h | h <;> rw [h] <;> decide
theorem mod_rtl {ls : List (List Int32)} {st sz pool : Nat → Int32} {ps : Nat} (h : MR ls st sz pool ps) (hps : ps ≤ 300) (hls : ls.length ≤ 50) (hlen : ∀ k, (ls.getD k []).length ≤ 96) : P_Mod_anyRight (nI ls.length) st sz pool = some (b2 (dirA p123 ls.flatten)) := by
  unfold P_Mod_anyRight
  refine fl2_p (P_Mod_anyRight_4 (nI ls.length) st sz pool) (fun m v1 v2 => ∃ k, m = ls.length - k ∧ k ≤ ls.length ∧ v2 = nI k ∧ v1 = b2 (dirA p123 (ls.take k).flatten)) (fun r => r = some (b2 (dirA p123 ls.flatten))) ?_ fu ls.length (0 : Int32) (0 : Int32) (by unfold fu; omega) ⟨0, rfl, by omega, rfl, rfl⟩
  rintro m K v1 v2 ⟨k, hm, hk, rfl, rfl⟩ ih
  unfold P_Mod_anyRight_4
  by_cases hkl : ls.length ≤ k
  · have ek : k = ls.length := by omega
    subst ek
    rw [List.take_length] at *
    rw [if_pos (nI_le (Nat.le_refl _) (by omega))]
    unfold gb
    cases dirA p123 ls.flatten <;> rfl
  · have hkl2 : k < ls.length := by omega
    rw [if_neg (nI_ge (by omega) (by omega))]
    have hcode := fun i (hi : i < (ls.getD k []).length) => mod_code h hps hkl2 hls hi
    obtain ⟨s, a1, a2, a3, a4⟩ := h k hkl2
    have hl96 := hlen k
    have efl : (ls.take (k + 1)).flatten = (ls.take k).flatten ++ ls.getD k [] := by
      rw [List.take_succ_eq_append_getElem hkl2, getD_getL hkl2, List.flatten_append]; simp
    generalize hx : ls.getD k [] = x at *
    refine fl2_p (P_Mod_anyRight_14 st sz pool K (nI k)) (fun m v1 v3 => ∃ j, m = x.length - j ∧ j ≤ x.length ∧ v3 = nI j ∧ v1 = b2 (dirA p123 ((ls.take k).flatten ++ x.take j))) (fun r => r = some (b2 (dirA p123 ls.flatten))) ?_ fu x.length (b2 (dirA p123 (ls.take k).flatten)) (0 : Int32) (by unfold fu; omega) ⟨0, rfl, by omega, rfl, by simp⟩
    rintro m2 K2 w1 w3 ⟨j, hm2, hj, rfl, rfl⟩ ih2
    unfold P_Mod_anyRight_14
    rw [gi_ok (by omega) (by omega), nI_clamp (by omega), a2]
    by_cases hjl : x.length ≤ j
    · have ej : j = x.length := by omega
      subst ej
      rw [if_pos (nI_le (Nat.le_refl _) (by omega)), List.take_length, nI_1]
      exact ih (ls.length - (k + 1)) _ _ (by omega) ⟨k + 1, rfl, by omega, rfl, by rw [efl]⟩
    · have hjl2 : j < x.length := by omega
      rw [if_neg (nI_ge (by omega) (by omega)), nI_1]
      have et : (ls.take k).flatten ++ x.take (j + 1) = ((ls.take k).flatten ++ x.take j) ++ [x.getD j (-1)] := by rw [take_snoc hjl2, getD_get hjl2, List.append_assoc]
      have go : ∀ v, v = b2 (dirA p123 ((ls.take k).flatten ++ x.take (j + 1))) → K2 v (nI (j + 1)) = some (b2 (dirA p123 ls.flatten)) := by
        rintro v rfl
        exact ih2 (x.length - (j + 1)) _ _ (by omega) ⟨j + 1, rfl, by omega, rfl, rfl⟩
      cases hb : dirA p123 ((ls.take k).flatten ++ x.take j) with
      | true =>
        have hA : ¬ b2 true = 0 := by decide
        rw [if_neg hA]
        exact go 1 (by rw [et, dirA_snoc, hb]; rfl)
      | false =>
        rw [if_pos (show b2 false = 0 from rfl), hcode j hjl2, Option.bind_some, mod_dir, Option.bind_some]
        have h3 := dr3 (x.getD j (-1))
        cases hp : p123 (drN (x.getD j (-1))) with
        | false =>
          rw [if_pos (h3.2 hp)]
          exact go 0 (by rw [et, dirA_snoc, hb, hp]; rfl)
        | true =>
          have hA : ¬ 3 < nI (drN (x.getD j (-1))) := fun z => by have := h3.1 z; rw [hp] at this; cases this
          rw [if_neg hA]
          exact go 1 (by rw [et, dirA_snoc, hb, hp]; rfl)
