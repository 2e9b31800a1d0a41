/-! ===== writing the result: the reference ===== -/
def whF (ascii : Bool) (S : List Lab) (k : Nat) : Nat := if (wrS ascii (labK S k).1).length = 0 ∧ k = S.length - 1 ∧ 0 < k then (sepP (outP ascii S k) k).length - 1 else (outP ascii S (k + 1)).length
def headM (ascii : Bool) (S : List Lab) (k : Nat) : List Int32 := if k < S.length then sepP (outP ascii S k) k else outP ascii S k
theorem nI_predN {n : Nat} (h : 0 < n) : nI n - 1 = nI (n - 1) := by
  obtain ⟨q, rfl⟩ : ∃ q, n = q + 1 := ⟨n - 1, by omega⟩
  exact nI_pred q
theorem mod_give {S : List Lab} {st sz pool row rules g placed : Nat → Int32} {ps : Nat} (h : MR (S.map fun y => y.1) st sz pool ps) (hps : ps ≤ 300) (hok : LabOK S) (hpos : 0 < S.length) {R : List Int32} (hR : R.length = S.length) (hr : Rp rules R) (a : Int32) (ascii : Bool) (hout : (outP ascii S S.length).length ≤ 512) (rs wh b : Int32) :
    ∃ rs' b' g' row' rules' placed', P_Mod_give rs (nI S.length) wh b g row st sz rules pool placed a (b2 ascii) = some (nI (outP ascii S S.length).length, rs', nI (whF ascii S (S.length - 1)), b', g', row', rules', placed') ∧ Rp g' (outP ascii S S.length) ∧ RW (ascii && onB a 32) ascii S R S.length rules' := by
  obtain ⟨hS, hc, hall⟩ := hok
  unfold P_Mod_give
  refine fl9_p (P_Mod_give_7 (nI S.length) st sz pool a (b2 ascii)) (fun m v3 size rs wh b g row rules placed => ∃ k, m = S.length - k ∧ k ≤ S.length ∧ v3 = nI k ∧ size = nI (headM ascii S k).length ∧ Rp g (headM ascii S k) ∧ (0 < k → wh = nI (whF ascii S (k - 1))) ∧ RW (ascii && onB a 32) ascii S R k rules) (fun r => ∃ rs' b' g' row' rules' placed', r = some (nI (outP ascii S S.length).length, rs', nI (whF ascii S (S.length - 1)), b', g', row', rules', placed') ∧ Rp g' (outP ascii S S.length) ∧ RW (ascii && onB a 32) ascii S R S.length rules') ?_ fu S.length (0 : Int32) (0 : Int32) rs wh b g row rules placed (by unfold fu; omega) ⟨0, rfl, by omega, rfl, by unfold headM sepP; rw [if_pos hpos, if_pos rfl]; rfl, by unfold headM sepP; rw [if_pos hpos, if_pos rfl]; exact Rp.nil, fun z => by omega, fun q hq => by rw [if_neg (by omega)]; exact hr.get (by omega) (-1)⟩
  rintro m K v3 size rs wh b g row rules placed ⟨k, hm, hk, rfl, rfl, hg, hwh, hRW⟩ ih
  unfold P_Mod_give_7
  by_cases hkl : S.length ≤ k
  · have ek : k = S.length := by omega
    subst ek
    have eh : headM ascii S S.length = outP ascii S S.length := by unfold headM; rw [if_neg (by omega)]
    rw [eh] at hg ⊢
    rw [if_pos (nI_le (Nat.le_refl _) (by omega)), hwh hpos]
    exact ⟨_, _, _, _, _, _, rfl, hg, hRW⟩
  have hkl2 : k < S.length := by omega
  have hmem := hall _ (labK_mem hkl2)
  have hage := apart_ge (labK S k).1
  have hkm : k < (S.map fun y => y.1).length := by simpa using hkl2
  have hgx := map_getL hkl2
  have eh : headM ascii S k = sepP (outP ascii S k) k := by unfold headM; rw [if_pos hkl2]
  rw [eh] at hg ⊢
  have hmon := outP_mon ascii S (show k + 1 ≤ S.length by omega)
  have hsucc : outP ascii S (k + 1) = sepP (outP ascii S k) k ++ wrS ascii (labK S k).1 := rfl
  have hsl : (outP ascii S (k + 1)).length = (sepP (outP ascii S k) k).length + (wrS ascii (labK S k).1).length := by rw [hsucc, List.length_append]
  have hfr : rules k = R.getD k (-1) := by rw [hRW k hkl2, if_neg (by omega)]
  obtain ⟨r1, q1, q2⟩ := mod_fetch (row := row) h hps hkm (by simp; omega) (by rw [hgx]; omega)
  rw [hgx] at q1 q2
  -- the tail of a label
  have h140 : ∀ (rs b : Int32) (g row placed : Nat → Int32), Rp g (outP ascii S (k + 1)) → ∃ rs' b' g' row' rules' placed', P_Mod_give_140 (nI S.length) a (b2 ascii) K (nI k) (nI (sepP (outP ascii S k) k).length) (nI (outP ascii S (k + 1)).length) rs b g row rules placed = some (nI (outP ascii S S.length).length, rs', nI (whF ascii S (S.length - 1)), b', g', row', rules', placed') ∧ Rp g' (outP ascii S S.length) ∧ RW (ascii && onB a 32) ascii S R S.length rules' := by
    intro rs b g row placed hg
    have hdiff : nI (outP ascii S (k + 1)).length - nI (sepP (outP ascii S k) k).length = nI (wrS ascii (labK S k).1).length := by
      rw [pk_sub (by omega)]; congr 1; omega
    generalize hlen : (wrS ascii (labK S k).1).length = len at *
    have h260 : ∃ rs' b' g' row' rules' placed', P_Mod_give_260 (nI S.length) K (nI k) (nI (whF ascii S k)) (nI (outP ascii S (k + 1)).length) rs b g row (upd rules k (finV (ascii && onB a 32) ascii S R k)) placed = some (nI (outP ascii S S.length).length, rs', nI (whF ascii S (S.length - 1)), b', g', row', rules', placed') ∧ Rp g' (outP ascii S S.length) ∧ RW (ascii && onB a 32) ascii S R S.length rules' := by
      unfold P_Mod_give_260
      rw [nI_predN hpos, nI_1]
      by_cases hlast : S.length - 1 ≤ k
      · rw [if_pos (nI_le hlast (by omega))]
        have e2 : headM ascii S (k + 1) = outP ascii S (k + 1) := by unfold headM; rw [if_neg (by omega)]
        exact ih (S.length - (k + 1)) _ _ _ _ _ _ _ _ _ (by omega) ⟨k + 1, rfl, by omega, rfl, by rw [e2], by rw [e2]; exact hg, fun _ => rfl, RW_set hRW⟩
      · rw [if_neg (nI_ge (by omega) (by omega)), mod_out (by omega), Option.bind_some]
        have e2 : headM ascii S (k + 1) = outP ascii S (k + 1) ++ [46] := by unfold headM sepP; rw [if_pos (by omega), if_neg (by omega)]
        exact ih (S.length - (k + 1)) _ _ _ _ _ _ _ _ _ (by omega) ⟨k + 1, rfl, by omega, rfl, by rw [e2]; simp, by rw [e2]; exact hg.add 46, fun _ => rfl, RW_set hRW⟩
    have h228 : ∃ rs' b' g' row' rules' placed', P_Mod_give_228 (nI S.length) K (nI k) (nI (sepP (outP ascii S k) k).length) (nI len) (finV (ascii && onB a 32) ascii S R k) (nI k) (nI (outP ascii S (k + 1)).length) rs b g row rules placed = some (nI (outP ascii S S.length).length, rs', nI (whF ascii S (S.length - 1)), b', g', row', rules', placed') ∧ Rp g' (outP ascii S S.length) ∧ RW (ascii && onB a 32) ascii S R S.length rules' := by
      unfold P_Mod_give_228
      rw [gi_ok (by omega) (by omega), nI_clamp (by omega), nI_predN hpos]
      unfold whF at h260
      rw [hlen] at h260
      by_cases h0 : len = 0
      · rw [if_pos (by rw [h0]; rfl)]
        by_cases h1 : k = S.length - 1
        · rw [if_pos (by rw [h1])]
          by_cases h2 : k = 0
          · have hA : nI k ≤ 0 := by rw [h2]; decide
            rw [if_pos hA]
            rw [if_neg (show ¬ (len = 0 ∧ k = S.length - 1 ∧ 0 < k) by omega)] at h260
            exact h260
          · rw [if_neg (nI_le0 (by omega) (by omega))]
            rw [if_pos (show (len = 0 ∧ k = S.length - 1 ∧ 0 < k) by omega)] at h260
            have hsp : 0 < (sepP (outP ascii S k) k).length := by unfold sepP; rw [if_neg h2]; simp
            rw [nI_predN hsp]
            exact h260
        · have hB : ¬ nI k = nI (S.length - 1) := by rw [nI_iff (by omega) (by omega)]; exact h1
          rw [if_neg hB]
          rw [if_neg (show ¬ (len = 0 ∧ k = S.length - 1 ∧ 0 < k) by omega)] at h260
          exact h260
      · rw [if_neg (nI_ne0 (by omega) (by omega))]
        rw [if_neg (show ¬ (len = 0 ∧ k = S.length - 1 ∧ 0 < k) by omega)] at h260
        exact h260
    have h184 : ∃ rs' b' g' row' rules' placed', P_Mod_give_184 (nI S.length) a (b2 ascii) K (nI k) (nI (sepP (outP ascii S k) k).length) (nI len) (b2 (wrongB S.length k len)) (nI (outP ascii S (k + 1)).length) rs b g row rules placed = some (nI (outP ascii S S.length).length, rs', nI (whF ascii S (S.length - 1)), b', g', row', rules', placed') ∧ Rp g' (outP ascii S S.length) ∧ RW (ascii && onB a 32) ascii S R S.length rules' := by
      unfold P_Mod_give_184
      rw [gi_ok (by omega) (by omega), gi_ok (by omega) (by omega), nI_clamp (by omega), mod_on, Option.bind_some, hfr]
      simp only [b2_0]
      unfold finV at h228
      rw [hlen] at h228
      cases ascii with
      | false =>
        rw [if_pos rfl]
        rw [Bool.false_and, Bool.false_and, if_neg (show ¬ false = true by decide)] at h228
        exact h228
      | true =>
        have hB : ¬ true = false := by decide
        rw [if_neg hB]
        rw [Bool.true_and] at h228 ⊢
        cases hon : onB a 32 with
        | false =>
          rw [if_pos rfl]
          rw [hon, Bool.false_and, if_neg (show ¬ false = true by decide)] at h228
          exact h228
        | true =>
          rw [if_neg hB]
          rw [hon, Bool.true_and] at h228
          cases hw : wrongB S.length k len with
          | false =>
            rw [if_pos rfl]
            rw [hw, if_neg (show ¬ false = true by decide)] at h228
            exact h228
          | true =>
            rw [if_neg hB]
            rw [hw, if_pos rfl] at h228
            exact h228
    unfold P_Mod_give_140
    rw [hdiff, nI_predN hpos]
    unfold wrongB at h184
    by_cases h20 : 20 < len
    · have hA : (20 : Int32) < nI len := nI_lt (a := 20) h20 (by omega)
      rw [if_pos hA]
      rw [decide_eq_true h20, Bool.true_or] at h184
      exact h184
    · have hA : ¬ (20 : Int32) < nI len := nI_nlt (a := 20) (by omega) (by omega)
      rw [if_neg hA]
      rw [decide_eq_false h20, Bool.false_or] at h184
      by_cases h0 : len = 0
      · rw [if_pos (by rw [h0]; rfl)]
        rw [decide_eq_true h0, Bool.true_and] at h184
        by_cases h1 : k < S.length - 1
        · rw [if_pos (nI_lt h1 (by omega))]
          rw [decide_eq_false (show ¬ k = S.length - 1 by omega), Bool.and_false] at h184
          exact h184
        · rw [if_neg (nI_nlt (by omega) (by omega))]
          rw [decide_eq_true (show k = S.length - 1 by omega), Bool.and_true] at h184
          by_cases h2 : S.length = 1
          · rw [if_pos (by rw [h2]; rfl)]
            rw [decide_eq_false (show ¬ 0 < k by omega)] at h184
            exact h184
          · have hB : ¬ nI S.length = 1 := by
              rw [show (1 : Int32) = nI 1 from rfl, nI_iff (by omega) (by omega)]; exact h2
            rw [if_neg hB]
            rw [decide_eq_true (show 0 < k by omega)] at h184
            exact h184
      · rw [if_neg (nI_ne0 (by omega) (by omega))]
        rw [decide_eq_false h0, Bool.false_and] at h184
        exact h184
  -- the label itself
  rw [if_neg (nI_ge (by omega) (by omega)), q1, Option.bind_some]
  simp only []
  generalize hxx : (labK S k).1 = x at *
  have h114 : wrS ascii x = x → ∃ rs' b' g' row' rules' placed', fl3 (P_Mod_give_114 (nI S.length) a (b2 ascii) K (nI k) (nI (sepP (outP ascii S k) k).length) (nI x.length) b r1 rules placed) fu (0 : Int32) (nI (sepP (outP ascii S k) k).length) g = some (nI (outP ascii S S.length).length, rs', nI (whF ascii S (S.length - 1)), b', g', row', rules', placed') ∧ Rp g' (outP ascii S S.length) ∧ RW (ascii && onB a 32) ascii S R S.length rules' := by
    intro ew
    rw [ew] at hsucc hsl
    refine fl3_p (P_Mod_give_114 (nI S.length) a (b2 ascii) K (nI k) (nI (sepP (outP ascii S k) k).length) (nI x.length) b r1 rules placed) (fun m v6 size gg => ∃ j, m = x.length - j ∧ j ≤ x.length ∧ v6 = nI j ∧ size = nI (sepP (outP ascii S k) k ++ x.take j).length ∧ Rp gg (sepP (outP ascii S k) k ++ x.take j)) (fun r => ∃ rs' b' g' row' rules' placed', r = some (nI (outP ascii S S.length).length, rs', nI (whF ascii S (S.length - 1)), b', g', row', rules', placed') ∧ Rp g' (outP ascii S S.length) ∧ RW (ascii && onB a 32) ascii S R S.length rules') ?_ fu x.length (0 : Int32) (nI (sepP (outP ascii S k) k).length) g (by unfold fu; omega) ⟨0, rfl, by omega, rfl, by simp, by simpa using hg⟩
    rintro m K2 v6 size gg ⟨j, hm2, hj, rfl, rfl, hgg⟩ ih2
    unfold P_Mod_give_114
    by_cases hjl : x.length ≤ j
    · have ej : j = x.length := by omega
      subst ej
      rw [List.take_length, ← hsucc] at *
      rw [if_pos (nI_le (Nat.le_refl _) (by omega))]
      exact h140 _ _ _ _ _ hgg
    · have hjl2 : j < x.length := by omega
      have hl : (sepP (outP ascii S k) k ++ x.take j).length = (sepP (outP ascii S k) k).length + j := by simp; omega
      have et : sepP (outP ascii S k) k ++ x.take (j + 1) = (sepP (outP ascii S k) k ++ x.take j) ++ [x.getD j (-1)] := by rw [take_snoc hjl2, getD_get hjl2, List.append_assoc]
      rw [if_neg (nI_ge (by omega) (by omega)), gi_ok (by omega) (by omega), nI_clamp (by omega), q2.get hjl2 (-1), mod_out (by omega), Option.bind_some, nI_1]
      exact ih2 (x.length - (j + 1)) _ _ _ (by omega) ⟨j + 1, rfl, by omega, rfl, by rw [et]; simp [Nat.add_assoc], by rw [et]; exact hgg.add _⟩
  refine fl2_p (P_Mod_give_26 (nI S.length) a (b2 ascii) K (nI k) (nI (sepP (outP ascii S k) k).length) (nI x.length) b g r1 rules placed) (fun m v4 v5 => ∃ j, m = x.length - j ∧ j ≤ x.length ∧ v5 = nI j ∧ v4 = b2 (hiB (x.take j))) (fun r => ∃ rs' b' g' row' rules' placed', r = some (nI (outP ascii S S.length).length, rs', nI (whF ascii S (S.length - 1)), b', g', row', rules', placed') ∧ Rp g' (outP ascii S S.length) ∧ RW (ascii && onB a 32) ascii S R S.length rules') ?_ fu x.length (0 : Int32) (0 : Int32) (by unfold fu; omega) ⟨0, rfl, by omega, rfl, rfl⟩
  rintro m K2 v4 v5 ⟨j, hm2, hj, rfl, rfl⟩ ih2
  unfold P_Mod_give_26
  have hA : ¬ b2 true = 0 := by decide
  by_cases hjl : x.length ≤ j
  · have ej : j = x.length := by omega
    subst ej
    rw [List.take_length, if_pos (nI_le (Nat.le_refl _) (by omega))]
    cases ascii with
    | false =>
      rw [if_pos (show b2 false = 0 from rfl)]
      exact h114 (by unfold wrS; rw [Bool.false_and]; rfl)
    | true =>
      rw [if_neg hA]
      cases hhi : hiB x with
      | false =>
        rw [if_pos (show b2 false = 0 from rfl)]
        exact h114 (by unfold wrS; rw [hhi]; rfl)
      | true =>
        have ew : wrS true x = tagL ++ packS x := by unfold wrS; rw [hhi]; rfl
        rw [if_neg hA]
        generalize ho : sepP (outP true S k) k = o at *
        rw [ew] at hsucc hsl
        have hsl2 : (outP true S (k + 1)).length = o.length + (4 + (packS x).length) := by rw [hsl, List.length_append]; rfl
        have m1 := mod_out (g := g) (o := o) (by omega) 120
        have m2 := mod_out (g := upd g o.length 120) (o := o ++ [120]) (by simp; omega) 110
        have m3 := mod_out (g := upd (upd g o.length 120) (o.length + 1) 110) (o := o ++ [120] ++ [110]) (by simp; omega) 45
        have m4 := mod_out (g := upd (upd (upd g o.length 120) (o.length + 1) 110) (o.length + 1 + 1) 45) (o := o ++ [120] ++ [110] ++ [45]) (by simp; omega) 45
        have hgt := (((hg.add 120).add 110).add 45).add 45
        simp only [List.length_append, List.length_singleton] at m2 m3 m4 hgt
        rw [m1, Option.bind_some]
        simp only []
        rw [m2, Option.bind_some]
        simp only []
        rw [m3, Option.bind_some]
        simp only []
        rw [m4, Option.bind_some]
        simp only []
        have et : o ++ [120] ++ [110] ++ [45] ++ [45] = o ++ tagL := by simp [tagL]
        rw [et] at hgt
        have htl : (o ++ tagL).length = o.length + 1 + 1 + 1 + 1 := by simp [tagL]
        obtain ⟨b', g', pl', p1, p2⟩ := mod_pack (pl := placed) q2 hmem.1 (by omega) hgt (by omega)
        rw [htl] at p1
        rw [p1, Option.bind_some]
        simp only []
        rw [List.append_assoc, ← hsucc] at p2 ⊢
        exact h140 _ _ _ _ _ p2
  · have hjl2 : j < x.length := by omega
    have et : x.take (j + 1) = x.take j ++ [x.getD j (-1)] := by rw [take_snoc hjl2, getD_get hjl2]
    have e : hiB (x.take (j + 1)) = (hiB (x.take j) || decide (127 < x.getD j (-1))) := by
      unfold hiB; rw [et, List.any_append]; simp
    have go : ∀ v, v = b2 (hiB (x.take (j + 1))) → ∃ rs' b' g' row' rules' placed', K2 v (nI (j + 1)) = some (nI (outP ascii S S.length).length, rs', nI (whF ascii S (S.length - 1)), b', g', row', rules', placed') ∧ Rp g' (outP ascii S S.length) ∧ RW (ascii && onB a 32) ascii S R S.length rules' := by
      rintro v rfl
      exact ih2 (x.length - (j + 1)) _ _ (by omega) ⟨j + 1, rfl, by omega, rfl, rfl⟩
    rw [if_neg (nI_ge (by omega) (by omega)), gi_ok (by omega) (by omega), nI_clamp (by omega), q2.get hjl2 (-1), nI_1]
    cases hb : hiB (x.take j) with
    | true =>
      rw [if_neg hA]
      exact go 1 (by rw [e, hb]; rfl)
    | false =>
      rw [if_pos (show b2 false = 0 from rfl)]
      by_cases hc2 : x.getD j (-1) ≤ 127
      · rw [if_pos hc2]
        have : ¬ 127 < x.getD j (-1) := not_lt_of_le32 hc2
        exact go 0 (by rw [e, hb, decide_eq_false this]; rfl)
      · rw [if_neg hc2]
        have : 127 < x.getD j (-1) := lt_of_not_le32 hc2
        exact go 1 (by rw [e, hb, decide_eq_true this]; rfl)
