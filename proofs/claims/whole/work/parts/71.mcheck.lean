/-! ===== the reference checks its labels ===== -/
theorem map_getL {S : List Lab} {k : Nat} (h : k < S.length) : (S.map fun y => y.1).getD k [] = (labK S k).1 := by
  simp [List.getD_eq_getElem?_getD, h, labK_get h]
theorem upd_self {f : Nat → Int32} {k : Nat} : upd f k (f k) = f := by
  funext j
  by_cases z : j = k
  · subst z; rw [upd_s]
  · rw [upd_n _ _ z]
theorem mod_checks {S : List Lab} {st sz pool row other rules tg : Nat → Int32} {ps : Nat} (h : MR (S.map fun y => y.1) st sz pool ps) (hps : ps ≤ 300) (hok : LabOK S) (htg : Rp tg (S.map fun y => b2 y.2.1)) (hr : Rp rules (S.map fun y => y.2.2)) (a1 a2 v3 rs pz wh b : Int32) (res placed : Nat → Int32) (right : Bool) :
    ∃ rs' row' other' rules', fl5 (P_Mod_process_84 a1 a2 v3 (b2 right) (nI S.length) pz wh b res st sz tg pool placed) fu (0 : Int32) rs row other rules = P_Mod_process_84 a1 a2 v3 (b2 right) (nI S.length) pz wh b res st sz tg pool placed (fun _ _ _ _ _ => none) (nI S.length) rs' row' other' rules' ∧ Rp rules' (S.map (chkR a1 right)) := by
  obtain ⟨hS, hc, hall⟩ := hok
  refine fl5_p (P_Mod_process_84 a1 a2 v3 (b2 right) (nI S.length) pz wh b res st sz tg pool placed) (fun m v5 rs row other rules => ∃ k, m = S.length - k ∧ k ≤ S.length ∧ v5 = nI k ∧ Rp rules (mixR a1 right S k)) (fun r => ∃ rs' row' other' rules', r = P_Mod_process_84 a1 a2 v3 (b2 right) (nI S.length) pz wh b res st sz tg pool placed (fun _ _ _ _ _ => none) (nI S.length) rs' row' other' rules' ∧ Rp rules' (S.map (chkR a1 right))) ?_ fu S.length (0 : Int32) rs row other rules (by unfold fu; omega) ⟨0, rfl, by omega, rfl, by simpa [mixR] using hr⟩
  rintro m K v5 rs row other rules ⟨k, hm, hk, rfl, hrr⟩ ih
  by_cases hkl : S.length ≤ k
  · have ek : k = S.length := by omega
    subst ek
    refine ⟨rs, row, other, rules, ?_, by simpa [mixR] using hrr⟩
    have hA : nI S.length ≤ nI S.length := nI_le (Nat.le_refl _) (by omega)
    unfold P_Mod_process_84
    rw [if_pos hA, if_pos hA]
  · have hkl2 : k < S.length := by omega
    have hmem := hall _ (labK_mem hkl2)
    have hage := apart_ge (labK S k).1
    have hml := mixR_len a1 right S k hk
    have hfr : rules k = (labK S k).2.2 := by rw [hrr.get (by omega) (-1), mixR_get hkl2]
    have hft : tg k = b2 (labK S k).2.1 := by
      rw [htg.get (by simpa using hkl2) 0]
      simp [List.getD_eq_getElem?_getD, hkl2, labK_get hkl2]
    have hkm : k < (S.map fun y => y.1).length := by simpa using hkl2
    have hg := map_getL hkl2
    obtain ⟨s, z1, z2, z3, z4⟩ := h k hkm
    rw [hg] at z2
    have keep : chkR a1 right (labK S k) = (labK S k).2.2 → ∃ rs' row' other' rules', K (nI (k + 1)) rs row other (upd rules k (labK S k).2.2) = P_Mod_process_84 a1 a2 v3 (b2 right) (nI S.length) pz wh b res st sz tg pool placed (fun _ _ _ _ _ => none) (nI S.length) rs' row' other' rules' ∧ Rp rules' (S.map (chkR a1 right)) := by
      intro z
      rw [← hfr, upd_self]
      rw [mixR_keep hkl2 z] at hrr
      exact ih (S.length - (k + 1)) _ _ _ _ _ (by omega) ⟨k + 1, rfl, by omega, rfl, hrr⟩
    have hA : ¬ nI S.length ≤ nI k := nI_ge (by omega) (by omega)
    generalize hG : P_Mod_process_84 a1 a2 v3 (b2 right) (nI S.length) pz wh b res st sz tg pool placed (fun _ _ _ _ _ => none) (nI S.length) = G at *
    unfold P_Mod_process_84
    simp only [if_neg hA, gi_ok (show k < 50 by omega) (show 50 < 2 ^ 31 by omega), nI_clamp (show k < 2 ^ 31 by omega), hfr, z2, nI_1]
    by_cases hr0 : (labK S k).2.2 = 0
    · rw [if_pos hr0]
      by_cases hz : (labK S k).1.length = 0
      · have hB : nI (labK S k).1.length ≤ 0 := by rw [hz]; decide
        rw [if_pos hB]
        refine keep ?_
        unfold chkR
        rw [if_neg (by omega)]
      · rw [if_neg (nI_le0 (by omega) (by omega))]
        have hchk : chkR a1 right (labK S k) = rulX (onB a1 4) (onB a1 1) (!((labK S k).2.1 || !(onB a1 2))) (onB a1 8) right (labK S k).1 := by
          unfold chkR; rw [if_pos ⟨by omega, hr0⟩]
        obtain ⟨rs', row', other', q1⟩ := mod_rules (row := row) (other := other) h hps hkm (by simp; omega) (by rw [hg]; omega) (by rw [hg]; omega) (by rw [hg]; exact hmem.2) hft a1 right
        rw [hg, ← hchk] at q1
        rw [q1, Option.bind_some]
        have := hrr.set k (chkR a1 right (labK S k))
        rw [mixR_set hkl2] at this
        exact ih (S.length - (k + 1)) _ _ _ _ _ (by omega) ⟨k + 1, rfl, by omega, rfl, this⟩
    · rw [if_neg hr0]
      refine keep ?_
      unfold chkR
      rw [if_neg (fun z => hr0 z.2)]
