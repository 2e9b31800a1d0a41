/-! ===== checking all labels ===== -/
def lab0 : Lab := ([], false, 0)
def labK (S : List Lab) (k : Nat) : Lab := S.getD k lab0
def FQ (S : List Lab) (n cs : Int32) (fc fe ft : Nat → Int32) : Prop := n = nI S.length ∧ cs = nI (codesL S).length ∧ Rp fc (codesL S) ∧ (∀ k, k < S.length → fe k = nI (codesL (S.take (k + 1))).length) ∧ Rp ft (S.map fun x => b2 x.2.1)
def LabOK (S : List Lab) : Prop := S.length ≤ 49 ∧ (codesL S).length ≤ 96 ∧ ∀ y ∈ S, okC y.1 ∧ (apartL y.1).length ≤ 96
theorem labK_get {S : List Lab} {k : Nat} (h : k < S.length) : labK S k = S[k] := by
  unfold labK; simp [List.getD_eq_getElem?_getD, h]
theorem labK_mem {S : List Lab} {k : Nat} (h : k < S.length) : labK S k ∈ S := by
  rw [labK_get h]; exact List.getElem_mem h
theorem codesL_take {S : List Lab} {k : Nat} (h : k < S.length) : codesL (S.take (k + 1)) = codesL (S.take k) ++ (labK S k).1 := by
  rw [List.take_succ_eq_append_getElem h, codesL_snoc, labK_get h]
theorem codesL_app (S T : List Lab) : codesL (S ++ T) = codesL S ++ codesL T := by
  unfold codesL; rw [List.flatMap_append]
theorem codesL_part {S : List Lab} {k : Nat} (h : k < S.length) : ((codesL S).drop (codesL (S.take k)).length).take ((codesL (S.take (k + 1))).length - (codesL (S.take k)).length) = (labK S k).1 := by
  have e : codesL S = codesL (S.take k) ++ ((labK S k).1 ++ codesL (S.drop (k + 1))) := by
    conv => lhs; rw [← List.take_append_drop (k + 1) S]
    rw [codesL_app, codesL_take h, List.append_assoc]
  rw [codesL_take h, List.length_append, Nat.add_sub_cancel_left]
  conv => lhs; rw [e]
  rw [List.drop_left, List.take_left]
theorem codesL_take_le (S : List Lab) (k : Nat) : (codesL (S.take k)).length ≤ (codesL S).length := by
  conv => rhs; rw [← List.take_append_drop k S]
  rw [codesL_app, List.length_append]; omega
theorem lab_has {S : List Lab} {k : Nat} (h : k < S.length) (hS : S.length ≤ 49) : P_Labels_has (nI S.length) (nI k) = some 1 := by
  unfold P_Labels_has
  rw [if_neg (nI_pos (by omega)), if_neg (nI_ge (by omega) (by omega))]
theorem lab_copy {S : List Lab} {n cs : Int32} {fc fe ft fl : Nat → Int32} (h : FQ S n cs fc fe ft) (hS : S.length ≤ 49) (hc : (codesL S).length ≤ 96) {k : Nat} (hk : k < S.length) : ∃ f', P_Labels_copyLabel 96 n cs fc fe fl (nI k) = some (nI (labK S k).1.length, f') ∧ Rp f' (labK S k).1 := by
  obtain ⟨rfl, rfl, h3, h4, h5⟩ := h
  unfold P_Labels_copyLabel P_Row_empty
  have hA : ¬ (1 : Int32) = 0 := by decide
  rw [Option.bind_some, lab_has hk hS, Option.bind_some, if_neg hA]
  have hle1 := codesL_take_le S (k + 1)
  have hct := codesL_take hk
  have hctl := congrArg List.length hct
  rw [List.length_append] at hctl
  have h33 : ∀ s, s = nI (codesL (S.take k)).length → ∃ f', P_Labels_copyLabel_33 96 (nI (codesL S).length) fc fe (nI k) s 0 fl = some (nI (labK S k).1.length, f') ∧ Rp f' (labK S k).1 := by
    rintro s rfl
    unfold P_Labels_copyLabel_33
    rw [gi_ok (by omega) (by omega), nI_clamp (by omega), h4 k hk]
    obtain ⟨f', q1, q2⟩ := row_addPart (N := 96) (N2 := 96) (f := fl) (l := []) (a := (codesL (S.take k)).length) (b := (codesL (S.take (k + 1))).length) Rp.nil h3 (by omega) hc (by omega) (by omega) hle1 (by simp only [List.length_nil]; omega) (by omega)
    rw [codesL_part hk, List.nil_append] at q2
    rw [show nI ([] : List Int32).length = (0 : Int32) from rfl] at q1
    rw [q1, Option.bind_some]
    refine ⟨f', ?_, q2⟩
    simp only [List.length_nil, Nat.zero_add]
    rw [hctl, Nat.add_sub_cancel_left]
  cases k with
  | zero =>
    rw [if_pos (show nI 0 = 0 from rfl)]
    exact h33 0 (by simp [codesL]; rfl)
  | succ q =>
    have hB : ¬ nI (q + 1) = 0 := nI_ne0 (by omega) (by omega)
    rw [if_neg hB, nI_pred, gi_ok (by omega) (by omega), nI_clamp (by omega)]
    exact h33 _ (h4 q (by omega))
def chkR (a : Int32) (right : Bool) (y : Lab) : Int32 := if 0 < y.1.length ∧ y.2.2 = 0 then rulX (onB a 4) (onB a 1) (!(y.2.1 || !(onB a 2))) (onB a 8) right y.1 else y.2.2
def mixR (a : Int32) (right : Bool) (S : List Lab) (k : Nat) : List Int32 := (S.take k).map (chkR a right) ++ (S.drop k).map (fun y => y.2.2)
theorem mixR_len (a : Int32) (right : Bool) (S : List Lab) (k : Nat) (h : k ≤ S.length) : (mixR a right S k).length = S.length := by
  unfold mixR; simp; omega
theorem mixR_get {a : Int32} {right : Bool} {S : List Lab} {k : Nat} (h : k < S.length) : (mixR a right S k).getD k (-1) = (labK S k).2.2 := by
  unfold mixR
  simp only [List.getD_eq_getElem?_getD]
  rw [List.getElem?_append_right (by simp; omega)]
  have : k - ((S.take k).map (chkR a right)).length = 0 := by simp; omega
  rw [this, List.drop_eq_getElem_cons h, labK_get h]
  rfl
theorem mixR_set {a : Int32} {right : Bool} {S : List Lab} {k : Nat} (h : k < S.length) : (mixR a right S k).set k (chkR a right (labK S k)) = mixR a right S (k + 1) := by
  unfold mixR
  have hl : ((S.take k).map (chkR a right)).length = k := by simp; omega
  rw [List.set_append_right _ _ (by omega), hl, Nat.sub_self, List.drop_eq_getElem_cons h, List.map_cons, List.set_cons_zero, List.take_succ_eq_append_getElem h, labK_get h, List.map_append, List.append_assoc]
  rfl
theorem mixR_keep {a : Int32} {right : Bool} {S : List Lab} {k : Nat} (h : k < S.length) (hk : chkR a right (labK S k) = (labK S k).2.2) : mixR a right S k = mixR a right S (k + 1) := by
  have := mixR_set (a := a) (right := right) h
  rw [hk] at this
  rw [← this]
  have e := mixR_get (a := a) (right := right) h
  have hl := mixR_len a right S k (by omega)
  apply List.ext_getElem
  · simp
  · intro i h1 h2
    rw [List.getElem_set]
    split
    · rename_i z; subst z
      rw [← e, getD_get (by omega)]
    · rfl
theorem or0 (v : Int32) : (0 : Int32) ||| v = v := Int32.zero_or
theorem nI_le0 {n : Nat} (h : 0 < n) (hn : n < 2 ^ 31) : ¬ nI n ≤ 0 := nI_ge (a := 0) h (by omega)
theorem apart_ge (x : List Int32) : x.length ≤ (apartL x).length := by rw [apart_len]; exact len_le_w1 x
theorem host_check {S : List Lab} {n cs : Int32} {fc fe fr ft fl fp ff : Nat → Int32} (h : FQ S n cs fc fe ft) (hok : LabOK S) (hr : Rp fr (S.map fun y => y.2.2)) (lsz np nf a : Int32) :
    ∃ lsz' fl' fr' np' fp' nf' ff', P_Host_checkLabels lsz fl n cs fc fe fr ft np fp nf ff a = some (lsz', fl', fr', np', fp', nf', ff') ∧ Rp fr' (S.map (chkR a (onB a 16 && dirA p123 (codesL S)))) := by
  obtain ⟨hS, hc, hall⟩ := hok
  have hFQ := h
  obtain ⟨rfl, rfl, h3, h4, h5⟩ := h
  have main : ∀ right : Bool, ∃ lsz' fl' fr' np' fp' nf' ff', fl8 (P_Host_checkLabels_28 (nI S.length) (nI (codesL S).length) fc fe ft a (b2 right)) fu (0 : Int32) lsz fl fr np fp nf ff = some (lsz', fl', fr', np', fp', nf', ff') ∧ Rp fr' (S.map (chkR a right)) := by
    intro right
    refine fl8_p (P_Host_checkLabels_28 (nI S.length) (nI (codesL S).length) fc fe ft a (b2 right)) (fun m v3 lsz fl fr np fp nf ff => ∃ k, m = S.length - k ∧ k ≤ S.length ∧ v3 = nI k ∧ Rp fr (mixR a right S k)) (fun r => ∃ lsz' fl' fr' np' fp' nf' ff', r = some (lsz', fl', fr', np', fp', nf', ff') ∧ Rp fr' (S.map (chkR a right))) ?_ fu S.length (0 : Int32) lsz fl fr np fp nf ff (by unfold fu; omega) ⟨0, rfl, by omega, rfl, by simpa [mixR] using hr⟩
    rintro m K v3 lsz fl fr np fp nf ff ⟨k, hm, hk, rfl, hrr⟩ ih
    unfold P_Host_checkLabels_28 P_Labels_count
    rw [Option.bind_some]
    by_cases hkl : S.length ≤ k
    · have ek : k = S.length := by omega
      subst ek
      rw [if_pos (nI_le (Nat.le_refl _) (by omega))]
      refine ⟨_, _, _, _, _, _, _, rfl, ?_⟩
      simpa [mixR] using hrr
    · have hkl2 : k < S.length := by omega
      have hmem := hall _ (labK_mem hkl2)
      have hage := apart_ge (labK S k).1
      obtain ⟨f', q1, q2⟩ := lab_copy (fl := fl) hFQ hS hc hkl2
      have hmr := mixR_get (a := a) (right := right) hkl2
      have hml := mixR_len a right S k hk
      have hfr : fr k = (labK S k).2.2 := by rw [hrr.get (by omega) (-1), hmr]
      have hft : ft k = b2 (labK S k).2.1 := by
        rw [h5.get (by simpa using hkl2) 0]
        simp [List.getD_eq_getElem?_getD, hkl2, labK_get hkl2]
      unfold P_Labels_rules P_Labels_wasTagged P_Row_size
      have hA1 : ¬ (1 : Int32) = 0 := by decide
      rw [if_neg (nI_ge (by omega) (by omega)), q1, Option.bind_some, Option.bind_some, lab_has hkl2 hS, Option.bind_some, if_neg hA1, gi_ok (by omega) (by omega), nI_clamp (by omega), Option.bind_some, hfr, Option.bind_some, if_neg hA1, gi_ok (by omega) (by omega), hft]
      simp only [nI_1]
      have keep : chkR a right (labK S k) = (labK S k).2.2 → ∃ lsz' fl' fr' np' fp' nf' ff', K (nI (k + 1)) (nI (labK S k).1.length) f' fr np fp nf ff = some (lsz', fl', fr', np', fp', nf', ff') ∧ Rp fr' (S.map (chkR a right)) := by
        intro z
        rw [mixR_keep hkl2 z] at hrr
        exact ih (S.length - (k + 1)) _ _ _ _ _ _ _ _ (by omega) ⟨k + 1, rfl, by omega, rfl, hrr⟩
      by_cases hz : (labK S k).1.length = 0
      · have hB : nI (labK S k).1.length ≤ 0 := by rw [hz]; decide
        rw [if_pos hB]
        refine keep ?_
        unfold chkR
        rw [if_neg (by omega)]
      · rw [if_neg (nI_le0 (by omega) (by omega))]
        by_cases hr0 : (labK S k).2.2 = 0
        · rw [if_pos hr0]
          have hchk : chkR a right (labK S k) = rulX (onB a 4) (onB a 1) (!((labK S k).2.1 || !(onB a 2))) (onB a 8) right (labK S k).1 := by
            unfold chkR; rw [if_pos ⟨by omega, hr0⟩]
          have go : ∀ a', onB a' 4 = onB a 4 → onB a' 1 = onB a 1 → onB a' 8 = onB a 8 → onB a' 2 = (!((labK S k).2.1 || !(onB a 2))) → ∃ lsz' fl' fr' np' fp' nf' ff', P_Host_checkLabels_91 (nI S.length) (b2 right) K (nI k) a' (nI (labK S k).1.length) f' fr fp ff = some (lsz', fl', fr', np', fp', nf', ff') ∧ Rp fr' (S.map (chkR a right)) := by
            intro a' e4 e1 e8 e2
            obtain ⟨np', fp', nf', ff', r1⟩ := codes_rules (fp := fp) (ff := ff) q2 (by omega) (by omega) hmem.2 a' right
            unfold P_Host_checkLabels_91 P_Labels_addRules
            rw [r1, Option.bind_some, lab_has hkl2 hS, Option.bind_some, if_neg hA1, gi_ok (by omega) (by omega), gi_ok (by omega) (by omega), nI_clamp (by omega), Option.bind_some, hfr, hr0, or0, e4, e1, e8, e2, ← hchk, nI_1]
            have := hrr.set k (chkR a right (labK S k))
            rw [mixR_set hkl2] at this
            exact ih (S.length - (k + 1)) _ _ _ _ _ _ _ _ (by omega) ⟨k + 1, rfl, by omega, rfl, this⟩
          cases ht : (labK S k).2.1 with
          | false =>
            simp only [if_pos (show b2 false = 0 from rfl)]
            rw [Option.bind_some, if_pos rfl]
            exact go a rfl rfl rfl (by rw [ht]; simp)
          | true =>
            have hA : ¬ b2 true = 0 := by decide
            rw [if_neg hA, Option.bind_some, if_neg hA1]
            exact go (a &&& -3) (and3 a 4 rfl) (and3 a 1 rfl) (and3 a 8 rfl) (by rw [ht, and32]; rfl)
        · rw [if_neg hr0]
          refine keep ?_
          unfold chkR
          rw [if_neg (fun z => hr0 z.2)]
  unfold P_Host_checkLabels P_Labels_codes
  rw [Option.bind_some, codes_rtl h3 hc (by omega), Option.bind_some, onB_if]
  simp only [b2_0]
  have m0 := main false
  have m1 := main true
  rw [show b2 false = (0 : Int32) from rfl] at m0
  rw [show b2 true = (1 : Int32) from rfl] at m1
  clear main
  cases onB a 16 with
  | false =>
    rw [if_neg (show ¬ false = true by decide), Bool.false_and]
    exact m0
  | true =>
    rw [if_pos (show true = true from rfl), Bool.true_and]
    cases dirA p123 (codesL S) with
    | false =>
      rw [if_pos (show false = false from rfl)]
      exact m0
    | true =>
      rw [if_neg (show ¬ true = false by decide)]
      exact m1
