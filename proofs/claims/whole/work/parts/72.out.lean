/-! ===== writing the result: the class ===== -/
def hiB (x : List Int32) : Bool := x.any (fun c => decide (127 < c))
def tagL : List Int32 := [120, 110, 45, 45]
def wrS (ascii : Bool) (x : List Int32) : List Int32 := if (ascii && hiB x) = true then tagL ++ packS x else x
def sepP (o : List Int32) (k : Nat) : List Int32 := if k = 0 then [] else o ++ [46]
def outP (ascii : Bool) (S : List Lab) : Nat → List Int32
  | 0 => []
  | k + 1 => sepP (outP ascii S k) k ++ wrS ascii (labK S k).1
def wrongB (n k len : Nat) : Bool := decide (20 < len) || (decide (len = 0) && !(decide (0 < k) && decide (k = n - 1)))
def finV (cl ascii : Bool) (S : List Lab) (R : List Int32) (q : Nat) : Int32 := if (cl && wrongB S.length q (wrS ascii (labK S q).1).length) = true then R.getD q (-1) ||| 1024 else R.getD q (-1)
def RW (cl ascii : Bool) (S : List Lab) (R : List Int32) (k : Nat) (fr : Nat → Int32) : Prop := ∀ q, q < S.length → fr q = if q < k then finV cl ascii S R q else R.getD q (-1)
theorem RW_keep {cl ascii : Bool} {S : List Lab} {R : List Int32} {k : Nat} {fr : Nat → Int32} (h : RW cl ascii S R k fr) (hk : k < S.length) (he : finV cl ascii S R k = R.getD k (-1)) : RW cl ascii S R (k + 1) fr := by
  intro q hq
  rw [h q hq]
  by_cases z : q < k
  · rw [if_pos z, if_pos (by omega)]
  · rw [if_neg z]
    by_cases z2 : q = k
    · subst z2; rw [if_pos (by omega), he]
    · rw [if_neg (by omega)]
theorem RW_set {cl ascii : Bool} {S : List Lab} {R : List Int32} {k : Nat} {fr : Nat → Int32} (h : RW cl ascii S R k fr) : RW cl ascii S R (k + 1) (upd fr k (finV cl ascii S R k)) := by
  intro q hq
  by_cases z2 : q = k
  · subst z2; rw [upd_s, if_pos (by omega)]
  · rw [upd_n _ _ z2, h q hq]
    by_cases z : q < k
    · rw [if_pos z, if_pos (by omega)]
    · rw [if_neg z, if_neg (by omega)]
theorem outP_le (ascii : Bool) (S : List Lab) : ∀ (d k : Nat), (outP ascii S k).length ≤ (outP ascii S (k + d)).length
  | 0, k => Nat.le_refl _
  | d + 1, k => by
    have := outP_le ascii S d k
    show _ ≤ (sepP (outP ascii S (k + d)) (k + d) ++ _).length
    rw [List.length_append]
    unfold sepP
    split
    · rename_i e
      have : k = 0 := by omega
      subst this
      simp [outP]
    · simp; omega
theorem outP_mon (ascii : Bool) (S : List Lab) {a b : Nat} (h : a ≤ b) : (outP ascii S a).length ≤ (outP ascii S b).length := by
  have := outP_le ascii S (b - a) a
  rwa [show a + (b - a) = b by omega] at this
theorem codes_addTag {N : Nat} {o : List Int32} {g : Nat → Int32} (hg : Rp g o) (hN2 : N < 90000) (ho : o.length + 4 ≤ N) : ∃ g', P_Checker_addTag N (nI o.length) g = some (nI (o ++ tagL).length, g') ∧ Rp g' (o ++ tagL) := by
  unfold P_Checker_addTag
  have e4 : tagL.length = 4 := rfl
  refine fl3_p (P_Checker_addTag_2 N) (fun m v sz gg => ∃ j, m = 4 - j ∧ j ≤ 4 ∧ v = nI j ∧ sz = nI (o ++ tagL.take j).length ∧ Rp gg (o ++ tagL.take j)) (fun r => ∃ g', r = some (nI (o ++ tagL).length, g') ∧ Rp g' (o ++ tagL)) ?_ fu 4 (0 : Int32) (nI o.length) g (by decide) ⟨0, rfl, by omega, rfl, by simp, by simpa using hg⟩
  rintro m K v sz gg ⟨j, hm, hj, rfl, rfl, hgg⟩ ih
  unfold P_Checker_addTag_2
  by_cases hj4 : 4 ≤ j
  · have : j = 4 := by omega
    subst this
    rw [if_pos (by decide)]
    exact ⟨gg, rfl, hgg⟩
  · have hA : ¬ (4 : Int32) ≤ nI j := nI_ge (b := 4) (by omega) (by omega)
    have hjt : j < tagL.length := by omega
    have et : o ++ tagL.take (j + 1) = (o ++ tagL.take j) ++ [tb_tag j] := by
      rw [take_snoc hjt, List.append_assoc]
      congr 2
      have : j = 0 ∨ j = 1 ∨ j = 2 ∨ j = 3 := by omega
      rcases this with rfl | rfl | rfl | rfl <;> rfl
    have hl : (o ++ tagL.take j).length = o.length + j := by simp; omega
    rw [if_neg hA, gi_ok (by omega) (by omega), nI_clamp (by omega), row_add (by omega) (by omega), Option.bind_some, nI_1]
    exact ih (4 - (j + 1)) _ _ _ (by omega) ⟨j + 1, rfl, by omega, rfl, by rw [et]; simp [Nat.add_assoc], by rw [et]; exact hgg.add _⟩
theorem host_wlabel {x o : List Int32} {fx g : Nat → Int32} (hx : Rp fx x) (hok : okC x) (hxl : x.length ≤ 96) (hg : Rp g o) (ascii : Bool) (ho : (o ++ wrS ascii x).length ≤ 512) (b : Int32) : ∃ g' b', P_Host_writeLabel (nI o.length) g (nI x.length) fx b (b2 ascii) = some (nI (o ++ wrS ascii x).length, g', b') ∧ Rp g' (o ++ wrS ascii x) := by
  have h41 : wrS ascii x = x → ∃ g' b', P_Host_writeLabel_41 (nI x.length) fx (nI o.length) g b = some (nI (o ++ wrS ascii x).length, g', b') ∧ Rp g' (o ++ wrS ascii x) := by
    intro e
    rw [e] at ho ⊢
    rw [List.length_append] at ho
    unfold P_Host_writeLabel_41 P_Row_size
    obtain ⟨g', q1, q2⟩ := row_addPart (N := 512) (N2 := 96) (a := 0) (b := x.length) hg hx (by omega) hxl (by omega) (by omega) (by omega) (by omega) (by omega)
    rw [show nI 0 = (0 : Int32) from rfl] at q1
    rw [Option.bind_some, q1, Option.bind_some]
    rw [List.drop_zero, Nat.sub_zero, List.take_length] at q2
    exact ⟨g', b, by simp, q2⟩
  unfold P_Host_writeLabel
  rw [row_hasAbove hx hxl (by omega), Option.bind_some]
  have hh : (x.any fun c => decide (127 < c)) = hiB x := rfl
  rw [hh]
  cases ascii with
  | false =>
    rw [if_pos (show b2 false = 0 from rfl)]
    exact h41 (by unfold wrS; rw [Bool.false_and]; rfl)
  | true =>
    have hA : ¬ b2 true = 0 := by decide
    rw [if_neg hA]
    cases hhi : hiB x with
    | false =>
      rw [if_pos (show b2 false = 0 from rfl)]
      exact h41 (by unfold wrS; rw [hhi]; rfl)
    | true =>
      rw [if_neg hA]
      have e : wrS true x = tagL ++ packS x := by unfold wrS; rw [hhi]; rfl
      rw [e] at ho ⊢
      have ho2 : o.length + 4 + (packS x).length ≤ 512 := by
        simp only [List.length_append] at ho
        have : tagL.length = 4 := rfl
        omega
      obtain ⟨g1, q1, q2⟩ := codes_addTag (N := 512) hg (by omega) (by omega)
      have hl : (o ++ tagL).length = o.length + 4 := by simp [tagL]
      obtain ⟨b', g2, r1, r2⟩ := codes_write (N := 96) (N2 := 512) hx hxl (by omega) (by omega) hok hxl q2 (by omega)
      rw [q1, Option.bind_some]
      simp only []
      rw [r1, Option.bind_some]
      rw [List.append_assoc] at r2 ⊢
      exact ⟨g2, b', rfl, r2⟩
theorem host_wrong {n k len : Nat} (hk : k < n) (hn : n ≤ 49) (hlen : len ≤ 512) : P_Host_isWrongLength (nI n) (nI len) (nI k) = some (b2 (wrongB n k len)) := by
  have h22 : ∀ s : Bool, P_Host_isWrongLength_22 (nI len) (b2 s) = some (b2 (decide (20 < len) || (decide (len = 0) && !s))) := by
    intro s
    unfold P_Host_isWrongLength_22
    simp only [b2_0]
    by_cases h1 : 20 < len
    · have hA : (20 : Int32) < nI len := nI_lt (a := 20) h1 (by omega)
      rw [if_pos hA, decide_eq_true h1]; rfl
    · have hA : ¬ (20 : Int32) < nI len := nI_nlt (a := 20) (by omega) (by omega)
      rw [if_neg hA, decide_eq_false h1]
      by_cases h2 : len = 0
      · rw [if_pos (by rw [h2]; rfl), decide_eq_true h2]; cases s <;> rfl
      · have hB : ¬ nI len = 0 := nI_ne0 (by omega) (by omega)
        rw [if_neg hB, decide_eq_false h2]; rfl
  unfold P_Host_isWrongLength P_Labels_count wrongB
  rw [Option.bind_some]
  by_cases h0 : k = 0
  · subst h0
    rw [if_pos (by decide)]
    have := h22 false
    rw [show b2 false = (0 : Int32) from rfl] at this
    rw [this]; simp
  · rw [if_neg (nI_le0 (by omega) (by omega))]
    have e : nI n - 1 = nI (n - 1) := by
      obtain ⟨q, rfl⟩ : ∃ q, n = q + 1 := ⟨n - 1, by omega⟩
      exact nI_pred q
    rw [e]
    have d0 : decide (0 < k) = true := decide_eq_true (by omega)
    by_cases h1 : k = n - 1
    · rw [if_pos (by rw [h1]), d0, decide_eq_true h1]
      have := h22 true
      rw [show b2 true = (1 : Int32) from rfl] at this
      rw [this]; rfl
    · have hB : ¬ nI k = nI (n - 1) := by rw [nI_iff (by omega) (by omega)]; exact h1
      rw [if_neg hB, d0, decide_eq_false h1]
      have := h22 false
      rw [show b2 false = (0 : Int32) from rfl] at this
      rw [this]; rfl
/-- whether the whole is too long, or empty -/
def whN (o : List Int32) : Nat := if 0 < o.length ∧ o.getD (o.length - 1) (-1) = 46 then o.length - 1 else o.length
def whB (n : Nat) : Bool := decide (n = 0) || decide (60 < n)
theorem host_whole {o : List Int32} {g : Nat → Int32} (hg : Rp g o) (ho : o.length ≤ 512) : P_Host_isWholeWrongLength (nI o.length) g = some (b2 (whB (whN o))) := by
  have h30 : ∀ n, n ≤ 512 → P_Host_isWholeWrongLength_30 (nI n) = some (b2 (whB n)) := by
    intro n hn
    unfold P_Host_isWholeWrongLength_30 whB
    by_cases h0 : n = 0
    · rw [if_pos (by rw [h0]; rfl), decide_eq_true h0]; rfl
    · rw [if_neg (nI_ne0 (by omega) (by omega)), decide_eq_false h0]
      by_cases h1 : n ≤ 60
      · have hA : nI n ≤ 60 := nI_le (b := 60) h1 (by omega)
        rw [if_pos hA, decide_eq_false (by omega)]; rfl
      · have hA : ¬ nI n ≤ 60 := nI_ge (a := 60) (by omega) (by omega)
        rw [if_neg hA, decide_eq_true (by omega)]; rfl
  unfold P_Host_isWholeWrongLength P_Row_size whN
  rw [Option.bind_some]
  by_cases h0 : o.length = 0
  · have hA : nI o.length ≤ 0 := by rw [h0]; decide
    rw [if_pos hA, if_neg (by omega), h30 _ ho]
  · rw [if_neg (nI_le0 (by omega) (by omega))]
    have e : nI o.length - 1 = nI (o.length - 1) := by
      obtain ⟨q, hq⟩ : ∃ q, o.length = q + 1 := ⟨o.length - 1, by omega⟩
      rw [hq]; exact nI_pred q
    rw [nI_m, e, row_get hg ho (by omega) (by omega), Option.bind_some]
    by_cases h46 : o.getD (o.length - 1) (-1) = 46
    · rw [if_pos h46, if_pos ⟨by omega, h46⟩, h30 _ (by omega)]
    · rw [if_neg h46, if_neg (fun z => h46 z.2), h30 _ ho]
theorem host_write {S : List Lab} {n cs : Int32} {fc fe ft fl fr g : Nat → Int32} (h : FQ S n cs fc fe ft) (hok : LabOK S) {R : List Int32} (hR : R.length = S.length) (hr : Rp fr R) (ascii cl : Bool) (hout : (outP ascii S S.length).length ≤ 512) (lsz b : Int32) :
    ∃ g' lsz' fl' fr' b', P_Host_writeResult g lsz fl n cs fc fe fr b (b2 ascii) (b2 cl) = some (if (cl && whB (whN (outP ascii S S.length))) = true then 1024 else 0, nI (outP ascii S S.length).length, g', lsz', fl', fr', b') ∧ Rp g' (outP ascii S S.length) ∧ RW cl ascii S R S.length fr' := by
  obtain ⟨hS, hc, hall⟩ := hok
  have hFQ := h
  obtain ⟨rfl, rfl, h3, h4, h5⟩ := h
  unfold P_Host_writeResult P_Row_empty
  rw [Option.bind_some]
  have hA1 : ¬ (1 : Int32) = 0 := by decide
  refine fl7_p (P_Host_writeResult_9 (nI S.length) (nI (codesL S).length) fc fe (b2 ascii) (b2 cl)) (fun m v3 sz g lsz fl fr b => ∃ k, m = S.length - k ∧ k ≤ S.length ∧ v3 = nI k ∧ sz = nI (outP ascii S k).length ∧ Rp g (outP ascii S k) ∧ RW cl ascii S R k fr) (fun r => ∃ g' lsz' fl' fr' b', r = some (if (cl && whB (whN (outP ascii S S.length))) = true then 1024 else 0, nI (outP ascii S S.length).length, g', lsz', fl', fr', b') ∧ Rp g' (outP ascii S S.length) ∧ RW cl ascii S R S.length fr') ?_ fu S.length (0 : Int32) (0 : Int32) g lsz fl fr b (by unfold fu; omega) ⟨0, rfl, by omega, rfl, rfl, Rp.nil, fun q hq => by rw [if_neg (by omega)]; exact hr.get (by omega) (-1)⟩
  rintro m K v3 sz g lsz fl fr b ⟨k, hm, hk, rfl, rfl, hg, hRW⟩ ih
  unfold P_Host_writeResult_9 P_Labels_count
  rw [Option.bind_some]
  have b11 : P_Host_bit 11 = some 1024 := rfl
  by_cases hkl : S.length ≤ k
  · have ek : k = S.length := by omega
    subst ek
    rw [if_pos (nI_le (Nat.le_refl _) (by omega)), host_whole hg hout, Option.bind_some, b11, Option.bind_some]
    simp only [b2_0]
    cases cl with
    | false => exact ⟨g, lsz, fl, fr, b, rfl, hg, hRW⟩
    | true =>
      cases whB (whN (outP ascii S S.length)) with
      | false => exact ⟨g, lsz, fl, fr, b, rfl, hg, hRW⟩
      | true => exact ⟨g, lsz, fl, fr, b, rfl, hg, hRW⟩
  · have hkl2 : k < S.length := by omega
    have hmem := hall _ (labK_mem hkl2)
    have hage := apart_ge (labK S k).1
    have hmon := outP_mon ascii S (show k + 1 ≤ S.length by omega)
    have hsucc : outP ascii S (k + 1) = sepP (outP ascii S k) k ++ wrS ascii (labK S k).1 := rfl
    have hfr : fr k = R.getD k (-1) := by rw [hRW k hkl2, if_neg (by omega)]
    have h34 : ∀ (o : List Int32) (g : Nat → Int32), o = sepP (outP ascii S k) k → Rp g o → ∃ g' lsz' fl' fr' b', P_Host_writeResult_34 (nI S.length) (nI (codesL S).length) fc fe (b2 ascii) (b2 cl) K (nI k) (nI o.length) g fl fr b = some (if (cl && whB (whN (outP ascii S S.length))) = true then 1024 else 0, nI (outP ascii S S.length).length, g', lsz', fl', fr', b') ∧ Rp g' (outP ascii S S.length) ∧ RW cl ascii S R S.length fr' := by
      rintro o g rfl hg
      unfold P_Host_writeResult_34 P_Row_size P_Labels_addRules
      obtain ⟨f', q1, q2⟩ := lab_copy (fl := fl) hFQ hS hc hkl2
      obtain ⟨g', b', r1, r2⟩ := host_wlabel q2 hmem.1 (by omega) hg ascii (by rw [← hsucc]; omega) b
      rw [Option.bind_some, q1, Option.bind_some]
      simp only []
      rw [r1, Option.bind_some]
      simp only [Option.bind_some]
      rw [← hsucc] at r2 ⊢
      have hdiff : nI (outP ascii S (k + 1)).length - nI (sepP (outP ascii S k) k).length = nI (wrS ascii (labK S k).1).length := by
        have : (outP ascii S (k + 1)).length = (sepP (outP ascii S k) k).length + (wrS ascii (labK S k).1).length := by rw [hsucc, List.length_append]
        rw [pk_sub (by omega)]; congr 1; omega
      have hle : (wrS ascii (labK S k).1).length ≤ 512 := by
        have : (outP ascii S (k + 1)).length = (sepP (outP ascii S k) k).length + (wrS ascii (labK S k).1).length := by rw [hsucc, List.length_append]
        omega
      rw [hdiff, host_wrong hkl2 hS hle, Option.bind_some, b11, Option.bind_some, lab_has hkl2 hS, Option.bind_some, if_neg hA1, gi_ok (by omega) (by omega), gi_ok (by omega) (by omega), nI_clamp (by omega), Option.bind_some, hfr, nI_1]
      simp only [b2_0]
      have keep : finV cl ascii S R k = R.getD k (-1) → ∃ g'' lsz' fl' fr' b'', K (nI (k + 1)) (nI (outP ascii S (k + 1)).length) g' (nI (labK S k).1.length) f' fr b' = some (if (cl && whB (whN (outP ascii S S.length))) = true then 1024 else 0, nI (outP ascii S S.length).length, g'', lsz', fl', fr', b'') ∧ Rp g'' (outP ascii S S.length) ∧ RW cl ascii S R S.length fr' := by
        intro z
        exact ih (S.length - (k + 1)) _ _ _ _ _ _ _ (by omega) ⟨k + 1, rfl, by omega, rfl, rfl, r2, RW_keep hRW hkl2 z⟩
      cases hcl : cl with
      | false =>
        rw [if_pos rfl]
        rw [hcl] at keep
        exact keep (by unfold finV; rfl)
      | true =>
        have hB : ¬ true = false := by decide
        rw [if_neg hB]
        rw [hcl] at keep hRW ih
        cases hw : wrongB S.length k (wrS ascii (labK S k).1).length with
        | false =>
          rw [if_pos rfl]
          exact keep (by unfold finV; rw [hw]; rfl)
        | true =>
          rw [if_neg hB]
          have ef : finV true ascii S R k = R.getD k (-1) ||| 1024 := by unfold finV; rw [hw]; rfl
          rw [← ef]
          exact ih (S.length - (k + 1)) _ _ _ _ _ _ _ (by omega) ⟨k + 1, rfl, by omega, rfl, rfl, r2, RW_set hRW⟩
    rw [if_neg (nI_ge (by omega) (by omega))]
    by_cases h0 : k = 0
    · subst h0
      rw [if_pos (by decide)]
      exact h34 [] g rfl Rp.nil
    · rw [if_neg (nI_le0 (by omega) (by omega))]
      have es : sepP (outP ascii S k) k = outP ascii S k ++ [46] := by unfold sepP; rw [if_neg h0]
      have hl2 : (outP ascii S k).length + 1 ≤ (outP ascii S (k + 1)).length := by rw [hsucc, es]; simp
      rw [row_add (by omega) (by omega), Option.bind_some]
      have := h34 (outP ascii S k ++ [46]) _ es.symm (hg.add 46)
      rw [List.length_append, List.length_singleton] at this
      exact this
