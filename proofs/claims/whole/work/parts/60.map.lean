/-! ===== mapping the text ===== -/
def onB (o k : Int32) : Bool := !decide (o &&& k = 0)
theorem mod_on (o k : Int32) : P_Mod_on o k = some (b2 (onB o k)) := by
  unfold P_Mod_on onB
  by_cases h : o &&& k = 0
  · rw [if_pos h]; simp [h, b2]
  · rw [if_neg h]; simp [h, b2]
def mpC (old : Bool) (c : Int32) : List Int32 := if c = 173 then [] else if (old && odB c) = true then (if c = 223 then [115, 115] else if c = 962 then [963] else []) else [mpS c]
def brC (strict old : Bool) (c : Int32) : Bool := if c = 173 then false else if (old && odB c) = true then false else !(gdB (mpS c) || (!strict && plB (mpS c)) || odB (mpS c))
def mapL (old : Bool) (l : List Int32) : List Int32 := l.flatMap (mpC old)
def brL (strict old : Bool) (l : List Int32) : Bool := l.any (brC strict old)
theorem mpC_len (old : Bool) (c : Int32) : (mpC old c).length ≤ 2 := by
  unfold mpC; split
  · simp
  split
  · split
    · simp
    split <;> simp
  · simp
theorem mapL_snoc (old : Bool) (l : List Int32) (c : Int32) : mapL old (l ++ [c]) = mapL old l ++ mpC old c := by
  unfold mapL; rw [List.flatMap_append]; simp
theorem brL_snoc (strict old : Bool) (l : List Int32) (c : Int32) : brL strict old (l ++ [c]) = (brL strict old l || brC strict old c) := by
  unfold brL; rw [List.any_append]; simp
theorem sum_flat {w : Int32 → Nat} {f : Int32 → List Int32} {k : Nat} : ∀ (l : List Int32), (∀ c ∈ l, sumW w (f c) ≤ k) → sumW w (l.flatMap f) ≤ k * l.length
  | [], _ => by simp [sumW]
  | c :: cs, h => by
    have ih := sum_flat cs (fun x hx => h x (List.mem_cons_of_mem _ hx))
    rw [List.flatMap_cons, sumW_app, List.length_cons, Nat.mul_add]
    have := h c List.mem_cons_self
    omega
theorem sumW_one (l : List Int32) : sumW (fun _ => 1) l = l.length := by
  induction l with
  | nil => rfl
  | cons c cs ih => rw [sumW_cons, ih]; simp; omega
theorem mapL_len (old : Bool) (l : List Int32) : (mapL old l).length ≤ 2 * l.length := by
  rw [← sumW_one]
  exact sum_flat l (fun c _ => by rw [sumW_one]; exact mpC_len old c)
theorem mpC_w1 (old : Bool) (c : Int32) : sumW w1 (mpC old c) ≤ 2 := by
  have h1 : w1 115 = 1 := by decide
  have h2 : w1 963 = 1 := by decide
  unfold mpC; split
  · simp [sumW]
  split
  · split
    · simp [sumW, h1]
    split <;> simp [sumW, h2]
  · have := apL_len (mpS c)
    simp [sumW, w1]; omega
theorem mpC_w2 (old : Bool) (c : Int32) : sumW w2 (mpC old c) ≤ 10 := by
  have h1 := w2_le 115
  have h1' : w2 115 = 1 := by decide
  have h2 := w2_le 963
  unfold mpC; split
  · simp [sumW]
  split
  · split
    · simp [sumW, h1']
    split
    · simp [sumW]; omega
    · simp [sumW]
  · have := w2_le (mpS c)
    simp [sumW]; omega
theorem mapL_w1 (old : Bool) (l : List Int32) : (apartL (mapL old l)).length ≤ 2 * l.length := by
  rw [apart_len]
  exact sum_flat l (fun c _ => mpC_w1 old c)
theorem mapL_w2 (old : Bool) (l : List Int32) : sumW w2 (mapL old l) ≤ 10 * l.length := sum_flat l (fun c _ => mpC_w2 old c)
theorem mp_ok {c : Int32} (h : 0 ≤ c.toInt ∧ c.toInt ≤ 1114111) : 0 ≤ (mpS c).toInt ∧ (mpS c).toInt ≤ 1114111 := by
  by_cases z : imS c = -1
  · rw [im_no z]; exact h
  · have := im_ok z
    rw [this.1]; exact ⟨this.2.1, this.2.2.1⟩
theorem mapL_ok (old : Bool) {l : List Int32} (h : okC l) : okC (mapL old l) := by
  intro x hx
  unfold mapL at hx
  rw [List.mem_flatMap] at hx
  obtain ⟨c, hc, hx⟩ := hx
  unfold mpC at hx
  split at hx
  · simp at hx
  split at hx
  · split at hx
    · simp at hx; subst hx; decide
    split at hx
    · simp at hx; subst hx; decide
    · simp at hx
  · simp at hx
    rw [hx]; exact mp_ok (h c hc)
theorem pl_gd {c : Int32} (h : gdB c = true) : plB c = false := by
  unfold plB; rw [h]; simp
theorem pl_od {c : Int32} (h : plB c = true) : odB c = false := by
  rw [Bool.eq_false_iff]
  intro z
  rw [od_iff] at z
  rw [pl_iff] at h
  omega
/-! the class -/
theorem host_mapc {o : List Int32} {g : Nat → Int32} (hg : Rp g o) (ho : o.length ≤ 94) (c : Int32) (strict old : Bool) : ∃ g', P_Host_mapCode (nI o.length) g c (b2 strict) (b2 old) = some (b2 (!brC strict old c), nI (o ++ mpC old c).length, g') ∧ Rp g' (o ++ mpC old c) := by
  unfold P_Host_mapCode
  by_cases h173 : c = 173
  · rw [if_pos h173]
    have e1 : mpC old c = [] := by unfold mpC; rw [if_pos h173]
    have e2 : brC strict old c = false := by unfold brC; rw [if_pos h173]
    rw [e1, e2]
    exact ⟨g, by simp [b2], by simpa using hg⟩
  rw [if_neg h173]
  have h27 : (old && odB c) = false → ∃ g', P_Host_mapCode_27 c (b2 strict) (nI o.length) g = some (b2 (!brC strict old c), nI (o ++ mpC old c).length, g') ∧ Rp g' (o ++ mpC old c) := by
    intro hx
    have e1 : mpC old c = [mpS c] := by unfold mpC; rw [if_neg h173, hx]; simp
    have e2 : brC strict old c = !(gdB (mpS c) || (!strict && plB (mpS c)) || odB (mpS c)) := by unfold brC; rw [if_neg h173, hx]; simp
    unfold P_Host_mapCode_27
    have e3 := codes_good (mpS c) strict false
    rw [codes_map, Option.bind_some, row_add (by omega) (by omega), Option.bind_some]
    rw [show (0 : Int32) = b2 false from rfl, e3, Option.bind_some, e1, e2]
    refine ⟨_, ?_, hg.add _⟩
    simp
  cases old with
  | false =>
    rw [if_pos (show b2 false = 0 from rfl)]
    exact h27 (by simp)
  | true =>
    have hA : ¬ b2 true = 0 := by decide
    rw [if_neg hA, codes_odd, Option.bind_some]
    cases hod : odB c with
    | false =>
      rw [if_pos (show b2 false = 0 from rfl)]
      exact h27 (by simp [hod])
    | true =>
      rw [if_neg hA]
      have e2 : brC strict true c = false := by unfold brC; rw [if_neg h173, hod]; simp
      rw [e2]
      unfold P_Host_mapOdd
      by_cases h1 : c = 223
      · have e1 : mpC true c = [115, 115] := by unfold mpC; rw [if_neg h173, hod]; simp [h1]
        have r2 := row_add (N := 96) (f := upd g o.length 115) (l := o ++ [115]) (by simp; omega) (by omega) 115
        rw [List.length_append, List.length_singleton] at r2
        rw [if_pos h1, row_add (by omega) (by omega), Option.bind_some, r2, Option.bind_some, Option.bind_some, e1]
        have := (hg.add 115).add 115
        rw [List.append_assoc] at this
        refine ⟨_, ?_, by simpa using this⟩
        simp [b2]
      · rw [if_neg h1]
        by_cases h2 : c = 962
        · have e1 : mpC true c = [963] := by unfold mpC; rw [if_neg h173, hod]; simp [h2]
          rw [if_pos h2, row_add (by omega) (by omega), Option.bind_some, Option.bind_some, e1]
          exact ⟨_, by simp [b2], hg.add _⟩
        · have e1 : mpC true c = [] := by unfold mpC; rw [if_neg h173, hod]; simp [h1, h2]
          rw [if_neg h2, Option.bind_some, e1]
          exact ⟨g, by simp [b2], by simpa using hg⟩
theorem host_bit1 : P_Host_bit 1 = some 1 := rfl
theorem host_map23 {l : List Int32} {ft fm : Nat → Int32} (h : Rp ft l) (hl : l.length ≤ 48) (strict old : Bool) : ∃ g', P_Host_mapText_23 (nI l.length) ft (b2 strict) (b2 old) fm = some (b2 (brL strict old l), nI (mapL old l).length, g') ∧ Rp g' (mapL old l) := by
  unfold P_Host_mapText_23 P_Row_empty
  rw [Option.bind_some]
  refine fl4_p (P_Host_mapText_37 (nI l.length) ft (b2 strict) (b2 old)) (fun m v4 v5 sz gg => ∃ j, m = l.length - j ∧ j ≤ l.length ∧ v4 = b2 (brL strict old (l.take j)) ∧ v5 = nI j ∧ sz = nI (mapL old (l.take j)).length ∧ Rp gg (mapL old (l.take j))) (fun r => ∃ g', r = some (b2 (brL strict old l), nI (mapL old l).length, g') ∧ Rp g' (mapL old l)) ?_ fu l.length (0 : Int32) (0 : Int32) (0 : Int32) fm (by unfold fu; omega) ⟨0, rfl, by omega, rfl, rfl, rfl, Rp.nil⟩
  rintro m K v4 v5 sz gg ⟨j, hm, hj, rfl, rfl, rfl, hgg⟩ ih
  unfold P_Host_mapText_37 P_Row_size
  rw [Option.bind_some]
  by_cases hjl : l.length ≤ j
  · have ej : j = l.length := by omega
    subst ej
    rw [if_pos (nI_le (Nat.le_refl _) (by omega))]
    rw [List.take_length] at *
    exact ⟨gg, rfl, hgg⟩
  · have hjl2 : j < l.length := by omega
    have hlen := mapL_len old (l.take j)
    have htl : (l.take j).length ≤ j := by simp; omega
    rw [if_neg (nI_ge (by omega) (by omega)), row_get h hl (by omega) (by omega), Option.bind_some]
    obtain ⟨g', q1, q2⟩ := host_mapc hgg (by omega) (l.getD j (-1)) strict old
    rw [q1, Option.bind_some, host_bit1, Option.bind_some, nI_1]
    have e1 : mapL old (l.take (j + 1)) = mapL old (l.take j) ++ mpC old (l.getD j (-1)) := by rw [take_snoc hjl2, mapL_snoc, getD_get hjl2]
    have e2 : brL strict old (l.take (j + 1)) = (brL strict old (l.take j) || brC strict old (l.getD j (-1))) := by rw [take_snoc hjl2, brL_snoc, getD_get hjl2]
    cases hb : brC strict old (l.getD j (-1)) with
    | true =>
      rw [if_pos (show b2 (!true) = 0 from rfl)]
      exact ih (l.length - (j + 1)) _ _ _ _ (by omega) ⟨j + 1, rfl, by omega, by rw [e2, hb]; simp [b2], rfl, by rw [e1], by rw [e1]; exact q2⟩
    | false =>
      have hA : ¬ b2 (!false) = 0 := by decide
      rw [if_neg hA]
      exact ih (l.length - (j + 1)) _ _ _ _ (by omega) ⟨j + 1, rfl, by omega, by rw [e2, hb]; simp, rfl, by rw [e1], by rw [e1]; exact q2⟩
theorem host_map {l : List Int32} {ft fm : Nat → Int32} (h : Rp ft l) (hl : l.length ≤ 48) (a : Int32) : ∃ g', P_Host_mapText (nI l.length) ft fm a = some (b2 (brL (onB a 1) (onB a 2) l), nI (mapL (onB a 2) l).length, g') ∧ Rp g' (mapL (onB a 2) l) := by
  have e11 : ∀ s, P_Host_mapText_11 (nI l.length) ft a s fm = P_Host_mapText_23 (nI l.length) ft s (b2 (onB a 2)) fm := by
    intro s
    unfold P_Host_mapText_11 onB
    by_cases z : a &&& 2 = 0
    · rw [if_pos z]; simp [z, b2]
    · rw [if_neg z]; simp [z, b2]
  have e : P_Host_mapText (nI l.length) ft fm a = P_Host_mapText_23 (nI l.length) ft (b2 (onB a 1)) (b2 (onB a 2)) fm := by
    unfold P_Host_mapText
    rw [e11, e11]
    unfold onB
    by_cases z : a &&& 1 = 0
    · rw [if_pos z]; simp [z, b2]
    · rw [if_neg z]; simp [z, b2]
  rw [e]
  exact host_map23 h hl _ _
/-! the reference -/
theorem mod_add {o : List Int32} {g : Nat → Int32} (ho : o.length < 200) (c : Int32) : P_Mod_add (nI o.length) g c = some (nI (o.length + 1), upd g o.length c) := by
  unfold P_Mod_add
  rw [gi_ok ho (by omega), nI_1, nI_clamp (by omega)]
theorem mod_map185 {K : Int32 → Int32 → Int32 → (Nat → Int32) → Option (Int32 × Int32 × (Nat → Int32))} {v3 c sz : Int32} {g : Nat → Int32} : P_Mod_mapText_185 K v3 c sz g = K (b2 (!plB c && !gdB c && !odB c)) (v3 + 1) sz g := by
  unfold P_Mod_mapText_185
  simp only [mod_plain, mod_good, mod_odd, Option.bind_some, b2_0]
  cases plB c <;> cases gdB c <;> cases odB c <;> rfl
theorem mod_map106 {K : Int32 → Int32 → Int32 → (Nat → Int32) → Option (Int32 × Int32 × (Nat → Int32))} {a v3 c : Int32} {o : List Int32} {g : Nat → Int32} (ho : o.length < 200) (br old : Bool) (hc : old = true → c ≠ 223 ∧ c ≠ 962) :
    ∃ g', P_Mod_mapText_106 a K (b2 br) v3 c (b2 (odB c && old)) (imS c) (nI o.length) g = K (b2 (br || brC (onB a 1) old c)) (v3 + 1) (nI (o ++ mpC old c).length) g' ∧ (Rp g o → Rp g' (o ++ mpC old c)) := by
  unfold P_Mod_mapText_106
  by_cases him : imS c = -1
  · have hneg : imS c < 0 := by rw [him]; decide
    have hmp := im_no him
    rw [if_pos hneg]
    cases hoo : (odB c && old) with
    | true =>
      have hA : ¬ b2 true = 0 := by decide
      rw [if_neg hA]
      rw [Bool.and_eq_true] at hoo
      obtain ⟨h1, h2⟩ := hoo
      obtain ⟨n1, n2⟩ := hc h2
      have h173 : ¬ c = 173 := by
        intro e; rw [e] at h1; revert h1; decide
      have e1 : mpC old c = [] := by unfold mpC; rw [if_neg h173, h1, h2]; simp [n1, n2]
      have e2 : brC (onB a 1) old c = false := by unfold brC; rw [if_neg h173, h1, h2]; simp
      rw [e1, e2]
      exact ⟨g, by simp, fun h => by simpa using h⟩
    | false =>
      rw [if_pos (show b2 false = 0 from rfl)]
      by_cases h173 : c = 173
      · rw [if_pos h173]
        have e1 : mpC old c = [] := by unfold mpC; rw [if_pos h173]
        have e2 : brC (onB a 1) old c = false := by unfold brC; rw [if_pos h173]
        rw [e1, e2]
        exact ⟨g, by simp, fun h => by simpa using h⟩
      · rw [if_neg h173, mod_add ho, Option.bind_some]
        have hoo' : (old && odB c) = false := by rw [Bool.and_comm]; exact hoo
        have e1 : mpC old c = [c] := by unfold mpC; rw [if_neg h173, hoo', hmp]; simp
        have e2 : brC (onB a 1) old c = !(gdB c || (!(onB a 1) && plB c) || odB c) := by unfold brC; rw [if_neg h173, hoo', hmp]; simp
        rw [e1, e2]
        refine ⟨_, ?_, fun h => h.add c⟩
        simp only [mod_plain, mod_on, Option.bind_some, b2_0, mod_map185, List.length_append, List.length_singleton]
        have p1 := @pl_gd c
        have p2 := @pl_od c
        cases br <;> cases h1 : plB c <;> cases h2 : onB a 1 <;> cases h3 : gdB c <;> cases h4 : odB c <;> simp [b2, h1, h3, h4] at * <;> rfl
  · obtain ⟨i1, i2, i3, i4, i5, i6, i7⟩ := im_ok him
    have hneg : ¬ imS c < 0 := by
      rw [Int32.lt_iff_toInt_lt]; simp only [Int32.reduceToInt]; omega
    rw [if_neg hneg, mod_add ho, Option.bind_some]
    have hoo' : (old && odB c) = false := by rw [i4]; simp
    have e1 : mpC old c = [imS c] := by unfold mpC; rw [if_neg i7, hoo', i1]; simp
    have e2 : brC (onB a 1) old c = !(gdB (imS c) || (!(onB a 1) && plB (imS c)) || odB (imS c)) := by unfold brC; rw [if_neg i7, hoo', i1]; simp
    rw [e1, e2, i5]
    refine ⟨_, ?_, fun h => h.add _⟩
    simp only [mod_plain, mod_on, Option.bind_some, b2_0, List.length_append, List.length_singleton]
    have p1 := @pl_gd (imS c)
    cases br <;> cases h1 : plB (imS c) <;> cases h2 : onB a 1 <;> cases h3 : gdB (imS c) <;> simp [b2, h1, h3] at * <;> rfl
theorem mod_map46 {K : Int32 → Int32 → Int32 → (Nat → Int32) → Option (Int32 × Int32 × (Nat → Int32))} {a v3 c : Int32} {o : List Int32} {g : Nat → Int32} (ho : o.length < 199) (br old : Bool) :
    ∃ g', P_Mod_mapText_46 a K (b2 br) v3 c (b2 (odB c && old)) (nI o.length) g = K (b2 (br || brC (onB a 1) old c)) (v3 + 1) (nI (o ++ mpC old c).length) g' ∧ (Rp g o → Rp g' (o ++ mpC old c)) := by
  unfold P_Mod_mapText_46 P_Mod_mapText_83
  rw [mod_image, Option.bind_some]
  cases hoo : (odB c && old) with
  | false =>
    rw [if_pos (show b2 false = 0 from rfl), if_pos (show b2 false = 0 from rfl), ← hoo]
    refine mod_map106 (by omega) br old ?_
    intro h
    rw [h, Bool.and_true] at hoo
    constructor <;> (intro e; rw [e] at hoo; revert hoo; decide)
  | true =>
    have hA : ¬ b2 true = 0 := by decide
    rw [if_neg hA, if_neg hA]
    have hoo2 := hoo
    rw [Bool.and_eq_true] at hoo2
    obtain ⟨h1, h2⟩ := hoo2
    have h173 : ¬ c = 173 := by
      intro e; rw [e] at h1; revert h1; decide
    have e2 : brC (onB a 1) old c = false := by unfold brC; rw [if_neg h173, h1, h2]; simp
    by_cases c1 : c = 223
    · have e1 : mpC old c = [115, 115] := by unfold mpC; rw [if_neg h173, h1, h2]; simp [c1]
      have r2 := mod_add (g := upd g o.length 115) (o := o ++ [115]) (by simp; omega) 115
      rw [List.length_append, List.length_singleton] at r2
      rw [if_pos c1, mod_add (by omega), Option.bind_some, r2, Option.bind_some, e1, e2]
      refine ⟨upd (upd g o.length 115) (o.length + 1) 115, by simp, fun h => ?_⟩
      have := (h.add 115).add 115
      rw [List.append_assoc] at this
      simpa using this
    · rw [if_neg c1]
      by_cases c2 : c = 962
      · have e1 : mpC old c = [963] := by unfold mpC; rw [if_neg h173, h1, h2]; simp [c2]
        rw [if_pos c2, mod_add (by omega), Option.bind_some, e1, e2]
        exact ⟨_, by simp, fun h => h.add _⟩
      · rw [if_neg c2, ← hoo]
        exact mod_map106 (by omega) br old (fun _ => ⟨c1, c2⟩)
theorem mod_map {l : List Int32} {ft fm : Nat → Int32} (h : Rp ft l) (hl : l.length ≤ 48) (a : Int32) : ∃ g', P_Mod_mapText (nI l.length) ft fm a = some (b2 (brL (onB a 1) (onB a 2) l), nI (mapL (onB a 2) l).length, g') ∧ Rp g' (mapL (onB a 2) l) := by
  unfold P_Mod_mapText
  refine fl4_p (P_Mod_mapText_9 (nI l.length) ft a) (fun m v4 v5 sz gg => ∃ j, m = l.length - j ∧ j ≤ l.length ∧ v4 = b2 (brL (onB a 1) (onB a 2) (l.take j)) ∧ v5 = nI j ∧ sz = nI (mapL (onB a 2) (l.take j)).length ∧ Rp gg (mapL (onB a 2) (l.take j))) (fun r => ∃ g', r = some (b2 (brL (onB a 1) (onB a 2) l), nI (mapL (onB a 2) l).length, g') ∧ Rp g' (mapL (onB a 2) l)) ?_ fu l.length (0 : Int32) (0 : Int32) (0 : Int32) fm (by unfold fu; omega) ⟨0, rfl, by omega, rfl, rfl, rfl, Rp.nil⟩
  rintro m K v4 v5 sz gg ⟨j, hm, hj, rfl, rfl, rfl, hgg⟩ ih
  unfold P_Mod_mapText_9
  by_cases hjl : l.length ≤ j
  · have ej : j = l.length := by omega
    subst ej
    rw [if_pos (nI_le (Nat.le_refl _) (by omega))]
    rw [List.take_length] at *
    refine ⟨gg, ?_, hgg⟩
    unfold gb
    cases brL (onB a 1) (onB a 2) l <;> rfl
  · have hjl2 : j < l.length := by omega
    have hlen := mapL_len (onB a 2) (l.take j)
    have htl : (l.take j).length ≤ j := by simp; omega
    rw [if_neg (nI_ge (by omega) (by omega)), gi_ok (by omega) (by omega), nI_clamp (by omega), h.get hjl2 (-1)]
    generalize hc : l.getD j (-1) = c
    have e1 : mapL (onB a 2) (l.take (j + 1)) = mapL (onB a 2) (l.take j) ++ mpC (onB a 2) c := by rw [take_snoc hjl2, mapL_snoc, ← hc, getD_get hjl2]
    have e2 : brL (onB a 1) (onB a 2) (l.take (j + 1)) = (brL (onB a 1) (onB a 2) (l.take j) || brC (onB a 1) (onB a 2) c) := by rw [take_snoc hjl2, brL_snoc, ← hc, getD_get hjl2]
    obtain ⟨g', q1, q2⟩ := mod_map46 (K := K) (a := a) (v3 := nI j) (c := c) (o := mapL (onB a 2) (l.take j)) (g := gg) (by omega) (brL (onB a 1) (onB a 2) (l.take j)) (onB a 2)
    have hgo : ∃ g', P_Mod_mapText_46 a K (b2 (brL (onB a 1) (onB a 2) (l.take j))) (nI j) c (b2 (odB c && onB a 2)) (nI (mapL (onB a 2) (l.take j)).length) gg = some (b2 (brL (onB a 1) (onB a 2) l), nI (mapL (onB a 2) l).length, g') ∧ Rp g' (mapL (onB a 2) l) := by
      rw [q1, nI_1]
      exact ih (l.length - (j + 1)) _ _ _ _ (by omega) ⟨j + 1, rfl, by omega, by rw [e2], rfl, by rw [e1], by rw [e1]; exact q2 hgg⟩
    rw [mod_odd, Option.bind_some]
    cases hod : odB c with
    | false =>
      rw [if_pos (show b2 false = 0 from rfl)]
      rw [hod] at hgo
      exact hgo
    | true =>
      have hA : ¬ b2 true = 0 := by decide
      rw [if_neg hA, mod_on, Option.bind_some]
      rw [hod, Bool.true_and] at hgo
      cases hon : onB a 2 with
      | false => rw [hon] at hgo; rw [if_pos (show b2 false = 0 from rfl)]; exact hgo
      | true => rw [hon] at hgo; rw [if_neg hA]; exact hgo
