/-! ===== labels ===== -/
def tagB (x : List Int32) : Bool := decide (x.getD 0 (-1) = 120) && decide (x.getD 1 (-1) = 110) && decide (x.getD 2 (-1) = 45) && decide (x.getD 3 (-1) = 45)
theorem codes_tag {N : Nat} {f : Nat → Int32} {x : List Int32} (h : Rp f x) (hN : x.length ≤ N) (hN2 : N < 2 ^ 31) : P_Checker_isTagged N (nI x.length) f = some (b2 (tagB x)) := by
  have st : ∀ (K : Int32 → Option Int32) (j : Nat), j < 4 → P_Checker_isTagged_2 N (nI x.length) f K (nI j) = if x.getD j (-1) = tb_tag j then K (nI (j + 1)) else some 0 := by
    intro K j hj
    unfold P_Checker_isTagged_2
    have e4 : (4 : Int32) = nI 4 := rfl
    rw [e4, if_neg (nI_ge (by omega) (by omega)), row_get h hN hN2 (by omega), Option.bind_some, gi_ok (by omega) (by omega), nI_clamp (by omega), nI_1]
  have fin : ∀ K, P_Checker_isTagged_2 N (nI x.length) f K (nI 4) = some 1 := by
    intro K
    unfold P_Checker_isTagged_2
    rw [if_pos (by decide)]
  unfold P_Checker_isTagged
  have ef : fu = 99995 + 1 + 1 + 1 + 1 + 1 := rfl
  rw [ef]
  show fl1 _ _ (nI 0) = _
  rw [fl1_s, st _ 0 (by omega), fl1_s, st _ 1 (by omega), fl1_s, st _ 2 (by omega), fl1_s, st _ 3 (by omega), fl1_s, fin]
  unfold tagB
  have t0 : tb_tag 0 = 120 := rfl
  have t1 : tb_tag 1 = 110 := rfl
  have t2 : tb_tag 2 = 45 := rfl
  have t3 : tb_tag 3 = 45 := rfl
  rw [t0, t1, t2, t3]
  by_cases h0 : x.getD 0 (-1) = 120
  · by_cases h1 : x.getD 1 (-1) = 110
    · by_cases h2 : x.getD 2 (-1) = 45
      · by_cases h3 : x.getD 3 (-1) = 45
        · rw [if_pos h0, if_pos h1, if_pos h2, if_pos h3, decide_eq_true h0, decide_eq_true h1, decide_eq_true h2, decide_eq_true h3]; rfl
        · rw [if_pos h0, if_pos h1, if_pos h2, if_neg h3, decide_eq_false h3]; simp [b2]
      · rw [if_pos h0, if_pos h1, if_neg h2, decide_eq_false h2]; simp [b2]
    · rw [if_pos h0, if_neg h1, decide_eq_false h1]; simp [b2]
  · rw [if_neg h0, decide_eq_false h0]; simp [b2]
theorem getD_out {x : List Int32} {j : Nat} (h : x.length ≤ j) (d : Int32) : x.getD j d = d := by
  rw [List.getD_eq_getElem?_getD, List.getElem?_eq_none h]; rfl
theorem tagB_len {x : List Int32} (h : tagB x = true) : 4 ≤ x.length := by
  apply Classical.byContradiction
  intro hn
  unfold tagB at h
  rw [getD_out (j := 3) (by omega)] at h
  simp at h
theorem mod_tag {f : Nat → Int32} {x : List Int32} (h : Rp f x) (hN : x.length ≤ 200) : P_Mod_hasTag (nI x.length) f = some (b2 (tagB x)) := by
  unfold P_Mod_hasTag
  by_cases hl : x.length ≤ 3
  · have e3 : (3 : Int32) = nI 3 := rfl
    rw [e3, if_pos (nI_le hl (by omega))]
    have : tagB x = false := by
      rw [Bool.eq_false_iff]; intro z; have := tagB_len z; omega
    rw [this]; rfl
  · have hA : ¬ nI x.length ≤ 3 := nI_ge (a := 3) (by omega) (by omega)
    have g0 : (0 : Int32) = nI 0 := rfl
    have g1 : (1 : Int32) = nI 1 := rfl
    have g2 : (2 : Int32) = nI 2 := rfl
    have g3 : (3 : Int32) = nI 3 := rfl
    rw [if_neg hA]
    have c0 : ((0 : Int32)).toNatClampNeg = 0 := rfl
    have c1 : ((1 : Int32)).toNatClampNeg = 1 := rfl
    have c2 : ((2 : Int32)).toNatClampNeg = 2 := rfl
    have c3 : ((3 : Int32)).toNatClampNeg = 3 := rfl
    have i0 : ∀ a : Option Int32, gi (0 : Int32) 200 a = a := fun a => gi_ok (k := 0) (by omega) (by omega) a
    have i1 : ∀ a : Option Int32, gi (1 : Int32) 200 a = a := fun a => gi_ok (k := 1) (by omega) (by omega) a
    have i2 : ∀ a : Option Int32, gi (2 : Int32) 200 a = a := fun a => gi_ok (k := 2) (by omega) (by omega) a
    have i3 : ∀ a : Option Int32, gi (3 : Int32) 200 a = a := fun a => gi_ok (k := 3) (by omega) (by omega) a
    rw [i0, i1, i2, i3, c0, c1, c2, c3, h.get (show 0 < x.length by omega) (-1), h.get (show 1 < x.length by omega) (-1), h.get (show 2 < x.length by omega) (-1), h.get (show 3 < x.length by omega) (-1)]
    unfold tagB
    by_cases h0 : x.getD 0 (-1) = 120
    · by_cases h1 : x.getD 1 (-1) = 110
      · by_cases h2 : x.getD 2 (-1) = 45
        · by_cases h3 : x.getD 3 (-1) = 45
          · rw [if_pos h0, if_pos h1, if_pos h2, if_pos h3, decide_eq_true h0, decide_eq_true h1, decide_eq_true h2, decide_eq_true h3]; rfl
          · rw [if_pos h0, if_pos h1, if_pos h2, if_neg h3, decide_eq_false h3]; simp [b2]
        · rw [if_pos h0, if_pos h1, if_neg h2, decide_eq_false h2]; simp [b2]
      · rw [if_pos h0, if_neg h1, decide_eq_false h1]; simp [b2]
    · rw [if_neg h0, decide_eq_false h0]; simp [b2]
/-! cutting -/
def splitL (cur : List Int32) : List Int32 → List (List Int32)
  | [] => [cur]
  | c :: cs => if c = 46 then cur :: splitL [] cs else splitL (cur ++ [c]) cs
def wd (c : Int32) : Nat := if c = 46 then 1 else 0
theorem split_len : ∀ (l cur : List Int32), (splitL cur l).length = sumW wd l + 1
  | [], cur => rfl
  | c :: cs, cur => by
    simp only [splitL]
    rw [sumW_cons]
    by_cases h : c = 46
    · rw [if_pos h, List.length_cons, split_len cs]; simp [wd, h]; omega
    · rw [if_neg h, split_len cs]; simp [wd, h]
theorem split_w (w : Int32 → Nat) : ∀ (l cur : List Int32), ((splitL cur l).map (sumW w)).sum + sumW wd l * w 46 = sumW w cur + sumW w l
  | [], cur => by simp [splitL, sumW]
  | c :: cs, cur => by
    simp only [splitL]
    rw [sumW_cons, sumW_cons]
    by_cases h : c = 46
    · rw [if_pos h, List.map_cons, List.sum_cons]
      have ih := split_w w cs []
      simp only [sumW_nil] at ih
      have : wd c = 1 := by simp [wd, h]
      rw [this, Nat.add_mul, h]
      omega
    · rw [if_neg h]
      have ih := split_w w cs (cur ++ [c])
      rw [sumW_app, sumW_cons, sumW_nil] at ih
      have : wd c = 0 := by simp [wd, h]
      rw [this, Nat.zero_add]
      omega
theorem split_mem : ∀ (l cur : List Int32) (x : List Int32), x ∈ splitL cur l → ∀ c ∈ x, c ∈ cur ∨ (c ∈ l ∧ ¬ c = 46)
  | [], cur, x, hx, c, hc => by simp [splitL] at hx; subst hx; exact Or.inl hc
  | a :: cs, cur, x, hx, c, hc => by
    simp only [splitL] at hx
    by_cases h : a = 46
    · rw [if_pos h, List.mem_cons] at hx
      rcases hx with hx | hx
      · subst hx; exact Or.inl hc
      · rcases split_mem cs [] x hx c hc with q | q
        · cases q
        · exact Or.inr ⟨List.mem_cons_of_mem _ q.1, q.2⟩
    · rw [if_neg h] at hx
      rcases split_mem cs (cur ++ [a]) x hx c hc with q | q
      · rw [List.mem_append, List.mem_singleton] at q
        rcases q with q | q
        · exact Or.inl q
        · subst q; exact Or.inr ⟨List.mem_cons_self, h⟩
      · exact Or.inr ⟨List.mem_cons_of_mem _ q.1, q.2⟩
theorem split_ne (l cur : List Int32) : splitL cur l ≠ [] := by
  intro h
  have := split_len l cur
  rw [h] at this; simp at this
theorem wd_ok (c : Int32) : sumW wd (apL c) = wd c := by
  by_cases h : c ∈ pcL
  · rcases pcL_cases h with z | z | z | z | z | z | z | z | z | z | z | z | z | z | z | z | z | z <;> subst z <;> decide
  · rw [apL_no h]; simp [sumW]
theorem mpC_wd (old : Bool) (c : Int32) : sumW wd (mpC old c) ≤ 1 := by
  have h1 : wd 115 = 0 := by decide
  have h2 : wd 963 = 0 := by decide
  unfold mpC; split
  · simp [sumW]
  split
  · split
    · simp [sumW, h1]
    split <;> simp [sumW, h2]
  · simp [sumW, wd]; split <;> omega
theorem mapL_wd (old : Bool) (l : List Int32) : sumW wd (mapL old l) ≤ 1 * l.length := sum_flat l (fun c _ => mpC_wd old c)
/-- a label, whether it was tagged, and the rule that opening it broke -/
def openS (x : List Int32) : List Int32 × Bool × Int32 := if tagB x = true then (match unpS (x.drop 4) with
  | some u => if (u.any fun c => decide (127 < c)) = true then (u, true, 0) else (x, true, 2)
  | none => (x, true, 2)) else (x, false, 0)
theorem openS_len {x : List Int32} (hx : okC x) : (openS x).1.length ≤ x.length ∧ okC (openS x).1 := by
  unfold openS
  split
  · cases hu : unpS (x.drop 4) with
    | none => exact ⟨Nat.le_refl _, hx⟩
    | some u =>
      have hok : okC (x.drop 4) := fun c hc => hx c (List.mem_of_mem_drop hc)
      have := unp_ok hok hu
      simp only []
      split
      · refine ⟨?_, this.1⟩
        show u.length ≤ x.length
        simp at this; omega
      · exact ⟨Nat.le_refl _, hx⟩
  · exact ⟨Nat.le_refl _, hx⟩
/-! the class's labels -/
abbrev Lab := List Int32 × Bool × Int32
def codesL (S : List Lab) : List Int32 := S.flatMap (fun x => x.1)
def FR (S : List Lab) (n cs : Int32) (fc fe fr ft : Nat → Int32) : Prop := n = nI S.length ∧ cs = nI (codesL S).length ∧ Rp fc (codesL S) ∧ (∀ k, k < S.length → fe k = nI (codesL (S.take (k + 1))).length) ∧ Rp fr (S.map fun x => x.2.2) ∧ Rp ft (S.map fun x => b2 x.2.1)
theorem codesL_snoc (S : List Lab) (x : Lab) : codesL (S ++ [x]) = codesL S ++ x.1 := by
  unfold codesL; rw [List.flatMap_append]; simp
theorem FR_nil {fc fe fr ft : Nat → Int32} : FR [] 0 0 fc fe fr ft := ⟨rfl, rfl, Rp.nil, fun k hk => absurd hk (Nat.not_lt_zero _), Rp.nil, Rp.nil⟩
theorem narb (p : Bool) : vp_nar .boolean (b2 p) = b2 p := by cases p <;> rfl
theorem FR_add {S : List Lab} {n cs : Int32} {fc fe fr ft : Nat → Int32} (h : FR S n cs fc fe fr ft) (hS : S.length < 49) {N : Nat} {f : Nat → Int32} {x : List Int32} (hx : Rp f x) (hN : x.length ≤ N) (hN2 : N < 90000) (hfit : (codesL S).length + x.length ≤ 96) (t : Bool) (r : Int32) :
    ∃ fc' fe' fr' ft', P_Labels_add N n cs fc fe fr ft (nI x.length) f (b2 t) r = some (nI (S.length + 1), nI ((codesL S).length + x.length), fc', fe', fr', ft') ∧ FR (S ++ [(x, t, r)]) (nI (S.length + 1)) (nI ((codesL S).length + x.length)) fc' fe' fr' ft' := by
  obtain ⟨rfl, rfl, h3, h4, h5, h6⟩ := h
  unfold P_Labels_add P_Row_size
  obtain ⟨f', q1, q2⟩ := row_addPart (N := 96) (N2 := N) h3 hx (by omega) hN (by omega) (a := 0) (b := x.length) (by omega) (by omega) (by omega) (by omega)
  have e49 : (49 : Int32) = nI 49 := rfl
  have g0 : (0 : Int32) = nI 0 := rfl
  rw [e49, if_pos (nI_lt hS (by omega)), Option.bind_some]
  rw [show (nI 0 : Int32) = 0 from rfl] at q1
  rw [q1, Option.bind_some, Option.bind_some, gi_ok hS (by omega), gi_ok hS (by omega), gi_ok hS (by omega), nI_clamp (by omega), nI_1, narb, Nat.sub_zero]
  refine ⟨_, _, _, _, rfl, ?_⟩
  rw [List.drop_zero, Nat.sub_zero, List.take_length] at q2
  refine ⟨by simp, by rw [codesL_snoc, List.length_append], by rw [codesL_snoc]; exact q2, ?_, ?_, ?_⟩
  · intro k hk
    rw [List.length_append, List.length_singleton] at hk
    by_cases e : k = S.length
    · subst e
      rw [upd_s, List.take_of_length_le (by simp), codesL_snoc, List.length_append]
    · rw [upd_n _ _ e, h4 k (by omega), List.take_append_of_le_length (by omega)]
  · have := h5.add r
    rw [List.length_map] at this
    rw [List.map_append]; exact this
  · have := h6.add (b2 t)
    rw [List.length_map] at this
    rw [List.map_append]; exact this
theorem host_keep {S : List Lab} {n cs : Int32} {fc fe fr ft : Nat → Int32} (h : FR S n cs fc fe fr ft) (hS : S.length < 49) {fl fun' : Nat → Int32} {x : List Int32} (hx : Rp fl x) (hok : okC x) (hfit : (codesL S).length + x.length ≤ 96) (us b nx : Int32) :
    ∃ us' fun2 n' cs' fc' fe' fr' ft' b' nx', P_Host_keepLabel (nI x.length) fl us fun' n cs fc fe fr ft b nx = some (us', fun2, n', cs', fc', fe', fr', ft', b', nx') ∧ FR (S ++ [openS x]) n' cs' fc' fe' fr' ft' := by
  unfold P_Host_keepLabel
  rw [codes_tag hx (by omega) (by omega), Option.bind_some]
  have h75 : ∀ us fun' b nx, openS x = (x, true, 2) → ∃ us' fun2 n' cs' fc' fe' fr' ft' b' nx', P_Host_keepLabel_75 (nI x.length) fl us fun' n cs fc fe fr ft b nx = some (us', fun2, n', cs', fc', fe', fr', ft', b', nx') ∧ FR (S ++ [openS x]) n' cs' fc' fe' fr' ft' := by
    intro us fun' b nx ho
    unfold P_Host_keepLabel_75
    have e2 : P_Host_bit 2 = some 2 := rfl
    obtain ⟨c1, c2, c3, c4, q1, q2⟩ := FR_add h hS hx (N := 96) (by omega) (by omega) hfit true 2
    rw [show (1 : Int32) = b2 true from rfl, e2, Option.bind_some, q1, Option.bind_some, ho]
    exact ⟨_, _, _, _, _, _, _, _, _, _, rfl, q2⟩
  cases ht : tagB x with
  | false =>
    rw [if_pos (show b2 false = 0 from rfl)]
    have ho : openS x = (x, false, 0) := by unfold openS; rw [ht]; rfl
    obtain ⟨c1, c2, c3, c4, q1, q2⟩ := FR_add h hS hx (N := 96) (by omega) (by omega) hfit false 0
    rw [show b2 false = (0 : Int32) from rfl] at q1
    rw [q1, Option.bind_some, ho]
    exact ⟨_, _, _, _, _, _, _, _, _, _, rfl, q2⟩
  | true =>
    have hA : ¬ b2 true = 0 := by decide
    rw [if_neg hA]
    have h4 := tagB_len ht
    have hok4 : okC (x.drop 4) := fun c hc => hok c (List.mem_of_mem_drop hc)
    rw [show (4 : Int32) = nI 4 from rfl]
    rcases codes_read (N := 96) (N3 := 48) (f3 := fun') hx (by omega) (by omega) (by omega) (by omega) (by omega) h4 b with ⟨r1, b', n', z, g', r2⟩ | ⟨u, b', n', g', r1, r2, r3, r4⟩
    · rw [r2, Option.bind_some, if_pos rfl]
      exact h75 _ _ _ _ (by unfold openS; rw [ht, r1]; rfl)
    · have hb : ¬ (1 : Int32) = 0 := by decide
      rw [r3, Option.bind_some, if_neg hb, row_hasAbove r4 r2 (by omega), Option.bind_some]
      have huk := unp_ok hok4 r1
      cases ha : (u.any fun x => decide (127 < x)) with
      | false =>
        rw [if_pos (show b2 false = 0 from rfl)]
        exact h75 _ _ _ _ (by unfold openS; rw [ht, r1]; simp only []; rw [ha]; rfl)
      | true =>
        rw [if_neg hA]
        have ho : openS x = (u, true, 0) := by unfold openS; rw [ht, r1]; simp only []; rw [ha]; rfl
        obtain ⟨c1, c2, c3, c4, q1, q2⟩ := FR_add h hS r4 (N := 48) r2 (by omega) (by simp at huk; omega) true 0
        rw [show b2 true = (1 : Int32) from rfl] at q1
        rw [q1, Option.bind_some, ho]
        exact ⟨_, _, _, _, _, _, _, _, _, _, rfl, q2⟩
