/-! ===== the other checks ===== -/
def gC (strict old : Bool) (c : Int32) : Bool := gdB c || (!strict && plB c) || (!old && odB c)
def goodL (strict old : Bool) (x : List Int32) : Bool := x.all (gC strict old)
theorem codes_allgood {N : Nat} {f : Nat → Int32} {x : List Int32} (h : Rp f x) (hN : x.length ≤ N) (hN2 : N < 90000) (strict old : Bool) : P_Checker_isAllGood N (nI x.length) f (b2 strict) (b2 old) = some (b2 (goodL strict old x)) := by
  unfold P_Checker_isAllGood
  refine fl1_p (P_Checker_isAllGood_2 N (nI x.length) f (b2 strict) (b2 old)) (fun m v => ∃ j, m = x.length - j ∧ j ≤ x.length ∧ v = nI j ∧ goodL strict old x = goodL strict old (x.drop j)) (fun r => r = some (b2 (goodL strict old x))) ?_ fu x.length (0 : Int32) (by unfold fu; omega) ⟨0, rfl, by omega, rfl, by simp⟩
  rintro m K v ⟨j, hm, hj, rfl, he⟩ ih
  unfold P_Checker_isAllGood_2 P_Row_size
  rw [Option.bind_some]
  by_cases hjl : x.length ≤ j
  · have ej : j = x.length := by omega
    subst ej
    rw [if_pos (nI_le (Nat.le_refl _) (by omega)), he, List.drop_length]; rfl
  · have hjl2 : j < x.length := by omega
    rw [if_neg (nI_ge (by omega) (by omega)), row_get h hN (by omega) (by omega), Option.bind_some, codes_good, Option.bind_some, nI_1]
    rw [drop_get_cons hjl2] at he
    have he2 : goodL strict old x = (gC strict old (x.getD j (-1)) && goodL strict old (x.drop (j + 1))) := he
    have hg : (gdB (x.getD j (-1)) || (!strict && plB (x.getD j (-1))) || (!old && odB (x.getD j (-1)))) = gC strict old (x.getD j (-1)) := rfl
    rw [hg]
    cases hp : gC strict old (x.getD j (-1)) with
    | false =>
      rw [hp] at he2
      rw [if_pos (show b2 false = 0 from rfl), he2]; rfl
    | true =>
      rw [hp] at he2
      have hA : ¬ b2 true = 0 := by decide
      rw [if_neg hA]
      exact ih (x.length - (j + 1)) _ (by omega) ⟨j + 1, rfl, by omega, rfl, by rw [he2]; simp⟩
theorem goodL_snoc (strict old : Bool) (l : List Int32) (c : Int32) : goodL strict old (l ++ [c]) = (goodL strict old l && gC strict old c) := by
  unfold goodL; rw [List.all_append]; simp
theorem mod_good55 {K : Int32 → Int32 → Option Int32} {a v4 c : Int32} (J b : Bool) : P_Mod_allGood_55 a K (b2 J) v4 c (b2 b) = K (b2 (J && (gdB c || (!(onB a 1) && plB c) || b))) (v4 + 1) := by
  unfold P_Mod_allGood_55 P_Mod_allGood_85
  simp only [mod_good, mod_plain, mod_on, Option.bind_some, b2_0]
  cases J <;> cases gdB c <;> cases plB c <;> cases onB a 1 <;> cases b <;> rfl
theorem mod_allgood {st sz pool tg : Nat → Int32} {k : Nat} {x : List Int32} (hk : k < 50) (hsz : sz k = nI x.length) (hlen : x.length ≤ 96) (hcode : ∀ i, i < x.length → P_Mod_codeOf st pool (nI k) (nI i) = some (x.getD i (-1))) {t : Bool} (htg : tg k = b2 t) (a : Int32) : P_Mod_allGood st sz tg pool (nI k) a = some (b2 (goodL (onB a 1) (!(t || !(onB a 2))) x)) := by
  unfold P_Mod_allGood
  refine fl2_p (P_Mod_allGood_5 st sz tg pool (nI k) a) (fun m v2 v3 => ∃ j, m = x.length - j ∧ j ≤ x.length ∧ v3 = nI j ∧ v2 = b2 (goodL (onB a 1) (!(t || !(onB a 2))) (x.take j))) (fun r => r = some (b2 (goodL (onB a 1) (!(t || !(onB a 2))) x))) ?_ fu x.length (1 : Int32) (0 : Int32) (by unfold fu; omega) ⟨0, rfl, by omega, rfl, rfl⟩
  rintro m K v2 v3 ⟨j, hm, hj, rfl, rfl⟩ ih
  unfold P_Mod_allGood_5
  simp only [gi_ok hk (show 50 < 2 ^ 31 by omega), nI_clamp (show k < 2 ^ 31 by omega), hsz, htg]
  by_cases hjl : x.length ≤ j
  · have ej : j = x.length := by omega
    subst ej
    rw [if_pos (nI_le (Nat.le_refl _) (by omega)), List.take_length]
    unfold gb
    cases goodL (onB a 1) (!(t || !(onB a 2))) x <;> rfl
  · have hjl2 : j < x.length := by omega
    rw [if_neg (nI_ge (by omega) (by omega)), hcode j hjl2, Option.bind_some, mod_odd, Option.bind_some, mod_on, Option.bind_some]
    have et : x.take (j + 1) = x.take j ++ [x.getD j (-1)] := by rw [take_snoc hjl2, getD_get hjl2]
    have go : ∀ b, b = (odB (x.getD j (-1)) && (t || !(onB a 2))) → P_Mod_allGood_55 a K (b2 (goodL (onB a 1) (!(t || !(onB a 2))) (x.take j))) (nI j) (x.getD j (-1)) (b2 b) = some (b2 (goodL (onB a 1) (!(t || !(onB a 2))) x)) := by
      rintro b rfl
      rw [mod_good55, nI_1]
      refine ih (x.length - (j + 1)) _ _ (by omega) ⟨j + 1, rfl, by omega, rfl, ?_⟩
      rw [et, goodL_snoc]
      unfold gC
      rw [Bool.not_not, Bool.and_comm (odB _)]
    simp only [b2_0]
    cases ho : odB (x.getD j (-1)) with
    | false => exact go false (by rw [ho]; rfl)
    | true =>
      rw [ho] at go
      cases t with
      | true => exact go true (by simp)
      | false =>
        cases hon : onB a 2 with
        | false => rw [hon] at go; exact go true (by simp)
        | true => rw [hon] at go; exact go false (by simp)
/-! hyphens -/
def hy4 (x : List Int32) : Bool := decide (x.getD 2 (-1) = 45) && decide (x.getD 3 (-1) = 45)
def hy5 (x : List Int32) : Bool := decide (x.getD 0 (-1) = 45) || decide (x.getD (x.length - 1) (-1) = 45)
def orI (v : Int32) (b : Bool) (k : Int32) : Int32 := if b then v ||| k else v
def adI (v : Int32) (b : Bool) (k : Int32) : Int32 := if b then v + k else v
theorem orI_t (v k : Int32) : orI v true k = v ||| k := rfl
theorem orI_f (v k : Int32) : orI v false k = v := rfl
theorem adI_t (v k : Int32) : adI v true k = v + k := rfl
theorem adI_f (v k : Int32) : adI v false k = v := rfl
theorem codes_hyph {N : Nat} {f : Nat → Int32} {x : List Int32} (h : Rp f x) (hN : x.length ≤ N) (hN2 : N < 90000) (hpos : 0 < x.length) : P_Checker_brokenHyphenRules N (nI x.length) f = some (orI (orI 0 (hy4 x) 8) (hy5 x) 16) := by
  have h29 : ∀ v, P_Checker_brokenHyphenRules_29 N (nI x.length) f v = some (orI v (hy5 x) 16) := by
    intro v
    unfold P_Checker_brokenHyphenRules_29 P_Checker_brokenHyphenRules_54 P_Row_size hy5
    have e0 : nI x.length - 1 = nI (x.length - 1) := by
      obtain ⟨q, hq⟩ : ∃ q, x.length = q + 1 := ⟨x.length - 1, by omega⟩
      rw [hq]; exact nI_pred q
    have b5 : P_Host_bit 5 = some 16 := rfl
    have g0 := row_get h hN (by omega) (show 0 < 2 ^ 31 by omega)
    rw [show nI 0 = (0 : Int32) from rfl] at g0
    rw [g0, Option.bind_some, Option.bind_some, e0, row_get h hN (by omega) (by omega), Option.bind_some, b5, Option.bind_some]
    by_cases c1 : x.getD 0 (-1) = 45
    · rw [if_pos c1, decide_eq_true c1]; rfl
    · rw [if_neg c1, decide_eq_false c1]
      by_cases c2 : x.getD (x.length - 1) (-1) = 45
      · rw [if_pos c2, decide_eq_true c2]; rfl
      · rw [if_neg c2, decide_eq_false c2]; rfl
  unfold P_Checker_brokenHyphenRules hy4
  have g2 := row_get h hN (by omega) (show 2 < 2 ^ 31 by omega)
  rw [show nI 2 = (2 : Int32) from rfl] at g2
  have g3 := row_get h hN (by omega) (show 3 < 2 ^ 31 by omega)
  rw [show nI 3 = (3 : Int32) from rfl] at g3
  have b4 : P_Host_bit 4 = some 8 := rfl
  rw [g2, Option.bind_some, g3, Option.bind_some, b4, Option.bind_some, h29, h29]
  by_cases c1 : x.getD 2 (-1) = 45
  · rw [if_pos c1, decide_eq_true c1]
    by_cases c2 : x.getD 3 (-1) = 45
    · rw [if_pos c2, decide_eq_true c2]; rfl
    · rw [if_neg c2, decide_eq_false c2]; rfl
  · rw [if_neg c1, decide_eq_false c1]; rfl
theorem mod_hyph {st sz pool : Nat → Int32} {k : Nat} {x : List Int32} (hk : k < 50) (hsz : sz k = nI x.length) (hlen : x.length ≤ 96) (hcode : ∀ i, i < x.length → P_Mod_codeOf st pool (nI k) (nI i) = some (x.getD i (-1))) (hpos : 0 < x.length) : P_Mod_hyphenRules st sz pool (nI k) = some (adI (adI 0 (hy4 x) 8) (hy5 x) 16) := by
  have h40 : ∀ v, P_Mod_hyphenRules_40 st pool (nI k) (nI x.length) v = some (adI v (hy5 x) 16) := by
    intro v
    unfold P_Mod_hyphenRules_40 hy5
    have e0 : nI x.length - 1 = nI (x.length - 1) := by
      obtain ⟨q, hq⟩ : ∃ q, x.length = q + 1 := ⟨x.length - 1, by omega⟩
      rw [hq]; exact nI_pred q
    have g0 := hcode 0 hpos
    rw [show nI 0 = (0 : Int32) from rfl] at g0
    rw [g0, Option.bind_some, e0, hcode _ (by omega), Option.bind_some]
    by_cases c1 : x.getD 0 (-1) = 45
    · rw [if_pos c1, decide_eq_true c1]; rfl
    · rw [if_neg c1, decide_eq_false c1]
      by_cases c2 : x.getD (x.length - 1) (-1) = 45
      · rw [if_pos c2, decide_eq_true c2]; rfl
      · rw [if_neg c2, decide_eq_false c2]; rfl
  unfold P_Mod_hyphenRules hy4
  rw [gi_ok hk (by omega), nI_clamp (by omega), hsz, h40, h40]
  by_cases h3 : x.length ≤ 3
  · have hA : nI x.length ≤ 3 := nI_le (b := 3) h3 (by omega)
    rw [if_pos hA, getD_out (j := 3) h3]
    have : decide ((-1 : Int32) = 45) = false := by decide
    rw [this, Bool.and_false]; rfl
  · have hA : ¬ nI x.length ≤ 3 := nI_ge (a := 3) (by omega) (by omega)
    have g2 := hcode 2 (by omega)
    rw [show nI 2 = (2 : Int32) from rfl] at g2
    have g3 := hcode 3 (by omega)
    rw [show nI 3 = (3 : Int32) from rfl] at g3
    rw [if_neg hA, g2, Option.bind_some, g3, Option.bind_some]
    by_cases c1 : x.getD 2 (-1) = 45
    · rw [if_pos c1, decide_eq_true c1]
      by_cases c2 : x.getD 3 (-1) = 45
      · rw [if_pos c2, decide_eq_true c2]; rfl
      · rw [if_neg c2, decide_eq_false c2]; rfl
    · rw [if_neg c1, decide_eq_false c1]; rfl
/-! composed form -/
theorem mod_composed {ls : List (List Int32)} {st sz pool row other : Nat → Int32} {ps k : Nat} (h : MR ls st sz pool ps) (hps : ps ≤ 300) (hk : k < ls.length) (hls : ls.length ≤ 50) (hlen : (ls.getD k []).length ≤ 96) (hap : (apartL (ls.getD k [])).length ≤ 200) : ∃ rs row' other', P_Mod_composed row other st sz pool (nI k) = some (b2 (decide (cmpS (ls.getD k []) = ls.getD k [])), rs, row', other') := by
  unfold P_Mod_composed
  obtain ⟨r1, q1, q2⟩ := mod_fetch (row := row) h hps hk hls hlen
  have hcode := fun i (hi : i < (ls.getD k []).length) => mod_code h hps hk hls hi
  obtain ⟨s, a1, a2, a3, a4⟩ := h k hk
  generalize ls.getD k [] = x at *
  obtain ⟨r2, o2, p1, p2⟩ := mod_compose (other := other) q2 (by omega) hap
  have hcl := cmp_len_le x
  rw [q1, Option.bind_some, p1, Option.bind_some, gi_ok (by omega) (by omega), nI_clamp (by omega), a2]
  generalize cmpS x = c at *
  have main : ∀ sm : Bool, sm = decide (c.length = x.length) → ∃ rs row' other', fl2 (P_Mod_composed_30 st sz pool (nI k) (nI c.length) r2 o2) fu (b2 sm) 0 = some (b2 (decide (c = x)), rs, row', other') := by
    rintro sm rfl
    refine fl2_p (P_Mod_composed_30 st sz pool (nI k) (nI c.length) r2 o2) (fun m v2 v3 => ∃ j, m = x.length - j ∧ j ≤ x.length ∧ v3 = nI j ∧ v2 = b2 (decide (c.length = x.length) && decide (c.take j = x.take j))) (fun r => ∃ rs row' other', r = some (b2 (decide (c = x)), rs, row', other')) ?_ fu x.length (b2 (decide (c.length = x.length))) (0 : Int32) (by unfold fu; omega) ⟨0, rfl, by omega, rfl, by simp⟩
    rintro m K v2 v3 ⟨j, hm, hj, rfl, rfl⟩ ih
    unfold P_Mod_composed_30
    rw [gi_ok (by omega) (by omega), nI_clamp (by omega), a2]
    have stop : ∀ b : Bool, b = decide (c = x) → ∃ rs row' other', gb (b2 b) (some (b2 b, nI c.length, r2, o2)) = some (b2 (decide (c = x)), rs, row', other') := by
      rintro b rfl
      refine ⟨nI c.length, r2, o2, ?_⟩
      unfold gb
      cases decide (c = x) <;> rfl
    by_cases hjl : x.length ≤ j
    · have ej : j = x.length := by omega
      subst ej
      rw [if_pos (nI_le (Nat.le_refl _) (by omega))]
      apply stop
      rw [List.take_length]
      by_cases hcx : c = x
      · subst hcx; simp
      · rw [decide_eq_false hcx]
        by_cases hl : c.length = x.length
        · rw [← hl, List.take_length, decide_eq_false hcx, Bool.and_false]
        · rw [decide_eq_false hl]; rfl
    · have hjl2 : j < x.length := by omega
      rw [if_neg (nI_ge (by omega) (by omega))]
      cases hb : (decide (c.length = x.length) && decide (c.take j = x.take j)) with
      | false =>
        rw [if_pos (show b2 false = 0 from rfl)]
        apply stop
        symm
        rw [decide_eq_false_iff_not]
        intro z
        subst z
        simp at hb
      | true =>
        have hA : ¬ b2 true = 0 := by decide
        rw [if_neg hA]
        rw [Bool.and_eq_true, decide_eq_true_eq, decide_eq_true_eq] at hb
        obtain ⟨hb1, hb2⟩ := hb
        have hjc : j < c.length := by omega
        rw [gi_ok (by omega) (by omega), hcode j hjl2, Option.bind_some, nI_clamp (by omega), p2.get hjc (-1), nI_1]
        have et : c.take (j + 1) = c.take j ++ [c.getD j (-1)] := by rw [take_snoc hjc, getD_get hjc]
        have ex : x.take (j + 1) = x.take j ++ [x.getD j (-1)] := by rw [take_snoc hjl2, getD_get hjl2]
        have go : ∀ b : Bool, b = (decide (c.length = x.length) && decide (c.take (j + 1) = x.take (j + 1))) → ∃ rs row' other', K (b2 b) (nI (j + 1)) = some (b2 (decide (c = x)), rs, row', other') := by
          rintro b rfl
          exact ih (x.length - (j + 1)) _ _ (by omega) ⟨j + 1, rfl, by omega, rfl, rfl⟩
        have eqv : (c.take (j + 1) = x.take (j + 1)) ↔ c.getD j (-1) = x.getD j (-1) := by
          rw [et, ex, hb2]; simp
        by_cases hcc : c.getD j (-1) = x.getD j (-1)
        · rw [if_pos hcc]
          exact go true (by rw [decide_eq_true hb1, decide_eq_true (eqv.2 hcc)]; rfl)
        · rw [if_neg hcc]
          exact go false (by rw [decide_eq_false (fun z => hcc (eqv.1 z)), Bool.and_false])
  by_cases hl : c.length = x.length
  · rw [if_pos (by rw [hl])]
    exact main true (by rw [decide_eq_true hl])
  · have hA : ¬ nI c.length = nI x.length := by rw [nI_iff (by omega) (by omega)]; exact hl
    rw [if_neg hA]
    exact main false (by rw [decide_eq_false hl])
