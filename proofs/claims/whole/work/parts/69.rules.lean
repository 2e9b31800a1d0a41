/-! ===== the rules of one label ===== -/
def rulO (hy b3 h4 h5 tg mk gd jn dr : Bool) : Int32 := orI (orI (orI (orI (orI (if hy then (if b3 then 4 else 0) ||| orI (orI 0 h4 8) h5 16 else (if b3 then 4 else 0)) tg 32) mk 64) gd 128) jn 256) dr 512
def rulA (hy b3 h4 h5 tg mk gd jn dr : Bool) : Int32 := adI (adI (adI (adI (adI (if hy then (if b3 then 4 else 0) + adI (adI 0 h4 8) h5 16 else (if b3 then 4 else 0)) tg 32) mk 64) gd 128) jn 256) dr 512
theorem rul_eq (hy b3 h4 h5 tg mk gd jn dr : Bool) : rulA hy b3 h4 h5 tg mk gd jn dr = rulO hy b3 h4 h5 tg mk gd jn dr := by
  cases hy <;> cases b3 <;> cases h4 <;> cases h5 <;> cases tg <;> cases mk <;> cases gd <;> cases jn <;> cases dr <;> rfl
def rulX (hy st old jn right : Bool) (x : List Int32) : Int32 := rulO hy (!decide (cmpS x = x)) (hy4 x) (hy5 x) (tagB x) (mkB (x.getD 0 (-1))) (!goodL st old x) (jn && !jnP x x.length) (right && !dirB x)
theorem onB_if {α : Sort _} (a k : Int32) (p q : α) : (if (a &&& k) = 0 then p else q) = if onB a k then q else p := by
  unfold onB
  by_cases h : a &&& k = 0
  · rw [if_pos h, decide_eq_true h]; rfl
  · rw [if_neg h, decide_eq_false h]; rfl
theorem codes_rules {f fp ff : Nat → Int32} {x : List Int32} (h : Rp f x) (hpos : 0 < x.length) (hlen : x.length ≤ 96) (hap : (apartL x).length ≤ 96) (a : Int32) (right : Bool) :
    ∃ np fp' nf ff', P_Checker_brokenRules 96 fp ff (nI x.length) f a (b2 right) = some (rulX (onB a 4) (onB a 1) (onB a 2) (onB a 8) right x, np, fp', nf, ff') := by
  unfold P_Checker_brokenRules
  obtain ⟨np, fp', f', q1, q2⟩ := codes_form (N := 96) (N2 := 96) (fp := fp) (ft := ff) h hlen (by omega) hap (by omega) (by omega)
  have hcl := cmp_len_le x
  have hd : ∀ v np fp' nf ff', P_Checker_brokenRules_149 96 (nI x.length) f (b2 right) v np fp' nf ff' = some (orI v (right && !dirB x) 512, np, fp', nf, ff') := by
    intro v np fp' nf ff'
    unfold P_Checker_brokenRules_149
    have b10 : P_Host_bit 10 = some 512 := rfl
    rw [codes_direct h hlen (by omega), Option.bind_some, b10, Option.bind_some]
    simp only [b2_0]
    cases right <;> cases dirB x <;> rfl
  have hj : ∀ v np fp' nf ff', P_Checker_brokenRules_125 96 (nI x.length) f a (b2 right) v np fp' nf ff' = some (orI (orI v (onB a 8 && !jnP x x.length) 256) (right && !dirB x) 512, np, fp', nf, ff') := by
    intro v np fp' nf ff'
    unfold P_Checker_brokenRules_125
    have b9 : P_Host_bit 9 = some 256 := rfl
    rw [codes_joiners h hlen (by omega), Option.bind_some, b9, Option.bind_some, hd, hd, onB_if]
    simp only [b2_0]
    cases onB a 8 <;> cases jnP x x.length <;> rfl
  have hg : ∀ v np fp' nf ff', P_Checker_brokenRules_86 96 (nI x.length) f a (b2 right) v np fp' nf ff' = some (orI (orI (orI v (!goodL (onB a 1) (onB a 2) x) 128) (onB a 8 && !jnP x x.length) 256) (right && !dirB x) 512, np, fp', nf, ff') := by
    intro v np fp' nf ff'
    have h109 : ∀ s o : Bool, P_Checker_brokenRules_109 96 (nI x.length) f a (b2 right) v (b2 o) (b2 s) np fp' nf ff' = some (orI (orI (orI v (!goodL s o x) 128) (onB a 8 && !jnP x x.length) 256) (right && !dirB x) 512, np, fp', nf, ff') := by
      intro s o
      unfold P_Checker_brokenRules_109
      have b8 : P_Host_bit 8 = some 128 := rfl
      rw [codes_allgood h hlen (by omega), Option.bind_some, b8, Option.bind_some, hj, hj]
      simp only [b2_0]
      cases goodL s o x <;> rfl
    have h98 : ∀ s : Bool, P_Checker_brokenRules_98 96 (nI x.length) f a (b2 right) v (b2 s) np fp' nf ff' = some (orI (orI (orI v (!goodL s (onB a 2) x) 128) (onB a 8 && !jnP x x.length) 256) (right && !dirB x) 512, np, fp', nf, ff') := by
      intro s
      unfold P_Checker_brokenRules_98
      rw [onB_if]
      cases hon : onB a 2 with
      | false => exact h109 s false
      | true => exact h109 s true
    unfold P_Checker_brokenRules_86
    rw [onB_if]
    cases hon : onB a 1 with
    | false => exact h98 false
    | true => exact h98 true
  have hm : ∀ v np fp' nf ff', P_Checker_brokenRules_65 96 (nI x.length) f a (b2 right) v np fp' nf ff' = some (orI (orI (orI (orI v (mkB (x.getD 0 (-1))) 64) (!goodL (onB a 1) (onB a 2) x) 128) (onB a 8 && !jnP x x.length) 256) (right && !dirB x) 512, np, fp', nf, ff') := by
    intro v np fp' nf ff'
    unfold P_Checker_brokenRules_65
    have b7 : P_Host_bit 7 = some 64 := rfl
    have g0 := row_get h hlen (by omega) (show 0 < 2 ^ 31 by omega)
    rw [show nI 0 = (0 : Int32) from rfl] at g0
    rw [g0, Option.bind_some, codes_mark, Option.bind_some, b7, Option.bind_some, hg, hg]
    simp only [b2_0]
    cases mkB (x.getD 0 (-1)) <;> rfl
  have ht : ∀ v np fp' nf ff', P_Checker_brokenRules_48 96 (nI x.length) f a (b2 right) v np fp' nf ff' = some (orI (orI (orI (orI (orI v (tagB x) 32) (mkB (x.getD 0 (-1))) 64) (!goodL (onB a 1) (onB a 2) x) 128) (onB a 8 && !jnP x x.length) 256) (right && !dirB x) 512, np, fp', nf, ff') := by
    intro v np fp' nf ff'
    unfold P_Checker_brokenRules_48
    have b6 : P_Host_bit 6 = some 32 := rfl
    rw [codes_tag h hlen (by omega), Option.bind_some, b6, Option.bind_some, hm, hm]
    simp only [b2_0]
    cases tagB x <;> rfl
  have hh : ∀ v np fp' nf ff', P_Checker_brokenRules_31 96 (nI x.length) f a (b2 right) v np fp' nf ff' = some (orI (orI (orI (orI (orI (if onB a 4 then v ||| orI (orI 0 (hy4 x) 8) (hy5 x) 16 else v) (tagB x) 32) (mkB (x.getD 0 (-1))) 64) (!goodL (onB a 1) (onB a 2) x) 128) (onB a 8 && !jnP x x.length) 256) (right && !dirB x) 512, np, fp', nf, ff') := by
    intro v np fp' nf ff'
    unfold P_Checker_brokenRules_31
    rw [codes_hyph h hlen (by omega) hpos, Option.bind_some, ht, ht, onB_if]
    cases onB a 4 <;> rfl
  have b3 : P_Host_bit 3 = some 4 := rfl
  have hsame := row_same (N := 96) (N2 := 96) q2 h (by omega) (by omega) hlen (by omega)
  rw [q1, Option.bind_some]
  simp only []
  rw [hsame, Option.bind_some, b3, Option.bind_some, hh, hh]
  refine ⟨np, fp', nI (cmpS x).length, f', ?_⟩
  unfold rulX rulO
  simp only [b2_0]
  cases decide (cmpS x = x) <;> rfl
theorem mod_rules {ls : List (List Int32)} {st sz pool row other tg : Nat → Int32} {ps k : Nat} (h : MR ls st sz pool ps) (hps : ps ≤ 300) (hk : k < ls.length) (hls : ls.length ≤ 50) (hpos : 0 < (ls.getD k []).length) (hlen : (ls.getD k []).length ≤ 96) (hap : (apartL (ls.getD k [])).length ≤ 96) {t : Bool} (htg : tg k = b2 t) (a : Int32) (right : Bool) :
    ∃ rs row' other', P_Mod_check row other st sz tg pool (nI k) a (b2 right) = some (rulX (onB a 4) (onB a 1) (!(t || !(onB a 2))) (onB a 8) right (ls.getD k []), rs, row', other') := by
  obtain ⟨rs1, row1, other1, q1⟩ := mod_composed (row := row) (other := other) h hps hk hls hlen (by omega)
  have hdir := mod_direct h hps hk hls hpos hlen
  have hfetch := fun r => mod_fetch (row := r) h hps hk hls hlen
  have hcode := fun i (hi : i < (ls.getD k []).length) => mod_code h hps hk hls hi
  obtain ⟨s, a1, a2, a3, a4⟩ := h k hk
  generalize ls.getD k [] = x at *
  have hd : ∀ v rs r o, P_Mod_check_136 st sz pool (nI k) (b2 right) v rs r o = some (adI v (right && !dirB x) 512, rs, r, o) := by
    intro v rs r o
    unfold P_Mod_check_136
    rw [hdir, Option.bind_some]
    simp only [b2_0]
    cases right <;> cases dirB x <;> rfl
  have hj : ∀ v rs r o, P_Mod_check_106 st sz pool (nI k) a (b2 right) v rs r o = some (adI (adI v (onB a 8 && !jnP x x.length) 256) (right && !dirB x) 512, rs, r, o) := by
    intro v rs r o
    unfold P_Mod_check_106
    rw [mod_on, Option.bind_some, mod_joiners (by omega) a2 hlen hcode, Option.bind_some, hd, hd]
    simp only [b2_0]
    cases onB a 8 <;> cases jnP x x.length <;> rfl
  have hg : ∀ v rs r o, P_Mod_check_84 st sz tg pool (nI k) a (b2 right) v rs r o = some (adI (adI (adI v (!goodL (onB a 1) (!(t || !(onB a 2))) x) 128) (onB a 8 && !jnP x x.length) 256) (right && !dirB x) 512, rs, r, o) := by
    intro v rs r o
    unfold P_Mod_check_84
    rw [mod_allgood (by omega) a2 hlen hcode htg, Option.bind_some, hj, hj]
    simp only [b2_0]
    cases goodL (onB a 1) (!(t || !(onB a 2))) x <;> rfl
  have hm : ∀ v rs r o, P_Mod_check_60 st sz tg pool (nI k) a (b2 right) v rs r o = some (adI (adI (adI (adI v (mkB (x.getD 0 (-1))) 64) (!goodL (onB a 1) (!(t || !(onB a 2))) x) 128) (onB a 8 && !jnP x x.length) 256) (right && !dirB x) 512, rs, r, o) := by
    intro v rs r o
    unfold P_Mod_check_60
    have g0 := hcode 0 hpos
    rw [show nI 0 = (0 : Int32) from rfl] at g0
    rw [g0, Option.bind_some, mod_order, Option.bind_some, hg, hg]
    have hn := ofdec (ordS_npos (x.getD 0 (-1)))
    simp only [hn]
    cases mkB (x.getD 0 (-1)) <;> rfl
  have ht : ∀ v r o, ∃ rs r', P_Mod_check_36 st sz tg pool (nI k) a (b2 right) v r o = some (adI (adI (adI (adI (adI v (tagB x) 32) (mkB (x.getD 0 (-1))) 64) (!goodL (onB a 1) (!(t || !(onB a 2))) x) 128) (onB a 8 && !jnP x x.length) 256) (right && !dirB x) 512, rs, r', o) := by
    intro v r o
    obtain ⟨r2, p1, p2⟩ := hfetch r
    unfold P_Mod_check_36
    rw [p1, Option.bind_some]
    simp only []
    rw [mod_tag p2 (by omega), Option.bind_some, hm, hm]
    simp only [b2_0]
    cases tagB x <;> exact ⟨_, _, rfl⟩
  have hh : ∀ v r o, ∃ rs r', P_Mod_check_13 st sz tg pool (nI k) a (b2 right) v r o = some (adI (adI (adI (adI (adI (if onB a 4 then v + adI (adI 0 (hy4 x) 8) (hy5 x) 16 else v) (tagB x) 32) (mkB (x.getD 0 (-1))) 64) (!goodL (onB a 1) (!(t || !(onB a 2))) x) 128) (onB a 8 && !jnP x x.length) 256) (right && !dirB x) 512, rs, r', o) := by
    intro v r o
    unfold P_Mod_check_13
    rw [mod_on, Option.bind_some, mod_hyph (by omega) a2 hlen hcode hpos, Option.bind_some]
    simp only [b2_0]
    cases onB a 4 with
    | false => exact ht v r o
    | true => exact ht _ r o
  unfold P_Mod_check
  rw [q1, Option.bind_some]
  simp only []
  unfold rulX
  rw [← rul_eq]
  unfold rulA
  simp only [b2_0]
  cases decide (cmpS x = x) with
  | false =>
    obtain ⟨rs, r', q⟩ := hh 4 row1 other1
    exact ⟨rs, r', other1, q⟩
  | true =>
    obtain ⟨rs, r', q⟩ := hh 0 row1 other1
    exact ⟨rs, r', other1, q⟩
/-! the class looks at tagged labels without OLD -/
theorem and3 (a k : Int32) (h : (-3 : Int32) &&& k = k) : onB (a &&& -3) k = onB a k := by
  unfold onB
  rw [Int32.and_assoc, h]
theorem and32 (a : Int32) : onB (a &&& -3) 2 = false := by
  unfold onB
  rw [Int32.and_assoc, show (-3 : Int32) &&& 2 = 0 from rfl, Int32.and_zero]; rfl
