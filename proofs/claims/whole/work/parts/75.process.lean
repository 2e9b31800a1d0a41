/-! ===== process, both sides ===== -/
def rawS (a : Int32) (T : List Int32) : List (List Int32) := splitL [] (cmpS (mapL (onB a 2) T))
def labsS (a : Int32) (T : List Int32) : List Lab := (rawS a T).map openS
def rigS (a : Int32) (T : List Int32) : Bool := onB a 16 && dirA p123 (codesL (labsS a T))
def chkS (a : Int32) (T : List Int32) : List Int32 := (labsS a T).map (chkR a (rigS a T))
def outS (a : Int32) (ascii : Bool) (T : List Int32) : List Int32 := outP ascii (labsS a T) (labsS a T).length
def finS (a : Int32) (ascii : Bool) (T : List Int32) (q : Nat) : Int32 := finV (ascii && onB a 32) ascii (labsS a T) (chkS a T) q
def orF (f : Nat → Int32) (v : Int32) : Nat → Int32
  | 0 => v
  | k + 1 => orF f v k ||| f k
def ansS (a : Int32) (ascii : Bool) (T : List Int32) : Int32 := (b2 (brL (onB a 1) (onB a 2) T) ||| (if ((ascii && onB a 32) && whB (whN (outS a ascii T))) = true then 1024 else 0)) ||| orF (finS a ascii T) 0 (labsS a T).length
theorem orF_congr {f g : Nat → Int32} {v : Int32} : ∀ n, (∀ q, q < n → f q = g q) → orF f v n = orF g v n
  | 0, _ => rfl
  | n + 1, h => by simp only [orF, orF_congr n (fun q hq => h q (by omega)), h n (by omega)]
theorem orF_v (f : Nat → Int32) (v : Int32) : ∀ n, orF f v n = v ||| orF f 0 n
  | 0 => by simp only [orF]; exact Int32.or_zero.symm
  | n + 1 => by simp only [orF]; rw [orF_v f v n, Int32.or_assoc]
theorem lab_all {n : Nat} (hn : n ≤ 49) (fr : Nat → Int32) : P_Labels_allRules (nI n) fr = some (orF fr 0 n) := by
  unfold P_Labels_allRules
  refine fl2_p (P_Labels_allRules_4 (nI n) fr) (fun m v1 v2 => ∃ j, m = n - j ∧ j ≤ n ∧ v2 = nI j ∧ v1 = orF fr 0 j) (fun r => r = some (orF fr 0 n)) ?_ fu n (0 : Int32) (0 : Int32) (by unfold fu; omega) ⟨0, rfl, by omega, rfl, rfl⟩
  rintro m K v1 v2 ⟨j, hm, hj, rfl, rfl⟩ ih
  unfold P_Labels_allRules_4
  by_cases hjl : n ≤ j
  · have ej : j = n := by omega
    subst ej
    rw [if_pos (nI_le (Nat.le_refl _) (by omega))]
  · rw [if_neg (nI_ge (by omega) (by omega)), gi_ok (by omega) (by omega), nI_clamp (by omega), nI_1]
    exact ih (n - (j + 1)) _ _ (by omega) ⟨j + 1, rfl, by omega, rfl, rfl⟩
theorem rng63 {a : Int32} (h : 0 ≤ a.toInt ∧ a.toInt ≤ 63) : ¬ a < 0 ∧ a ≤ 63 := by
  rw [Int32.lt_iff_toInt_lt, Int32.le_iff_toInt_le]
  simp only [Int32.reduceToInt]
  omega
theorem host_process {T : List Int32} {ft : Nat → Int32} (hT : Rp ft T) (hok : okC T) (hl : T.length ≤ 48) {a : Int32} (ha : 0 ≤ a.toInt ∧ a.toInt ≤ 63) (ascii : Bool) (rsz : Int32) (fres : Nat → Int32) (msz : Int32) (fm : Nat → Int32) (csz : Int32) (fcs : Nat → Int32) (lsz : Int32) (fl : Nat → Int32) (usz : Int32) (fun' : Nat → Int32) (cnt ccs : Int32) (fcc fee frr ftt : Nat → Int32) (psz : Int32) (fp : Nat → Int32) (bias next ksz : Int32) (fk : Nat → Int32) (fsz : Int32) (ff : Nat → Int32) :
    ∃ g' m1 m2 c1 c2 l1 l2 u1 u2 cc1 cc2 e1 fr' t1 p1 p2 b' nx' k1 k2 f1 f2, P_Host_process (nI T.length) ft rsz fres msz fm csz fcs lsz fl usz fun' cnt ccs fcc fee frr ftt psz fp bias next ksz fk fsz ff a (b2 ascii) = some (ansS a ascii T, nI (outS a ascii T).length, g', m1, m2, c1, c2, l1, l2, u1, u2, nI (labsS a T).length, cc1, cc2, e1, fr', t1, p1, p2, b', nx', k1, k2, f1, f2) ∧ Rp g' (outS a ascii T) ∧ ∀ q, q < (labsS a T).length → fr' q = finS a ascii T q := by
  obtain ⟨hA, hB⟩ := rng63 ha
  obtain ⟨hraw, hcok, hclen, hcd⟩ := raw_ok (onB a 2) hok hl
  have hlab : LabOK (labsS a T) := lab_ok hraw
  have hout : (outP ascii (labsS a T) (labsS a T).length).length ≤ 512 := out_len512 ascii hraw
  have hapm := mapL_w1 (onB a 2) T
  have hml := mapL_len (onB a 2) T
  obtain ⟨gm, m1, m2⟩ := host_map (fm := fm) hT hl a
  obtain ⟨np, fp', fc, c1, c2⟩ := codes_form (N := 96) (N2 := 96) (fp := fp) (ft := fcs) m2 (by omega) (by omega) (by omega) (by omega) (by omega)
  obtain ⟨ls', fl', us', fun2, n', cs', fc', fe', fr', ft', b', nx', d1, d2⟩ := host_cut c2 hclen hcok hcd lsz usz bias next fl fun' fcc fee frr ftt
  obtain ⟨e1, e2, e3, e4, e5, e6⟩ := d2
  have hFQ : FQ (labsS a T) n' cs' fc' fe' ft' := ⟨e1, e2, e3, e4, e6⟩
  obtain ⟨lz2, fl2', fr2, np2, fp2, nf2, ff2, k1, k2⟩ := host_check (fl := fl') (fp := fk) (ff := ff) hFQ hlab e5 ls' ksz fsz a
  obtain ⟨g3, lz3, fl3', fr3, b3, w1, w2, w3⟩ := host_write (fl := fl2') (g := fres) (R := chkS a T) hFQ hlab (by unfold chkS; rw [List.length_map]) k2 ascii (ascii && onB a 32) hout lz2 b'
  have hn' : n' = nI (labsS a T).length := e1
  subst hn'
  have hfin : ∀ q, q < (labsS a T).length → fr3 q = finS a ascii T q := by
    intro q hq
    rw [w3 q hq, if_pos hq]; rfl
  have h61 : ∀ s0, s0 = b2 (ascii && onB a 32) → ∃ g' m1 m2 c1 c2 l1 l2 u1 u2 cc1 cc2 e1 fr' t1 p1 p2 b'' nx'' k1 k2 f1 f2, P_Host_process_61 s0 (b2 ascii) (b2 (brL (onB a 1) (onB a 2) T)) fres (nI (mapL (onB a 2) T).length) gm (nI (cmpS (mapL (onB a 2) T)).length) fc lz2 fl2' us' fun2 (nI (labsS a T).length) cs' fc' fe' fr2 ft' np fp' b' nx' np2 fp2 nf2 ff2 = some (ansS a ascii T, nI (outS a ascii T).length, g', m1, m2, c1, c2, l1, l2, u1, u2, nI (labsS a T).length, cc1, cc2, e1, fr', t1, p1, p2, b'', nx'', k1, k2, f1, f2) ∧ Rp g' (outS a ascii T) ∧ ∀ q, q < (labsS a T).length → fr' q = finS a ascii T q := by
    rintro s0 rfl
    unfold P_Host_process_61
    rw [w1, Option.bind_some]
    simp only []
    rw [lab_all hlab.1 fr3, Option.bind_some, orF_congr _ hfin]
    exact ⟨_, _, _, _, _, _, _, _, _, _, _, _, _, _, _, _, _, _, _, _, _, _, rfl, w2, hfin⟩
  unfold P_Host_process
  rw [if_neg hA, if_pos hB, m1, Option.bind_some]
  simp only []
  rw [c1, Option.bind_some]
  simp only []
  rw [d1, Option.bind_some]
  simp only []
  rw [k1, Option.bind_some]
  simp only []
  rw [onB_if]
  cases hasc : ascii with
  | false =>
    rw [hasc] at h61
    rw [if_pos (show b2 false = 0 from rfl)]
    exact h61 0 rfl
  | true =>
    have hA1 : ¬ b2 true = 0 := by decide
    rw [hasc, Bool.true_and] at h61
    rw [if_neg hA1]
    cases hon : onB a 32 with
    | false =>
      rw [hon] at h61
      rw [if_neg (show ¬ false = true by decide)]
      exact h61 0 rfl
    | true =>
      rw [hon] at h61
      rw [if_pos (show true = true from rfl)]
      exact h61 1 rfl
/-! the reference -/
theorem flat_codes (raw : List (List Int32)) : (raw.map fun x => (openS x).1).flatten = codesL (raw.map openS) := by
  unfold codesL
  rw [List.flatMap_def, List.map_map]; rfl
theorem mod_fin {n : Nat} (hn : n ≤ 49) {a : Int32} {ascii : Bool} {w : Nat} (hw : w ≤ 512) (v3 size rs pz b : Int32) (res row other st sz rules tg pool placed : Nat → Int32) :
    fl2 (P_Mod_process_154 a (b2 ascii) size rs (nI n) pz (nI w) b res row other st sz rules tg pool placed) fu v3 (0 : Int32) = some (if ((ascii && onB a 32) && whB w) = true then orF rules v3 n ||| 1024 else orF rules v3 n, size, rs, nI n, pz, nI w, b, res, row, other, st, sz, rules, tg, pool, placed) := by
  refine fl2_p (P_Mod_process_154 a (b2 ascii) size rs (nI n) pz (nI w) b res row other st sz rules tg pool placed) (fun m v v5 => ∃ j, m = n - j ∧ j ≤ n ∧ v5 = nI j ∧ v = orF rules v3 j) (fun r => r = some (if ((ascii && onB a 32) && whB w) = true then orF rules v3 n ||| 1024 else orF rules v3 n, size, rs, nI n, pz, nI w, b, res, row, other, st, sz, rules, tg, pool, placed)) ?_ fu n v3 (0 : Int32) (by unfold fu; omega) ⟨0, rfl, by omega, rfl, rfl⟩
  rintro m K v v5 ⟨j, hm, hj, rfl, rfl⟩ ih
  unfold P_Mod_process_154
  by_cases hjl : n ≤ j
  · have ej : j = n := by omega
    subst ej
    rw [if_pos (nI_le (Nat.le_refl _) (by omega)), mod_on, Option.bind_some]
    simp only [b2_0]
    cases ascii with
    | false => rfl
    | true =>
      rw [if_neg (show ¬ true = false by decide), Bool.true_and]
      cases onB a 32 with
      | false => rfl
      | true =>
        rw [if_neg (show ¬ true = false by decide), Bool.true_and]
        unfold whB
        by_cases h0 : w = 0
        · rw [if_pos (by rw [h0]; rfl), decide_eq_true h0]; rfl
        · rw [if_neg (nI_ne0 (by omega) (by omega)), decide_eq_false h0]
          by_cases h1 : w ≤ 60
          · have hA : nI w ≤ 60 := nI_le (b := 60) h1 (by omega)
            rw [if_pos hA, decide_eq_false (by omega)]; rfl
          · have hA : ¬ nI w ≤ 60 := nI_ge (a := 60) (by omega) (by omega)
            rw [if_neg hA, decide_eq_true (by omega)]; rfl
  · rw [if_neg (nI_ge (by omega) (by omega)), gi_ok (by omega) (by omega), nI_clamp (by omega), nI_1]
    exact ih (n - (j + 1)) _ _ (by omega) ⟨j + 1, rfl, by omega, rfl, rfl⟩
theorem mod_process {T : List Int32} {ft : Nat → Int32} (hT : Rp ft T) (hok : okC T) (hl : T.length ≤ 48) {a : Int32} (ha : 0 ≤ a.toInt ∧ a.toInt ≤ 63) (ascii : Bool) (size rs cnt pz wh b : Int32) (res row other st sz rules tg pool placed : Nat → Int32) :
    ∃ rs' ps' wh' b' g' row' other' st' sz' rules' tg' pool' placed', P_Mod_process (nI T.length) size rs cnt pz wh b ft res row other st sz rules tg pool placed a (b2 ascii) = some (ansS a ascii T, nI (outS a ascii T).length, rs', nI (labsS a T).length, ps', wh', b', g', row', other', st', sz', rules', tg', pool', placed') ∧ Rp g' (outS a ascii T) ∧ ∀ q, q < (labsS a T).length → rules' q = finS a ascii T q := by
  obtain ⟨hraw, hcok, hclen, hcd⟩ := raw_ok (onB a 2) hok hl
  have hlab : LabOK (labsS a T) := lab_ok hraw
  have hout : (outP ascii (labsS a T) (labsS a T).length).length ≤ 512 := out_len512 ascii hraw
  have hwh := wh_eq ascii hraw
  have hapm := mapL_w1 (onB a 2) T
  have hml := mapL_len (onB a 2) T
  have hwi : wi a.toInt (0 : Int32).toInt (63 : Int32).toInt = true := wi_iff.2 ha
  obtain ⟨gm, m1, m2⟩ := mod_map (fm := row) hT hl a
  obtain ⟨r2, o2, c1, c2⟩ := mod_compose (other := other) m2 (by omega) (by omega)
  obtain ⟨p, st2, sz2, pool2, d1, d2, d3⟩ := mod_cut c2 hclen hcd st sz pool
  have hpos : 0 < (labsS a T).length := by
    have := hraw.pos
    unfold labsS rawS; rw [List.length_map]; exact this
  have hlenS : (labsS a T).length = (rawS a T).length := by unfold labsS; rw [List.length_map]
  obtain ⟨rs3, ps3, b3, row3, other3, st3, sz3, rules3, tg3, pool3, f1, f2, f3, f4, f5⟩ := mod_opens (row := r2) (other := o2) (rules := rules) (tagged := tg) d3 (by omega) hraw.n hraw.ok hraw.lens a (b2 ascii) (b2 (brL (onB a 1) (onB a 2) T)) wh (nI (cmpS (mapL (onB a 2) T)).length) b res placed
  have hMR : MR ((labsS a T).map fun y => y.1) st3 sz3 pool3 ps3 := by
    unfold labsS rawS
    rw [List.map_map]
    exact f3
  have hlm : ∀ k, (((labsS a T).map fun y => y.1).getD k []).length ≤ 96 := by
    intro k
    by_cases hk : k < (labsS a T).length
    · rw [map_getL hk]
      have := hlab.2.2 _ (labK_mem hk)
      have := apart_ge (labK (labsS a T) k).1
      omega
    · rw [List.getD_eq_getElem?_getD, List.getElem?_eq_none (by simp; omega)]
      simp
  have hrt := mod_rtl hMR f2 (by rw [List.length_map, hlenS]; have := hraw.n; unfold rawS; omega) hlm
  have hflat : ((labsS a T).map fun y => y.1).flatten = codesL (labsS a T) := by unfold codesL; rw [List.flatMap_def]
  rw [hflat, List.length_map] at hrt
  -- checks, then giving
  have hrest : ∀ right : Bool, right = rigS a T → ∃ rs' ps' wh' b' g' row' other' st' sz' rules' tg' pool' placed', fl5 (P_Mod_process_84 a (b2 ascii) (b2 (brL (onB a 1) (onB a 2) T)) (b2 right) (nI (labsS a T).length) (nI ps3) wh b3 res st3 sz3 tg3 pool3 placed) fu (0 : Int32) rs3 row3 other3 rules3 = some (ansS a ascii T, nI (outS a ascii T).length, rs', nI (labsS a T).length, ps', wh', b', g', row', other', st', sz', rules', tg', pool', placed') ∧ Rp g' (outS a ascii T) ∧ ∀ q, q < (labsS a T).length → rules' q = finS a ascii T q := by
    rintro right rfl
    obtain ⟨rs4, row4, other4, rules4, k1, k2⟩ := mod_checks (row := row3) (other := other3) hMR f2 hlab f5 f4 a (b2 ascii) (b2 (brL (onB a 1) (onB a 2) T)) rs3 (nI ps3) wh b3 res placed (rigS a T)
    rw [k1]
    obtain ⟨rs5, b5, g5, row5, rules5, placed5, w1, w2, w3⟩ := mod_give (row := row4) (g := res) (placed := placed) (R := chkS a T) hMR f2 hlab hpos (by unfold chkS; rw [List.length_map]) k2 a ascii hout rs4 wh b3
    have hfin : ∀ q, q < (labsS a T).length → rules5 q = finS a ascii T q := by
      intro q hq
      rw [w3 q hq, if_pos hq]; rfl
    have hwle : whN (outS a ascii T) ≤ 512 := by
      have : (outS a ascii T).length ≤ 512 := hout
      unfold whN; split <;> omega
    have hwh2 : whF ascii (labsS a T) ((labsS a T).length - 1) = whN (outS a ascii T) := hwh
    unfold P_Mod_process_84
    have hA : nI (labsS a T).length ≤ nI (labsS a T).length := nI_le (Nat.le_refl _) (by have := hlab.1; omega)
    rw [if_pos hA, w1, Option.bind_some]
    simp only []
    rw [hwh2, mod_fin hlab.1 hwle, orF_congr _ hfin]
    have hans : (if ((ascii && onB a 32) && whB (whN (outS a ascii T))) = true then orF (finS a ascii T) (b2 (brL (onB a 1) (onB a 2) T)) (labsS a T).length ||| 1024 else orF (finS a ascii T) (b2 (brL (onB a 1) (onB a 2) T)) (labsS a T).length) = ansS a ascii T := by
      unfold ansS
      rw [orF_v]
      split
      · rw [Int32.or_assoc, Int32.or_assoc, Int32.or_comm (orF _ _ _)]
      · rw [Int32.or_zero]
    rw [hans]
    exact ⟨_, _, _, _, _, _, _, _, _, _, _, _, _, rfl, w2, hfin⟩
  have h25 : ∃ rs' ps' wh' b' g' row' other' st' sz' rules' tg' pool' placed', P_Mod_process_25 a (b2 ascii) (b2 (brL (onB a 1) (onB a 2) T)) (nI (mapL (onB a 2) T).length) wh b res gm other st sz rules tg pool placed = some (ansS a ascii T, nI (outS a ascii T).length, rs', nI (labsS a T).length, ps', wh', b', g', row', other', st', sz', rules', tg', pool', placed') ∧ Rp g' (outS a ascii T) ∧ ∀ q, q < (labsS a T).length → rules' q = finS a ascii T q := by
    unfold P_Mod_process_25
    rw [c1, Option.bind_some]
    simp only []
    rw [d1, Option.bind_some]
    simp only []
    rw [f1]
    unfold P_Mod_process_37
    have hA : nI (rawS a T).length ≤ nI (rawS a T).length := nI_le (Nat.le_refl _) (by have := hraw.n; unfold rawS; omega)
    have hB : nI (splitL [] (cmpS (mapL (onB a 2) T))).length ≤ nI (splitL [] (cmpS (mapL (onB a 2) T))).length := hA
    rw [if_pos hB, mod_on, Option.bind_some]
    have en : (splitL [] (cmpS (mapL (onB a 2) T))).length = (labsS a T).length := hlenS.symm
    rw [en, hrt, Option.bind_some]
    simp only [b2_0]
    have r0 := hrest false
    have r1 := hrest true
    rw [show b2 false = (0 : Int32) from rfl] at r0
    rw [show b2 true = (1 : Int32) from rfl] at r1
    unfold rigS at r0 r1
    clear hrest
    cases ho : onB a 16 with
    | false =>
      rw [if_pos (show false = false from rfl)]
      exact r0 (by rw [ho, Bool.false_and])
    | true =>
      rw [if_neg (show ¬ true = false by decide)]
      cases hd : dirA p123 (codesL (labsS a T)) with
      | false =>
        rw [if_pos (show false = false from rfl)]
        exact r0 (by rw [hd, Bool.and_false])
      | true =>
        rw [if_neg (show ¬ true = false by decide)]
        exact r1 (by rw [ho, hd]; rfl)
  unfold P_Mod_process
  rw [mod_within, Option.bind_some, hwi]
  have hA1 : ¬ b2 true = 0 := by decide
  rw [if_neg hA1, m1, Option.bind_some]
  simp only [b2_0]
  cases hb : brL (onB a 1) (onB a 2) T with
  | false =>
    rw [hb] at h25
    rw [if_pos (show false = false from rfl)]
    exact h25
  | true =>
    rw [hb] at h25
    rw [if_neg (show ¬ true = false by decide)]
    exact h25
