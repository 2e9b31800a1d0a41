/-! ===== the reference opens its labels ===== -/
theorem getD_setL {ls : List (List Int32)} {k q : Nat} (x : List Int32) (hk : k < ls.length) : (ls.set k x).getD q [] = if q = k then x else ls.getD q [] := by
  simp only [List.getD_eq_getElem?_getD, List.getElem?_set]
  by_cases e : q = k
  · subst e; simp [hk]
  · have : ¬ k = q := fun z => e z.symm
    simp [e, this]
theorem mod_keep {ls : List (List Int32)} {st sz pool row : Nat → Int32} {ps k : Nat} {x : List Int32} (h : MR ls st sz pool ps) (hk : k < ls.length) (hls : ls.length ≤ 50) (hx : Rp row x) (hxl : x.length ≤ 96) (hps : ps + x.length ≤ 300) :
    ∃ st' sz' pool', P_Mod_keep (nI x.length) (nI ps) row st sz pool (nI k) = some (nI (ps + x.length), st', sz', pool') ∧ MR (ls.set k x) st' sz' pool' (ps + x.length) := by
  unfold P_Mod_keep
  rw [gi_ok (by omega) (by omega), gi_ok (by omega) (by omega), nI_clamp (by omega)]
  refine fl3_p (P_Mod_keep_22 (nI x.length) row (upd st k (nI ps)) (upd sz k (nI x.length))) (fun m v p g => ∃ j, m = x.length - j ∧ j ≤ x.length ∧ v = nI j ∧ p = nI (ps + j) ∧ (∀ q, q < ps → g q = pool q) ∧ (∀ i, i < j → g (ps + i) = x.getD i (-1))) (fun r => ∃ st' sz' pool', r = some (nI (ps + x.length), st', sz', pool') ∧ MR (ls.set k x) st' sz' pool' (ps + x.length)) ?_ fu x.length (0 : Int32) (nI ps) pool (by unfold fu; omega) ⟨0, rfl, by omega, rfl, rfl, fun q _ => rfl, fun i hi => absurd hi (Nat.not_lt_zero _)⟩
  rintro m K v p g ⟨j, hm, hj, rfl, rfl, hg1, hg2⟩ ih
  unfold P_Mod_keep_22
  by_cases hjl : x.length ≤ j
  · have ej : j = x.length := by omega
    subst ej
    rw [if_pos (nI_le (Nat.le_refl _) (by omega))]
    refine ⟨_, _, _, rfl, ?_⟩
    intro q hq
    rw [List.length_set] at hq
    rw [getD_setL x hk]
    by_cases e : q = k
    · subst e
      rw [if_pos rfl]
      exact ⟨ps, upd_s _ _ _, upd_s _ _ _, by omega, hg2⟩
    · rw [if_neg e]
      obtain ⟨s, a1, a2, a3, a4⟩ := h q hq
      exact ⟨s, by rw [upd_n _ _ e]; exact a1, by rw [upd_n _ _ e]; exact a2, by omega, fun i hi => by rw [hg1 _ (by omega)]; exact a4 i hi⟩
  · have hjl2 : j < x.length := by omega
    rw [if_neg (nI_ge (by omega) (by omega)), gi_ok (by omega) (by omega), gi_ok (by omega) (by omega), nI_1, nI_1, nI_clamp (by omega), nI_clamp (by omega), hx.get hjl2 (-1)]
    refine ih (x.length - (j + 1)) _ _ _ (by omega) ⟨j + 1, rfl, by omega, rfl, by rw [Nat.add_assoc], fun q hq => by rw [upd_n _ _ (by omega)]; exact hg1 q hq, fun i hi => ?_⟩
    by_cases e : i = j
    · subst e; rw [upd_s]
    · rw [upd_n _ _ (by omega)]; exact hg2 i (by omega)
theorem mod_open84 {ls : List (List Int32)} {st sz pool row other rules tagged : Nat → Int32} {ps k : Nat} {u : List Int32} (h : MR ls st sz pool ps) (hk : k < ls.length) (hls : ls.length ≤ 50) (hu : Rp row u) (hul : u.length ≤ 96) (hps : ps + u.length ≤ 300) (b : Int32) :
    ∃ st' sz' pool', P_Mod_open_84 (nI k) 1 1 (nI u.length) (nI ps) b row other st sz rules tagged pool = some (nI u.length, nI (ps + u.length), b, row, other, st', sz', rules, tagged, pool') ∧ MR (ls.set k u) st' sz' pool' (ps + u.length) := by
  obtain ⟨s1, s2, s3, q1, q2⟩ := mod_keep h hk hls hu hul hps
  unfold P_Mod_open_84
  have hA : ¬ (1 : Int32) = 0 := by decide
  rw [if_neg hA, if_neg hA, q1, Option.bind_some]
  exact ⟨_, _, _, rfl, q2⟩
theorem set_self {ls : List (List Int32)} {k : Nat} (hk : k < ls.length) : ls.set k (ls.getD k []) = ls := by
  apply List.ext_getElem
  · simp
  · intro i h1 h2
    rw [List.getElem_set]
    split
    · rename_i e; subst e
      simp [List.getD_eq_getElem?_getD, hk]
    · rfl
theorem mod_open {ls : List (List Int32)} {st sz pool row other rules tagged : Nat → Int32} {ps k : Nat} (h : MR ls st sz pool ps) (hk : k < ls.length) (hls : ls.length ≤ 50) (hok : okC (ls.getD k [])) (hxl : (ls.getD k []).length ≤ 96) (hps : ps + (ls.getD k []).length ≤ 300) (b : Int32) :
    ∃ rs ps' b' row' other' st' sz' pool', P_Mod_open (nI ps) b row other st sz rules tagged pool (nI k) = some (rs, nI ps', b', row', other', st', sz', upd rules k (openS (ls.getD k [])).2.2, upd tagged k (b2 (openS (ls.getD k [])).2.1), pool') ∧ ps' ≤ ps + (ls.getD k []).length ∧ MR (ls.set k (openS (ls.getD k [])).1) st' sz' pool' ps' := by
  unfold P_Mod_open
  obtain ⟨r1, q1, q2⟩ := mod_fetch (row := row) h (by omega) hk hls hxl
  have hset := set_self hk
  generalize hx : ls.getD k [] = x at *
  rw [q1, Option.bind_some, gi_ok (by omega) (by omega), mod_tag q2 (by omega), Option.bind_some, gi_ok (by omega) (by omega), gi_ok (by omega) (by omega), nI_clamp (by omega), narb, upd_s]
  have h2 : ∀ (row' other' : Nat → Int32) (rs b' : Int32), openS x = (x, true, 2) → ∃ rs' ps' b'' row'' other'' st' sz' pool', (some (rs, nI ps, b', row', other', st, sz, upd (upd rules k 0) k 2, upd tagged k (b2 true), pool) : Option _) = some (rs', nI ps', b'', row'', other'', st', sz', upd rules k (openS x).2.2, upd tagged k (b2 (openS x).2.1), pool') ∧ ps' ≤ ps + x.length ∧ MR (ls.set k (openS x).1) st' sz' pool' ps' := by
    intro row' other' rs b' ho
    have e : upd (upd rules k 0) k 2 = upd rules k 2 := by
      funext j
      by_cases z : j = k
      · subst z; rw [upd_s, upd_s]
      · rw [upd_n _ _ z, upd_n _ _ z, upd_n _ _ z]
    rw [ho, e]
    refine ⟨rs, ps, b', row', other', st, sz, pool, rfl, by omega, ?_⟩
    rw [hset]; exact h
  cases ht : tagB x with
  | false =>
    rw [if_pos (show b2 false = 0 from rfl)]
    have ho : openS x = (x, false, 0) := by unfold openS; rw [ht]; rfl
    rw [ho]
    refine ⟨_, ps, b, r1, other, st, sz, pool, rfl, by omega, ?_⟩
    show MR (ls.set k x) st sz pool ps
    rw [hset]; exact h
  | true =>
    have hA : ¬ b2 true = 0 := by decide
    have hA1 : ¬ (1 : Int32) = 0 := by decide
    rw [if_neg hA]
    have h4 := tagB_len ht
    have hok4 : okC (x.drop 4) := fun c hc => hok c (List.mem_of_mem_drop hc)
    rw [show (4 : Int32) = nI 4 from rfl]
    have ef : fu = 99999 + 1 := rfl
    rcases mod_unpack (other := other) q2 hxl h4 b with ⟨u1, b', g', u2⟩ | ⟨u, b', r', g', u1, u2, u3⟩
    · rw [u2, Option.bind_some, ef, fl2_s]
      unfold P_Mod_open_43 P_Mod_open_84
      have hz : ¬ nI x.length ≤ 0 := nI_ge (a := 0) (by omega) (by omega)
      simp only [if_neg hz, if_true, gi_ok (show k < 50 by omega) (show 50 < 2 ^ 31 by omega), nI_clamp (show k < 2 ^ 31 by omega)]
      exact h2 _ _ _ _ (by unfold openS; rw [ht, u1]; rfl)
    · have huk := unp_ok hok4 u1
      simp only [List.length_drop] at huk
      rw [u2, Option.bind_some]
      simp only []
      refine fl2_p (P_Mod_open_43 (nI k) 1 (nI u.length) (nI ps) b' r' g' st sz (upd rules k 0) (upd tagged k (b2 true)) pool) (fun m v3 v4 => ∃ j, m = u.length - j ∧ j ≤ u.length ∧ v4 = nI j ∧ v3 = b2 ((u.take j).any fun c => decide (127 < c))) (fun r => ∃ rs ps' b' row' other' st' sz' pool', r = some (rs, nI ps', b', row', other', st', sz', upd rules k (openS x).2.2, upd tagged k (b2 (openS x).2.1), pool') ∧ ps' ≤ ps + x.length ∧ MR (ls.set k (openS x).1) st' sz' pool' ps') ?_ fu u.length (0 : Int32) (0 : Int32) (by unfold fu; omega) ⟨0, rfl, by omega, rfl, rfl⟩
      rintro m K v3 v4 ⟨j, hm, hj, rfl, rfl⟩ ih
      unfold P_Mod_open_43
      by_cases hjl : u.length ≤ j
      · have ej : j = u.length := by omega
        subst ej
        rw [List.take_length] at *
        rw [if_pos (nI_le (Nat.le_refl _) (by omega))]
        cases ha : (u.any fun x => decide (127 < x)) with
        | false =>
          unfold P_Mod_open_84
          rw [if_neg hA1, if_pos (show b2 false = 0 from rfl), gi_ok (by omega) (by omega), nI_clamp (by omega)]
          exact h2 _ _ _ _ (by unfold openS; rw [ht, u1]; simp only []; rw [ha]; rfl)
        | true =>
          have ho : openS x = (u, true, 0) := by unfold openS; rw [ht, u1]; simp only []; rw [ha]; rfl
          obtain ⟨s1, s2, s3, z1, z2⟩ := mod_open84 (other := g') (rules := upd rules k 0) (tagged := upd tagged k (b2 true)) h hk hls u3 (by omega) (by omega) b'
          rw [show b2 true = (1 : Int32) from rfl] at z1 ⊢
          rw [z1, ho]
          exact ⟨_, _, _, _, _, _, _, _, rfl, by omega, z2⟩
      · have hjl2 : j < u.length := by omega
        rw [if_neg (nI_ge (by omega) (by omega)), if_neg hA1, gi_ok (by omega) (by omega), nI_clamp (by omega), u3.get hjl2 (-1), nI_1]
        have et : u.take (j + 1) = u.take j ++ [u.getD j (-1)] := by rw [take_snoc hjl2, getD_get hjl2]
        have e : (u.take (j + 1)).any (fun c => decide (127 < c)) = ((u.take j).any (fun c => decide (127 < c)) || decide (127 < u.getD j (-1))) := by
          rw [et, List.any_append]; simp
        have go : ∀ v, v = b2 ((u.take (j + 1)).any fun c => decide (127 < c)) → ∃ rs ps' b' row' other' st' sz' pool', K v (nI (j + 1)) = some (rs, nI ps', b', row', other', st', sz', upd rules k (openS x).2.2, upd tagged k (b2 (openS x).2.1), pool') ∧ ps' ≤ ps + x.length ∧ MR (ls.set k (openS x).1) st' sz' pool' ps' := by
          rintro v rfl
          exact ih (u.length - (j + 1)) _ _ (by omega) ⟨j + 1, rfl, by omega, rfl, rfl⟩
        cases hb : (u.take j).any fun c => decide (127 < c) with
        | true =>
          rw [if_neg hA]
          exact go 1 (by rw [e, hb]; rfl)
        | false =>
          rw [if_pos (show b2 false = 0 from rfl)]
          by_cases hc : u.getD j (-1) ≤ 127
          · rw [if_pos hc]
            have : ¬ 127 < u.getD j (-1) := not_lt_of_le32 hc
            exact go 0 (by rw [e, hb, decide_eq_false this]; rfl)
          · rw [if_neg hc]
            have : 127 < u.getD j (-1) := lt_of_not_le32 hc
            exact go 1 (by rw [e, hb, decide_eq_true this]; rfl)
