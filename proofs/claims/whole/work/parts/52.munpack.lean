/-! ===== the reference's unpacking ===== -/
section MU
variable {l : List Int32} {row other : Nat → Int32} {k109 : Int32 → Int64 → Int64 → Int32 → Int32 → (Nat → Int32) → Option (Int32 × Int32 × Int32 × (Nat → Int32) × (Nat → Int32))}
theorem mod_rd (h : Rp row l) (hl : l.length ≤ 96) {b : Nat} (hb : b < 100000) (v3 : Int32) (v6 v9 : Int64) (FIN : Int64 → Int32 → Option (Int32 × Int32 × Int32 × (Nat → Int32) × (Nat → Int32)))
    (hF : ∀ v4 v8, FIN v4 v8 = if v3 = 48 then some (0, nI l.length, nI b, row, other) else if lg_cmp v9 0 = 0 then P_Mod_unpackRow_287 (nI l.length) row k109 (v3 + 1) v4 v6 v8 1 (v3 + 1) (v4 - v9).toInt32 other else P_Mod_unpackRow_287 (nI l.length) row k109 (v3 + 1) v4 v6 v8 0 (v3 + 1) (v4 - v9).toInt32 other) :
    ∀ (cs : List Int32) (i w j at' fuel : Nat), cs.length + 1 < fuel → l.drop at' = cs → at' ≤ l.length → i ≤ 2147483647 → w ≤ 2147483647 → j ≤ at' →
    (rdN b cs i w j = none ∧ fl5 (P_Mod_unpackRow_132 (nI l.length) row k109 v3 v6 v9 (nI b) other) fuel (lN i) (nI at') (lN w) (nI (36 * (j + 1))) 1 = some (0, nI l.length, nI b, row, other)) ∨ (∃ i' rest, rdN b cs i w j = some (i', rest) ∧ fl5 (P_Mod_unpackRow_132 (nI l.length) row k109 v3 v6 v9 (nI b) other) fuel (lN i) (nI at') (lN w) (nI (36 * (j + 1))) 1 = FIN (lN i') (nI (l.length - rest.length))) := by
  intro cs
  induction cs with
  | nil =>
    intro i w j at' fuel hfu hd hn hi hw hj
    obtain ⟨k, rfl⟩ : ∃ k, fuel = k + 1 := ⟨fuel - 1, by omega⟩
    refine Or.inl ⟨rfl, ?_⟩
    rw [fl5_s]
    generalize fl5 (P_Mod_unpackRow_132 (nI l.length) row k109 v3 v6 v9 (nI b) other) k = K
    unfold P_Mod_unpackRow_132 P_Mod_unpackRow_160
    have := drop_nil_le hd
    rw [if_neg (show ¬ (1 : Int32) = 0 by decide), if_pos (nI_le this (by omega)), if_neg (by decide)]
  | cons c cs ih =>
    intro i w j at' fuel hfu hd hn hi hw hj
    obtain ⟨k, rfl⟩ : ∃ k, fuel = k + 1 := ⟨fuel - 1, by omega⟩
    obtain ⟨hlt, hc, hd2⟩ := drop_cons_lt hd
    rw [fl5_s]
    generalize hK : fl5 (P_Mod_unpackRow_132 (nI l.length) row k109 v3 v6 v9 (nI b) other) k = K
    have hrow : row at' = c := by rw [h.get hlt (-1), hc]
    unfold P_Mod_unpackRow_132
    rw [if_neg (show ¬ (1 : Int32) = 0 by decide), if_neg (nI_ge hlt (by omega)), gi_ok (by omega) (by omega), nI_clamp (by omega), hrow, mod_digit, Option.bind_some]
    unfold P_Mod_unpackRow_160
    have emx : (2147483647 : Int64) = lN 2147483647 := rfl
    have e36 : (36 : Int32) = nI 36 := rfl
    simp only [rdN]
    by_cases h36 : dgN c = 36
    · rw [dgI_no h36, if_neg (show ¬ (0 : Int32) ≤ -1 by decide), if_pos h36]
      exact Or.inl ⟨rfl, rfl⟩
    · have hdl := dgN_le c
      have hdw := mulb hdl hw
      have ht := thN_rng b j
      have hthr : P_Mod_threshold (nI b) (nI (36 * (j + 1))) = some (nI (thN b j)) := mod_thr hb (by omega)
      rw [dgI_ok h36, if_pos (nI_pos' (by omega)), if_neg h36, hthr, Option.bind_some, nI_l (by omega), lN_mul, lN_add, nI_1]
      unfold P_Mod_unpackRow_203 P_Mod_unpackRow_224
      rw [emx, if_pos rfl, if_neg (show ¬ (1 : Int32) = 0 by decide), e36, nI_add]
      have hlen := congrArg List.length hd2
      simp only [List.length_drop] at hlen
      by_cases hm : 2147483647 < i + dgN c * w
      · have hA : 0 < lg_cmp (lN (i + dgN c * w)) (lN 2147483647) := by rw [llt (by omega) (by omega)]; exact hm
        rw [if_pos hA, if_pos hA, if_pos hm]
        refine Or.inl ⟨rfl, ?_⟩
        split <;> rfl
      · have hA : ¬ 0 < lg_cmp (lN (i + dgN c * w)) (lN 2147483647) := by rw [llt (by omega) (by omega)]; exact hm
        rw [if_neg hA, if_neg hA, if_neg hm]
        by_cases hdt : dgN c < thN b j
        · have hB : lg_cmp (lN w) (lN 2147483647) ≤ 0 := by rw [lle (by omega) (by omega)]; exact hw
          rw [if_pos (nI_lt hdt (by omega)), if_pos hB, if_pos hdt, ← hK]
          obtain ⟨k2, rfl⟩ : ∃ k2, k = k2 + 1 := ⟨k - 1, by simp at hfu; omega⟩
          refine Or.inr ⟨_, _, rfl, ?_⟩
          rw [fl5_s]
          unfold P_Mod_unpackRow_132
          rw [if_pos rfl, hF]
          have : at' + 1 = l.length - cs.length := by omega
          rw [this]
        · have hww : w * (36 - thN b j) ≤ 2147483647 * 36 := Nat.mul_le_mul hw (by omega)
          rw [if_neg (nI_nlt (by omega) (by omega)), if_neg hdt, pk_sub (by omega), nI_l (by omega), lN_mul]
          by_cases hw2 : 2147483647 < w * (36 - thN b j)
          · have hB : ¬ lg_cmp (lN (w * (36 - thN b j))) (lN 2147483647) ≤ 0 := by rw [lle (by omega) (by omega)]; omega
            rw [if_neg hB, if_pos hw2]
            exact Or.inl ⟨rfl, rfl⟩
          · have hB : lg_cmp (lN (w * (36 - thN b j))) (lN 2147483647) ≤ 0 := by rw [lle (by omega) (by omega)]; omega
            rw [if_pos hB, if_neg hw2, ← hK]
            have e1 : 36 * (j + 1) + 36 = 36 * (j + 1 + 1) := by omega
            rw [e1]
            exact ih _ _ (j + 1) (at' + 1) k (by simp at hfu; omega) hd2 (by omega) (by omega) (by omega) (by omega)
/-- the reference copies what came -/
theorem mod_copy {out : List Int32} {g : Nat → Int32} (hg : Rp g out) (ho : out.length ≤ 200) (b : Int32) (row : Nat → Int32) : ∃ r', fl2 (P_Mod_unpackRow_377 (nI out.length) b g) fu 0 row = some (1, nI out.length, b, r', g) ∧ Rp r' out := by
  refine fl2_p (P_Mod_unpackRow_377 (nI out.length) b g) (fun n v r => ∃ j, n = out.length - j ∧ j ≤ out.length ∧ v = nI j ∧ Rp r (out.take j)) (fun x => ∃ r', x = some (1, nI out.length, b, r', g) ∧ Rp r' out) ?_ fu out.length (0 : Int32) row (by unfold fu; omega) ⟨0, rfl, by omega, rfl, by simpa using Rp.nil⟩
  rintro n K v r ⟨j, hn, hj, rfl, hr⟩ ih
  unfold P_Mod_unpackRow_377
  by_cases hjl : out.length ≤ j
  · have : j = out.length := by omega
    subst this
    rw [if_pos (nI_le (Nat.le_refl _) (by omega))]
    rw [List.take_length] at hr
    exact ⟨r, rfl, hr⟩
  · have hlt : j < out.length := by omega
    rw [if_neg (nI_ge hlt (by omega)), gi_ok (by omega) (by omega), gi_ok (by omega) (by omega), nI_1, nI_clamp (by omega), hg j hlt]
    refine ih (out.length - (j + 1)) _ _ (by omega) ⟨j + 1, rfl, by omega, rfl, ?_⟩
    rw [take_snoc hlt]
    have := hr.add out[j]
    have e : (out.take j).length = j := by simp; omega
    rw [e] at this
    exact this
theorem mod_insert {out : List Int32} {g : Nat → Int32} (hg : Rp g out) (ho : out.length < 200) {p : Nat} (hp : p ≤ out.length) {n' : Nat} (v8 b : Int32) : ∃ g', fl2 (P_Mod_unpackRow_323 k109 (nI (out.length + 1)) (lN p) (lN n') v8 b) fu (nI out.length) g = k109 (nI (out.length + 1)) (lN (p + 1)) (lN n') v8 b g' ∧ Rp g' (insA out p (nI n')) := by
  refine fl2_p (P_Mod_unpackRow_323 k109 (nI (out.length + 1)) (lN p) (lN n') v8 b) (fun n v g => v = nI (p + n) ∧ p + n ≤ out.length ∧ (∀ j, j < p + n → g j = out.getD j (-1)) ∧ (∀ j, p + n ≤ j → j < out.length → g (j + 1) = out.getD j (-1))) (fun r => ∃ g', r = k109 (nI (out.length + 1)) (lN (p + 1)) (lN n') v8 b g' ∧ Rp g' (insA out p (nI n'))) ?_ fu (out.length - p) (nI out.length) g (by unfold fu; omega) ⟨by congr 1; omega, by omega, fun j hj => hg.get (by omega) _, fun j h1 h2 => by omega⟩
  rintro n K v g ⟨rfl, hn, hg1, hg2⟩ ih
  unfold P_Mod_unpackRow_323
  rw [nI_l (by omega)]
  cases n with
  | zero =>
    have hA : lg_cmp (lN (p + 0)) (lN p) ≤ 0 := by rw [lle (by omega) (by omega)]; omega
    have e1 : (1 : Int64) = lN 1 := rfl
    rw [if_pos hA, lN_i, lN_i, gi_ok (by omega) (by omega), nI_clamp (by omega), e1, lN_add]
    exact ⟨_, rfl, shift_end hp (fun j hj => hg1 j (by omega)) (fun j h1 h2 => hg2 j (by omega) h2)⟩
  | succ n =>
    have hA : ¬ lg_cmp (lN (p + (n + 1))) (lN p) ≤ 0 := by rw [lle (by omega) (by omega)]; omega
    have e1 : nI (p + (n + 1)) - 1 = nI (p + n) := nI_pred (p + n)
    have e2 : nI (p + (n + 1)) + (-1) = nI (p + n) := pk_m1 (p + n)
    rw [if_neg hA, e1, e2, gi_ok (by omega) (by omega), gi_ok (by omega) (by omega), nI_clamp (by omega), nI_clamp (by omega)]
    obtain ⟨s1, s2⟩ := shift_step (l := out) (q := p + n) (p := p) (g := g) (by omega) (by omega) (fun j hj => hg1 j (by omega)) (fun j h1 h2 => hg2 j (by omega) h2)
    exact ih n _ _ (by omega) ⟨rfl, by omega, fun j hj => s1 j (by omega), fun j h1 h2 => s2 j (by omega) h2⟩
theorem mod_unL (h : Rp row l) (hl : l.length ≤ 96) : ∀ (m : Nat) (ds : List Int32) (i n b : Nat) (out : List Int32) (at' : Nat) (g : Nat → Int32) (fuel : Nat), ds.length < m → ds.length < fuel → l.drop at' = ds → at' ≤ l.length → i ≤ 100 → n ≤ 1114111 → b < 100000 → out.length ≤ 48 → Rp g out →
    (∃ b' g', unL m ds i n b out = none ∧ fl6 (P_Mod_unpackRow_109 (nI l.length) row) fuel (nI out.length) (lN i) (lN n) (nI at') (nI b) g = some (0, nI l.length, b', row, g')) ∨ (∃ b' u r' g', unL m ds i n b out = some u ∧ fl6 (P_Mod_unpackRow_109 (nI l.length) row) fuel (nI out.length) (lN i) (lN n) (nI at') (nI b) g = some (1, nI u.length, b', r', g') ∧ Rp r' u) := by
  intro m
  induction m with
  | zero => intro ds i n b out at' g fuel hm; omega
  | succ m ih =>
    intro ds i n b out at' g fuel hm hfu hd hn hi hnn hb ho hg
    obtain ⟨k, rfl⟩ : ∃ k, fuel = k + 1 := ⟨fuel - 1, by omega⟩
    rw [fl6_s]
    generalize hK : fl6 (P_Mod_unpackRow_109 (nI l.length) row) k = K
    unfold P_Mod_unpackRow_109
    simp only [unL]
    cases ds with
    | nil =>
      have hle := drop_nil_le hd
      rw [if_pos (nI_le hle (by omega)), if_pos rfl]
      obtain ⟨r', q1, q2⟩ := mod_copy hg (by omega) (nI b) row
      exact Or.inr ⟨nI b, out, r', g, rfl, q1, q2⟩
    | cons c cs =>
      obtain ⟨hlt, -, -⟩ := drop_cons_lt hd
      rw [if_neg (nI_ge hlt (by omega)), if_neg (show ¬ (c :: cs = []) by simp)]
      have hrd := mod_rd (other := g) (k109 := K) h hl hb (nI out.length) (lN n) (lN i) (fun v4 v8 => if nI out.length = 48 then some (0, nI l.length, nI b, row, g) else if lg_cmp (lN i) 0 = 0 then P_Mod_unpackRow_287 (nI l.length) row K (nI out.length + 1) v4 (lN n) v8 1 (nI out.length + 1) (v4 - lN i).toInt32 g else P_Mod_unpackRow_287 (nI l.length) row K (nI out.length + 1) v4 (lN n) v8 0 (nI out.length + 1) (v4 - lN i).toInt32 g) (fun _ _ => rfl) (c :: cs) i 1 0 at' fu (by have := congrArg List.length hd; simp at this; unfold fu; simp; omega) hd hn (by omega) (by omega) (by omega)
      rcases hrd with ⟨q1, q2⟩ | ⟨i', rest, q1, q2⟩
      · have q2' : fl5 (P_Mod_unpackRow_132 (nI l.length) row K (nI out.length) (lN n) (lN i) (nI b) g) fu (lN i) (nI at') 1 36 1 = some (0, nI l.length, nI b, row, g) := q2
        rw [q1, q2']
        exact Or.inl ⟨_, _, rfl, rfl⟩
      · obtain ⟨s1, s2, s3, kk, s4⟩ := rdN_spec b _ _ _ _ _ _ q1
        have q2' : fl5 (P_Mod_unpackRow_132 (nI l.length) row K (nI out.length) (lN n) (lN i) (nI b) g) fu (lN i) (nI at') 1 36 1 = (if nI out.length = 48 then some (0, nI l.length, nI b, row, g) else if lg_cmp (lN i) 0 = 0 then P_Mod_unpackRow_287 (nI l.length) row K (nI out.length + 1) (lN i') (lN n) (nI (l.length - rest.length)) 1 (nI out.length + 1) (lN i' - lN i).toInt32 g else P_Mod_unpackRow_287 (nI l.length) row K (nI out.length + 1) (lN i') (lN n) (nI (l.length - rest.length)) 0 (nI out.length + 1) (lN i' - lN i).toInt32 g) := q2
        rw [q1, q2', nI_1]
        simp only []
        have e48 : (48 : Int32) = nI 48 := rfl
        rw [e48]
        by_cases h48 : out.length = 48
        · have hno : 48 < out.length + 1 ∨ 1114111 < n + i' / (out.length + 1) := by omega
          rw [if_pos (show nI out.length = nI 48 by rw [h48]), if_pos hno]
          exact Or.inl ⟨_, _, rfl, rfl⟩
        · have hne : ¬ nI out.length = nI 48 := by rw [nI_eq (by omega) (by omega)]; exact h48
          rw [if_neg hne]
          have hsub : (lN i' - lN i).toInt32 = nI (i' - i) := by rw [lN_sub s2, lN_i]
          have hzero : lg_cmp (lN i) 0 = 0 ↔ i = 0 := by
            have : (0 : Int64) = lN 0 := rfl
            rw [this, leq (by omega) (by omega)]
          have tail : ∀ first : Bool, decide (i = 0) = first → ((∃ b' g', (if 48 < out.length + 1 ∨ 1114111 < n + i' / (out.length + 1) then none else unL m rest (i' % (out.length + 1) + 1) (n + i' / (out.length + 1)) (adF (i' - i) (out.length + 1) (decide (i = 0))) (insA out (i' % (out.length + 1)) (nI (n + i' / (out.length + 1))))) = none ∧ P_Mod_unpackRow_287 (nI l.length) row K (nI (out.length + 1)) (lN i') (lN n) (nI (l.length - rest.length)) (b2 first) (nI (out.length + 1)) (nI (i' - i)) g = some (0, nI l.length, b', row, g')) ∨ (∃ b' u r' g', (if 48 < out.length + 1 ∨ 1114111 < n + i' / (out.length + 1) then none else unL m rest (i' % (out.length + 1) + 1) (n + i' / (out.length + 1)) (adF (i' - i) (out.length + 1) (decide (i = 0))) (insA out (i' % (out.length + 1)) (nI (n + i' / (out.length + 1))))) = some u ∧ P_Mod_unpackRow_287 (nI l.length) row K (nI (out.length + 1)) (lN i') (lN n) (nI (l.length - rest.length)) (b2 first) (nI (out.length + 1)) (nI (i' - i)) g = some (1, nI u.length, b', r', g') ∧ Rp r' u)) := by
            intro first hfirst
            unfold P_Mod_unpackRow_287
            have hmany : 1 ≤ out.length + 1 := by omega
            have hdiv : i' / (out.length + 1) ≤ 2147483647 := Nat.le_trans (Nat.div_le_self _ _) s3
            have hmod : i' % (out.length + 1) < out.length + 1 := Nat.mod_lt _ (by omega)
            have had := adF_le first (d := i' - i) (many := out.length + 1) (by omega) hmany
            have emx : (1114111 : Int64) = lN 1114111 := rfl
            rw [mod_adapt first (by omega) hmany (by omega), Option.bind_some, nI_l (by omega)]
            unfold gzl
            have hz : ¬ lN (out.length + 1) = 0 := by
              have : (0 : Int64) = lN 0 := rfl
              rw [this, pk_lEQ (by omega) (by omega)]; omega
            rw [if_neg hz, if_neg hz, pk_lDiv (by omega) (by omega) (by omega), lN_add, emx]
            have hrem : lN i' - lN (i' / (out.length + 1)) * lN (out.length + 1) = lN (i' % (out.length + 1)) := by
              rw [← pk_lDiv (by omega) (by omega) (by omega)]
              exact pk_lRem (by omega) (by omega) (by omega)
            rw [hrem]
            by_cases hbig : 1114111 < n + i' / (out.length + 1)
            · have hA : ¬ lg_cmp (lN (n + i' / (out.length + 1))) (lN 1114111) ≤ 0 := by rw [lle (by omega) (by omega)]; omega
              rw [if_neg hA, if_pos (show 48 < out.length + 1 ∨ 1114111 < n + i' / (out.length + 1) from Or.inr hbig)]
              exact Or.inl ⟨_, _, rfl, rfl⟩
            · have hA : lg_cmp (lN (n + i' / (out.length + 1))) (lN 1114111) ≤ 0 := by rw [lle (by omega) (by omega)]; omega
              have hno : ¬ (48 < out.length + 1 ∨ 1114111 < n + i' / (out.length + 1)) := by omega
              have e1 : nI (out.length + 1) - 1 = nI out.length := nI_pred _
              rw [if_pos hA, if_neg hno, e1]
              obtain ⟨g', w1, w2⟩ := mod_insert (k109 := K) hg (by omega) (p := i' % (out.length + 1)) (by omega) (n' := n + i' / (out.length + 1)) (nI (l.length - rest.length)) (nI (adF (i' - i) (out.length + 1) first))
              rw [w1, ← hK, hfirst]
              have hil := insA_len (l := out) (p := i' % (out.length + 1)) (nI (n + i' / (out.length + 1))) (by omega)
              have hlen : (l.drop (l.length - rest.length)) = rest := drop_back (k := at' + kk) (by rw [s4, ← hd, List.drop_drop])
              have := ih rest (i' % (out.length + 1) + 1) (n + i' / (out.length + 1)) (adF (i' - i) (out.length + 1) first) (insA out (i' % (out.length + 1)) (nI (n + i' / (out.length + 1)))) (l.length - rest.length) g' k (by omega) (by omega) hlen (by omega) (by omega) (by omega) (by omega) (by omega) w2
              rw [hil] at this
              exact this
          by_cases hi0 : i = 0
          · rw [if_pos (hzero.mpr hi0), hsub]
            exact tail true (by simp [hi0])
          · rw [if_neg (fun z => hi0 (hzero.mp z)), hsub]
            exact tail false (by simp [hi0])
/-- the reference's plain part -/
theorem mod_basic2 (h : Rp row l) (hl : l.length ≤ 96) {start p : Nat} (hp : start + p ≤ l.length) (b0 : Int32) : ∀ (cs : List Int32) (j : Nat) (out : List Int32) (g : Nat → Int32) (fuel : Nat), cs.length < fuel → (l.drop j).take (start + (p - 1) - j) = cs → start ≤ j → j ≤ start + (p - 1) → Rp g out → out.length ≤ 48 → out.all (fun x => decide (x < 128)) = true →
    (plainB (out ++ cs) = false ∧ ∃ g', fl3 (P_Mod_unpackRow_42 (nI (start + p) - 1) (nI l.length) b0 row) fuel (nI out.length) (nI j) g = some (0, nI l.length, b0, row, g')) ∨ (plainB (out ++ cs) = true ∧ ∃ g', fl3 (P_Mod_unpackRow_42 (nI (start + p) - 1) (nI l.length) b0 row) fuel (nI out.length) (nI j) g = fl6 (P_Mod_unpackRow_109 (nI l.length) row) fu (nI (out ++ cs).length) (lN 0) (lN 128) (nI (start + p)) (nI 72) g' ∧ Rp g' (out ++ cs)) := by
  have hv : ∀ j, start ≤ j → j < 90000 → ((nI (start + p) - 1 ≤ nI j) ↔ start + (p - 1) ≤ j) := by
    intro j h1 h2
    have e : (nI (start + p) - nI 1).toInt = ((start + p : Nat) : Int) - (1 : Nat) := pk_sub_toInt (by omega) (by omega)
    have e1 : (1 : Int32) = nI 1 := rfl
    rw [Int32.le_iff_toInt_le, e1, e, nI_toInt (by omega)]
    omega
  have hv1 : nI (start + p) - 1 + 1 = nI (start + p) := by simp
  intro cs
  induction cs with
  | nil =>
    intro j out g fuel hfu hd hj0 hj hg ho hall
    obtain ⟨k, rfl⟩ : ∃ k, fuel = k + 1 := ⟨fuel - 1, by simp at hfu; omega⟩
    have hje : start + (p - 1) ≤ j := by
      have := congrArg List.length hd
      simp at this; omega
    rw [fl3_s]
    unfold P_Mod_unpackRow_42
    rw [if_pos ((hv j hj0 (by omega)).mpr hje), List.append_nil, hv1]
    exact Or.inr ⟨by unfold plainB; rw [hall]; simp [ho], g, rfl, hg⟩
  | cons c cs ih =>
    intro j out g fuel hfu hd hj0 hj hg ho hall
    obtain ⟨k, rfl⟩ : ∃ k, fuel = k + 1 := ⟨fuel - 1, by simp at hfu; omega⟩
    have hje : j < start + (p - 1) := by
      have := congrArg List.length hd
      simp at this; omega
    rw [take_drop_succ hje (by omega)] at hd
    injection hd with hc hd2
    rw [fl3_s]
    generalize hK : fl3 (P_Mod_unpackRow_42 (nI (start + p) - 1) (nI l.length) b0 row) k = K
    unfold P_Mod_unpackRow_42
    have hrow : row j = c := by rw [h.get (by omega) (-1), hc]
    have e48 : (48 : Int32) = nI 48 := rfl
    rw [if_neg (fun z => by have := (hv j hj0 (by omega)).mp z; omega), gi_ok (by omega) (by omega), nI_clamp (by omega), hrow]
    by_cases h128 : 127 < c
    · rw [if_pos h128]
      refine Or.inl ⟨?_, _, rfl⟩
      unfold plainB
      rw [List.all_append, List.all_cons]
      have : decide (c < 128) = false := by
        rw [decide_eq_false_iff_not, Int32.lt_iff_toInt_lt]
        rw [Int32.lt_iff_toInt_lt] at h128
        simp only [Int32.reduceToInt] at h128 ⊢; omega
      rw [this]; simp
    · have hc128 : decide (c < 128) = true := by
        rw [decide_eq_true_eq, Int32.lt_iff_toInt_lt]
        rw [Int32.lt_iff_toInt_lt] at h128
        simp only [Int32.reduceToInt] at h128 ⊢; omega
      rw [if_neg h128, e48]
      by_cases h48 : out.length = 48
      · rw [if_pos (by rw [h48])]
        refine Or.inl ⟨?_, _, rfl⟩
        unfold plainB
        have : decide ((out ++ c :: cs).length ≤ 48) = false := by
          rw [decide_eq_false_iff_not]; simp; omega
        rw [this]; simp
      · have hne : ¬ nI out.length = nI 48 := by rw [nI_eq (by omega) (by omega)]; exact h48
        rw [if_neg hne, gi_ok (by omega) (by omega), gi_ok (by omega) (by omega), nI_clamp (by omega), nI_1, nI_1, ← hK]
        have := ih (j + 1) (out ++ [c]) (upd g out.length c) k (by simp at hfu; omega) hd2 (by omega) (by omega) (hg.add c) (by simp; omega) (by rw [List.all_append, List.all_cons, hc128, hall]; simp)
        have e1 : out ++ [c] ++ cs = out ++ c :: cs := by simp
        rw [e1] at this
        have e2 : (out ++ [c]).length = out.length + 1 := by simp
        rw [e2] at this
        exact this
theorem mod_basic1 (h : Rp row l) (hl : l.length ≤ 96) {start : Nat} {b0 : Int32} {g0 : Nat → Int32} : ∀ (cs : List Int32) (i p : Nat) (fuel : Nat), cs.length < fuel → l.drop (start + i) = cs → start + i ≤ l.length → p ≤ i →
    fl2 (P_Mod_unpackRow_6 (nI start) (nI l.length) b0 row g0) fuel (nI (start + p) - 1) (nI (start + i)) = fl3 (P_Mod_unpackRow_42 (nI (start + hyN cs i p) - 1) (nI l.length) b0 row) fu 0 (nI start) g0 := by
  intro cs
  induction cs with
  | nil =>
    intro i p fuel hfu hd hi hp
    obtain ⟨k, rfl⟩ : ∃ k, fuel = k + 1 := ⟨fuel - 1, by simp at hfu; omega⟩
    have := drop_nil_le hd
    rw [fl2_s]
    unfold P_Mod_unpackRow_6
    rw [if_pos (nI_le this (by omega))]
    rfl
  | cons c cs ih =>
    intro i p fuel hfu hd hi hp
    obtain ⟨k, rfl⟩ : ∃ k, fuel = k + 1 := ⟨fuel - 1, by simp at hfu; omega⟩
    obtain ⟨hlt, hc, hd2⟩ := drop_cons_lt hd
    rw [fl2_s]
    generalize hK : fl2 (P_Mod_unpackRow_6 (nI start) (nI l.length) b0 row g0) k = K
    unfold P_Mod_unpackRow_6
    have hrow : row (start + i) = c := by rw [h.get hlt (-1), hc]
    rw [if_neg (nI_ge hlt (by omega)), gi_ok (by omega) (by omega), nI_clamp (by omega), hrow, nI_1, ← hK]
    simp only [hyN]
    by_cases h45 : c = 45
    · rw [if_pos h45, if_pos h45]
      have := ih (i + 1) (i + 1) k (by simp at hfu; omega) (by rw [← hd2]; rfl) (by omega) (by omega)
      have e1 : nI (start + (i + 1)) - 1 = nI (start + i) := nI_pred (start + i)
      rw [e1] at this
      exact this
    · rw [if_neg h45, if_neg h45]
      exact ih (i + 1) p k (by simp at hfu; omega) (by rw [← hd2]; rfl) (by omega) (by omega)
theorem mod_unpack (h : Rp row l) (hl : l.length ≤ 96) {start : Nat} (hs : start ≤ l.length) (b0 : Int32) :
    (unpS (l.drop start) = none ∧ ∃ b' g', P_Mod_unpackRow (nI l.length) b0 row other (nI start) = some (0, nI l.length, b', row, g')) ∨ (∃ u b' r' g', unpS (l.drop start) = some u ∧ P_Mod_unpackRow (nI l.length) b0 row other (nI start) = some (1, nI u.length, b', r', g') ∧ Rp r' u) := by
  unfold P_Mod_unpackRow unpS
  have hb1 := mod_basic1 h hl (start := start) (b0 := b0) (g0 := other) (l.drop start) 0 0 fu (by unfold fu; simp; omega) rfl (by omega) (by omega)
  rw [Nat.add_zero] at hb1
  rw [hb1]
  generalize hnx : hyN (l.drop start) 0 0 = nx
  have hnxl : nx ≤ (l.drop start).length := by
    rw [← hnx]
    have := hyN_le (l.drop start) 0 0 (by omega)
    omega
  have hnxl2 : start + nx ≤ l.length := by simp at hnxl; omega
  have etake : (l.drop start).take (start + (nx - 1) - start) = (l.drop start).take (nx - 1) := by congr 1; omega
  have edrop : (l.drop start).drop nx = l.drop (start + nx) := by rw [List.drop_drop]
  rcases mod_basic2 h hl hnxl2 b0 ((l.drop start).take (nx - 1)) start [] other fu (by unfold fu; simp; omega) etake (by omega) (by omega) Rp.nil (by simp) rfl with ⟨q1, g', q2⟩ | ⟨q1, g', q2, q3⟩
  · have q2' : fl3 (P_Mod_unpackRow_42 (nI (start + nx) - 1) (nI l.length) b0 row) fu 0 (nI start) other = some (0, nI l.length, b0, row, g') := q2
    rw [q2']
    rw [List.nil_append] at q1
    rw [q1, if_neg (by decide)]
    exact Or.inl ⟨rfl, _, _, rfl⟩
  · have q2' : fl3 (P_Mod_unpackRow_42 (nI (start + nx) - 1) (nI l.length) b0 row) fu 0 (nI start) other = fl6 (P_Mod_unpackRow_109 (nI l.length) row) fu (nI ((l.drop start).take (nx - 1)).length) (lN 0) (lN 128) (nI (start + nx)) (nI 72) g' := q2
    rw [List.nil_append] at q1 q3
    rw [q2', q1, if_pos rfl, edrop]
    have hlen : ((l.drop start).take (nx - 1)).length ≤ 48 := by
      unfold plainB at q1
      simp only [Bool.and_eq_true, decide_eq_true_eq] at q1
      exact q1.2
    rcases mod_unL h hl ((l.drop (start + nx)).length + 1) (l.drop (start + nx)) 0 128 72 ((l.drop start).take (nx - 1)) (start + nx) g' fu (by omega) (by unfold fu; simp; omega) rfl hnxl2 (by omega) (by omega) (by omega) hlen q3 with ⟨b', g2, w1, w2⟩ | ⟨b', u, r', g2, w1, w2, w3⟩
    · exact Or.inl ⟨w1, b', g2, w2⟩
    · exact Or.inr ⟨u, b', r', g2, w1, w2, w3⟩
end MU
