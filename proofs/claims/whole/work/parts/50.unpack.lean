/-! ===== unpacking ===== -/
def rdN (b : Nat) : List Int32 → Nat → Nat → Nat → Option (Nat × List Int32)
  | [], _, _, _ => none
  | c :: cs, i, w, j =>
    if dgN c = 36 then none
    else if 2147483647 < i + dgN c * w then none
    else if dgN c < thN b j then some (i + dgN c * w, cs)
    else if 2147483647 < w * (36 - thN b j) then none
    else rdN b cs (i + dgN c * w) (w * (36 - thN b j)) (j + 1)
theorem rdN_spec (b : Nat) : ∀ (ds : List Int32) (i w j i' : Nat) (rest : List Int32), rdN b ds i w j = some (i', rest) → rest.length < ds.length ∧ i ≤ i' ∧ i' ≤ 2147483647 ∧ ∃ k, rest = ds.drop k
  | [], i, w, j, i', rest, h => by simp [rdN] at h
  | c :: cs, i, w, j, i', rest, h => by
    simp only [rdN] at h
    split at h
    · cases h
    split at h
    · cases h
    split at h
    · cases h; exact ⟨by simp, by omega, by omega, 1, rfl⟩
    split at h
    · cases h
    · obtain ⟨h1, h2, h3, k, h4⟩ := rdN_spec b cs _ _ _ _ _ h
      exact ⟨by simp; omega, by omega, h3, k + 1, by simpa using h4⟩
theorem lle {a b : Nat} (ha : a < 2 ^ 63) (hb : b < 2 ^ 63) : (lg_cmp (lN a) (lN b) ≤ 0) ↔ a ≤ b := by rw [lg_cmp_le, pk_lLE ha hb]
theorem llt {a b : Nat} (ha : a < 2 ^ 63) (hb : b < 2 ^ 63) : (0 < lg_cmp (lN a) (lN b)) ↔ b < a := by rw [lg_cmp_gt, pk_lLT hb ha]
theorem leq {a b : Nat} (ha : a < 2 ^ 63) (hb : b < 2 ^ 63) : (lg_cmp (lN a) (lN b) = 0) ↔ a = b := by rw [lg_cmp_eq, pk_lEQ ha hb]
theorem dgI_no {c : Int32} (h : dgN c = 36) : dgI c = -1 := by unfold dgI; rw [if_pos h]
theorem dgI_ok {c : Int32} (h : ¬ dgN c = 36) : dgI c = nI (dgN c) := by unfold dgI; rw [if_neg h]
theorem nI_ne_m1 {k : Nat} (hk : k < 2 ^ 31) : ¬ nI k = -1 := by
  intro q
  have := nI_pos hk
  rw [q] at this
  exact this (by decide)
theorem drop_cons_lt {l : List Int32} {k : Nat} {c : Int32} {cs : List Int32} (h : l.drop k = c :: cs) : k < l.length ∧ l.getD k (-1) = c ∧ l.drop (k + 1) = cs := by
  obtain ⟨h1, h2, h3⟩ := getElem_drop_head h
  exact ⟨h1, by rw [getD_get h1, h2], h3⟩
theorem drop_nil_le {l : List Int32} {k : Nat} (h : l.drop k = []) : l.length ≤ k := by
  have := congrArg List.length h
  simp at this; omega
theorem drop_back {l rest : List Int32} {k : Nat} (h : rest = l.drop k) : l.drop (l.length - rest.length) = rest := by
  subst h
  by_cases hk : k ≤ l.length
  · congr 1; simp; omega
  · rw [List.drop_eq_nil_of_le (by omega : l.length ≤ k)]; simp
theorem mulb {d w : Nat} (hd : d ≤ 36) (hw : w ≤ 2147483647) : d * w ≤ 36 * 2147483647 := Nat.mul_le_mul hd hw
theorem codes_rd {N b : Nat} {f : Nat → Int32} {l : List Int32} (h : Rp f l) (hN : l.length ≤ N) (hN2 : N < 2 ^ 31) (hl : l.length ≤ 96) (hb : b < 100000) : ∀ (cs : List Int32) (i w j next fuel : Nat), cs.length < fuel → l.drop next = cs → next ≤ l.length → i ≤ 2147483647 → w ≤ 2147483647 → j ≤ next →
    (∃ n', rdN b cs i w j = none ∧ fl4 (P_Packer_readNumber_9 N (nI b) (nI l.length) f) fuel (lN i) (lN w) (nI j) (nI next) = some (-1, n')) ∨ (∃ i' rest, rdN b cs i w j = some (i', rest) ∧ fl4 (P_Packer_readNumber_9 N (nI b) (nI l.length) f) fuel (lN i) (lN w) (nI j) (nI next) = some (lN i', nI (l.length - rest.length))) := by
  intro cs
  induction cs with
  | nil =>
    intro i w j next fuel hfu hd hn hi hw hj
    obtain ⟨k, rfl⟩ : ∃ k, fuel = k + 1 := ⟨fuel - 1, by simp at hfu; omega⟩
    refine Or.inl ⟨nI next, rfl, ?_⟩
    rw [fl4_s]
    unfold P_Packer_readNumber_9 P_Row_size
    have e100 : (100 : Int32) = nI 100 := rfl
    have := drop_nil_le hd
    rw [e100, if_neg (nI_ge (by omega) (by omega)), Option.bind_some, if_pos (nI_le this (by omega))]
  | cons c cs ih =>
    intro i w j next fuel hfu hd hn hi hw hj
    obtain ⟨k, rfl⟩ : ∃ k, fuel = k + 1 := ⟨fuel - 1, by simp at hfu; omega⟩
    obtain ⟨hlt, hc, hd2⟩ := drop_cons_lt hd
    rw [fl4_s]
    generalize hK : fl4 (P_Packer_readNumber_9 N (nI b) (nI l.length) f) k = K
    unfold P_Packer_readNumber_9 P_Row_size
    have e100 : (100 : Int32) = nI 100 := rfl
    have emx : (2147483647 : Int64) = lN 2147483647 := rfl
    have e36 : (36 : Int32) = nI 36 := rfl
    rw [e100, if_neg (nI_ge (by omega) (by omega)), Option.bind_some, if_neg (nI_ge hlt (by omega)), row_get h hN hN2 (by omega), Option.bind_some, hc, codes_digit, Option.bind_some, nI_1]
    simp only [rdN]
    by_cases h36 : dgN c = 36
    · rw [dgI_no h36, if_pos rfl, if_pos h36]
      exact Or.inl ⟨_, rfl, rfl⟩
    · have hdl := dgN_le c
      have hdw := mulb hdl hw
      have ht := thN_rng b j
      rw [dgI_ok h36, if_neg (nI_ne_m1 (by omega)), if_neg h36, codes_thr hb (by omega), Option.bind_some, nI_l (by omega), lN_mul, lN_add, emx]
      by_cases hm : 2147483647 < i + dgN c * w
      · have hA : ¬ lg_cmp (lN (i + dgN c * w)) (lN 2147483647) ≤ 0 := by rw [lle (by omega) (by omega)]; omega
        rw [if_neg hA, if_pos hm]
        exact Or.inl ⟨_, rfl, rfl⟩
      · have hA : lg_cmp (lN (i + dgN c * w)) (lN 2147483647) ≤ 0 := by rw [lle (by omega) (by omega)]; omega
        rw [if_pos hA, if_neg hm]
        by_cases hdt : dgN c < thN b j
        · rw [if_neg (nI_ge hdt (by omega)), if_pos hdt]
          refine Or.inr ⟨_, _, rfl, ?_⟩
          have hlen := congrArg List.length hd2
          simp only [List.length_drop] at hlen
          congr 2
          congr 1; omega
        · have hww : w * (36 - thN b j) ≤ 2147483647 * 36 := Nat.mul_le_mul hw (by omega)
          rw [if_pos (nI_le (by omega) (by omega)), if_neg hdt, e36, pk_sub (by omega), nI_l (by omega), lN_mul]
          by_cases hw2 : 2147483647 < w * (36 - thN b j)
          · have hA : ¬ lg_cmp (lN (w * (36 - thN b j))) (lN 2147483647) ≤ 0 := by rw [lle (by omega) (by omega)]; omega
            rw [if_neg hA, if_pos hw2]
            exact Or.inl ⟨_, rfl, rfl⟩
          · have hA : lg_cmp (lN (w * (36 - thN b j))) (lN 2147483647) ≤ 0 := by rw [lle (by omega) (by omega)]; omega
            rw [if_pos hA, if_neg hw2, nI_1, ← hK]
            exact ih _ _ _ (next + 1) k (by simp at hfu; omega) hd2 (by omega) (by omega) (by omega) (by omega)
/-- a code put in at a place -/
def insA (l : List Int32) (p : Nat) (x : Int32) : List Int32 := l.take p ++ x :: l.drop p
theorem insA_len {l : List Int32} {p : Nat} (x : Int32) (h : p ≤ l.length) : (insA l p x).length = l.length + 1 := by
  unfold insA; simp; omega
/-- moving the codes behind a place up by one -/
theorem shift_step {l : List Int32} {q p : Nat} {g : Nat → Int32} (hp : p ≤ q) (hq : q < l.length) (hg1 : ∀ j, j ≤ q → g j = l.getD j (-1)) (hg2 : ∀ j, q < j → j < l.length → g (j + 1) = l.getD j (-1)) : (∀ j, j ≤ q → (upd g (q + 1) (g q)) j = l.getD j (-1)) ∧ (∀ j, q ≤ j → j < l.length → (upd g (q + 1) (g q)) (j + 1) = l.getD j (-1)) := by
  refine ⟨fun j hj => ?_, fun j hj hj2 => ?_⟩
  · rw [upd_n _ _ (by omega)]; exact hg1 j hj
  · by_cases e : j = q
    · subst e; rw [upd_s]; exact hg1 j (Nat.le_refl _)
    · rw [upd_n _ _ (by omega)]; exact hg2 j (by omega) hj2
theorem shift_end {l : List Int32} {p : Nat} {g : Nat → Int32} {x : Int32} (hp : p ≤ l.length) (hg1 : ∀ j, j < p → g j = l.getD j (-1)) (hg2 : ∀ j, p ≤ j → j < l.length → g (j + 1) = l.getD j (-1)) : Rp (upd g p x) (insA l p x) := by
  intro i hi
  rw [insA_len x hp] at hi
  have e : (insA l p x)[i]'(by rw [insA_len x hp]; exact hi) = (insA l p x).getD i (-1) := (getD_get (by rw [insA_len x hp]; exact hi) _).symm
  rw [e]
  unfold insA
  by_cases h1 : i < p
  · rw [upd_n _ _ (by omega), hg1 i h1, List.getD_eq_getElem?_getD, List.getD_eq_getElem?_getD, List.getElem?_append_left (by simp; omega), List.getElem?_take_of_lt h1]
  · by_cases h2 : i = p
    · subst h2
      rw [upd_s, List.getD_eq_getElem?_getD, List.getElem?_append_right (by simp; omega)]
      simp [Nat.min_eq_left hp]
    · obtain ⟨j, rfl⟩ : ∃ j, i = j + 1 := ⟨i - 1, by omega⟩
      rw [upd_n _ _ (by omega), hg2 j (by omega) (by omega), List.getD_eq_getElem?_getD, List.getD_eq_getElem?_getD, List.getElem?_append_right (by simp; omega)]
      have : j + 1 - (l.take p).length = (j - p) + 1 := by simp; omega
      rw [this, List.getElem?_cons_succ, List.getElem?_drop]
      congr 2; omega
theorem row_insert {N : Nat} {f : Nat → Int32} {l : List Int32} (h : Rp f l) (hN : l.length < N) (hN2 : N < 90000) {p : Nat} (hp : p ≤ l.length) (x : Int32) : ∃ f', P_Row_insert N (nI l.length) f (nI p) x = some (1, nI (l.length + 1), f') ∧ Rp f' (insA l p x) := by
  unfold P_Row_insert
  rw [if_neg (nI_ge hN (by omega)), if_neg (nI_pos (by omega)), if_pos (nI_le hp (by omega))]
  refine fl2_p (P_Row_insert_31 N (nI p) x (nI l.length)) (fun n v g => v = nI (p + n) ∧ p + n ≤ l.length ∧ (∀ j, j < p + n → g j = l.getD j (-1)) ∧ (∀ j, p + n ≤ j → j < l.length → g (j + 1) = l.getD j (-1))) (fun r => ∃ f', r = some (1, nI (l.length + 1), f') ∧ Rp f' (insA l p x)) ?_ fu (l.length - p) (nI l.length) f (by unfold fu; omega) ⟨by congr 1; omega, by omega, fun j hj => h.get (by omega) _, fun j h1 h2 => by omega⟩
  rintro n K v g ⟨rfl, hn, hg1, hg2⟩ ih
  unfold P_Row_insert_31
  cases n with
  | zero =>
    rw [if_pos (nI_le (by omega) (by omega)), gi_ok (by omega) (by omega), nI_1, nI_clamp (by omega)]
    exact ⟨_, rfl, shift_end hp (fun j hj => hg1 j (by omega)) (fun j h1 h2 => hg2 j (by omega) h2)⟩
  | succ n =>
    have e1 : nI (p + (n + 1)) - 1 = nI (p + n) := nI_pred (p + n)
    have e2 : nI (p + (n + 1)) + (-1) = nI (p + n) := pk_m1 (p + n)
    rw [if_neg (nI_ge (by omega) (by omega)), e1, e2, gi_ok (by omega) (by omega), gi_ok (by omega) (by omega), nI_clamp (by omega), nI_clamp (by omega)]
    obtain ⟨s1, s2⟩ := shift_step (l := l) (q := p + n) (p := p) (g := g) (by omega) (by omega) (fun j hj => hg1 j (by omega)) (fun j h1 h2 => hg2 j (by omega) h2)
    exact ih n _ _ (by omega) ⟨rfl, by omega, fun j hj => s1 j (by omega), fun j h1 h2 => s2 j (by omega) h2⟩
def unL : Nat → List Int32 → Nat → Nat → Nat → List Int32 → Option (List Int32)
  | 0, _, _, _, _, _ => none
  | f + 1, ds, i, n, b, out => if ds = [] then some out else match rdN b ds i 1 0 with
    | none => none
    | some (i', rest) => if 48 < out.length + 1 ∨ 1114111 < n + i' / (out.length + 1) then none else unL f rest (i' % (out.length + 1) + 1) (n + i' / (out.length + 1)) (adF (i' - i) (out.length + 1) (decide (i = 0))) (insA out (i' % (out.length + 1)) (nI (n + i' / (out.length + 1))))
/-- the class's loop over numbers: the answer's first, the new size, the new row -/
theorem codes_unL {N N3 : Nat} {f : Nat → Int32} {l : List Int32} (h : Rp f l) (hN : l.length ≤ N) (hN2 : N < 2 ^ 31) (hl : l.length ≤ 96) (hN3 : 48 ≤ N3) (hN32 : N3 < 90000) : ∀ (m : Nat) (ds : List Int32) (i n b : Nat) (out : List Int32) (r next : Nat) (g : Nat → Int32) (fuel : Nat), ds.length < m → ds.length < fuel → l.drop next = ds → next ≤ l.length → r ≤ next → i ≤ 100 → n ≤ 1114111 → b < 100000 → out.length ≤ 48 → Rp g out →
    (∃ b' n' z g', unL m ds i n b out = none ∧ fl7 (P_Packer_read_33 N N3 (nI l.length) f) fuel (lN i) (lN n) (nI r) (nI b) (nI next) (nI out.length) g = some (0, b', n', z, g')) ∨ (∃ b' n' u g', unL m ds i n b out = some u ∧ u.length ≤ 48 ∧ fl7 (P_Packer_read_33 N N3 (nI l.length) f) fuel (lN i) (lN n) (nI r) (nI b) (nI next) (nI out.length) g = some (1, b', n', nI u.length, g') ∧ Rp g' u) := by
  intro m
  induction m with
  | zero => intro ds i n b out r next g fuel hm; omega
  | succ m ih =>
    intro ds i n b out r next g fuel hm hfu hd hn hr hi hnn hb ho hg
    obtain ⟨k, rfl⟩ : ∃ k, fuel = k + 1 := ⟨fuel - 1, by omega⟩
    rw [fl7_s]
    generalize hK : fl7 (P_Packer_read_33 N N3 (nI l.length) f) k = K
    unfold P_Packer_read_33 P_Row_size
    rw [Option.bind_some]
    simp only [unL]
    cases ds with
    | nil =>
      have hle := drop_nil_le hd
      rw [if_pos rfl]
      refine Or.inr ⟨nI b, nI next, out, g, rfl, ho, ?_, hg⟩
      by_cases hr2 : l.length ≤ r
      · rw [if_pos (nI_le hr2 (by omega))]
      · rw [if_neg (nI_ge (by omega) (by omega)), Option.bind_some, if_pos (nI_le hle (by omega))]
    | cons c cs =>
      obtain ⟨hlt, -, -⟩ := drop_cons_lt hd
      rw [if_neg (by simp), if_neg (nI_ge (by omega) (by omega)), Option.bind_some, if_neg (nI_ge hlt (by omega))]
      unfold P_Packer_readNumber
      have e1 : (1 : Int64) = lN 1 := rfl
      have e0 : (0 : Int32) = nI 0 := rfl
      rcases codes_rd h hN hN2 hl hb (c :: cs) i 1 0 next fu (by have := congrArg List.length hd; simp at this; unfold fu; simp; omega) hd hn (by omega) (by omega) (by omega) with ⟨n', q1, q2⟩ | ⟨i', rest, q1, q2⟩
      · have q2' : fl4 (P_Packer_readNumber_9 N (nI b) (nI l.length) f) fu (lN i) 1 0 (nI next) = some (-1, n') := q2
        rw [q1, q2', Option.bind_some, if_pos (by rw [lg_cmp_eq])]
        exact Or.inl ⟨_, _, _, _, rfl, rfl⟩
      · have q2' : fl4 (P_Packer_readNumber_9 N (nI b) (nI l.length) f) fu (lN i) 1 0 (nI next) = some (lN i', nI (l.length - rest.length)) := q2
        obtain ⟨s1, s2, s3, kk, s4⟩ := rdN_spec b _ _ _ _ _ _ q1
        rw [q1, q2', Option.bind_some]
        have hne : ¬ lg_cmp (lN i') (-1) = 0 := by
          rw [lg_cmp_eq]
          intro z
          have := pk_lT (n := i') (by omega)
          rw [z] at this
          have e : (-1 : Int64).toInt = -1 := by decide
          rw [e] at this; omega
        simp only []
        rw [if_neg hne, Option.bind_some, nI_1]
        have hsub : (lN i' - lN i).toInt32 = nI (i' - i) := by rw [lN_sub s2, lN_i]
        have hzero : lg_cmp (lN i) 0 = 0 ↔ i = 0 := by
          have : (0 : Int64) = lN 0 := rfl
          rw [this, leq (by omega) (by omega)]
        have tail : ∀ first : Bool, decide (i = 0) = first → (P_Packer_read_106 N3 K (lN i') (lN n) (nI r) (nI (out.length + 1)) (b2 first) (nI (out.length + 1)) (nI (i' - i)) (nI (l.length - rest.length)) (nI out.length) g = P_Packer_read_106 N3 K (lN i') (lN n) (nI r) (nI (out.length + 1)) (b2 first) (nI (out.length + 1)) (nI (i' - i)) (nI (l.length - rest.length)) (nI out.length) g) → ((∃ b' n' z g', (if 48 < out.length + 1 ∨ 1114111 < n + i' / (out.length + 1) then none else unL m rest (i' % (out.length + 1) + 1) (n + i' / (out.length + 1)) (adF (i' - i) (out.length + 1) (decide (i = 0))) (insA out (i' % (out.length + 1)) (nI (n + i' / (out.length + 1))))) = none ∧ P_Packer_read_106 N3 K (lN i') (lN n) (nI r) (nI (out.length + 1)) (b2 first) (nI (out.length + 1)) (nI (i' - i)) (nI (l.length - rest.length)) (nI out.length) g = some (0, b', n', z, g')) ∨ (∃ b' n' u g', (if 48 < out.length + 1 ∨ 1114111 < n + i' / (out.length + 1) then none else unL m rest (i' % (out.length + 1) + 1) (n + i' / (out.length + 1)) (adF (i' - i) (out.length + 1) (decide (i = 0))) (insA out (i' % (out.length + 1)) (nI (n + i' / (out.length + 1))))) = some u ∧ u.length ≤ 48 ∧ P_Packer_read_106 N3 K (lN i') (lN n) (nI r) (nI (out.length + 1)) (b2 first) (nI (out.length + 1)) (nI (i' - i)) (nI (l.length - rest.length)) (nI out.length) g = some (1, b', n', nI u.length, g') ∧ Rp g' u)) := by
          intro first hfirst _
          unfold P_Packer_read_106
          have hmany : 1 ≤ out.length + 1 := by omega
          have hdiv : i' / (out.length + 1) ≤ 2147483647 := Nat.le_trans (Nat.div_le_self _ _) s3
          have hmod : i' % (out.length + 1) < out.length + 1 := Nat.mod_lt _ (by omega)
          have had := adF_le first (d := i' - i) (many := out.length + 1) (by omega) hmany
          have emx : (1114111 : Int64) = lN 1114111 := rfl
          have e48 : (48 : Int32) = nI 48 := rfl
          have e1' : (1 : Int64) = lN 1 := rfl
          rw [codes_adapt first (by omega) hmany (by omega), Option.bind_some, nI_l (by omega)]
          unfold gzl
          have hz : ¬ lN (out.length + 1) = 0 := by
            have : (0 : Int64) = lN 0 := rfl
            rw [this, pk_lEQ (by omega) (by omega)]; omega
          rw [if_neg hz, if_neg hz, pk_lDiv (by omega) (by omega) (by omega), lN_add, emx]
          have hrem : lN i' - lN (i' / (out.length + 1)) * lN (out.length + 1) = lN (i' % (out.length + 1)) := by
            rw [← pk_lDiv (by omega) (by omega) (by omega)]
            exact pk_lRem (by omega) (by omega) (by omega)
          rw [hrem]
          by_cases hbig : 1114111 < n + i' / (out.length + 1)
          · have hA : 0 < lg_cmp (lN (n + i' / (out.length + 1))) (lN 1114111) := by rw [llt (by omega) (by omega)]; exact hbig
            rw [if_pos hA, if_pos (show 48 < out.length + 1 ∨ 1114111 < n + i' / (out.length + 1) from Or.inr hbig)]
            exact Or.inl ⟨_, _, _, _, rfl, rfl⟩
          · have hA : ¬ 0 < lg_cmp (lN (n + i' / (out.length + 1))) (lN 1114111) := by rw [llt (by omega) (by omega)]; exact hbig
            rw [if_neg hA, e48]
            by_cases h48 : 48 < out.length + 1
            · rw [if_neg (nI_ge h48 (by omega)), if_pos (show 48 < out.length + 1 ∨ 1114111 < n + i' / (out.length + 1) from Or.inl h48)]
              exact Or.inl ⟨_, _, _, _, rfl, rfl⟩
            · have hno : ¬ (48 < out.length + 1 ∨ 1114111 < n + i' / (out.length + 1)) := by omega
              have hA2 : nI (out.length + 1) ≤ nI 48 := nI_le (by omega) (by omega)
              rw [if_pos hA2, if_neg hno, lN_i, lN_i]
              obtain ⟨g', w1, w2⟩ := row_insert (N := N3) hg (by omega) hN32 (p := i' % (out.length + 1)) (by omega) (nI (n + i' / (out.length + 1)))
              rw [w1, Option.bind_some]
              simp only []
              rw [e1', lN_add, nI_1, ← hK, hfirst]
              have hil := insA_len (l := out) (p := i' % (out.length + 1)) (nI (n + i' / (out.length + 1))) (by omega)
              have hlen : (l.drop (l.length - rest.length)) = rest := drop_back (k := next + kk) (by rw [s4, ← hd, List.drop_drop])
              have hrl : rest.length ≤ l.length := by
                have := congrArg List.length hd
                simp at this s1; omega
              have hrn : r + 1 ≤ l.length - rest.length := by
                have := congrArg List.length hd
                simp at this s1; omega
              have := ih rest (i' % (out.length + 1) + 1) (n + i' / (out.length + 1)) (adF (i' - i) (out.length + 1) first) (insA out (i' % (out.length + 1)) (nI (n + i' / (out.length + 1)))) (r + 1) (l.length - rest.length) g' k (by omega) (by omega) hlen (by omega) hrn (by omega) (by omega) (by omega) (by omega) w2
              rw [hil] at this
              exact this
        by_cases hi0 : i = 0
        · rw [if_pos (hzero.mpr hi0), hsub]
          exact tail true (by simp [hi0]) rfl
        · rw [if_neg (fun z => hi0 (hzero.mp z)), hsub]
          exact tail false (by simp [hi0]) rfl
