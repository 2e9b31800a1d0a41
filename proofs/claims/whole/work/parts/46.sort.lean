/-! ===== taking apart, sorting the marks ===== -/
def apartL (l : List Int32) : List Int32 := l.flatMap apL
theorem apartL_cons (c : Int32) (l : List Int32) : apartL (c :: l) = apL c ++ apartL l := by simp [apartL]
theorem apartL_snoc (l : List Int32) (c : Int32) : apartL (l ++ [c]) = apartL l ++ apL c := by simp [apartL]
theorem apartL_app (l m : List Int32) : apartL (l ++ m) = apartL l ++ apartL m := by simp [apartL]
theorem apL_len (c : Int32) : 1 ≤ (apL c).length ∧ (apL c).length ≤ 2 := by
  by_cases h : c ∈ pcL
  · obtain ⟨k, -, -, e⟩ := codes_pair h
    rw [e]; simp
  · rw [apL_no h]; simp
theorem apartL_take_le (l : List Int32) (j : Nat) : (apartL (l.take j)).length ≤ (apartL l).length := by
  have : apartL l = apartL (l.take j) ++ apartL (l.drop j) := by rw [← apartL_app, List.take_append_drop]
  rw [this]; simp
theorem take_snoc {l : List Int32} {j : Nat} (h : j < l.length) : l.take (j + 1) = l.take j ++ [l[j]] := List.take_succ_eq_append_getElem h
theorem getD_get {l : List Int32} {j : Nat} (h : j < l.length) (d : Int32) : l.getD j d = l[j] := by
  rw [List.getD_eq_getElem?_getD, List.getElem?_eq_getElem h]; rfl
/-- the class takes apart -/
theorem codes_apart {N : Nat} {f fp : Nat → Int32} {l : List Int32} (h : Rp f l) (hN : l.length ≤ N) (hN2 : N < 90000) (hfit : (apartL l).length ≤ 96) : ∃ f', P_Composer_takeApart N fp (nI l.length) f = some (nI (apartL l).length, f') ∧ Rp f' (apartL l) := by
  unfold P_Composer_takeApart P_Row_empty
  rw [Option.bind_some]
  refine fl3_p (P_Composer_takeApart_9 N (nI l.length) f) (fun n v nn ff => ∃ j, n = l.length - j ∧ j ≤ l.length ∧ v = nI j ∧ nn = nI (apartL (l.take j)).length ∧ Rp ff (apartL (l.take j))) (fun r => ∃ f', r = some (nI (apartL l).length, f') ∧ Rp f' (apartL l)) ?_ fu l.length (0 : Int32) (0 : Int32) fp (by unfold fu; omega) ⟨0, rfl, by omega, rfl, rfl, Rp.nil⟩
  rintro n K v nn ff ⟨j, hn, hj, rfl, rfl, hr⟩ ih
  unfold P_Composer_takeApart_9 P_Row_size
  rw [Option.bind_some]
  by_cases hjl : l.length ≤ j
  · have : j = l.length := by omega
    subst this
    rw [if_pos (nI_le (Nat.le_refl _) (by omega))]
    rw [List.take_length] at hr ⊢
    exact ⟨ff, rfl, hr⟩
  · have hlt : j < l.length := by omega
    have hle := apartL_take_le l (j + 1)
    rw [take_snoc hlt, apartL_snoc, List.length_append] at hle
    rw [if_neg (nI_ge hlt (by omega)), row_get h hN (by omega) (by omega), Option.bind_some, getD_get hlt]
    by_cases hp : l[j] ∈ pcL
    · obtain ⟨k, hk, e1, e2⟩ := codes_pair hp
      rw [e2] at hle
      simp only [List.length_cons, List.length_nil] at hle
      have hne : ¬ nI k = -1 := by
        intro q
        have := nI_pos (n := k) (by omega)
        rw [q] at this
        exact this (by decide)
      rw [e1, Option.bind_some, if_neg hne, gi_ok hk (by decide), nI_clamp (by omega), row_add (by omega) (by decide), Option.bind_some, gi_ok hk (by decide)]
      have e3 : nI ((apartL (l.take j)).length + 1) = nI (apartL (l.take j) ++ [tb_pl k]).length := by simp
      simp only []
      rw [e3, row_add (l := apartL (l.take j) ++ [tb_pl k]) (by simp; omega) (by decide), Option.bind_some, nI_1]
      refine ih (l.length - (j + 1)) _ _ _ (by omega) ⟨j + 1, rfl, by omega, rfl, ?_, ?_⟩
      · rw [take_snoc hlt, apartL_snoc, e2]; simp
      · rw [take_snoc hlt, apartL_snoc, e2]
        have := (hr.add (tb_pl k)).add (tb_pm k)
        simpa using this
    · rw [apL_no hp] at hle
      simp only [List.length_cons, List.length_nil] at hle
      rw [codes_pair_no hp, Option.bind_some, if_pos rfl, row_add (by omega) (by decide), Option.bind_some, nI_1]
      refine ih (l.length - (j + 1)) _ _ _ (by omega) ⟨j + 1, rfl, by omega, rfl, ?_, ?_⟩
      · rw [take_snoc hlt, apartL_snoc, apL_no hp]; simp
      · rw [take_snoc hlt, apartL_snoc, apL_no hp]; exact hr.add _
/-! sorting: a row that is turned round, its marks in order -/
def insM (c : Int32) : List Int32 → List Int32
  | [] => [c]
  | x :: xs => if 0 < ordS c ∧ ordS c < ordS x then x :: insM c xs else c :: x :: xs
def sortR : List Int32 → List Int32 → List Int32
  | rs, [] => rs
  | rs, c :: cs => sortR (insM c rs) cs
def sortM (l : List Int32) : List Int32 := (sortR [] l).reverse
theorem insM_len (c : Int32) : ∀ rs : List Int32, (insM c rs).length = rs.length + 1
  | [] => rfl
  | x :: xs => by
    unfold insM
    split
    · simp [insM_len c xs]
    · simp
theorem sortR_len : ∀ (l rs : List Int32), (sortR rs l).length = rs.length + l.length
  | [], rs => by simp [sortR]
  | c :: cs, rs => by
    unfold sortR
    rw [sortR_len cs, insM_len]
    simp; omega
theorem insM_app {c : Int32} : ∀ {A : List Int32} {B : List Int32}, (∀ a ∈ A, 0 < ordS c ∧ ordS c < ordS a) → insM c (A ++ B) = A ++ insM c B
  | [], B, _ => rfl
  | a :: A, B, h => by
    have h1 := h a List.mem_cons_self
    have h2 : insM c (A ++ B) = A ++ insM c B := insM_app fun x hx => h x (List.mem_cons_of_mem _ hx)
    show insM c (a :: (A ++ B)) = a :: (A ++ insM c B)
    rw [← h2]
    simp only [insM]
    rw [if_pos h1]
/-- the inner loop's place: B is yet to be looked at, A has been moved -/
theorem setB {B C : List Int32} {y x : Int32} : (B.reverse ++ y :: C).set B.length x = B.reverse ++ x :: C := by
  have : B.length = B.reverse.length + 0 := by simp
  rw [this, List.set_append_right _ _ (by omega)]
  simp
theorem getB {B' C : List Int32} {b y : Int32} : (((b :: B').reverse ++ y :: C)).getD B'.length (-1) = b := by
  rw [List.getD_eq_getElem?_getD, List.getElem?_append_left (by simp)]
  simp
theorem nI_m1 {p : Nat} : nI (p + 1) - 1 = nI p := nI_pred p
theorem not_lt_of_le32 {a b : Int32} (h : a ≤ b) : ¬ b < a := by
  rw [Int32.lt_iff_toInt_lt]; rw [Int32.le_iff_toInt_le] at h; omega
theorem lt_of_not_le32 {a b : Int32} (h : ¬ a ≤ b) : b < a := by
  rw [Int32.lt_iff_toInt_lt]; rw [Int32.le_iff_toInt_le] at h; omega
/-- the class's inner loop -/
theorem codes_inner {k2 : Int32 → (Nat → Int32) → Option (Nat → Int32)} {c : Int32} {i n : Nat} {rest : List Int32} (hn : n ≤ 96) : ∀ (B A : List Int32) (y : Int32) (ff : Nat → Int32) (fuel : Nat), B.length < fuel → (B.reverse ++ y :: (A.reverse ++ rest)).length = n → Rp ff (B.reverse ++ y :: (A.reverse ++ rest)) → (∀ a ∈ A, 0 < ordS c ∧ ordS c < ordS a) →
    ∃ f', fl3 (P_Composer_sortMarks_35 (nI n) k2 (nI i) c (ordS c)) fuel (nI B.length) (nI B.length - 1) ff = k2 (nI (i + 1)) f' ∧ Rp f' ((insM c (A ++ B)).reverse ++ rest) := by
  intro B
  induction B with
  | nil =>
    intro A y ff fuel hfu hlen hr hA
    obtain ⟨k, rfl⟩ : ∃ k, fuel = k + 1 := ⟨fuel - 1, by simp at hfu; omega⟩
    rw [fl3_s]
    unfold P_Composer_sortMarks_35
    rw [if_pos (by decide)]
    unfold P_Composer_sortMarks_90
    have hset := row_set (N := 96) (f := ff) (l := ([] : List Int32).reverse ++ y :: (A.reverse ++ rest)) (k := 0) (by omega) (by decide) (by simp) c
    rw [hlen] at hset
    have e0 : nI ([] : List Int32).length = nI 0 := rfl
    rw [e0, hset, Option.bind_some, nI_1]
    refine ⟨_, rfl, ?_⟩
    have := hr.set 0 c
    rw [insM_app hA]
    simpa [insM] using this
  | cons b B ih =>
    intro A y ff fuel hfu hlen hr hA
    obtain ⟨k, rfl⟩ : ∃ k, fuel = k + 1 := ⟨fuel - 1, by simp at hfu; omega⟩
    have hB : (b :: B).length = B.length + 1 := rfl
    have hlen2 : B.length + 1 < n := by rw [← hlen]; simp
    rw [fl3_s]
    generalize hK : fl3 (P_Composer_sortMarks_35 (nI n) k2 (nI i) c (ordS c)) k = K
    unfold P_Composer_sortMarks_35
    rw [hB, nI_m1, if_neg (nI_pos (by omega))]
    have hget := row_get (N := 96) (k := B.length) hr (by omega) (by decide) (by omega)
    rw [hlen, getB] at hget
    have hexit : ∀ (_ : ¬ (0 < ordS c ∧ ordS c < ordS b)), ∃ f', P_Composer_sortMarks_90 (nI n) k2 (nI i) c (nI (B.length + 1)) ff = k2 (nI (i + 1)) f' ∧ Rp f' ((insM c (A ++ b :: B)).reverse ++ rest) := by
      intro hno
      unfold P_Composer_sortMarks_90
      have hset := row_set (N := 96) (f := ff) (l := (b :: B).reverse ++ y :: (A.reverse ++ rest)) (k := B.length + 1) (by omega) (by decide) (by omega) c
      rw [hlen] at hset
      rw [hset, Option.bind_some, nI_1]
      refine ⟨_, rfl, ?_⟩
      have := hr.set (b :: B).length c
      rw [setB] at this
      rw [insM_app hA]
      have e : insM c (b :: B) = c :: b :: B := by simp only [insM]; rw [if_neg hno]
      rw [e]
      simpa using this
    by_cases h0 : ordS c ≤ 0
    · rw [if_pos h0]
      exact hexit (fun q => not_lt_of_le32 h0 q.1)
    · rw [if_neg h0, hget, Option.bind_some, codes_order, Option.bind_some]
      by_cases h1 : ordS b ≤ ordS c
      · rw [if_pos h1]
        exact hexit (fun q => not_lt_of_le32 h1 q.2)
      · rw [if_neg h1, Option.bind_some, nI_1]
        have hset := row_set (N := 96) (f := ff) (l := (b :: B).reverse ++ y :: (A.reverse ++ rest)) (k := B.length + 1) (by omega) (by decide) (by omega) b
        rw [hlen] at hset
        rw [hset, Option.bind_some]
        have hb' : 0 < ordS c ∧ ordS c < ordS b := ⟨lt_of_not_le32 h0, lt_of_not_le32 h1⟩
        have hr' := hr.set (b :: B).length b
        rw [setB] at hr'
        have e1 : (b :: B).reverse ++ b :: (A.reverse ++ rest) = B.reverse ++ b :: ((A ++ [b]).reverse ++ rest) := by simp
        rw [e1] at hr'
        have em : nI B.length + (-1) = nI B.length - 1 := by
          rw [Int32.sub_eq_add_neg]
        obtain ⟨f', q1, q2⟩ := ih (A ++ [b]) b _ k (by simp at hfu; omega) (by rw [← hlen]; simp) hr' (by
          intro a ha
          rcases List.mem_append.mp ha with ha | ha
          · exact hA a ha
          · rw [List.mem_singleton] at ha; rw [ha]; exact hb')
        refine ⟨f', ?_, ?_⟩
        · rw [em, ← hK]; exact q1
        · have e2 : A ++ [b] ++ B = A ++ b :: B := by simp
          rw [e2] at q2; exact q2
theorem codes_sort {l : List Int32} {f : Nat → Int32} (h : Rp f l) (hl : l.length ≤ 96) : ∃ f', P_Composer_sortMarks (nI l.length) f = some f' ∧ Rp f' (sortM l) := by
  cases l with
  | nil =>
    refine ⟨f, ?_, Rp.nil⟩
    unfold P_Composer_sortMarks
    have hfu : fu = 99999 + 1 := rfl
    rw [hfu, fl2_s]
    unfold P_Composer_sortMarks_2 P_Row_size
    rw [Option.bind_some, if_pos (by decide)]
  | cons x xs =>
    unfold P_Composer_sortMarks
    refine fl2_p (P_Composer_sortMarks_2 (nI (x :: xs).length)) (fun n v ff => ∃ (rs rest : List Int32), n = rest.length ∧ v = nI rs.length ∧ rs.length + rest.length = (x :: xs).length ∧ Rp ff (rs.reverse ++ rest) ∧ sortR rs rest = sortR [] (x :: xs)) (fun r => ∃ f', r = some f' ∧ Rp f' (sortM (x :: xs))) ?_ fu xs.length (1 : Int32) f (by unfold fu; simp at hl; omega) ⟨[x], xs, rfl, rfl, by simp; omega, by simpa using h, rfl⟩
    rintro n K v ff ⟨rs, rest, hn, rfl, hlen, hr, hs⟩ ih
    generalize hL : (x :: xs).length = L at *
    unfold P_Composer_sortMarks_2 P_Row_size
    rw [Option.bind_some]
    cases rest with
    | nil =>
      have : rs.length = L := by simpa using hlen
      rw [if_pos (by rw [this]; exact nI_le (Nat.le_refl _) (by omega))]
      refine ⟨ff, rfl, ?_⟩
      unfold sortM
      rw [← hs]
      simpa [sortR] using hr
    | cons c cs =>
      simp only [List.length_cons] at hlen hn
      have hlt : rs.length < L := by omega
      have hlen2 : (rs.reverse ++ c :: cs).length = L := by simp; omega
      have hget := row_get (N := 96) (k := rs.length) hr (by omega) (by decide) (by omega)
      rw [hlen2] at hget
      have eg : (rs.reverse ++ c :: cs).getD rs.length (-1) = c := by
        rw [List.getD_eq_getElem?_getD, List.getElem?_append_right (by simp)]
        simp
      rw [eg] at hget
      rw [if_neg (nI_ge hlt (by omega)), hget, Option.bind_some, codes_order, Option.bind_some]
      obtain ⟨f', q1, q2⟩ := codes_inner (k2 := K) (c := c) (i := rs.length) (n := L) (rest := cs) (by omega) rs [] c ff fu (by unfold fu; omega) (by simp; omega) (by simpa using hr) (fun a ha => by cases ha)
      rw [q1]
      refine ih cs.length _ _ (by omega) ⟨insM c rs, cs, rfl, by rw [insM_len], by rw [insM_len]; omega, by simpa using q2, ?_⟩
      rw [← hs]
      rfl
/-- the reference's inner loop -/
theorem mod_inner {k75 : Int32 → (Nat → Int32) → Option (Int32 × (Nat → Int32))} {c : Int32} {i n : Nat} {rest : List Int32} (hn : n ≤ 200) : ∀ (B A : List Int32) (y : Int32) (ff : Nat → Int32) (fuel : Nat), B.length < fuel → (B.reverse ++ y :: (A.reverse ++ rest)).length = n → Rp ff (B.reverse ++ y :: (A.reverse ++ rest)) → (∀ a ∈ A, 0 < ordS c ∧ ordS c < ordS a) →
    ∃ f', fl2 (P_Mod_takeApart_90 k75 (nI i) c) fuel (nI B.length) ff = k75 (nI (i + 1)) f' ∧ Rp f' ((insM c (A ++ B)).reverse ++ rest) := by
  intro B
  induction B with
  | nil =>
    intro A y ff fuel hfu hlen hr hA
    obtain ⟨k, rfl⟩ : ∃ k, fuel = k + 1 := ⟨fuel - 1, by simp at hfu; omega⟩
    rw [fl2_s]
    unfold P_Mod_takeApart_90
    have hlen2 : 0 < n := by rw [← hlen]; simp
    have e0 : nI ([] : List Int32).length = nI 0 := rfl
    rw [e0, if_pos (by decide), gi_ok (by omega) (by omega), nI_1, nI_clamp (by omega)]
    refine ⟨_, rfl, ?_⟩
    have := hr.set 0 c
    rw [insM_app hA]
    simpa [insM] using this
  | cons b B ih =>
    intro A y ff fuel hfu hlen hr hA
    obtain ⟨k, rfl⟩ : ∃ k, fuel = k + 1 := ⟨fuel - 1, by simp at hfu; omega⟩
    have hB : (b :: B).length = B.length + 1 := rfl
    have hlen2 : B.length + 1 < n := by rw [← hlen]; simp
    rw [fl2_s]
    generalize hK : fl2 (P_Mod_takeApart_90 k75 (nI i) c) k = K
    unfold P_Mod_takeApart_90
    have hgb : ff B.length = b := by
      rw [hr.get (i := B.length) (by omega) (-1), getB]
    have hexit : ∀ (_ : ¬ (0 < ordS c ∧ ordS c < ordS b)), ∃ f', gi (nI (B.length + 1)) 200 (k75 (nI i + 1) (upd ff (nI (B.length + 1)).toNatClampNeg c)) = k75 (nI (i + 1)) f' ∧ Rp f' ((insM c (A ++ b :: B)).reverse ++ rest) := by
      intro hno
      rw [gi_ok (by omega) (by omega), nI_1, nI_clamp (by omega)]
      refine ⟨_, rfl, ?_⟩
      have := hr.set (b :: B).length c
      rw [setB] at this
      rw [insM_app hA]
      have e : insM c (b :: B) = c :: b :: B := by simp only [insM]; rw [if_neg hno]
      rw [e]
      simpa using this
    rw [hB, if_neg (nI_nle (by omega) (by omega)), mod_order, Option.bind_some]
    by_cases h0 : ordS c ≤ 0
    · rw [if_pos h0]
      exact hexit (fun q => not_lt_of_le32 h0 q.1)
    · rw [if_neg h0, nI_m1, gi_ok (by omega) (by omega), nI_clamp (by omega), hgb, mod_order, Option.bind_some, Option.bind_some]
      by_cases h1 : ordS b ≤ ordS c
      · rw [if_pos h1]
        exact hexit (fun q => not_lt_of_le32 h1 q.2)
      · rw [if_neg h1, gi_ok (by omega) (by omega), gi_ok (by omega) (by omega), pk_m1, nI_clamp (by omega)]
        have hb' : 0 < ordS c ∧ ordS c < ordS b := ⟨lt_of_not_le32 h0, lt_of_not_le32 h1⟩
        have hr' := hr.set (b :: B).length b
        rw [setB] at hr'
        have e1 : (b :: B).reverse ++ b :: (A.reverse ++ rest) = B.reverse ++ b :: ((A ++ [b]).reverse ++ rest) := by simp
        rw [e1] at hr'
        obtain ⟨f', q1, q2⟩ := ih (A ++ [b]) b _ k (by simp at hfu; omega) (by rw [← hlen]; simp) hr' (by
          intro a ha
          rcases List.mem_append.mp ha with ha | ha
          · exact hA a ha
          · rw [List.mem_singleton] at ha; rw [ha]; exact hb')
        refine ⟨f', ?_, ?_⟩
        · rw [← hK]; exact q1
        · have e2 : A ++ [b] ++ B = A ++ b :: B := by simp
          rw [e2] at q2; exact q2
theorem mod_sort {l : List Int32} {f : Nat → Int32} (h : Rp f l) (hl : l.length ≤ 200) : ∃ f', fl2 (P_Mod_takeApart_75 (nI l.length)) fu 0 f = some (nI l.length, f') ∧ Rp f' (sortM l) := by
  refine fl2_p (P_Mod_takeApart_75 (nI l.length)) (fun n v ff => ∃ (rs rest : List Int32), n = rest.length ∧ v = nI rs.length ∧ rs.length + rest.length = l.length ∧ Rp ff (rs.reverse ++ rest) ∧ sortR rs rest = sortR [] l) (fun r => ∃ f', r = some (nI l.length, f') ∧ Rp f' (sortM l)) ?_ fu l.length (0 : Int32) f (by unfold fu; omega) ⟨[], l, rfl, rfl, by simp, by simpa using h, rfl⟩
  rintro n K v ff ⟨rs, rest, hn, rfl, hlen, hr, hs⟩ ih
  generalize hL : l.length = L at *
  unfold P_Mod_takeApart_75
  cases rest with
  | nil =>
    have : rs.length = L := by simpa using hlen
    rw [if_pos (by rw [this]; exact nI_le (Nat.le_refl _) (by omega))]
    refine ⟨ff, rfl, ?_⟩
    unfold sortM
    rw [← hs]
    simpa [sortR] using hr
  | cons c cs =>
    simp only [List.length_cons] at hlen hn
    have hlt : rs.length < L := by omega
    have eg : ff rs.length = c := by
      rw [hr.get (i := rs.length) (by simp) (-1), List.getD_eq_getElem?_getD, List.getElem?_append_right (by simp)]
      simp
    rw [if_neg (nI_ge hlt (by omega)), gi_ok (by omega) (by omega), nI_clamp (by omega), eg]
    obtain ⟨f', q1, q2⟩ := mod_inner (k75 := K) (c := c) (i := rs.length) (n := L) (rest := cs) (by omega) rs [] c ff fu (by unfold fu; omega) (by simp; omega) (by simpa using hr) (fun a ha => by cases ha)
    rw [q1]
    refine ih cs.length _ _ (by omega) ⟨insM c rs, cs, rfl, by rw [insM_len], by rw [insM_len]; omega, by simpa using q2, ?_⟩
    rw [← hs]
    rfl
/-- the reference takes apart and sorts -/
theorem mod_apart {l : List Int32} {row other : Nat → Int32} (h : Rp row l) (hl : l.length ≤ 200) (hfit : (apartL l).length ≤ 200) : ∃ f', P_Mod_takeApart (nI l.length) row other = some (nI (apartL l).length, f') ∧ Rp f' (sortM (apartL l)) := by
  unfold P_Mod_takeApart
  refine fl3_p (P_Mod_takeApart_4 row (nI l.length)) (fun n v1 v2 ff => ∃ j, n = l.length - j ∧ j ≤ l.length ∧ v2 = nI j ∧ v1 = nI (apartL (l.take j)).length ∧ Rp ff (apartL (l.take j))) (fun r => ∃ f', r = some (nI (apartL l).length, f') ∧ Rp f' (sortM (apartL l))) ?_ fu l.length (0 : Int32) (0 : Int32) other (by unfold fu; omega) ⟨0, rfl, by omega, rfl, rfl, Rp.nil⟩
  rintro n K v1 v2 ff ⟨j, hn, hj, rfl, rfl, hr⟩ ih
  unfold P_Mod_takeApart_4
  by_cases hjl : l.length ≤ j
  · have : j = l.length := by omega
    subst this
    rw [if_pos (nI_le (Nat.le_refl _) (by omega))]
    rw [List.take_length] at hr ⊢
    exact mod_sort hr hfit
  · have hlt : j < l.length := by omega
    have hle := apartL_take_le l (j + 1)
    rw [take_snoc hlt, apartL_snoc, List.length_append] at hle
    rw [if_neg (nI_ge hlt (by omega)), gi_ok (by omega) (by omega), nI_clamp (by omega), h j hlt]
    by_cases hp : l[j] ∈ pcL
    · obtain ⟨a, m, e1, ha, e3, e2⟩ := mod_letter hp
      rw [e2] at hle
      simp only [List.length_cons, List.length_nil] at hle
      rw [e1, Option.bind_some, if_neg ha]
      unfold P_Mod_takeApart_41
      rw [gi_ok (by omega) (by omega), if_neg ha, gi_ok (by omega) (by omega), nI_clamp (by omega), nI_clamp (by omega), h j hlt, e3, Option.bind_some, nI_1, nI_1, nI_1, gi_ok (by omega) (by omega), nI_clamp (by omega)]
      refine ih (l.length - (j + 1)) _ _ _ (by omega) ⟨j + 1, rfl, by omega, rfl, ?_, ?_⟩
      · rw [take_snoc hlt, apartL_snoc, e2]; simp
      · rw [take_snoc hlt, apartL_snoc, e2]
        have := (hr.add a).add m
        simpa using this
    · rw [apL_no hp] at hle
      simp only [List.length_cons, List.length_nil] at hle
      rw [mod_letter_no hp, Option.bind_some, if_pos (by decide), gi_ok (by omega) (by omega)]
      unfold P_Mod_takeApart_41
      rw [gi_ok (by omega) (by omega), if_pos (by decide), nI_clamp (by omega), nI_1, nI_1]
      refine ih (l.length - (j + 1)) _ _ _ (by omega) ⟨j + 1, rfl, by omega, rfl, ?_, ?_⟩
      · rw [take_snoc hlt, apartL_snoc, apL_no hp]; simp
      · rw [take_snoc hlt, apartL_snoc, apL_no hp]; exact hr.add _
