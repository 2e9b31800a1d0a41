/-! ===== packing: which code is next, and its delta ===== -/
def vN (l : List Int32) (p : Nat) : Nat := (l.getD p (-1)).toInt.toNat
def okC (l : List Int32) : Prop := ∀ x ∈ l, 0 ≤ x.toInt ∧ x.toInt ≤ 1114111
theorem okC_get {l : List Int32} (h : okC l) {p : Nat} (hp : p < l.length) : l.getD p (-1) = nI (vN l p) ∧ vN l p ≤ 1114111 := by
  have := h (l.getD p (-1)) (by rw [getD_get hp]; exact List.getElem_mem hp)
  unfold vN
  exact ⟨nI_of_toInt (by omega) (by omega), by omega⟩
/-- not yet packed: behind the place i of code n -/
def Gt (l : List Int32) (n i p : Nat) : Bool := decide (n < vN l p) || (decide (vN l p = n) && decide (i ≤ p))
theorem Gt_iff {l : List Int32} {n i p : Nat} : Gt l n i p = true ↔ n < vN l p ∨ (vN l p = n ∧ i ≤ p) := by
  unfold Gt; simp
def lexle (l : List Int32) (q p : Nat) : Prop := vN l q < vN l p ∨ (vN l q = vN l p ∧ q ≤ p)
def lsU (l : List Int32) (G : Nat → Bool) (k : Nat) (b : Option Nat) : Option Nat := if G k && (match b with | none => true | some q => decide (vN l k ≤ vN l q)) then some k else b
def lsD (l : List Int32) (G : Nat → Bool) : Nat → Option Nat → Option Nat
  | 0, b => b
  | k + 1, b => lsD l G k (lsU l G k b)
def lsN (l : List Int32) (G : Nat → Bool) : Option Nat := lsD l G l.length none
def lsOk (l : List Int32) (G : Nat → Bool) (k : Nat) (b : Option Nat) : Prop := match b with
  | none => ∀ p, k ≤ p → p < l.length → G p = false
  | some q => q < l.length ∧ k ≤ q ∧ G q = true ∧ ∀ p, k ≤ p → p < l.length → G p = true → lexle l q p
theorem lsU_ok {l : List Int32} {G : Nat → Bool} {k : Nat} {b : Option Nat} (hk : k < l.length) (h : lsOk l G (k + 1) b) : lsOk l G k (lsU l G k b) := by
  unfold lsU
  cases hG : G k with
  | false =>
    simp only [Bool.false_and, Bool.false_eq_true, if_false]
    cases b with
    | none =>
      intro p h1 h2
      by_cases e : p = k
      · rw [e]; exact hG
      · exact h p (by omega) h2
    | some q =>
      obtain ⟨h1, h2, h3, h4⟩ := h
      refine ⟨h1, by omega, h3, fun p g1 g2 g3 => ?_⟩
      by_cases e : p = k
      · rw [e, hG] at g3; cases g3
      · exact h4 p (by omega) g2 g3
  | true =>
    cases b with
    | none =>
      simp only [Bool.and_self, if_true]
      refine ⟨hk, Nat.le_refl _, hG, fun p g1 g2 g3 => ?_⟩
      by_cases e : p = k
      · exact Or.inr ⟨by rw [e], by omega⟩
      · have := h p (by omega) g2
        rw [this] at g3; cases g3
    | some q =>
      obtain ⟨h1, h2, h3, h4⟩ := h
      by_cases hv : vN l k ≤ vN l q
      · simp only [hv, decide_true, Bool.and_self, if_true]
        refine ⟨hk, Nat.le_refl _, hG, fun p g1 g2 g3 => ?_⟩
        by_cases e : p = k
        · exact Or.inr ⟨by rw [e], by omega⟩
        · rcases h4 p (by omega) g2 g3 with z | ⟨z1, z2⟩
          · exact Or.inl (by omega)
          · by_cases e2 : vN l k < vN l q
            · exact Or.inl (by omega)
            · exact Or.inr ⟨by omega, by omega⟩
      · simp only [hv, decide_false, Bool.and_false, Bool.false_eq_true, if_false]
        refine ⟨h1, by omega, h3, fun p g1 g2 g3 => ?_⟩
        by_cases e : p = k
        · rw [e]; exact Or.inl (by omega)
        · exact h4 p (by omega) g2 g3
theorem lsD_ok {l : List Int32} {G : Nat → Bool} : ∀ (k : Nat) (b : Option Nat), k ≤ l.length → lsOk l G k b → lsOk l G 0 (lsD l G k b)
  | 0, b, _, h => h
  | k + 1, b, hk, h => lsD_ok k _ (by omega) (lsU_ok (by omega) h)
theorem lsN_ok (l : List Int32) (G : Nat → Bool) : lsOk l G 0 (lsN l G) := lsD_ok l.length none (Nat.le_refl _) (fun p h1 h2 => by omega)
/-- how many codes before k are not above c -/
def cN (l : List Int32) (c : Nat) : Nat → Nat
  | 0 => 0
  | k + 1 => cN l c k + (if vN l k ≤ c then 1 else 0)
theorem cN_mono (l : List Int32) (c : Nat) : ∀ (d k : Nat), cN l c k ≤ cN l c (k + d)
  | 0, k => Nat.le_refl _
  | d + 1, k => by
    have := cN_mono l c d k
    show cN l c k ≤ cN l c (k + d) + _
    omega
theorem cN_le (l : List Int32) (c : Nat) : ∀ k, cN l c k ≤ k
  | 0 => Nat.le_refl _
  | k + 1 => by
    have := cN_le l c k
    simp only [cN]; split <;> omega
/-- how many are packed at (n, i), among the first k -/
def hN (l : List Int32) (n i : Nat) : Nat → Nat
  | 0 => 0
  | k + 1 => hN l n i k + (if Gt l n i k = true then 0 else 1)
theorem hN_le (l : List Int32) (n i : Nat) : ∀ k, hN l n i k ≤ k
  | 0 => Nat.le_refl _
  | k + 1 => by
    have := hN_le l n i k
    simp only [hN]; split <;> omega
theorem hN_mono (l : List Int32) (n i : Nat) : ∀ (d k : Nat), hN l n i k ≤ hN l n i (k + d)
  | 0, k => Nat.le_refl _
  | d + 1, k => by
    have := hN_mono l n i d k
    show hN l n i k ≤ hN l n i (k + d) + _
    omega
theorem cN_hN (l : List Int32) (n i : Nat) : ∀ k, k ≤ i → cN l n k ≤ hN l n i k
  | 0, _ => Nat.le_refl _
  | k + 1, h => by
    have := cN_hN l n i k (by omega)
    simp only [cN, hN]
    by_cases h1 : vN l k ≤ n
    · have h2 : ¬ Gt l n i k = true := by rw [Gt_iff]; omega
      rw [if_pos h1, if_neg h2]; omega
    · rw [if_neg h1]; omega
/-- counting before the next one -/
theorem hN_cN {l : List Int32} {n i k : Nat} (hk : k < l.length) (hG : Gt l n i k = true) (hmin : ∀ p, p < l.length → Gt l n i p = true → lexle l k p) : ∀ m, m ≤ k → hN l n i m = cN l (vN l k) m
  | 0, _ => rfl
  | m + 1, h => by
    have ih := hN_cN hk hG hmin m (by omega)
    simp only [cN, hN, ih]
    by_cases h1 : vN l m ≤ vN l k
    · have h2 : ¬ Gt l n i m = true := by
        intro z
        rcases hmin m (by omega) z with q | ⟨q1, q2⟩ <;> omega
      rw [if_pos h1, if_neg h2]
    · have h2 : Gt l n i m = true := by
        rw [Gt_iff] at hG ⊢
        omega
      rw [if_neg h1, if_pos h2]
/-- behind it, it alone has gone -/
theorem Gt_next {l : List Int32} {n i k : Nat} (hG : Gt l n i k = true) (hmin : ∀ p, p < l.length → Gt l n i p = true → lexle l k p) {p : Nat} (hp : p < l.length) : Gt l (vN l k) (k + 1) p = (Gt l n i p && !decide (p = k)) := by
  rw [Bool.eq_iff_iff]
  simp only [Bool.and_eq_true, Bool.not_eq_true', decide_eq_false_iff_not]
  rw [Gt_iff] at *
  constructor
  · intro h
    rw [Gt_iff]
    refine ⟨by omega, fun e => ?_⟩
    subst e
    omega
  · rintro ⟨h1, h2⟩
    rcases hmin p hp h1 with q | ⟨q1, q2⟩
    · exact Or.inl q
    · exact Or.inr ⟨by omega, by omega⟩
theorem hN_next {l : List Int32} {n i k : Nat} (hk : k < l.length) (hG : Gt l n i k = true) (hmin : ∀ p, p < l.length → Gt l n i p = true → lexle l k p) : ∀ m, m ≤ l.length → hN l (vN l k) (k + 1) m = hN l n i m + (if k < m then 1 else 0)
  | 0, _ => rfl
  | m + 1, h => by
    have ih := hN_next hk hG hmin m (by omega)
    have e := Gt_next hG hmin (p := m) (by omega)
    simp only [hN, ih, e]
    by_cases h1 : m = k
    · subst h1
      rw [hG]
      simp
    · simp only [h1, decide_false, Bool.not_false, Bool.and_true]
      split <;> split <;> split <;> omega
def encS (l : List Int32) : Nat → Nat → Nat → Nat → Bool → List Int32
  | 0, _, _, _, _ => []
  | f + 1, n, i, b, first => match lsN l (Gt l n i) with
    | none => []
    | some k => numS b ((vN l k - n) * (hN l n i l.length + 1) + cN l (vN l k) k - cN l n i) ++ encS l f (vN l k) (k + 1) (adF ((vN l k - n) * (hN l n i l.length + 1) + cN l (vN l k) k - cN l n i) (hN l n i l.length + 1) first) false
def basS (l : List Int32) : List Int32 := l.filter (fun x => decide (x < 128))
def packS (l : List Int32) : List Int32 := basS l ++ (if basS l = [] then [] else [45]) ++ encS l (l.length + 1) 128 0 72 true
/-- the delta is no less than nothing, and small -/
theorem delta_ok {l : List Int32} (h : okC l) (hl : l.length ≤ 96) {n i k : Nat} (hn : n ≤ 1114111) (hi : i ≤ l.length) (hk : k < l.length) (hG : Gt l n i k = true) : cN l n i ≤ (vN l k - n) * (hN l n i l.length + 1) + cN l (vN l k) k ∧ (vN l k - n) * (hN l n i l.length + 1) + cN l (vN l k) k < 260000000 ∧ n ≤ vN l k := by
  have hv := (okC_get h hk).2
  have h1 := hN_le l n i l.length
  have h2 := cN_le l (vN l k) k
  rw [Gt_iff] at hG
  have hb : (vN l k - n) * (hN l n i l.length + 1) ≤ 1114111 * 97 := Nat.mul_le_mul (by omega) (by omega)
  refine ⟨?_, by omega, by omega⟩
  rcases hG with hG | ⟨hG, hik⟩
  · have h3 := cN_hN l n i i (Nat.le_refl _)
    have h4 := hN_mono l n i (l.length - i) i
    rw [show i + (l.length - i) = l.length by omega] at h4
    have h5 : 1 * (hN l n i l.length + 1) ≤ (vN l k - n) * (hN l n i l.length + 1) := Nat.mul_le_mul_right _ (by omega)
    omega
  · rw [hG]
    have := cN_mono l n (k - i) i
    rw [show i + (k - i) = k by omega] at this
    omega
/-- how many are left -/
theorem left_dec {l : List Int32} {n i k : Nat} (hk : k < l.length) (hG : Gt l n i k = true) (hmin : ∀ p, p < l.length → Gt l n i p = true → lexle l k p) : hN l (vN l k) (k + 1) l.length = hN l n i l.length + 1 := by
  rw [hN_next hk hG hmin l.length (Nat.le_refl _), if_pos hk]
theorem hN_lt {l : List Int32} {n i k : Nat} (hG : Gt l n i k = true) : ∀ m, k < m → hN l n i m < m
  | 0, h => by omega
  | m + 1, h => by
    simp only [hN]
    by_cases e : k = m
    · subst e; rw [if_pos hG]; have := hN_le l n i k; omega
    · have := hN_lt hG m (by omega)
      split <;> omega
/-! the reference -/
def plF (l : List Int32) (n i : Nat) (pl : Nat → Int32) : Prop := ∀ p, p < l.length → pl p = b2 (!Gt l n i p)
theorem mod_least {l : List Int32} {row pl : Nat → Int32} (h : Rp row l) (hc : okC l) (hl : l.length ≤ 96) {n i : Nat} (hp : plF l n i pl) : P_Mod_leastLeft (nI l.length) row pl = some (stI (lsN l (Gt l n i))) := by
  unfold P_Mod_leastLeft lsN
  refine fl2_p (P_Mod_leastLeft_9 row pl) (fun m v1 v2 => ∃ b, m ≤ l.length ∧ v1 = stI b ∧ v2 = nI m - 1 ∧ (∀ q, b = some q → q < l.length) ∧ lsD l (Gt l n i) m b = lsD l (Gt l n i) l.length none) (fun r => r = some (stI (lsD l (Gt l n i) l.length none))) ?_ fu l.length (-1 : Int32) (nI l.length - 1) (by unfold fu; omega) ⟨none, Nat.le_refl _, rfl, rfl, fun q e => by (cases e), rfl⟩
  rintro m K v1 v2 ⟨b, hm, rfl, rfl, hb, he⟩ ih
  unfold P_Mod_leastLeft_9
  cases m with
  | zero =>
    rw [if_pos (by decide)]
    rw [← he]; rfl
  | succ m =>
    have e1 : nI (m + 1) - 1 = nI m := nI_pred m
    have e2 : nI m + (-1) = nI m - 1 := by rw [Int32.sub_eq_add_neg]
    have hml : m < l.length := by omega
    rw [e1, if_neg (nI_pos (by omega)), gi_ok (by omega) (by omega), nI_clamp (by omega), hp m hml, e2]
    have go : ∀ b', (∀ q, b' = some q → q < l.length) → lsU l (Gt l n i) m b = b' → K (stI b') (nI m - 1) = some (stI (lsD l (Gt l n i) l.length none)) := by
      intro b' hb' hu
      refine ih m _ _ (by omega) ⟨b', by omega, rfl, rfl, hb', ?_⟩
      rw [← he, ← hu]; rfl
    cases hG : Gt l n i m with
    | false =>
      rw [if_neg (by decide)]
      exact go b hb (by unfold lsU; rw [hG]; simp)
    | true =>
      rw [if_pos (by decide)]
      cases b with
      | none =>
        rw [if_pos (by decide)]
        exact go (some m) (fun q e => by cases e; exact hml) (by unfold lsU; rw [hG]; rfl)
      | some q =>
        have hq := hb q rfl
        have eq : stI (some q) = nI q := rfl
        obtain ⟨v1, v2⟩ := okC_get hc hml
        obtain ⟨w1, w2⟩ := okC_get hc hq
        rw [eq, if_neg (nI_pos (by omega)), gi_ok (by omega) (by omega), gi_ok (by omega) (by omega), nI_clamp (by omega), h.get hq (-1), h.get hml (-1), v1, w1]
        by_cases hv : vN l q < vN l m
        · rw [if_pos (nI_lt hv (by omega)), ← eq]
          exact go (some q) hb (by unfold lsU; rw [hG]; simp [Nat.not_le.mpr hv])
        · rw [if_neg (nI_nlt (by omega) (by omega))]
          exact go (some m) (fun z e => by cases e; exact hml) (by unfold lsU; rw [hG]; simp [Nat.not_lt.mp hv])
theorem nar1 : vp_nar .boolean 1 = 1 := rfl
theorem nar0 : vp_nar .boolean 0 = 0 := rfl
/-- the reference's loop over the codes that are not plain -/
theorem mod_enc {l : List Int32} {row : Nat → Int32} (h : Rp row l) (hc : okC l) (hl : l.length ≤ 96) : ∀ (f n i b : Nat) (first : Bool) (o : List Int32) (g pl : Nat → Int32) (fuel : Nat), l.length - hN l n i l.length < f → f ≤ fuel → n ≤ 1114111 → i ≤ l.length → b < 100000 → plF l n i pl → Rp g o → o.length + (encS l f n i b first).length ≤ 2000 →
    ∃ b' g' pl', fl9 (P_Mod_packRow_94 (nI l.length) row) fuel (nI (hN l n i l.length)) (nI n) (nI (cN l n i)) (b2 first) (stI (lsN l (Gt l n i))) (nI o.length) (nI b) g pl = some (nI (o ++ encS l f n i b first).length, b', g', pl') ∧ Rp g' (o ++ encS l f n i b first) := by
  intro f
  induction f with
  | zero => intro n i b first o g pl fuel hf; omega
  | succ f ih =>
    intro n i b first o g pl fuel hf hfu hn hi hb hp hg ho
    obtain ⟨kf, rfl⟩ : ∃ k, fuel = k + 1 := ⟨fuel - 1, by omega⟩
    rw [fl9_s]
    generalize hK : fl9 (P_Mod_packRow_94 (nI l.length) row) kf = K
    unfold P_Mod_packRow_94
    have hls := lsN_ok l (Gt l n i)
    cases hls2 : lsN l (Gt l n i) with
    | none =>
      have e : encS l (f + 1) n i b first = [] := by simp only [encS]; rw [hls2]
      rw [if_pos (by decide), e, List.append_nil]
      exact ⟨_, g, pl, rfl, hg⟩
    | some k =>
      rw [hls2] at hls
      obtain ⟨hk, -, hG, hmin'⟩ := hls
      have hmin : ∀ p, p < l.length → Gt l n i p = true → lexle l k p := fun p hp => hmin' p (Nat.zero_le _) hp
      have eq : stI (some k) = nI k := rfl
      obtain ⟨d1, d2, d3⟩ := delta_ok hc hl hn hi hk hG
      obtain ⟨v1, v2⟩ := okC_get hc hk
      have e : encS l (f + 1) n i b first = numS b ((vN l k - n) * (hN l n i l.length + 1) + cN l (vN l k) k - cN l n i) ++ encS l f (vN l k) (k + 1) (adF ((vN l k - n) * (hN l n i l.length + 1) + cN l (vN l k) k - cN l n i) (hN l n i l.length + 1) first) false := by
        conv => lhs; rw [encS]
        rw [hls2]
      rw [e] at ho ⊢
      generalize hdl : (vN l k - n) * (hN l n i l.length + 1) + cN l (vN l k) k - cN l n i = dl at *
      have hhle := hN_le l n i l.length
      have had := adF_le first (d := dl) (many := hN l n i l.length + 1) (by omega) (by omega)
      rw [eq, if_neg (nI_pos (by omega))]
      have hlen := left_dec hk hG hmin
      -- counting
      refine fl2_p (P_Mod_packRow_105 (nI l.length) row K (nI (hN l n i l.length)) (nI n) (nI (cN l n i)) (b2 first) (nI k) (nI o.length) (nI b) g pl) (fun m w v => ∃ j, m = k - j ∧ j ≤ k ∧ v = nI j ∧ w = nI (cN l (vN l k) j)) (fun r => ∃ b' g' pl', r = some (nI (o ++ (numS b dl ++ encS l f (vN l k) (k + 1) (adF dl (hN l n i l.length + 1) first) false)).length, b', g', pl') ∧ Rp g' (o ++ (numS b dl ++ encS l f (vN l k) (k + 1) (adF dl (hN l n i l.length + 1) first) false))) ?_ fu k (0 : Int32) (0 : Int32) (by unfold fu; omega) ⟨0, rfl, by omega, rfl, rfl⟩
      rintro m K2 w v ⟨j, hm, hj, rfl, rfl⟩ ih2
      unfold P_Mod_packRow_105
      by_cases hjk : k ≤ j
      · have : j = k := by omega
        subst this
        have hck := cN_le l (vN l j) j
        have hcn := cN_le l n i
        have hmul : (vN l j - n) * (hN l n i l.length + 1) < 260000000 := by omega
        have edelta : (nI (vN l j) - nI n) * nI (hN l n i l.length + 1) + nI (cN l (vN l j) j) - nI (cN l n i) = nI dl := by
          rw [pk_sub d3, pk_mul, nI_add, pk_sub d1, hdl]
        obtain ⟨g1, q1, q2⟩ := mod_num (q := dl) (o := o) hb (by omega) (by simp at ho; omega) hg
        rw [if_pos (nI_le (Nat.le_refl _) (by omega)), gi_ok (by omega) (by omega), nI_clamp (by omega), h.get hk (-1), v1, nI_1, edelta, q1, Option.bind_some, mod_adapt first (by omega) (by omega) (by omega), Option.bind_some, gi_ok (by omega) (by omega), gi_ok (by omega) (by omega), nar1]
        have hp' : plF l (vN l j) (j + 1) (upd pl j 1) := by
          intro p hp2
          rw [Gt_next hG hmin hp2]
          by_cases e : p = j
          · subst e; rw [upd_s]; simp [b2]
          · rw [upd_n _ _ e, hp p hp2]; simp [e]
        rw [mod_least h hc hl hp', Option.bind_some, nI_1]
        simp only []
        have ecn : cN l (vN l j) j + 1 = cN l (vN l j) (j + 1) := by
          simp only [cN]; rw [if_pos (Nat.le_refl _)]
        rw [ecn, ← hlen, ← hK]
        have hlt := hN_lt hG l.length hk
        have := ih (vN l j) (j + 1) (adF dl (hN l n i l.length + 1) first) false (o ++ numS b dl) g1 (upd pl j 1) kf (by omega) (by omega) v2 (by omega) (by omega) hp' q2 (by simp at ho ⊢; omega)
        rw [List.append_assoc] at this
        rw [← hlen] at this
        exact this
      · have hjl : j < l.length := by omega
        rw [if_neg (nI_ge (by omega) (by omega)), gi_ok (by omega) (by omega), nI_clamp (by omega), hp j hjl, nI_1]
        have hh := hN_cN hk hG hmin
        have h1 := hh j (by omega)
        have h2 := hh (j + 1) (by omega)
        simp only [hN, h1] at h2
        cases hGj : Gt l n i j with
        | false =>
          rw [hGj] at h2
          rw [if_neg (by decide), nI_1]
          refine ih2 (k - (j + 1)) _ _ (by omega) ⟨j + 1, rfl, by omega, rfl, ?_⟩
          rw [← h2]; simp
        | true =>
          rw [hGj] at h2
          rw [if_pos (by decide)]
          refine ih2 (k - (j + 1)) _ _ (by omega) ⟨j + 1, rfl, by omega, rfl, ?_⟩
          rw [← h2]; simp
