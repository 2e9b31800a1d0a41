/-! ===== rows of codes as lists ===== -/
def Rp (f : Nat → Int32) (l : List Int32) : Prop := ∀ (i : Nat) (h : i < l.length), f i = l[i]
theorem Rp.nil {f : Nat → Int32} : Rp f [] := fun i h => absurd h (Nat.not_lt_zero i)
theorem Rp.get {f : Nat → Int32} {l : List Int32} (h : Rp f l) {i : Nat} (hi : i < l.length) (d : Int32) : f i = l.getD i d := by
  rw [h i hi, List.getD_eq_getElem?_getD, List.getElem?_eq_getElem hi]; rfl
theorem Rp.take {f : Nat → Int32} {l : List Int32} (h : Rp f l) (n : Nat) : Rp f (l.take n) := by
  intro i hi
  have h1 : i < l.length := by simp at hi; omega
  rw [h i h1, List.getElem_take]
theorem Rp.pre {f : Nat → Int32} {l l2 : List Int32} (h : Rp f (l ++ l2)) : Rp f l := by
  intro i hi
  rw [h i (by simp; omega), List.getElem_append_left hi]
theorem upd_s (f : Nat → Int32) (k : Nat) (x : Int32) : upd f k x k = x := pk_us
theorem upd_n (f : Nat → Int32) {k j : Nat} (x : Int32) (h : j ≠ k) : upd f k x j = f j := pk_un h
theorem Rp.add {f : Nat → Int32} {l : List Int32} (h : Rp f l) (x : Int32) : Rp (upd f l.length x) (l ++ [x]) := by
  intro i hi
  by_cases h1 : i < l.length
  · rw [upd_n _ _ (by omega), List.getElem_append_left h1, h i h1]
  · have h2 : i = l.length := by simp at hi; omega
    subst h2
    rw [upd_s]; simp
theorem Rp.set {f : Nat → Int32} {l : List Int32} (h : Rp f l) (k : Nat) (x : Int32) : Rp (upd f k x) (l.set k x) := by
  intro i hi
  have h1 : i < l.length := by simpa using hi
  by_cases h2 : i = k
  · subst h2
    rw [upd_s]; simp
  · rw [upd_n _ _ h2, h i h1, List.getElem_set_ne (Ne.symm h2)]
/-- nothing is said of places behind the end -/
theorem Rp.out {f : Nat → Int32} {l : List Int32} (h : Rp f l) {k : Nat} (hk : l.length ≤ k) (x : Int32) : Rp (upd f k x) l := by
  intro i hi
  rw [upd_n _ _ (by omega), h i hi]
theorem gi_ok {O : Type} {k N : Nat} (h : k < N) (hN : N < 2 ^ 31) (a : Option O) : gi (nI k) N a = a := by
  unfold gi
  rw [if_neg (nI_in h hN)]
theorem row_get {N : Nat} {f : Nat → Int32} {l : List Int32} (h : Rp f l) (hN : l.length ≤ N) (hN2 : N < 2 ^ 31) {k : Nat} (hk : k < 2 ^ 31) : P_Row_get N (nI l.length) f (nI k) = some (l.getD k (-1)) := by
  unfold P_Row_get
  rw [if_neg (nI_pos hk), nI_clamp hk]
  by_cases h1 : k < l.length
  · rw [if_pos (nI_lt h1 (by omega)), gi_ok (by omega) hN2, h.get h1]
  · rw [if_neg (nI_nlt (by omega) hk), List.getD_eq_getElem?_getD, List.getElem?_eq_none (by omega)]; rfl
theorem row_getm {N : Nat} {f : Nat → Int32} {n i : Int32} (h : i < 0) : P_Row_get N n f i = some (-1) := by
  unfold P_Row_get
  rw [if_pos h]
theorem row_add {N : Nat} {f : Nat → Int32} {l : List Int32} (hN : l.length < N) (hN2 : N < 2 ^ 31) (x : Int32) : P_Row_add N (nI l.length) f x = some (1, nI (l.length + 1), upd f l.length x) := by
  unfold P_Row_add
  rw [if_pos (nI_lt hN hN2), gi_ok hN hN2, nI_1, nI_clamp (by omega)]
theorem row_full {N : Nat} {f : Nat → Int32} {l : List Int32} (hN : l.length = N) (x : Int32) : P_Row_add N (nI l.length) f x = some (0, nI l.length, f) := by
  unfold P_Row_add
  subst hN
  rw [if_neg]
  intro h
  rw [Int32.lt_iff_toInt_lt] at h
  omega
theorem row_set {N : Nat} {f : Nat → Int32} {l : List Int32} (hN : l.length ≤ N) (hN2 : N < 2 ^ 31) {k : Nat} (hk : k < l.length) (x : Int32) : P_Row_set N (nI l.length) f (nI k) x = some (upd f k x) := by
  unfold P_Row_set
  rw [if_neg (nI_pos (by omega)), if_neg (nI_ge hk (by omega)), gi_ok (by omega) hN2, nI_clamp (by omega)]
theorem take_drop_succ {l : List Int32} {j b : Nat} (h1 : j < b) (h2 : b ≤ l.length) : (l.drop j).take (b - j) = l.getD j (-1) :: (l.drop (j + 1)).take (b - (j + 1)) := by
  have hj : j < l.length := by omega
  rw [List.drop_eq_getElem_cons hj, show b - j = (b - (j + 1)) + 1 by omega, List.take_succ_cons, List.getD_eq_getElem?_getD, List.getElem?_eq_getElem hj]
  rfl
theorem row_addPart {N N2 : Nat} {f f2 : Nat → Int32} {l l2 : List Int32} (h : Rp f l) (h2 : Rp f2 l2) (hN2 : N < 2 ^ 31) (hM : l2.length ≤ N2) (hM2 : N2 < 2 ^ 31) {a b : Nat} (hab : a ≤ b) (hb : b ≤ l2.length) (hfit : l.length + (b - a) ≤ N) (hfu : b < 90000) :
    ∃ f', P_Row_addPart N N2 (nI l.length) f (nI l2.length) f2 (nI a) (nI b) = some (nI (l.length + (b - a)), f') ∧ Rp f' (l ++ (l2.drop a).take (b - a)) := by
  unfold P_Row_addPart
  refine fl3_p (P_Row_addPart_3 N N2 (nI l2.length) f2 (nI b)) (fun n v nn ff => ∃ (j : Nat) (l' : List Int32), n = b - j ∧ j ≤ b ∧ v = nI j ∧ nn = nI l'.length ∧ Rp ff l' ∧ l' ++ (l2.drop j).take (b - j) = l ++ (l2.drop a).take (b - a))
    (fun r => ∃ f', r = some (nI (l.length + (b - a)), f') ∧ Rp f' (l ++ (l2.drop a).take (b - a))) ?_ fu (b - a) (nI a) (nI l.length) f (by unfold fu; omega) ⟨a, l, rfl, hab, rfl, rfl, h, rfl⟩
  rintro n K v nn ff ⟨j, l', hn, hj, rfl, rfl, hr, hT⟩ ih
  have hlen := congrArg List.length hT
  simp only [List.length_append, List.length_take, List.length_drop] at hlen
  unfold P_Row_addPart_3
  by_cases hjb : b ≤ j
  · have : j = b := by omega
    subst this
    rw [if_pos (nI_le (Nat.le_refl j) (by omega))]
    simp only [Nat.sub_self, List.take_zero, List.append_nil] at hT
    refine ⟨ff, ?_, by rw [← hT]; exact hr⟩
    rw [show l'.length = l.length + (j - a) by omega]
  · rw [if_neg (nI_ge (by omega) (by omega)), row_get h2 hM hM2 (by omega), Option.bind_some, row_add (by omega) hN2, Option.bind_some, nI_1]
    refine ih (b - (j + 1)) _ _ _ (by omega) ⟨j + 1, l' ++ [l2.getD j (-1)], rfl, by omega, rfl, by simp, hr.add _, ?_⟩
    rw [take_drop_succ (by omega) hb] at hT
    rw [← hT]; simp
theorem row_hasAbove {N : Nat} {f : Nat → Int32} {l : List Int32} (h : Rp f l) (hN : l.length ≤ N) (hN2 : N < 90000) (bd : Int32) : P_Row_hasAbove N (nI l.length) f bd = some (b2 (l.any fun x => decide (bd < x))) := by
  unfold P_Row_hasAbove
  refine fl1_p (P_Row_hasAbove_2 N (nI l.length) f bd) (fun n v => ∃ j, n = l.length - j ∧ j ≤ l.length ∧ v = nI j ∧ (l.take j).any (fun x => decide (bd < x)) = false) (fun r => r = some (b2 (l.any fun x => decide (bd < x)))) ?_ fu l.length (0 : Int32) (by unfold fu; omega) ⟨0, rfl, Nat.zero_le _, rfl, by simp⟩
  rintro n K v ⟨j, hn, hj, rfl, hno⟩ ih
  unfold P_Row_hasAbove_2
  by_cases hjl : l.length ≤ j
  · have : j = l.length := by omega
    subst this
    rw [if_pos (nI_le (Nat.le_refl _) (by omega))]
    rw [List.take_length] at hno
    rw [hno]; rfl
  · have hlt : j < l.length := by omega
    rw [if_neg (nI_ge hlt (by omega)), gi_ok (by omega) (by omega), nI_clamp (by omega), h j hlt]
    by_cases hx : l[j] ≤ bd
    · rw [if_pos hx, nI_1]
      refine ih (l.length - (j + 1)) _ (by omega) ⟨j + 1, rfl, by omega, rfl, ?_⟩
      rw [List.take_succ_eq_append_getElem hlt, List.any_append, hno]
      simp only [List.any_cons, List.any_nil, Bool.or_false, Bool.false_or, decide_eq_false_iff_not]
      rw [Int32.lt_iff_toInt_lt]; rw [Int32.le_iff_toInt_le] at hx; omega
    · rw [if_neg hx]
      have : (l.any fun x => decide (bd < x)) = true := by
        rw [List.any_eq_true]
        refine ⟨l[j], List.getElem_mem hlt, ?_⟩
        rw [decide_eq_true_eq, Int32.lt_iff_toInt_lt]; rw [Int32.le_iff_toInt_le] at hx; omega
      rw [this]; rfl
theorem row_same {N N2 : Nat} {f f2 : Nat → Int32} {l l2 : List Int32} (h : Rp f l) (h2 : Rp f2 l2) (hN : l.length ≤ N) (hN2 : N < 90000) (hM : l2.length ≤ N2) (hM2 : N2 < 90000) : P_Row_isSameAs N N2 (nI l.length) f (nI l2.length) f2 = some (b2 (decide (l = l2))) := by
  unfold P_Row_isSameAs P_Row_size
  rw [Option.bind_some]
  by_cases hl : l.length = l2.length
  · rw [if_pos (by rw [hl])]
    refine fl1_p (P_Row_isSameAs_15 N N2 (nI l.length) f (nI l2.length) f2) (fun n v => ∃ j, n = l.length - j ∧ j ≤ l.length ∧ v = nI j ∧ l.take j = l2.take j) (fun r => r = some (b2 (decide (l = l2)))) ?_ fu l.length (0 : Int32) (by unfold fu; omega) ⟨0, rfl, Nat.zero_le _, rfl, by simp⟩
    rintro n K v ⟨j, hn, hj, rfl, hno⟩ ih
    unfold P_Row_isSameAs_15
    by_cases hjl : l.length ≤ j
    · have : j = l.length := by omega
      subst this
      rw [if_pos (nI_le (Nat.le_refl _) (by omega))]
      rw [List.take_length, hl, List.take_length] at hno
      simp [hno, b2]
    · have hlt : j < l.length := by omega
      have hlt2 : j < l2.length := by omega
      rw [if_neg (nI_ge hlt (by omega)), gi_ok (by omega) (by omega), nI_clamp (by omega), h j hlt, row_get h2 hM (by omega) (by omega), Option.bind_some]
      have e2 : l2.getD j (-1) = l2[j] := by rw [List.getD_eq_getElem?_getD, List.getElem?_eq_getElem hlt2]; rfl
      rw [e2]
      by_cases hx : l[j] = l2[j]
      · rw [if_pos hx, nI_1]
        refine ih (l.length - (j + 1)) _ (by omega) ⟨j + 1, rfl, by omega, rfl, ?_⟩
        rw [List.take_succ_eq_append_getElem hlt, List.take_succ_eq_append_getElem hlt2, hno, hx]
      · rw [if_neg hx]
        have : ¬ l = l2 := fun q => hx (by subst q; rfl)
        simp [this, b2]
  · rw [if_neg (fun q => hl ((nI_eq (by omega) (by omega)).mp q))]
    have : ¬ l = l2 := fun q => hl (by rw [q])
    simp [this, b2]
