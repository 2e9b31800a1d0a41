/-! ===== weights of rows: composing keeps them ===== -/
def sumW (w : Int32 → Nat) (l : List Int32) : Nat := (l.map w).sum
theorem sumW_nil (w : Int32 → Nat) : sumW w [] = 0 := rfl
theorem sumW_cons (w : Int32 → Nat) (c : Int32) (l : List Int32) : sumW w (c :: l) = w c + sumW w l := by simp [sumW]
theorem sumW_app (w : Int32 → Nat) (l m : List Int32) : sumW w (l ++ m) = sumW w l + sumW w m := by simp [sumW]
theorem sumW_rev (w : Int32 → Nat) (l : List Int32) : sumW w l.reverse = sumW w l := by
  induction l with
  | nil => rfl
  | cons c l ih => rw [List.reverse_cons, sumW_app, ih, sumW_cons, sumW_cons, sumW_nil]; omega
theorem sumW_apart {w : Int32 → Nat} (hw : ∀ c, sumW w (apL c) = w c) (l : List Int32) : sumW w (apartL l) = sumW w l := by
  induction l with
  | nil => rfl
  | cons c l ih => rw [apartL_cons, sumW_app, sumW_cons, hw, ih]
theorem sumW_ins (w : Int32 → Nat) (c : Int32) : ∀ rs, sumW w (insM c rs) = w c + sumW w rs
  | [] => rfl
  | x :: xs => by
    simp only [insM]
    split
    · rw [sumW_cons, sumW_ins w c xs, sumW_cons]; omega
    · rw [sumW_cons]
theorem sumW_sortR (w : Int32 → Nat) : ∀ (l rs : List Int32), sumW w (sortR rs l) = sumW w rs + sumW w l
  | [], rs => by simp [sortR, sumW_nil]
  | c :: cs, rs => by
    simp only [sortR]
    rw [sumW_sortR w cs, sumW_ins, sumW_cons]; omega
theorem sumW_sort (w : Int32 → Nat) (l : List Int32) : sumW w (sortM l) = sumW w l := by
  unfold sortM
  rw [sumW_rev, sumW_sortR, sumW_nil]; omega
theorem sumW_set (w : Int32 → Nat) : ∀ (o : List Int32) (k : Nat) (x : Int32), k < o.length → sumW w (o.set k x) + w (o.getD k (-1)) = sumW w o + w x
  | [], k, x, h => by simp at h
  | a :: o, 0, x, _ => by simp only [List.set_cons_zero, sumW_cons, List.getD_cons_zero]; omega
  | a :: o, k + 1, x, h => by
    have := sumW_set w o k x (by simpa using h)
    simp only [List.set_cons_succ, sumW_cons, List.getD_cons_succ]; omega
theorem pj_ap {a m : Int32} (h : (a, m) ∈ prL) : apL (pjS a m) = [a, m] := by
  rcases prL_cases h with ⟨rfl, rfl⟩ | ⟨rfl, rfl⟩ | ⟨rfl, rfl⟩ | ⟨rfl, rfl⟩ | ⟨rfl, rfl⟩ | ⟨rfl, rfl⟩ | ⟨rfl, rfl⟩ | ⟨rfl, rfl⟩ | ⟨rfl, rfl⟩ | ⟨rfl, rfl⟩ | ⟨rfl, rfl⟩ | ⟨rfl, rfl⟩ | ⟨rfl, rfl⟩ | ⟨rfl, rfl⟩ | ⟨rfl, rfl⟩ | ⟨rfl, rfl⟩ | ⟨rfl, rfl⟩ | ⟨rfl, rfl⟩
  all_goals decide
theorem sumW_join {w : Int32 → Nat} (hw : ∀ c, sumW w (apL c) = w c) : ∀ (s o : List Int32) (st : Option Nat), (∀ k, st = some k → k < o.length) → sumW w (joinS s o st) = sumW w o + sumW w s
  | [], o, st, _ => by cases st <;> simp [joinS, sumW_nil]
  | c :: cs, o, none, _ => by
    simp only [joinS]
    rw [sumW_join hw cs _ _ (by intro k e; split at e <;> cases e; simp), sumW_app, sumW_cons, sumW_cons, sumW_nil]; omega
  | c :: cs, o, some q, h => by
    have hq := h q rfl
    simp only [joinS]
    split
    · rename_i hc
      have hp : (o.getD q (-1), c) ∈ prL := by
        by_cases z : (o.getD q (-1), c) ∈ prL
        · exact z
        · exact absurd (pjS_no z) hc.2
      have e := hw (pjS (o.getD q (-1)) c)
      rw [pj_ap hp, sumW_cons, sumW_cons, sumW_nil] at e
      have e2 := sumW_set w o q (pjS (o.getD q (-1)) c) hq
      rw [sumW_join hw cs _ _ (by intro k e; cases e; simpa using hq), sumW_cons]; omega
    · rw [sumW_join hw cs _ _ (by intro k e; split at e <;> cases e <;> simp; omega), sumW_app, sumW_cons, sumW_cons, sumW_nil]; omega
theorem sumW_cmp {w : Int32 → Nat} (hw : ∀ c, sumW w (apL c) = w c) (l : List Int32) : sumW w (cmpS l) = sumW w l := by
  unfold cmpS
  rw [sumW_join hw _ _ _ (fun k e => by cases e), sumW_nil, sumW_sort, sumW_apart hw]; omega
/-- how many codes a code comes to when it is taken apart -/
def w1 (c : Int32) : Nat := (apL c).length
theorem w1_ok (c : Int32) : sumW w1 (apL c) = w1 c := by
  by_cases h : c ∈ pcL
  · rcases pcL_cases h with rfl | rfl | rfl | rfl | rfl | rfl | rfl | rfl | rfl | rfl | rfl | rfl | rfl | rfl | rfl | rfl | rfl | rfl
    all_goals decide
  · unfold w1
    rw [apL_no h, sumW_cons, sumW_nil, apL_no h]; rfl
theorem apart_len (l : List Int32) : (apartL l).length = sumW w1 l := by
  induction l with
  | nil => rfl
  | cons c l ih => rw [apartL_cons, List.length_append, ih, sumW_cons]; rfl
theorem apart_cmp (l : List Int32) : (apartL (cmpS l)).length = (apartL l).length := by
  rw [apart_len, apart_len, sumW_cmp w1_ok]
/-- how much a code may cost in a packed result: dots bear the next label's tag -/
def w2 (c : Int32) : Nat := if c ∈ pcL then 10 else if 127 < c then 9 else if c = 46 then 6 else 1
theorem w2_ok (c : Int32) : sumW w2 (apL c) = w2 c := by
  by_cases h : c ∈ pcL
  · rcases pcL_cases h with rfl | rfl | rfl | rfl | rfl | rfl | rfl | rfl | rfl | rfl | rfl | rfl | rfl | rfl | rfl | rfl | rfl | rfl
    all_goals decide
  · rw [apL_no h, sumW_cons, sumW_nil]; rfl
theorem w2_le (c : Int32) : 1 ≤ w2 c ∧ w2 c ≤ 10 := by
  unfold w2
  repeat' split
  all_goals omega
theorem len_le_w2 (l : List Int32) : l.length ≤ sumW w2 l := by
  induction l with
  | nil => exact Nat.le_refl _
  | cons c l ih => rw [sumW_cons]; have := w2_le c; simp; omega
theorem len_le_w1 (l : List Int32) : l.length ≤ sumW w1 l := by
  induction l with
  | nil => exact Nat.le_refl _
  | cons c l ih =>
    rw [sumW_cons]
    have h1 := apL_len c
    have h2 : w1 c = (apL c).length := rfl
    simp only [List.length_cons]; omega
theorem cmp_len_le (l : List Int32) : (cmpS l).length ≤ (apartL l).length := by
  rw [apart_len, ← sumW_cmp w1_ok]; exact len_le_w1 _
