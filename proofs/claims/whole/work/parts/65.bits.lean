/-! ===== bits ===== -/
theorem or_mask (s t m : Int32) : ((s ||| t) &&& m = 0) ↔ (s &&& m = 0 ∧ t &&& m = 0) := by
  rw [← Int32.toBitVec_inj, ← Int32.toBitVec_inj, ← Int32.toBitVec_inj]
  simp only [Int32.toBitVec_and, Int32.toBitVec_or]
  generalize s.toBitVec = a
  generalize t.toBitVec = b
  generalize m.toBitVec = c
  have e : (a ||| b) &&& c = (a &&& c) ||| (b &&& c) := by
    ext i hi
    simp [Bool.and_or_distrib_right]
  rw [e]
  exact BitVec.or_eq_zero_iff
theorem shr3 (s : Int32) : (((s >>> ((3 : Int32) &&& 31)) &&& 1) = 1) ↔ ¬ (s &&& 8 = 0) := by
  rw [← Int32.toBitVec_inj, ← Int32.toBitVec_inj]
  have e1 : ((s >>> ((3 : Int32) &&& 31)) &&& 1).toBitVec = s.toBitVec.sshiftRight 3 &&& 1#32 := rfl
  have e2 : (s &&& 8).toBitVec = s.toBitVec &&& BitVec.twoPow 32 3 := rfl
  rw [e1, e2, BitVec.and_one_eq_setWidth_ofBool_getLsbD, BitVec.and_twoPow]
  have e3 : (s.toBitVec.sshiftRight 3).getLsbD 0 = s.toBitVec.getLsbD 3 := by
    rw [BitVec.getLsbD_sshiftRight]; simp
  rw [e3]
  cases s.toBitVec.getLsbD 3 <;> decide
theorem shr4 (s : Int32) : (((s >>> ((4 : Int32) &&& 31)) &&& 1) = 1) ↔ ¬ (s &&& 16 = 0) := by
  rw [← Int32.toBitVec_inj, ← Int32.toBitVec_inj]
  have e1 : ((s >>> ((4 : Int32) &&& 31)) &&& 1).toBitVec = s.toBitVec.sshiftRight 4 &&& 1#32 := rfl
  have e2 : (s &&& 16).toBitVec = s.toBitVec &&& BitVec.twoPow 32 4 := rfl
  rw [e1, e2, BitVec.and_one_eq_setWidth_ofBool_getLsbD, BitVec.and_twoPow]
  have e3 : (s.toBitVec.sshiftRight 4).getLsbD 0 = s.toBitVec.getLsbD 4 := by
    rw [BitVec.getLsbD_sshiftRight]; simp
  rw [e3]
  cases s.toBitVec.getLsbD 4 <;> decide
theorem shr9 (s : Int32) : (((s >>> ((9 : Int32) &&& 31)) &&& 1) = 0) ↔ (s &&& 512 = 0) := by
  rw [← Int32.toBitVec_inj, ← Int32.toBitVec_inj]
  have e1 : ((s >>> ((9 : Int32) &&& 31)) &&& 1).toBitVec = s.toBitVec.sshiftRight 9 &&& 1#32 := rfl
  have e2 : (s &&& 512).toBitVec = s.toBitVec &&& BitVec.twoPow 32 9 := rfl
  rw [e1, e2, BitVec.and_one_eq_setWidth_ofBool_getLsbD, BitVec.and_twoPow]
  have e3 : (s.toBitVec.sshiftRight 9).getLsbD 0 = s.toBitVec.getLsbD 9 := by
    rw [BitVec.getLsbD_sshiftRight]; simp
  rw [e3]
  cases s.toBitVec.getLsbD 9 <;> decide
/-! ===== directions ===== -/
def dirA (P : Nat → Bool) (l : List Int32) : Bool := l.any (fun c => P (drN c))
theorem dirA_snoc (P : Nat → Bool) (l : List Int32) (c : Int32) : dirA P (l ++ [c]) = (dirA P l || P (drN c)) := by
  unfold dirA; rw [List.any_append]; simp
/-- the last one that is no mark; e where there is none -/
def endD (e : Nat) (l : List Int32) : Nat := l.foldl (fun a c => if drN c = 6 then a else drN c) e
theorem endD_snoc (e : Nat) (l : List Int32) (c : Int32) : endD e (l ++ [c]) = if drN c = 6 then endD e l else drN c := by
  unfold endD; rw [List.foldl_append]; rfl
def p123 (d : Nat) : Bool := decide (d = 1) || decide (d = 2) || decide (d = 3)
def pD (k d : Nat) : Bool := decide (d = k)
/-- what the document asks of directions, in both sides' terms -/
def dirB (x : List Int32) : Bool := if drN (x.getD 0 (-1)) = 9 then !dirA p123 x && (decide (endD (drN (x.getD 0 (-1))) x = 9) || decide (endD (drN (x.getD 0 (-1))) x = 4)) else if drN (x.getD 0 (-1)) = 1 ∨ drN (x.getD 0 (-1)) = 2 then !dirA (pD 9) x && !(dirA (pD 4) x && dirA (pD 3) x) && (decide (1 ≤ endD (drN (x.getD 0 (-1))) x) && decide (endD (drN (x.getD 0 (-1))) x ≤ 4)) else false
theorem dr_cases (c : Int32) : drN c = 1 ∨ drN c = 2 ∨ drN c = 3 ∨ drN c = 4 ∨ drN c = 5 ∨ drN c = 6 ∨ drN c = 7 ∨ drN c = 8 ∨ drN c = 9 := by
  have := drN_rng c; omega
theorem mask_step {s t m : Int32} {a b : Bool} (h : decide (s &&& m = 0) = !a) (h2 : decide (t &&& m = 0) = !b) : decide ((s ||| t) &&& m = 0) = !(a || b) := by
  have := or_mask s t m
  rw [decide_eq_decide.2 this, Bool.decide_and, h, h2, Bool.not_or]
theorem fd14 (c : Int32) : decide (fdir (drN c) &&& 14 = 0) = !p123 (drN c) := by
  rcases dr_cases c with h | h | h | h | h | h | h | h | h <;> rw [h] <;> decide
theorem fd1 (c : Int32) : decide (fdir (drN c) &&& 1 = 0) = !pD 9 (drN c) := by
  rcases dr_cases c with h | h | h | h | h | h | h | h | h <;> rw [h] <;> decide
theorem fd16 (c : Int32) : decide (fdir (drN c) &&& 16 = 0) = !pD 4 (drN c) := by
  rcases dr_cases c with h | h | h | h | h | h | h | h | h <;> rw [h] <;> decide
theorem fd8 (c : Int32) : decide (fdir (drN c) &&& 8 = 0) = !pD 3 (drN c) := by
  rcases dr_cases c with h | h | h | h | h | h | h | h | h <;> rw [h] <;> decide
theorem sh14 (c : Int32) : decide (((1 : Int32) <<< (nI (drN c) &&& 31)) &&& 14 = 0) = !p123 (drN c) := by
  rcases dr_cases c with h | h | h | h | h | h | h | h | h <;> rw [h] <;> decide
theorem sh512 (c : Int32) : decide (((1 : Int32) <<< (nI (drN c) &&& 31)) &&& 512 = 0) = !pD 9 (drN c) := by
  rcases dr_cases c with h | h | h | h | h | h | h | h | h <;> rw [h] <;> decide
theorem sh16 (c : Int32) : decide (((1 : Int32) <<< (nI (drN c) &&& 31)) &&& 16 = 0) = !pD 4 (drN c) := by
  rcases dr_cases c with h | h | h | h | h | h | h | h | h <;> rw [h] <;> decide
theorem sh8 (c : Int32) : decide (((1 : Int32) <<< (nI (drN c) &&& 31)) &&& 8 = 0) = !pD 3 (drN c) := by
  rcases dr_cases c with h | h | h | h | h | h | h | h | h <;> rw [h] <;> decide
theorem endD_rng (e : Nat) (he : 1 ≤ e ∧ e ≤ 9) (l : List Int32) : 1 ≤ endD e l ∧ endD e l ≤ 9 := by
  unfold endD
  induction l generalizing e with
  | nil => exact he
  | cons c cs ih =>
    rw [List.foldl_cons]
    split
    · exact ih e he
    · exact ih _ (drN_rng c)
theorem ofdec {p : Prop} [Decidable p] {b : Bool} (h : decide p = b) : p ↔ b = true := by
  rw [← h]; simp
/-- the class's verdict from what it gathered -/
theorem codes_dirfin {v1 v2 v3 : Int32} {d e : Nat} {x : List Int32} (hd : d = drN (x.getD 0 (-1))) (he : e = endD d x) (h1 : v1 = fdir d) (h3 : v3 = fdir e) (m14 : decide (v2 &&& 14 = 0) = !dirA p123 x) (m1 : decide (v2 &&& 1 = 0) = !dirA (pD 9) x) (m16 : decide (v2 &&& 16 = 0) = !dirA (pD 4) x) (m8 : decide (v2 &&& 8 = 0) = !dirA (pD 3) x) :
    (if v1 = (1 : Int32) then (if (v2 &&& (14 : Int32)) = 0 then (P_Checker_isDirectionRight_78 v3 (0 : Int32)) else (P_Checker_isDirectionRight_78 v3 (1 : Int32))) else (if v1 = (2 : Int32) then (P_Checker_isDirectionRight_110 v2 v3) else (if v1 = (4 : Int32) then (P_Checker_isDirectionRight_110 v2 v3) else (some ((0 : Int32)))))) = some (b2 (dirB x)) := by
  have hdr := drN_rng (x.getD 0 (-1))
  have her := endD_rng d (by rw [hd]; exact hdr) x
  rw [← he] at her
  rw [← hd] at hdr
  have hv14 := ofdec m14
  have hv1 := ofdec m1
  have hv16 := ofdec m16
  have hv8 := ofdec m8
  unfold P_Checker_isDirectionRight_110 P_Checker_isDirectionRight_129 P_Checker_isDirectionRight_143 P_Checker_isDirectionRight_78
  simp only [hv14, hv1, hv16, hv8]
  unfold dirB
  rw [← hd, ← he]
  subst h1 h3
  clear hv14 hv1 hv16 hv8 m14 m1 m16 m8
  generalize dirA p123 x = A
  generalize dirA (pD 9) x = B
  generalize dirA (pD 4) x = C
  generalize dirA (pD 3) x = D
  have hd9 : d = 1 ∨ d = 2 ∨ d = 3 ∨ d = 4 ∨ d = 5 ∨ d = 6 ∨ d = 7 ∨ d = 8 ∨ d = 9 := by omega
  have he9 : e = 1 ∨ e = 2 ∨ e = 3 ∨ e = 4 ∨ e = 5 ∨ e = 6 ∨ e = 7 ∨ e = 8 ∨ e = 9 := by omega
  clear hd he hdr her
  rcases hd9 with rfl | rfl | rfl | rfl | rfl | rfl | rfl | rfl | rfl <;> rcases he9 with rfl | rfl | rfl | rfl | rfl | rfl | rfl | rfl | rfl <;> revert A B C D <;> decide
