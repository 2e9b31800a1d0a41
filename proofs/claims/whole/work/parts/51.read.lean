/-! ===== the plain part; the class's unpacking whole ===== -/
/-- one behind the last hyphen; 0 if there is none -/
def hyN : List Int32 → Nat → Nat → Nat
  | [], _, p => p
  | c :: cs, i, p => hyN cs (i + 1) (if c = 45 then i + 1 else p)
theorem hyN_le : ∀ (l : List Int32) (i p : Nat), p ≤ i → hyN l i p ≤ i + l.length
  | [], i, p, h => by simpa [hyN] using h
  | c :: cs, i, p, h => by
    simp only [hyN]
    have := hyN_le cs (i + 1) (if c = 45 then i + 1 else p) (by split <;> omega)
    simp; omega
def plainB (bs : List Int32) : Bool := bs.all (fun x => decide (x < 128)) && decide (bs.length ≤ 48)
def unpS (l : List Int32) : Option (List Int32) := if plainB (l.take (hyN l 0 0 - 1)) = true then unL ((l.drop (hyN l 0 0)).length + 1) (l.drop (hyN l 0 0)) 0 128 72 (l.take (hyN l 0 0 - 1)) else none
theorem lt_128 {x : Int32} : (x < 128) ↔ ¬ (128 ≤ x) := by
  rw [Int32.lt_iff_toInt_lt, Int32.le_iff_toInt_le]; omega
/-- the class copies the plain part -/
theorem codes_basic2 {N N3 : Nat} {f : Nat → Int32} {l : List Int32} (h : Rp f l) (hN : l.length ≤ N) (hN2 : N < 2 ^ 31) (hN3 : 48 ≤ N3) (hN32 : N3 < 90000) {e : Nat} (he : e ≤ l.length) (hl : l.length < 90000) (nx : Int32) : ∀ (cs : List Int32) (j : Nat) (out : List Int32) (g : Nat → Int32) (fuel : Nat), cs.length < fuel → (l.drop j).take (e - j) = cs → j ≤ e → Rp g out → out.length ≤ 48 →
    (plainB (out ++ cs) = false ∧ (out.all (fun x => decide (x < 128)) = true → ∃ z g', fl3 (P_Packer_readBasic_52 N N3 (nI l.length) f (nI e) nx) fuel (nI j) (nI out.length) g = some (0, nx, z, g'))) ∨ (plainB (out ++ cs) = true ∧ ∃ g', fl3 (P_Packer_readBasic_52 N N3 (nI l.length) f (nI e) nx) fuel (nI j) (nI out.length) g = some (1, nx, nI (out ++ cs).length, g') ∧ Rp g' (out ++ cs)) ∨ out.all (fun x => decide (x < 128)) = false := by
  intro cs
  induction cs with
  | nil =>
    intro j out g fuel hfu hd hj hg ho
    obtain ⟨k, rfl⟩ : ∃ k, fuel = k + 1 := ⟨fuel - 1, by simp at hfu; omega⟩
    have hje : e ≤ j := by
      have := congrArg List.length hd
      simp at this; omega
    rw [fl3_s]
    unfold P_Packer_readBasic_52
    rw [if_pos (nI_le hje (by omega)), List.append_nil]
    cases ha : out.all (fun x => decide (x < 128)) with
    | false => exact Or.inr (Or.inr rfl)
    | true => exact Or.inr (Or.inl ⟨by unfold plainB; rw [ha]; simp [ho], g, rfl, hg⟩)
  | cons c cs ih =>
    intro j out g fuel hfu hd hj hg ho
    obtain ⟨k, rfl⟩ : ∃ k, fuel = k + 1 := ⟨fuel - 1, by simp at hfu; omega⟩
    have hje : j < e := by
      have := congrArg List.length hd
      simp at this; omega
    rw [take_drop_succ hje he] at hd
    injection hd with hc hd2
    rw [fl3_s]
    generalize hK : fl3 (P_Packer_readBasic_52 N N3 (nI l.length) f (nI e) nx) k = K
    unfold P_Packer_readBasic_52 P_Row_size
    have e48 : (48 : Int32) = nI 48 := rfl
    rw [if_neg (nI_ge hje (by omega)), row_get h hN hN2 (by omega), Option.bind_some, hc]
    by_cases h128 : 128 ≤ c
    · rw [if_pos h128]
      refine Or.inl ⟨?_, fun _ => ⟨_, _, rfl⟩⟩
      unfold plainB
      rw [List.all_append, List.all_cons]
      have : decide (c < 128) = false := by
        rw [decide_eq_false_iff_not, lt_128]; exact fun z => z h128
      rw [this]; simp
    · rw [if_neg h128, Option.bind_some, e48]
      have hc128 : decide (c < 128) = true := by rw [decide_eq_true_eq, lt_128]; exact h128
      by_cases h48 : out.length < 48
      · rw [if_pos (nI_lt h48 (by omega)), Option.bind_some, row_add (by omega) (by omega), Option.bind_some, nI_1, ← hK]
        have := ih (j + 1) (out ++ [c]) (upd g out.length c) k (by simp at hfu; omega) hd2 (by omega) (hg.add c) (by simp; omega)
        have e1 : out ++ [c] ++ cs = out ++ c :: cs := by simp
        rw [e1] at this
        have e2 : (out ++ [c]).length = out.length + 1 := by simp
        have e3 : (out ++ [c]).all (fun x => decide (x < 128)) = out.all (fun x => decide (x < 128)) := by
          rw [List.all_append, List.all_cons, hc128]; simp
        rw [e2, e3] at this
        exact this
      · rw [if_neg (nI_nlt (by omega) (by omega))]
        refine Or.inl ⟨?_, fun _ => ⟨_, _, rfl⟩⟩
        unfold plainB
        have : decide ((out ++ c :: cs).length ≤ 48) = false := by
          rw [decide_eq_false_iff_not]; simp; omega
        rw [this]; simp
/-- the class looks for the last hyphen -/
theorem codes_basic1 {N N3 : Nat} {f : Nat → Int32} {l : List Int32} (h : Rp f l) (hN : l.length ≤ N) (hN2 : N < 2 ^ 31) (hl : l.length < 90000) {start : Nat} {z0 : Int32} {g0 : Nat → Int32} : ∀ (cs : List Int32) (i p : Nat) (fuel : Nat), cs.length < fuel → l.drop (start + i) = cs → start + i ≤ l.length → p ≤ i →
    fl3 (P_Packer_readBasic_11 N N3 (nI l.length) f (nI start) z0 g0) fuel (nI (start + (p - 1))) (nI (start + i)) (nI (start + p)) = fl3 (P_Packer_readBasic_52 N N3 (nI l.length) f (nI (start + (hyN cs i p - 1))) (nI (start + hyN cs i p))) fu (nI start) z0 g0 := by
  intro cs
  induction cs with
  | nil =>
    intro i p fuel hfu hd hi hp
    obtain ⟨k, rfl⟩ : ∃ k, fuel = k + 1 := ⟨fuel - 1, by simp at hfu; omega⟩
    have := drop_nil_le hd
    rw [fl3_s]
    unfold P_Packer_readBasic_11 P_Row_size
    rw [Option.bind_some, if_pos (nI_le this (by omega))]
    rfl
  | cons c cs ih =>
    intro i p fuel hfu hd hi hp
    obtain ⟨k, rfl⟩ : ∃ k, fuel = k + 1 := ⟨fuel - 1, by simp at hfu; omega⟩
    obtain ⟨hlt, hc, hd2⟩ := drop_cons_lt hd
    rw [fl3_s]
    generalize hK : fl3 (P_Packer_readBasic_11 N N3 (nI l.length) f (nI start) z0 g0) k = K
    unfold P_Packer_readBasic_11 P_Row_size
    rw [Option.bind_some, if_neg (nI_ge hlt (by omega)), row_get h hN hN2 (by omega), Option.bind_some, hc, nI_1, ← hK]
    simp only [hyN]
    by_cases h45 : c = 45
    · rw [if_pos h45, if_pos h45]
      have := ih (i + 1) (i + 1) k (by simp at hfu; omega) (by rw [← hd2]; rfl) (by omega) (by omega)
      have e1 : start + (i + 1 - 1) = start + i := by omega
      rw [e1] at this
      exact this
    · rw [if_neg h45, if_neg h45]
      exact ih (i + 1) p k (by simp at hfu; omega) (by rw [← hd2]; rfl) (by omega) (by omega)
theorem codes_read {N N3 : Nat} {f f3 : Nat → Int32} {l : List Int32} (h : Rp f l) (hN : l.length ≤ N) (hN2 : N < 2 ^ 31) (hl : l.length ≤ 96) (hN3 : 48 ≤ N3) (hN32 : N3 < 90000) {start : Nat} (hs : start ≤ l.length) (bias : Int32) :
    (unpS (l.drop start) = none ∧ ∃ b' n' z g', P_Packer_read N N3 bias (nI l.length) f f3 (nI start) = some (0, b', n', z, g')) ∨ (∃ u b' n' g', unpS (l.drop start) = some u ∧ u.length ≤ 48 ∧ P_Packer_read N N3 bias (nI l.length) f f3 (nI start) = some (1, b', n', nI u.length, g') ∧ Rp g' u) := by
  unfold P_Packer_read P_Row_empty P_Packer_readBasic unpS
  have hb1 := codes_basic1 (N := N) (N3 := N3) h hN hN2 (by omega) (start := start) (z0 := 0) (g0 := f3) (l.drop start) 0 0 fu (by unfold fu; simp; omega) rfl (by omega) (by omega)
  have e0 : start + (0 - 1) = start := by omega
  rw [e0] at hb1
  rw [Option.bind_some, hb1]
  generalize hnx : hyN (l.drop start) 0 0 = nx
  have hnxl : nx ≤ (l.drop start).length := by
    rw [← hnx]
    have := hyN_le (l.drop start) 0 0 (by omega)
    omega
  have hnxl2 : start + nx ≤ l.length := by simp at hnxl; omega
  have etake : (l.drop start).take (start + (nx - 1) - start) = (l.drop start).take (nx - 1) := by congr 1; omega
  have edrop : (l.drop start).drop nx = l.drop (start + nx) := by rw [List.drop_drop]
  have e00 : (0 : Int32) = nI ([] : List Int32).length := rfl
  rcases codes_basic2 h hN hN2 hN3 hN32 (e := start + (nx - 1)) (by omega) (by omega) (nI (start + nx)) ((l.drop start).take (nx - 1)) start [] f3 fu (by unfold fu; simp; omega) etake (by omega) Rp.nil (by simp) with ⟨q1, q2⟩ | ⟨q1, g', q2, q3⟩ | q
  · obtain ⟨z, g', q3⟩ := q2 rfl
    have q3' : fl3 (P_Packer_readBasic_52 N N3 (nI l.length) f (nI (start + (nx - 1))) (nI (start + nx))) fu (nI start) 0 f3 = some (0, nI (start + nx), z, g') := q3
    rw [q3', Option.bind_some, if_pos rfl]
    rw [List.nil_append] at q1
    rw [q1, if_neg (by decide)]
    exact Or.inl ⟨rfl, _, _, _, _, rfl⟩
  · have q2' : fl3 (P_Packer_readBasic_52 N N3 (nI l.length) f (nI (start + (nx - 1))) (nI (start + nx))) fu (nI start) 0 f3 = some (1, nI (start + nx), nI ((l.drop start).take (nx - 1)).length, g') := q2
    rw [List.nil_append] at q1 q3
    rw [q2', Option.bind_some, q1, if_pos rfl, edrop]
    simp only []
    rw [if_neg (show ¬ (1 : Int32) = 0 by decide)]
    have hlen : ((l.drop start).take (nx - 1)).length ≤ 48 := by
      unfold plainB at q1
      simp only [Bool.and_eq_true, decide_eq_true_eq] at q1
      exact q1.2
    have := codes_unL h hN hN2 hl hN3 hN32 ((l.drop (start + nx)).length + 1) (l.drop (start + nx)) 0 128 72 ((l.drop start).take (nx - 1)) 0 (start + nx) g' fu (by omega) (by unfold fu; simp; omega) rfl hnxl2 (by omega) (by omega) (by omega) (by omega) hlen q3
    rcases this with ⟨b', n', z, g2, w1, w2⟩ | ⟨b', n', u, g2, w1, w2, w3, w4⟩
    · exact Or.inl ⟨w1, b', n', z, g2, w2⟩
    · exact Or.inr ⟨u, b', n', g2, w1, w2, w3, w4⟩
  · simp at q
