/-! ===== packing: the class writes what the reference writes ===== -/
theorem nI_iff {a b : Nat} (ha : a < 2 ^ 31) (hb : b < 2 ^ 31) : (nI a = nI b) ↔ a = b := by
  constructor
  · intro h
    have := congrArg Int32.toInt h
    rw [nI_toInt ha, nI_toInt hb] at this
    omega
  · intro h; rw [h]
theorem codes_write {N N2 : Nat} {f : Nat → Int32} {l : List Int32} (h : Rp f l) (hNl : l.length ≤ N) (hNb : N < 90000) (hN2 : N2 < 90000) (hc : okC l) (hl : l.length ≤ 96) {o : List Int32} {g : Nat → Int32} (hg : Rp g o) (ho : o.length + (packS l).length ≤ N2) :
    ∃ b' g', P_Packer_write N N2 (nI l.length) f (nI o.length) g = some (b', nI (o ++ packS l).length, g') ∧ Rp g' (o ++ packS l) := by
  unfold P_Packer_write
  have hpl : (packS l).length = (basS l ++ (if basS l = [] then [] else [45])).length + (encS l (l.length + 1) 128 0 72 true).length := by
    unfold packS; rw [List.length_append]
  obtain ⟨g1, q1, q2⟩ := codes_bas h hNl hNb hN2 hg (by omega)
  rw [q1, Option.bind_some]
  simp only []
  generalize hT : o ++ packS l = T
  have hTl : T.length ≤ N2 := by rw [← hT, List.length_append]; exact ho
  generalize ho1 : o ++ (basS l ++ (if basS l = [] then [] else [45])) = o1 at *
  have hT1 : o1 ++ encS l (l.length + 1) 128 0 72 true = T := by
    rw [← hT, ← ho1]; unfold packS; simp only [List.append_assoc]
  have hh0 := hN_128L hc
  have hbl := basS_len_le l
  generalize hbas : (basS l).length = h0 at *
  have w0 : WI l T h0 128 0 0 72 o1 := ⟨128, 0, l.length + 1, Nat.le_refl _, by omega, by omega, fun p hp => rfl, by simp [cN], by omega, by omega, by rw [hh0]; simpa using hT1⟩
  refine fl7_p (P_Packer_write_26 N N2 (nI l.length) f (nI h0)) (fun m vd vn vdl vr vb sz gg => ∃ (n' r d b : Nat) (o' : List Int32), m = l.length - r ∧ r ≤ l.length ∧ vd = nI (hN l n' 0 l.length) ∧ vn = nI n' ∧ vdl = nI d ∧ vr = nI r ∧ vb = nI b ∧ sz = nI o'.length ∧ Rp gg o' ∧ n' ≤ 1114112 ∧ r ≤ hN l n' 0 l.length ∧ h0 ≤ hN l n' 0 l.length ∧ WI l T h0 n' 0 d b o') (fun r => ∃ b' g', r = some (b', nI T.length, g') ∧ Rp g' T) ?_ fu l.length (nI h0) (128 : Int32) (0 : Int32) (0 : Int32) (72 : Int32) (nI o1.length) g1 (by unfold fu; omega) ⟨128, 0, 0, 72, o1, rfl, by omega, by rw [hh0], rfl, rfl, rfl, rfl, rfl, q2, by omega, by omega, by omega, w0⟩
  rintro m K vd vn vdl vr vb sz gg ⟨n', r, d, b, o', hm, hr, rfl, rfl, rfl, rfl, rfl, rfl, hgg, hn', hrh, hh, w⟩ ih
  unfold P_Packer_write_26 P_Row_size
  have hhl := hN_le l n' 0 l.length
  rw [Option.bind_some, Option.bind_some]
  by_cases hrl : l.length ≤ r
  · rw [if_pos (nI_le hrl (by omega))]
    have := WI_done (by omega) w
    subst this
    exact ⟨_, gg, rfl, hgg⟩
  rw [if_neg (nI_ge (by omega) (by omega))]
  by_cases hdl : l.length ≤ hN l n' 0 l.length
  · rw [if_pos (nI_le hdl (by omega))]
    have := WI_done (by omega) w
    subst this
    exact ⟨_, gg, rfl, hgg⟩
  rw [if_neg (nI_ge (by omega) (by omega))]
  -- some code is left
  have hex : ∃ q, q < l.length ∧ n' ≤ vN l q := by
    apply Classical.byContradiction
    intro hno
    have : ∀ k, k ≤ l.length → hN l n' 0 k = k := by
      intro k
      induction k with
      | zero => intro _; rfl
      | succ k ihk =>
        intro hk
        simp only [hN, ihk (by omega)]
        rw [if_neg]
        rw [Gt_iff]
        intro z
        exact hno ⟨k, by omega, by omega⟩
    have := this l.length (Nat.le_refl _)
    omega
  obtain ⟨q, hq, hqn⟩ := hex
  obtain ⟨mm, p, e1, e2, e3, e4, e5, e6⟩ := codes_least h hNl hNb hc (by omega) hq hqn
  obtain ⟨w1, w2⟩ := WI_jump e2 e6 w
  obtain ⟨d1, d2⟩ := WI_d hl (by omega) (by omega) w1
  rw [e1, Option.bind_some, nI_1, pk_sub e2, pk_mul, nI_add]
  rw [← w2]
  rw [← w2] at hh hrh w1
  generalize hdd : d + (mm - n') * (hN l mm 0 l.length + 1) = dd at *
  refine fl6_p (P_Packer_write_74 N N2 (nI l.length) f (nI h0) K (nI mm) (nI r)) (fun k vd vdl vi vb sz gg => ∃ (i d b : Nat) (o' : List Int32), k = l.length - i ∧ i ≤ l.length ∧ vd = nI (hN l mm i l.length) ∧ vdl = nI d ∧ vi = nI i ∧ vb = nI b ∧ sz = nI o'.length ∧ Rp gg o' ∧ (r < hN l mm i l.length ∨ (r ≤ hN l mm i l.length ∧ i ≤ p)) ∧ h0 ≤ hN l mm i l.length ∧ WI l T h0 mm i d b o') (fun r => ∃ b' g', r = some (b', nI T.length, g') ∧ Rp g' T) ?_ fu l.length (nI (hN l mm 0 l.length)) (nI dd) (0 : Int32) (nI b) (nI o'.length) gg (by unfold fu; omega) ⟨0, dd, b, o', rfl, by omega, rfl, rfl, rfl, rfl, rfl, hgg, Or.inr ⟨hrh, by omega⟩, hh, w1⟩
  clear hgg w w1 hdd d1 d2 hdl
  rintro k K2 vd vdl vi vb sz gg2 ⟨i, d3, b3, o3, hk, hi, rfl, rfl, rfl, rfl, rfl, hgg, hrr, hhh, w⟩ ih2
  obtain ⟨d1, d2⟩ := WI_d hl (by omega) hi w
  have hhl2 := hN_le l mm i l.length
  unfold P_Packer_write_74 P_Row_size
  rw [Option.bind_some]
  by_cases hil : l.length ≤ i
  · have ei : i = l.length := by omega
    subst ei
    obtain ⟨w3, w4⟩ := WI_end w
    rw [if_pos (nI_le (Nat.le_refl _) (by omega)), nI_1, nI_1, nI_1, ← w4]
    refine ih (l.length - (r + 1)) _ _ _ _ _ _ _ (by omega) ⟨mm + 1, r + 1, d3 + 1, b3, o3, rfl, by omega, rfl, rfl, rfl, rfl, rfl, rfl, hgg, by omega, by omega, by omega, w3⟩
  have hil2 : i < l.length := by omega
  obtain ⟨v1, v2⟩ := okC_get hc hil2
  rw [if_neg (nI_ge (by omega) (by omega)), row_get h hNl (by omega) (by omega), Option.bind_some, v1]
  by_cases hv : vN l i = mm
  · obtain ⟨x1, x2, x3, x4⟩ := WI_emit hc hl hil2 hv hhh w
    obtain ⟨g4, y1, y2⟩ := codes_num (N2 := N2) (q := d3) (o := o3) hN2 d2 x1 (by omega) hgg
    have fin : ∀ (fb : Bool), fb = decide (hN l mm i l.length = h0) → ∃ b' g', P_Packer_write_136 K2 (nI (hN l mm i l.length)) (nI i) (b2 fb) (nI (hN l mm i l.length) + 1) (nI d3) (nI (o3 ++ numS b3 d3).length) g4 = some (b', nI T.length, g') ∧ Rp g' T := by
      rintro fb rfl
      unfold P_Packer_write_136
      rw [nI_1, codes_adapt _ (by omega) (by omega) (by omega), Option.bind_some, nI_1, ← x3]
      exact ih2 (l.length - (i + 1)) _ _ _ _ _ _ (by omega) ⟨i + 1, 0, _, _, rfl, by omega, rfl, rfl, rfl, by rw [x3], rfl, y2, Or.inl (by omega), by omega, x2⟩
    rw [if_pos (nI_le (by omega) (by omega)), if_pos (by rw [hv]), y1, Option.bind_some]
    by_cases hf : hN l mm i l.length = h0
    · rw [if_pos (by rw [hf])]
      exact fin true (by simp [hf])
    · have hA : ¬ nI (hN l mm i l.length) = nI h0 := by rw [nI_iff (by omega) (by omega)]; exact hf
      rw [if_neg hA]
      exact fin false (by simp [hf])
  · obtain ⟨x1, x2⟩ := WI_skip hv w
    have hip : ¬ i = p := fun e => hv (by rw [e, e5])
    by_cases hlt : vN l i < mm
    · rw [if_neg (nI_ge (by omega) (by omega)), nI_1, nI_1, ← x2]
      rw [if_pos hlt] at x1
      exact ih2 (l.length - (i + 1)) _ _ _ _ _ _ (by omega) ⟨i + 1, d3 + 1, b3, o3, rfl, by omega, rfl, rfl, rfl, rfl, rfl, hgg, by omega, by omega, x1⟩
    · have hA : ¬ nI (vN l i) = nI mm := by rw [nI_iff (by omega) (by omega)]; exact hv
      rw [if_pos (nI_le (by omega) (by omega)), if_neg hA, nI_1, ← x2]
      rw [if_neg hlt] at x1
      exact ih2 (l.length - (i + 1)) _ _ _ _ _ _ (by omega) ⟨i + 1, d3 + 0, b3, o3, rfl, by omega, rfl, rfl, rfl, rfl, rfl, hgg, by omega, by omega, x1⟩
