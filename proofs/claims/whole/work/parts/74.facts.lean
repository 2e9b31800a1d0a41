/-! ===== what holds of the labels of a text ===== -/
def wk (c : Int32) : Nat := if 0 ≤ c.toInt ∧ c.toInt ≤ 1114111 then 0 else 1
theorem wk_ok (c : Int32) : sumW wk (apL c) = wk c := by
  by_cases h : c ∈ pcL
  · rcases pcL_cases h with z | z | z | z | z | z | z | z | z | z | z | z | z | z | z | z | z | z <;> subst z <;> decide
  · rw [apL_no h]; simp [sumW]
theorem okC_wk : ∀ (l : List Int32), okC l ↔ sumW wk l = 0
  | [] => ⟨fun _ => rfl, fun _ x hx => absurd hx (by simp)⟩
  | c :: cs => by
    have ih := okC_wk cs
    rw [sumW_cons]
    constructor
    · intro h
      have h1 := h c List.mem_cons_self
      have h2 := ih.1 (fun x hx => h x (List.mem_cons_of_mem _ hx))
      have h3 : wk c = 0 := by unfold wk; rw [if_pos h1]
      omega
    · intro h x hx
      have h1 : wk c = 0 := by omega
      have h2 := ih.2 (by omega)
      rw [List.mem_cons] at hx
      rcases hx with rfl | hx
      · unfold wk at h1
        by_cases z : 0 ≤ x.toInt ∧ x.toInt ≤ 1114111
        · exact z
        · rw [if_neg z] at h1; omega
      · exact h2 x hx
theorem cmp_ok {l : List Int32} (h : okC l) : okC (cmpS l) := by
  rw [okC_wk, sumW_cmp wk_ok, ← okC_wk]; exact h
theorem le_sumL {f : List Int32 → Nat} {x : List Int32} : ∀ {L : List (List Int32)}, x ∈ L → f x ≤ (L.map f).sum
  | [], h => absurd h (by simp)
  | y :: ys, h => by
    rw [List.map_cons, List.sum_cons]
    rw [List.mem_cons] at h
    rcases h with rfl | h
    · omega
    · have := le_sumL (f := f) h; omega
def no46 (l : List Int32) : Prop := ∀ c ∈ l, ¬ c = 46
theorem unL_no46 : ∀ (m : Nat) (ds : List Int32) (i n b : Nat) (out l : List Int32), unL m ds i n b out = some l → no46 out → 128 ≤ n → no46 l := by
  intro m
  induction m with
  | zero => intro ds i n b out l h; simp [unL] at h
  | succ m ih =>
    intro ds i n b out l h ho hn
    simp only [unL] at h
    by_cases hds : ds = []
    · rw [if_pos hds] at h
      cases h
      exact ho
    · rw [if_neg hds] at h
      cases hrd : rdN b ds i 1 0 with
      | none => rw [hrd] at h; cases h
      | some pr =>
        obtain ⟨i', rest⟩ := pr
        rw [hrd] at h
        simp only [] at h
        by_cases hor : 48 < out.length + 1 ∨ 1114111 < n + i' / (out.length + 1)
        · rw [if_pos hor] at h; cases h
        rw [if_neg hor] at h
        have hb1 : n + i' / (out.length + 1) ≤ 1114111 := by omega
        have hb2 : 128 ≤ n + i' / (out.length + 1) := Nat.le_trans hn (Nat.le_add_right _ _)
        refine ih rest _ _ _ _ l h ?_ hb2
        generalize n + i' / (out.length + 1) = zz at *
        intro x hx
        unfold insA at hx
        rw [List.mem_append, List.mem_cons] at hx
        rcases hx with hx | hx | hx
        · exact ho x (List.mem_of_mem_take hx)
        · rw [hx, show (46 : Int32) = nI 46 from rfl, nI_iff (by omega) (by omega)]; omega
        · exact ho x (List.mem_of_mem_drop hx)
theorem unp_no46 {y u : List Int32} (hy : no46 y) (h : unpS y = some u) : no46 u := by
  unfold unpS at h
  split at h
  · exact unL_no46 _ _ _ _ _ _ _ h (fun c hc => hy c (List.mem_of_mem_take hc)) (by omega)
  · cases h
theorem cd_no46 {d : Nat} (hd : d < 1000) : ¬ cdD d = 46 := by
  unfold cdD
  rw [show (46 : Int32) = nI 46 from rfl]
  split
  · rw [nI_iff (by omega) (by omega)]; omega
  · rw [nI_iff (by omega) (by omega)]; omega
theorem dgS_no46 (b : Nat) : ∀ (f q j : Nat), no46 (dgS b f q j)
  | 0, _, _ => fun c hc => absurd hc (by simp [dgS])
  | f + 1, q, j => by
    have ht := thN_rng b j
    simp only [dgS]
    split
    · intro c hc
      rw [List.mem_singleton] at hc
      rw [hc]; exact cd_no46 (by omega)
    · intro c hc
      rw [List.mem_cons] at hc
      rcases hc with hc | hc
      · rw [hc]
        have := digit_lt (q := q) ht
        exact cd_no46 (by omega)
      · exact dgS_no46 b f _ _ c hc
theorem encS_no46 (l : List Int32) : ∀ (f n i b : Nat) (first : Bool), no46 (encS l f n i b first)
  | 0, n, i, b, first => fun c hc => absurd hc (by simp [encS])
  | f + 1, n, i, b, first => by
    simp only [encS]
    cases lsN l (Gt l n i) with
    | none => intro c hc; simp at hc
    | some k =>
      intro c hc
      simp only [] at hc
      rw [List.mem_append] at hc
      rcases hc with hc | hc
      · exact dgS_no46 _ _ _ _ c hc
      · exact encS_no46 l f _ _ _ _ c hc
theorem packS_no46 {l : List Int32} (h : no46 l) : no46 (packS l) := by
  intro c hc
  unfold packS at hc
  rw [List.mem_append, List.mem_append] at hc
  rcases hc with (hc | hc) | hc
  · unfold basS at hc
    exact h c (List.mem_filter.1 hc).1
  · split at hc
    · simp at hc
    · rw [List.mem_singleton] at hc; rw [hc]; decide
  · exact encS_no46 _ _ _ _ _ _ c hc
theorem open_no46 {x : List Int32} (h : no46 x) : no46 (openS x).1 := by
  unfold openS
  split
  · cases hu : unpS (x.drop 4) with
    | none => exact h
    | some u =>
      have := unp_no46 (fun c hc => h c (List.mem_of_mem_drop hc)) hu
      simp only []
      split
      · exact this
      · exact h
  · exact h
theorem wr_no46 (ascii : Bool) {x : List Int32} (h : no46 x) : no46 (wrS ascii x) := by
  unfold wrS
  split
  · intro c hc
    rw [List.mem_append] at hc
    rcases hc with hc | hc
    · intro e; subst e; revert hc; decide
    · exact packS_no46 h c hc
  · exact h
/-- how long a label gets -/
theorem wr_len (ascii : Bool) {x : List Int32} (hok : okC x) (hno : no46 x) : (wrS ascii (openS x).1).length ≤ 5 + sumW w2 x := by
  have hlw := len_le_w2 x
  have plain : ∀ y : List Int32, y = x → (wrS ascii y).length ≤ 5 + sumW w2 x := by
    rintro y rfl
    unfold wrS
    split
    · have h1 := packS_len hok
      have h2 := bas_w2 y hno
      rw [List.length_append]
      have : tagL.length = 4 := rfl
      omega
    · omega
  unfold openS
  split
  · rename_i ht
    have h4 := tagB_len ht
    cases hu : unpS (x.drop 4) with
    | none => exact plain x rfl
    | some u =>
      have hk := unp_ok (fun c hc => hok c (List.mem_of_mem_drop hc)) hu
      simp only [List.length_drop] at hk
      simp only []
      split
      · show (wrS ascii u).length ≤ _
        unfold wrS
        split
        · rw [List.length_append]
          have : tagL.length = 4 := rfl
          omega
        · omega
      · exact plain x rfl
  · exact plain x rfl
theorem open_apart {x : List Int32} (hok : okC x) (h : (apartL x).length ≤ 96) : (apartL (openS x).1).length ≤ 96 := by
  unfold openS
  split
  · cases hu : unpS (x.drop 4) with
    | none => exact h
    | some u =>
      have hk := unp_ok (fun c hc => hok c (List.mem_of_mem_drop hc)) hu
      simp only []
      split
      · show (apartL u).length ≤ 96
        rw [apart_len]
        have : sumW w1 u ≤ 2 * u.length := by
          have := sum_flat (w := w1) (f := fun c => [c]) (k := 2) u (fun c _ => by have := apL_len c; simp [sumW, w1]; omega)
          simpa using this
        omega
      · exact h
  · exact h
def RawOK (raw : List (List Int32)) : Prop := raw.length ≤ 49 ∧ 0 < raw.length ∧ (∀ x ∈ raw, okC x) ∧ (∀ x ∈ raw, no46 x) ∧ (∀ x ∈ raw, (apartL x).length ≤ 96) ∧ (raw.map List.length).sum ≤ 96 ∧ 6 * raw.length + (raw.map (sumW w2)).sum ≤ 486
theorem RawOK.n {raw : List (List Int32)} (h : RawOK raw) : raw.length ≤ 49 := h.1
theorem RawOK.pos {raw : List (List Int32)} (h : RawOK raw) : 0 < raw.length := h.2.1
theorem RawOK.ok {raw : List (List Int32)} (h : RawOK raw) : ∀ x ∈ raw, okC x := h.2.2.1
theorem RawOK.no {raw : List (List Int32)} (h : RawOK raw) : ∀ x ∈ raw, no46 x := h.2.2.2.1
theorem RawOK.ap {raw : List (List Int32)} (h : RawOK raw) : ∀ x ∈ raw, (apartL x).length ≤ 96 := h.2.2.2.2.1
theorem RawOK.lens {raw : List (List Int32)} (h : RawOK raw) : (raw.map List.length).sum ≤ 96 := h.2.2.2.2.2.1
theorem RawOK.out {raw : List (List Int32)} (h : RawOK raw) : 6 * raw.length + (raw.map (sumW w2)).sum ≤ 486 := h.2.2.2.2.2.2
theorem raw_ok {T : List Int32} (old : Bool) (hok : okC T) (hT : T.length ≤ 48) : RawOK (splitL [] (cmpS (mapL old T))) ∧ okC (cmpS (mapL old T)) ∧ (cmpS (mapL old T)).length ≤ 96 ∧ sumW wd (cmpS (mapL old T)) ≤ 48 := by
  have hok2 := cmp_ok (mapL_ok old hok)
  have h1 := mapL_w1 old T
  have h2 := mapL_w2 old T
  have h3 := mapL_wd old T
  have hd : sumW wd (cmpS (mapL old T)) = sumW wd (mapL old T) := sumW_cmp wd_ok _
  have hw2 : sumW w2 (cmpS (mapL old T)) = sumW w2 (mapL old T) := sumW_cmp w2_ok _
  have hap := apart_cmp (mapL old T)
  have hcl := cmp_len_le (mapL old T)
  generalize cmpS (mapL old T) = l at *
  have hlen := split_len l []
  have hls := split_lens l []
  simp only [List.length_nil] at hls
  have e1 := split_w w1 l []
  have e2 := split_w w2 l []
  simp only [sumW_nil] at e1 e2
  have e46 : w2 46 = 6 := by decide
  rw [e46] at e2
  have hmem := split_mem l []
  refine ⟨⟨by omega, by omega, ?_, ?_, ?_, by omega, by omega⟩, hok2, by omega, by omega⟩
  · intro x hx c hc
    rcases hmem x hx c hc with z | z
    · cases z
    · exact hok2 c z.1
  · intro x hx c hc
    rcases hmem x hx c hc with z | z
    · cases z
    · exact z.2
  · intro x hx
    rw [apart_len]
    have := le_sumL (f := sumW w1) hx
    rw [apart_len] at hap
    omega
theorem lab_open {raw : List (List Int32)} {k : Nat} (h : k < raw.length) : labK (raw.map openS) k = openS (raw.getD k []) := by
  rw [labK_get (by simpa using h), getD_getL h]; simp
theorem lab_ok {raw : List (List Int32)} (h : RawOK raw) : LabOK (raw.map openS) := by
  refine ⟨by simpa using h.n, ?_, ?_⟩
  · have := open_codes h.ok
    have := h.lens
    omega
  · intro y hy
    rw [List.mem_map] at hy
    obtain ⟨x, hx, rfl⟩ := hy
    exact ⟨(openS_len (h.ok x hx)).2, open_apart (h.ok x hx) (h.ap x hx)⟩
theorem sum2_take_succ {raw : List (List Int32)} {k : Nat} (h : k < raw.length) : ((raw.take (k + 1)).map (sumW w2)).sum = ((raw.take k).map (sumW w2)).sum + sumW w2 (raw.getD k []) := by
  rw [List.take_succ_eq_append_getElem h, List.map_append, List.sum_append, getD_getL h]; simp
theorem out_len {raw : List (List Int32)} (ascii : Bool) (h : RawOK raw) : ∀ k, k ≤ raw.length → (outP ascii (raw.map openS) k).length ≤ 6 * k + ((raw.take k).map (sumW w2)).sum
  | 0, _ => by simp [outP]
  | k + 1, hk => by
    have ih := out_len ascii h k (by omega)
    have hk2 : k < raw.length := by omega
    have hmem : raw.getD k [] ∈ raw := by rw [getD_getL hk2]; exact List.getElem_mem hk2
    have h1 := wr_len ascii (h.ok _ hmem) (h.no _ hmem)
    have h2 := sum2_take_succ hk2
    show (sepP (outP ascii (raw.map openS) k) k ++ wrS ascii (labK (raw.map openS) k).1).length ≤ _
    rw [List.length_append, lab_open hk2, h2]
    have : (sepP (outP ascii (raw.map openS) k) k).length ≤ (outP ascii (raw.map openS) k).length + 1 := by
      unfold sepP; split <;> simp
    omega
theorem out_len512 {raw : List (List Int32)} (ascii : Bool) (h : RawOK raw) : (outP ascii (raw.map openS) (raw.map openS).length).length ≤ 512 := by
  have h1 := out_len ascii h raw.length (Nat.le_refl _)
  rw [List.take_length] at h1
  have := h.out
  rw [List.length_map]
  omega
theorem wh_eq {raw : List (List Int32)} (ascii : Bool) (h : RawOK raw) : whF ascii (raw.map openS) ((raw.map openS).length - 1) = whN (outP ascii (raw.map openS) (raw.map openS).length) := by
  have hpos := h.pos
  obtain ⟨n, hn⟩ : ∃ n, (raw.map openS).length = n + 1 := ⟨raw.length - 1, by simp; omega⟩
  have hnr : n < raw.length := by simp at hn; omega
  have hmem : raw.getD n [] ∈ raw := by rw [getD_getL hnr]; exact List.getElem_mem hnr
  have hno := wr_no46 ascii (open_no46 (h.no _ hmem))
  unfold whF
  rw [hn, Nat.add_sub_cancel]
  have hsucc : outP ascii (raw.map openS) (n + 1) = sepP (outP ascii (raw.map openS) n) n ++ wrS ascii (labK (raw.map openS) n).1 := rfl
  rw [hsucc, lab_open hnr]
  generalize wrS ascii (openS (raw.getD n [])).1 = w at *
  generalize outP ascii (raw.map openS) n = o
  unfold whN sepP
  cases w with
  | nil =>
    simp only [List.length_nil, List.append_nil, true_and]
    by_cases h0 : n = 0
    · subst h0; simp
    · simp only [if_neg h0]
      have hp : 0 < n := by omega
      simp [hp, List.getD_eq_getElem?_getD]
  | cons c cs =>
    have hA : ¬ ((c :: cs).length = 0 ∧ n = n ∧ 0 < n) := by simp
    rw [if_neg hA]
    generalize (if n = 0 then ([] : List Int32) else o ++ [46]) = q at *
    symm
    apply if_neg
    rintro ⟨-, z⟩
    have hl : (q ++ c :: cs).length - 1 = q.length + cs.length := by simp
    rw [hl, getD_get (by simp)] at z
    rw [List.getElem_append_right (by omega)] at z
    exact hno _ (List.getElem_mem _) z
