/-! ===== cutting, both sides ===== -/
theorem open_codes {S : List (List Int32)} : (∀ x ∈ S, okC x) → (codesL (S.map openS)).length ≤ (S.map List.length).sum := by
  induction S with
  | nil => intro _; simp [codesL]
  | cons x xs ih =>
    intro h
    have h1 := (openS_len (h x List.mem_cons_self)).1
    have h2 := ih (fun y hy => h y (List.mem_cons_of_mem _ hy))
    unfold codesL at *
    simp only [List.map_cons, List.flatMap_cons, List.length_append, List.sum_cons]
    omega
theorem sumW_len (l : List (List Int32)) : (l.map (sumW fun _ => 1)).sum = (l.map List.length).sum := by
  induction l with
  | nil => rfl
  | cons x xs ih => simp only [List.map_cons, List.sum_cons, ih, sumW_one]
theorem split_lens (l cur : List Int32) : ((splitL cur l).map List.length).sum + sumW wd l = cur.length + l.length := by
  have := split_w (fun _ => 1) l cur
  rw [sumW_len, sumW_one, sumW_one] at this
  omega
theorem drop_get_cons {l : List Int32} {i : Nat} (h : i < l.length) : l.drop i = l.getD i (-1) :: l.drop (i + 1) := by
  rw [getD_get h]; exact List.drop_eq_getElem_cons h
theorem take_more {l : List Int32} {s i : Nat} (h : s ≤ i) (hi : i < l.length) : (l.drop s).take (i + 1 - s) = (l.drop s).take (i - s) ++ [l.getD i (-1)] := by
  have e : i + 1 - s = (i - s) + 1 := by omega
  rw [e, take_snoc (by simp; omega), getD_get hi]
  congr 2
  rw [List.getElem_drop]
  congr 1; omega
theorem host_cut {l : List Int32} {f : Nat → Int32} (h : Rp f l) (hl : l.length ≤ 96) (hok : okC l) (hd : sumW wd l ≤ 48) (ls us b nx : Int32) (fl fun' fc fe fr ft : Nat → Int32) :
    ∃ ls' fl' us' fun2 n' cs' fc' fe' fr' ft' b' nx', P_Host_cutIntoLabels (nI l.length) f ls fl us fun' fc fe fr ft b nx = some (ls', fl', us', fun2, n', cs', fc', fe', fr', ft', b', nx') ∧ FR ((splitL [] l).map openS) n' cs' fc' fe' fr' ft' := by
  unfold P_Host_cutIntoLabels P_Labels_empty P_Row_empty
  simp only [Option.bind_some]
  have htot := split_len l []
  have hlens := split_lens l []
  refine fl14_p (P_Host_cutIntoLabels_11 (nI l.length) f) (fun m v1 v2 ls fl us fun' n cs fc fe fr ft b nx => ∃ (s i : Nat) (D : List (List Int32)), m = l.length + 1 - i ∧ s ≤ i ∧ i ≤ l.length + 1 ∧ v1 = nI s ∧ v2 = nI i ∧ FR (D.map openS) n cs fc fe fr ft ∧ (i ≤ l.length → splitL [] l = D ++ splitL ((l.drop s).take (i - s)) (l.drop i)) ∧ (l.length < i → splitL [] l = D)) (fun r => ∃ ls' fl' us' fun2 n' cs' fc' fe' fr' ft' b' nx', r = some (ls', fl', us', fun2, n', cs', fc', fe', fr', ft', b', nx') ∧ FR ((splitL [] l).map openS) n' cs' fc' fe' fr' ft') ?_ fu (l.length + 1) (0 : Int32) (0 : Int32) ls fl us fun' (0 : Int32) (0 : Int32) fc fe fr ft b nx (by unfold fu; omega) ⟨0, 0, [], rfl, by omega, by omega, rfl, rfl, FR_nil, fun _ => by simp, fun z => by omega⟩
  rintro m K v1 v2 ls fl us fun' n cs fc fe fr ft b nx ⟨s, i, D, hm, hsi, hi, rfl, rfl, hF, hsp, hend⟩ ih
  unfold P_Host_cutIntoLabels_11 P_Row_size
  rw [Option.bind_some, Option.bind_some]
  by_cases hil : l.length < i
  · rw [if_pos (nI_lt hil (by omega))]
    have := hend hil
    rw [this]
    exact ⟨_, _, _, _, _, _, _, _, _, _, _, _, rfl, hF⟩
  rw [if_neg (nI_nlt (by omega) (by omega))]
  have hsp := hsp (by omega)
  -- closing the label
  have close : ∀ rest, splitL [] l = D ++ ((l.drop s).take (i - s)) :: rest → (i < l.length → rest = splitL [] (l.drop (i + 1))) → (i = l.length → rest = []) → ∃ ls' fl' us' fun2 n' cs' fc' fe' fr' ft' b' nx', P_Host_cutIntoLabels_46 (nI l.length) f K (nI s) (nI i) fl us fun' n cs fc fe fr ft b nx = some (ls', fl', us', fun2, n', cs', fc', fe', fr', ft', b', nx') ∧ FR ((splitL [] l).map openS) n' cs' fc' fe' fr' ft' := by
    intro rest e1 e2 e3
    unfold P_Host_cutIntoLabels_46 P_Row_empty
    rw [Option.bind_some]
    obtain ⟨f', q1, q2⟩ := row_addPart (N := 96) (N2 := 96) (f := fl) (l := []) Rp.nil h (by omega) hl (by omega) hsi (show i ≤ l.length by omega) (by simp; omega) (by omega)
    rw [List.nil_append] at q2
    have hxl : ((l.drop s).take (i - s)).length = i - s := by simp; omega
    rw [show nI ([] : List Int32).length = (0 : Int32) from rfl] at q1
    rw [q1, Option.bind_some]
    simp only [List.length_nil, Nat.zero_add]
    have hDl : D.length + 1 ≤ sumW wd l + 1 := by
      rw [← htot, e1]; simp
    have hall : ∀ x ∈ D, okC x := by
      intro x hx c hc
      have := split_mem l [] x (by rw [e1]; exact List.mem_append_left _ hx) c hc
      rcases this with z | z
      · cases z
      · exact hok c z.1
    have hlen2 : (D.map List.length).sum + (i - s) ≤ 96 := by
      have : ((splitL [] l).map List.length).sum = (D.map List.length).sum + ((i - s) + (rest.map List.length).sum) := by
        rw [e1, List.map_append, List.sum_append, List.map_cons, List.sum_cons, hxl]
      simp only [List.length_nil] at hlens
      omega
    have hoc := open_codes hall
    obtain ⟨us', fun2, n', cs', fc', fe', fr', ft', b', nx', r1, r2⟩ := host_keep (fl := f') (x := (l.drop s).take (i - s)) hF (by simp; omega) q2 (fun c hc => hok c (List.mem_of_mem_drop (List.mem_of_mem_take hc))) (by rw [hxl]; omega) us b nx (fun' := fun')
    rw [hxl] at r1
    rw [r1, Option.bind_some, nI_1]
    rw [show List.map openS D ++ [openS ((l.drop s).take (i - s))] = (D ++ [(l.drop s).take (i - s)]).map openS by simp] at r2
    refine ih (l.length + 1 - (i + 1)) _ _ _ _ _ _ _ _ _ _ _ _ _ _ (by omega) ⟨i + 1, i + 1, D ++ [(l.drop s).take (i - s)], rfl, by omega, by omega, rfl, rfl, r2, ?_, ?_⟩
    · intro z
      rw [e1, e2 (by omega)]; simp
    · intro z
      rw [e1, e3 (by omega)]
  by_cases hie : i = l.length
  · rw [if_pos (by rw [hie])]
    refine close [] ?_ (fun z => by omega) (fun _ => rfl)
    rw [hsp, hie, List.drop_length]; rfl
  · have hA : ¬ nI i = nI l.length := by rw [nI_iff (by omega) (by omega)]; exact hie
    have hil2 : i < l.length := by omega
    rw [if_neg hA, row_get h hl (by omega) (by omega), Option.bind_some]
    rw [drop_get_cons hil2] at hsp
    simp only [splitL] at hsp
    by_cases h46 : l.getD i (-1) = 46
    · rw [if_pos h46]
      rw [if_pos h46] at hsp
      exact close _ hsp (fun _ => rfl) (fun z => by omega)
    · rw [if_neg h46, nI_1]
      rw [if_neg h46] at hsp
      refine ih (l.length + 1 - (i + 1)) _ _ _ _ _ _ _ _ _ _ _ _ _ _ (by omega) ⟨s, i + 1, D, rfl, by omega, by omega, rfl, rfl, hF, fun _ => ?_, fun z => by omega⟩
      rw [hsp, take_more hsi hil2]
/-! the reference's labels -/
def MR (ls : List (List Int32)) (st sz pool : Nat → Int32) (ps : Nat) : Prop := ∀ k, k < ls.length → ∃ s, st k = nI s ∧ sz k = nI (ls.getD k []).length ∧ s + (ls.getD k []).length ≤ ps ∧ ∀ i, i < (ls.getD k []).length → pool (s + i) = (ls.getD k []).getD i (-1)
theorem getD_snoc (D : List (List Int32)) (x : List Int32) : (D ++ [x]).getD D.length [] = x := by
  simp [List.getD_eq_getElem?_getD]
theorem getD_app {D E : List (List Int32)} {k : Nat} (h : k < D.length) : (D ++ E).getD k [] = D.getD k [] := by
  simp only [List.getD_eq_getElem?_getD]
  rw [List.getElem?_append_left h]
theorem mod_cut {l : List Int32} {row : Nat → Int32} (h : Rp row l) (hl : l.length ≤ 96) (hd : sumW wd l ≤ 48) (st sz pool : Nat → Int32) :
    ∃ p st' sz' pool', P_Mod_cut (nI l.length) row st sz pool = some (nI (splitL [] l).length, nI p, st', sz', pool') ∧ p ≤ l.length ∧ MR (splitL [] l) st' sz' pool' p := by
  unfold P_Mod_cut
  have i0 : ∀ {O : Type} (a : Option O), gi (0 : Int32) 50 a = a := fun a => gi_ok (k := 0) (by omega) (by omega) a
  have c0 : ((0 : Int32)).toNatClampNeg = 0 := rfl
  rw [i0, i0, c0]
  have htot := split_len l []
  refine fl6_p (P_Mod_cut_26 (nI l.length) row) (fun m v1 n ps st sz pool => ∃ (j p : Nat) (D : List (List Int32)) (cur : List Int32) (s : Nat), m = l.length - j ∧ j ≤ l.length ∧ v1 = nI j ∧ n = nI D.length ∧ ps = nI p ∧ p ≤ j ∧ splitL [] l = D ++ splitL cur (l.drop j) ∧ MR D st sz pool s ∧ st D.length = nI s ∧ sz D.length = nI cur.length ∧ s + cur.length = p ∧ ∀ i, i < cur.length → pool (s + i) = cur.getD i (-1)) (fun r => ∃ p st' sz' pool', r = some (nI (splitL [] l).length, nI p, st', sz', pool') ∧ p ≤ l.length ∧ MR (splitL [] l) st' sz' pool' p) ?_ fu l.length (0 : Int32) (0 : Int32) (0 : Int32) (upd st 0 0) (upd sz 0 0) pool (by unfold fu; omega) ⟨0, 0, [], [], 0, rfl, by omega, rfl, rfl, rfl, by omega, by simp, fun k hk => absurd hk (Nat.not_lt_zero _), upd_s _ _ _, upd_s _ _ _, rfl, fun i hi => absurd hi (Nat.not_lt_zero _)⟩
  rintro m K v1 n ps st sz pool ⟨j, p, D, cur, s, hm, hj, rfl, rfl, rfl, hp, hsp, hMR, hst, hsz, hsc, hpool⟩ ih
  unfold P_Mod_cut_26
  have hDl : D.length + 1 ≤ sumW wd l + 1 := by
    rw [← htot, hsp, List.length_append, split_len]; omega
  have hMR2 : MR (D ++ [cur]) st sz pool p := by
    intro k hk
    rw [List.length_append, List.length_singleton] at hk
    by_cases e : k = D.length
    · subst e
      rw [getD_snoc]
      exact ⟨s, hst, hsz, by omega, hpool⟩
    · rw [getD_app (by omega)]
      obtain ⟨s', a1, a2, a3, a4⟩ := hMR k (by omega)
      exact ⟨s', a1, a2, by omega, a4⟩
  by_cases hjl : l.length ≤ j
  · have ej : j = l.length := by omega
    subst ej
    rw [List.drop_length] at hsp
    have hsp' : splitL [] l = D ++ [cur] := hsp
    rw [if_pos (nI_le (Nat.le_refl _) (by omega)), nI_1, hsp']
    refine ⟨p, st, sz, pool, by simp, by omega, hMR2⟩
  · have hjl2 : j < l.length := by omega
    rw [drop_get_cons hjl2] at hsp
    simp only [splitL] at hsp
    rw [if_neg (nI_ge (by omega) (by omega)), gi_ok (by omega) (by omega), nI_clamp (by omega), h.get hjl2 (-1)]
    by_cases h46 : l.getD j (-1) = 46
    · rw [if_pos h46] at hsp
      rw [if_pos h46, nI_1]
      have hD2 : D.length + 1 < 50 := by omega
      rw [gi_ok hD2 (by omega), gi_ok hD2 (by omega), nI_1, nI_clamp (by omega)]
      refine ih (l.length - (j + 1)) _ _ _ _ _ _ (by omega) ⟨j + 1, p, D ++ [cur], [], p, rfl, by omega, rfl, by simp, rfl, by omega, by rw [hsp]; simp, ?_, ?_, ?_, rfl, fun i hi => absurd hi (Nat.not_lt_zero _)⟩
      · intro k hk
        obtain ⟨s', a1, a2, a3, a4⟩ := hMR2 k hk
        rw [List.length_append, List.length_singleton] at hk
        exact ⟨s', by rw [upd_n _ _ (by omega)]; exact a1, by rw [upd_n _ _ (by omega)]; exact a2, a3, a4⟩
      · simp [upd_s]
      · simp only [List.length_append, List.length_singleton]; rw [upd_s]; rfl
    · rw [if_neg h46] at hsp
      rw [if_neg h46, nI_1]
      have hD2 : D.length < 50 := by omega
      rw [gi_ok (by omega) (by omega), gi_ok (show p < 300 by omega) (by omega), gi_ok hD2 (by omega), gi_ok hD2 (by omega), nI_1, nI_clamp (show D.length < 2 ^ 31 by omega), nI_clamp (show p < 2 ^ 31 by omega), hsz, nI_1]
      refine ih (l.length - (j + 1)) _ _ _ _ _ _ (by omega) ⟨j + 1, p + 1, D, cur ++ [l.getD j (-1)], s, rfl, by omega, rfl, rfl, rfl, by omega, hsp, ?_, hst, ?_, by simp; omega, ?_⟩
      · intro k hk
        obtain ⟨s', a1, a2, a3, a4⟩ := hMR k hk
        refine ⟨s', a1, by rw [upd_n _ _ (by omega)]; exact a2, a3, fun i hi => ?_⟩
        rw [upd_n _ _ (by omega)]; exact a4 i hi
      · rw [upd_s]; simp
      · intro i hi
        rw [List.length_append, List.length_singleton] at hi
        by_cases e : i = cur.length
        · subst e
          rw [hsc, upd_s]; simp [List.getD_eq_getElem?_getD]
        · rw [upd_n _ _ (by omega), hpool i (by omega)]
          simp only [List.getD_eq_getElem?_getD]
          rw [List.getElem?_append_left (by omega)]
theorem mod_fetch {ls : List (List Int32)} {st sz pool row : Nat → Int32} {ps k : Nat} (h : MR ls st sz pool ps) (hps : ps ≤ 300) (hk : k < ls.length) (hls : ls.length ≤ 50) (hlen : (ls.getD k []).length ≤ 96) : ∃ r', P_Mod_fetch row st sz pool (nI k) = some (nI (ls.getD k []).length, r') ∧ Rp r' (ls.getD k []) := by
  unfold P_Mod_fetch
  obtain ⟨s, a1, a2, a3, a4⟩ := h k hk
  generalize ls.getD k [] = x at *
  rw [gi_ok (by omega) (by omega), nI_clamp (by omega), a2]
  refine fl2_p (P_Mod_fetch_12 st pool (nI k) (nI x.length)) (fun m v r => ∃ j, m = x.length - j ∧ j ≤ x.length ∧ v = nI j ∧ Rp r (x.take j)) (fun r => ∃ r', r = some (nI x.length, r') ∧ Rp r' x) ?_ fu x.length (0 : Int32) row (by unfold fu; omega) ⟨0, rfl, by omega, rfl, Rp.nil⟩
  rintro m K v r ⟨j, hm, hj, rfl, hr⟩ ih
  unfold P_Mod_fetch_12
  by_cases hjl : x.length ≤ j
  · have ej : j = x.length := by omega
    subst ej
    rw [List.take_length] at hr
    rw [if_pos (nI_le (Nat.le_refl _) (by omega))]
    exact ⟨r, rfl, hr⟩
  · have hjl2 : j < x.length := by omega
    rw [if_neg (nI_ge (by omega) (by omega)), gi_ok (by omega) (by omega), nI_clamp (show k < 2 ^ 31 by omega), a1, nI_add, gi_ok (by omega) (by omega), gi_ok (by omega) (by omega), nI_1, nI_clamp (by omega), nI_clamp (by omega), a4 j hjl2]
    refine ih (x.length - (j + 1)) _ _ (by omega) ⟨j + 1, rfl, by omega, rfl, ?_⟩
    have := hr.add (x.getD j (-1))
    have e : (x.take j).length = j := by simp; omega
    rw [e] at this
    rw [take_snoc hjl2, ← getD_get hjl2 (-1)]; exact this
theorem mod_code {ls : List (List Int32)} {st sz pool : Nat → Int32} {ps k i : Nat} (h : MR ls st sz pool ps) (hps : ps ≤ 300) (hk : k < ls.length) (hls : ls.length ≤ 50) (hi : i < (ls.getD k []).length) : P_Mod_codeOf st pool (nI k) (nI i) = some ((ls.getD k []).getD i (-1)) := by
  unfold P_Mod_codeOf
  obtain ⟨s, a1, a2, a3, a4⟩ := h k hk
  rw [gi_ok (by omega) (by omega), nI_clamp (show k < 2 ^ 31 by omega), a1, nI_add, gi_ok (by omega) (by omega), nI_clamp (by omega), a4 i hi]
