/-! ===== the reference opens all labels ===== -/
def mixL (raw : List (List Int32)) (k : Nat) : List (List Int32) := (raw.take k).map (fun x => (openS x).1) ++ raw.drop k
theorem getD_getL {raw : List (List Int32)} {k : Nat} (h : k < raw.length) : raw.getD k [] = raw[k] := by
  simp [List.getD_eq_getElem?_getD, h]
theorem mix_len (raw : List (List Int32)) (k : Nat) (h : k ≤ raw.length) : (mixL raw k).length = raw.length := by
  unfold mixL; simp; omega
theorem mix_get {raw : List (List Int32)} {k : Nat} (h : k < raw.length) : (mixL raw k).getD k [] = raw.getD k [] := by
  unfold mixL
  simp only [List.getD_eq_getElem?_getD]
  rw [List.getElem?_append_right (by simp; omega)]
  simp only [List.length_map, List.length_take, List.getElem?_drop]
  congr 2; omega
theorem mix_set {raw : List (List Int32)} {k : Nat} (h : k < raw.length) : (mixL raw k).set k (openS (raw.getD k [])).1 = mixL raw (k + 1) := by
  unfold mixL
  have hl : ((raw.take k).map (fun x => (openS x).1)).length = k := by simp; omega
  rw [List.set_append_right _ _ (by omega), hl, Nat.sub_self, List.drop_eq_getElem_cons h, List.set_cons_zero, List.take_succ_eq_append_getElem h, getD_getL h, List.map_append, List.append_assoc]
  rfl
theorem sum_take_succ {raw : List (List Int32)} {k : Nat} (h : k < raw.length) : ((raw.take (k + 1)).map List.length).sum = ((raw.take k).map List.length).sum + (raw.getD k []).length := by
  rw [List.take_succ_eq_append_getElem h, List.map_append, List.sum_append, getD_getL h]; simp
theorem sum_take_le (raw : List (List Int32)) (k : Nat) : ((raw.take k).map List.length).sum ≤ (raw.map List.length).sum := by
  conv => rhs; rw [← List.take_append_drop k raw]
  rw [List.map_append, List.sum_append]; omega
theorem mod_opens {raw : List (List Int32)} {st sz pool row other rules tagged : Nat → Int32} {p : Nat} (h : MR raw st sz pool p) (hp : p ≤ 96) (hn : raw.length ≤ 49) (hok : ∀ x ∈ raw, okC x) (hsum : (raw.map List.length).sum ≤ 96) (a1 a2 v3 wh rs b : Int32) (res placed : Nat → Int32) :
    ∃ rs' ps' b' row' other' st' sz' rules' tagged' pool', fl11 (P_Mod_process_37 a1 a2 v3 (nI raw.length) wh res placed) fu (0 : Int32) rs (nI p) b row other st sz rules tagged pool = P_Mod_process_37 a1 a2 v3 (nI raw.length) wh res placed (fun _ _ _ _ _ _ _ _ _ _ _ => none) (nI raw.length) rs' (nI ps') b' row' other' st' sz' rules' tagged' pool' ∧ ps' ≤ 300 ∧ MR (raw.map fun x => (openS x).1) st' sz' pool' ps' ∧ Rp rules' ((raw.map openS).map fun x => x.2.2) ∧ Rp tagged' ((raw.map openS).map fun x => b2 x.2.1) := by
  refine fl11_p (P_Mod_process_37 a1 a2 v3 (nI raw.length) wh res placed) (fun m v4 rs ps b row other st sz rules tagged pool => ∃ (k q : Nat), m = raw.length - k ∧ k ≤ raw.length ∧ v4 = nI k ∧ ps = nI q ∧ q ≤ p + ((raw.take k).map List.length).sum ∧ MR (mixL raw k) st sz pool q ∧ Rp rules (((raw.take k).map openS).map fun x => x.2.2) ∧ Rp tagged (((raw.take k).map openS).map fun x => b2 x.2.1)) (fun r => ∃ rs' ps' b' row' other' st' sz' rules' tagged' pool', r = P_Mod_process_37 a1 a2 v3 (nI raw.length) wh res placed (fun _ _ _ _ _ _ _ _ _ _ _ => none) (nI raw.length) rs' (nI ps') b' row' other' st' sz' rules' tagged' pool' ∧ ps' ≤ 300 ∧ MR (raw.map fun x => (openS x).1) st' sz' pool' ps' ∧ Rp rules' ((raw.map openS).map fun x => x.2.2) ∧ Rp tagged' ((raw.map openS).map fun x => b2 x.2.1)) ?_ fu raw.length (0 : Int32) rs (nI p) b row other st sz rules tagged pool (by unfold fu; omega) ⟨0, p, rfl, by omega, rfl, rfl, by simp, by simpa [mixL] using h, Rp.nil, Rp.nil⟩
  rintro m K v4 rs ps b row other st sz rules tagged pool ⟨k, q, hm, hk, rfl, rfl, hq, hMR, hr, ht⟩ ih
  by_cases hkl : raw.length ≤ k
  · have ek : k = raw.length := by omega
    subst ek
    rw [List.take_length] at *
    refine ⟨rs, q, b, row, other, st, sz, rules, tagged, pool, ?_, by omega, by simpa [mixL] using hMR, hr, ht⟩
    have hA : nI raw.length ≤ nI raw.length := nI_le (Nat.le_refl _) (by omega)
    unfold P_Mod_process_37
    rw [if_pos hA, if_pos hA]
  · have hkl2 : k < raw.length := by omega
    have hst := sum_take_succ hkl2
    have hsl := sum_take_le raw (k + 1)
    have hx := mix_get hkl2
    have hmem : raw.getD k [] ∈ raw := by rw [getD_getL hkl2]; exact List.getElem_mem hkl2
    obtain ⟨rs', ps', b', row', other', st', sz', pool', q1, q2, q3⟩ := mod_open (row := row) (other := other) (rules := rules) (tagged := tagged) hMR (by rw [mix_len _ _ hk]; exact hkl2) (by rw [mix_len _ _ hk]; omega) (by rw [hx]; exact hok _ hmem) (by rw [hx]; omega) (by rw [hx]; omega) b
    rw [hx] at q1 q2 q3
    rw [mix_set hkl2] at q3
    have hA : ¬ nI raw.length ≤ nI k := nI_ge (by omega) (by omega)
    unfold P_Mod_process_37
    rw [if_neg hA, q1, Option.bind_some, nI_1]
    have et : raw.take (k + 1) = raw.take k ++ [raw.getD k []] := by rw [List.take_succ_eq_append_getElem hkl2, getD_getL hkl2]
    have hl1 : (((raw.take k).map openS).map fun x => x.2.2).length = k := by simp; omega
    have hl2 : (((raw.take k).map openS).map fun x => b2 x.2.1).length = k := by simp; omega
    have hr2 := hr.add (openS (raw.getD k [])).2.2
    have ht2 := ht.add (b2 (openS (raw.getD k [])).2.1)
    rw [hl1] at hr2
    rw [hl2] at ht2
    have := ih (raw.length - (k + 1)) (nI (k + 1)) rs' (nI ps') b' row' other' st' sz' (upd rules k (openS (raw.getD k [])).2.2) (upd tagged k (b2 (openS (raw.getD k [])).2.1)) pool' (by omega) ⟨k + 1, ps', rfl, by omega, rfl, rfl, by omega, q3, by rw [et]; simpa using hr2, by rw [et]; simpa using ht2⟩
    unfold P_Mod_process_37 at this
    exact this
