/-! ===== the other calls, both sides ===== -/
theorem shift_low (a : BitVec 64) {s : Nat} (hs : s ≤ 56) : (a.ushiftRight s).signExtend 32 &&& 255#32 = (a.sshiftRight s).signExtend 32 &&& 255#32 := by
  have h255 : ∀ i, i < 32 → 8 ≤ i → (255#32).getLsbD i = false := by decide
  apply BitVec.eq_of_getLsbD_eq
  intro i hi
  rw [BitVec.getLsbD_and, BitVec.getLsbD_and]
  by_cases h8 : 8 ≤ i
  · rw [h255 i hi h8, Bool.and_false, Bool.and_false]
  · congr 1
    rw [BitVec.getLsbD_signExtend, BitVec.getLsbD_signExtend, if_pos (show i < 64 by omega), if_pos (show i < 64 by omega), BitVec.getLsbD_sshiftRight]
    have e1 : (a.ushiftRight s).getLsbD i = a.getLsbD (s + i) := BitVec.getLsbD_ushiftRight a s i
    rw [e1, if_pos (show s + i < 64 by omega)]
    have : decide (64 ≤ i) = false := by rw [decide_eq_false_iff_not]; omega
    rw [this]; simp
def tyC (a : Int64) (v : Int32) : Int32 := ((a >>> ((((8 : Int32) * v)).toInt64 &&& 63))).toInt32 &&& (255 : Int32)
theorem ty_same (a : Int64) {j : Nat} (hj : j < 8) : ((((a).toUInt64 >>> ((((8 : Int32) * (nI j))).toInt64.toUInt64 &&& Int64.toUInt64 63)).toInt64).toInt32 &&& (255 : Int32)) = tyC a (nI j) := by
  unfold tyC
  rw [← Int32.toBitVec_inj]
  have hc : j = 0 ∨ j = 1 ∨ j = 2 ∨ j = 3 ∨ j = 4 ∨ j = 5 ∨ j = 6 ∨ j = 7 := by omega
  rcases hc with rfl | rfl | rfl | rfl | rfl | rfl | rfl | rfl
  · exact shift_low a.toBitVec (s := 0) (by omega)
  · exact shift_low a.toBitVec (s := 8) (by omega)
  · exact shift_low a.toBitVec (s := 16) (by omega)
  · exact shift_low a.toBitVec (s := 24) (by omega)
  · exact shift_low a.toBitVec (s := 32) (by omega)
  · exact shift_low a.toBitVec (s := 40) (by omega)
  · exact shift_low a.toBitVec (s := 48) (by omega)
  · exact shift_low a.toBitVec (s := 56) (by omega)
theorem ty_ok (v : Int32) : 0 ≤ (v &&& 255).toInt ∧ (v &&& 255).toInt ≤ 1114111 := by
  have e : (v &&& 255).toInt = (v.toBitVec &&& 255#32).toInt := rfl
  have hn : (v.toBitVec &&& 255#32).toNat ≤ 255 := by
    rw [BitVec.toNat_and]; exact Nat.and_le_right
  have e2 : (v.toBitVec &&& 255#32).toInt = (v.toBitVec &&& 255#32).toNat := BitVec.toInt_eq_toNat_of_lt (by omega)
  rw [e, e2]; omega
def tyL (a : Int64) : Nat → List Int32
  | 0 => []
  | j + 1 => tyC a (nI j) :: tyL a j
theorem tyL_len (a : Int64) : ∀ n, (tyL a n).length = n
  | 0 => rfl
  | n + 1 => by simp only [tyL, List.length_cons, tyL_len a n]
theorem tyL_ok (a : Int64) : ∀ n, okC (tyL a n)
  | 0 => fun x hx => absurd hx (by simp [tyL])
  | n + 1 => by
    intro x hx
    simp only [tyL, List.mem_cons] at hx
    rcases hx with rfl | hx
    · exact ty_ok _
    · exact tyL_ok a n x hx
theorem host_ty {a : Int64} {T : List Int32} : ∀ (j : Nat) (o : List Int32) (f : Nat → Int32) (fuel : Nat), j < fuel → j ≤ 8 → o.length + j ≤ 48 → Rp f o → o ++ tyL a j = T →
    ∃ f', fl3 (P_Host_type_32 a) fuel (nI j - 1) (nI o.length) f = some (1, nI T.length, f') ∧ Rp f' T := by
  intro j
  induction j with
  | zero =>
    intro o f fuel hf h8 ho hr he
    obtain ⟨k, rfl⟩ : ∃ k, fuel = k + 1 := ⟨fuel - 1, by omega⟩
    rw [fl3_s]
    unfold P_Host_type_32
    rw [if_pos (by decide)]
    have : o = T := by rw [← he]; simp [tyL]
    subst this
    exact ⟨f, rfl, hr⟩
  | succ j ih =>
    intro o f fuel hf h8 ho hr he
    obtain ⟨k, rfl⟩ : ∃ k, fuel = k + 1 := ⟨fuel - 1, by omega⟩
    rw [fl3_s]
    generalize hK : fl3 (P_Host_type_32 a) k = K
    unfold P_Host_type_32
    rw [nI_pred, if_neg (nI_pos (by omega)), ty_same a (by omega), row_add (by omega) (by omega), Option.bind_some, nI_m, ← hK]
    have := ih (o ++ [tyC a (nI j)]) (upd f o.length (tyC a (nI j))) k (by omega) (by omega) (by simp; omega) (hr.add _) (by rw [← he]; simp [tyL])
    rw [List.length_append, List.length_singleton] at this
    exact this
theorem mod_ty {a : Int64} {T : List Int32} : ∀ (j : Nat) (o : List Int32) (f : Nat → Int32) (fuel : Nat), j < fuel → j ≤ 8 → o.length + j ≤ 48 → Rp f o → o ++ tyL a j = T →
    ∃ f', fl3 (P_Mod_type_28 a) fuel (nI j - 1) (nI o.length) f = some (1, nI T.length, f') ∧ Rp f' T := by
  intro j
  induction j with
  | zero =>
    intro o f fuel hf h8 ho hr he
    obtain ⟨k, rfl⟩ : ∃ k, fuel = k + 1 := ⟨fuel - 1, by omega⟩
    rw [fl3_s]
    unfold P_Mod_type_28
    rw [if_pos (by decide)]
    have : o = T := by rw [← he]; simp [tyL]
    subst this
    exact ⟨f, rfl, hr⟩
  | succ j ih =>
    intro o f fuel hf h8 ho hr he
    obtain ⟨k, rfl⟩ : ∃ k, fuel = k + 1 := ⟨fuel - 1, by omega⟩
    rw [fl3_s]
    generalize hK : fl3 (P_Mod_type_28 a) k = K
    unfold P_Mod_type_28
    rw [nI_pred, if_neg (nI_pos (by omega)), gi_ok (by omega) (by omega), nI_m, nI_1, nI_clamp (by omega), ← hK]
    have := ih (o ++ [tyC a (nI j)]) (upd f o.length (tyC a (nI j))) k (by omega) (by omega) (by simp; omega) (hr.add _) (by rw [← he]; simp [tyL])
    rw [List.length_append, List.length_singleton] at this
    exact this
theorem both_type {T : List Int32} {ft mt : Nat → Int32} (h1 : Rp ft T) (h2 : Rp mt T) (hok : okC T) (hl : T.length ≤ 48) (a : Int64) (n : Int32) : ∃ r T' ft' mt', P_Host_type (nI T.length) ft a n = some (r, nI T'.length, ft') ∧ P_Mod_type (nI T.length) mt a n = some (r, nI T'.length, mt') ∧ Rp ft' T' ∧ Rp mt' T' ∧ okC T' ∧ T'.length ≤ 48 := by
  unfold P_Host_type P_Mod_type P_Row_size
  rw [mod_within, Option.bind_some, Option.bind_some]
  have n1 : (1 : Int32).toInt = 1 := rfl
  have n8 : (8 : Int32).toInt = 8 := rfl
  by_cases hlo : n.toInt < 1
  · have hA : n < 1 := by rw [Int32.lt_iff_toInt_lt]; exact hlo
    have hw : wi n.toInt (1 : Int32).toInt (8 : Int32).toInt = false := by rw [Bool.eq_false_iff]; intro z; rw [wi_iff, n1] at z; omega
    rw [if_pos hA, hw, if_pos (show b2 false = 0 from rfl)]
    exact ⟨0, T, ft, mt, rfl, rfl, h1, h2, hok, hl⟩
  have hA : ¬ n < 1 := by rw [Int32.lt_iff_toInt_lt]; exact hlo
  rw [if_neg hA]
  by_cases hhi : 8 < n.toInt
  · have hB : 8 < n := by rw [Int32.lt_iff_toInt_lt]; exact hhi
    have hw : wi n.toInt (1 : Int32).toInt (8 : Int32).toInt = false := by rw [Bool.eq_false_iff]; intro z; rw [wi_iff, n8] at z; omega
    rw [if_pos hB, hw, if_pos (show b2 false = 0 from rfl)]
    exact ⟨0, T, ft, mt, rfl, rfl, h1, h2, hok, hl⟩
  have hB : ¬ 8 < n := by rw [Int32.lt_iff_toInt_lt]; exact hhi
  have hw : wi n.toInt (1 : Int32).toInt (8 : Int32).toInt = true := by rw [wi_iff, n1, n8]; omega
  have hA1 : ¬ b2 true = 0 := by decide
  rw [if_neg hB, hw, if_neg hA1]
  obtain ⟨k, hk⟩ : ∃ k : Nat, n.toInt = k := ⟨n.toInt.toNat, by omega⟩
  have hn : n = nI k := nI_of_toInt hk (by omega)
  subst hn
  have hk8 : 1 ≤ k ∧ k ≤ 8 := by omega
  rw [nI_add]
  by_cases hfit : T.length + k ≤ 48
  · have hC : nI (T.length + k) ≤ 48 := nI_le (b := 48) hfit (by omega)
    rw [if_pos hC, if_pos hC]
    obtain ⟨f', q1, q2⟩ := host_ty (a := a) (T := T ++ tyL a k) k T ft fu (by unfold fu; omega) (by omega) hfit h1 rfl
    obtain ⟨m', r1, r2⟩ := mod_ty (a := a) (T := T ++ tyL a k) k T mt fu (by unfold fu; omega) (by omega) hfit h2 rfl
    refine ⟨1, T ++ tyL a k, f', m', q1, r1, q2, r2, ?_, by rw [List.length_append, tyL_len]; omega⟩
    intro x hx
    rw [List.mem_append] at hx
    rcases hx with hx | hx
    · exact hok x hx
    · exact tyL_ok a k x hx
  · have hC : ¬ nI (T.length + k) ≤ 48 := nI_ge (a := 48) (by omega) (by omega)
    rw [if_neg hC, if_neg hC]
    exact ⟨0, T, ft, mt, rfl, rfl, h1, h2, hok, hl⟩
theorem both_put {T : List Int32} {ft mt : Nat → Int32} (h1 : Rp ft T) (h2 : Rp mt T) (hok : okC T) (hl : T.length ≤ 48) (c : Int32) : ∃ r T' ft' mt', P_Host_put (nI T.length) ft c = some (r, nI T'.length, ft') ∧ P_Mod_put (nI T.length) mt c = some (r, nI T'.length, mt') ∧ Rp ft' T' ∧ Rp mt' T' ∧ okC T' ∧ T'.length ≤ 48 := by
  unfold P_Host_put P_Mod_put
  rw [codes_within, codes_within, mod_within, mod_within, Option.bind_some, Option.bind_some, Option.bind_some, Option.bind_some]
  cases hw : wi c.toInt (0 : Int32).toInt (1114111 : Int32).toInt with
  | false =>
    rw [if_pos (show b2 false = 0 from rfl), if_pos (show b2 false = 0 from rfl)]
    exact ⟨0, T, ft, mt, rfl, rfl, h1, h2, hok, hl⟩
  | true =>
    have hA1 : ¬ b2 true = 0 := by decide
    rw [if_neg hA1, if_neg hA1]
    cases hs : wi c.toInt (55296 : Int32).toInt (57343 : Int32).toInt with
    | true =>
      rw [if_neg hA1, if_neg hA1]
      exact ⟨0, T, ft, mt, rfl, rfl, h1, h2, hok, hl⟩
    | false =>
      rw [if_pos (show b2 false = 0 from rfl), if_pos (show b2 false = 0 from rfl)]
      by_cases h48 : T.length = 48
      · rw [row_full h48, Option.bind_some, if_pos (by rw [h48]; rfl)]
        exact ⟨0, T, ft, mt, rfl, rfl, h1, h2, hok, hl⟩
      · have hB : ¬ nI T.length = 48 := by
          rw [show (48 : Int32) = nI 48 from rfl, nI_iff (by omega) (by omega)]; exact h48
        rw [row_add (by omega) (by omega), Option.bind_some, if_neg hB, gi_ok (by omega) (by omega), nI_clamp (by omega), nI_1]
        refine ⟨1, T ++ [c], _, _, by simp, by simp, h1.add c, h2.add c, ?_, by simp; omega⟩
        intro x hx
        rw [List.mem_append, List.mem_singleton] at hx
        rcases hx with hx | hx
        · exact hok x hx
        · rw [hx]; exact wi_iff.1 hw
theorem i32_cases (i : Int32) : i < 0 ∨ ∃ k : Nat, k < 2 ^ 31 ∧ i = nI k := by
  by_cases h : i.toInt < 0
  · left; rw [Int32.lt_iff_toInt_lt]; exact h
  · right
    have h2 := Int32.toInt_lt i
    exact ⟨i.toInt.toNat, by omega, nI_of_toInt (by omega) (by omega)⟩
theorem wi_neg {i : Int32} (h : i < 0) (m : Int) : wi i.toInt (0 : Int32).toInt m = false := by
  rw [Int32.lt_iff_toInt_lt] at h
  rw [Bool.eq_false_iff]
  intro z
  rw [wi_iff] at z
  omega
theorem wi_nI {k n : Nat} (hk : k < 2 ^ 31) (hn : n ≤ 100000) : wi (nI k).toInt (0 : Int32).toInt (nI n - 1).toInt = decide (k < n) := by
  have e : (nI n - 1).toInt = (n : Int) - 1 := sub_toInt (nI_toInt (by omega)) rfl (by omega) (by omega)
  rw [e, nI_toInt hk, wi_d]
  have : (0 : Int32).toInt = 0 := rfl
  rw [this]
  exact decide_eq_decide.2 (by omega)
theorem both_at {O : List Int32} {fr mr : Nat → Int32} (h1 : Rp fr O) (h2 : Rp mr O) (hl : O.length ≤ 512) (i : Int32) : ∃ v, P_Host_at (nI O.length) fr i = some v ∧ P_Mod_at (nI O.length) mr i = some v := by
  unfold P_Host_at P_Mod_at
  rw [mod_within, Option.bind_some]
  rcases i32_cases i with hi | ⟨k, hk, rfl⟩
  · rw [row_getm hi, Option.bind_some, wi_neg hi, if_pos (show b2 false = 0 from rfl)]
    exact ⟨_, rfl, rfl⟩
  · rw [row_get h1 hl (by omega) hk, Option.bind_some, wi_nI hk (by omega)]
    refine ⟨_, rfl, ?_⟩
    by_cases hkl : k < O.length
    · have hA1 : ¬ b2 true = 0 := by decide
      rw [decide_eq_true hkl, if_neg hA1, gi_ok (by omega) (by omega), nI_clamp hk, h2.get hkl (-1)]
    · rw [decide_eq_false hkl, if_pos (show b2 false = 0 from rfl), getD_out (by omega)]
theorem both_broken {n : Nat} (hn : n ≤ 49) {fr mr : Nat → Int32} (h : ∀ q, q < n → fr q = mr q) (i : Int32) : ∃ v, P_Host_broken (nI n) fr i = some v ∧ P_Mod_broken (nI n) mr i = some v := by
  unfold P_Host_broken P_Mod_broken P_Labels_rules P_Labels_has
  rw [mod_within, Option.bind_some]
  rcases i32_cases i with hi | ⟨k, hk, rfl⟩
  · rw [if_pos hi, Option.bind_some, if_pos rfl, Option.bind_some, wi_neg hi, if_pos (show b2 false = 0 from rfl)]
    exact ⟨_, rfl, rfl⟩
  · rw [if_neg (nI_pos hk), wi_nI hk (by omega)]
    by_cases hkl : k < n
    · have hA1 : ¬ b2 true = 0 := by decide
      have hA : ¬ (1 : Int32) = 0 := by decide
      rw [if_neg (nI_ge hkl (by omega)), Option.bind_some, if_neg hA, gi_ok (by omega) (by omega), nI_clamp hk, Option.bind_some, decide_eq_true hkl, if_neg hA1, gi_ok (by omega) (by omega), h k hkl]
      exact ⟨_, rfl, rfl⟩
    · rw [if_pos (nI_le (by omega) hk), Option.bind_some, if_pos rfl, Option.bind_some, decide_eq_false hkl, if_pos (show b2 false = 0 from rfl)]
      exact ⟨_, rfl, rfl⟩
theorem mod_take {T : List Int32} {mt row : Nat → Int32} (h : Rp mt T) (hl : T.length ≤ 48) : ∃ r', P_Mod_takeText (nI T.length) mt row = some (nI T.length, r') ∧ Rp r' T := by
  unfold P_Mod_takeText
  refine fl2_p (P_Mod_takeText_2 (nI T.length) mt) (fun m v r => ∃ j, m = T.length - j ∧ j ≤ T.length ∧ v = nI j ∧ Rp r (T.take j)) (fun r => ∃ r', r = some (nI T.length, r') ∧ Rp r' T) ?_ fu T.length (0 : Int32) row (by unfold fu; omega) ⟨0, rfl, by omega, rfl, Rp.nil⟩
  rintro m K v r ⟨j, hm, hj, rfl, hr⟩ ih
  unfold P_Mod_takeText_2
  by_cases hjl : T.length ≤ j
  · have ej : j = T.length := by omega
    subst ej
    rw [List.take_length] at hr
    rw [if_pos (nI_le (Nat.le_refl _) (by omega))]
    exact ⟨r, rfl, hr⟩
  · have hjl2 : j < T.length := by omega
    rw [if_neg (nI_ge (by omega) (by omega)), gi_ok (by omega) (by omega), gi_ok (by omega) (by omega), nI_1, nI_clamp (by omega), h.get hjl2 (-1)]
    refine ih (T.length - (j + 1)) _ _ (by omega) ⟨j + 1, rfl, by omega, rfl, ?_⟩
    have := hr.add (T.getD j (-1))
    have e : (T.take j).length = j := by simp; omega
    rw [e] at this
    rw [take_snoc hjl2, ← getD_get hjl2 (-1)]; exact this
theorem mod_giveRow {T : List Int32} {row res : Nat → Int32} (h : Rp row T) (hl : T.length ≤ 96) : ∃ r', P_Mod_giveRow (nI T.length) res row = some (nI T.length, r') ∧ Rp r' T := by
  unfold P_Mod_giveRow
  refine fl2_p (P_Mod_giveRow_2 (nI T.length) row) (fun m v r => ∃ j, m = T.length - j ∧ j ≤ T.length ∧ v = nI j ∧ Rp r (T.take j)) (fun r => ∃ r', r = some (nI T.length, r') ∧ Rp r' T) ?_ fu T.length (0 : Int32) res (by unfold fu; omega) ⟨0, rfl, by omega, rfl, Rp.nil⟩
  rintro m K v r ⟨j, hm, hj, rfl, hr⟩ ih
  unfold P_Mod_giveRow_2
  by_cases hjl : T.length ≤ j
  · have ej : j = T.length := by omega
    subst ej
    rw [List.take_length] at hr
    rw [if_pos (nI_le (Nat.le_refl _) (by omega))]
    exact ⟨r, rfl, hr⟩
  · have hjl2 : j < T.length := by omega
    rw [if_neg (nI_ge (by omega) (by omega)), gi_ok (by omega) (by omega), gi_ok (by omega) (by omega), nI_1, nI_clamp (by omega), h.get hjl2 (-1)]
    refine ih (T.length - (j + 1)) _ _ (by omega) ⟨j + 1, rfl, by omega, rfl, ?_⟩
    have := hr.add (T.getD j (-1))
    have e : (T.take j).length = j := by simp; omega
    rw [e] at this
    rw [take_snoc hjl2, ← getD_get hjl2 (-1)]; exact this
theorem both_pack {T : List Int32} {ft mt : Nat → Int32} (h1 : Rp ft T) (h2 : Rp mt T) (hok : okC T) (hl : T.length ≤ 48) (fres mres row placed : Nat → Int32) : ∃ O g' b' rs' mb' mg' row' pl', P_Host_pack (nI T.length) ft fres = some (nI O.length, nI O.length, g', b') ∧ P_Mod_pack (nI T.length) mt mres row placed = some (nI O.length, nI O.length, rs', mb', mg', row', pl') ∧ Rp g' O ∧ Rp mg' O ∧ O.length ≤ 512 := by
  have hp := packS_len hok
  have hb := basS_len_le T
  unfold P_Host_pack P_Mod_pack P_Row_empty P_Row_size
  obtain ⟨b', g', q1, q2⟩ := codes_write (N := 48) (N2 := 512) (o := []) (g := fres) h1 hl (by omega) (by omega) hok (by omega) Rp.nil (by simp; omega)
  obtain ⟨r', t1, t2⟩ := mod_take (row := row) h2 hl
  obtain ⟨mb, mg, pl, p1, p2⟩ := mod_pack (o := []) (g := mres) (pl := placed) t2 hok (by omega) Rp.nil (by simp; omega)
  rw [show nI ([] : List Int32).length = (0 : Int32) from rfl, List.nil_append] at q1 p1
  rw [List.nil_append] at q2 p2
  rw [Option.bind_some, q1, Option.bind_some, Option.bind_some, t1, Option.bind_some]
  simp only []
  rw [p1, Option.bind_some]
  exact ⟨packS T, _, _, _, _, _, _, _, rfl, rfl, q2, p2, by omega⟩
theorem both_compose {T : List Int32} {ft mt : Nat → Int32} (h1 : Rp ft T) (h2 : Rp mt T) (hl : T.length ≤ 48) (fres fp mres row other : Nat → Int32) : ∃ O g' np fp' rs' mg' row' o', P_Host_compose (nI T.length) ft fres fp = some (nI O.length, nI O.length, g', np, fp') ∧ P_Mod_compose (nI T.length) mt mres row other = some (nI O.length, nI O.length, rs', mg', row', o') ∧ Rp g' O ∧ Rp mg' O ∧ O.length ≤ 512 := by
  have hap : (apartL T).length ≤ 96 := by
    rw [apart_len]
    have := sum_flat (w := w1) (f := fun c => [c]) (k := 2) T (fun c _ => by have := apL_len c; simp [sumW, w1]; omega)
    simp at this
    omega
  have hcl := cmp_len_le T
  unfold P_Host_compose P_Mod_compose P_Row_size
  obtain ⟨np, fp', f', q1, q2⟩ := codes_form (N := 48) (N2 := 512) (fp := fp) (ft := fres) h1 hl (by omega) hap (by omega) (by omega)
  obtain ⟨r', t1, t2⟩ := mod_take (row := row) h2 hl
  obtain ⟨r2, o2, c1, c2⟩ := mod_compose (other := other) t2 (by omega) (by omega)
  obtain ⟨r3, g1, g2⟩ := mod_giveRow (res := mres) c2 (by omega)
  rw [q1, Option.bind_some, Option.bind_some, t1, Option.bind_some]
  simp only []
  rw [c1, Option.bind_some]
  simp only []
  rw [g1, Option.bind_some]
  exact ⟨cmpS T, _, _, _, _, _, _, _, rfl, rfl, q2, g2, by omega⟩
theorem both_unpack {T O : List Int32} {ft mt fres mres : Nat → Int32} (h1 : Rp ft T) (h2 : Rp mt T) (hok : okC T) (hl : T.length ≤ 48) (h3 : Rp fres O) (h4 : Rp mres O) (hO : O.length ≤ 512) (funp row other : Nat → Int32) (bias mb : Int32) : ∃ r O' g' us fu' b' nx rs' mb' mg' row' o', P_Host_unpack (nI T.length) ft (nI O.length) fres funp bias = some (r, nI O'.length, g', us, fu', b', nx) ∧ P_Mod_unpack (nI T.length) (nI O.length) mb mt mres row other = some (r, nI O'.length, rs', mb', mg', row', o') ∧ Rp g' O' ∧ Rp mg' O' ∧ O'.length ≤ 512 := by
  unfold P_Host_unpack P_Mod_unpack P_Row_empty P_Row_size
  obtain ⟨r', t1, t2⟩ := mod_take (row := row) h2 hl
  have hA : ¬ (1 : Int32) = 0 := by decide
  have hc := codes_read (N := 48) (N3 := 48) (f3 := funp) h1 hl (by omega) (by omega) (by omega) (by omega) (Nat.zero_le T.length) bias
  have hm := mod_unpack (other := other) t2 (by omega) (Nat.zero_le T.length) mb
  rw [List.drop_zero, show nI 0 = (0 : Int32) from rfl] at hc hm
  rw [t1, Option.bind_some]
  simp only []
  rcases hc with ⟨c1, b', n', z, g', c2⟩ | ⟨u, b', n', g', c1, c2, c3, c4⟩
  · rcases hm with ⟨m1, mb', mg', m2⟩ | ⟨u, mb', r2, mg', m1, m2, m3⟩
    · simp only [c2, m2, Option.bind_some, if_true]
      exact ⟨0, O, _, _, _, _, _, _, _, _, _, _, rfl, rfl, h3, h4, hO⟩
    · rw [c1] at m1; cases m1
  · rcases hm with ⟨m1, mb', mg', m2⟩ | ⟨u2, mb', r2, mg', m1, m2, m3⟩
    · rw [c1] at m1; cases m1
    · rw [c1] at m1
      cases m1
      obtain ⟨f', q1, q2⟩ := row_addPart (N := 512) (N2 := 48) (f := fres) (l := []) (a := 0) (b := u.length) Rp.nil c4 (by omega) c2 (by omega) (by omega) (by omega) (by simp; omega) (by omega)
      obtain ⟨r3, g1, g2⟩ := mod_giveRow (res := mres) m3 (by omega)
      rw [show nI ([] : List Int32).length = (0 : Int32) from rfl, show nI 0 = (0 : Int32) from rfl, List.length_nil, Nat.zero_add, Nat.sub_zero] at q1
      rw [List.nil_append, List.drop_zero, Nat.sub_zero, List.take_length] at q2
      simp only [c3, m2, Option.bind_some, if_neg hA, q1, g1]
      exact ⟨1, u, _, _, _, _, _, _, _, _, _, _, rfl, rfl, q2, g2, by omega⟩
