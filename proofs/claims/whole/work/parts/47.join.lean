/-! ===== joining letters and marks ===== -/
theorem ordS_cases (c : Int32) : ordS c = 0 ∨ 0 < ordS c := by
  unfold ordS
  repeat' split
  all_goals decide
theorem pjS_cases (a m : Int32) : pjS a m = 0 ∨ 0 < pjS a m := by
  by_cases h : (a, m) ∈ prL
  · obtain ⟨k, -, -, -, h⟩ := codes_parts h; exact Or.inr h
  · exact Or.inl (pjS_no h)
def freeB (o : List Int32) (k : Nat) (c : Int32) : Bool := decide (0 < ordS c) && (o.drop (k + 1)).all (fun x => decide (ordS x < ordS c))
def joinS : List Int32 → List Int32 → Option Nat → List Int32
  | [], o, _ => o
  | c :: cs, o, some k => if freeB o k c = true ∧ ¬ pjS (o.getD k (-1)) c = 0 then joinS cs (o.set k (pjS (o.getD k (-1)) c)) (some k) else joinS cs (o ++ [c]) (if ordS c = 0 then some o.length else some k)
  | c :: cs, o, none => joinS cs (o ++ [c]) (if ordS c = 0 then some o.length else none)
def stI : Option Nat → Int32
  | none => -1
  | some k => nI k
def cmpS (l : List Int32) : List Int32 := joinS (sortM (apartL l)) [] none
/-- the reference's look at what stands between -/
theorem mod_free {k10 : Int32 → Int32 → Int32 → (Nat → Int32) → Option (Int32 × (Nat → Int32) × (Nat → Int32))} {v2 v3 c : Int32} {row : Nat → Int32} {o : List Int32} (h : Rp row o) (ho : o.length ≤ 200) (X : Int32 → Option (Int32 × (Nat → Int32) × (Nat → Int32)))
    (hX : ∀ b : Bool, X (b2 b) = if b2 b = 0 then P_Mod_composeRow_112 k10 (nI o.length) v2 v3 c 0 row else gi v2 200 (Option.bind (P_Mod_pair (row v2.toNatClampNeg) c) (fun x => P_Mod_composeRow_112 k10 (nI o.length) v2 v3 c x row))) (b : Bool) (i : Nat) (hi : i ≤ o.length) :
    fl2 (P_Mod_composeRow_50 k10 (nI o.length) v2 v3 c row) fu (b2 b) (nI i) = X (b2 (b && (o.drop i).all (fun x => decide (ordS x < ordS c)))) := by
  refine fl2_p (P_Mod_composeRow_50 k10 (nI o.length) v2 v3 c row) (fun n w v => ∃ (j : Nat) (d : Bool), n = o.length - j ∧ j ≤ o.length ∧ v = nI j ∧ w = b2 d ∧ (d && (o.drop j).all (fun x => decide (ordS x < ordS c))) = (b && (o.drop i).all (fun x => decide (ordS x < ordS c)))) (fun r => r = X (b2 (b && (o.drop i).all (fun x => decide (ordS x < ordS c))))) ?_ fu (o.length - i) (b2 b) (nI i) (by unfold fu; omega) ⟨i, b, rfl, hi, rfl, rfl, rfl⟩
  rintro n K w v ⟨j, d, hn, hj, rfl, rfl, ht⟩ ih
  unfold P_Mod_composeRow_50
  rw [← ht]
  by_cases hjl : o.length ≤ j
  · have : j = o.length := by omega
    subst this
    rw [if_pos (nI_le (Nat.le_refl _) (by omega))]
    simp only [List.drop_length, List.all_nil, Bool.and_true]
    rw [hX]
  · have hlt : j < o.length := by omega
    rw [if_neg (nI_ge hlt (by omega)), nI_1]
    rw [ht]
    rw [List.drop_eq_getElem_cons hlt, List.all_cons] at ht
    cases d with
    | false =>
      rw [if_pos (show b2 false = 0 from rfl)]
      exact ih (o.length - (j + 1)) _ _ (by omega) ⟨j + 1, false, rfl, by omega, rfl, rfl, by rw [← ht]; simp⟩
    | true =>
      rw [if_neg (by decide), gi_ok (by omega) (by omega), nI_clamp (by omega), h j hlt, mod_order, Option.bind_some, mod_order, Option.bind_some]
      by_cases hx : ordS c ≤ ordS o[j]
      · rw [if_pos hx]
        refine ih (o.length - (j + 1)) _ _ (by omega) ⟨j + 1, false, rfl, by omega, rfl, rfl, ?_⟩
        rw [← ht]
        simp [not_lt_of_le32 hx]
      · rw [if_neg hx]
        refine ih (o.length - (j + 1)) _ _ (by omega) ⟨j + 1, true, rfl, by omega, rfl, rfl, ?_⟩
        rw [← ht]
        simp [lt_of_not_le32 hx]
theorem getElem_drop_head {s : List Int32} {i : Nat} {c : Int32} {cs : List Int32} (h : s.drop i = c :: cs) : ∃ hi : i < s.length, s[i] = c ∧ s.drop (i + 1) = cs := by
  have hi : i < s.length := by
    have := congrArg List.length h
    simp at this; omega
  rw [List.drop_eq_getElem_cons hi] at h
  injection h with h1 h2
  exact ⟨hi, h1, h2⟩
/-- the reference joins -/
theorem mod_join {s : List Int32} {other : Nat → Int32} (hs : Rp other s) (hsl : s.length ≤ 200) : ∀ (cs o : List Int32) (st : Option Nat) (i : Nat) (row : Nat → Int32) (fuel : Nat), cs.length < fuel → s.drop i = cs → i ≤ s.length → o.length ≤ i → (∀ k, st = some k → k < o.length) → Rp row o →
    ∃ f', fl4 (P_Mod_composeRow_10 (nI s.length) other) fuel (nI o.length) (stI st) (nI i) row = some (nI (joinS cs o st).length, f', other) ∧ Rp f' (joinS cs o st) := by
  intro cs
  induction cs with
  | nil =>
    intro o st i row fuel hfu hd hi ho hst hr
    obtain ⟨k, rfl⟩ : ∃ k, fuel = k + 1 := ⟨fuel - 1, by simp at hfu; omega⟩
    rw [fl4_s]
    unfold P_Mod_composeRow_10
    have : s.length ≤ i := by
      have := congrArg List.length hd
      simp at this; omega
    rw [if_pos (nI_le this (by omega))]
    refine ⟨row, ?_, ?_⟩
    · cases st <;> rfl
    · cases st <;> exact hr
  | cons c cs ih =>
    intro o st i row fuel hfu hd hi ho hst hr
    obtain ⟨k, rfl⟩ : ∃ k, fuel = k + 1 := ⟨fuel - 1, by simp at hfu; omega⟩
    obtain ⟨hlt, hc, hd2⟩ := getElem_drop_head hd
    rw [fl4_s]
    generalize hK : fl4 (P_Mod_composeRow_10 (nI s.length) other) k = K
    have app : ∀ st', (∀ q, st' = some q → q < (o ++ [c]).length) → ∃ f', K (nI o.length + 1) (stI st') (nI i + 1) (upd row (nI o.length).toNatClampNeg c) = some (nI (joinS cs (o ++ [c]) st').length, f', other) ∧ Rp f' (joinS cs (o ++ [c]) st') := by
      intro st' hst'
      rw [nI_1, nI_1, nI_clamp (by omega), ← hK]
      have := ih (o ++ [c]) st' (i + 1) (upd row o.length c) k (by simp at hfu; omega) hd2 (by omega) (by simp; omega) hst' (hr.add c)
      simpa using this
    have apf : ∀ st0 : Option Nat, (∀ q, st0 = some q → q < o.length) → ∃ f', P_Mod_composeRow_112 K (nI o.length) (stI st0) (nI i) c 0 row = some (nI (joinS cs (o ++ [c]) (if ordS c = 0 then some o.length else st0)).length, f', other) ∧ Rp f' (joinS cs (o ++ [c]) (if ordS c = 0 then some o.length else st0)) := by
      intro st0 h0
      unfold P_Mod_composeRow_112 P_Mod_composeRow_143
      rw [if_pos (by decide), mod_order, Option.bind_some]
      by_cases hz : ordS c = 0
      · rw [if_pos hz, if_pos hz, gi_ok (by omega) (by omega)]
        have := app (some o.length) (by intro q e; cases e; simp)
        exact this
      · rw [if_neg hz, if_neg hz, gi_ok (by omega) (by omega)]
        exact app st0 (by intro q e; have := h0 q e; simp; omega)
    unfold P_Mod_composeRow_10
    rw [if_neg (nI_ge hlt (by omega)), gi_ok (by omega) (by omega), nI_clamp (by omega), hs i hlt, hc]
    cases st with
    | none =>
      rw [if_pos (by decide)]
      have e0 : stI none + 1 = nI 0 := by decide
      have eb : (0 : Int32) = b2 false := rfl
      rw [e0]
      have := mod_free (k10 := K) (v2 := stI none) (v3 := nI i) (c := c) hr (by omega) (fun z => if z = 0 then P_Mod_composeRow_112 K (nI o.length) (stI none) (nI i) c 0 row else gi (stI none) 200 (Option.bind (P_Mod_pair (row (stI none).toNatClampNeg) c) (fun x => P_Mod_composeRow_112 K (nI o.length) (stI none) (nI i) c x row))) (fun b => rfl) false 0 (by omega)
      rw [eb, this, Bool.false_and, if_pos (show b2 false = 0 from rfl)]
      exact apf none (fun q e => by cases e)
    | some q =>
      have hq := hst q rfl
      have e1 : stI (some q) = nI q := rfl
      have fr := fun b => mod_free (k10 := K) (v2 := nI q) (v3 := nI i) (c := c) hr (by omega) (fun z => if z = 0 then P_Mod_composeRow_112 K (nI o.length) (nI q) (nI i) c 0 row else gi (nI q) 200 (Option.bind (P_Mod_pair (row (nI q).toNatClampNeg) c) (fun x => P_Mod_composeRow_112 K (nI o.length) (nI q) (nI i) c x row))) (fun b => rfl) b (q + 1) (by omega)
      have key : (if ordS c ≤ 0 then fl2 (P_Mod_composeRow_50 K (nI o.length) (nI q) (nI i) c row) fu 0 (nI (q + 1)) else fl2 (P_Mod_composeRow_50 K (nI o.length) (nI q) (nI i) c row) fu 1 (nI (q + 1))) = (if b2 (freeB o q c) = 0 then P_Mod_composeRow_112 K (nI o.length) (nI q) (nI i) c 0 row else gi (nI q) 200 (Option.bind (P_Mod_pair (row (nI q).toNatClampNeg) c) (fun x => P_Mod_composeRow_112 K (nI o.length) (nI q) (nI i) c x row))) := by
        unfold freeB
        by_cases h0 : ordS c ≤ 0
        · have h1 : ¬ 0 < ordS c := not_lt_of_le32 h0
          rw [if_pos h0]
          have := fr false
          have eb : b2 false = 0 := rfl
          rw [eb] at this
          rw [this]
          simp [h1]
        · have h1 : 0 < ordS c := lt_of_not_le32 h0
          rw [if_neg h0]
          have := fr true
          have eb : b2 true = 1 := rfl
          rw [eb] at this
          rw [this]
          simp [h1]
      rw [e1, if_neg (nI_pos (by omega)), mod_order, Option.bind_some, nI_1, key]
      cases hf : freeB o q c with
      | false =>
        rw [if_pos (show b2 false = 0 from rfl)]
        have := apf (some q) (fun z e => by cases e; exact hq)
        rw [e1] at this
        have ej : joinS (c :: cs) o (some q) = joinS cs (o ++ [c]) (if ordS c = 0 then some o.length else some q) := by
          simp only [joinS]
          rw [if_neg (by rw [hf]; simp)]
        rw [ej]; exact this
      | true =>
        rw [if_neg (by decide), gi_ok (by omega) (by omega), nI_clamp (by omega), mod_pair, Option.bind_some, hr.get hq (-1)]
        rcases pjS_cases (o.getD q (-1)) c with hp | hp
        · have ej : joinS (c :: cs) o (some q) = joinS cs (o ++ [c]) (if ordS c = 0 then some o.length else some q) := by
            simp only [joinS]
            rw [if_neg (fun z => z.2 hp)]
          have := apf (some q) (fun z e => by cases e; exact hq)
          rw [e1] at this
          rw [ej, hp]; exact this
        · have hne : ¬ pjS (o.getD q (-1)) c = 0 := by
            intro z; rw [z] at hp; exact absurd hp (by decide)
          have ej : joinS (c :: cs) o (some q) = joinS cs (o.set q (pjS (o.getD q (-1)) c)) (some q) := by
            simp only [joinS]
            rw [if_pos ⟨hf, hne⟩]
          unfold P_Mod_composeRow_112
          rw [if_neg (fun z => not_lt_of_le32 z hp), gi_ok (by omega) (by omega), nI_clamp (by omega), nI_1, ← hK, ej]
          have := ih (o.set q (pjS (o.getD q (-1)) c)) (some q) (i + 1) (upd row q (pjS (o.getD q (-1)) c)) k (by simp at hfu; omega) hd2 (by omega) (by simp; omega) (by intro z e; cases e; simpa using hq) (hr.set q _)
          rw [List.length_set] at this
          exact this
theorem mod_compose {l : List Int32} {row other : Nat → Int32} (h : Rp row l) (hl : l.length ≤ 200) (hfit : (apartL l).length ≤ 200) : ∃ r' o', P_Mod_composeRow (nI l.length) row other = some (nI (cmpS l).length, r', o') ∧ Rp r' (cmpS l) := by
  unfold P_Mod_composeRow
  obtain ⟨f', e1, h1⟩ := mod_apart (other := other) h hl hfit
  rw [e1, Option.bind_some]
  have hlen : (sortM (apartL l)).length = (apartL l).length := by
    unfold sortM
    rw [List.length_reverse, sortR_len]; simp
  obtain ⟨r', e2, h2⟩ := mod_join h1 (by omega) (sortM (apartL l)) [] none 0 row fu (by unfold fu; omega) (by simp) (by omega) (by simp) (fun k e => by cases e) Rp.nil
  rw [hlen] at e2
  exact ⟨r', f', e2, h2⟩
/-! the class looks at the last code alone: the marks are in order -/
def chainB : Int32 → List Int32 → Prop
  | _, [] => True
  | b, c :: cs => (0 < ordS c → b ≤ ordS c) ∧ chainB (ordS c) cs
def endB : Int32 → List Int32 → Int32
  | b, [] => b
  | _, c :: cs => endB (ordS c) cs
theorem chain_snoc : ∀ (l : List Int32) (b c : Int32), chainB b (l ++ [c]) ↔ chainB b l ∧ (0 < ordS c → endB b l ≤ ordS c)
  | [], b, c => by simp [chainB, endB]
  | x :: xs, b, c => by
    simp only [List.cons_append, chainB, endB, chain_snoc xs (ordS x) c, and_assoc]
theorem endB_snoc : ∀ (l : List Int32) (b c : Int32), endB b (l ++ [c]) = ordS c
  | [], b, c => rfl
  | x :: xs, b, c => endB_snoc xs (ordS x) c
def RS : List Int32 → Prop
  | [] => True
  | [_] => True
  | x :: y :: t => (0 < ordS x → ordS y ≤ ordS x) ∧ RS (y :: t)
theorem le_refl32 (a : Int32) : a ≤ a := by rw [Int32.le_iff_toInt_le]; omega
theorem le_of_lt32 {a b : Int32} (h : a < b) : a ≤ b := by
  rw [Int32.le_iff_toInt_le]; rw [Int32.lt_iff_toInt_lt] at h; omega
theorem le_trans32 {a b c : Int32} (h : a ≤ b) (h2 : b ≤ c) : a ≤ c := by
  rw [Int32.le_iff_toInt_le] at *; omega
theorem RS_head {c x : Int32} {xs : List Int32} (h : RS (x :: xs)) : ∀ y t, insM c xs = y :: t → (0 < ordS c ∧ ordS c < ordS x) → 0 < ordS x → ordS y ≤ ordS x := by
  intro y t e hc _
  cases xs with
  | nil => simp only [insM, List.cons.injEq] at e; rw [← e.1]; exact le_of_lt32 hc.2
  | cons z zs =>
    simp only [insM] at e
    split at e
    · simp only [List.cons.injEq] at e; rw [← e.1]; exact h.1 (by assumption)
    · simp only [List.cons.injEq] at e; rw [← e.1]; exact le_of_lt32 hc.2
theorem RS_ins (c : Int32) : ∀ rs : List Int32, RS rs → RS (insM c rs)
  | [], _ => trivial
  | x :: xs, h => by
    have hx : RS xs := by cases xs with | nil => trivial | cons y t => exact h.2
    simp only [insM]
    by_cases hc : 0 < ordS c ∧ ordS c < ordS x
    · rw [if_pos hc]
      have h1 := RS_ins c xs hx
      have h2 := RS_head (c := c) h
      cases he : insM c xs with
      | nil => trivial
      | cons y t => rw [he] at h1; exact ⟨h2 y t he hc, h1⟩
    · rw [if_neg hc]
      refine ⟨fun h0 => ?_, h⟩
      rw [Int32.le_iff_toInt_le]
      have : ¬ ordS c < ordS x := fun q => hc ⟨h0, q⟩
      rw [Int32.lt_iff_toInt_lt] at this
      omega
theorem RS_sort : ∀ (l rs : List Int32), RS rs → RS (sortR rs l)
  | [], _, h => h
  | c :: cs, rs, h => RS_sort cs (insM c rs) (RS_ins c rs h)
theorem RS_chain : ∀ rs : List Int32, RS rs → chainB 0 rs.reverse ∧ (∀ x xs, rs = x :: xs → endB 0 rs.reverse = ordS x)
  | [], _ => ⟨trivial, fun x xs h => by cases h⟩
  | x :: xs, h => by
    have hx : RS xs := by cases xs with | nil => trivial | cons y t => exact h.2
    obtain ⟨h1, h2⟩ := RS_chain xs hx
    refine ⟨?_, ?_⟩
    · rw [List.reverse_cons, chain_snoc]
      refine ⟨h1, fun h0 => ?_⟩
      cases xs with
      | nil => exact le_of_lt32 h0
      | cons y t => rw [h2 y t rfl]; exact h.1 h0
    · intro z zs e
      cases e
      rw [List.reverse_cons, endB_snoc]
theorem sortM_chain (l : List Int32) : chainB 0 (sortM l) := (RS_chain _ (RS_sort l [] trivial)).1
/-- what stands behind the starter: marks, in order, none above b -/
def JI (o : List Int32) (st : Option Nat) (b : Int32) : Prop := match st with
  | none => True
  | some k => k < o.length ∧ (∀ x ∈ o.drop (k + 1), 0 < ordS x ∧ ordS x ≤ b) ∧ (o.drop (k + 1)).Pairwise (fun x y => ordS x ≤ ordS y)
theorem pw_last : ∀ (D : List Int32) (z : Int32), (D ++ [z]).Pairwise (fun x y => ordS x ≤ ordS y) → ∀ x ∈ D ++ [z], ordS x ≤ ordS z := by
  intro D z h x hx
  rw [List.pairwise_append] at h
  rcases List.mem_append.mp hx with hx | hx
  · exact h.2.2 x hx z (by simp)
  · rw [List.mem_singleton] at hx; rw [hx]; exact le_refl32 _
theorem getD_last (T D : List Int32) (z : Int32) : (T ++ (D ++ [z])).getD ((T ++ (D ++ [z])).length - 1) (-1) = z := by
  rw [← List.append_assoc, List.getD_eq_getElem?_getD]
  simp
theorem free_last {o : List Int32} {k : Nat} {b c : Int32} (h : JI o (some k) b) : freeB o k c = decide ((if o.length = k + 1 then 0 else ordS (o.getD (o.length - 1) (-1))) < ordS c) := by
  obtain ⟨hk, h1, h2⟩ := h
  unfold freeB
  by_cases hl : o.length = k + 1
  · rw [if_pos hl]
    have : o.drop (k + 1) = [] := by rw [← hl]; simp
    rw [this]; simp
  · rw [if_neg hl]
    have hne : o.drop (k + 1) ≠ [] := by
      intro q
      have := congrArg List.length q
      simp at this; omega
    obtain ⟨D, z, hD⟩ : ∃ D z, o.drop (k + 1) = D ++ [z] := ⟨_, _, (List.dropLast_concat_getLast hne).symm⟩
    have hz : o.getD (o.length - 1) (-1) = z := by
      have e1 : o = o.take (k + 1) ++ (D ++ [z]) := by rw [← hD, List.take_append_drop]
      have e2 := getD_last (o.take (k + 1)) D z
      rw [← e1] at e2
      exact e2
    rw [hz, hD]
    rw [hD] at h1 h2
    have hl2 := pw_last D z h2
    have hz0 := (h1 z (by simp)).1
    rw [Bool.eq_iff_iff]
    simp only [Bool.and_eq_true, decide_eq_true_eq, List.all_eq_true]
    constructor
    · intro q; exact q.2 z (by simp)
    · intro q
      refine ⟨?_, fun x hx => ?_⟩
      · rw [Int32.lt_iff_toInt_lt] at *; omega
      · have := hl2 x hx
        rw [Int32.lt_iff_toInt_lt] at *
        rw [Int32.le_iff_toInt_le] at this; omega
theorem ne0_pos {c : Int32} (h : ¬ ordS c = 0) : 0 < ordS c := (ordS_cases c).resolve_left h
theorem JI_app {o : List Int32} {st : Option Nat} {b c : Int32} (h : JI o st b) (hb : 0 < ordS c → b ≤ ordS c) : JI (o ++ [c]) (if ordS c = 0 then some o.length else st) (ordS c) := by
  by_cases hz : ordS c = 0
  · rw [if_pos hz]
    refine ⟨by simp, ?_, ?_⟩
    · intro x hx; simp at hx
    · simp
  · rw [if_neg hz]
    have hp := ne0_pos hz
    cases st with
    | none => trivial
    | some k =>
      obtain ⟨hk, h1, h2⟩ := h
      have e : (o ++ [c]).drop (k + 1) = o.drop (k + 1) ++ [c] := by
        rw [List.drop_append_of_le_length (by omega)]
      refine ⟨by simp; omega, ?_, ?_⟩
      · intro x hx
        rw [e] at hx
        rcases List.mem_append.mp hx with hx | hx
        · exact ⟨(h1 x hx).1, le_trans32 (h1 x hx).2 (hb hp)⟩
        · rw [List.mem_singleton] at hx; rw [hx]; exact ⟨hp, le_refl32 _⟩
      · rw [e, List.pairwise_append]
        refine ⟨h2, by simp, fun x hx y hy => ?_⟩
        rw [List.mem_singleton] at hy
        rw [hy]; exact le_trans32 (h1 x hx).2 (hb hp)
theorem JI_set {o : List Int32} {k : Nat} {b c x : Int32} (h : JI o (some k) b) (hb : b ≤ ordS c) : JI (o.set k x) (some k) (ordS c) := by
  obtain ⟨hk, h1, h2⟩ := h
  have e : (o.set k x).drop (k + 1) = o.drop (k + 1) := by
    rw [List.drop_set_of_lt (by omega)]
  refine ⟨by simpa using hk, ?_, ?_⟩
  · rw [e]; exact fun z hz => ⟨(h1 z hz).1, le_trans32 (h1 z hz).2 hb⟩
  · rw [e]; exact h2
theorem neg1_no (c : Int32) : ((-1 : Int32), c) ∉ prL := by
  intro h
  rcases prL_cases h with h | h | h | h | h | h | h | h | h | h | h | h | h | h | h | h | h | h <;> exact absurd h.1 (by decide)
/-- the class joins -/
theorem codes_join {s : List Int32} {fp : Nat → Int32} {N : Nat} (hs : Rp fp s) (hsl : s.length ≤ 96) (hN : 96 ≤ N) (hN2 : N < 90000) : ∀ (cs o : List Int32) (st : Option Nat) (b : Int32) (i : Nat) (ft : Nat → Int32) (fuel : Nat), cs.length < fuel → s.drop i = cs → i ≤ s.length → o.length ≤ i → JI o st b → chainB b cs → Rp ft o →
    ∃ f', fl4 (P_Composer_join_8 N (nI s.length) fp) fuel (stI st) (nI i) (nI o.length) ft = some (nI (joinS cs o st).length, f') ∧ Rp f' (joinS cs o st) := by
  intro cs
  induction cs with
  | nil =>
    intro o st b i ft fuel hfu hd hi ho hJ hch hr
    obtain ⟨k, rfl⟩ : ∃ k, fuel = k + 1 := ⟨fuel - 1, by simp at hfu; omega⟩
    rw [fl4_s]
    unfold P_Composer_join_8 P_Row_size
    have : s.length ≤ i := by
      have := congrArg List.length hd
      simp at this; omega
    rw [Option.bind_some, if_pos (nI_le this (by omega))]
    refine ⟨ft, ?_, ?_⟩
    · cases st <;> rfl
    · cases st <;> exact hr
  | cons c cs ih =>
    intro o st b i ft fuel hfu hd hi ho hJ hch hr
    obtain ⟨k, rfl⟩ : ∃ k, fuel = k + 1 := ⟨fuel - 1, by simp at hfu; omega⟩
    obtain ⟨hlt, hc, hd2⟩ := getElem_drop_head hd
    rw [fl4_s]
    generalize hK : fl4 (P_Composer_join_8 N (nI s.length) fp) k = K
    -- a code that is put behind
    have app : ∃ f', P_Composer_join_86 N K (stI st) (nI i) c (ordS c) (-1) (nI o.length) ft = some (nI (joinS cs (o ++ [c]) (if ordS c = 0 then some o.length else st)).length, f') ∧ Rp f' (joinS cs (o ++ [c]) (if ordS c = 0 then some o.length else st)) := by
      have hj := JI_app hJ hch.1
      have go := ih (o ++ [c]) (if ordS c = 0 then some o.length else st) (ordS c) (i + 1) (upd ft o.length c) k (by simp at hfu; omega) hd2 (by omega) (by simp; omega) hj hch.2 (hr.add c)
      unfold P_Composer_join_86 P_Row_size
      rw [if_pos rfl, row_add (by omega) (by omega), Option.bind_some, Option.bind_some]
      have e1 : (nI (o.length + 1) - 1) = nI o.length := nI_pred _
      simp only []
      by_cases hz : ordS c = 0
      · rw [if_pos (by rw [hz]; decide), e1, nI_1, ← hK]
        rw [if_pos hz] at go ⊢
        simpa [stI] using go
      · have hp := ne0_pos hz
        rw [if_neg (fun q => not_lt_of_le32 q hp), nI_1, ← hK]
        rw [if_neg hz] at go ⊢
        simpa using go
    unfold P_Composer_join_8 P_Row_size
    rw [Option.bind_some, if_neg (nI_ge hlt (by omega)), row_get hs (by omega) (by omega) (by omega), Option.bind_some, getD_get hlt, hc, codes_order, Option.bind_some, Option.bind_some]
    cases st with
    | none =>
      have ej : joinS (c :: cs) o none = joinS cs (o ++ [c]) (if ordS c = 0 then some o.length else none) := rfl
      rw [ej]
      have h63 : ∀ s0, P_Composer_join_63 N K (stI none) (nI i) c (ordS c) s0 (nI o.length) ft = P_Composer_join_86 N K (stI none) (nI i) c (ordS c) (-1) (nI o.length) ft := by
        intro s0
        unfold P_Composer_join_63
        have eg : P_Row_get N (nI o.length) ft (stI none) = some (-1) := row_getm (by decide)
        rw [eg, Option.bind_some, codes_parts_no (neg1_no c), Option.bind_some]
        split <;> rfl
      by_cases hb : nI o.length - 1 = stI none
      · rw [if_pos hb, h63]; exact app
      · rw [if_neg hb, Option.bind_some]
        cases ol : o.length with
        | zero => exact absurd (by rw [ol]; decide) hb
        | succ m =>
          rw [ol] at app h63
          have em : nI (m + 1) - 1 = nI m := nI_pred m
          have hg := row_get (N := N) (k := m) hr (by omega) (by omega) (by omega)
          rw [ol] at hg
          rw [em, hg, Option.bind_some, codes_order, Option.bind_some, h63]
          exact app
    | some q =>
      have hq := hJ.1
      have e1 : stI (some q) = nI q := rfl
      have eo : nI o.length - 1 = nI (o.length - 1) := by
        have : o.length = (o.length - 1) + 1 := by omega
        rw [this, nI_pred]; simp
      have hbf : (if nI o.length - 1 = nI q then P_Composer_join_63 N K (nI q) (nI i) c (ordS c) 0 (nI o.length) ft else Option.bind (some (nI o.length)) (fun x52 => Option.bind (P_Row_get N (nI o.length) ft (x52 - 1)) (fun x57 => Option.bind (P_Codes_order x57) (fun x60 => P_Composer_join_63 N K (nI q) (nI i) c (ordS c) x60 (nI o.length) ft)))) = P_Composer_join_63 N K (nI q) (nI i) c (ordS c) (if o.length = q + 1 then 0 else ordS (o.getD (o.length - 1) (-1))) (nI o.length) ft := by
        by_cases hl : o.length = q + 1
        · rw [if_pos (by rw [eo, hl]; simp), if_pos hl]
        · rw [if_neg (by rw [eo, nI_eq (by omega) (by omega)]; omega), if_neg hl, Option.bind_some, eo, row_get hr (by omega) (by omega) (by omega), Option.bind_some, codes_order, Option.bind_some]
      rw [e1, hbf]
      have hfree := free_last (c := c) hJ
      generalize (if o.length = q + 1 then (0 : Int32) else ordS (o.getD (o.length - 1) (-1))) = bf at *
      unfold P_Composer_join_63
      rw [e1] at app
      by_cases hle : ordS c ≤ bf
      · rw [if_pos hle]
        have hf : freeB o q c = false := by rw [hfree]; simp [not_lt_of_le32 hle]
        have ej : joinS (c :: cs) o (some q) = joinS cs (o ++ [c]) (if ordS c = 0 then some o.length else some q) := by
          simp only [joinS]
          rw [if_neg (by rw [hf]; simp)]
        rw [ej]; exact app
      · rw [if_neg hle, row_get hr (by omega) (by omega) (by omega), Option.bind_some]
        have hf : freeB o q c = true := by rw [hfree]; simp [lt_of_not_le32 hle]
        by_cases hp : (o.getD q (-1), c) ∈ prL
        · obtain ⟨m, hm, e2, e3, e4⟩ := codes_parts hp
          have hne : ¬ pjS (o.getD q (-1)) c = 0 := by
            intro z; rw [z] at e4; exact absurd e4 (by decide)
          have ej : joinS (c :: cs) o (some q) = joinS cs (o.set q (pjS (o.getD q (-1)) c)) (some q) := by
            simp only [joinS]
            rw [if_pos ⟨hf, hne⟩]
          rw [e2, Option.bind_some]
          unfold P_Composer_join_86
          have hm1 : ¬ nI m = -1 := by
            intro z
            have := nI_pos (n := m) (by omega)
            rw [z] at this
            exact this (by decide)
          rw [if_neg hm1, gi_ok hm (by decide), nI_clamp (by omega), row_set (by omega) (by omega) hq, Option.bind_some, nI_1, ← hK, ej, ← e3]
          have h0 : 0 < ordS c := by
            unfold freeB at hf
            simp only [Bool.and_eq_true, decide_eq_true_eq] at hf
            exact hf.1
          have := ih (o.set q (pjS (o.getD q (-1)) c)) (some q) (ordS c) (i + 1) (upd ft q (pjS (o.getD q (-1)) c)) k (by simp at hfu; omega) hd2 (by omega) (by simp; omega) (JI_set hJ (hch.1 h0)) hch.2 (hr.set q _)
          rw [List.length_set] at this
          exact this
        · have ej : joinS (c :: cs) o (some q) = joinS cs (o ++ [c]) (if ordS c = 0 then some o.length else some q) := by
            simp only [joinS]
            rw [if_neg (fun z => z.2 (pjS_no hp))]
          rw [codes_parts_no hp, Option.bind_some, ej]; exact app
theorem codes_form {N N2 : Nat} {f fp ft : Nat → Int32} {l : List Int32} (h : Rp f l) (hN : l.length ≤ N) (hN2 : N < 90000) (hfit : (apartL l).length ≤ 96) (hM : 96 ≤ N2) (hM2 : N2 < 90000) : ∃ np fp' f', P_Composer_form N N2 fp (nI l.length) f ft = some (np, fp', nI (cmpS l).length, f') ∧ Rp f' (cmpS l) := by
  unfold P_Composer_form
  obtain ⟨f1, e1, h1⟩ := codes_apart (fp := fp) h hN hN2 hfit
  obtain ⟨f2, e2, h2⟩ := codes_sort h1 hfit
  have hlen : (sortM (apartL l)).length = (apartL l).length := by
    unfold sortM
    rw [List.length_reverse, sortR_len]; simp
  obtain ⟨f3, e3, h3⟩ := codes_join (N := N2) h2 (by omega) hM hM2 (sortM (apartL l)) [] none 0 0 ft fu (by unfold fu; omega) (by simp) (by omega) (by simp) trivial (sortM_chain _) Rp.nil
  rw [hlen] at e3
  rw [e1, Option.bind_some]
  simp only []
  rw [e2, Option.bind_some]
  unfold P_Composer_join P_Row_empty
  rw [Option.bind_some]
  have e3' : fl4 (P_Composer_join_8 N2 (nI (apartL l).length) f2) fu (-1) 0 0 ft = some (nI (joinS (sortM (apartL l)) [] none).length, f3) := e3
  rw [e3', Option.bind_some]
  exact ⟨_, _, f3, rfl, h3⟩
