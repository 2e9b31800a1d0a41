/-! ===== what was unpacked is packed again into no more ===== -/
theorem rd_len (b : Nat) : ∀ (ds : List Int32) (i w j i' : Nat) (rest : List Int32), rdN b ds i w j = some (i', rest) → ∃ q, i' = i + q * w ∧ ∀ f, (dgS b f q j).length + rest.length ≤ ds.length
  | [], i, w, j, i', rest, h => by simp [rdN] at h
  | c :: cs, i, w, j, i', rest, h => by
    have hd := dgN_le c
    have ht := thN_rng b j
    simp only [rdN] at h
    split at h
    · cases h
    rename_i hd36
    split at h
    · cases h
    split at h
    · rename_i hlt
      cases h
      refine ⟨dgN c, rfl, fun f => ?_⟩
      cases f with
      | zero => simp [dgS]
      | succ f => simp only [dgS]; rw [if_pos hlt]; simp; omega
    rename_i hge
    split at h
    · cases h
    · obtain ⟨q', h1, h2⟩ := rd_len b cs _ _ _ _ _ h
      have hsp := rdN_spec b cs _ _ _ _ _ h
      refine ⟨dgN c + q' * (36 - thN b j), ?_, fun f => ?_⟩
      · rw [h1, Nat.add_mul, Nat.mul_assoc, Nat.mul_comm (36 - thN b j) w]; omega
      · cases f with
        | zero => simp [dgS]; omega
        | succ f =>
          have e : (dgN c + q' * (36 - thN b j) - thN b j) / (36 - thN b j) = q' := by
            have : dgN c + q' * (36 - thN b j) - thN b j = (dgN c - thN b j) + q' * (36 - thN b j) := by omega
            rw [this, Nat.add_mul_div_right _ _ (by omega), Nat.div_eq_of_lt (by omega)]; omega
          have hnl : ¬ dgN c + q' * (36 - thN b j) < thN b j := by omega
          simp only [dgS]
          rw [if_neg hnl, e]
          have := h2 f
          simp only [List.length_cons]; omega
/-! keeping some places of a row -/
def kN (G : Nat → Bool) : Nat → Nat
  | 0 => 0
  | m + 1 => kN G m + (if G m = true then 0 else 1)
theorem hN_kN (l : List Int32) (n i : Nat) : ∀ m, hN l n i m = kN (Gt l n i) m
  | 0 => rfl
  | m + 1 => by simp only [hN, kN, hN_kN l n i m]
theorem kN_mono (G : Nat → Bool) : ∀ (d k : Nat), kN G k ≤ kN G (k + d)
  | 0, k => Nat.le_refl _
  | d + 1, k => by
    have := kN_mono G d k
    show kN G k ≤ kN G (k + d) + _
    omega
theorem kN_mon {G : Nat → Bool} {a b : Nat} (h : a ≤ b) : kN G a ≤ kN G b := by
  have := kN_mono G (b - a) a
  rwa [show a + (b - a) = b by omega] at this
theorem kN_congr {G H : Nat → Bool} : ∀ m, (∀ p, p < m → G p = H p) → kN G m = kN H m
  | 0, _ => rfl
  | m + 1, h => by simp only [kN, h m (by omega), kN_congr m (fun p hp => h p (by omega))]
theorem kN_find {G : Nat → Bool} : ∀ (m i : Nat), i ≤ kN G m → ∃ I, I ≤ m ∧ kN G I = i ∧ (I = 0 ∨ ∃ k, I = k + 1 ∧ k < m ∧ G k = false)
  | 0, i, h => ⟨0, Nat.le_refl _, by simp only [kN] at *; omega, Or.inl rfl⟩
  | m + 1, i, h => by
    by_cases z : i ≤ kN G m
    · obtain ⟨I, h1, h2, h3⟩ := kN_find m i z
      refine ⟨I, by omega, h2, ?_⟩
      rcases h3 with h3 | ⟨k, k1, k2, k3⟩
      · exact Or.inl h3
      · exact Or.inr ⟨k, k1, by omega, k3⟩
    · simp only [kN] at h
      cases hG : G m with
      | true => rw [hG] at h; simp at h; omega
      | false =>
        rw [hG] at h
        refine ⟨m + 1, Nat.le_refl _, ?_, Or.inr ⟨m, rfl, by omega, hG⟩⟩
        simp only [kN, hG]
        simp at h ⊢
        omega
def KP (l : List Int32) (G : Nat → Bool) (out : List Int32) : Prop := kN G l.length = out.length ∧ ∀ p, p < l.length → G p = false → out.getD (kN G p) (-1) = l.getD p (-1)
theorem kN_lt {G : Nat → Bool} {p k : Nat} (h : p < k) (hG : G p = false) : kN G p < kN G k := by
  have h1 := kN_mon (G := G) (show p + 1 ≤ k by omega)
  simp only [kN, hG] at h1
  simp at h1; omega
theorem insA_get {out : List Int32} {pos : Nat} (hp : pos ≤ out.length) (c : Int32) (q : Nat) : (insA out pos c).getD q (-1) = if q < pos then out.getD q (-1) else if q = pos then c else out.getD (q - 1) (-1) := by
  unfold insA
  have hl : (out.take pos).length = pos := by simp; omega
  by_cases h1 : q < pos
  · rw [if_pos h1]
    simp only [List.getD_eq_getElem?_getD]
    rw [List.getElem?_append_left (by omega), List.getElem?_take_of_lt h1]
  · rw [if_neg h1]
    simp only [List.getD_eq_getElem?_getD]
    rw [List.getElem?_append_right (by omega), hl]
    by_cases h2 : q = pos
    · rw [if_pos h2, h2]; simp
    · rw [if_neg h2]
      obtain ⟨d, rfl⟩ : ∃ d, q = pos + 1 + d := ⟨q - pos - 1, by omega⟩
      rw [show pos + 1 + d - pos = d + 1 by omega, List.getElem?_cons_succ, List.getElem?_drop, show pos + 1 + d - 1 = pos + d by omega]
/-- one place less -/
theorem KP_less {l out : List Int32} {G G2 : Nat → Bool} {pos k : Nat} {c : Int32} (hp : pos ≤ out.length) (hk : k < l.length) (hGk : G k = false) (hpos : kN G k = pos) (hG2 : ∀ p, p < l.length → G2 p = (G p || decide (p = k))) (h : KP l G (insA out pos c)) : KP l G2 out ∧ kN G2 k = pos := by
  have hkn : ∀ m, m ≤ l.length → kN G2 m = kN G m - (if k < m then 1 else 0) := by
    intro m
    induction m with
    | zero => intro _; rfl
    | succ m ih =>
      intro hm
      simp only [kN, ih (by omega), hG2 m (by omega)]
      by_cases e : m = k
      · subst e
        rw [hGk]; simp
      · simp only [e, decide_false, Bool.or_false]
        by_cases z : k < m
        · have h1 := kN_mon (G := G) (show k + 1 ≤ m by omega)
          simp only [kN, hGk] at h1
          simp at h1
          have z2 : k < m + 1 := by omega
          simp only [if_pos z, if_pos z2]
          split <;> omega
        · have z2 : ¬ k < m + 1 := by omega
          simp only [if_neg z, if_neg z2]; omega
  obtain ⟨h1, h2⟩ := h
  rw [insA_len c hp] at h1
  refine ⟨⟨?_, ?_⟩, ?_⟩
  · rw [hkn _ (Nat.le_refl _), if_pos hk]; omega
  · intro p hpl hp2
    rw [hG2 p hpl, Bool.or_eq_false_iff, decide_eq_false_iff_not] at hp2
    have h3 := h2 p hpl hp2.1
    rw [insA_get hp] at h3
    rw [hkn p (by omega)]
    by_cases z : k < p
    · have h4 := kN_lt z hGk
      rw [if_neg (by omega), if_neg (by omega)] at h3
      rw [if_pos z]; exact h3
    · have h4 := kN_lt (show p < k by omega) hp2.1
      rw [if_pos (by omega)] at h3
      rw [if_neg z]; exact h3
  · rw [hkn k (by omega), if_neg (by omega)]; omega
/-- the unpacker's state: no code above n, and n itself only before i -/
def UI (out : List Int32) (n i : Nat) : Prop := i ≤ out.length ∧ ∀ q, q < out.length → vN out q ≤ n ∧ (vN out q = n → q < i)
theorem vN_of {l out : List Int32} {p q : Nat} (h : out.getD q (-1) = l.getD p (-1)) : vN out q = vN l p := by unfold vN; rw [h]
theorem UI_next {out : List Int32} {n i n' pos : Nat} (h : UI out n i) (hn : n ≤ n') (hn2 : n' ≤ 1114111) (hp : pos ≤ out.length) (hpi : n' = n → i ≤ pos) : UI (insA out pos (nI n')) n' (pos + 1) := by
  obtain ⟨h1, h2⟩ := h
  refine ⟨by rw [insA_len _ hp]; omega, fun q hq => ?_⟩
  rw [insA_len _ hp] at hq
  have e : vN (insA out pos (nI n')) q = if q < pos then vN out q else if q = pos then n' else vN out (q - 1) := by
    unfold vN
    rw [insA_get hp]
    split
    · rfl
    split
    · rw [nI_toInt (by omega)]; omega
    · rfl
  rw [e]
  by_cases z : q < pos
  · rw [if_pos z]
    have := h2 q (by omega)
    exact ⟨by omega, fun _ => by omega⟩
  · rw [if_neg z]
    by_cases z2 : q = pos
    · rw [if_pos z2]; exact ⟨by omega, fun _ => by omega⟩
    · rw [if_neg z2]
      have := h2 (q - 1) (by omega)
      refine ⟨by omega, fun hv => ?_⟩
      have h3 : n' = n := by omega
      have := this.2 (by omega)
      have := hpi h3
      omega
theorem un_enc : ∀ (m : Nat) (ds : List Int32) (i n b : Nat) (out l : List Int32), unL m ds i n b out = some l → UI out n i → n ≤ 1114111 →
    ∃ I, I ≤ l.length ∧ KP l (Gt l n I) out ∧ cN l n I = i ∧ (I = 0 ∨ ∃ k, I = k + 1 ∧ k < l.length ∧ Gt l n I k = false) ∧ ∀ F, (encS l F n I b (decide (i = 0))).length ≤ ds.length := by
  intro m
  induction m with
  | zero => intro ds i n b out l h; simp [unL] at h
  | succ m ih =>
    intro ds i n b out l h hu hn
    simp only [unL] at h
    by_cases hds : ds = []
    · rw [if_pos hds] at h
      cases h
      have hG : ∀ p, p < out.length → Gt out n i p = false := by
        intro p hp
        rw [Bool.eq_false_iff]
        intro z
        rw [Gt_iff] at z
        have := hu.2 p hp
        omega
      have hk : ∀ p, p ≤ out.length → kN (Gt out n i) p = p := by
        intro p
        induction p with
        | zero => intro _; rfl
        | succ p ihp =>
          intro hp
          simp only [kN, ihp (by omega), hG p (by omega)]
          simp
      have hcn : ∀ p, p ≤ out.length → cN out n p = p := by
        intro p
        induction p with
        | zero => intro _; rfl
        | succ p ihp =>
          intro hp
          simp only [cN, ihp (by omega)]
          rw [if_pos (hu.2 p (by omega)).1]
      have hi := hu.1
      refine ⟨i, hi, ⟨hk _ (Nat.le_refl _), fun p hp _ => by rw [hk p (by omega)]⟩, hcn i hi, ?_, ?_⟩
      · cases i with
        | zero => exact Or.inl rfl
        | succ i => exact Or.inr ⟨i, rfl, by omega, hG i (by omega)⟩
      · intro F
        cases F with
        | zero => simp [encS]
        | succ F =>
          have hok := lsN_ok out (Gt out n i)
          cases hls : lsN out (Gt out n i) with
          | none => simp only [encS]; rw [hls]; simp
          | some q =>
            rw [hls] at hok
            have := hok.2.2.1
            rw [hG q hok.1] at this
            cases this
    · rw [if_neg hds] at h
      cases hrd : rdN b ds i 1 0 with
      | none => rw [hrd] at h; cases h
      | some pr =>
        obtain ⟨i', rest⟩ := pr
        rw [hrd] at h
        simp only [] at h
        by_cases hor : 48 < out.length + 1 ∨ 1114111 < n + i' / (out.length + 1)
        · rw [if_pos hor] at h; cases h
        rw [if_neg hor] at h
        obtain ⟨q, q1, q2⟩ := rd_len b ds i 1 0 i' rest hrd
        have hpos : i' % (out.length + 1) < out.length + 1 := Nat.mod_lt _ (by omega)
        have hdm := Nat.div_add_mod i' (out.length + 1)
        generalize hn' : i' / (out.length + 1) = dn at *
        generalize hps : i' % (out.length + 1) = pos at *
        have hpi : n + dn = n → i ≤ pos := by
          intro e
          have : dn = 0 := by omega
          subst this
          omega
        have hu2 := UI_next hu (show n ≤ n + dn by omega) (by omega) (show pos ≤ out.length by omega) hpi
        obtain ⟨I', a1, a2, a3, a4, a5⟩ := ih rest (pos + 1) (n + dn) _ _ l h hu2 (by omega)
        generalize hnn : n + dn = n' at *
        -- the place of the new code
        rcases a4 with a4 | ⟨k, k1, k2, k3⟩
        · subst a4; simp [cN] at a3
        subst k1
        have hckN : ∀ x, x ≤ k + 1 → cN l n' x = kN (Gt l n' (k + 1)) x := by
          intro x
          induction x with
          | zero => intro _; rfl
          | succ x ihx =>
            intro hx
            simp only [cN, kN, ihx (by omega)]
            have e : Gt l n' (k + 1) x = true ↔ ¬ vN l x ≤ n' := by rw [Gt_iff]; omega
            by_cases z : vN l x ≤ n'
            · rw [if_pos z, if_neg (by rw [e]; omega)]
            · rw [if_neg z, if_pos (by rw [e]; omega)]
        have hkk : kN (Gt l n' (k + 1)) k = pos := by
          have := hckN (k + 1) (Nat.le_refl _)
          rw [a3] at this
          simp only [kN, k3] at this
          simp at this; omega
        have hvk : vN l k = n' := by
          have := a2.2 k k2 k3
          rw [hkk, insA_get (by omega), if_neg (by omega), if_pos rfl] at this
          unfold vN
          rw [← this, nI_toInt (by omega)]; omega
        have hG2 : ∀ p, p < l.length → Gt l n' k p = (Gt l n' (k + 1) p || decide (p = k)) := by
          intro p hp
          rw [Bool.eq_iff_iff]
          simp only [Bool.or_eq_true, decide_eq_true_eq, Gt_iff]
          constructor
          · intro z
            by_cases e : p = k
            · exact Or.inr e
            · left; omega
          · rintro (z | rfl)
            · omega
            · omega
        obtain ⟨b1, b2'⟩ := KP_less (G2 := Gt l n' k) (by omega) k2 k3 hkk hG2 a2
        have hi := hu.1
        obtain ⟨I, c1, c2, c3⟩ := kN_find (G := Gt l n' k) l.length i (by rw [b1.1]; exact hi)
        -- before I there are i kept places
        have hIk : n' = n → I ≤ k := by
          intro e
          rcases c3 with c3 | ⟨z, z1, z2, z3⟩
          · omega
          · have := hpi (by omega)
            apply Classical.byContradiction
            intro hc
            have hzk : z ≠ k := by
              intro e2
              subst e2
              have : Gt l n' z z = true := by rw [Gt_iff]; omega
              rw [this] at z3; cases z3
            have h5 := kN_mon (G := Gt l n' k) (show k ≤ z by omega)
            have h6 := kN_lt (show z < I by omega) z3
            omega
        have hGG : ∀ p, p < l.length → Gt l n I p = Gt l n' k p := by
          intro p hp
          cases hg : Gt l n' k p with
          | true =>
            rw [Gt_iff] at hg ⊢
            omega
          | false =>
            have h3 := vN_of (b1.2 p hp hg)
            have h4 : kN (Gt l n' k) p < out.length := by rw [← b1.1]; exact kN_lt hp hg
            have h5 := hu.2 _ h4
            rw [h3] at h5
            rw [Bool.eq_false_iff]
            intro z
            rw [Gt_iff] at z
            rcases z with z | ⟨z1, z2⟩
            · omega
            · have := h5.2 z1
              have := kN_mon (G := Gt l n' k) z2
              omega
        have hcn : ∀ x, x ≤ I → cN l n x = kN (Gt l n' k) x := by
          intro x
          induction x with
          | zero => intro _; rfl
          | succ x ihx =>
            intro hx
            simp only [cN, kN, ihx (by omega), ← hGG x (by omega)]
            have e : Gt l n I x = true ↔ ¬ vN l x ≤ n := by rw [Gt_iff]; omega
            by_cases z : vN l x ≤ n
            · rw [if_pos z, if_neg (by rw [e]; omega)]
            · rw [if_neg z, if_pos (by rw [e]; omega)]
        have hcI : cN l n I = i := by rw [hcn I (Nat.le_refl _), c2]
        have hkc : ∀ x, x ≤ l.length → kN (Gt l n I) x = kN (Gt l n' k) x := fun x hx => kN_congr x (fun p hp => hGG p (by omega))
        refine ⟨I, c1, ⟨by rw [hkc _ (Nat.le_refl _)]; exact b1.1, fun p hp hp2 => by rw [hkc p (by omega)]; exact b1.2 p hp (by rw [← hGG p hp]; exact hp2)⟩, hcI, ?_, ?_⟩
        · rcases c3 with c3 | ⟨z, z1, z2, z3⟩
          · exact Or.inl c3
          · exact Or.inr ⟨z, z1, z2, by rw [hGG z z2]; exact z3⟩
        · intro F
          cases F with
          | zero => simp [encS]
          | succ F =>
            have hls := lsN_here k2 hvk hGG
            have hh : hN l n I l.length = out.length := by rw [hN_kN, hkc _ (Nat.le_refl _)]; exact b1.1
            have hck : cN l n' k = pos := by rw [hckN k (by omega), hkk]
            have hv : (n' - n) * (out.length + 1) + pos - i = i' - i := by
              have : n' - n = dn := by omega
              rw [this, Nat.mul_comm]; omega
            have hf : decide (pos + 1 = 0) = false := by simp
            rw [hf] at a5
            have e : encS l (F + 1) n I b (decide (i = 0)) = numS b (i' - i) ++ encS l F n' (k + 1) (adF (i' - i) (out.length + 1) (decide (i = 0))) false := by
              conv => lhs; rw [encS]
              rw [hls]
              simp only [hvk, hh, hck, hcI, hv]
            rw [e, List.length_append]
            have h1 := a5 F
            have h2 := q2 9
            have : i' - i = q := by omega
            unfold numS
            rw [this] at h1 ⊢
            omega
theorem hyN_ge : ∀ (l : List Int32) (i p : Nat), p ≤ i → p ≤ hyN l i p
  | [], i, p, h => Nat.le_refl _
  | c :: cs, i, p, h => by
    simp only [hyN]
    split
    · have := hyN_ge cs (i + 1) (i + 1) (Nat.le_refl _); omega
    · exact hyN_ge cs (i + 1) p (by omega)
/-- what unpacking makes -/
theorem unL_ok : ∀ (m : Nat) (ds : List Int32) (i n b : Nat) (out l : List Int32), unL m ds i n b out = some l → okC out → out.length ≤ 48 → okC l ∧ l.length ≤ out.length + ds.length ∧ l.length ≤ 48 := by
  intro m
  induction m with
  | zero => intro ds i n b out l h; simp [unL] at h
  | succ m ih =>
    intro ds i n b out l h ho h48
    simp only [unL] at h
    by_cases hds : ds = []
    · rw [if_pos hds] at h
      cases h
      exact ⟨ho, by omega, h48⟩
    · rw [if_neg hds] at h
      cases hrd : rdN b ds i 1 0 with
      | none => rw [hrd] at h; cases h
      | some pr =>
        obtain ⟨i', rest⟩ := pr
        rw [hrd] at h
        simp only [] at h
        by_cases hor : 48 < out.length + 1 ∨ 1114111 < n + i' / (out.length + 1)
        · rw [if_pos hor] at h; cases h
        rw [if_neg hor] at h
        have hpos : i' % (out.length + 1) < out.length + 1 := Nat.mod_lt _ (by omega)
        have hs := rdN_spec b ds i 1 0 i' rest hrd
        have hlen := insA_len (l := out) (nI (n + i' / (out.length + 1))) (show i' % (out.length + 1) ≤ out.length by omega)
        have hok : okC (insA out (i' % (out.length + 1)) (nI (n + i' / (out.length + 1)))) := by
          intro x hx
          unfold insA at hx
          rw [List.mem_append, List.mem_cons] at hx
          rcases hx with hx | hx | hx
          · exact ho x (List.mem_of_mem_take hx)
          · have : n + i' / (out.length + 1) ≤ 1114111 := by omega
            generalize n + i' / (out.length + 1) = zz at *
            rw [hx, nI_toInt (by omega)]; omega
          · exact ho x (List.mem_of_mem_drop hx)
        have := ih rest _ _ _ _ l h hok (by omega)
        exact ⟨this.1, by omega, this.2.2⟩
theorem unp_ok {y u : List Int32} (hy : okC y) (h : unpS y = some u) : okC u ∧ u.length ≤ y.length ∧ u.length ≤ 48 ∧ (packS u).length ≤ y.length := by
  unfold unpS at h
  have h0 := hyN_le y 0 0 (Nat.le_refl _)
  generalize hh : hyN y 0 0 = hy0 at *
  by_cases hp : plainB (y.take (hy0 - 1)) = true
  · rw [if_pos hp] at h
    unfold plainB at hp
    rw [Bool.and_eq_true, decide_eq_true_eq, List.all_eq_true] at hp
    have hok : okC (y.take (hy0 - 1)) := fun x hx => hy x (List.mem_of_mem_take hx)
    obtain ⟨a1, a2, a3⟩ := unL_ok _ _ _ _ _ _ _ h hok hp.2
    have hl1 : (y.take (hy0 - 1)).length = hy0 - 1 := by simp; omega
    have hl2 : (y.drop hy0).length = y.length - hy0 := by simp
    have hui : UI (y.take (hy0 - 1)) 128 0 := by
      refine ⟨Nat.zero_le _, fun q hq => ?_⟩
      have hm := hp.1 ((y.take (hy0 - 1)).getD q (-1)) (by rw [getD_get hq]; exact List.getElem_mem hq)
      rw [decide_eq_true_eq] at hm
      have := (lt128_v hok hq).1 hm
      exact ⟨by omega, fun z => by omega⟩
    obtain ⟨I, b1, b2', b3, b4, b5⟩ := un_enc _ _ _ _ _ _ _ h hui (by omega)
    have hI : I = 0 := by
      rcases b4 with b4 | ⟨k, k1, k2, k3⟩
      · exact b4
      · subst k1
        exfalso
        have hv : vN u k ≤ 128 := by
          apply Classical.byContradiction
          intro z
          have : Gt u 128 (k + 1) k = true := by rw [Gt_iff]; omega
          rw [this] at k3; cases k3
        simp only [cN] at b3
        rw [if_pos hv] at b3
        omega
    subst hI
    have hb : (basS u).length = hy0 - 1 := by
      rw [← hN_128L a1, hN_kN, b2'.1, hl1]
    refine ⟨a1, by omega, a3, ?_⟩
    have h5 := b5 (u.length + 1)
    simp only [decide_true] at h5
    unfold packS
    simp only [List.length_append]
    by_cases z : basS u = []
    · rw [if_pos z]
      rw [z] at hb ⊢
      simp at hb ⊢
      omega
    · rw [if_neg z]
      have : 0 < (basS u).length := List.length_pos_iff.2 z
      simp
      omega
  · rw [if_neg hp] at h; cases h
/-! how long packing gets -/
theorem encS_len (l : List Int32) : ∀ (f n i b : Nat) (first : Bool), (encS l f n i b first).length ≤ 9 * (l.length - hN l n i l.length)
  | 0, n, i, b, first => by simp [encS]
  | f + 1, n, i, b, first => by
    have hok := lsN_ok l (Gt l n i)
    simp only [encS]
    cases hls : lsN l (Gt l n i) with
    | none => simp
    | some k =>
      rw [hls] at hok
      have hmin : ∀ p, p < l.length → Gt l n i p = true → lexle l k p := fun p hp => hok.2.2.2 p (Nat.zero_le _) hp
      have h1 := left_dec hok.1 hok.2.2.1 hmin
      have h2 := hN_lt hok.2.2.1 l.length hok.1
      simp only [List.length_append]
      have h3 := encS_len l f (vN l k) (k + 1) (adF ((vN l k - n) * (hN l n i l.length + 1) + cN l (vN l k) k - cN l n i) (hN l n i l.length + 1) first) false
      have h4 : (numS b ((vN l k - n) * (hN l n i l.length + 1) + cN l (vN l k) k - cN l n i)).length ≤ 9 := dgS_len b 9 _ 0
      rw [h1] at h3
      omega
theorem packS_len {l : List Int32} (hc : okC l) : (packS l).length ≤ (basS l).length + 1 + 9 * (l.length - (basS l).length) := by
  have h := encS_len l (l.length + 1) 128 0 72 true
  rw [hN_128L hc] at h
  unfold packS
  simp only [List.length_append]
  split
  · simp only [List.length_nil]; omega
  · simp only [List.length_singleton]; omega
theorem bas_w2 : ∀ (l : List Int32), (∀ x ∈ l, ¬ x = 46) → (basS l).length + 9 * (l.length - (basS l).length) ≤ sumW w2 l
  | [], _ => Nat.le_refl _
  | c :: cs, h => by
    have ih := bas_w2 cs (fun x hx => h x (List.mem_cons_of_mem _ hx))
    have hle := basS_len_le cs
    rw [sumW_cons]
    have hw := w2_le c
    by_cases hc : c < 128
    · have e : basS (c :: cs) = c :: basS cs := by unfold basS; rw [List.filter_cons_of_pos (by simpa using hc)]
      rw [e]
      simp only [List.length_cons]
      omega
    · have e : basS (c :: cs) = basS cs := by unfold basS; rw [List.filter_cons_of_neg (by simpa using hc)]
      rw [e]
      have hw2 : 9 ≤ w2 c := by
        unfold w2
        have h127 : (127 : Int32) < c := by
          rw [Int32.lt_iff_toInt_lt] at hc ⊢
          simp only [Int32.reduceToInt] at hc ⊢
          omega
        rw [if_pos h127]
        split <;> omega
      simp only [List.length_cons]
      omega
