/-! ===== the law, purely ===== -/
theorem fl44_p {A1 A2 A3 A4 A5 A6 A7 A8 A9 A10 A11 A12 A13 A14 A15 A16 A17 A18 A19 A20 A21 A22 A23 A24 A25 A26 A27 A28 A29 A30 A31 A32 A33 A34 A35 A36 A37 A38 A39 A40 A41 A42 A43 A44 O : Type} (b : (A1 → A2 → A3 → A4 → A5 → A6 → A7 → A8 → A9 → A10 → A11 → A12 → A13 → A14 → A15 → A16 → A17 → A18 → A19 → A20 → A21 → A22 → A23 → A24 → A25 → A26 → A27 → A28 → A29 → A30 → A31 → A32 → A33 → A34 → A35 → A36 → A37 → A38 → A39 → A40 → A41 → A42 → A43 → A44 → Option O) → A1 → A2 → A3 → A4 → A5 → A6 → A7 → A8 → A9 → A10 → A11 → A12 → A13 → A14 → A15 → A16 → A17 → A18 → A19 → A20 → A21 → A22 → A23 → A24 → A25 → A26 → A27 → A28 → A29 → A30 → A31 → A32 → A33 → A34 → A35 → A36 → A37 → A38 → A39 → A40 → A41 → A42 → A43 → A44 → Option O) (I : Nat → A1 → A2 → A3 → A4 → A5 → A6 → A7 → A8 → A9 → A10 → A11 → A12 → A13 → A14 → A15 → A16 → A17 → A18 → A19 → A20 → A21 → A22 → A23 → A24 → A25 → A26 → A27 → A28 → A29 → A30 → A31 → A32 → A33 → A34 → A35 → A36 → A37 → A38 → A39 → A40 → A41 → A42 → A43 → A44 → Prop) (Post : Option O → Prop) (h : ∀ (n : Nat) (K : A1 → A2 → A3 → A4 → A5 → A6 → A7 → A8 → A9 → A10 → A11 → A12 → A13 → A14 → A15 → A16 → A17 → A18 → A19 → A20 → A21 → A22 → A23 → A24 → A25 → A26 → A27 → A28 → A29 → A30 → A31 → A32 → A33 → A34 → A35 → A36 → A37 → A38 → A39 → A40 → A41 → A42 → A43 → A44 → Option O) (x1 : A1) (x2 : A2) (x3 : A3) (x4 : A4) (x5 : A5) (x6 : A6) (x7 : A7) (x8 : A8) (x9 : A9) (x10 : A10) (x11 : A11) (x12 : A12) (x13 : A13) (x14 : A14) (x15 : A15) (x16 : A16) (x17 : A17) (x18 : A18) (x19 : A19) (x20 : A20) (x21 : A21) (x22 : A22) (x23 : A23) (x24 : A24) (x25 : A25) (x26 : A26) (x27 : A27) (x28 : A28) (x29 : A29) (x30 : A30) (x31 : A31) (x32 : A32) (x33 : A33) (x34 : A34) (x35 : A35) (x36 : A36) (x37 : A37) (x38 : A38) (x39 : A39) (x40 : A40) (x41 : A41) (x42 : A42) (x43 : A43) (x44 : A44), I n x1 x2 x3 x4 x5 x6 x7 x8 x9 x10 x11 x12 x13 x14 x15 x16 x17 x18 x19 x20 x21 x22 x23 x24 x25 x26 x27 x28 x29 x30 x31 x32 x33 x34 x35 x36 x37 x38 x39 x40 x41 x42 x43 x44 → (∀ (m : Nat) (y1 : A1) (y2 : A2) (y3 : A3) (y4 : A4) (y5 : A5) (y6 : A6) (y7 : A7) (y8 : A8) (y9 : A9) (y10 : A10) (y11 : A11) (y12 : A12) (y13 : A13) (y14 : A14) (y15 : A15) (y16 : A16) (y17 : A17) (y18 : A18) (y19 : A19) (y20 : A20) (y21 : A21) (y22 : A22) (y23 : A23) (y24 : A24) (y25 : A25) (y26 : A26) (y27 : A27) (y28 : A28) (y29 : A29) (y30 : A30) (y31 : A31) (y32 : A32) (y33 : A33) (y34 : A34) (y35 : A35) (y36 : A36) (y37 : A37) (y38 : A38) (y39 : A39) (y40 : A40) (y41 : A41) (y42 : A42) (y43 : A43) (y44 : A44), m < n → I m y1 y2 y3 y4 y5 y6 y7 y8 y9 y10 y11 y12 y13 y14 y15 y16 y17 y18 y19 y20 y21 y22 y23 y24 y25 y26 y27 y28 y29 y30 y31 y32 y33 y34 y35 y36 y37 y38 y39 y40 y41 y42 y43 y44 → Post (K y1 y2 y3 y4 y5 y6 y7 y8 y9 y10 y11 y12 y13 y14 y15 y16 y17 y18 y19 y20 y21 y22 y23 y24 y25 y26 y27 y28 y29 y30 y31 y32 y33 y34 y35 y36 y37 y38 y39 y40 y41 y42 y43 y44)) → Post (b K x1 x2 x3 x4 x5 x6 x7 x8 x9 x10 x11 x12 x13 x14 x15 x16 x17 x18 x19 x20 x21 x22 x23 x24 x25 x26 x27 x28 x29 x30 x31 x32 x33 x34 x35 x36 x37 x38 x39 x40 x41 x42 x43 x44)) : ∀ (fuel n : Nat) (x1 : A1) (x2 : A2) (x3 : A3) (x4 : A4) (x5 : A5) (x6 : A6) (x7 : A7) (x8 : A8) (x9 : A9) (x10 : A10) (x11 : A11) (x12 : A12) (x13 : A13) (x14 : A14) (x15 : A15) (x16 : A16) (x17 : A17) (x18 : A18) (x19 : A19) (x20 : A20) (x21 : A21) (x22 : A22) (x23 : A23) (x24 : A24) (x25 : A25) (x26 : A26) (x27 : A27) (x28 : A28) (x29 : A29) (x30 : A30) (x31 : A31) (x32 : A32) (x33 : A33) (x34 : A34) (x35 : A35) (x36 : A36) (x37 : A37) (x38 : A38) (x39 : A39) (x40 : A40) (x41 : A41) (x42 : A42) (x43 : A43) (x44 : A44), n < fuel → I n x1 x2 x3 x4 x5 x6 x7 x8 x9 x10 x11 x12 x13 x14 x15 x16 x17 x18 x19 x20 x21 x22 x23 x24 x25 x26 x27 x28 x29 x30 x31 x32 x33 x34 x35 x36 x37 x38 x39 x40 x41 x42 x43 x44 → Post (fl44 b fuel x1 x2 x3 x4 x5 x6 x7 x8 x9 x10 x11 x12 x13 x14 x15 x16 x17 x18 x19 x20 x21 x22 x23 x24 x25 x26 x27 x28 x29 x30 x31 x32 x33 x34 x35 x36 x37 x38 x39 x40 x41 x42 x43 x44)
  | 0, n, x1, x2, x3, x4, x5, x6, x7, x8, x9, x10, x11, x12, x13, x14, x15, x16, x17, x18, x19, x20, x21, x22, x23, x24, x25, x26, x27, x28, x29, x30, x31, x32, x33, x34, x35, x36, x37, x38, x39, x40, x41, x42, x43, x44, hf, _ => absurd hf (Nat.not_lt_zero _)
  | k + 1, n, x1, x2, x3, x4, x5, x6, x7, x8, x9, x10, x11, x12, x13, x14, x15, x16, x17, x18, x19, x20, x21, x22, x23, x24, x25, x26, x27, x28, x29, x30, x31, x32, x33, x34, x35, x36, x37, x38, x39, x40, x41, x42, x43, x44, hf, hI => h n (fl44 b k) x1 x2 x3 x4 x5 x6 x7 x8 x9 x10 x11 x12 x13 x14 x15 x16 x17 x18 x19 x20 x21 x22 x23 x24 x25 x26 x27 x28 x29 x30 x31 x32 x33 x34 x35 x36 x37 x38 x39 x40 x41 x42 x43 x44 hI (fun m y1 y2 y3 y4 y5 y6 y7 y8 y9 y10 y11 y12 y13 y14 y15 y16 y17 y18 y19 y20 y21 y22 y23 y24 y25 y26 y27 y28 y29 y30 y31 y32 y33 y34 y35 y36 y37 y38 y39 y40 y41 y42 y43 y44 hm hI2 => fl44_p b I Post h k m y1 y2 y3 y4 y5 y6 y7 y8 y9 y10 y11 y12 y13 y14 y15 y16 y17 y18 y19 y20 y21 y22 y23 y24 y25 y26 y27 y28 y29 y30 y31 y32 y33 y34 y35 y36 y37 y38 y39 y40 y41 y42 y43 y44 (by omega) hI2)
def Rel (tsz : Int32) (ft : Nat → Int32) (rsz : Int32) (fres : Nat → Int32) (cnt : Int32) (frr : Nat → Int32) (mtsz : Int32) (msize : Int32) (mcnt : Int32) (mtext : Nat → Int32) (mres : Nat → Int32) (mrules : Nat → Int32) : Prop := ∃ (T O : List Int32) (n : Nat), okC T ∧ T.length ≤ 48 ∧ O.length ≤ 512 ∧ n ≤ 49 ∧ tsz = nI T.length ∧ mtsz = nI T.length ∧ Rp ft T ∧ Rp mtext T ∧ rsz = nI O.length ∧ msize = nI O.length ∧ Rp fres O ∧ Rp mres O ∧ cnt = nI n ∧ mcnt = nI n ∧ ∀ q, q < n → frr q = mrules q
theorem host_bad {a : Int32} (ha : ¬ (0 ≤ a.toInt ∧ a.toInt ≤ 63)) (tsz : Int32) (ft : Nat → Int32) (rsz : Int32) (fres : Nat → Int32) (msz : Int32) (fm : Nat → Int32) (csz : Int32) (fcs : Nat → Int32) (lsz : Int32) (fl : Nat → Int32) (usz : Int32) (fun1 : Nat → Int32) (cnt : Int32) (ccs : Int32) (fcc : Nat → Int32) (fee : Nat → Int32) (frr : Nat → Int32) (ftt : Nat → Int32) (psz : Int32) (fp : Nat → Int32) (bias : Int32) (next : Int32) (ksz : Int32) (fk : Nat → Int32) (fsz : Int32) (ff : Nat → Int32) (v : Int32) : P_Host_process tsz ft rsz fres msz fm csz fcs lsz fl usz fun1 cnt ccs fcc fee frr ftt psz fp bias next ksz fk fsz ff a v = some (-1, rsz, fres, msz, fm, csz, fcs, lsz, fl, usz, fun1, cnt, ccs, fcc, fee, frr, ftt, psz, fp, bias, next, ksz, fk, fsz, ff) := by
  unfold P_Host_process
  by_cases h1 : a < 0
  · rw [if_pos h1]
  · rw [if_neg h1]
    have h2 : ¬ a ≤ 63 := by
      rw [Int32.lt_iff_toInt_lt] at h1
      rw [Int32.le_iff_toInt_le]
      simp only [Int32.reduceToInt] at h1 ⊢
      omega
    rw [if_neg h2]
theorem mod_bad {a : Int32} (ha : ¬ (0 ≤ a.toInt ∧ a.toInt ≤ 63)) (mtsz : Int32) (msize : Int32) (mrs : Int32) (mcnt : Int32) (mps : Int32) (mwh : Int32) (mb : Int32) (mtext : Nat → Int32) (mres : Nat → Int32) (mrow : Nat → Int32) (moth : Nat → Int32) (mst : Nat → Int32) (msz2 : Nat → Int32) (mrules : Nat → Int32) (mtg : Nat → Int32) (mpool : Nat → Int32) (mpl : Nat → Int32) (v : Int32) : P_Mod_process mtsz msize mrs mcnt mps mwh mb mtext mres mrow moth mst msz2 mrules mtg mpool mpl a v = some (-1, msize, mrs, mcnt, mps, mwh, mb, mres, mrow, moth, mst, msz2, mrules, mtg, mpool, mpl) := by
  unfold P_Mod_process
  have hw : wi a.toInt (0 : Int32).toInt (63 : Int32).toInt = false := by
    rw [Bool.eq_false_iff]; intro z; exact ha (wi_iff.1 z)
  rw [mod_within, Option.bind_some, hw, if_pos (show b2 false = 0 from rfl)]
theorem law_process {L i : Nat} {xs : Nat → Int32} {K : Int32 → Int32 → (Nat → Int32) → Int32 → (Nat → Int32) → Int32 → (Nat → Int32) → Int32 → (Nat → Int32) → Int32 → (Nat → Int32) → Int32 → (Nat → Int32) → Int32 → Int32 → (Nat → Int32) → (Nat → Int32) → (Nat → Int32) → (Nat → Int32) → Int32 → (Nat → Int32) → Int32 → Int32 → Int32 → (Nat → Int32) → Int32 → (Nat → Int32) → Int32 → Int32 → Int32 → Int32 → Int32 → Int32 → Int32 → (Nat → Int32) → (Nat → Int32) → (Nat → Int32) → (Nat → Int32) → (Nat → Int32) → (Nat → Int32) → (Nat → Int32) → (Nat → Int32) → (Nat → Int32) → (Nat → Int32) → Option Int32} (hL : L ≤ 2048) (hi : i + 4 ≤ L) (ascii : Bool) (hasc : (xs (nI i + 2).toNatClampNeg = 0) ↔ ascii = false) (go : ∀ (tsz : Int32) (ft : Nat → Int32) (rsz : Int32) (fres : Nat → Int32) (msz : Int32) (fm : Nat → Int32) (csz : Int32) (fcs : Nat → Int32) (lsz : Int32) (fl : Nat → Int32) (usz : Int32) (fun1 : Nat → Int32) (cnt : Int32) (ccs : Int32) (fcc : Nat → Int32) (fee : Nat → Int32) (frr : Nat → Int32) (ftt : Nat → Int32) (psz : Int32) (fp : Nat → Int32) (bias : Int32) (next : Int32) (ksz : Int32) (fk : Nat → Int32) (fsz : Int32) (ff : Nat → Int32) (mtsz : Int32) (msize : Int32) (mrs : Int32) (mcnt : Int32) (mps : Int32) (mwh : Int32) (mb : Int32) (mtext : Nat → Int32) (mres : Nat → Int32) (mrow : Nat → Int32) (moth : Nat → Int32) (mst : Nat → Int32) (msz2 : Nat → Int32) (mrules : Nat → Int32) (mtg : Nat → Int32) (mpool : Nat → Int32) (mpl : Nat → Int32), Rel tsz ft rsz fres cnt frr mtsz msize mcnt mtext mres mrules → K (nI i + 4) tsz ft rsz fres msz fm csz fcs lsz fl usz fun1 cnt ccs fcc fee frr ftt psz fp bias next ksz fk fsz ff mtsz msize mrs mcnt mps mwh mb mtext mres mrow moth mst msz2 mrules mtg mpool mpl = some 1) (tsz : Int32) (ft : Nat → Int32) (rsz : Int32) (fres : Nat → Int32) (msz : Int32) (fm : Nat → Int32) (csz : Int32) (fcs : Nat → Int32) (lsz : Int32) (fl : Nat → Int32) (usz : Int32) (fun1 : Nat → Int32) (cnt : Int32) (ccs : Int32) (fcc : Nat → Int32) (fee : Nat → Int32) (frr : Nat → Int32) (ftt : Nat → Int32) (psz : Int32) (fp : Nat → Int32) (bias : Int32) (next : Int32) (ksz : Int32) (fk : Nat → Int32) (fsz : Int32) (ff : Nat → Int32) (mtsz : Int32) (msize : Int32) (mrs : Int32) (mcnt : Int32) (mps : Int32) (mwh : Int32) (mb : Int32) (mtext : Nat → Int32) (mres : Nat → Int32) (mrow : Nat → Int32) (moth : Nat → Int32) (mst : Nat → Int32) (msz2 : Nat → Int32) (mrules : Nat → Int32) (mtg : Nat → Int32) (mpool : Nat → Int32) (mpl : Nat → Int32) (h : Rel tsz ft rsz fres cnt frr mtsz msize mcnt mtext mres mrules) : P_law_210 L xs K (nI i) (b2 ascii) (xs (nI i + 1).toNatClampNeg) tsz ft rsz fres msz fm csz fcs lsz fl usz fun1 cnt ccs fcc fee frr ftt psz fp bias next ksz fk fsz ff mtsz msize mrs mcnt mps mwh mb mtext mres mrow moth mst msz2 mrules mtg mpool mpl = some 1 := by
  obtain ⟨T, O, n, h1, h2, h3, h4, rfl, rfl, h7, h8, rfl, rfl, h11, h12, rfl, rfl, h15⟩ := h
  generalize hav : xs (nI i + 1).toNatClampNeg = a
  have g1 : ∀ (o : Option Int32), gi (nI i + 1) L o = o := fun o => by rw [nI_1]; exact gi_ok (by omega) (by omega) o
  have g2 : ∀ (o : Option Int32), gi (nI i + 2) L o = o := fun o => by rw [show (2 : Int32) = nI 2 from rfl, nI_add]; exact gi_ok (by omega) (by omega) o
  unfold P_law_210
  by_cases ha : 0 ≤ a.toInt ∧ a.toInt ≤ 63
  · have hp := host_process h7 h1 h2 ha ascii (nI O.length) fres msz fm csz fcs lsz fl usz fun1 (nI n) ccs fcc fee frr ftt psz fp bias next ksz fk fsz ff
    obtain ⟨z1, z2, z3, z4, z5, z6, z7, z8, z9, z10, z11, z12, z13, z14, z15, z16, z17, z18, z19, z20, z21, z22, p1, p2, p3⟩ := hp
    have hm := mod_process h8 h1 h2 ha ascii (nI O.length) mrs (nI n) mps mwh mb mres mrow moth mst msz2 mrules mtg mpool mpl
    obtain ⟨w1, w2, w3, w4, w5, w6, w7, w8, w9, w10, w11, w12, w13, q1, q2, q3⟩ := hm
    have hlo : (outS a ascii T).length ≤ 512 := out_len512 ascii (raw_ok (onB a 2) h1 h2).1
    have hln : (labsS a T).length ≤ 49 := (lab_ok (raw_ok (onB a 2) h1 h2).1).1
    rw [p1, Option.bind_some]
    simp only [g1, g2, hav]
    have fin : ∀ s0, s0 = b2 ascii → P_law_232 K (nI i) s0 a (ansS a ascii T) (nI T.length) ft (nI (outS a ascii T).length) z1 z2 z3 z4 z5 z6 z7 z8 z9 (nI (labsS a T).length) z10 z11 z12 z13 z14 z15 z16 z17 z18 z19 z20 z21 z22 (nI T.length) (nI O.length) mrs (nI n) mps mwh mb mtext mres mrow moth mst msz2 mrules mtg mpool mpl = some 1 := by
      rintro s0 rfl
      unfold P_law_232
      rw [q1, Option.bind_some]
      simp only []
      rw [if_pos (by trivial)]
      refine go _ _ _ _ _ _ _ _ _ _ _ _ _ _ _ _ _ _ _ _ _ _ _ _ _ _ _ _ _ _ _ _ _ _ _ _ _ _ _ _ _ _ _ ?_
      exact ⟨T, outS a ascii T, (labsS a T).length, h1, h2, hlo, hln, rfl, rfl, h7, h8, rfl, rfl, p2, q2, rfl, rfl, fun q hq => by rw [p3 q hq, q3 q hq]⟩
    cases hx : ascii with
    | false =>
      rw [if_pos (hasc.2 hx)]
      rw [hx] at fin
      exact fin 0 rfl
    | true =>
      have hB : ¬ xs (nI i + 2).toNatClampNeg = 0 := fun z => by have := hasc.1 z; rw [hx] at this; cases this
      rw [if_neg hB]
      rw [hx] at fin
      exact fin 1 rfl
  · rw [host_bad ha, Option.bind_some]
    simp only [g1, g2, hav]
    have fin : ∀ s0, P_law_232 K (nI i) s0 a (-1) (nI T.length) ft (nI O.length) fres msz fm csz fcs lsz fl usz fun1 (nI n) ccs fcc fee frr ftt psz fp bias next ksz fk fsz ff (nI T.length) (nI O.length) mrs (nI n) mps mwh mb mtext mres mrow moth mst msz2 mrules mtg mpool mpl = some 1 := by
      intro s0
      unfold P_law_232
      rw [mod_bad ha, Option.bind_some]
      simp only []
      rw [if_pos (by trivial)]
      refine go _ _ _ _ _ _ _ _ _ _ _ _ _ _ _ _ _ _ _ _ _ _ _ _ _ _ _ _ _ _ _ _ _ _ _ _ _ _ _ _ _ _ _ ?_
      exact ⟨T, O, n, h1, h2, h3, h4, rfl, rfl, h7, h8, rfl, rfl, h11, h12, rfl, rfl, h15⟩
    rw [fin, fin]
    exact ite_self _
theorem law_step {L i : Nat} {xs : Nat → Int32} {K : Int32 → Int32 → (Nat → Int32) → Int32 → (Nat → Int32) → Int32 → (Nat → Int32) → Int32 → (Nat → Int32) → Int32 → (Nat → Int32) → Int32 → (Nat → Int32) → Int32 → Int32 → (Nat → Int32) → (Nat → Int32) → (Nat → Int32) → (Nat → Int32) → Int32 → (Nat → Int32) → Int32 → Int32 → Int32 → (Nat → Int32) → Int32 → (Nat → Int32) → Int32 → Int32 → Int32 → Int32 → Int32 → Int32 → Int32 → (Nat → Int32) → (Nat → Int32) → (Nat → Int32) → (Nat → Int32) → (Nat → Int32) → (Nat → Int32) → (Nat → Int32) → (Nat → Int32) → (Nat → Int32) → (Nat → Int32) → Option Int32} (hL : L ≤ 2048) (hi : i + 4 ≤ L) (go : ∀ (tsz : Int32) (ft : Nat → Int32) (rsz : Int32) (fres : Nat → Int32) (msz : Int32) (fm : Nat → Int32) (csz : Int32) (fcs : Nat → Int32) (lsz : Int32) (fl : Nat → Int32) (usz : Int32) (fun1 : Nat → Int32) (cnt : Int32) (ccs : Int32) (fcc : Nat → Int32) (fee : Nat → Int32) (frr : Nat → Int32) (ftt : Nat → Int32) (psz : Int32) (fp : Nat → Int32) (bias : Int32) (next : Int32) (ksz : Int32) (fk : Nat → Int32) (fsz : Int32) (ff : Nat → Int32) (mtsz : Int32) (msize : Int32) (mrs : Int32) (mcnt : Int32) (mps : Int32) (mwh : Int32) (mb : Int32) (mtext : Nat → Int32) (mres : Nat → Int32) (mrow : Nat → Int32) (moth : Nat → Int32) (mst : Nat → Int32) (msz2 : Nat → Int32) (mrules : Nat → Int32) (mtg : Nat → Int32) (mpool : Nat → Int32) (mpl : Nat → Int32), Rel tsz ft rsz fres cnt frr mtsz msize mcnt mtext mres mrules → K (nI i + 4) tsz ft rsz fres msz fm csz fcs lsz fl usz fun1 cnt ccs fcc fee frr ftt psz fp bias next ksz fk fsz ff mtsz msize mrs mcnt mps mwh mb mtext mres mrow moth mst msz2 mrules mtg mpool mpl = some 1) (tsz : Int32) (ft : Nat → Int32) (rsz : Int32) (fres : Nat → Int32) (msz : Int32) (fm : Nat → Int32) (csz : Int32) (fcs : Nat → Int32) (lsz : Int32) (fl : Nat → Int32) (usz : Int32) (fun1 : Nat → Int32) (cnt : Int32) (ccs : Int32) (fcc : Nat → Int32) (fee : Nat → Int32) (frr : Nat → Int32) (ftt : Nat → Int32) (psz : Int32) (fp : Nat → Int32) (bias : Int32) (next : Int32) (ksz : Int32) (fk : Nat → Int32) (fsz : Int32) (ff : Nat → Int32) (mtsz : Int32) (msize : Int32) (mrs : Int32) (mcnt : Int32) (mps : Int32) (mwh : Int32) (mb : Int32) (mtext : Nat → Int32) (mres : Nat → Int32) (mrow : Nat → Int32) (moth : Nat → Int32) (mst : Nat → Int32) (msz2 : Nat → Int32) (mrules : Nat → Int32) (mtg : Nat → Int32) (mpool : Nat → Int32) (mpl : Nat → Int32) (h : Rel tsz ft rsz fres cnt frr mtsz msize mcnt mtext mres mrules) (hend : ¬ (nI L - 4 < nI i)) : P_law_18 L xs K (nI i) tsz ft rsz fres msz fm csz fcs lsz fl usz fun1 cnt ccs fcc fee frr ftt psz fp bias next ksz fk fsz ff mtsz msize mrs mcnt mps mwh mb mtext mres mrow moth mst msz2 mrules mtg mpool mpl = some 1 := by
  have hRel := h
  obtain ⟨T, O, n, h1, h2, h3, h4, rfl, rfl, h7, h8, rfl, rfl, h11, h12, rfl, rfl, h15⟩ := h
  have g0 : ∀ (o : Option Int32), gi (nI i) L o = o := fun o => gi_ok (by omega) (by omega) o
  have g1 : ∀ (o : Option Int32), gi (nI i + 1) L o = o := fun o => by rw [nI_1]; exact gi_ok (by omega) (by omega) o
  have g2 : ∀ (o : Option Int32), gi (nI i + 2) L o = o := fun o => by rw [show (2 : Int32) = nI 2 from rfl, nI_add]; exact gi_ok (by omega) (by omega) o
  have g3 : ∀ (o : Option Int32), gi (nI i + 3) L o = o := fun o => by rw [show (3 : Int32) = nI 3 from rfl, nI_add]; exact gi_ok (by omega) (by omega) o
  unfold P_law_18
  rw [if_neg hend, g0]
  generalize (xs (nI i).toNatClampNeg) &&& (15 : Int32) = op
  by_cases c0 : op = 0
  · obtain ⟨r, T', f', m', q1, q2, q3, q4, q5, q6⟩ := both_put h7 h8 h1 h2 (xs (nI i + 1).toNatClampNeg)
    rw [if_pos c0, g1, q1, Option.bind_some, g1, q2, Option.bind_some]
    simp only []
    rw [if_pos (by trivial)]
    exact go _ _ _ _ _ _ _ _ _ _ _ _ _ _ _ _ _ _ _ _ _ _ _ _ _ _ _ _ _ _ _ _ _ _ _ _ _ _ _ _ _ _ _ ⟨T', O, n, q5, q6, h3, h4, rfl, rfl, q3, q4, rfl, rfl, h11, h12, rfl, rfl, h15⟩
  rw [if_neg c0]
  by_cases c1 : op = 1
  · obtain ⟨r, T', f', m', q1, q2, q3, q4, q5, q6⟩ := both_type h7 h8 h1 h2 ((((xs ((nI i + (1 : Int32))).toNatClampNeg)).toInt64 <<< (((32 : Int32)).toInt64 &&& 63)) ||| (((xs ((nI i + (2 : Int32))).toNatClampNeg)).toInt64 &&& (4294967295 : Int64))) (xs ((nI i + (3 : Int32))).toNatClampNeg)
    rw [if_pos c1, g1, g2, g3, q1, Option.bind_some, g1, g2, g3, q2, Option.bind_some]
    simp only []
    rw [if_pos (by trivial)]
    exact go _ _ _ _ _ _ _ _ _ _ _ _ _ _ _ _ _ _ _ _ _ _ _ _ _ _ _ _ _ _ _ _ _ _ _ _ _ _ _ _ _ _ _ ⟨T', O, n, q5, q6, h3, h4, rfl, rfl, q3, q4, rfl, rfl, h11, h12, rfl, rfl, h15⟩
  rw [if_neg c1]
  by_cases c2 : op = 2
  · rw [if_pos c2]
    unfold P_Host_clear P_Mod_clear P_Row_size P_Row_empty
    simp only [Option.bind_some]
    rw [if_pos (by trivial)]
    exact go _ _ _ _ _ _ _ _ _ _ _ _ _ _ _ _ _ _ _ _ _ _ _ _ _ _ _ _ _ _ _ _ _ _ _ _ _ _ _ _ _ _ _ ⟨[], O, n, fun x hx => absurd hx (by simp), by simp, h3, h4, rfl, rfl, Rp.nil, Rp.nil, rfl, rfl, h11, h12, rfl, rfl, h15⟩
  rw [if_neg c2]
  by_cases c3 : op = 3
  · rw [if_pos c3, g1, g2]
    by_cases hz : xs (nI i + 2).toNatClampNeg = 0
    · rw [if_pos hz]
      exact law_process hL hi false ⟨fun _ => rfl, fun _ => hz⟩ go _ _ _ _ _ _ _ _ _ _ _ _ _ _ _ _ _ _ _ _ _ _ _ _ _ _ _ _ _ _ _ _ _ _ _ _ _ _ _ _ _ _ _ hRel
    · rw [if_neg hz]
      exact law_process hL hi true ⟨fun z => absurd z hz, fun z => by cases z⟩ go _ _ _ _ _ _ _ _ _ _ _ _ _ _ _ _ _ _ _ _ _ _ _ _ _ _ _ _ _ _ _ _ _ _ _ _ _ _ _ _ _ _ _ hRel
  rw [if_neg c3]
  by_cases c4 : op = 4
  · rw [if_pos c4]
    unfold P_Host_length P_Mod_length P_Row_size
    simp only [Option.bind_some]
    rw [if_pos (by trivial)]
    exact go _ _ _ _ _ _ _ _ _ _ _ _ _ _ _ _ _ _ _ _ _ _ _ _ _ _ _ _ _ _ _ _ _ _ _ _ _ _ _ _ _ _ _ hRel
  rw [if_neg c4]
  by_cases c5 : op = 5
  · obtain ⟨v, q1, q2⟩ := both_at h11 h12 h3 (xs (nI i + 1).toNatClampNeg)
    rw [if_pos c5, g1, q1, Option.bind_some, g1, q2, Option.bind_some, if_pos rfl]
    exact go _ _ _ _ _ _ _ _ _ _ _ _ _ _ _ _ _ _ _ _ _ _ _ _ _ _ _ _ _ _ _ _ _ _ _ _ _ _ _ _ _ _ _ hRel
  rw [if_neg c5]
  by_cases c6 : op = 6
  · rw [if_pos c6]
    unfold P_Host_labels P_Mod_labels P_Labels_count
    simp only [Option.bind_some]
    rw [if_pos (by trivial)]
    exact go _ _ _ _ _ _ _ _ _ _ _ _ _ _ _ _ _ _ _ _ _ _ _ _ _ _ _ _ _ _ _ _ _ _ _ _ _ _ _ _ _ _ _ hRel
  rw [if_neg c6]
  by_cases c7 : op = 7
  · obtain ⟨v, q1, q2⟩ := both_broken h4 h15 (xs (nI i + 1).toNatClampNeg)
    rw [if_pos c7, g1, q1, Option.bind_some, g1, q2, Option.bind_some, if_pos rfl]
    exact go _ _ _ _ _ _ _ _ _ _ _ _ _ _ _ _ _ _ _ _ _ _ _ _ _ _ _ _ _ _ _ _ _ _ _ _ _ _ _ _ _ _ _ hRel
  rw [if_neg c7]
  by_cases c8 : op = 8
  · obtain ⟨O', z1, z2, z3, z4, z5, z6, z7, q1, q2, q3, q4, q5⟩ := both_pack h7 h8 h1 h2 fres mres mrow mpl
    rw [if_pos c8, q1, Option.bind_some, q2, Option.bind_some]
    simp only []
    rw [if_pos (by trivial)]
    exact go _ _ _ _ _ _ _ _ _ _ _ _ _ _ _ _ _ _ _ _ _ _ _ _ _ _ _ _ _ _ _ _ _ _ _ _ _ _ _ _ _ _ _ ⟨T, O', n, h1, h2, q5, h4, rfl, rfl, h7, h8, rfl, rfl, q3, q4, rfl, rfl, h15⟩
  rw [if_neg c8]
  by_cases c9 : op = 9
  · obtain ⟨r, O', z1, z2, z3, z4, z5, z6, z7, z8, z9, z10, q1, q2, q3, q4, q5⟩ := both_unpack h7 h8 h1 h2 h11 h12 h3 fun1 mrow moth bias mb
    rw [if_pos c9, q1, Option.bind_some, q2, Option.bind_some]
    simp only []
    rw [if_pos (by trivial)]
    exact go _ _ _ _ _ _ _ _ _ _ _ _ _ _ _ _ _ _ _ _ _ _ _ _ _ _ _ _ _ _ _ _ _ _ _ _ _ _ _ _ _ _ _ ⟨T, O', n, h1, h2, q5, h4, rfl, rfl, h7, h8, rfl, rfl, q3, q4, rfl, rfl, h15⟩
  rw [if_neg c9]
  by_cases c10 : op = 10
  · obtain ⟨O', z1, z2, z3, z4, z5, z6, z7, q1, q2, q3, q4, q5⟩ := both_compose h7 h8 h2 fres fp mres mrow moth
    rw [if_pos c10, q1, Option.bind_some, q2, Option.bind_some]
    simp only []
    rw [if_pos (by trivial)]
    exact go _ _ _ _ _ _ _ _ _ _ _ _ _ _ _ _ _ _ _ _ _ _ _ _ _ _ _ _ _ _ _ _ _ _ _ _ _ _ _ _ _ _ _ ⟨T, O', n, h1, h2, q5, h4, rfl, rfl, h7, h8, rfl, rfl, q3, q4, rfl, rfl, h15⟩
  rw [if_neg c10]
  exact go _ _ _ _ _ _ _ _ _ _ _ _ _ _ _ _ _ _ _ _ _ _ _ _ _ _ _ _ _ _ _ _ _ _ _ _ _ _ _ _ _ _ _ hRel
/-- THE PURE PART: on every script of at most 2048 ints the pure law answers 1 -/
theorem law_pure (L : Nat) (xs : Nat → Int32) (hL : L ≤ 2048) : P_law L 0 (fun _ => 0) 0 (fun _ => 0) 0 (fun _ => 0) 0 (fun _ => 0) 0 (fun _ => 0) 0 (fun _ => 0) 0 0 (fun _ => 0) (fun _ => 0) (fun _ => 0) (fun _ => 0) 0 (fun _ => 0) 72 0 0 (fun _ => 0) 0 (fun _ => 0) 0 0 0 0 0 0 0 (fun _ => 0) (fun _ => 0) (fun _ => 0) (fun _ => 0) (fun _ => 0) (fun _ => 0) (fun _ => 0) (fun _ => 0) (fun _ => 0) (fun _ => 0) xs 0 = some 1 := by
  unfold P_law
  refine fl44_p (P_law_18 L xs) (fun m x1 x2 x3 x4 x5 x6 x7 x8 x9 x10 x11 x12 x13 x14 x15 x16 x17 x18 x19 x20 x21 x22 x23 x24 x25 x26 x27 x28 x29 x30 x31 x32 x33 x34 x35 x36 x37 x38 x39 x40 x41 x42 x43 x44 => ∃ i : Nat, m = 3000 - i ∧ i ≤ 2100 ∧ x1 = nI i ∧ Rel x2 x3 x4 x5 x14 x18 x28 x29 x31 x35 x36 x41) (fun r => r = some 1) ?_ fu 3000 0 0 (fun _ => 0) 0 (fun _ => 0) 0 (fun _ => 0) 0 (fun _ => 0) 0 (fun _ => 0) 0 (fun _ => 0) 0 0 (fun _ => 0) (fun _ => 0) (fun _ => 0) (fun _ => 0) 0 (fun _ => 0) 72 0 0 (fun _ => 0) 0 (fun _ => 0) 0 0 0 0 0 0 0 (fun _ => 0) (fun _ => 0) (fun _ => 0) (fun _ => 0) (fun _ => 0) (fun _ => 0) (fun _ => 0) (fun _ => 0) (fun _ => 0) (fun _ => 0) (by unfold fu; omega) ⟨0, rfl, by omega, rfl, [], [], 0, fun x hx => absurd hx (by simp), by simp, by simp, by omega, rfl, rfl, Rp.nil, Rp.nil, rfl, rfl, Rp.nil, Rp.nil, rfl, rfl, fun q hq => absurd hq (Nat.not_lt_zero _)⟩
  rintro m K x1 x2 x3 x4 x5 x6 x7 x8 x9 x10 x11 x12 x13 x14 x15 x16 x17 x18 x19 x20 x21 x22 x23 x24 x25 x26 x27 x28 x29 x30 x31 x32 x33 x34 x35 x36 x37 x38 x39 x40 x41 x42 x43 x44 ⟨i, hm, hi, rfl, hR⟩ ih
  by_cases hend : nI L - 4 < nI i
  · unfold P_law_18
    rw [if_pos hend]
  · have hi4 : i + 4 ≤ L := by
      have e : (nI L - 4).toInt = (L : Int) - 4 := sub_toInt (nI_toInt (by omega)) rfl (by omega) (by omega)
      rw [Int32.lt_iff_toInt_lt, e, nI_toInt (by omega)] at hend
      omega
    refine law_step hL hi4 ?_ _ _ _ _ _ _ _ _ _ _ _ _ _ _ _ _ _ _ _ _ _ _ _ _ _ _ _ _ _ _ _ _ _ _ _ _ _ _ _ _ _ _ _ hR hend
    intro y2 y3 y4 y5 y6 y7 y8 y9 y10 y11 y12 y13 y14 y15 y16 y17 y18 y19 y20 y21 y22 y23 y24 y25 y26 y27 y28 y29 y30 y31 y32 y33 y34 y35 y36 y37 y38 y39 y40 y41 y42 y43 y44 hR2
    rw [show (4 : Int32) = nI 4 from rfl, nI_add]
    exact ih (3000 - (i + 4)) _ y2 y3 y4 y5 y6 y7 y8 y9 y10 y11 y12 y13 y14 y15 y16 y17 y18 y19 y20 y21 y22 y23 y24 y25 y26 y27 y28 y29 y30 y31 y32 y33 y34 y35 y36 y37 y38 y39 y40 y41 y42 y43 y44 (by omega) ⟨i + 4, rfl, by omega, rfl, hR2⟩
