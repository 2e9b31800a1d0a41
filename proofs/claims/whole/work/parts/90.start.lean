/-! THE CLAIM OUT OF ONE WALK OF THE LAW'S BODY. Your part is whole_start (and what it stands on); all else here is the same for every law, but numbers. -/
def R_law : String := "HostNamesLaw"
def lw_P (b : Addr) (xs : List Int32) (args : Array Value) (s : State) : Prop := args = #[.ref b] ∧ s.IntsAt b xs ∧ xs.length ≤ 2048 ∧ (Jvm.Cond.and given_1 narrow_1).before args s = true
def lw_Q (_ : Array Value) (s : State) (o : Outcome) (t : State) : Prop := o = .returned (some (.int 1)) ∧ Framed s o t [] 600000 7302250
def lw_Z (below : List Frame) (a : Array Value) (s : State) : State → Prop := fun t => ∃ o, t.status = .running ∧ Ended t below o ∧ lw_Q a s o t
/-- the law's own end, with 1 on the stack, nothing written that was there before, its room as the claim has it -/
theorem lw_ret {p : Program} {l : Launch} {e : Env} {s : State} {m : MethodId} {below : List Frame} {meth : Method} {c : Code} {b : Nat} (hx : p.tables.exec = Jvm.exec) (hb : c.code = code) (hr : meth.sig.returnType = ret) (hlocks : meth.locks = false) {pc : Nat} {H : Heap} {ls : Array Slot} (hdg : decode code pc = .ok (.ireturn, 1)) : W p l e room_1 s m #[Value.ref b] below meth c H [] 600000 7302250 (lw_Z below #[Value.ref b] s) (F0 m pc ls [.int 1]) := by
  intro T hT X
  obtain ⟨fs, hret, hrun, hended, hW, hframe⟩ := X.leave (v := some (.int 1)) (hlocks := hlocks) (fun h => by rw [hr] at h; cases h)
  have hmeth' : T.vm.method? m = some meth := X.method'
  refine ⟨T.setFrames fs, ?_, .returned (some (.int 1)), hrun, hended, rfl, ⟨_, rfl⟩, hW, hframe⟩
  jvm_step X.here [X.here.top, hx, hb, hdg, hmeth', hr, ret, narrow_b1]
  (try refine ⟨rfl, ?_⟩); (try refine ⟨rfl, ?_⟩)
  first | (intro acts; rw [hret _ acts rfl rfl rfl]) | rw [hret _ _ rfl rfl rfl]
  exact Steps.refl _
/-- what holds at the law's entry: the machine, the code, the tables' words (any of lw_tbl by 'hts w (by decide +kernel)'), the script of L ints xs at the cell b, what the Statement gives of the start (any of its parts by flat_of_before) -/
def lw_At (p : Program) (s : State) (m : MethodId) (meth : Method) (c : Code) (b L : Nat) (xs : Nat → Int32) : Prop :=
  p.tables.exec = Jvm.exec ∧ c.code = code ∧ meth.sig.returnType = ret ∧ c.maxLocals = 4 ∧ s.vm.findClass R_law = some m.cls ∧ (∀ w ∈ lw_tbl, w.before #[Value.ref b] s = true) ∧ va_X b L xs s s.heap ∧ b < s.heap.size ∧ meth.locks = false ∧ (Jvm.Cond.and given_1 narrow_1).before #[Value.ref b] s = true

set_option maxRecDepth 100000 in
theorem se_0 : ∀ j, j < 36 → Cond.eq (Term.elem (Term.static "HostNames$Codes" "GOOD_RANGES" "[I") (.int (Int32.ofNat j))) (.int (tb_good j)) ∈ flatC (Jvm.Cond.and given_1 narrow_1) := by decide +kernel
set_option maxRecDepth 100000 in
theorem sl_0 : Cond.eq (Term.length (Term.static "HostNames$Codes" "GOOD_RANGES" "[I")) (.int 36) ∈ flatC (Jvm.Cond.and given_1 narrow_1) ∧ Cond.arrayOf (Term.static "HostNames$Codes" "GOOD_RANGES" "[I") .int ∈ flatC (Jvm.Cond.and given_1 narrow_1) := by decide +kernel
set_option maxRecDepth 100000 in
theorem se_1 : ∀ j, j < 18 → Cond.eq (Term.elem (Term.static "HostNames$Composer" "PAIR_CODES" "[I") (.int (Int32.ofNat j))) (.int (tb_pc j)) ∈ flatC (Jvm.Cond.and given_1 narrow_1) := by decide +kernel
set_option maxRecDepth 100000 in
theorem sl_1 : Cond.eq (Term.length (Term.static "HostNames$Composer" "PAIR_CODES" "[I")) (.int 18) ∈ flatC (Jvm.Cond.and given_1 narrow_1) ∧ Cond.arrayOf (Term.static "HostNames$Composer" "PAIR_CODES" "[I") .int ∈ flatC (Jvm.Cond.and given_1 narrow_1) := by decide +kernel
set_option maxRecDepth 100000 in
theorem se_2 : ∀ j, j < 18 → Cond.eq (Term.elem (Term.static "HostNames$Composer" "PAIR_LETTERS" "[I") (.int (Int32.ofNat j))) (.int (tb_pl j)) ∈ flatC (Jvm.Cond.and given_1 narrow_1) := by decide +kernel
set_option maxRecDepth 100000 in
theorem sl_2 : Cond.eq (Term.length (Term.static "HostNames$Composer" "PAIR_LETTERS" "[I")) (.int 18) ∈ flatC (Jvm.Cond.and given_1 narrow_1) ∧ Cond.arrayOf (Term.static "HostNames$Composer" "PAIR_LETTERS" "[I") .int ∈ flatC (Jvm.Cond.and given_1 narrow_1) := by decide +kernel
set_option maxRecDepth 100000 in
theorem se_3 : ∀ j, j < 18 → Cond.eq (Term.elem (Term.static "HostNames$Composer" "PAIR_MARKS" "[I") (.int (Int32.ofNat j))) (.int (tb_pm j)) ∈ flatC (Jvm.Cond.and given_1 narrow_1) := by decide +kernel
set_option maxRecDepth 100000 in
theorem sl_3 : Cond.eq (Term.length (Term.static "HostNames$Composer" "PAIR_MARKS" "[I")) (.int 18) ∈ flatC (Jvm.Cond.and given_1 narrow_1) ∧ Cond.arrayOf (Term.static "HostNames$Composer" "PAIR_MARKS" "[I") .int ∈ flatC (Jvm.Cond.and given_1 narrow_1) := by decide +kernel
set_option maxRecDepth 100000 in
theorem se_4 : ∀ j, j < 4 → Cond.eq (Term.elem (Term.static "HostNames$Checker" "TAG" "[I") (.int (Int32.ofNat j))) (.int (tb_tag j)) ∈ flatC (Jvm.Cond.and given_1 narrow_1) := by decide +kernel
set_option maxRecDepth 100000 in
theorem sl_4 : Cond.eq (Term.length (Term.static "HostNames$Checker" "TAG" "[I")) (.int 4) ∈ flatC (Jvm.Cond.and given_1 narrow_1) ∧ Cond.arrayOf (Term.static "HostNames$Checker" "TAG" "[I") .int ∈ flatC (Jvm.Cond.and given_1 narrow_1) := by decide +kernel
theorem hn_static {A : Nat → Prop} {args : Array Value} {s : State} (hts : ∀ w ∈ lw_tbl, w.before args s = true) (hgv : (Jvm.Cond.and given_1 narrow_1).before args s = true) (hA : ∀ a : Nat, a < s.heap.size → ¬ A a) : ∃ tt : Nat → Nat, hn_ST tt A s s.heap := by
  have hs := flat_of_before _ hgv
  obtain ⟨t0, e0, T0⟩ := va_Tof (tm := (Term.static "HostNames$Codes" "GOOD_RANGES" "[I")) (ty := .int) (N := 36) (f := fun j => .int (tb_good j)) (A := A) (by decide) (hs _ sl_0.2) (va_eqt (hs _ sl_0.1)) (fun j hj => va_eqt (hs _ (se_0 j hj))) hA
  have Z0 := va_Zref (A := A) (hts (Cond.laysStatic "HostNames$Codes" "GOOD_RANGES" "[I") (List.mem_append_right _ (List.mem_of_getElem? (i := 200) (by decide +kernel)))) (hts (Cond.initialized "HostNames$Codes") (List.mem_append_right _ (List.mem_of_getElem? (i := 8) (by decide +kernel)))) e0 hA
  obtain ⟨t1, e1, T1⟩ := va_Tof (tm := (Term.static "HostNames$Composer" "PAIR_CODES" "[I")) (ty := .int) (N := 18) (f := fun j => .int (tb_pc j)) (A := A) (by decide) (hs _ sl_1.2) (va_eqt (hs _ sl_1.1)) (fun j hj => va_eqt (hs _ (se_1 j hj))) hA
  have Z1 := va_Zref (A := A) (hts (Cond.laysStatic "HostNames$Composer" "PAIR_CODES" "[I") (List.mem_append_right _ (List.mem_of_getElem? (i := 223) (by decide +kernel)))) (hts (Cond.initialized "HostNames$Composer") (List.mem_append_right _ (List.mem_of_getElem? (i := 4) (by decide +kernel)))) e1 hA
  obtain ⟨t2, e2, T2⟩ := va_Tof (tm := (Term.static "HostNames$Composer" "PAIR_LETTERS" "[I")) (ty := .int) (N := 18) (f := fun j => .int (tb_pl j)) (A := A) (by decide) (hs _ sl_2.2) (va_eqt (hs _ sl_2.1)) (fun j hj => va_eqt (hs _ (se_2 j hj))) hA
  have Z2 := va_Zref (A := A) (hts (Cond.laysStatic "HostNames$Composer" "PAIR_LETTERS" "[I") (List.mem_append_right _ (List.mem_of_getElem? (i := 226) (by decide +kernel)))) (hts (Cond.initialized "HostNames$Composer") (List.mem_append_right _ (List.mem_of_getElem? (i := 4) (by decide +kernel)))) e2 hA
  obtain ⟨t3, e3, T3⟩ := va_Tof (tm := (Term.static "HostNames$Composer" "PAIR_MARKS" "[I")) (ty := .int) (N := 18) (f := fun j => .int (tb_pm j)) (A := A) (by decide) (hs _ sl_3.2) (va_eqt (hs _ sl_3.1)) (fun j hj => va_eqt (hs _ (se_3 j hj))) hA
  have Z3 := va_Zref (A := A) (hts (Cond.laysStatic "HostNames$Composer" "PAIR_MARKS" "[I") (List.mem_append_right _ (List.mem_of_getElem? (i := 228) (by decide +kernel)))) (hts (Cond.initialized "HostNames$Composer") (List.mem_append_right _ (List.mem_of_getElem? (i := 4) (by decide +kernel)))) e3 hA
  obtain ⟨t4, e4, T4⟩ := va_Tof (tm := (Term.static "HostNames$Checker" "TAG" "[I")) (ty := .int) (N := 4) (f := fun j => .int (tb_tag j)) (A := A) (by decide) (hs _ sl_4.2) (va_eqt (hs _ sl_4.1)) (fun j hj => va_eqt (hs _ (se_4 j hj))) hA
  have Z4 := va_Zref (A := A) (hts (Cond.laysStatic "HostNames$Checker" "TAG" "[I") (List.mem_append_right _ (List.mem_of_getElem? (i := 270) (by decide +kernel)))) (hts (Cond.initialized "HostNames$Checker") (List.mem_append_right _ (List.mem_of_getElem? (i := 6) (by decide +kernel)))) e4 hA
  have N := va_Nw.of rfl (hts (Cond.methodLinkNest R_Checker 46 y_Host_bit "HostNames") (List.mem_append_right _ (List.mem_of_getElem? (i := 378) (by decide +kernel))))
  exact ⟨fun k => match k with | 0 => t0 | 1 => t1 | 2 => t2 | 3 => t3 | _ => t4, Z0, T0, Z1, T1, Z2, T2, Z3, T3, Z4, T4, N⟩
theorem hn_arr {ty : FieldType} {args : Array Value} {s : State} (h : (Cond.arrayClass ty).before args s = true) (hn : ∀ C, ty ≠ .object C) : ∃ cA : ClassId, ArrOfT s cA ty ∧ va_RA s cA ty := by
  obtain ⟨cA, kA, comp, h1, h2, h3⟩ := Cond.arrayClass_spec h
  refine ⟨cA, fun n z => ⟨fun k h => (by cases h), kA, h2, comp, h3⟩, ?_⟩
  cases ty with
  | object C => exact absurd rfl (hn C)
  | _ => exact h1
set_option maxHeartbeats 4000000 in
set_option maxRecDepth 100000 in
theorem whole_start {p : Program} {e : Env} {s : State} {m : MethodId} {below : List Frame} {meth : Method} {c : Code} (l : Launch) {b L : Nat} {xs : Nat → Int32} (hL : L ≤ 2048) (C0 : lw_At p s m meth c b L xs) : W p l e room_1 s m #[Value.ref b] below meth c s.heap [] 0 0 (lw_Z below #[Value.ref b] s) (entryFrame m ([Value.ref b] : List Value).toArray 4) := by
  obtain ⟨hx, hb, hr, hml, hown, hts, hX, hbl, hlocks, hgv⟩ := id C0
  have hT : ∀ w ∈ hn_T, w.before #[Value.ref b] s = true := fun w hw => hts w (List.mem_filter.mp hw).1
  have S : CallFix p m c code 4 s #[Value.ref b] hn_T R_Law := ⟨hx, hb, hml, hown, hT⟩
  obtain ⟨A, hAe⟩ : ∃ A : Nat → Prop, A = fun q : Nat => s.heap.size ≤ q := ⟨_, rfl⟩
  have hA : ∀ q : Nat, s.heap.size ≤ q → A q := fun q h => by rw [hAe]; exact h
  have hA2 : ∀ q : Nat, A q → s.heap.size ≤ q := fun q h => by rw [hAe] at h; exact h
  have hbA : ¬ A b := fun h => Nat.not_le.mpr hbl (hA2 b h)
  obtain ⟨tt, hST⟩ := hn_static (A := A) hts hgv (fun a h z => Nat.not_le.mpr h (hA2 a z))
  obtain ⟨c0, iS0, hKn0⟩ := u_known (C := R_Row) (T := F_Row) (N := 2) (n := 2) hT kc_Row (hT _ mw_19)
  obtain ⟨c1, iS1, hKn1⟩ := u_known (C := R_Labels) (T := F_Labels) (N := 5) (n := 5) hT kc_Labels (hT _ mw_33)
  obtain ⟨c2, iS2, hKn2⟩ := u_known (C := R_Composer) (T := F_Composer) (N := 1) (n := 1) hT kc_Composer (hT _ mw_58)
  obtain ⟨c3, iS3, hKn3⟩ := u_known (C := R_Packer) (T := F_Packer) (N := 2) (n := 2) hT kc_Packer (hT _ mw_70)
  obtain ⟨c4, iS4, hKn4⟩ := u_known (C := R_Checker) (T := F_Checker) (N := 2) (n := 2) hT kc_Checker (hT _ mw_83)
  obtain ⟨c5, iS5, hKn5⟩ := u_known (C := R_Host) (T := F_Host) (N := 10) (n := 10) hT kc_Host (hT _ mw_11)
  obtain ⟨c6, iS6, hKn6⟩ := u_known (C := R_Mod) (T := F_Mod) (N := 17) (n := 17) hT kc_Mod (hT _ mw_481)
  obtain ⟨D, hKc⟩ : ∃ D : va_G, ∀ (k : Nat) (q : vw_C), classes[k]? = some q → u_Kn s q.1 q.2.1 q.2.2 (D.1 k) (D.2 k) := by
    refine ⟨(fun k => match k with | 0 => c0 | 1 => c1 | 2 => c2 | 3 => c3 | 4 => c4 | 5 => c5 | _ => c6, fun k => match k with | 0 => iS0 | 1 => iS1 | 2 => iS2 | 3 => iS3 | 4 => iS4 | 5 => iS5 | _ => iS6), ?_⟩
    intro k q hq
    match k, hq with
    | 0, hq => cases hq; exact hKn0
    | 1, hq => cases hq; exact hKn1
    | 2, hq => cases hq; exact hKn2
    | 3, hq => cases hq; exact hKn3
    | 4, hq => cases hq; exact hKn4
    | 5, hq => cases hq; exact hKn5
    | 6, hq => cases hq; exact hKn6
    | k + 7, hq => simp [classes] at hq
  obtain ⟨cI, hI1, hI2⟩ := hn_arr (hT _ mw_31) (fun C h => by cases h)
  obtain ⟨cZ, hZ1, hZ2⟩ := hn_arr (hT _ mw_56) (fun C h => by cases h)
  have hK : va_K D classes (TY cI cZ) s := by
    refine ⟨hKc, fun k q h => ?_⟩
    match k, h with
    | 0, h => cases h; exact ⟨hI1, hI2⟩
    | 1, h => cases h; exact ⟨hZ1, hZ2⟩
    | k + 2, h => simp at h
  have hE : hn_E D (TY cI cZ) tt A s s.heap [] [] := ⟨hK, fun k q h => by simp at h, ⟨fun i j p q h => by simp at h, fun k q h => by simp at h⟩, va_S.rf, hA, hST⟩
  have hl := lv_entry ([.ref b]) (n := 4) (Nat.le_of_ble_eq_true rfl)
  rw [lg_entry_eq]
  generalize (lg_sl ([.ref b]) ++ List.replicate (4 - (lg_sl ([.ref b])).length) Slot.unset).toArray = ls at hl ⊢
  have hl : lv_has ls 4 [(0, .ref b)] := hl
  refine hn_new (ci := 5) (fs := [.null, .null, .null, .null, .null, .null, .null, .null, .null, .null]) S hE kc_Host t_Host_ok mw_10 mw_11 mw_1 rfl (fun j hj => by rcases (show j = 0 ∨ j = 1 ∨ j = 2 ∨ j = 3 ∨ j = 4 ∨ j = 5 ∨ j = 6 ∨ j = 7 ∨ j = 8 ∨ j = 9 by omega) with rfl | rfl | rfl | rfl | rfl | rfl | rfl | rfl | rfl | rfl <;> rfl) (Nat.le_of_ble_eq_true rfl) (Nat.le_of_ble_eq_true rfl) d_law_0 (fun qx H hE => ?_)
  have hE : hn_E D (TY cI cZ) tt A s H [] [(qx, .inr (5, [.null, .null, .null, .null, .null, .null, .null, .null, .null, .null]))] := hE
  refine lv_dup hx hb d_law_3 rfl ?_
  have hM := (c_Host_init l D cI cZ tt qx H.size)
  refine hn_cN (As := []) (rest := [.ref qx]) (wr := []) S hE hM cf_Host_init mw_12 mw_13 rfl ⟨rfl, rfl⟩ ⟨Nat.le_of_ble_eq_true rfl, Nat.le_of_ble_eq_true rfl⟩ [0] [] rfl rfl rfl rfl (by decide) rfl rfl hl.1 (lv_room (Nat.le_of_ble_eq_true rfl)) d_law_4 ⟨Nat.le_of_ble_eq_true rfl, Nat.le_of_ble_eq_true rfl⟩ (fun H locs w1 hX hE => ?_)
  obtain ⟨q5_x, q6_11_x, q18_x, q6_25_x, q32_x, q6_38_x, q45_x, q6_51_x, q58_x, q6_64_x, q71_x, q6_77_x, q84_x, q5_88_x, q6_11_88_x, q20_88_x, q28_88_x, q36_88_x, q95_x, q5_99_x, q6_11_99_x, q106_x, q117_x, q5_121_x, q5_9_121_x, q6_11_9_121_x, q16_121_x, q6_22_121_x, rfl⟩ := hX
  have hE : hn_E D (TY cI cZ) tt A s H locs [(qx, .inr (5, [.ref q5_x, .ref q18_x, .ref q32_x, .ref q45_x, .ref q58_x, .ref q71_x, .ref q84_x, .ref q95_x, .ref q106_x, .ref q117_x])), (q5_x, .inr (0, [.ref q6_11_x, .int 0])), (q6_11_x, .inl (cI, 48, .inl (fun _ => 0))), (q18_x, .inr (0, [.ref q6_25_x, .int 0])), (q6_25_x, .inl (cI, 512, .inl (fun _ => 0))), (q32_x, .inr (0, [.ref q6_38_x, .int 0])), (q6_38_x, .inl (cI, 96, .inl (fun _ => 0))), (q45_x, .inr (0, [.ref q6_51_x, .int 0])), (q6_51_x, .inl (cI, 96, .inl (fun _ => 0))), (q58_x, .inr (0, [.ref q6_64_x, .int 0])), (q6_64_x, .inl (cI, 96, .inl (fun _ => 0))), (q71_x, .inr (0, [.ref q6_77_x, .int 0])), (q6_77_x, .inl (cI, 48, .inl (fun _ => 0))), (q84_x, .inr (1, [.ref q5_88_x, .ref q20_88_x, .ref q28_88_x, .ref q36_88_x, .int 0])), (q5_88_x, .inr (0, [.ref q6_11_88_x, .int 0])), (q6_11_88_x, .inl (cI, 96, .inl (fun _ => 0))), (q20_88_x, .inl (cI, 49, .inl (fun _ => 0))), (q28_88_x, .inl (cI, 49, .inl (fun _ => 0))), (q36_88_x, .inl (cZ, 49, .inl (fun _ => 0))), (q95_x, .inr (2, [.ref q5_99_x])), (q5_99_x, .inr (0, [.ref q6_11_99_x, .int 0])), (q6_11_99_x, .inl (cI, 96, .inl (fun _ => 0))), (q106_x, .inr (3, [.int 72, .int 0])), (q117_x, .inr (4, [.ref q5_121_x, .ref q16_121_x])), (q5_121_x, .inr (2, [.ref q5_9_121_x])), (q5_9_121_x, .inr (0, [.ref q6_11_9_121_x, .int 0])), (q6_11_9_121_x, .inl (cI, 96, .inl (fun _ => 0))), (q16_121_x, .inr (0, [.ref q6_22_121_x, .int 0])), (q6_22_121_x, .inl (cI, 96, .inl (fun _ => 0)))] := hE
  refine lv_astore_n (lv' := [(1, .ref qx), (0, .ref b)]) hx hb d_law_7 rfl hl (by decide) rfl (fun ls hl => ?_)
  refine hn_new (ci := 6) (fs := [.int 0, .null, .int 0, .null, .int 0, .null, .null, .int 0, .null, .null, .null, .null, .int 0, .null, .int 0, .null, .int 0]) S hE kc_Mod t_Mod_ok mw_480 mw_481 mw_7 rfl (fun j hj => by rcases (show j = 0 ∨ j = 1 ∨ j = 2 ∨ j = 3 ∨ j = 4 ∨ j = 5 ∨ j = 6 ∨ j = 7 ∨ j = 8 ∨ j = 9 ∨ j = 10 ∨ j = 11 ∨ j = 12 ∨ j = 13 ∨ j = 14 ∨ j = 15 ∨ j = 16 by omega) with rfl | rfl | rfl | rfl | rfl | rfl | rfl | rfl | rfl | rfl | rfl | rfl | rfl | rfl | rfl | rfl | rfl <;> rfl) (Nat.le_of_ble_eq_true rfl) (Nat.le_of_ble_eq_true rfl) d_law_8 (fun qy H hE => ?_)
  have hE : hn_E D (TY cI cZ) tt A s H locs [(qx, .inr (5, [.ref q5_x, .ref q18_x, .ref q32_x, .ref q45_x, .ref q58_x, .ref q71_x, .ref q84_x, .ref q95_x, .ref q106_x, .ref q117_x])), (q5_x, .inr (0, [.ref q6_11_x, .int 0])), (q6_11_x, .inl (cI, 48, .inl (fun _ => 0))), (q18_x, .inr (0, [.ref q6_25_x, .int 0])), (q6_25_x, .inl (cI, 512, .inl (fun _ => 0))), (q32_x, .inr (0, [.ref q6_38_x, .int 0])), (q6_38_x, .inl (cI, 96, .inl (fun _ => 0))), (q45_x, .inr (0, [.ref q6_51_x, .int 0])), (q6_51_x, .inl (cI, 96, .inl (fun _ => 0))), (q58_x, .inr (0, [.ref q6_64_x, .int 0])), (q6_64_x, .inl (cI, 96, .inl (fun _ => 0))), (q71_x, .inr (0, [.ref q6_77_x, .int 0])), (q6_77_x, .inl (cI, 48, .inl (fun _ => 0))), (q84_x, .inr (1, [.ref q5_88_x, .ref q20_88_x, .ref q28_88_x, .ref q36_88_x, .int 0])), (q5_88_x, .inr (0, [.ref q6_11_88_x, .int 0])), (q6_11_88_x, .inl (cI, 96, .inl (fun _ => 0))), (q20_88_x, .inl (cI, 49, .inl (fun _ => 0))), (q28_88_x, .inl (cI, 49, .inl (fun _ => 0))), (q36_88_x, .inl (cZ, 49, .inl (fun _ => 0))), (q95_x, .inr (2, [.ref q5_99_x])), (q5_99_x, .inr (0, [.ref q6_11_99_x, .int 0])), (q6_11_99_x, .inl (cI, 96, .inl (fun _ => 0))), (q106_x, .inr (3, [.int 72, .int 0])), (q117_x, .inr (4, [.ref q5_121_x, .ref q16_121_x])), (q5_121_x, .inr (2, [.ref q5_9_121_x])), (q5_9_121_x, .inr (0, [.ref q6_11_9_121_x, .int 0])), (q6_11_9_121_x, .inl (cI, 96, .inl (fun _ => 0))), (q16_121_x, .inr (0, [.ref q6_22_121_x, .int 0])), (q6_22_121_x, .inl (cI, 96, .inl (fun _ => 0))), (qy, .inr (6, [.int 0, .null, .int 0, .null, .int 0, .null, .null, .int 0, .null, .null, .null, .null, .int 0, .null, .int 0, .null, .int 0]))] := hE
  refine lv_dup hx hb d_law_11 rfl ?_
  have hM := (c_Mod_init l D cI cZ tt qy H.size)
  refine hn_cN (As := []) (rest := [.ref qy]) (wr := [(qx, .inr (5, [.ref q5_x, .ref q18_x, .ref q32_x, .ref q45_x, .ref q58_x, .ref q71_x, .ref q84_x, .ref q95_x, .ref q106_x, .ref q117_x])), (q5_x, .inr (0, [.ref q6_11_x, .int 0])), (q6_11_x, .inl (cI, 48, .inl (fun _ => 0))), (q18_x, .inr (0, [.ref q6_25_x, .int 0])), (q6_25_x, .inl (cI, 512, .inl (fun _ => 0))), (q32_x, .inr (0, [.ref q6_38_x, .int 0])), (q6_38_x, .inl (cI, 96, .inl (fun _ => 0))), (q45_x, .inr (0, [.ref q6_51_x, .int 0])), (q6_51_x, .inl (cI, 96, .inl (fun _ => 0))), (q58_x, .inr (0, [.ref q6_64_x, .int 0])), (q6_64_x, .inl (cI, 96, .inl (fun _ => 0))), (q71_x, .inr (0, [.ref q6_77_x, .int 0])), (q6_77_x, .inl (cI, 48, .inl (fun _ => 0))), (q84_x, .inr (1, [.ref q5_88_x, .ref q20_88_x, .ref q28_88_x, .ref q36_88_x, .int 0])), (q5_88_x, .inr (0, [.ref q6_11_88_x, .int 0])), (q6_11_88_x, .inl (cI, 96, .inl (fun _ => 0))), (q20_88_x, .inl (cI, 49, .inl (fun _ => 0))), (q28_88_x, .inl (cI, 49, .inl (fun _ => 0))), (q36_88_x, .inl (cZ, 49, .inl (fun _ => 0))), (q95_x, .inr (2, [.ref q5_99_x])), (q5_99_x, .inr (0, [.ref q6_11_99_x, .int 0])), (q6_11_99_x, .inl (cI, 96, .inl (fun _ => 0))), (q106_x, .inr (3, [.int 72, .int 0])), (q117_x, .inr (4, [.ref q5_121_x, .ref q16_121_x])), (q5_121_x, .inr (2, [.ref q5_9_121_x])), (q5_9_121_x, .inr (0, [.ref q6_11_9_121_x, .int 0])), (q6_11_9_121_x, .inl (cI, 96, .inl (fun _ => 0))), (q16_121_x, .inr (0, [.ref q6_22_121_x, .int 0])), (q6_22_121_x, .inl (cI, 96, .inl (fun _ => 0)))]) S hE hM cf_Mod_init mw_482 mw_483 rfl ⟨rfl, rfl⟩ ⟨Nat.le_of_ble_eq_true rfl, Nat.le_of_ble_eq_true rfl⟩ [29] [0, 1, 2, 3, 4, 5, 6, 7, 8, 9, 10, 11, 12, 13, 14, 15, 16, 17, 18, 19, 20, 21, 22, 23, 24, 25, 26, 27, 28] rfl rfl rfl rfl (by decide) rfl rfl hl.1 (lv_room (Nat.le_of_ble_eq_true rfl)) d_law_12 ⟨Nat.le_of_ble_eq_true rfl, Nat.le_of_ble_eq_true rfl⟩ (fun H locs w1 hX hE => ?_)
  obtain ⟨q7_y, q16_y, q25_y, q34_y, q42_y, q50_y, q58_y, q66_y, q75_y, q84_y, rfl⟩ := hX
  have hE : hn_E D (TY cI cZ) tt A s H locs [(qx, .inr (5, [.ref q5_x, .ref q18_x, .ref q32_x, .ref q45_x, .ref q58_x, .ref q71_x, .ref q84_x, .ref q95_x, .ref q106_x, .ref q117_x])), (q5_x, .inr (0, [.ref q6_11_x, .int 0])), (q6_11_x, .inl (cI, 48, .inl (fun _ => 0))), (q18_x, .inr (0, [.ref q6_25_x, .int 0])), (q6_25_x, .inl (cI, 512, .inl (fun _ => 0))), (q32_x, .inr (0, [.ref q6_38_x, .int 0])), (q6_38_x, .inl (cI, 96, .inl (fun _ => 0))), (q45_x, .inr (0, [.ref q6_51_x, .int 0])), (q6_51_x, .inl (cI, 96, .inl (fun _ => 0))), (q58_x, .inr (0, [.ref q6_64_x, .int 0])), (q6_64_x, .inl (cI, 96, .inl (fun _ => 0))), (q71_x, .inr (0, [.ref q6_77_x, .int 0])), (q6_77_x, .inl (cI, 48, .inl (fun _ => 0))), (q84_x, .inr (1, [.ref q5_88_x, .ref q20_88_x, .ref q28_88_x, .ref q36_88_x, .int 0])), (q5_88_x, .inr (0, [.ref q6_11_88_x, .int 0])), (q6_11_88_x, .inl (cI, 96, .inl (fun _ => 0))), (q20_88_x, .inl (cI, 49, .inl (fun _ => 0))), (q28_88_x, .inl (cI, 49, .inl (fun _ => 0))), (q36_88_x, .inl (cZ, 49, .inl (fun _ => 0))), (q95_x, .inr (2, [.ref q5_99_x])), (q5_99_x, .inr (0, [.ref q6_11_99_x, .int 0])), (q6_11_99_x, .inl (cI, 96, .inl (fun _ => 0))), (q106_x, .inr (3, [.int 72, .int 0])), (q117_x, .inr (4, [.ref q5_121_x, .ref q16_121_x])), (q5_121_x, .inr (2, [.ref q5_9_121_x])), (q5_9_121_x, .inr (0, [.ref q6_11_9_121_x, .int 0])), (q6_11_9_121_x, .inl (cI, 96, .inl (fun _ => 0))), (q16_121_x, .inr (0, [.ref q6_22_121_x, .int 0])), (q6_22_121_x, .inl (cI, 96, .inl (fun _ => 0))), (qy, .inr (6, [.int 0, .ref q7_y, .int 0, .ref q16_y, .int 0, .ref q25_y, .ref q34_y, .int 0, .ref q42_y, .ref q50_y, .ref q58_y, .ref q66_y, .int 0, .ref q75_y, .int 0, .ref q84_y, .int 0])), (q7_y, .inl (cI, 48, .inl (fun _ => 0))), (q16_y, .inl (cI, 2000, .inl (fun _ => 0))), (q25_y, .inl (cI, 200, .inl (fun _ => 0))), (q34_y, .inl (cI, 200, .inl (fun _ => 0))), (q42_y, .inl (cI, 50, .inl (fun _ => 0))), (q50_y, .inl (cI, 50, .inl (fun _ => 0))), (q58_y, .inl (cI, 50, .inl (fun _ => 0))), (q66_y, .inl (cZ, 50, .inl (fun _ => 0))), (q75_y, .inl (cI, 300, .inl (fun _ => 0))), (q84_y, .inl (cZ, 200, .inl (fun _ => 0)))] := hE
  refine lv_astore_n (lv' := [(2, .ref qy), (1, .ref qx), (0, .ref b)]) hx hb d_law_15 rfl hl (by decide) rfl (fun ls hl => ?_)
  refine lv_iconst (v := 0) hx hb d_law_16 (by decide) ?_
  refine lv_istore_n (lv' := [(3, .int 0), (2, .ref qy), (1, .ref qx), (0, .ref b)]) hx hb d_law_17 rfl hl (by decide) rfl (fun ls hl => ?_)
  refine W.widen (k := 40) (n := 4633) (Nat.le_of_ble_eq_true rfl) (Nat.le_of_ble_eq_true rfl) ?_
  refine law_loop l D cI cZ tt qx q5_x q6_11_x q18_x q6_25_x q32_x q6_38_x q45_x q6_51_x q58_x q6_64_x q71_x q6_77_x q84_x q5_88_x q6_11_88_x q20_88_x q28_88_x q36_88_x q95_x q5_99_x q6_11_99_x q106_x q117_x q5_121_x q5_9_121_x q6_11_9_121_x q16_121_x q6_22_121_x qy q7_y q16_y q25_y q34_y q42_y q50_y q58_y q66_y q75_y q84_y 0 (fun _ => 0) 0 (fun _ => 0) 0 (fun _ => 0) 0 (fun _ => 0) 0 (fun _ => 0) 0 (fun _ => 0) 0 0 (fun _ => 0) (fun _ => 0) (fun _ => 0) (fun _ => 0) 0 (fun _ => 0) 72 0 0 (fun _ => 0) 0 (fun _ => 0) 0 0 0 0 0 0 0 (fun _ => 0) (fun _ => 0) (fun _ => 0) (fun _ => 0) (fun _ => 0) (fun _ => 0) (fun _ => 0) (fun _ => 0) (fun _ => 0) (fun _ => 0) 0 H locs ls S hX hbl hbA hE (lv_sub hl [3, 2, 1, 0] rfl) ?_ (law_pure L xs hL)
  intro _ _ _ _ _ _ _ _ _ _ _ _ _ _ _ _ _ _ _ _ _ _ _ _ _ _ _ _ _ _ _ _ _ _ _ _ _ _ _ _ _ _ _ H locs ls pc hd hE
  refine va_forget (fun q hq => hA2 _ (hE.2.2.2.1.2.2 q hq)) ?_
  refine W.widen (k := 600000) (n := 7302250) (Nat.le_of_ble_eq_true rfl) (Nat.le_of_ble_eq_true rfl) ?_
  exact lw_ret hx hb hr hlocks hd
set_option maxHeartbeats 4000000 in
theorem lw_walk (l : Launch) (b : Addr) (xs : List Int32) : MetFree l x (headSpec (Jvm.Cond.code x code maxLocals ret :: tables_1) room_1) (lw_P b xs) (fun _ _ _ _ _ => True) lw_Q := by
  refine MetFree.of_bodyS (code := code) (maxLocals := maxLocals) (ret := ret) (by decide) ?_ ?_
  · intro args s m h hn
    obtain ⟨meth, c, h1, h2, h3, h4, h5, h6, -, -⟩ := Cond.code_spec hn (atoms_spec (ws := Jvm.Cond.code x code maxLocals ret :: tables_1) h _ List.mem_cons_self)
    exact ⟨meth, c, h1, h2, h3, h4, h5, h6⟩
  · intro p e s m args below meth c s₁ B hml0 hP _
    obtain ⟨rfl, hx, hbd, hgv⟩ := hP
    obtain ⟨scr, harrAt, hlist, hof, hsmall⟩ := hx
    obtain ⟨hcb, hkn, -, -⟩ := State.arrayAt?_spec harrAt
    have hown : s.vm.findClass R_law = some m.cls := findClass_of_methodNamed B.named
    have hts0 : ∀ c ∈ (Jvm.Cond.code x code maxLocals ret :: tables_1), c.before #[Value.ref b] s = true := atoms_spec (ws := Jvm.Cond.code x code maxLocals ret :: tables_1) B.pre
    have hts : ∀ w ∈ lw_tbl, w.before #[Value.ref b] s = true := k2_hts_sels lw_privs (fun w hw => hts0 w (List.mem_cons_of_mem _ hw)) lw_privs_ok
    have hml : c.maxLocals = 4 := B.maxLocals_eq (hts0 _ List.mem_cons_self)
    have X₀ : Stand p l e room_1 s m #[Value.ref b] below meth c s₁ [] 0 0 := Stand.of_body B
    have hh0 : s₁.heap = s.heap := by rw [B.state]; rfl
    have hsz : scr.slots.size = xs.length := by rw [← Array.length_toList, hlist, List.length_map]
    have hval : ∀ j : Nat, j < xs.length → scr.slots[j]? = some (.int (xs.getD j 0)) := fun j hj => by
      rw [← Array.getElem?_toList, hlist]
      simp [hj]
    have hbl : b < s.heap.size := (Array.getElem?_eq_some_iff.mp hcb).1
    have hX : va_X b xs.length (fun j => xs.getD j 0) s s.heap := ⟨scr, hcb, hof, hkn, hsz, hval⟩
    have K : W p l e room_1 s m #[Value.ref b] below meth c s₁.heap [] 0 0 (lw_Z below #[Value.ref b] s) (entryFrame m ([Value.ref b] : List Value).toArray 4) := by
      rw [hh0]
      exact whole_start l hbd ⟨B.exec, B.bytes, B.returns, hml, hown, hts, hX, hbl, B.notSynchronized, hgv⟩
    obtain ⟨t, a1, o, b1, b2, b3⟩ := K s₁ rfl X₀
    exact ⟨t, o, a1, b1, b2, b3⟩
theorem lw_pre_spec {args : Array Value} {s : State} (h : (Jvm.Cond.and given_1 narrow_1).before args s = true) (hr : rest_1_c.before args s = true) : ∃ (b : Addr) (xs : List Int32), lw_P b xs args s := by
  have hs := flat_of_before _ h
  have hq := flat_of_before _ hr
  have hc : (Cond.count 1).before args s = true := hs _ (by decide +kernel)
  have harr : (Cond.arrayOf (.arg 0) .int).before args s = true := hs _ (by decide +kernel)
  have hle : (Cond.le (.length (.arg 0)) (.int 2048)).before args s = true := hs _ (by decide +kernel)
  have hlen : (Cond.isInt (.length (.arg 0))).before args s = true := hq _ (by decide +kernel)
  have hall : (Cond.all (.arg 0) (.isInt (.elem (.arg 0) (.index 0)))).before args s = true := hq _ (by decide +kernel)
  obtain ⟨b, xs, hb, hx⟩ := State.ints_of_pre rfl harr hlen hall
  have hsm : xs.length < 2 ^ 31 := hx.choose_spec.2.2.2
  have hev : (Term.length (.arg 0)).eval args s none [] s = some (.int xs.length.toInt32) := hx.length_eval hb
  have hv := Cond.le_ints hev (show (Term.int 2048).eval args s none [] s = some (.int 2048) from rfl)
  have hd : xs.length.toInt32 ≤ 2048 := by
    simpa [Cond.before, Cond.holds, hv] using hle
  have hN : xs.length ≤ 2048 := (Int32.ofNat_le_ofNat hsm (by decide)).mp (show Int32.ofNat xs.length ≤ Int32.ofNat 2048 from hd)
  exact ⟨b, xs, Cond.one_arg hc (show args[0]? = some (.ref b) from hb), hx, hN, h⟩
theorem lw_comes (l : Launch) : Comes l x (Jvm.Cond.code x code maxLocals ret :: tables_1) room_1 (fun tb e args s => Calls_1 tb e args s ∧ rest_1 tb e args s ∧ Pre_1 tb e args s)
    (fun _ _ args s o t => lw_Q args s o t) := by
  intro p e ha hc hk s m args below hf hfit hheap happ hpre
  obtain ⟨b, xs, hP⟩ := lw_pre_spec hpre.2.2 hpre.2.1
  obtain ⟨k, o, h1, h2, h3, hQ⟩ := lw_walk l b xs p e ha hc hk s m args below hf ((Spec.applies_iff_loose hf).mp happ).1 hP trivial
  exact ⟨k, o, h1, h2, h3, hQ⟩
theorem lw_frame {s t : State} {o : Outcome} {args : Array Value} (h : Framed s o t [] 600000 7302250) :
    Framed s o t (fieldLocs frame_1_writes args s ++ arrayLocs frame_1_arrays args s ++ staticLocs frame_1_statics s) 600000 7302250 := h
theorem lw_limb (L : Cond) (hL : ∀ (args : Array Value) (s t : State), L.after args s (.returned (some (.int 1))) t = true) :
    ArmFor flags0 classFile x code maxLocals ret World_1 tables_1 room_1 Calls_1 rest_1 Pre_1
      (fun tb e a s o t => postC L tb e a s o t ∧ Framed s o t (fieldLocs frame_1_writes a s ++ arrayLocs frame_1_arrays a s ++ staticLocs frame_1_statics s) 600000 7302250) := by
  intro l _ _ _ p e ha hc hk s m args below hf hfit hheap happ hpre
  obtain ⟨k, o, h1, h2, h3, rfl, hF⟩ := lw_comes l p e ha hc hk s m args below hf hfit hheap happ hpre
  exact ⟨k, _, h1, h2, h3, hL args s _, lw_frame hF⟩
theorem i_vc : Claimed_1_1 ∧ Claimed_1_2 := ⟨lw_limb limb_1_1 (fun args s t => by simp [limb_1_1, Cond.after, Cond.holds, Cond.value]), lw_limb limb_1_2 (fun args s t => Cond.after_iff.mpr (by
  first | (rw [show limb_1_2 = Cond.eq .result (.int 1) from rfl, Cond.eq_ints (x := 1) (y := 1) rfl rfl]; simp; done) | (simp [limb_1_2, Cond.value, Term.eval]; done)))⟩

