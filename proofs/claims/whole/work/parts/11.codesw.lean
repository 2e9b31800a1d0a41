abbrev rm_Codes_isWithin : Room := { frames := 0, cells := 0, slots := 0, locals := 0 }
theorem cf_Codes_isWithin : hn_CF y_Codes_isWithin b_Codes_isWithin 3 (some .boolean) 3 := ⟨mw_138, mw_8, by decide, by decide, by decide +kernel⟩
set_option maxHeartbeats 4000000 in
set_option maxRecDepth 100000 in
theorem c_Codes_isWithin (l : Launch) (D : va_G) (cI cZ : ClassId) (tt : Nat → Nat) (sz : Nat) (a1 : Int32) (a2 : Int32) (a3 : Int32) (o : Int32) (h : P_Codes_isWithin a1 a2 a3 = some o) : Met l y_Codes_isWithin (hn_w y_Codes_isWithin b_Codes_isWithin 3 (some .boolean)) rm_Codes_isWithin (hn_Pc D (TY cI cZ) tt [.int a1, .int a2, .int a3] sz []) (hn_Qz D [] sz [] o) 0 0 (va_A [] sz) := by
  refine hn_ofWz (own := R_Codes) (by decide) rfl (Nat.le_of_ble_eq_true rfl) ?_
  intro p e s m args below meth c A H locs ls Q S hE hl hret
  have hx := S.1
  have hb := S.2.1
  have hown := S.2.2.2.1
  have hl : lv_has ls 3 [(0, .int a1), (1, .int a2), (2, .int a3)] := hl
  unfold P_Codes_isWithin at h
  refine lv_iload_n hx hb d_Codes_isWithin_0 rfl (lv_at hl 0 rfl) ?_
  refine lv_iload_n hx hb d_Codes_isWithin_1 rfl (lv_at hl 1 rfl) ?_
  refine lv_icmp_lt (tgt := 14) hx hb d_Codes_isWithin_2 (by decide) (fun hc => ?_) (fun hc => ?_)
  · have h := ite_t hc h
    refine lv_iconst (v := 0) hx hb d_Codes_isWithin_14 (by decide) ?_
    obtain rfl := Option.some.inj h
    exact hret H locs ls 15 d_Codes_isWithin_15 narrow_b0 hE
  · have h := ite_f hc h
    refine lv_iload_n hx hb d_Codes_isWithin_5 rfl (lv_at hl 0 rfl) ?_
    refine lv_iload_n hx hb d_Codes_isWithin_6 rfl (lv_at hl 2 rfl) ?_
    refine lv_icmp_gt (tgt := 14) hx hb d_Codes_isWithin_7 (by decide) (fun hc => ?_) (fun hc => ?_)
    · have h := ite_t hc h
      refine lv_iconst (v := 0) hx hb d_Codes_isWithin_14 (by decide) ?_
      obtain rfl := Option.some.inj h
      exact hret H locs ls 15 d_Codes_isWithin_15 narrow_b0 hE
    · have h := ite_f hc h
      refine lv_iconst (v := 1) hx hb d_Codes_isWithin_10 (by decide) ?_
      refine lv_goto (tgt := 15) hx hb d_Codes_isWithin_11 (by decide) ?_
      obtain rfl := Option.some.inj h
      exact hret H locs ls 15 d_Codes_isWithin_15 narrow_b1 hE
abbrev rm_Codes_isOdd : Room := { frames := 0, cells := 0, slots := 0, locals := 0 }
theorem cf_Codes_isOdd : hn_CF y_Codes_isOdd b_Codes_isOdd 1 (some .boolean) 1 := ⟨mw_178, mw_8, by decide, by decide, by decide +kernel⟩
set_option maxHeartbeats 4000000 in
set_option maxRecDepth 100000 in
theorem c_Codes_isOdd (l : Launch) (D : va_G) (cI cZ : ClassId) (tt : Nat → Nat) (sz : Nat) (a1 : Int32) (o : Int32) (h : P_Codes_isOdd a1 = some o) : Met l y_Codes_isOdd (hn_w y_Codes_isOdd b_Codes_isOdd 1 (some .boolean)) rm_Codes_isOdd (hn_Pc D (TY cI cZ) tt [.int a1] sz []) (hn_Qz D [] sz [] o) 0 0 (va_A [] sz) := by
  refine hn_ofWz (own := R_Codes) (by decide) rfl (Nat.le_of_ble_eq_true rfl) ?_
  intro p e s m args below meth c A H locs ls Q S hE hl hret
  have hx := S.1
  have hb := S.2.1
  have hown := S.2.2.2.1
  have hl : lv_has ls 1 [(0, .int a1)] := hl
  unfold P_Codes_isOdd at h
  refine lv_iload_n hx hb d_Codes_isOdd_0 rfl (lv_at hl 0 rfl) ?_
  refine lv_sipush (v := 223) hx hb d_Codes_isOdd_1 (by decide) ?_
  refine lv_icmp_eq (tgt := 28) hx hb d_Codes_isOdd_4 (by decide) (fun hc => ?_) (fun hc => ?_)
  · have h := ite_t hc h
    refine lv_iconst (v := 1) hx hb d_Codes_isOdd_28 (by decide) ?_
    refine lv_goto (tgt := 33) hx hb d_Codes_isOdd_29 (by decide) ?_
    obtain rfl := Option.some.inj h
    exact hret H locs ls 33 d_Codes_isOdd_33 narrow_b1 hE
  · have h := ite_f hc h
    refine lv_iload_n hx hb d_Codes_isOdd_7 rfl (lv_at hl 0 rfl) ?_
    refine lv_sipush (v := 962) hx hb d_Codes_isOdd_8 (by decide) ?_
    refine lv_icmp_eq (tgt := 28) hx hb d_Codes_isOdd_11 (by decide) (fun hc => ?_) (fun hc => ?_)
    · have h := ite_t hc h
      refine lv_iconst (v := 1) hx hb d_Codes_isOdd_28 (by decide) ?_
      refine lv_goto (tgt := 33) hx hb d_Codes_isOdd_29 (by decide) ?_
      obtain rfl := Option.some.inj h
      exact hret H locs ls 33 d_Codes_isOdd_33 narrow_b1 hE
    · have h := ite_f hc h
      refine lv_iload_n hx hb d_Codes_isOdd_14 rfl (lv_at hl 0 rfl) ?_
      refine lv_sipush (v := 8204) hx hb d_Codes_isOdd_15 (by decide) ?_
      refine lv_icmp_eq (tgt := 28) hx hb d_Codes_isOdd_18 (by decide) (fun hc => ?_) (fun hc => ?_)
      · have h := ite_t hc h
        refine lv_iconst (v := 1) hx hb d_Codes_isOdd_28 (by decide) ?_
        refine lv_goto (tgt := 33) hx hb d_Codes_isOdd_29 (by decide) ?_
        obtain rfl := Option.some.inj h
        exact hret H locs ls 33 d_Codes_isOdd_33 narrow_b1 hE
      · have h := ite_f hc h
        refine lv_iload_n hx hb d_Codes_isOdd_21 rfl (lv_at hl 0 rfl) ?_
        refine lv_sipush (v := 8205) hx hb d_Codes_isOdd_22 (by decide) ?_
        refine lv_icmp_ne (tgt := 32) hx hb d_Codes_isOdd_25 (by decide) (fun hc => ?_) (fun hc => ?_)
        · have h := ite_f hc h
          refine lv_iconst (v := 0) hx hb d_Codes_isOdd_32 (by decide) ?_
          obtain rfl := Option.some.inj h
          exact hret H locs ls 33 d_Codes_isOdd_33 narrow_b0 hE
        · have h := ite_t hc h
          refine lv_iconst (v := 1) hx hb d_Codes_isOdd_28 (by decide) ?_
          refine lv_goto (tgt := 33) hx hb d_Codes_isOdd_29 (by decide) ?_
          obtain rfl := Option.some.inj h
          exact hret H locs ls 33 d_Codes_isOdd_33 narrow_b1 hE
abbrev rm_Codes_isCapital : Room := { frames := 0, cells := 0, slots := 0, locals := 0 }
theorem cf_Codes_isCapital : hn_CF y_Codes_isCapital b_Codes_isCapital 1 (some .boolean) 1 := ⟨mw_192, mw_8, by decide, by decide, by decide +kernel⟩
set_option maxHeartbeats 4000000 in
set_option maxRecDepth 100000 in
theorem c_Codes_isCapital (l : Launch) (D : va_G) (cI cZ : ClassId) (tt : Nat → Nat) (sz : Nat) (a1 : Int32) (o : Int32) (h : P_Codes_isCapital a1 = some o) : Met l y_Codes_isCapital (hn_w y_Codes_isCapital b_Codes_isCapital 1 (some .boolean)) rm_Codes_isCapital (hn_Pc D (TY cI cZ) tt [.int a1] sz []) (hn_Qz D [] sz [] o) 0 0 (va_A [] sz) := by
  refine hn_ofWz (own := R_Codes) (by decide) rfl (Nat.le_of_ble_eq_true rfl) ?_
  intro p e s m args below meth c A H locs ls Q S hE hl hret
  have hx := S.1
  have hb := S.2.1
  have hown := S.2.2.2.1
  have hl : lv_has ls 1 [(0, .int a1)] := hl
  unfold P_Codes_isCapital at h
  refine lv_iload_n hx hb d_Codes_isCapital_0 rfl (lv_at hl 0 rfl) ?_
  refine lv_bipush (v := 65) hx hb d_Codes_isCapital_1 (by decide) ?_
  refine lv_icmp_lt (tgt := 16) hx hb d_Codes_isCapital_3 (by decide) (fun hc => ?_) (fun hc => ?_)
  · have h := ite_t hc h
    refine lv_iconst (v := 0) hx hb d_Codes_isCapital_16 (by decide) ?_
    obtain rfl := Option.some.inj h
    exact hret H locs ls 17 d_Codes_isCapital_17 narrow_b0 hE
  · have h := ite_f hc h
    refine lv_iload_n hx hb d_Codes_isCapital_6 rfl (lv_at hl 0 rfl) ?_
    refine lv_bipush (v := 90) hx hb d_Codes_isCapital_7 (by decide) ?_
    refine lv_icmp_gt (tgt := 16) hx hb d_Codes_isCapital_9 (by decide) (fun hc => ?_) (fun hc => ?_)
    · have h := ite_t hc h
      refine lv_iconst (v := 0) hx hb d_Codes_isCapital_16 (by decide) ?_
      obtain rfl := Option.some.inj h
      exact hret H locs ls 17 d_Codes_isCapital_17 narrow_b0 hE
    · have h := ite_f hc h
      refine lv_iconst (v := 1) hx hb d_Codes_isCapital_12 (by decide) ?_
      refine lv_goto (tgt := 17) hx hb d_Codes_isCapital_13 (by decide) ?_
      obtain rfl := Option.some.inj h
      exact hret H locs ls 17 d_Codes_isCapital_17 narrow_b1 hE
abbrev rm_Codes_mappedTo : Room := { frames := 1, cells := 0, slots := 0, locals := 22 }
theorem cf_Codes_mappedTo : hn_CF y_Codes_mappedTo b_Codes_mappedTo 3 (some .int) 1 := ⟨mw_185, mw_8, by decide, by decide, by decide +kernel⟩
set_option maxHeartbeats 4000000 in
set_option maxRecDepth 100000 in
theorem c_Codes_mappedTo (l : Launch) (D : va_G) (cI cZ : ClassId) (tt : Nat → Nat) (sz : Nat) (a1 : Int32) (o : Int32) (h : P_Codes_mappedTo a1 = some o) : Met l y_Codes_mappedTo (hn_w y_Codes_mappedTo b_Codes_mappedTo 3 (some .int)) rm_Codes_mappedTo (hn_Pc D (TY cI cZ) tt [.int a1] sz []) (hn_Qi D [] sz [] o) 0 0 (va_A [] sz) := by
  refine hn_ofWi (own := R_Codes) (by decide) rfl (Nat.le_of_ble_eq_true rfl) ?_
  intro p e s m args below meth c A H locs ls Q S hE hl hret
  have hx := S.1
  have hb := S.2.1
  have hown := S.2.2.2.1
  have hl : lv_has ls 3 [(0, .int a1)] := hl
  have hj93 : ∀ (v1 : Int32) (s0 : Int32) (H : Heap) (locs : List Loc) (ls : Array Slot), hn_E D (TY cI cZ) tt A s H locs [] → lv_has ls 3 [(0, .int a1), (1, .int v1)] → P_Codes_mappedTo_93 a1 v1 s0 = some o → W p l e rm_Codes_mappedTo s m args below meth c H locs 0 0 Q (F0 m 93 ls [.int s0]) := by
    intro v1 s0 H locs ls hE hl h
    unfold P_Codes_mappedTo_93 at h
    refine lv_istore_n (lv' := [(2, .int s0), (0, .int a1), (1, .int v1)]) hx hb d_Codes_mappedTo_93 rfl hl (by decide) rfl (fun ls hl => ?_)
    refine lv_iload_n hx hb d_Codes_mappedTo_94 rfl (lv_at hl 1 rfl) ?_
    obtain ⟨x95, hc95, h⟩ := bd_s h
    have hM := (c_Codes_isCapital l D cI cZ tt H.size a1 x95 hc95)
    refine hn_cz hE (hn_runS (As := [.int a1]) (rest := []) S hE hM cf_Codes_isCapital mw_190 mw_191 ⟨rfl, rfl⟩ ⟨Nat.le_of_ble_eq_true rfl, Nat.le_of_ble_eq_true rfl⟩ [] rfl rfl rfl rfl hl.1 (lv_room (Nat.le_of_ble_eq_true rfl)) d_Codes_mappedTo_95 ⟨Nat.zero_le _, Nat.zero_le _⟩) [] rfl rfl (fun H locs hz95 hE => ?_)
    have hE : hn_E D (TY cI cZ) tt A s H locs [] := hE
    refine lv_if_ne (tgt := 109) hx hb d_Codes_mappedTo_98 (by decide) (fun hc => ?_) (fun hc => ?_)
    · have h := ite_f hc h
      refine lv_iload_n hx hb d_Codes_mappedTo_109 rfl (lv_at hl 1 rfl) ?_
      refine lv_bipush (v := 32) hx hb d_Codes_mappedTo_110 (by decide) ?_
      refine lv_iadd hx hb d_Codes_mappedTo_112 ?_
      refine lv_goto (tgt := 117) hx hb d_Codes_mappedTo_113 (by decide) ?_
      obtain rfl := Option.some.inj h
      exact hret H locs ls 117 d_Codes_mappedTo_117 hE
    · have h := ite_t hc h
      refine lv_iload_n hx hb d_Codes_mappedTo_101 rfl (lv_at hl 2 rfl) ?_
      refine lv_if_ne (tgt := 109) hx hb d_Codes_mappedTo_102 (by decide) (fun hc => ?_) (fun hc => ?_)
      · have h := ite_f hc h
        refine lv_iload_n hx hb d_Codes_mappedTo_109 rfl (lv_at hl 1 rfl) ?_
        refine lv_bipush (v := 32) hx hb d_Codes_mappedTo_110 (by decide) ?_
        refine lv_iadd hx hb d_Codes_mappedTo_112 ?_
        refine lv_goto (tgt := 117) hx hb d_Codes_mappedTo_113 (by decide) ?_
        obtain rfl := Option.some.inj h
        exact hret H locs ls 117 d_Codes_mappedTo_117 hE
      · have h := ite_t hc h
        refine lv_iload_n hx hb d_Codes_mappedTo_105 rfl (lv_at hl 0 rfl) ?_
        refine lv_if_eq (tgt := 116) hx hb d_Codes_mappedTo_106 (by decide) (fun hc => ?_) (fun hc => ?_)
        · have h := ite_t hc h
          refine lv_iload_n hx hb d_Codes_mappedTo_116 rfl (lv_at hl 1 rfl) ?_
          obtain rfl := Option.some.inj h
          exact hret H locs ls 117 d_Codes_mappedTo_117 hE
        · have h := ite_f hc h
          refine lv_iload_n hx hb d_Codes_mappedTo_109 rfl (lv_at hl 1 rfl) ?_
          refine lv_bipush (v := 32) hx hb d_Codes_mappedTo_110 (by decide) ?_
          refine lv_iadd hx hb d_Codes_mappedTo_112 ?_
          refine lv_goto (tgt := 117) hx hb d_Codes_mappedTo_113 (by decide) ?_
          obtain rfl := Option.some.inj h
          exact hret H locs ls 117 d_Codes_mappedTo_117 hE
  have hj67 : ∀ (s0 : Int32) (H : Heap) (locs : List Loc) (ls : Array Slot), hn_E D (TY cI cZ) tt A s H locs [] → lv_has ls 3 [(0, .int a1)] → P_Codes_mappedTo_67 a1 s0 = some o → W p l e rm_Codes_mappedTo s m args below meth c H locs 0 0 Q (F0 m 67 ls [.int s0]) := by
    intro s0 H locs ls hE hl h
    unfold P_Codes_mappedTo_67 at h
    refine lv_istore_n (lv' := [(1, .int s0), (0, .int a1)]) hx hb d_Codes_mappedTo_67 rfl hl (by decide) rfl (fun ls hl => ?_)
    refine lv_iload_n hx hb d_Codes_mappedTo_68 rfl (lv_at hl 1 rfl) ?_
    refine lv_sipush (v := 913) hx hb d_Codes_mappedTo_69 (by decide) ?_
    refine lv_sipush (v := 937) hx hb d_Codes_mappedTo_72 (by decide) ?_
    obtain ⟨x75, hc75, h⟩ := bd_s h
    have hM := (c_Codes_isWithin l D cI cZ tt H.size a1 (913 : Int32) (937 : Int32) x75 hc75)
    refine hn_cz hE (hn_runS (As := [.int a1, .int (913 : Int32), .int (937 : Int32)]) (rest := []) S hE hM cf_Codes_isWithin mw_188 mw_137 ⟨rfl, rfl⟩ ⟨Nat.le_of_ble_eq_true rfl, Nat.le_of_ble_eq_true rfl⟩ [] rfl rfl rfl rfl hl.1 (lv_room (Nat.le_of_ble_eq_true rfl)) d_Codes_mappedTo_75 ⟨Nat.zero_le _, Nat.zero_le _⟩) [] rfl rfl (fun H locs hz75 hE => ?_)
    have hE : hn_E D (TY cI cZ) tt A s H locs [] := hE
    refine lv_if_eq (tgt := 92) hx hb d_Codes_mappedTo_78 (by decide) (fun hc => ?_) (fun hc => ?_)
    · have h := ite_t hc h
      refine lv_iconst (v := 0) hx hb d_Codes_mappedTo_92 (by decide) ?_
      exact hj93 s0 (0 : Int32) H locs ls hE (lv_sub hl [1, 0] rfl) h
    · have h := ite_f hc h
      refine lv_iload_n hx hb d_Codes_mappedTo_81 rfl (lv_at hl 1 rfl) ?_
      refine lv_sipush (v := 930) hx hb d_Codes_mappedTo_82 (by decide) ?_
      refine lv_icmp_eq (tgt := 92) hx hb d_Codes_mappedTo_85 (by decide) (fun hc => ?_) (fun hc => ?_)
      · have h := ite_t hc h
        refine lv_iconst (v := 0) hx hb d_Codes_mappedTo_92 (by decide) ?_
        exact hj93 s0 (0 : Int32) H locs ls hE (lv_sub hl [1, 0] rfl) h
      · have h := ite_f hc h
        refine lv_iconst (v := 1) hx hb d_Codes_mappedTo_88 (by decide) ?_
        refine lv_goto (tgt := 93) hx hb d_Codes_mappedTo_89 (by decide) ?_
        exact hj93 s0 (1 : Int32) H locs ls hE (lv_sub hl [1, 0] rfl) h
  unfold P_Codes_mappedTo at h
  refine lv_iload_n hx hb d_Codes_mappedTo_0 rfl (lv_at hl 0 rfl) ?_
  refine lv_ldc (v := 65281) hx hb hown (S.2.2.2.2 _ mw_186) d_Codes_mappedTo_1 ?_
  refine lv_ldc (v := 65374) hx hb hown (S.2.2.2.2 _ mw_187) d_Codes_mappedTo_3 ?_
  obtain ⟨x5, hc5, h⟩ := bd_s h
  have hM := (c_Codes_isWithin l D cI cZ tt H.size a1 (65281 : Int32) (65374 : Int32) x5 hc5)
  refine hn_cz hE (hn_runS (As := [.int a1, .int (65281 : Int32), .int (65374 : Int32)]) (rest := []) S hE hM cf_Codes_isWithin mw_188 mw_137 ⟨rfl, rfl⟩ ⟨Nat.le_of_ble_eq_true rfl, Nat.le_of_ble_eq_true rfl⟩ [] rfl rfl rfl rfl hl.1 (lv_room (Nat.le_of_ble_eq_true rfl)) d_Codes_mappedTo_5 ⟨Nat.zero_le _, Nat.zero_le _⟩) [] rfl rfl (fun H locs hz5 hE => ?_)
  have hE : hn_E D (TY cI cZ) tt A s H locs [] := hE
  refine lv_if_eq (tgt := 32) hx hb d_Codes_mappedTo_8 (by decide) (fun hc => ?_) (fun hc => ?_)
  · have h := ite_t hc h
    refine lv_iload_n hx hb d_Codes_mappedTo_32 rfl (lv_at hl 0 rfl) ?_
    refine lv_sipush (v := 12290) hx hb d_Codes_mappedTo_33 (by decide) ?_
    refine lv_icmp_ne (tgt := 42) hx hb d_Codes_mappedTo_36 (by decide) (fun hc => ?_) (fun hc => ?_)
    · have h := ite_f hc h
      refine lv_iload_n hx hb d_Codes_mappedTo_42 rfl (lv_at hl 0 rfl) ?_
      refine lv_sipush (v := 192) hx hb d_Codes_mappedTo_43 (by decide) ?_
      refine lv_sipush (v := 222) hx hb d_Codes_mappedTo_46 (by decide) ?_
      obtain ⟨x49, hc49, h⟩ := bd_s h
      have hM := (c_Codes_isWithin l D cI cZ tt H.size a1 (192 : Int32) (222 : Int32) x49 hc49)
      refine hn_cz hE (hn_runS (As := [.int a1, .int (192 : Int32), .int (222 : Int32)]) (rest := []) S hE hM cf_Codes_isWithin mw_188 mw_137 ⟨rfl, rfl⟩ ⟨Nat.le_of_ble_eq_true rfl, Nat.le_of_ble_eq_true rfl⟩ [] rfl rfl rfl rfl hl.1 (lv_room (Nat.le_of_ble_eq_true rfl)) d_Codes_mappedTo_49 ⟨Nat.zero_le _, Nat.zero_le _⟩) [] rfl rfl (fun H locs hz49 hE => ?_)
      have hE : hn_E D (TY cI cZ) tt A s H locs [] := hE
      refine lv_if_eq (tgt := 66) hx hb d_Codes_mappedTo_52 (by decide) (fun hc => ?_) (fun hc => ?_)
      · have h := ite_t hc h
        refine lv_iconst (v := 0) hx hb d_Codes_mappedTo_66 (by decide) ?_
        exact hj67 (0 : Int32) H locs ls hE (lv_sub hl [0] rfl) h
      · have h := ite_f hc h
        refine lv_iload_n hx hb d_Codes_mappedTo_55 rfl (lv_at hl 0 rfl) ?_
        refine lv_sipush (v := 215) hx hb d_Codes_mappedTo_56 (by decide) ?_
        refine lv_icmp_eq (tgt := 66) hx hb d_Codes_mappedTo_59 (by decide) (fun hc => ?_) (fun hc => ?_)
        · have h := ite_t hc h
          refine lv_iconst (v := 0) hx hb d_Codes_mappedTo_66 (by decide) ?_
          exact hj67 (0 : Int32) H locs ls hE (lv_sub hl [0] rfl) h
        · have h := ite_f hc h
          refine lv_iconst (v := 1) hx hb d_Codes_mappedTo_62 (by decide) ?_
          refine lv_goto (tgt := 67) hx hb d_Codes_mappedTo_63 (by decide) ?_
          exact hj67 (1 : Int32) H locs ls hE (lv_sub hl [0] rfl) h
    · have h := ite_t hc h
      refine lv_bipush (v := 46) hx hb d_Codes_mappedTo_39 (by decide) ?_
      obtain rfl := Option.some.inj h
      exact hret H locs ls 41 d_Codes_mappedTo_41 hE
  · have h := ite_f hc h
    refine lv_iload_n hx hb d_Codes_mappedTo_11 rfl (lv_at hl 0 rfl) ?_
    refine lv_ldc (v := 65248) hx hb hown (S.2.2.2.2 _ mw_189) d_Codes_mappedTo_12 ?_
    refine lv_isub hx hb d_Codes_mappedTo_14 ?_
    refine lv_istore_n (lv' := [(1, .int (a1 - (65248 : Int32))), (0, .int a1)]) hx hb d_Codes_mappedTo_15 rfl hl (by decide) rfl (fun ls hl => ?_)
    refine lv_iload_n hx hb d_Codes_mappedTo_16 rfl (lv_at hl 0 rfl) ?_
    obtain ⟨x17, hc17, h⟩ := bd_s h
    have hM := (c_Codes_isCapital l D cI cZ tt H.size (a1 - (65248 : Int32)) x17 hc17)
    refine hn_cz hE (hn_runS (As := [.int (a1 - (65248 : Int32))]) (rest := []) S hE hM cf_Codes_isCapital mw_190 mw_191 ⟨rfl, rfl⟩ ⟨Nat.le_of_ble_eq_true rfl, Nat.le_of_ble_eq_true rfl⟩ [] rfl rfl rfl rfl hl.1 (lv_room (Nat.le_of_ble_eq_true rfl)) d_Codes_mappedTo_17 ⟨Nat.zero_le _, Nat.zero_le _⟩) [] rfl rfl (fun H locs hz17 hE => ?_)
    have hE : hn_E D (TY cI cZ) tt A s H locs [] := hE
    refine lv_if_eq (tgt := 30) hx hb d_Codes_mappedTo_20 (by decide) (fun hc => ?_) (fun hc => ?_)
    · have h := ite_t hc h
      refine lv_iload_n hx hb d_Codes_mappedTo_30 rfl (lv_at hl 0 rfl) ?_
      obtain rfl := Option.some.inj h
      exact hret H locs ls 31 d_Codes_mappedTo_31 hE
    · have h := ite_f hc h
      refine lv_iload_n hx hb d_Codes_mappedTo_23 rfl (lv_at hl 0 rfl) ?_
      refine lv_bipush (v := 32) hx hb d_Codes_mappedTo_24 (by decide) ?_
      refine lv_iadd hx hb d_Codes_mappedTo_26 ?_
      refine lv_goto (tgt := 31) hx hb d_Codes_mappedTo_27 (by decide) ?_
      obtain rfl := Option.some.inj h
      exact hret H locs ls 31 d_Codes_mappedTo_31 hE
abbrev rm_Codes_isInGoodRanges : Room := { frames := 0, cells := 0, slots := 0, locals := 0 }
theorem cf_Codes_isInGoodRanges : hn_CF y_Codes_isInGoodRanges b_Codes_isInGoodRanges 2 (some .boolean) 1 := ⟨mw_198, mw_8, by decide, by decide, by decide +kernel⟩
set_option maxHeartbeats 4000000 in
set_option maxRecDepth 100000 in
theorem c_Codes_isInGoodRanges (l : Launch) (D : va_G) (cI cZ : ClassId) (tt : Nat → Nat) (sz : Nat) (a1 : Int32) (o : Int32) (h : P_Codes_isInGoodRanges a1 = some o) : Met l y_Codes_isInGoodRanges (hn_w y_Codes_isInGoodRanges b_Codes_isInGoodRanges 2 (some .boolean)) rm_Codes_isInGoodRanges (hn_Pc D (TY cI cZ) tt [.int a1] sz []) (hn_Qz D [] sz [] o) 0 0 (va_A [] sz) := by
  refine hn_ofWz (own := R_Codes) (by decide) rfl (Nat.le_of_ble_eq_true rfl) ?_
  intro p e s m args below meth c A H locs ls Q S hE hl hret
  have hx := S.1
  have hb := S.2.1
  have hown := S.2.2.2.1
  have hl : lv_has ls 2 [(0, .int a1)] := hl
  have hL2 : ∀ (kf : Nat) (v1 : Int32) (H : Heap) (locs : List Loc) (ls : Array Slot), hn_E D (TY cI cZ) tt A s H locs [] → lv_has ls 2 [(0, .int a1), (1, .int v1)] → fl1 (P_Codes_isInGoodRanges_2 a1) kf v1 = some o → W p l e rm_Codes_isInGoodRanges s m args below meth c H locs 0 0 Q (F0 m 2 ls []) := by
    intro kf
    induction kf with
    | zero => intro v1 H locs ls hE hl h; exact no_s h
    | succ kf ih =>
      intro v1 H locs ls hE hl h
      have h : P_Codes_isInGoodRanges_2 a1 (fl1 (P_Codes_isInGoodRanges_2 a1) kf) v1 = some o := h
      generalize fl1 (P_Codes_isInGoodRanges_2 a1) kf = k2 at ih h
      have hk2 := ih
      unfold P_Codes_isInGoodRanges_2 at h
      refine lv_iload_n hx hb d_Codes_isInGoodRanges_2 rfl (lv_at hl 1 rfl) ?_
      refine lv_iconst (v := 1) hx hb d_Codes_isInGoodRanges_3 (by decide) ?_
      refine lv_iadd hx hb d_Codes_isInGoodRanges_4 ?_
      refine hn_gets S hE st_z0 mw_199 d_Codes_isInGoodRanges_5 ?_
      refine hn_tlen S hE st_t0 (v := 36) (by decide) d_Codes_isInGoodRanges_8 ?_
      refine lv_icmp_ge (tgt := 40) hx hb d_Codes_isInGoodRanges_9 (by decide) (fun hc => ?_) (fun hc => ?_)
      · have h := ite_t hc h
        refine lv_iconst (v := 0) hx hb d_Codes_isInGoodRanges_40 (by decide) ?_
        obtain rfl := Option.some.inj h
        exact hret H locs ls 41 d_Codes_isInGoodRanges_41 narrow_b0 hE
      · have h := ite_f hc h
        refine lv_iload_n hx hb d_Codes_isInGoodRanges_12 rfl (lv_at hl 0 rfl) ?_
        refine hn_gets S hE st_z0 mw_199 d_Codes_isInGoodRanges_13 ?_
        refine lv_iload_n hx hb d_Codes_isInGoodRanges_16 rfl (lv_at hl 1 rfl) ?_
        obtain ⟨hi17, h⟩ := gi_s h
        refine hn_ti S hE st_t0 hi17 rfl d_Codes_isInGoodRanges_17 ?_
        refine lv_icmp_lt (tgt := 34) hx hb d_Codes_isInGoodRanges_18 (by decide) (fun hc => ?_) (fun hc => ?_)
        · have h := ite_t hc h
          refine lv_iinc (v := (v1 + (2 : Int32))) (lv' := [(1, .int (v1 + (2 : Int32))), (0, .int a1)]) hx hb d_Codes_isInGoodRanges_34 hl (k := 1) rfl rfl (by decide) rfl (fun ls hl => ?_)
          refine lv_goto (tgt := 2) hx hb d_Codes_isInGoodRanges_37 (by decide) ?_
          exact hk2 (v1 + (2 : Int32)) H locs ls hE (lv_sub hl [1, 0] rfl) h
        · have h := ite_f hc h
          refine lv_iload_n hx hb d_Codes_isInGoodRanges_21 rfl (lv_at hl 0 rfl) ?_
          refine hn_gets S hE st_z0 mw_199 d_Codes_isInGoodRanges_22 ?_
          refine lv_iload_n hx hb d_Codes_isInGoodRanges_25 rfl (lv_at hl 1 rfl) ?_
          refine lv_iconst (v := 1) hx hb d_Codes_isInGoodRanges_26 (by decide) ?_
          refine lv_iadd hx hb d_Codes_isInGoodRanges_27 ?_
          obtain ⟨hi28, h⟩ := gi_s h
          refine hn_ti S hE st_t0 hi28 rfl d_Codes_isInGoodRanges_28 ?_
          refine lv_icmp_gt (tgt := 34) hx hb d_Codes_isInGoodRanges_29 (by decide) (fun hc => ?_) (fun hc => ?_)
          · have h := ite_t hc h
            refine lv_iinc (v := (v1 + (2 : Int32))) (lv' := [(1, .int (v1 + (2 : Int32))), (0, .int a1)]) hx hb d_Codes_isInGoodRanges_34 hl (k := 1) rfl rfl (by decide) rfl (fun ls hl => ?_)
            refine lv_goto (tgt := 2) hx hb d_Codes_isInGoodRanges_37 (by decide) ?_
            exact hk2 (v1 + (2 : Int32)) H locs ls hE (lv_sub hl [1, 0] rfl) h
          · have h := ite_f hc h
            refine lv_iconst (v := 1) hx hb d_Codes_isInGoodRanges_32 (by decide) ?_
            obtain rfl := Option.some.inj h
            exact hret H locs ls 33 d_Codes_isInGoodRanges_33 narrow_b1 hE
  unfold P_Codes_isInGoodRanges at h
  refine lv_iconst (v := 0) hx hb d_Codes_isInGoodRanges_0 (by decide) ?_
  refine lv_istore_n (lv' := [(1, .int (0 : Int32)), (0, .int a1)]) hx hb d_Codes_isInGoodRanges_1 rfl hl (by decide) rfl (fun ls hl => ?_)
  exact hL2 fu (0 : Int32) H locs ls hE (lv_sub hl [1, 0] rfl) h
abbrev rm_Codes_isPlain : Room := { frames := 1, cells := 0, slots := 0, locals := 22 }
theorem cf_Codes_isPlain : hn_CF y_Codes_isPlain b_Codes_isPlain 1 (some .boolean) 1 := ⟨mw_203, mw_8, by decide, by decide, by decide +kernel⟩
set_option maxHeartbeats 4000000 in
set_option maxRecDepth 100000 in
theorem c_Codes_isPlain (l : Launch) (D : va_G) (cI cZ : ClassId) (tt : Nat → Nat) (sz : Nat) (a1 : Int32) (o : Int32) (h : P_Codes_isPlain a1 = some o) : Met l y_Codes_isPlain (hn_w y_Codes_isPlain b_Codes_isPlain 1 (some .boolean)) rm_Codes_isPlain (hn_Pc D (TY cI cZ) tt [.int a1] sz []) (hn_Qz D [] sz [] o) 0 0 (va_A [] sz) := by
  refine hn_ofWz (own := R_Codes) (by decide) rfl (Nat.le_of_ble_eq_true rfl) ?_
  intro p e s m args below meth c A H locs ls Q S hE hl hret
  have hx := S.1
  have hb := S.2.1
  have hown := S.2.2.2.1
  have hl : lv_has ls 1 [(0, .int a1)] := hl
  unfold P_Codes_isPlain at h
  refine lv_iload_n hx hb d_Codes_isPlain_0 rfl (lv_at hl 0 rfl) ?_
  refine lv_iconst (v := 0) hx hb d_Codes_isPlain_1 (by decide) ?_
  refine lv_bipush (v := 127) hx hb d_Codes_isPlain_2 (by decide) ?_
  obtain ⟨x4, hc4, h⟩ := bd_s h
  have hM := (c_Codes_isWithin l D cI cZ tt H.size a1 (0 : Int32) (127 : Int32) x4 hc4)
  refine hn_cz hE (hn_runS (As := [.int a1, .int (0 : Int32), .int (127 : Int32)]) (rest := []) S hE hM cf_Codes_isWithin mw_188 mw_137 ⟨rfl, rfl⟩ ⟨Nat.le_of_ble_eq_true rfl, Nat.le_of_ble_eq_true rfl⟩ [] rfl rfl rfl rfl hl.1 (lv_room (Nat.le_of_ble_eq_true rfl)) d_Codes_isPlain_4 ⟨Nat.zero_le _, Nat.zero_le _⟩) [] rfl rfl (fun H locs hz4 hE => ?_)
  have hE : hn_E D (TY cI cZ) tt A s H locs [] := hE
  refine lv_if_eq (tgt := 28) hx hb d_Codes_isPlain_7 (by decide) (fun hc => ?_) (fun hc => ?_)
  · have h := ite_t hc h
    refine lv_iconst (v := 0) hx hb d_Codes_isPlain_28 (by decide) ?_
    obtain rfl := Option.some.inj h
    exact hret H locs ls 29 d_Codes_isPlain_29 narrow_b0 hE
  · have h := ite_f hc h
    refine lv_iload_n hx hb d_Codes_isPlain_10 rfl (lv_at hl 0 rfl) ?_
    obtain ⟨x11, hc11, h⟩ := bd_s h
    have hM := (c_Codes_isCapital l D cI cZ tt H.size a1 x11 hc11)
    refine hn_cz hE (hn_runS (As := [.int a1]) (rest := []) S hE hM cf_Codes_isCapital mw_190 mw_191 ⟨rfl, rfl⟩ ⟨Nat.le_of_ble_eq_true rfl, Nat.le_of_ble_eq_true rfl⟩ [] rfl rfl rfl rfl hl.1 (lv_room (Nat.le_of_ble_eq_true rfl)) d_Codes_isPlain_11 ⟨Nat.zero_le _, Nat.zero_le _⟩) [] rfl rfl (fun H locs hz11 hE => ?_)
    have hE : hn_E D (TY cI cZ) tt A s H locs [] := hE
    refine lv_if_ne (tgt := 28) hx hb d_Codes_isPlain_14 (by decide) (fun hc => ?_) (fun hc => ?_)
    · have h := ite_f hc h
      refine lv_iconst (v := 0) hx hb d_Codes_isPlain_28 (by decide) ?_
      obtain rfl := Option.some.inj h
      exact hret H locs ls 29 d_Codes_isPlain_29 narrow_b0 hE
    · have h := ite_t hc h
      refine lv_iload_n hx hb d_Codes_isPlain_17 rfl (lv_at hl 0 rfl) ?_
      obtain ⟨x18, hc18, h⟩ := bd_s h
      have hM := (c_Codes_isInGoodRanges l D cI cZ tt H.size a1 x18 hc18)
      refine hn_cz hE (hn_runS (As := [.int a1]) (rest := []) S hE hM cf_Codes_isInGoodRanges mw_196 mw_197 ⟨rfl, rfl⟩ ⟨Nat.le_of_ble_eq_true rfl, Nat.le_of_ble_eq_true rfl⟩ [] rfl rfl rfl rfl hl.1 (lv_room (Nat.le_of_ble_eq_true rfl)) d_Codes_isPlain_18 ⟨Nat.zero_le _, Nat.zero_le _⟩) [] rfl rfl (fun H locs hz18 hE => ?_)
      have hE : hn_E D (TY cI cZ) tt A s H locs [] := hE
      refine lv_if_ne (tgt := 28) hx hb d_Codes_isPlain_21 (by decide) (fun hc => ?_) (fun hc => ?_)
      · have h := ite_f hc h
        refine lv_iconst (v := 0) hx hb d_Codes_isPlain_28 (by decide) ?_
        obtain rfl := Option.some.inj h
        exact hret H locs ls 29 d_Codes_isPlain_29 narrow_b0 hE
      · have h := ite_t hc h
        refine lv_iconst (v := 1) hx hb d_Codes_isPlain_24 (by decide) ?_
        refine lv_goto (tgt := 29) hx hb d_Codes_isPlain_25 (by decide) ?_
        obtain rfl := Option.some.inj h
        exact hret H locs ls 29 d_Codes_isPlain_29 narrow_b1 hE
abbrev rm_Codes_isGood : Room := { frames := 2, cells := 0, slots := 0, locals := 42 }
theorem cf_Codes_isGood : hn_CF y_Codes_isGood b_Codes_isGood 3 (some .boolean) 3 := ⟨mw_195, mw_8, by decide, by decide, by decide +kernel⟩
set_option maxHeartbeats 4000000 in
set_option maxRecDepth 100000 in
theorem c_Codes_isGood (l : Launch) (D : va_G) (cI cZ : ClassId) (tt : Nat → Nat) (sz : Nat) (a1 : Int32) (a2 : Int32) (a3 : Int32) (o : Int32) (h : P_Codes_isGood a1 a2 a3 = some o) : Met l y_Codes_isGood (hn_w y_Codes_isGood b_Codes_isGood 3 (some .boolean)) rm_Codes_isGood (hn_Pc D (TY cI cZ) tt [.int a1, .int a2, .int a3] sz []) (hn_Qz D [] sz [] o) 0 0 (va_A [] sz) := by
  refine hn_ofWz (own := R_Codes) (by decide) rfl (Nat.le_of_ble_eq_true rfl) ?_
  intro p e s m args below meth c A H locs ls Q S hE hl hret
  have hx := S.1
  have hb := S.2.1
  have hown := S.2.2.2.1
  have hl : lv_has ls 3 [(0, .int a1), (1, .int a2), (2, .int a3)] := hl
  have hj18 : ∀ (H : Heap) (locs : List Loc) (ls : Array Slot), hn_E D (TY cI cZ) tt A s H locs [] → lv_has ls 3 [(0, .int a1), (2, .int a3)] → P_Codes_isGood_18 a1 a3 = some o → W p l e rm_Codes_isGood s m args below meth c H locs 0 0 Q (F0 m 18 ls []) := by
    intro H locs ls hE hl h
    unfold P_Codes_isGood_18 at h
    refine lv_iload_n hx hb d_Codes_isGood_18 rfl (lv_at hl 1 rfl) ?_
    refine lv_if_ne (tgt := 33) hx hb d_Codes_isGood_19 (by decide) (fun hc => ?_) (fun hc => ?_)
    · have h := ite_f hc h
      refine lv_iconst (v := 0) hx hb d_Codes_isGood_33 (by decide) ?_
      obtain rfl := Option.some.inj h
      exact hret H locs ls 34 d_Codes_isGood_34 narrow_b0 hE
    · have h := ite_t hc h
      refine lv_iload_n hx hb d_Codes_isGood_22 rfl (lv_at hl 0 rfl) ?_
      obtain ⟨x23, hc23, h⟩ := bd_s h
      have hM := (c_Codes_isOdd l D cI cZ tt H.size a1 x23 hc23)
      refine hn_cz hE (hn_runS (As := [.int a1]) (rest := []) S hE hM cf_Codes_isOdd mw_204 mw_177 ⟨rfl, rfl⟩ ⟨Nat.le_of_ble_eq_true rfl, Nat.le_of_ble_eq_true rfl⟩ [] rfl rfl rfl rfl hl.1 (lv_room (Nat.le_of_ble_eq_true rfl)) d_Codes_isGood_23 ⟨Nat.zero_le _, Nat.zero_le _⟩) [] rfl rfl (fun H locs hz23 hE => ?_)
      have hE : hn_E D (TY cI cZ) tt A s H locs [] := hE
      refine lv_if_eq (tgt := 33) hx hb d_Codes_isGood_26 (by decide) (fun hc => ?_) (fun hc => ?_)
      · have h := ite_t hc h
        refine lv_iconst (v := 0) hx hb d_Codes_isGood_33 (by decide) ?_
        obtain rfl := Option.some.inj h
        exact hret H locs ls 34 d_Codes_isGood_34 narrow_b0 hE
      · have h := ite_f hc h
        refine lv_iconst (v := 1) hx hb d_Codes_isGood_29 (by decide) ?_
        refine lv_goto (tgt := 34) hx hb d_Codes_isGood_30 (by decide) ?_
        obtain rfl := Option.some.inj h
        exact hret H locs ls 34 d_Codes_isGood_34 narrow_b1 hE
  unfold P_Codes_isGood at h
  refine lv_iload_n hx hb d_Codes_isGood_0 rfl (lv_at hl 0 rfl) ?_
  obtain ⟨x1, hc1, h⟩ := bd_s h
  have hM := (c_Codes_isInGoodRanges l D cI cZ tt H.size a1 x1 hc1)
  refine hn_cz hE (hn_runS (As := [.int a1]) (rest := []) S hE hM cf_Codes_isInGoodRanges mw_196 mw_197 ⟨rfl, rfl⟩ ⟨Nat.le_of_ble_eq_true rfl, Nat.le_of_ble_eq_true rfl⟩ [] rfl rfl rfl rfl hl.1 (lv_room (Nat.le_of_ble_eq_true rfl)) d_Codes_isGood_1 ⟨Nat.zero_le _, Nat.zero_le _⟩) [] rfl rfl (fun H locs hz1 hE => ?_)
  have hE : hn_E D (TY cI cZ) tt A s H locs [] := hE
  refine lv_if_ne (tgt := 29) hx hb d_Codes_isGood_4 (by decide) (fun hc => ?_) (fun hc => ?_)
  · have h := ite_f hc h
    refine lv_iconst (v := 1) hx hb d_Codes_isGood_29 (by decide) ?_
    refine lv_goto (tgt := 34) hx hb d_Codes_isGood_30 (by decide) ?_
    obtain rfl := Option.some.inj h
    exact hret H locs ls 34 d_Codes_isGood_34 narrow_b1 hE
  · have h := ite_t hc h
    refine lv_iload_n hx hb d_Codes_isGood_7 rfl (lv_at hl 1 rfl) ?_
    refine lv_if_ne (tgt := 18) hx hb d_Codes_isGood_8 (by decide) (fun hc => ?_) (fun hc => ?_)
    · have h := ite_f hc h
      exact hj18 H locs ls hE (lv_sub hl [0, 2] rfl) h
    · have h := ite_t hc h
      refine lv_iload_n hx hb d_Codes_isGood_11 rfl (lv_at hl 0 rfl) ?_
      obtain ⟨x12, hc12, h⟩ := bd_s h
      have hM := (c_Codes_isPlain l D cI cZ tt H.size a1 x12 hc12)
      refine hn_cz hE (hn_runS (As := [.int a1]) (rest := []) S hE hM cf_Codes_isPlain mw_201 mw_202 ⟨rfl, rfl⟩ ⟨Nat.le_of_ble_eq_true rfl, Nat.le_of_ble_eq_true rfl⟩ [] rfl rfl rfl rfl hl.1 (lv_room (Nat.le_of_ble_eq_true rfl)) d_Codes_isGood_12 ⟨Nat.zero_le _, Nat.zero_le _⟩) [] rfl rfl (fun H locs hz12 hE => ?_)
      have hE : hn_E D (TY cI cZ) tt A s H locs [] := hE
      refine lv_if_ne (tgt := 29) hx hb d_Codes_isGood_15 (by decide) (fun hc => ?_) (fun hc => ?_)
      · have h := ite_f hc h
        refine lv_iconst (v := 1) hx hb d_Codes_isGood_29 (by decide) ?_
        refine lv_goto (tgt := 34) hx hb d_Codes_isGood_30 (by decide) ?_
        obtain rfl := Option.some.inj h
        exact hret H locs ls 34 d_Codes_isGood_34 narrow_b1 hE
      · have h := ite_t hc h
        exact hj18 H locs ls hE (lv_sub hl [0, 2] rfl) h
abbrev rm_Codes_order : Room := { frames := 0, cells := 0, slots := 0, locals := 0 }
theorem cf_Codes_order : hn_CF y_Codes_order b_Codes_order 1 (some .int) 1 := ⟨mw_235, mw_8, by decide, by decide, by decide +kernel⟩
set_option maxHeartbeats 4000000 in
set_option maxRecDepth 100000 in
theorem c_Codes_order (l : Launch) (D : va_G) (cI cZ : ClassId) (tt : Nat → Nat) (sz : Nat) (a1 : Int32) (o : Int32) (h : P_Codes_order a1 = some o) : Met l y_Codes_order (hn_w y_Codes_order b_Codes_order 1 (some .int)) rm_Codes_order (hn_Pc D (TY cI cZ) tt [.int a1] sz []) (hn_Qi D [] sz [] o) 0 0 (va_A [] sz) := by
  refine hn_ofWi (own := R_Codes) (by decide) rfl (Nat.le_of_ble_eq_true rfl) ?_
  intro p e s m args below meth c A H locs ls Q S hE hl hret
  have hx := S.1
  have hb := S.2.1
  have hown := S.2.2.2.1
  have hl : lv_has ls 1 [(0, .int a1)] := hl
  unfold P_Codes_order at h
  refine lv_iload_n hx hb d_Codes_order_0 rfl (lv_at hl 0 rfl) ?_
  by_cases hs768 : a1 = (768 : Int32)
  · have h := ite_t hs768 h
    refine lv_lookup (tgt := 60) (off := 59) hx hb d_Codes_order_1 (by decide) (by rw [hs768]; decide) (by decide) ?_
    refine lv_sipush (v := 230) hx hb d_Codes_order_60 (by decide) ?_
    obtain rfl := Option.some.inj h
    exact hret H locs ls 63 d_Codes_order_63 hE
  have h := ite_f hs768 h
  by_cases hs769 : a1 = (769 : Int32)
  · have h := ite_t hs769 h
    refine lv_lookup (tgt := 60) (off := 59) hx hb d_Codes_order_1 (by decide) (by rw [hs769]; decide) (by decide) ?_
    refine lv_sipush (v := 230) hx hb d_Codes_order_60 (by decide) ?_
    obtain rfl := Option.some.inj h
    exact hret H locs ls 63 d_Codes_order_63 hE
  have h := ite_f hs769 h
  by_cases hs776 : a1 = (776 : Int32)
  · have h := ite_t hs776 h
    refine lv_lookup (tgt := 60) (off := 59) hx hb d_Codes_order_1 (by decide) (by rw [hs776]; decide) (by decide) ?_
    refine lv_sipush (v := 230) hx hb d_Codes_order_60 (by decide) ?_
    obtain rfl := Option.some.inj h
    exact hret H locs ls 63 d_Codes_order_63 hE
  have h := ite_f hs776 h
  by_cases hs807 : a1 = (807 : Int32)
  · have h := ite_t hs807 h
    refine lv_lookup (tgt := 64) (off := 63) hx hb d_Codes_order_1 (by decide) (by rw [hs807]; decide) (by decide) ?_
    refine lv_sipush (v := 202) hx hb d_Codes_order_64 (by decide) ?_
    obtain rfl := Option.some.inj h
    exact hret H locs ls 67 d_Codes_order_67 hE
  have h := ite_f hs807 h
  by_cases hs1614 : a1 = (1614 : Int32)
  · have h := ite_t hs1614 h
    refine lv_lookup (tgt := 68) (off := 67) hx hb d_Codes_order_1 (by decide) (by rw [hs1614]; decide) (by decide) ?_
    refine lv_bipush (v := 30) hx hb d_Codes_order_68 (by decide) ?_
    obtain rfl := Option.some.inj h
    exact hret H locs ls 70 d_Codes_order_70 hE
  have h := ite_f hs1614 h
  by_cases hs2381 : a1 = (2381 : Int32)
  · have h := ite_t hs2381 h
    refine lv_lookup (tgt := 71) (off := 70) hx hb d_Codes_order_1 (by decide) (by rw [hs2381]; decide) (by decide) ?_
    refine lv_bipush (v := 9) hx hb d_Codes_order_71 (by decide) ?_
    obtain rfl := Option.some.inj h
    exact hret H locs ls 73 d_Codes_order_73 hE
  have h := ite_f hs2381 h
  refine lv_lookup (tgt := 74) (off := 73) hx hb d_Codes_order_1 (by decide) (by rw [lv_osw hs768 (by decide)]; rw [lv_osw hs769 (by decide)]; rw [lv_osw hs776 (by decide)]; rw [lv_osw hs807 (by decide)]; rw [lv_osw hs1614 (by decide)]; rw [lv_osw hs2381 (by decide)]; rfl) (by decide) ?_
  refine lv_iconst (v := 0) hx hb d_Codes_order_74 (by decide) ?_
  obtain rfl := Option.some.inj h
  exact hret H locs ls 75 d_Codes_order_75 hE
abbrev rm_Codes_isMark : Room := { frames := 1, cells := 0, slots := 0, locals := 20 }
theorem cf_Codes_isMark : hn_CF y_Codes_isMark b_Codes_isMark 1 (some .boolean) 1 := ⟨mw_343, mw_8, by decide, by decide, by decide +kernel⟩
set_option maxHeartbeats 4000000 in
set_option maxRecDepth 100000 in
theorem c_Codes_isMark (l : Launch) (D : va_G) (cI cZ : ClassId) (tt : Nat → Nat) (sz : Nat) (a1 : Int32) (o : Int32) (h : P_Codes_isMark a1 = some o) : Met l y_Codes_isMark (hn_w y_Codes_isMark b_Codes_isMark 1 (some .boolean)) rm_Codes_isMark (hn_Pc D (TY cI cZ) tt [.int a1] sz []) (hn_Qz D [] sz [] o) 0 0 (va_A [] sz) := by
  refine hn_ofWz (own := R_Codes) (by decide) rfl (Nat.le_of_ble_eq_true rfl) ?_
  intro p e s m args below meth c A H locs ls Q S hE hl hret
  have hx := S.1
  have hb := S.2.1
  have hown := S.2.2.2.1
  have hl : lv_has ls 1 [(0, .int a1)] := hl
  unfold P_Codes_isMark at h
  refine lv_iload_n hx hb d_Codes_isMark_0 rfl (lv_at hl 0 rfl) ?_
  obtain ⟨x1, hc1, h⟩ := bd_s h
  have hM := (c_Codes_order l D cI cZ tt H.size a1 x1 hc1)
  refine hn_ci hE (hn_runS (As := [.int a1]) (rest := []) S hE hM cf_Codes_order mw_344 mw_234 ⟨rfl, rfl⟩ ⟨Nat.le_of_ble_eq_true rfl, Nat.le_of_ble_eq_true rfl⟩ [] rfl rfl rfl rfl hl.1 (lv_room (Nat.le_of_ble_eq_true rfl)) d_Codes_isMark_1 ⟨Nat.zero_le _, Nat.zero_le _⟩) [] rfl rfl (fun H locs hE => ?_)
  have hE : hn_E D (TY cI cZ) tt A s H locs [] := hE
  refine lv_if_le (tgt := 11) hx hb d_Codes_isMark_4 (by decide) (fun hc => ?_) (fun hc => ?_)
  · have h := ite_t hc h
    refine lv_iconst (v := 0) hx hb d_Codes_isMark_11 (by decide) ?_
    obtain rfl := Option.some.inj h
    exact hret H locs ls 12 d_Codes_isMark_12 narrow_b0 hE
  · have h := ite_f hc h
    refine lv_iconst (v := 1) hx hb d_Codes_isMark_7 (by decide) ?_
    refine lv_goto (tgt := 12) hx hb d_Codes_isMark_8 (by decide) ?_
    obtain rfl := Option.some.inj h
    exact hret H locs ls 12 d_Codes_isMark_12 narrow_b1 hE
abbrev rm_Codes_asciiDirection : Room := { frames := 1, cells := 0, slots := 0, locals := 22 }
theorem cf_Codes_asciiDirection : hn_CF y_Codes_asciiDirection b_Codes_asciiDirection 1 (some .int) 1 := ⟨mw_347, mw_8, by decide, by decide, by decide +kernel⟩
set_option maxHeartbeats 4000000 in
set_option maxRecDepth 100000 in
theorem c_Codes_asciiDirection (l : Launch) (D : va_G) (cI cZ : ClassId) (tt : Nat → Nat) (sz : Nat) (a1 : Int32) (o : Int32) (h : P_Codes_asciiDirection a1 = some o) : Met l y_Codes_asciiDirection (hn_w y_Codes_asciiDirection b_Codes_asciiDirection 1 (some .int)) rm_Codes_asciiDirection (hn_Pc D (TY cI cZ) tt [.int a1] sz []) (hn_Qi D [] sz [] o) 0 0 (va_A [] sz) := by
  refine hn_ofWi (own := R_Codes) (by decide) rfl (Nat.le_of_ble_eq_true rfl) ?_
  intro p e s m args below meth c A H locs ls Q S hE hl hret
  have hx := S.1
  have hb := S.2.1
  have hown := S.2.2.2.1
  have hl : lv_has ls 1 [(0, .int a1)] := hl
  unfold P_Codes_asciiDirection at h
  refine lv_iload_n hx hb d_Codes_asciiDirection_0 rfl (lv_at hl 0 rfl) ?_
  refine lv_bipush (v := 48) hx hb d_Codes_asciiDirection_1 (by decide) ?_
  refine lv_bipush (v := 57) hx hb d_Codes_asciiDirection_3 (by decide) ?_
  obtain ⟨x5, hc5, h⟩ := bd_s h
  have hM := (c_Codes_isWithin l D cI cZ tt H.size a1 (48 : Int32) (57 : Int32) x5 hc5)
  refine hn_cz hE (hn_runS (As := [.int a1, .int (48 : Int32), .int (57 : Int32)]) (rest := []) S hE hM cf_Codes_isWithin mw_188 mw_137 ⟨rfl, rfl⟩ ⟨Nat.le_of_ble_eq_true rfl, Nat.le_of_ble_eq_true rfl⟩ [] rfl rfl rfl rfl hl.1 (lv_room (Nat.le_of_ble_eq_true rfl)) d_Codes_asciiDirection_5 ⟨Nat.zero_le _, Nat.zero_le _⟩) [] rfl rfl (fun H locs hz5 hE => ?_)
  have hE : hn_E D (TY cI cZ) tt A s H locs [] := hE
  refine lv_if_eq (tgt := 14) hx hb d_Codes_asciiDirection_8 (by decide) (fun hc => ?_) (fun hc => ?_)
  · have h := ite_t hc h
    refine lv_iload_n hx hb d_Codes_asciiDirection_14 rfl (lv_at hl 0 rfl) ?_
    refine lv_bipush (v := 45) hx hb d_Codes_asciiDirection_15 (by decide) ?_
    refine lv_icmp_ne (tgt := 23) hx hb d_Codes_asciiDirection_17 (by decide) (fun hc => ?_) (fun hc => ?_)
    · have h := ite_f hc h
      refine lv_iload_n hx hb d_Codes_asciiDirection_23 rfl (lv_at hl 0 rfl) ?_
      obtain ⟨x24, hc24, h⟩ := bd_s h
      have hM := (c_Codes_isCapital l D cI cZ tt H.size a1 x24 hc24)
      refine hn_cz hE (hn_runS (As := [.int a1]) (rest := []) S hE hM cf_Codes_isCapital mw_190 mw_191 ⟨rfl, rfl⟩ ⟨Nat.le_of_ble_eq_true rfl, Nat.le_of_ble_eq_true rfl⟩ [] rfl rfl rfl rfl hl.1 (lv_room (Nat.le_of_ble_eq_true rfl)) d_Codes_asciiDirection_24 ⟨Nat.zero_le _, Nat.zero_le _⟩) [] rfl rfl (fun H locs hz24 hE => ?_)
      have hE : hn_E D (TY cI cZ) tt A s H locs [] := hE
      refine lv_if_ne (tgt := 41) hx hb d_Codes_asciiDirection_27 (by decide) (fun hc => ?_) (fun hc => ?_)
      · have h := ite_f hc h
        refine lv_iconst (v := 1) hx hb d_Codes_asciiDirection_41 (by decide) ?_
        refine lv_goto (tgt := 48) hx hb d_Codes_asciiDirection_42 (by decide) ?_
        obtain rfl := Option.some.inj h
        exact hret H locs ls 48 d_Codes_asciiDirection_48 hE
      · have h := ite_t hc h
        refine lv_iload_n hx hb d_Codes_asciiDirection_30 rfl (lv_at hl 0 rfl) ?_
        refine lv_bipush (v := 97) hx hb d_Codes_asciiDirection_31 (by decide) ?_
        refine lv_bipush (v := 122) hx hb d_Codes_asciiDirection_33 (by decide) ?_
        obtain ⟨x35, hc35, h⟩ := bd_s h
        have hM := (c_Codes_isWithin l D cI cZ tt H.size a1 (97 : Int32) (122 : Int32) x35 hc35)
        refine hn_cz hE (hn_runS (As := [.int a1, .int (97 : Int32), .int (122 : Int32)]) (rest := []) S hE hM cf_Codes_isWithin mw_188 mw_137 ⟨rfl, rfl⟩ ⟨Nat.le_of_ble_eq_true rfl, Nat.le_of_ble_eq_true rfl⟩ [] rfl rfl rfl rfl hl.1 (lv_room (Nat.le_of_ble_eq_true rfl)) d_Codes_asciiDirection_35 ⟨Nat.zero_le _, Nat.zero_le _⟩) [] rfl rfl (fun H locs hz35 hE => ?_)
        have hE : hn_E D (TY cI cZ) tt A s H locs [] := hE
        refine lv_if_eq (tgt := 45) hx hb d_Codes_asciiDirection_38 (by decide) (fun hc => ?_) (fun hc => ?_)
        · have h := ite_t hc h
          refine lv_sipush (v := 256) hx hb d_Codes_asciiDirection_45 (by decide) ?_
          obtain rfl := Option.some.inj h
          exact hret H locs ls 48 d_Codes_asciiDirection_48 hE
        · have h := ite_f hc h
          refine lv_iconst (v := 1) hx hb d_Codes_asciiDirection_41 (by decide) ?_
          refine lv_goto (tgt := 48) hx hb d_Codes_asciiDirection_42 (by decide) ?_
          obtain rfl := Option.some.inj h
          exact hret H locs ls 48 d_Codes_asciiDirection_48 hE
    · have h := ite_t hc h
      refine lv_bipush (v := 32) hx hb d_Codes_asciiDirection_20 (by decide) ?_
      obtain rfl := Option.some.inj h
      exact hret H locs ls 22 d_Codes_asciiDirection_22 hE
  · have h := ite_f hc h
    refine lv_bipush (v := 16) hx hb d_Codes_asciiDirection_11 (by decide) ?_
    obtain rfl := Option.some.inj h
    exact hret H locs ls 13 d_Codes_asciiDirection_13 hE
abbrev rm_Codes_direction : Room := { frames := 2, cells := 0, slots := 0, locals := 42 }
theorem cf_Codes_direction : hn_CF y_Codes_direction b_Codes_direction 1 (some .int) 1 := ⟨mw_340, mw_8, by decide, by decide, by decide +kernel⟩
set_option maxHeartbeats 4000000 in
set_option maxRecDepth 100000 in
theorem c_Codes_direction (l : Launch) (D : va_G) (cI cZ : ClassId) (tt : Nat → Nat) (sz : Nat) (a1 : Int32) (o : Int32) (h : P_Codes_direction a1 = some o) : Met l y_Codes_direction (hn_w y_Codes_direction b_Codes_direction 1 (some .int)) rm_Codes_direction (hn_Pc D (TY cI cZ) tt [.int a1] sz []) (hn_Qi D [] sz [] o) 0 0 (va_A [] sz) := by
  refine hn_ofWi (own := R_Codes) (by decide) rfl (Nat.le_of_ble_eq_true rfl) ?_
  intro p e s m args below meth c A H locs ls Q S hE hl hret
  have hx := S.1
  have hb := S.2.1
  have hown := S.2.2.2.1
  have hl : lv_has ls 1 [(0, .int a1)] := hl
  unfold P_Codes_direction at h
  refine lv_iload_n hx hb d_Codes_direction_0 rfl (lv_at hl 0 rfl) ?_
  obtain ⟨x1, hc1, h⟩ := bd_s h
  have hM := (c_Codes_isMark l D cI cZ tt H.size a1 x1 hc1)
  refine hn_cz hE (hn_runS (As := [.int a1]) (rest := []) S hE hM cf_Codes_isMark mw_341 mw_342 ⟨rfl, rfl⟩ ⟨Nat.le_of_ble_eq_true rfl, Nat.le_of_ble_eq_true rfl⟩ [] rfl rfl rfl rfl hl.1 (lv_room (Nat.le_of_ble_eq_true rfl)) d_Codes_direction_1 ⟨Nat.zero_le _, Nat.zero_le _⟩) [] rfl rfl (fun H locs hz1 hE => ?_)
  have hE : hn_E D (TY cI cZ) tt A s H locs [] := hE
  refine lv_if_eq (tgt := 10) hx hb d_Codes_direction_4 (by decide) (fun hc => ?_) (fun hc => ?_)
  · have h := ite_t hc h
    refine lv_iload_n hx hb d_Codes_direction_10 rfl (lv_at hl 0 rfl) ?_
    refine lv_iconst (v := 0) hx hb d_Codes_direction_11 (by decide) ?_
    refine lv_bipush (v := 127) hx hb d_Codes_direction_12 (by decide) ?_
    obtain ⟨x14, hc14, h⟩ := bd_s h
    have hM := (c_Codes_isWithin l D cI cZ tt H.size a1 (0 : Int32) (127 : Int32) x14 hc14)
    refine hn_cz hE (hn_runS (As := [.int a1, .int (0 : Int32), .int (127 : Int32)]) (rest := []) S hE hM cf_Codes_isWithin mw_188 mw_137 ⟨rfl, rfl⟩ ⟨Nat.le_of_ble_eq_true rfl, Nat.le_of_ble_eq_true rfl⟩ [] rfl rfl rfl rfl hl.1 (lv_room (Nat.le_of_ble_eq_true rfl)) d_Codes_direction_14 ⟨Nat.zero_le _, Nat.zero_le _⟩) [] rfl rfl (fun H locs hz14 hE => ?_)
    have hE : hn_E D (TY cI cZ) tt A s H locs [] := hE
    refine lv_if_eq (tgt := 25) hx hb d_Codes_direction_17 (by decide) (fun hc => ?_) (fun hc => ?_)
    · have h := ite_t hc h
      refine lv_iload_n hx hb d_Codes_direction_25 rfl (lv_at hl 0 rfl) ?_
      refine lv_sipush (v := 1488) hx hb d_Codes_direction_26 (by decide) ?_
      refine lv_sipush (v := 1514) hx hb d_Codes_direction_29 (by decide) ?_
      obtain ⟨x32, hc32, h⟩ := bd_s h
      have hM := (c_Codes_isWithin l D cI cZ tt H.size a1 (1488 : Int32) (1514 : Int32) x32 hc32)
      refine hn_cz hE (hn_runS (As := [.int a1, .int (1488 : Int32), .int (1514 : Int32)]) (rest := []) S hE hM cf_Codes_isWithin mw_188 mw_137 ⟨rfl, rfl⟩ ⟨Nat.le_of_ble_eq_true rfl, Nat.le_of_ble_eq_true rfl⟩ [] rfl rfl rfl rfl hl.1 (lv_room (Nat.le_of_ble_eq_true rfl)) d_Codes_direction_32 ⟨Nat.zero_le _, Nat.zero_le _⟩) [] rfl rfl (fun H locs hz32 hE => ?_)
      have hE : hn_E D (TY cI cZ) tt A s H locs [] := hE
      refine lv_if_eq (tgt := 40) hx hb d_Codes_direction_35 (by decide) (fun hc => ?_) (fun hc => ?_)
      · have h := ite_t hc h
        refine lv_iload_n hx hb d_Codes_direction_40 rfl (lv_at hl 0 rfl) ?_
        refine lv_sipush (v := 1575) hx hb d_Codes_direction_41 (by decide) ?_
        refine lv_icmp_eq (tgt := 54) hx hb d_Codes_direction_44 (by decide) (fun hc => ?_) (fun hc => ?_)
        · have h := ite_t hc h
          refine lv_iconst (v := 4) hx hb d_Codes_direction_54 (by decide) ?_
          obtain rfl := Option.some.inj h
          exact hret H locs ls 55 d_Codes_direction_55 hE
        · have h := ite_f hc h
          refine lv_iload_n hx hb d_Codes_direction_47 rfl (lv_at hl 0 rfl) ?_
          refine lv_sipush (v := 1576) hx hb d_Codes_direction_48 (by decide) ?_
          refine lv_icmp_ne (tgt := 56) hx hb d_Codes_direction_51 (by decide) (fun hc => ?_) (fun hc => ?_)
          · have h := ite_f hc h
            refine lv_iload_n hx hb d_Codes_direction_56 rfl (lv_at hl 0 rfl) ?_
            refine lv_sipush (v := 1632) hx hb d_Codes_direction_57 (by decide) ?_
            refine lv_sipush (v := 1641) hx hb d_Codes_direction_60 (by decide) ?_
            obtain ⟨x63, hc63, h⟩ := bd_s h
            have hM := (c_Codes_isWithin l D cI cZ tt H.size a1 (1632 : Int32) (1641 : Int32) x63 hc63)
            refine hn_cz hE (hn_runS (As := [.int a1, .int (1632 : Int32), .int (1641 : Int32)]) (rest := []) S hE hM cf_Codes_isWithin mw_188 mw_137 ⟨rfl, rfl⟩ ⟨Nat.le_of_ble_eq_true rfl, Nat.le_of_ble_eq_true rfl⟩ [] rfl rfl rfl rfl hl.1 (lv_room (Nat.le_of_ble_eq_true rfl)) d_Codes_direction_63 ⟨Nat.zero_le _, Nat.zero_le _⟩) [] rfl rfl (fun H locs hz63 hE => ?_)
            have hE : hn_E D (TY cI cZ) tt A s H locs [] := hE
            refine lv_if_eq (tgt := 72) hx hb d_Codes_direction_66 (by decide) (fun hc => ?_) (fun hc => ?_)
            · have h := ite_t hc h
              refine lv_iload_n hx hb d_Codes_direction_72 rfl (lv_at hl 0 rfl) ?_
              refine lv_sipush (v := 1776) hx hb d_Codes_direction_73 (by decide) ?_
              refine lv_sipush (v := 1785) hx hb d_Codes_direction_76 (by decide) ?_
              obtain ⟨x79, hc79, h⟩ := bd_s h
              have hM := (c_Codes_isWithin l D cI cZ tt H.size a1 (1776 : Int32) (1785 : Int32) x79 hc79)
              refine hn_cz hE (hn_runS (As := [.int a1, .int (1776 : Int32), .int (1785 : Int32)]) (rest := []) S hE hM cf_Codes_isWithin mw_188 mw_137 ⟨rfl, rfl⟩ ⟨Nat.le_of_ble_eq_true rfl, Nat.le_of_ble_eq_true rfl⟩ [] rfl rfl rfl rfl hl.1 (lv_room (Nat.le_of_ble_eq_true rfl)) d_Codes_direction_79 ⟨Nat.zero_le _, Nat.zero_le _⟩) [] rfl rfl (fun H locs hz79 hE => ?_)
              have hE : hn_E D (TY cI cZ) tt A s H locs [] := hE
              refine lv_if_eq (tgt := 88) hx hb d_Codes_direction_82 (by decide) (fun hc => ?_) (fun hc => ?_)
              · have h := ite_t hc h
                refine lv_iload_n hx hb d_Codes_direction_88 rfl (lv_at hl 0 rfl) ?_
                refine lv_sipush (v := 8204) hx hb d_Codes_direction_89 (by decide) ?_
                refine lv_icmp_eq (tgt := 102) hx hb d_Codes_direction_92 (by decide) (fun hc => ?_) (fun hc => ?_)
                · have h := ite_t hc h
                  refine lv_sipush (v := 128) hx hb d_Codes_direction_102 (by decide) ?_
                  refine lv_goto (tgt := 109) hx hb d_Codes_direction_105 (by decide) ?_
                  obtain rfl := Option.some.inj h
                  exact hret H locs ls 109 d_Codes_direction_109 hE
                · have h := ite_f hc h
                  refine lv_iload_n hx hb d_Codes_direction_95 rfl (lv_at hl 0 rfl) ?_
                  refine lv_sipush (v := 8205) hx hb d_Codes_direction_96 (by decide) ?_
                  refine lv_icmp_ne (tgt := 108) hx hb d_Codes_direction_99 (by decide) (fun hc => ?_) (fun hc => ?_)
                  · have h := ite_f hc h
                    refine lv_iconst (v := 1) hx hb d_Codes_direction_108 (by decide) ?_
                    obtain rfl := Option.some.inj h
                    exact hret H locs ls 109 d_Codes_direction_109 hE
                  · have h := ite_t hc h
                    refine lv_sipush (v := 128) hx hb d_Codes_direction_102 (by decide) ?_
                    refine lv_goto (tgt := 109) hx hb d_Codes_direction_105 (by decide) ?_
                    obtain rfl := Option.some.inj h
                    exact hret H locs ls 109 d_Codes_direction_109 hE
              · have h := ite_f hc h
                refine lv_bipush (v := 16) hx hb d_Codes_direction_85 (by decide) ?_
                obtain rfl := Option.some.inj h
                exact hret H locs ls 87 d_Codes_direction_87 hE
            · have h := ite_f hc h
              refine lv_bipush (v := 8) hx hb d_Codes_direction_69 (by decide) ?_
              obtain rfl := Option.some.inj h
              exact hret H locs ls 71 d_Codes_direction_71 hE
          · have h := ite_t hc h
            refine lv_iconst (v := 4) hx hb d_Codes_direction_54 (by decide) ?_
            obtain rfl := Option.some.inj h
            exact hret H locs ls 55 d_Codes_direction_55 hE
      · have h := ite_f hc h
        refine lv_iconst (v := 2) hx hb d_Codes_direction_38 (by decide) ?_
        obtain rfl := Option.some.inj h
        exact hret H locs ls 39 d_Codes_direction_39 hE
    · have h := ite_f hc h
      refine lv_iload_n hx hb d_Codes_direction_20 rfl (lv_at hl 0 rfl) ?_
      obtain ⟨x21, hc21, h⟩ := bd_s h
      have hM := (c_Codes_asciiDirection l D cI cZ tt H.size a1 x21 hc21)
      refine hn_ci hE (hn_runS (As := [.int a1]) (rest := []) S hE hM cf_Codes_asciiDirection mw_345 mw_346 ⟨rfl, rfl⟩ ⟨Nat.le_of_ble_eq_true rfl, Nat.le_of_ble_eq_true rfl⟩ [] rfl rfl rfl rfl hl.1 (lv_room (Nat.le_of_ble_eq_true rfl)) d_Codes_direction_21 ⟨Nat.zero_le _, Nat.zero_le _⟩) [] rfl rfl (fun H locs hE => ?_)
      have hE : hn_E D (TY cI cZ) tt A s H locs [] := hE
      obtain rfl := Option.some.inj h
      exact hret H locs ls 24 d_Codes_direction_24 hE
  · have h := ite_f hc h
    refine lv_bipush (v := 64) hx hb d_Codes_direction_7 (by decide) ?_
    obtain rfl := Option.some.inj h
    exact hret H locs ls 9 d_Codes_direction_9 hE
abbrev rm_Codes_hasRightToLeft : Room := { frames := 3, cells := 0, slots := 0, locals := 62 }
theorem cf_Codes_hasRightToLeft : hn_CF y_Codes_hasRightToLeft b_Codes_hasRightToLeft 2 (some .boolean) 1 := ⟨mw_335, mw_8, by decide, by decide, by decide +kernel⟩
set_option maxHeartbeats 4000000 in
set_option maxRecDepth 100000 in
theorem c_Codes_hasRightToLeft (l : Launch) (D : va_G) (cI cZ : ClassId) (tt : Nat → Nat) (h_a1 h_a1_codes : Nat) (sz : Nat) (N_a1_codes : Nat) (n_a1_size : Int32) (f_a1_codes : Nat → Int32) (o : Int32) (h : P_Codes_hasRightToLeft N_a1_codes n_a1_size f_a1_codes = some o) : Met l y_Codes_hasRightToLeft (hn_w y_Codes_hasRightToLeft b_Codes_hasRightToLeft 2 (some .boolean)) rm_Codes_hasRightToLeft (hn_Pc D (TY cI cZ) tt [.ref h_a1] sz [(h_a1, .inr (0, [.ref h_a1_codes, .int n_a1_size])), (h_a1_codes, .inl (cI, N_a1_codes, .inl f_a1_codes))]) (hn_Qz D [(h_a1, .inr (0, [.ref h_a1_codes, .int n_a1_size])), (h_a1_codes, .inl (cI, N_a1_codes, .inl f_a1_codes))] sz [(h_a1, .inr (0, [.ref h_a1_codes, .int n_a1_size])), (h_a1_codes, .inl (cI, N_a1_codes, .inl f_a1_codes))] o) 0 0 (va_A [(h_a1, .inr (0, [.ref h_a1_codes, .int n_a1_size])), (h_a1_codes, .inl (cI, N_a1_codes, .inl f_a1_codes))] sz) := by
  refine hn_ofWz (own := R_Codes) (by decide) rfl (Nat.le_of_ble_eq_true rfl) ?_
  intro p e s m args below meth c A H locs ls Q S hE hl hret
  have hx := S.1
  have hb := S.2.1
  have hown := S.2.2.2.1
  have hl : lv_has ls 2 [(0, .ref h_a1)] := hl
  have hL2 : ∀ (kf : Nat) (v1 : Int32) (H : Heap) (locs : List Loc) (ls : Array Slot), hn_E D (TY cI cZ) tt A s H locs [(h_a1, .inr (0, [.ref h_a1_codes, .int n_a1_size])), (h_a1_codes, .inl (cI, N_a1_codes, .inl f_a1_codes))] → lv_has ls 2 [(0, .ref h_a1), (1, .int v1)] → fl1 (P_Codes_hasRightToLeft_2 N_a1_codes n_a1_size f_a1_codes) kf v1 = some o → W p l e rm_Codes_hasRightToLeft s m args below meth c H locs 0 0 Q (F0 m 2 ls []) := by
    intro kf
    induction kf with
    | zero => intro v1 H locs ls hE hl h; exact no_s h
    | succ kf ih =>
      intro v1 H locs ls hE hl h
      have h : P_Codes_hasRightToLeft_2 N_a1_codes n_a1_size f_a1_codes (fl1 (P_Codes_hasRightToLeft_2 N_a1_codes n_a1_size f_a1_codes) kf) v1 = some o := h
      generalize fl1 (P_Codes_hasRightToLeft_2 N_a1_codes n_a1_size f_a1_codes) kf = k2 at ih h
      have hk2 := ih
      unfold P_Codes_hasRightToLeft_2 at h
      refine lv_iload_n hx hb d_Codes_hasRightToLeft_2 rfl (lv_at hl 1 rfl) ?_
      refine lv_aload_n hx hb d_Codes_hasRightToLeft_3 rfl (lv_at hl 0 rfl) ?_
      obtain ⟨x4, hc4, h⟩ := bd_s h
      have hM := (c_Row_size l D cI cZ tt h_a1 h_a1_codes H.size N_a1_codes n_a1_size f_a1_codes x4 hc4)
      refine hn_ci hE (hn_runV (As := []) (rest := [.int v1]) S hE hM cf_Row_size mw_336 mw_149 mw_150 ⟨rfl, rfl⟩ ⟨Nat.le_of_ble_eq_true rfl, Nat.le_of_ble_eq_true rfl⟩ [0, 1] rfl rfl rfl rfl rfl rfl hl.1 (lv_room (Nat.le_of_ble_eq_true rfl)) d_Codes_hasRightToLeft_4 ⟨Nat.zero_le _, Nat.zero_le _⟩) [0, 1] rfl rfl (fun H locs hE => ?_)
      have hE : hn_E D (TY cI cZ) tt A s H locs [(h_a1, .inr (0, [.ref h_a1_codes, .int n_a1_size])), (h_a1_codes, .inl (cI, N_a1_codes, .inl f_a1_codes))] := hE
      refine lv_icmp_ge (tgt := 32) hx hb d_Codes_hasRightToLeft_7 (by decide) (fun hc => ?_) (fun hc => ?_)
      · have h := ite_t hc h
        refine lv_iconst (v := 0) hx hb d_Codes_hasRightToLeft_32 (by decide) ?_
        obtain rfl := Option.some.inj h
        exact hret H locs ls 33 d_Codes_hasRightToLeft_33 narrow_b0 hE
      · have h := ite_f hc h
        refine lv_aload_n hx hb d_Codes_hasRightToLeft_10 rfl (lv_at hl 0 rfl) ?_
        refine lv_iload_n hx hb d_Codes_hasRightToLeft_11 rfl (lv_at hl 1 rfl) ?_
        obtain ⟨x12, hc12, h⟩ := bd_s h
        have hM := (c_Row_get l D cI cZ tt h_a1 h_a1_codes H.size N_a1_codes n_a1_size f_a1_codes v1 x12 hc12)
        refine hn_ci hE (hn_runV (As := [.int v1]) (rest := []) S hE hM cf_Row_get mw_337 mw_169 mw_170 ⟨rfl, rfl⟩ ⟨Nat.le_of_ble_eq_true rfl, Nat.le_of_ble_eq_true rfl⟩ [0, 1] rfl rfl rfl rfl rfl rfl hl.1 (lv_room (Nat.le_of_ble_eq_true rfl)) d_Codes_hasRightToLeft_12 ⟨Nat.zero_le _, Nat.zero_le _⟩) [0, 1] rfl rfl (fun H locs hE => ?_)
        have hE : hn_E D (TY cI cZ) tt A s H locs [(h_a1, .inr (0, [.ref h_a1_codes, .int n_a1_size])), (h_a1_codes, .inl (cI, N_a1_codes, .inl f_a1_codes))] := hE
        obtain ⟨x15, hc15, h⟩ := bd_s h
        have hM := (c_Codes_direction l D cI cZ tt H.size x12 x15 hc15)
        refine hn_ci hE (hn_runS (As := [.int x12]) (rest := []) S hE hM cf_Codes_direction mw_338 mw_339 ⟨rfl, rfl⟩ ⟨Nat.le_of_ble_eq_true rfl, Nat.le_of_ble_eq_true rfl⟩ [] rfl rfl rfl rfl hl.1 (lv_room (Nat.le_of_ble_eq_true rfl)) d_Codes_hasRightToLeft_15 ⟨Nat.zero_le _, Nat.zero_le _⟩) [] rfl rfl (fun H locs hE => ?_)
        have hE : hn_E D (TY cI cZ) tt A s H locs [(h_a1, .inr (0, [.ref h_a1_codes, .int n_a1_size])), (h_a1_codes, .inl (cI, N_a1_codes, .inl f_a1_codes))] := hE
        refine lv_bipush (v := 14) hx hb d_Codes_hasRightToLeft_18 (by decide) ?_
        refine lv_iand hx hb d_Codes_hasRightToLeft_20 ?_
        refine lv_if_eq (tgt := 26) hx hb d_Codes_hasRightToLeft_21 (by decide) (fun hc => ?_) (fun hc => ?_)
        · have h := ite_t hc h
          refine lv_iinc (v := (v1 + (1 : Int32))) (lv' := [(1, .int (v1 + (1 : Int32))), (0, .ref h_a1)]) hx hb d_Codes_hasRightToLeft_26 hl (k := 1) rfl rfl (by decide) rfl (fun ls hl => ?_)
          refine lv_goto (tgt := 2) hx hb d_Codes_hasRightToLeft_29 (by decide) ?_
          exact hk2 (v1 + (1 : Int32)) H locs ls hE (lv_sub hl [1, 0] rfl) h
        · have h := ite_f hc h
          refine lv_iconst (v := 1) hx hb d_Codes_hasRightToLeft_24 (by decide) ?_
          obtain rfl := Option.some.inj h
          exact hret H locs ls 25 d_Codes_hasRightToLeft_25 narrow_b1 hE
  unfold P_Codes_hasRightToLeft at h
  refine lv_iconst (v := 0) hx hb d_Codes_hasRightToLeft_0 (by decide) ?_
  refine lv_istore_n (lv' := [(1, .int (0 : Int32)), (0, .ref h_a1)]) hx hb d_Codes_hasRightToLeft_1 rfl hl (by decide) rfl (fun ls hl => ?_)
  exact hL2 fu (0 : Int32) H locs ls hE (lv_sub hl [1, 0] rfl) h
abbrev rm_Codes_joining : Room := { frames := 0, cells := 0, slots := 0, locals := 0 }
theorem cf_Codes_joining : hn_CF y_Codes_joining b_Codes_joining 1 (some .int) 1 := ⟨mw_401, mw_8, by decide, by decide, by decide +kernel⟩
set_option maxHeartbeats 4000000 in
set_option maxRecDepth 100000 in
theorem c_Codes_joining (l : Launch) (D : va_G) (cI cZ : ClassId) (tt : Nat → Nat) (sz : Nat) (a1 : Int32) (o : Int32) (h : P_Codes_joining a1 = some o) : Met l y_Codes_joining (hn_w y_Codes_joining b_Codes_joining 1 (some .int)) rm_Codes_joining (hn_Pc D (TY cI cZ) tt [.int a1] sz []) (hn_Qi D [] sz [] o) 0 0 (va_A [] sz) := by
  refine hn_ofWi (own := R_Codes) (by decide) rfl (Nat.le_of_ble_eq_true rfl) ?_
  intro p e s m args below meth c A H locs ls Q S hE hl hret
  have hx := S.1
  have hb := S.2.1
  have hown := S.2.2.2.1
  have hl : lv_has ls 1 [(0, .int a1)] := hl
  unfold P_Codes_joining at h
  refine lv_iload_n hx hb d_Codes_joining_0 rfl (lv_at hl 0 rfl) ?_
  by_cases hs1575 : a1 = (1575 : Int32)
  · have h := ite_t hs1575 h
    refine lv_lookup (tgt := 44) (off := 43) hx hb d_Codes_joining_1 (by decide) (by rw [hs1575]; decide) (by decide) ?_
    refine lv_iconst (v := 1) hx hb d_Codes_joining_44 (by decide) ?_
    obtain rfl := Option.some.inj h
    exact hret H locs ls 45 d_Codes_joining_45 hE
  have h := ite_f hs1575 h
  by_cases hs1576 : a1 = (1576 : Int32)
  · have h := ite_t hs1576 h
    refine lv_lookup (tgt := 46) (off := 45) hx hb d_Codes_joining_1 (by decide) (by rw [hs1576]; decide) (by decide) ?_
    refine lv_iconst (v := 2) hx hb d_Codes_joining_46 (by decide) ?_
    obtain rfl := Option.some.inj h
    exact hret H locs ls 47 d_Codes_joining_47 hE
  have h := ite_f hs1576 h
  by_cases hs1614 : a1 = (1614 : Int32)
  · have h := ite_t hs1614 h
    refine lv_lookup (tgt := 48) (off := 47) hx hb d_Codes_joining_1 (by decide) (by rw [hs1614]; decide) (by decide) ?_
    refine lv_iconst (v := 3) hx hb d_Codes_joining_48 (by decide) ?_
    obtain rfl := Option.some.inj h
    exact hret H locs ls 49 d_Codes_joining_49 hE
  have h := ite_f hs1614 h
  by_cases hs2381 : a1 = (2381 : Int32)
  · have h := ite_t hs2381 h
    refine lv_lookup (tgt := 48) (off := 47) hx hb d_Codes_joining_1 (by decide) (by rw [hs2381]; decide) (by decide) ?_
    refine lv_iconst (v := 3) hx hb d_Codes_joining_48 (by decide) ?_
    obtain rfl := Option.some.inj h
    exact hret H locs ls 49 d_Codes_joining_49 hE
  have h := ite_f hs2381 h
  refine lv_lookup (tgt := 50) (off := 49) hx hb d_Codes_joining_1 (by decide) (by rw [lv_osw hs1575 (by decide)]; rw [lv_osw hs1576 (by decide)]; rw [lv_osw hs1614 (by decide)]; rw [lv_osw hs2381 (by decide)]; rfl) (by decide) ?_
  refine lv_iconst (v := 0) hx hb d_Codes_joining_50 (by decide) ?_
  obtain rfl := Option.some.inj h
  exact hret H locs ls 51 d_Codes_joining_51 hE
