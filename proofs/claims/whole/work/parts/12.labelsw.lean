abbrev rm_Labels_empty : Room := { frames := 1, cells := 0, slots := 0, locals := 20 }
theorem cf_Labels_empty : hn_CF y_Labels_empty b_Labels_empty 1 none 0 := ⟨mw_254, mw_3, by decide, by decide, by decide +kernel⟩
set_option maxHeartbeats 4000000 in
set_option maxRecDepth 100000 in
theorem c_Labels_empty (l : Launch) (D : va_G) (cI cZ : ClassId) (tt : Nat → Nat) (h_this h_this_codes h_this_codes_codes h_this_ends h_this_rules h_this_tagged : Nat) (sz : Nat) (n_this_count : Int32) (n_this_codes_size : Int32) (f_this_codes_codes : Nat → Int32) (f_this_ends : Nat → Int32) (f_this_rules : Nat → Int32) (f_this_tagged : Nat → Int32) (o : Int32 × Int32) (h : P_Labels_empty = some o) : Met l y_Labels_empty (hn_w y_Labels_empty b_Labels_empty 1 none) rm_Labels_empty (hn_Pc D (TY cI cZ) tt [.ref h_this] sz [(h_this, .inr (1, [.ref h_this_codes, .ref h_this_ends, .ref h_this_rules, .ref h_this_tagged, .int n_this_count])), (h_this_codes, .inr (0, [.ref h_this_codes_codes, .int n_this_codes_size])), (h_this_codes_codes, .inl (cI, 96, .inl f_this_codes_codes)), (h_this_ends, .inl (cI, 49, .inl f_this_ends)), (h_this_rules, .inl (cI, 49, .inl f_this_rules)), (h_this_tagged, .inl (cZ, 49, .inl f_this_tagged))]) (hn_Qv D [(h_this, .inr (1, [.ref h_this_codes, .ref h_this_ends, .ref h_this_rules, .ref h_this_tagged, .int n_this_count])), (h_this_codes, .inr (0, [.ref h_this_codes_codes, .int n_this_codes_size])), (h_this_codes_codes, .inl (cI, 96, .inl f_this_codes_codes)), (h_this_ends, .inl (cI, 49, .inl f_this_ends)), (h_this_rules, .inl (cI, 49, .inl f_this_rules)), (h_this_tagged, .inl (cZ, 49, .inl f_this_tagged))] sz [(h_this, .inr (1, [.ref h_this_codes, .ref h_this_ends, .ref h_this_rules, .ref h_this_tagged, .int o.1])), (h_this_codes, .inr (0, [.ref h_this_codes_codes, .int o.2])), (h_this_codes_codes, .inl (cI, 96, .inl f_this_codes_codes)), (h_this_ends, .inl (cI, 49, .inl f_this_ends)), (h_this_rules, .inl (cI, 49, .inl f_this_rules)), (h_this_tagged, .inl (cZ, 49, .inl f_this_tagged))]) 0 0 (va_A [(h_this, .inr (1, [.ref h_this_codes, .ref h_this_ends, .ref h_this_rules, .ref h_this_tagged, .int n_this_count])), (h_this_codes, .inr (0, [.ref h_this_codes_codes, .int n_this_codes_size])), (h_this_codes_codes, .inl (cI, 96, .inl f_this_codes_codes)), (h_this_ends, .inl (cI, 49, .inl f_this_ends)), (h_this_rules, .inl (cI, 49, .inl f_this_rules)), (h_this_tagged, .inl (cZ, 49, .inl f_this_tagged))] sz) := by
  refine hn_ofWv (own := R_Labels) (by decide) rfl (Nat.le_of_ble_eq_true rfl) ?_
  intro p e s m args below meth c A H locs ls Q S hE hl hret
  have hx := S.1
  have hb := S.2.1
  have hown := S.2.2.2.1
  have hl : lv_has ls 1 [(0, .ref h_this)] := hl
  unfold P_Labels_empty at h
  refine lv_aload_n hx hb d_Labels_empty_0 rfl (lv_at hl 0 rfl) ?_
  refine hn_get S hE kc_Labels 0 rfl rfl 0 (by decide) mw_40 rfl d_Labels_empty_1 ?_
  obtain ⟨x4, hc4, h⟩ := bd_s h
  have hM := (c_Row_empty l D cI cZ tt h_this_codes h_this_codes_codes H.size 96 n_this_codes_size f_this_codes_codes x4 hc4)
  refine hn_cv hE (hn_runV (As := []) (rest := []) S hE hM cf_Row_empty mw_255 mw_157 mw_158 ⟨rfl, rfl⟩ ⟨Nat.le_of_ble_eq_true rfl, Nat.le_of_ble_eq_true rfl⟩ [1, 2] rfl rfl rfl rfl rfl rfl hl.1 (lv_room (Nat.le_of_ble_eq_true rfl)) d_Labels_empty_4 ⟨Nat.zero_le _, Nat.zero_le _⟩) [1, 2] rfl rfl (fun H locs hE => ?_)
  have hE : hn_E D (TY cI cZ) tt A s H locs [(h_this, .inr (1, [.ref h_this_codes, .ref h_this_ends, .ref h_this_rules, .ref h_this_tagged, .int n_this_count])), (h_this_codes, .inr (0, [.ref h_this_codes_codes, .int x4])), (h_this_codes_codes, .inl (cI, 96, .inl f_this_codes_codes)), (h_this_ends, .inl (cI, 49, .inl f_this_ends)), (h_this_rules, .inl (cI, 49, .inl f_this_rules)), (h_this_tagged, .inl (cZ, 49, .inl f_this_tagged))] := hE
  refine lv_aload_n hx hb d_Labels_empty_7 rfl (lv_at hl 0 rfl) ?_
  refine lv_iconst (v := 0) hx hb d_Labels_empty_8 (by decide) ?_
  refine hn_put (tv := .int) S hE kc_Labels t_Labels_ok n_Labels 0 rfl rfl 4 (by decide) mw_44 rfl (by decide +kernel) rfl rfl (Nat.le_of_ble_eq_true rfl) d_Labels_empty_9 (fun H locs hE => ?_)
  have hE : hn_E D (TY cI cZ) tt A s H locs [(h_this, .inr (1, [.ref h_this_codes, .ref h_this_ends, .ref h_this_rules, .ref h_this_tagged, .int (0 : Int32)])), (h_this_codes, .inr (0, [.ref h_this_codes_codes, .int x4])), (h_this_codes_codes, .inl (cI, 96, .inl f_this_codes_codes)), (h_this_ends, .inl (cI, 49, .inl f_this_ends)), (h_this_rules, .inl (cI, 49, .inl f_this_rules)), (h_this_tagged, .inl (cZ, 49, .inl f_this_tagged))] := hE
  obtain rfl := Option.some.inj h
  exact hret H locs ls 12 d_Labels_empty_12 hE
abbrev rm_Labels_add : Room := { frames := 2, cells := 0, slots := 0, locals := 45 }
theorem cf_Labels_add : hn_CF y_Labels_add b_Labels_add 4 none 3 := ⟨mw_275, mw_3, by decide, by decide, by decide +kernel⟩
set_option maxHeartbeats 4000000 in
set_option maxRecDepth 100000 in
theorem c_Labels_add (l : Launch) (D : va_G) (cI cZ : ClassId) (tt : Nat → Nat) (h_this h_this_codes h_this_codes_codes h_this_ends h_this_rules h_this_tagged h_a1 h_a1_codes : Nat) (sz : Nat) (N_a1_codes : Nat) (n_this_count : Int32) (n_this_codes_size : Int32) (f_this_codes_codes : Nat → Int32) (f_this_ends : Nat → Int32) (f_this_rules : Nat → Int32) (f_this_tagged : Nat → Int32) (n_a1_size : Int32) (f_a1_codes : Nat → Int32) (a2 : Int32) (a3 : Int32) (o : Int32 × Int32 × (Nat → Int32) × (Nat → Int32) × (Nat → Int32) × (Nat → Int32)) (h : P_Labels_add N_a1_codes n_this_count n_this_codes_size f_this_codes_codes f_this_ends f_this_rules f_this_tagged n_a1_size f_a1_codes a2 a3 = some o) : Met l y_Labels_add (hn_w y_Labels_add b_Labels_add 4 none) rm_Labels_add (hn_Pc D (TY cI cZ) tt [.ref h_this, .ref h_a1, .int a2, .int a3] sz [(h_this, .inr (1, [.ref h_this_codes, .ref h_this_ends, .ref h_this_rules, .ref h_this_tagged, .int n_this_count])), (h_this_codes, .inr (0, [.ref h_this_codes_codes, .int n_this_codes_size])), (h_this_codes_codes, .inl (cI, 96, .inl f_this_codes_codes)), (h_this_ends, .inl (cI, 49, .inl f_this_ends)), (h_this_rules, .inl (cI, 49, .inl f_this_rules)), (h_this_tagged, .inl (cZ, 49, .inl f_this_tagged)), (h_a1, .inr (0, [.ref h_a1_codes, .int n_a1_size])), (h_a1_codes, .inl (cI, N_a1_codes, .inl f_a1_codes))]) (hn_Qv D [(h_this, .inr (1, [.ref h_this_codes, .ref h_this_ends, .ref h_this_rules, .ref h_this_tagged, .int n_this_count])), (h_this_codes, .inr (0, [.ref h_this_codes_codes, .int n_this_codes_size])), (h_this_codes_codes, .inl (cI, 96, .inl f_this_codes_codes)), (h_this_ends, .inl (cI, 49, .inl f_this_ends)), (h_this_rules, .inl (cI, 49, .inl f_this_rules)), (h_this_tagged, .inl (cZ, 49, .inl f_this_tagged)), (h_a1, .inr (0, [.ref h_a1_codes, .int n_a1_size])), (h_a1_codes, .inl (cI, N_a1_codes, .inl f_a1_codes))] sz [(h_this, .inr (1, [.ref h_this_codes, .ref h_this_ends, .ref h_this_rules, .ref h_this_tagged, .int o.1])), (h_this_codes, .inr (0, [.ref h_this_codes_codes, .int o.2.1])), (h_this_codes_codes, .inl (cI, 96, .inl o.2.2.1)), (h_this_ends, .inl (cI, 49, .inl o.2.2.2.1)), (h_this_rules, .inl (cI, 49, .inl o.2.2.2.2.1)), (h_this_tagged, .inl (cZ, 49, .inl o.2.2.2.2.2)), (h_a1, .inr (0, [.ref h_a1_codes, .int n_a1_size])), (h_a1_codes, .inl (cI, N_a1_codes, .inl f_a1_codes))]) 0 0 (va_A [(h_this, .inr (1, [.ref h_this_codes, .ref h_this_ends, .ref h_this_rules, .ref h_this_tagged, .int n_this_count])), (h_this_codes, .inr (0, [.ref h_this_codes_codes, .int n_this_codes_size])), (h_this_codes_codes, .inl (cI, 96, .inl f_this_codes_codes)), (h_this_ends, .inl (cI, 49, .inl f_this_ends)), (h_this_rules, .inl (cI, 49, .inl f_this_rules)), (h_this_tagged, .inl (cZ, 49, .inl f_this_tagged)), (h_a1, .inr (0, [.ref h_a1_codes, .int n_a1_size])), (h_a1_codes, .inl (cI, N_a1_codes, .inl f_a1_codes))] sz) := by
  refine hn_ofWv (own := R_Labels) (by decide) rfl (Nat.le_of_ble_eq_true rfl) ?_
  intro p e s m args below meth c A H locs ls Q S hE hl hret
  have hx := S.1
  have hb := S.2.1
  have hown := S.2.2.2.1
  have hl : lv_has ls 4 [(0, .ref h_this), (1, .ref h_a1), (2, .int a2), (3, .int a3)] := hl
  unfold P_Labels_add at h
  refine lv_aload_n hx hb d_Labels_add_0 rfl (lv_at hl 0 rfl) ?_
  refine hn_get S hE kc_Labels 0 rfl rfl 4 (by decide) mw_44 rfl d_Labels_add_1 ?_
  refine lv_bipush (v := 49) hx hb d_Labels_add_4 (by decide) ?_
  refine lv_icmp_lt (tgt := 10) hx hb d_Labels_add_6 (by decide) (fun hc => ?_) (fun hc => ?_)
  · have h := ite_t hc h
    refine lv_aload_n hx hb d_Labels_add_10 rfl (lv_at hl 0 rfl) ?_
    refine hn_get S hE kc_Labels 0 rfl rfl 0 (by decide) mw_40 rfl d_Labels_add_11 ?_
    refine lv_aload_n hx hb d_Labels_add_14 rfl (lv_at hl 1 rfl) ?_
    refine lv_iconst (v := 0) hx hb d_Labels_add_15 (by decide) ?_
    refine lv_aload_n hx hb d_Labels_add_16 rfl (lv_at hl 1 rfl) ?_
    obtain ⟨x17, hc17, h⟩ := bd_s h
    have hM := (c_Row_size l D cI cZ tt h_a1 h_a1_codes H.size N_a1_codes n_a1_size f_a1_codes x17 hc17)
    refine hn_ci hE (hn_runV (As := []) (rest := [.int (0 : Int32), .ref h_a1, .ref h_this_codes]) S hE hM cf_Row_size mw_276 mw_149 mw_150 ⟨rfl, rfl⟩ ⟨Nat.le_of_ble_eq_true rfl, Nat.le_of_ble_eq_true rfl⟩ [6, 7] rfl rfl rfl rfl rfl rfl hl.1 (lv_room (Nat.le_of_ble_eq_true rfl)) d_Labels_add_17 ⟨Nat.zero_le _, Nat.zero_le _⟩) [6, 7] rfl rfl (fun H locs hE => ?_)
    have hE : hn_E D (TY cI cZ) tt A s H locs [(h_this, .inr (1, [.ref h_this_codes, .ref h_this_ends, .ref h_this_rules, .ref h_this_tagged, .int n_this_count])), (h_this_codes, .inr (0, [.ref h_this_codes_codes, .int n_this_codes_size])), (h_this_codes_codes, .inl (cI, 96, .inl f_this_codes_codes)), (h_this_ends, .inl (cI, 49, .inl f_this_ends)), (h_this_rules, .inl (cI, 49, .inl f_this_rules)), (h_this_tagged, .inl (cZ, 49, .inl f_this_tagged)), (h_a1, .inr (0, [.ref h_a1_codes, .int n_a1_size])), (h_a1_codes, .inl (cI, N_a1_codes, .inl f_a1_codes))] := hE
    obtain ⟨x20, hc20, h⟩ := bd_s h
    have hM := (c_Row_addPart l D cI cZ tt h_this_codes h_this_codes_codes h_a1 h_a1_codes H.size 96 N_a1_codes n_this_codes_size f_this_codes_codes n_a1_size f_a1_codes (0 : Int32) x17 x20 hc20)
    refine hn_cv hE (hn_runV (As := [.ref h_a1, .int (0 : Int32), .int x17]) (rest := []) S hE hM cf_Row_addPart mw_277 mw_257 mw_258 ⟨rfl, rfl⟩ ⟨Nat.le_of_ble_eq_true rfl, Nat.le_of_ble_eq_true rfl⟩ [1, 2, 6, 7] rfl rfl rfl rfl rfl rfl hl.1 (lv_room (Nat.le_of_ble_eq_true rfl)) d_Labels_add_20 ⟨Nat.zero_le _, Nat.zero_le _⟩) [1, 2, 6, 7] rfl rfl (fun H locs hE => ?_)
    have hE : hn_E D (TY cI cZ) tt A s H locs [(h_this, .inr (1, [.ref h_this_codes, .ref h_this_ends, .ref h_this_rules, .ref h_this_tagged, .int n_this_count])), (h_this_codes, .inr (0, [.ref h_this_codes_codes, .int x20.1])), (h_this_codes_codes, .inl (cI, 96, .inl x20.2)), (h_this_ends, .inl (cI, 49, .inl f_this_ends)), (h_this_rules, .inl (cI, 49, .inl f_this_rules)), (h_this_tagged, .inl (cZ, 49, .inl f_this_tagged)), (h_a1, .inr (0, [.ref h_a1_codes, .int n_a1_size])), (h_a1_codes, .inl (cI, N_a1_codes, .inl f_a1_codes))] := hE
    refine lv_aload_n hx hb d_Labels_add_23 rfl (lv_at hl 0 rfl) ?_
    refine hn_get S hE kc_Labels 0 rfl rfl 1 (by decide) mw_41 rfl d_Labels_add_24 ?_
    refine lv_aload_n hx hb d_Labels_add_27 rfl (lv_at hl 0 rfl) ?_
    refine hn_get S hE kc_Labels 0 rfl rfl 4 (by decide) mw_44 rfl d_Labels_add_28 ?_
    refine lv_aload_n hx hb d_Labels_add_31 rfl (lv_at hl 0 rfl) ?_
    refine hn_get S hE kc_Labels 0 rfl rfl 0 (by decide) mw_40 rfl d_Labels_add_32 ?_
    obtain ⟨x35, hc35, h⟩ := bd_s h
    have hM := (c_Row_size l D cI cZ tt h_this_codes h_this_codes_codes H.size 96 x20.1 x20.2 x35 hc35)
    refine hn_ci hE (hn_runV (As := []) (rest := [.int n_this_count, .ref h_this_ends]) S hE hM cf_Row_size mw_276 mw_149 mw_150 ⟨rfl, rfl⟩ ⟨Nat.le_of_ble_eq_true rfl, Nat.le_of_ble_eq_true rfl⟩ [1, 2] rfl rfl rfl rfl rfl rfl hl.1 (lv_room (Nat.le_of_ble_eq_true rfl)) d_Labels_add_35 ⟨Nat.zero_le _, Nat.zero_le _⟩) [1, 2] rfl rfl (fun H locs hE => ?_)
    have hE : hn_E D (TY cI cZ) tt A s H locs [(h_this, .inr (1, [.ref h_this_codes, .ref h_this_ends, .ref h_this_rules, .ref h_this_tagged, .int n_this_count])), (h_this_codes, .inr (0, [.ref h_this_codes_codes, .int x20.1])), (h_this_codes_codes, .inl (cI, 96, .inl x20.2)), (h_this_ends, .inl (cI, 49, .inl f_this_ends)), (h_this_rules, .inl (cI, 49, .inl f_this_rules)), (h_this_tagged, .inl (cZ, 49, .inl f_this_tagged)), (h_a1, .inr (0, [.ref h_a1_codes, .int n_a1_size])), (h_a1_codes, .inl (cI, N_a1_codes, .inl f_a1_codes))] := hE
    obtain ⟨hi38, h⟩ := gi_s h
    refine hn_iast S hE 3 0 rfl rfl hi38 d_Labels_add_38 (fun H locs hE => ?_)
    have hE : hn_E D (TY cI cZ) tt A s H locs [(h_this, .inr (1, [.ref h_this_codes, .ref h_this_ends, .ref h_this_rules, .ref h_this_tagged, .int n_this_count])), (h_this_codes, .inr (0, [.ref h_this_codes_codes, .int x20.1])), (h_this_codes_codes, .inl (cI, 96, .inl x20.2)), (h_this_ends, .inl (cI, 49, .inl (upd f_this_ends (n_this_count).toNatClampNeg x35))), (h_this_rules, .inl (cI, 49, .inl f_this_rules)), (h_this_tagged, .inl (cZ, 49, .inl f_this_tagged)), (h_a1, .inr (0, [.ref h_a1_codes, .int n_a1_size])), (h_a1_codes, .inl (cI, N_a1_codes, .inl f_a1_codes))] := hE
    refine lv_aload_n hx hb d_Labels_add_39 rfl (lv_at hl 0 rfl) ?_
    refine hn_get S hE kc_Labels 0 rfl rfl 2 (by decide) mw_42 rfl d_Labels_add_40 ?_
    refine lv_aload_n hx hb d_Labels_add_43 rfl (lv_at hl 0 rfl) ?_
    refine hn_get S hE kc_Labels 0 rfl rfl 4 (by decide) mw_44 rfl d_Labels_add_44 ?_
    refine lv_iload_n hx hb d_Labels_add_47 rfl (lv_at hl 3 rfl) ?_
    obtain ⟨hi48, h⟩ := gi_s h
    refine hn_iast S hE 4 0 rfl rfl hi48 d_Labels_add_48 (fun H locs hE => ?_)
    have hE : hn_E D (TY cI cZ) tt A s H locs [(h_this, .inr (1, [.ref h_this_codes, .ref h_this_ends, .ref h_this_rules, .ref h_this_tagged, .int n_this_count])), (h_this_codes, .inr (0, [.ref h_this_codes_codes, .int x20.1])), (h_this_codes_codes, .inl (cI, 96, .inl x20.2)), (h_this_ends, .inl (cI, 49, .inl (upd f_this_ends (n_this_count).toNatClampNeg x35))), (h_this_rules, .inl (cI, 49, .inl (upd f_this_rules (n_this_count).toNatClampNeg a3))), (h_this_tagged, .inl (cZ, 49, .inl f_this_tagged)), (h_a1, .inr (0, [.ref h_a1_codes, .int n_a1_size])), (h_a1_codes, .inl (cI, N_a1_codes, .inl f_a1_codes))] := hE
    refine lv_aload_n hx hb d_Labels_add_49 rfl (lv_at hl 0 rfl) ?_
    refine hn_get S hE kc_Labels 0 rfl rfl 3 (by decide) mw_43 rfl d_Labels_add_50 ?_
    refine lv_aload_n hx hb d_Labels_add_53 rfl (lv_at hl 0 rfl) ?_
    refine hn_get S hE kc_Labels 0 rfl rfl 4 (by decide) mw_44 rfl d_Labels_add_54 ?_
    refine lv_iload_n hx hb d_Labels_add_57 rfl (lv_at hl 2 rfl) ?_
    obtain ⟨hi58, h⟩ := gi_s h
    refine hn_zast S hE 5 1 rfl rfl hi58 d_Labels_add_58 (fun H locs hE => ?_)
    have hE : hn_E D (TY cI cZ) tt A s H locs [(h_this, .inr (1, [.ref h_this_codes, .ref h_this_ends, .ref h_this_rules, .ref h_this_tagged, .int n_this_count])), (h_this_codes, .inr (0, [.ref h_this_codes_codes, .int x20.1])), (h_this_codes_codes, .inl (cI, 96, .inl x20.2)), (h_this_ends, .inl (cI, 49, .inl (upd f_this_ends (n_this_count).toNatClampNeg x35))), (h_this_rules, .inl (cI, 49, .inl (upd f_this_rules (n_this_count).toNatClampNeg a3))), (h_this_tagged, .inl (cZ, 49, .inl (upd f_this_tagged (n_this_count).toNatClampNeg (vp_nar .boolean a2)))), (h_a1, .inr (0, [.ref h_a1_codes, .int n_a1_size])), (h_a1_codes, .inl (cI, N_a1_codes, .inl f_a1_codes))] := hE
    refine lv_aload_n hx hb d_Labels_add_59 rfl (lv_at hl 0 rfl) ?_
    refine lv_dup hx hb d_Labels_add_60 rfl ?_
    refine hn_get S hE kc_Labels 0 rfl rfl 4 (by decide) mw_44 rfl d_Labels_add_61 ?_
    refine lv_iconst (v := 1) hx hb d_Labels_add_64 (by decide) ?_
    refine lv_iadd hx hb d_Labels_add_65 ?_
    refine hn_put (tv := .int) S hE kc_Labels t_Labels_ok n_Labels 0 rfl rfl 4 (by decide) mw_44 rfl (by decide +kernel) rfl rfl (Nat.le_of_ble_eq_true rfl) d_Labels_add_66 (fun H locs hE => ?_)
    have hE : hn_E D (TY cI cZ) tt A s H locs [(h_this, .inr (1, [.ref h_this_codes, .ref h_this_ends, .ref h_this_rules, .ref h_this_tagged, .int (n_this_count + (1 : Int32))])), (h_this_codes, .inr (0, [.ref h_this_codes_codes, .int x20.1])), (h_this_codes_codes, .inl (cI, 96, .inl x20.2)), (h_this_ends, .inl (cI, 49, .inl (upd f_this_ends (n_this_count).toNatClampNeg x35))), (h_this_rules, .inl (cI, 49, .inl (upd f_this_rules (n_this_count).toNatClampNeg a3))), (h_this_tagged, .inl (cZ, 49, .inl (upd f_this_tagged (n_this_count).toNatClampNeg (vp_nar .boolean a2)))), (h_a1, .inr (0, [.ref h_a1_codes, .int n_a1_size])), (h_a1_codes, .inl (cI, N_a1_codes, .inl f_a1_codes))] := hE
    obtain rfl := Option.some.inj h
    exact hret H locs ls 69 d_Labels_add_69 hE
  · have h := ite_f hc h
    obtain rfl := Option.some.inj h
    exact hret H locs ls 9 d_Labels_add_9 hE
abbrev rm_Labels_codes : Room := { frames := 0, cells := 0, slots := 0, locals := 0 }
theorem cf_Labels_codes : hn_CF y_Labels_codes b_Labels_codes 1 (some (.object "HostNames$Row")) 0 := ⟨mw_332, mw_3, by decide, by decide, by decide +kernel⟩
set_option maxHeartbeats 4000000 in
set_option maxRecDepth 100000 in
theorem c_Labels_codes (l : Launch) (D : va_G) (cI cZ : ClassId) (tt : Nat → Nat) (h_this h_this_codes h_this_codes_codes h_this_ends h_this_rules h_this_tagged : Nat) (sz : Nat) (n_this_count : Int32) (n_this_codes_size : Int32) (f_this_codes_codes : Nat → Int32) (f_this_ends : Nat → Int32) (f_this_rules : Nat → Int32) (f_this_tagged : Nat → Int32) (o : Unit) (h : P_Labels_codes = some o) : Met l y_Labels_codes (hn_w y_Labels_codes b_Labels_codes 1 (some (.object "HostNames$Row"))) rm_Labels_codes (hn_Pc D (TY cI cZ) tt [.ref h_this] sz [(h_this, .inr (1, [.ref h_this_codes, .ref h_this_ends, .ref h_this_rules, .ref h_this_tagged, .int n_this_count])), (h_this_codes, .inr (0, [.ref h_this_codes_codes, .int n_this_codes_size])), (h_this_codes_codes, .inl (cI, 96, .inl f_this_codes_codes)), (h_this_ends, .inl (cI, 49, .inl f_this_ends)), (h_this_rules, .inl (cI, 49, .inl f_this_rules)), (h_this_tagged, .inl (cZ, 49, .inl f_this_tagged))]) (hn_Qr D [(h_this, .inr (1, [.ref h_this_codes, .ref h_this_ends, .ref h_this_rules, .ref h_this_tagged, .int n_this_count])), (h_this_codes, .inr (0, [.ref h_this_codes_codes, .int n_this_codes_size])), (h_this_codes_codes, .inl (cI, 96, .inl f_this_codes_codes)), (h_this_ends, .inl (cI, 49, .inl f_this_ends)), (h_this_rules, .inl (cI, 49, .inl f_this_rules)), (h_this_tagged, .inl (cZ, 49, .inl f_this_tagged))] sz [(h_this, .inr (1, [.ref h_this_codes, .ref h_this_ends, .ref h_this_rules, .ref h_this_tagged, .int n_this_count])), (h_this_codes, .inr (0, [.ref h_this_codes_codes, .int n_this_codes_size])), (h_this_codes_codes, .inl (cI, 96, .inl f_this_codes_codes)), (h_this_ends, .inl (cI, 49, .inl f_this_ends)), (h_this_rules, .inl (cI, 49, .inl f_this_rules)), (h_this_tagged, .inl (cZ, 49, .inl f_this_tagged))] h_this_codes) 0 0 (va_A [(h_this, .inr (1, [.ref h_this_codes, .ref h_this_ends, .ref h_this_rules, .ref h_this_tagged, .int n_this_count])), (h_this_codes, .inr (0, [.ref h_this_codes_codes, .int n_this_codes_size])), (h_this_codes_codes, .inl (cI, 96, .inl f_this_codes_codes)), (h_this_ends, .inl (cI, 49, .inl f_this_ends)), (h_this_rules, .inl (cI, 49, .inl f_this_rules)), (h_this_tagged, .inl (cZ, 49, .inl f_this_tagged))] sz) := by
  refine hn_ofWr (own := R_Labels) (by decide) rfl (Nat.le_of_ble_eq_true rfl) ?_
  intro p e s m args below meth c A H locs ls Q S hE hl hret
  have hx := S.1
  have hb := S.2.1
  have hown := S.2.2.2.1
  have hl : lv_has ls 1 [(0, .ref h_this)] := hl
  unfold P_Labels_codes at h
  refine lv_aload_n hx hb d_Labels_codes_0 rfl (lv_at hl 0 rfl) ?_
  refine hn_get S hE kc_Labels 0 rfl rfl 0 (by decide) mw_40 rfl d_Labels_codes_1 ?_
  obtain rfl := Option.some.inj h
  exact hret H locs ls 4 d_Labels_codes_4 hE
abbrev rm_Labels_count : Room := { frames := 0, cells := 0, slots := 0, locals := 0 }
theorem cf_Labels_count : hn_CF y_Labels_count b_Labels_count 1 (some .int) 0 := ⟨mw_351, mw_3, by decide, by decide, by decide +kernel⟩
set_option maxHeartbeats 4000000 in
set_option maxRecDepth 100000 in
theorem c_Labels_count (l : Launch) (D : va_G) (cI cZ : ClassId) (tt : Nat → Nat) (h_this h_this_codes h_this_codes_codes h_this_ends h_this_rules h_this_tagged : Nat) (sz : Nat) (n_this_count : Int32) (n_this_codes_size : Int32) (f_this_codes_codes : Nat → Int32) (f_this_ends : Nat → Int32) (f_this_rules : Nat → Int32) (f_this_tagged : Nat → Int32) (o : Int32) (h : P_Labels_count n_this_count = some o) : Met l y_Labels_count (hn_w y_Labels_count b_Labels_count 1 (some .int)) rm_Labels_count (hn_Pc D (TY cI cZ) tt [.ref h_this] sz [(h_this, .inr (1, [.ref h_this_codes, .ref h_this_ends, .ref h_this_rules, .ref h_this_tagged, .int n_this_count])), (h_this_codes, .inr (0, [.ref h_this_codes_codes, .int n_this_codes_size])), (h_this_codes_codes, .inl (cI, 96, .inl f_this_codes_codes)), (h_this_ends, .inl (cI, 49, .inl f_this_ends)), (h_this_rules, .inl (cI, 49, .inl f_this_rules)), (h_this_tagged, .inl (cZ, 49, .inl f_this_tagged))]) (hn_Qi D [(h_this, .inr (1, [.ref h_this_codes, .ref h_this_ends, .ref h_this_rules, .ref h_this_tagged, .int n_this_count])), (h_this_codes, .inr (0, [.ref h_this_codes_codes, .int n_this_codes_size])), (h_this_codes_codes, .inl (cI, 96, .inl f_this_codes_codes)), (h_this_ends, .inl (cI, 49, .inl f_this_ends)), (h_this_rules, .inl (cI, 49, .inl f_this_rules)), (h_this_tagged, .inl (cZ, 49, .inl f_this_tagged))] sz [(h_this, .inr (1, [.ref h_this_codes, .ref h_this_ends, .ref h_this_rules, .ref h_this_tagged, .int n_this_count])), (h_this_codes, .inr (0, [.ref h_this_codes_codes, .int n_this_codes_size])), (h_this_codes_codes, .inl (cI, 96, .inl f_this_codes_codes)), (h_this_ends, .inl (cI, 49, .inl f_this_ends)), (h_this_rules, .inl (cI, 49, .inl f_this_rules)), (h_this_tagged, .inl (cZ, 49, .inl f_this_tagged))] o) 0 0 (va_A [(h_this, .inr (1, [.ref h_this_codes, .ref h_this_ends, .ref h_this_rules, .ref h_this_tagged, .int n_this_count])), (h_this_codes, .inr (0, [.ref h_this_codes_codes, .int n_this_codes_size])), (h_this_codes_codes, .inl (cI, 96, .inl f_this_codes_codes)), (h_this_ends, .inl (cI, 49, .inl f_this_ends)), (h_this_rules, .inl (cI, 49, .inl f_this_rules)), (h_this_tagged, .inl (cZ, 49, .inl f_this_tagged))] sz) := by
  refine hn_ofWi (own := R_Labels) (by decide) rfl (Nat.le_of_ble_eq_true rfl) ?_
  intro p e s m args below meth c A H locs ls Q S hE hl hret
  have hx := S.1
  have hb := S.2.1
  have hown := S.2.2.2.1
  have hl : lv_has ls 1 [(0, .ref h_this)] := hl
  unfold P_Labels_count at h
  refine lv_aload_n hx hb d_Labels_count_0 rfl (lv_at hl 0 rfl) ?_
  refine hn_get S hE kc_Labels 0 rfl rfl 4 (by decide) mw_44 rfl d_Labels_count_1 ?_
  obtain rfl := Option.some.inj h
  exact hret H locs ls 4 d_Labels_count_4 hE
abbrev rm_Labels_has : Room := { frames := 0, cells := 0, slots := 0, locals := 0 }
theorem cf_Labels_has : hn_CF y_Labels_has b_Labels_has 2 (some .boolean) 1 := ⟨mw_359, mw_3, by decide, by decide, by decide +kernel⟩
set_option maxHeartbeats 4000000 in
set_option maxRecDepth 100000 in
theorem c_Labels_has (l : Launch) (D : va_G) (cI cZ : ClassId) (tt : Nat → Nat) (h_this h_this_codes h_this_codes_codes h_this_ends h_this_rules h_this_tagged : Nat) (sz : Nat) (n_this_count : Int32) (n_this_codes_size : Int32) (f_this_codes_codes : Nat → Int32) (f_this_ends : Nat → Int32) (f_this_rules : Nat → Int32) (f_this_tagged : Nat → Int32) (a1 : Int32) (o : Int32) (h : P_Labels_has n_this_count a1 = some o) : Met l y_Labels_has (hn_w y_Labels_has b_Labels_has 2 (some .boolean)) rm_Labels_has (hn_Pc D (TY cI cZ) tt [.ref h_this, .int a1] sz [(h_this, .inr (1, [.ref h_this_codes, .ref h_this_ends, .ref h_this_rules, .ref h_this_tagged, .int n_this_count])), (h_this_codes, .inr (0, [.ref h_this_codes_codes, .int n_this_codes_size])), (h_this_codes_codes, .inl (cI, 96, .inl f_this_codes_codes)), (h_this_ends, .inl (cI, 49, .inl f_this_ends)), (h_this_rules, .inl (cI, 49, .inl f_this_rules)), (h_this_tagged, .inl (cZ, 49, .inl f_this_tagged))]) (hn_Qz D [(h_this, .inr (1, [.ref h_this_codes, .ref h_this_ends, .ref h_this_rules, .ref h_this_tagged, .int n_this_count])), (h_this_codes, .inr (0, [.ref h_this_codes_codes, .int n_this_codes_size])), (h_this_codes_codes, .inl (cI, 96, .inl f_this_codes_codes)), (h_this_ends, .inl (cI, 49, .inl f_this_ends)), (h_this_rules, .inl (cI, 49, .inl f_this_rules)), (h_this_tagged, .inl (cZ, 49, .inl f_this_tagged))] sz [(h_this, .inr (1, [.ref h_this_codes, .ref h_this_ends, .ref h_this_rules, .ref h_this_tagged, .int n_this_count])), (h_this_codes, .inr (0, [.ref h_this_codes_codes, .int n_this_codes_size])), (h_this_codes_codes, .inl (cI, 96, .inl f_this_codes_codes)), (h_this_ends, .inl (cI, 49, .inl f_this_ends)), (h_this_rules, .inl (cI, 49, .inl f_this_rules)), (h_this_tagged, .inl (cZ, 49, .inl f_this_tagged))] o) 0 0 (va_A [(h_this, .inr (1, [.ref h_this_codes, .ref h_this_ends, .ref h_this_rules, .ref h_this_tagged, .int n_this_count])), (h_this_codes, .inr (0, [.ref h_this_codes_codes, .int n_this_codes_size])), (h_this_codes_codes, .inl (cI, 96, .inl f_this_codes_codes)), (h_this_ends, .inl (cI, 49, .inl f_this_ends)), (h_this_rules, .inl (cI, 49, .inl f_this_rules)), (h_this_tagged, .inl (cZ, 49, .inl f_this_tagged))] sz) := by
  refine hn_ofWz (own := R_Labels) (by decide) rfl (Nat.le_of_ble_eq_true rfl) ?_
  intro p e s m args below meth c A H locs ls Q S hE hl hret
  have hx := S.1
  have hb := S.2.1
  have hown := S.2.2.2.1
  have hl : lv_has ls 2 [(0, .ref h_this), (1, .int a1)] := hl
  unfold P_Labels_has at h
  refine lv_iload_n hx hb d_Labels_has_0 rfl (lv_at hl 1 rfl) ?_
  refine lv_if_lt (tgt := 16) hx hb d_Labels_has_1 (by decide) (fun hc => ?_) (fun hc => ?_)
  · have h := ite_t hc h
    refine lv_iconst (v := 0) hx hb d_Labels_has_16 (by decide) ?_
    obtain rfl := Option.some.inj h
    exact hret H locs ls 17 d_Labels_has_17 narrow_b0 hE
  · have h := ite_f hc h
    refine lv_iload_n hx hb d_Labels_has_4 rfl (lv_at hl 1 rfl) ?_
    refine lv_aload_n hx hb d_Labels_has_5 rfl (lv_at hl 0 rfl) ?_
    refine hn_get S hE kc_Labels 0 rfl rfl 4 (by decide) mw_44 rfl d_Labels_has_6 ?_
    refine lv_icmp_ge (tgt := 16) hx hb d_Labels_has_9 (by decide) (fun hc => ?_) (fun hc => ?_)
    · have h := ite_t hc h
      refine lv_iconst (v := 0) hx hb d_Labels_has_16 (by decide) ?_
      obtain rfl := Option.some.inj h
      exact hret H locs ls 17 d_Labels_has_17 narrow_b0 hE
    · have h := ite_f hc h
      refine lv_iconst (v := 1) hx hb d_Labels_has_12 (by decide) ?_
      refine lv_goto (tgt := 17) hx hb d_Labels_has_13 (by decide) ?_
      obtain rfl := Option.some.inj h
      exact hret H locs ls 17 d_Labels_has_17 narrow_b1 hE
abbrev rm_Labels_copyLabel : Room := { frames := 2, cells := 0, slots := 0, locals := 45 }
theorem cf_Labels_copyLabel : hn_CF y_Labels_copyLabel b_Labels_copyLabel 3 none 2 := ⟨mw_355, mw_3, by decide, by decide, by decide +kernel⟩
set_option maxHeartbeats 4000000 in
set_option maxRecDepth 100000 in
theorem c_Labels_copyLabel (l : Launch) (D : va_G) (cI cZ : ClassId) (tt : Nat → Nat) (h_this h_this_codes h_this_codes_codes h_this_ends h_this_rules h_this_tagged h_a2 h_a2_codes : Nat) (sz : Nat) (N_a2_codes : Nat) (n_this_count : Int32) (n_this_codes_size : Int32) (f_this_codes_codes : Nat → Int32) (f_this_ends : Nat → Int32) (f_this_rules : Nat → Int32) (f_this_tagged : Nat → Int32) (n_a2_size : Int32) (f_a2_codes : Nat → Int32) (a1 : Int32) (o : Int32 × (Nat → Int32)) (h : P_Labels_copyLabel N_a2_codes n_this_count n_this_codes_size f_this_codes_codes f_this_ends f_a2_codes a1 = some o) : Met l y_Labels_copyLabel (hn_w y_Labels_copyLabel b_Labels_copyLabel 3 none) rm_Labels_copyLabel (hn_Pc D (TY cI cZ) tt [.ref h_this, .int a1, .ref h_a2] sz [(h_this, .inr (1, [.ref h_this_codes, .ref h_this_ends, .ref h_this_rules, .ref h_this_tagged, .int n_this_count])), (h_this_codes, .inr (0, [.ref h_this_codes_codes, .int n_this_codes_size])), (h_this_codes_codes, .inl (cI, 96, .inl f_this_codes_codes)), (h_this_ends, .inl (cI, 49, .inl f_this_ends)), (h_this_rules, .inl (cI, 49, .inl f_this_rules)), (h_this_tagged, .inl (cZ, 49, .inl f_this_tagged)), (h_a2, .inr (0, [.ref h_a2_codes, .int n_a2_size])), (h_a2_codes, .inl (cI, N_a2_codes, .inl f_a2_codes))]) (hn_Qv D [(h_this, .inr (1, [.ref h_this_codes, .ref h_this_ends, .ref h_this_rules, .ref h_this_tagged, .int n_this_count])), (h_this_codes, .inr (0, [.ref h_this_codes_codes, .int n_this_codes_size])), (h_this_codes_codes, .inl (cI, 96, .inl f_this_codes_codes)), (h_this_ends, .inl (cI, 49, .inl f_this_ends)), (h_this_rules, .inl (cI, 49, .inl f_this_rules)), (h_this_tagged, .inl (cZ, 49, .inl f_this_tagged)), (h_a2, .inr (0, [.ref h_a2_codes, .int n_a2_size])), (h_a2_codes, .inl (cI, N_a2_codes, .inl f_a2_codes))] sz [(h_this, .inr (1, [.ref h_this_codes, .ref h_this_ends, .ref h_this_rules, .ref h_this_tagged, .int n_this_count])), (h_this_codes, .inr (0, [.ref h_this_codes_codes, .int n_this_codes_size])), (h_this_codes_codes, .inl (cI, 96, .inl f_this_codes_codes)), (h_this_ends, .inl (cI, 49, .inl f_this_ends)), (h_this_rules, .inl (cI, 49, .inl f_this_rules)), (h_this_tagged, .inl (cZ, 49, .inl f_this_tagged)), (h_a2, .inr (0, [.ref h_a2_codes, .int o.1])), (h_a2_codes, .inl (cI, N_a2_codes, .inl o.2))]) 0 0 (va_A [(h_this, .inr (1, [.ref h_this_codes, .ref h_this_ends, .ref h_this_rules, .ref h_this_tagged, .int n_this_count])), (h_this_codes, .inr (0, [.ref h_this_codes_codes, .int n_this_codes_size])), (h_this_codes_codes, .inl (cI, 96, .inl f_this_codes_codes)), (h_this_ends, .inl (cI, 49, .inl f_this_ends)), (h_this_rules, .inl (cI, 49, .inl f_this_rules)), (h_this_tagged, .inl (cZ, 49, .inl f_this_tagged)), (h_a2, .inr (0, [.ref h_a2_codes, .int n_a2_size])), (h_a2_codes, .inl (cI, N_a2_codes, .inl f_a2_codes))] sz) := by
  refine hn_ofWv (own := R_Labels) (by decide) rfl (Nat.le_of_ble_eq_true rfl) ?_
  intro p e s m args below meth c A H locs ls Q S hE hl hret
  have hx := S.1
  have hb := S.2.1
  have hown := S.2.2.2.1
  have hl : lv_has ls 3 [(0, .ref h_this), (1, .int a1), (2, .ref h_a2)] := hl
  have hj33 : ∀ (s0 : Int32) (n_a2_size : Int32) (f_a2_codes : Nat → Int32) (H : Heap) (locs : List Loc) (ls : Array Slot), hn_E D (TY cI cZ) tt A s H locs [(h_this, .inr (1, [.ref h_this_codes, .ref h_this_ends, .ref h_this_rules, .ref h_this_tagged, .int n_this_count])), (h_this_codes, .inr (0, [.ref h_this_codes_codes, .int n_this_codes_size])), (h_this_codes_codes, .inl (cI, 96, .inl f_this_codes_codes)), (h_this_ends, .inl (cI, 49, .inl f_this_ends)), (h_this_rules, .inl (cI, 49, .inl f_this_rules)), (h_this_tagged, .inl (cZ, 49, .inl f_this_tagged)), (h_a2, .inr (0, [.ref h_a2_codes, .int n_a2_size])), (h_a2_codes, .inl (cI, N_a2_codes, .inl f_a2_codes))] → lv_has ls 3 [(0, .ref h_this), (1, .int a1)] → P_Labels_copyLabel_33 N_a2_codes n_this_codes_size f_this_codes_codes f_this_ends a1 s0 n_a2_size f_a2_codes = some o → W p l e rm_Labels_copyLabel s m args below meth c H locs 0 0 Q (F0 m 33 ls [.int s0, .ref h_this_codes, .ref h_a2]) := by
    intro s0 n_a2_size f_a2_codes H locs ls hE hl h
    unfold P_Labels_copyLabel_33 at h
    refine lv_aload_n hx hb d_Labels_copyLabel_33 rfl (lv_at hl 0 rfl) ?_
    refine hn_get S hE kc_Labels 0 rfl rfl 1 (by decide) mw_41 rfl d_Labels_copyLabel_34 ?_
    refine lv_iload_n hx hb d_Labels_copyLabel_37 rfl (lv_at hl 1 rfl) ?_
    obtain ⟨hi38, h⟩ := gi_s h
    refine hn_iald S hE 3 0 rfl rfl hi38 d_Labels_copyLabel_38 ?_
    obtain ⟨x39, hc39, h⟩ := bd_s h
    have hM := (c_Row_addPart l D cI cZ tt h_a2 h_a2_codes h_this_codes h_this_codes_codes H.size N_a2_codes 96 n_a2_size f_a2_codes n_this_codes_size f_this_codes_codes s0 (f_this_ends (a1).toNatClampNeg) x39 hc39)
    refine hn_cv hE (hn_runV (As := [.ref h_this_codes, .int s0, .int (f_this_ends (a1).toNatClampNeg)]) (rest := []) S hE hM cf_Row_addPart mw_277 mw_257 mw_258 ⟨rfl, rfl⟩ ⟨Nat.le_of_ble_eq_true rfl, Nat.le_of_ble_eq_true rfl⟩ [6, 7, 1, 2] rfl rfl rfl rfl rfl rfl hl.1 (lv_room (Nat.le_of_ble_eq_true rfl)) d_Labels_copyLabel_39 ⟨Nat.zero_le _, Nat.zero_le _⟩) [6, 7, 1, 2] rfl rfl (fun H locs hE => ?_)
    have hE : hn_E D (TY cI cZ) tt A s H locs [(h_this, .inr (1, [.ref h_this_codes, .ref h_this_ends, .ref h_this_rules, .ref h_this_tagged, .int n_this_count])), (h_this_codes, .inr (0, [.ref h_this_codes_codes, .int n_this_codes_size])), (h_this_codes_codes, .inl (cI, 96, .inl f_this_codes_codes)), (h_this_ends, .inl (cI, 49, .inl f_this_ends)), (h_this_rules, .inl (cI, 49, .inl f_this_rules)), (h_this_tagged, .inl (cZ, 49, .inl f_this_tagged)), (h_a2, .inr (0, [.ref h_a2_codes, .int x39.1])), (h_a2_codes, .inl (cI, N_a2_codes, .inl x39.2))] := hE
    obtain rfl := Option.some.inj h
    exact hret H locs ls 42 d_Labels_copyLabel_42 hE
  unfold P_Labels_copyLabel at h
  refine lv_aload_n hx hb d_Labels_copyLabel_0 rfl (lv_at hl 2 rfl) ?_
  obtain ⟨x1, hc1, h⟩ := bd_s h
  have hM := (c_Row_empty l D cI cZ tt h_a2 h_a2_codes H.size N_a2_codes n_a2_size f_a2_codes x1 hc1)
  refine hn_cv hE (hn_runV (As := []) (rest := []) S hE hM cf_Row_empty mw_255 mw_157 mw_158 ⟨rfl, rfl⟩ ⟨Nat.le_of_ble_eq_true rfl, Nat.le_of_ble_eq_true rfl⟩ [6, 7] rfl rfl rfl rfl rfl rfl hl.1 (lv_room (Nat.le_of_ble_eq_true rfl)) d_Labels_copyLabel_1 ⟨Nat.zero_le _, Nat.zero_le _⟩) [6, 7] rfl rfl (fun H locs hE => ?_)
  have hE : hn_E D (TY cI cZ) tt A s H locs [(h_this, .inr (1, [.ref h_this_codes, .ref h_this_ends, .ref h_this_rules, .ref h_this_tagged, .int n_this_count])), (h_this_codes, .inr (0, [.ref h_this_codes_codes, .int n_this_codes_size])), (h_this_codes_codes, .inl (cI, 96, .inl f_this_codes_codes)), (h_this_ends, .inl (cI, 49, .inl f_this_ends)), (h_this_rules, .inl (cI, 49, .inl f_this_rules)), (h_this_tagged, .inl (cZ, 49, .inl f_this_tagged)), (h_a2, .inr (0, [.ref h_a2_codes, .int x1])), (h_a2_codes, .inl (cI, N_a2_codes, .inl f_a2_codes))] := hE
  refine lv_aload_n hx hb d_Labels_copyLabel_4 rfl (lv_at hl 0 rfl) ?_
  refine lv_iload_n hx hb d_Labels_copyLabel_5 rfl (lv_at hl 1 rfl) ?_
  obtain ⟨x6, hc6, h⟩ := bd_s h
  have hM := (c_Labels_has l D cI cZ tt h_this h_this_codes h_this_codes_codes h_this_ends h_this_rules h_this_tagged H.size n_this_count n_this_codes_size f_this_codes_codes f_this_ends f_this_rules f_this_tagged a1 x6 hc6)
  refine hn_cz hE (hn_runV (As := [.int a1]) (rest := []) S hE hM cf_Labels_has mw_356 mw_357 mw_358 ⟨rfl, rfl⟩ ⟨Nat.le_of_ble_eq_true rfl, Nat.le_of_ble_eq_true rfl⟩ [0, 1, 2, 3, 4, 5] rfl rfl rfl rfl rfl rfl hl.1 (lv_room (Nat.le_of_ble_eq_true rfl)) d_Labels_copyLabel_6 ⟨Nat.zero_le _, Nat.zero_le _⟩) [0, 1, 2, 3, 4, 5] rfl rfl (fun H locs hz6 hE => ?_)
  have hE : hn_E D (TY cI cZ) tt A s H locs [(h_this, .inr (1, [.ref h_this_codes, .ref h_this_ends, .ref h_this_rules, .ref h_this_tagged, .int n_this_count])), (h_this_codes, .inr (0, [.ref h_this_codes_codes, .int n_this_codes_size])), (h_this_codes_codes, .inl (cI, 96, .inl f_this_codes_codes)), (h_this_ends, .inl (cI, 49, .inl f_this_ends)), (h_this_rules, .inl (cI, 49, .inl f_this_rules)), (h_this_tagged, .inl (cZ, 49, .inl f_this_tagged)), (h_a2, .inr (0, [.ref h_a2_codes, .int x1])), (h_a2_codes, .inl (cI, N_a2_codes, .inl f_a2_codes))] := hE
  refine lv_if_eq (tgt := 42) hx hb d_Labels_copyLabel_9 (by decide) (fun hc => ?_) (fun hc => ?_)
  · have h := ite_t hc h
    obtain rfl := Option.some.inj h
    exact hret H locs ls 42 d_Labels_copyLabel_42 hE
  · have h := ite_f hc h
    refine lv_aload_n hx hb d_Labels_copyLabel_12 rfl (lv_at hl 2 rfl) ?_
    refine lv_aload_n hx hb d_Labels_copyLabel_13 rfl (lv_at hl 0 rfl) ?_
    refine hn_get S hE kc_Labels 0 rfl rfl 0 (by decide) mw_40 rfl d_Labels_copyLabel_14 ?_
    refine lv_iload_n hx hb d_Labels_copyLabel_17 rfl (lv_at hl 1 rfl) ?_
    refine lv_if_ne (tgt := 25) hx hb d_Labels_copyLabel_18 (by decide) (fun hc => ?_) (fun hc => ?_)
    · have h := ite_f hc h
      refine lv_aload_n hx hb d_Labels_copyLabel_25 rfl (lv_at hl 0 rfl) ?_
      refine hn_get S hE kc_Labels 0 rfl rfl 1 (by decide) mw_41 rfl d_Labels_copyLabel_26 ?_
      refine lv_iload_n hx hb d_Labels_copyLabel_29 rfl (lv_at hl 1 rfl) ?_
      refine lv_iconst (v := 1) hx hb d_Labels_copyLabel_30 (by decide) ?_
      refine lv_isub hx hb d_Labels_copyLabel_31 ?_
      obtain ⟨hi32, h⟩ := gi_s h
      refine hn_iald S hE 3 0 rfl rfl hi32 d_Labels_copyLabel_32 ?_
      exact hj33 (f_this_ends ((a1 - (1 : Int32))).toNatClampNeg) x1 f_a2_codes H locs ls hE (lv_sub hl [0, 1] rfl) h
    · have h := ite_t hc h
      refine lv_iconst (v := 0) hx hb d_Labels_copyLabel_21 (by decide) ?_
      refine lv_goto (tgt := 33) hx hb d_Labels_copyLabel_22 (by decide) ?_
      exact hj33 (0 : Int32) x1 f_a2_codes H locs ls hE (lv_sub hl [0, 1] rfl) h
abbrev rm_Labels_rules : Room := { frames := 1, cells := 0, slots := 0, locals := 21 }
theorem cf_Labels_rules : hn_CF y_Labels_rules b_Labels_rules 2 (some .int) 1 := ⟨mw_363, mw_3, by decide, by decide, by decide +kernel⟩
set_option maxHeartbeats 4000000 in
set_option maxRecDepth 100000 in
theorem c_Labels_rules (l : Launch) (D : va_G) (cI cZ : ClassId) (tt : Nat → Nat) (h_this h_this_codes h_this_codes_codes h_this_ends h_this_rules h_this_tagged : Nat) (sz : Nat) (n_this_count : Int32) (n_this_codes_size : Int32) (f_this_codes_codes : Nat → Int32) (f_this_ends : Nat → Int32) (f_this_rules : Nat → Int32) (f_this_tagged : Nat → Int32) (a1 : Int32) (o : Int32) (h : P_Labels_rules n_this_count f_this_rules a1 = some o) : Met l y_Labels_rules (hn_w y_Labels_rules b_Labels_rules 2 (some .int)) rm_Labels_rules (hn_Pc D (TY cI cZ) tt [.ref h_this, .int a1] sz [(h_this, .inr (1, [.ref h_this_codes, .ref h_this_ends, .ref h_this_rules, .ref h_this_tagged, .int n_this_count])), (h_this_codes, .inr (0, [.ref h_this_codes_codes, .int n_this_codes_size])), (h_this_codes_codes, .inl (cI, 96, .inl f_this_codes_codes)), (h_this_ends, .inl (cI, 49, .inl f_this_ends)), (h_this_rules, .inl (cI, 49, .inl f_this_rules)), (h_this_tagged, .inl (cZ, 49, .inl f_this_tagged))]) (hn_Qi D [(h_this, .inr (1, [.ref h_this_codes, .ref h_this_ends, .ref h_this_rules, .ref h_this_tagged, .int n_this_count])), (h_this_codes, .inr (0, [.ref h_this_codes_codes, .int n_this_codes_size])), (h_this_codes_codes, .inl (cI, 96, .inl f_this_codes_codes)), (h_this_ends, .inl (cI, 49, .inl f_this_ends)), (h_this_rules, .inl (cI, 49, .inl f_this_rules)), (h_this_tagged, .inl (cZ, 49, .inl f_this_tagged))] sz [(h_this, .inr (1, [.ref h_this_codes, .ref h_this_ends, .ref h_this_rules, .ref h_this_tagged, .int n_this_count])), (h_this_codes, .inr (0, [.ref h_this_codes_codes, .int n_this_codes_size])), (h_this_codes_codes, .inl (cI, 96, .inl f_this_codes_codes)), (h_this_ends, .inl (cI, 49, .inl f_this_ends)), (h_this_rules, .inl (cI, 49, .inl f_this_rules)), (h_this_tagged, .inl (cZ, 49, .inl f_this_tagged))] o) 0 0 (va_A [(h_this, .inr (1, [.ref h_this_codes, .ref h_this_ends, .ref h_this_rules, .ref h_this_tagged, .int n_this_count])), (h_this_codes, .inr (0, [.ref h_this_codes_codes, .int n_this_codes_size])), (h_this_codes_codes, .inl (cI, 96, .inl f_this_codes_codes)), (h_this_ends, .inl (cI, 49, .inl f_this_ends)), (h_this_rules, .inl (cI, 49, .inl f_this_rules)), (h_this_tagged, .inl (cZ, 49, .inl f_this_tagged))] sz) := by
  refine hn_ofWi (own := R_Labels) (by decide) rfl (Nat.le_of_ble_eq_true rfl) ?_
  intro p e s m args below meth c A H locs ls Q S hE hl hret
  have hx := S.1
  have hb := S.2.1
  have hown := S.2.2.2.1
  have hl : lv_has ls 2 [(0, .ref h_this), (1, .int a1)] := hl
  unfold P_Labels_rules at h
  refine lv_aload_n hx hb d_Labels_rules_0 rfl (lv_at hl 0 rfl) ?_
  refine lv_iload_n hx hb d_Labels_rules_1 rfl (lv_at hl 1 rfl) ?_
  obtain ⟨x2, hc2, h⟩ := bd_s h
  have hM := (c_Labels_has l D cI cZ tt h_this h_this_codes h_this_codes_codes h_this_ends h_this_rules h_this_tagged H.size n_this_count n_this_codes_size f_this_codes_codes f_this_ends f_this_rules f_this_tagged a1 x2 hc2)
  refine hn_cz hE (hn_runV (As := [.int a1]) (rest := []) S hE hM cf_Labels_has mw_356 mw_357 mw_358 ⟨rfl, rfl⟩ ⟨Nat.le_of_ble_eq_true rfl, Nat.le_of_ble_eq_true rfl⟩ [0, 1, 2, 3, 4, 5] rfl rfl rfl rfl rfl rfl hl.1 (lv_room (Nat.le_of_ble_eq_true rfl)) d_Labels_rules_2 ⟨Nat.zero_le _, Nat.zero_le _⟩) [0, 1, 2, 3, 4, 5] rfl rfl (fun H locs hz2 hE => ?_)
  have hE : hn_E D (TY cI cZ) tt A s H locs [(h_this, .inr (1, [.ref h_this_codes, .ref h_this_ends, .ref h_this_rules, .ref h_this_tagged, .int n_this_count])), (h_this_codes, .inr (0, [.ref h_this_codes_codes, .int n_this_codes_size])), (h_this_codes_codes, .inl (cI, 96, .inl f_this_codes_codes)), (h_this_ends, .inl (cI, 49, .inl f_this_ends)), (h_this_rules, .inl (cI, 49, .inl f_this_rules)), (h_this_tagged, .inl (cZ, 49, .inl f_this_tagged))] := hE
  refine lv_if_eq (tgt := 17) hx hb d_Labels_rules_5 (by decide) (fun hc => ?_) (fun hc => ?_)
  · have h := ite_t hc h
    refine lv_iconst (v := -1) hx hb d_Labels_rules_17 (by decide) ?_
    obtain rfl := Option.some.inj h
    exact hret H locs ls 18 d_Labels_rules_18 hE
  · have h := ite_f hc h
    refine lv_aload_n hx hb d_Labels_rules_8 rfl (lv_at hl 0 rfl) ?_
    refine hn_get S hE kc_Labels 0 rfl rfl 2 (by decide) mw_42 rfl d_Labels_rules_9 ?_
    refine lv_iload_n hx hb d_Labels_rules_12 rfl (lv_at hl 1 rfl) ?_
    obtain ⟨hi13, h⟩ := gi_s h
    refine hn_iald S hE 4 0 rfl rfl hi13 d_Labels_rules_13 ?_
    refine lv_goto (tgt := 18) hx hb d_Labels_rules_14 (by decide) ?_
    obtain rfl := Option.some.inj h
    exact hret H locs ls 18 d_Labels_rules_18 hE
abbrev rm_Labels_wasTagged : Room := { frames := 1, cells := 0, slots := 0, locals := 21 }
theorem cf_Labels_wasTagged : hn_CF y_Labels_wasTagged b_Labels_wasTagged 2 (some .boolean) 1 := ⟨mw_367, mw_3, by decide, by decide, by decide +kernel⟩
set_option maxHeartbeats 4000000 in
set_option maxRecDepth 100000 in
theorem c_Labels_wasTagged (l : Launch) (D : va_G) (cI cZ : ClassId) (tt : Nat → Nat) (h_this h_this_codes h_this_codes_codes h_this_ends h_this_rules h_this_tagged : Nat) (sz : Nat) (n_this_count : Int32) (n_this_codes_size : Int32) (f_this_codes_codes : Nat → Int32) (f_this_ends : Nat → Int32) (f_this_rules : Nat → Int32) (f_this_tagged : Nat → Int32) (a1 : Int32) (o : Int32) (h : P_Labels_wasTagged n_this_count f_this_tagged a1 = some o) : Met l y_Labels_wasTagged (hn_w y_Labels_wasTagged b_Labels_wasTagged 2 (some .boolean)) rm_Labels_wasTagged (hn_Pc D (TY cI cZ) tt [.ref h_this, .int a1] sz [(h_this, .inr (1, [.ref h_this_codes, .ref h_this_ends, .ref h_this_rules, .ref h_this_tagged, .int n_this_count])), (h_this_codes, .inr (0, [.ref h_this_codes_codes, .int n_this_codes_size])), (h_this_codes_codes, .inl (cI, 96, .inl f_this_codes_codes)), (h_this_ends, .inl (cI, 49, .inl f_this_ends)), (h_this_rules, .inl (cI, 49, .inl f_this_rules)), (h_this_tagged, .inl (cZ, 49, .inl f_this_tagged))]) (hn_Qz D [(h_this, .inr (1, [.ref h_this_codes, .ref h_this_ends, .ref h_this_rules, .ref h_this_tagged, .int n_this_count])), (h_this_codes, .inr (0, [.ref h_this_codes_codes, .int n_this_codes_size])), (h_this_codes_codes, .inl (cI, 96, .inl f_this_codes_codes)), (h_this_ends, .inl (cI, 49, .inl f_this_ends)), (h_this_rules, .inl (cI, 49, .inl f_this_rules)), (h_this_tagged, .inl (cZ, 49, .inl f_this_tagged))] sz [(h_this, .inr (1, [.ref h_this_codes, .ref h_this_ends, .ref h_this_rules, .ref h_this_tagged, .int n_this_count])), (h_this_codes, .inr (0, [.ref h_this_codes_codes, .int n_this_codes_size])), (h_this_codes_codes, .inl (cI, 96, .inl f_this_codes_codes)), (h_this_ends, .inl (cI, 49, .inl f_this_ends)), (h_this_rules, .inl (cI, 49, .inl f_this_rules)), (h_this_tagged, .inl (cZ, 49, .inl f_this_tagged))] o) 0 0 (va_A [(h_this, .inr (1, [.ref h_this_codes, .ref h_this_ends, .ref h_this_rules, .ref h_this_tagged, .int n_this_count])), (h_this_codes, .inr (0, [.ref h_this_codes_codes, .int n_this_codes_size])), (h_this_codes_codes, .inl (cI, 96, .inl f_this_codes_codes)), (h_this_ends, .inl (cI, 49, .inl f_this_ends)), (h_this_rules, .inl (cI, 49, .inl f_this_rules)), (h_this_tagged, .inl (cZ, 49, .inl f_this_tagged))] sz) := by
  refine hn_ofWz (own := R_Labels) (by decide) rfl (Nat.le_of_ble_eq_true rfl) ?_
  intro p e s m args below meth c A H locs ls Q S hE hl hret
  have hx := S.1
  have hb := S.2.1
  have hown := S.2.2.2.1
  have hl : lv_has ls 2 [(0, .ref h_this), (1, .int a1)] := hl
  unfold P_Labels_wasTagged at h
  refine lv_aload_n hx hb d_Labels_wasTagged_0 rfl (lv_at hl 0 rfl) ?_
  refine lv_iload_n hx hb d_Labels_wasTagged_1 rfl (lv_at hl 1 rfl) ?_
  obtain ⟨x2, hc2, h⟩ := bd_s h
  have hM := (c_Labels_has l D cI cZ tt h_this h_this_codes h_this_codes_codes h_this_ends h_this_rules h_this_tagged H.size n_this_count n_this_codes_size f_this_codes_codes f_this_ends f_this_rules f_this_tagged a1 x2 hc2)
  refine hn_cz hE (hn_runV (As := [.int a1]) (rest := []) S hE hM cf_Labels_has mw_356 mw_357 mw_358 ⟨rfl, rfl⟩ ⟨Nat.le_of_ble_eq_true rfl, Nat.le_of_ble_eq_true rfl⟩ [0, 1, 2, 3, 4, 5] rfl rfl rfl rfl rfl rfl hl.1 (lv_room (Nat.le_of_ble_eq_true rfl)) d_Labels_wasTagged_2 ⟨Nat.zero_le _, Nat.zero_le _⟩) [0, 1, 2, 3, 4, 5] rfl rfl (fun H locs hz2 hE => ?_)
  have hE : hn_E D (TY cI cZ) tt A s H locs [(h_this, .inr (1, [.ref h_this_codes, .ref h_this_ends, .ref h_this_rules, .ref h_this_tagged, .int n_this_count])), (h_this_codes, .inr (0, [.ref h_this_codes_codes, .int n_this_codes_size])), (h_this_codes_codes, .inl (cI, 96, .inl f_this_codes_codes)), (h_this_ends, .inl (cI, 49, .inl f_this_ends)), (h_this_rules, .inl (cI, 49, .inl f_this_rules)), (h_this_tagged, .inl (cZ, 49, .inl f_this_tagged))] := hE
  refine lv_if_eq (tgt := 21) hx hb d_Labels_wasTagged_5 (by decide) (fun hc => ?_) (fun hc => ?_)
  · have h := ite_t hc h
    refine lv_iconst (v := 0) hx hb d_Labels_wasTagged_21 (by decide) ?_
    obtain rfl := Option.some.inj h
    exact hret H locs ls 22 d_Labels_wasTagged_22 narrow_b0 hE
  · have h := ite_f hc h
    refine lv_aload_n hx hb d_Labels_wasTagged_8 rfl (lv_at hl 0 rfl) ?_
    refine hn_get S hE kc_Labels 0 rfl rfl 3 (by decide) mw_43 rfl d_Labels_wasTagged_9 ?_
    refine lv_iload_n hx hb d_Labels_wasTagged_12 rfl (lv_at hl 1 rfl) ?_
    obtain ⟨hi13, h⟩ := gi_s h
    refine hn_zald S hE 5 1 rfl rfl hi13 d_Labels_wasTagged_13 ?_
    refine lv_if_eq (tgt := 21) hx hb d_Labels_wasTagged_14 (by decide) (fun hc => ?_) (fun hc => ?_)
    · have h := ite_t hc h
      refine lv_iconst (v := 0) hx hb d_Labels_wasTagged_21 (by decide) ?_
      obtain rfl := Option.some.inj h
      exact hret H locs ls 22 d_Labels_wasTagged_22 narrow_b0 hE
    · have h := ite_f hc h
      refine lv_iconst (v := 1) hx hb d_Labels_wasTagged_17 (by decide) ?_
      refine lv_goto (tgt := 22) hx hb d_Labels_wasTagged_18 (by decide) ?_
      obtain rfl := Option.some.inj h
      exact hret H locs ls 22 d_Labels_wasTagged_22 narrow_b1 hE
abbrev rm_Labels_addRules : Room := { frames := 1, cells := 0, slots := 0, locals := 21 }
theorem cf_Labels_addRules : hn_CF y_Labels_addRules b_Labels_addRules 3 none 2 := ⟨mw_409, mw_3, by decide, by decide, by decide +kernel⟩
set_option maxHeartbeats 4000000 in
set_option maxRecDepth 100000 in
theorem c_Labels_addRules (l : Launch) (D : va_G) (cI cZ : ClassId) (tt : Nat → Nat) (h_this h_this_codes h_this_codes_codes h_this_ends h_this_rules h_this_tagged : Nat) (sz : Nat) (n_this_count : Int32) (n_this_codes_size : Int32) (f_this_codes_codes : Nat → Int32) (f_this_ends : Nat → Int32) (f_this_rules : Nat → Int32) (f_this_tagged : Nat → Int32) (a1 : Int32) (a2 : Int32) (o : (Nat → Int32)) (h : P_Labels_addRules n_this_count f_this_rules a1 a2 = some o) : Met l y_Labels_addRules (hn_w y_Labels_addRules b_Labels_addRules 3 none) rm_Labels_addRules (hn_Pc D (TY cI cZ) tt [.ref h_this, .int a1, .int a2] sz [(h_this, .inr (1, [.ref h_this_codes, .ref h_this_ends, .ref h_this_rules, .ref h_this_tagged, .int n_this_count])), (h_this_codes, .inr (0, [.ref h_this_codes_codes, .int n_this_codes_size])), (h_this_codes_codes, .inl (cI, 96, .inl f_this_codes_codes)), (h_this_ends, .inl (cI, 49, .inl f_this_ends)), (h_this_rules, .inl (cI, 49, .inl f_this_rules)), (h_this_tagged, .inl (cZ, 49, .inl f_this_tagged))]) (hn_Qv D [(h_this, .inr (1, [.ref h_this_codes, .ref h_this_ends, .ref h_this_rules, .ref h_this_tagged, .int n_this_count])), (h_this_codes, .inr (0, [.ref h_this_codes_codes, .int n_this_codes_size])), (h_this_codes_codes, .inl (cI, 96, .inl f_this_codes_codes)), (h_this_ends, .inl (cI, 49, .inl f_this_ends)), (h_this_rules, .inl (cI, 49, .inl f_this_rules)), (h_this_tagged, .inl (cZ, 49, .inl f_this_tagged))] sz [(h_this, .inr (1, [.ref h_this_codes, .ref h_this_ends, .ref h_this_rules, .ref h_this_tagged, .int n_this_count])), (h_this_codes, .inr (0, [.ref h_this_codes_codes, .int n_this_codes_size])), (h_this_codes_codes, .inl (cI, 96, .inl f_this_codes_codes)), (h_this_ends, .inl (cI, 49, .inl f_this_ends)), (h_this_rules, .inl (cI, 49, .inl o)), (h_this_tagged, .inl (cZ, 49, .inl f_this_tagged))]) 0 0 (va_A [(h_this, .inr (1, [.ref h_this_codes, .ref h_this_ends, .ref h_this_rules, .ref h_this_tagged, .int n_this_count])), (h_this_codes, .inr (0, [.ref h_this_codes_codes, .int n_this_codes_size])), (h_this_codes_codes, .inl (cI, 96, .inl f_this_codes_codes)), (h_this_ends, .inl (cI, 49, .inl f_this_ends)), (h_this_rules, .inl (cI, 49, .inl f_this_rules)), (h_this_tagged, .inl (cZ, 49, .inl f_this_tagged))] sz) := by
  refine hn_ofWv (own := R_Labels) (by decide) rfl (Nat.le_of_ble_eq_true rfl) ?_
  intro p e s m args below meth c A H locs ls Q S hE hl hret
  have hx := S.1
  have hb := S.2.1
  have hown := S.2.2.2.1
  have hl : lv_has ls 3 [(0, .ref h_this), (1, .int a1), (2, .int a2)] := hl
  unfold P_Labels_addRules at h
  refine lv_aload_n hx hb d_Labels_addRules_0 rfl (lv_at hl 0 rfl) ?_
  refine lv_iload_n hx hb d_Labels_addRules_1 rfl (lv_at hl 1 rfl) ?_
  obtain ⟨x2, hc2, h⟩ := bd_s h
  have hM := (c_Labels_has l D cI cZ tt h_this h_this_codes h_this_codes_codes h_this_ends h_this_rules h_this_tagged H.size n_this_count n_this_codes_size f_this_codes_codes f_this_ends f_this_rules f_this_tagged a1 x2 hc2)
  refine hn_cz hE (hn_runV (As := [.int a1]) (rest := []) S hE hM cf_Labels_has mw_356 mw_357 mw_358 ⟨rfl, rfl⟩ ⟨Nat.le_of_ble_eq_true rfl, Nat.le_of_ble_eq_true rfl⟩ [0, 1, 2, 3, 4, 5] rfl rfl rfl rfl rfl rfl hl.1 (lv_room (Nat.le_of_ble_eq_true rfl)) d_Labels_addRules_2 ⟨Nat.zero_le _, Nat.zero_le _⟩) [0, 1, 2, 3, 4, 5] rfl rfl (fun H locs hz2 hE => ?_)
  have hE : hn_E D (TY cI cZ) tt A s H locs [(h_this, .inr (1, [.ref h_this_codes, .ref h_this_ends, .ref h_this_rules, .ref h_this_tagged, .int n_this_count])), (h_this_codes, .inr (0, [.ref h_this_codes_codes, .int n_this_codes_size])), (h_this_codes_codes, .inl (cI, 96, .inl f_this_codes_codes)), (h_this_ends, .inl (cI, 49, .inl f_this_ends)), (h_this_rules, .inl (cI, 49, .inl f_this_rules)), (h_this_tagged, .inl (cZ, 49, .inl f_this_tagged))] := hE
  refine lv_if_eq (tgt := 18) hx hb d_Labels_addRules_5 (by decide) (fun hc => ?_) (fun hc => ?_)
  · have h := ite_t hc h
    obtain rfl := Option.some.inj h
    exact hret H locs ls 18 d_Labels_addRules_18 hE
  · have h := ite_f hc h
    refine lv_aload_n hx hb d_Labels_addRules_8 rfl (lv_at hl 0 rfl) ?_
    refine hn_get S hE kc_Labels 0 rfl rfl 2 (by decide) mw_42 rfl d_Labels_addRules_9 ?_
    refine lv_iload_n hx hb d_Labels_addRules_12 rfl (lv_at hl 1 rfl) ?_
    refine lv_dup2_11 hx hb d_Labels_addRules_13 rfl rfl ?_
    obtain ⟨hi14, h⟩ := gi_s h
    refine hn_iald S hE 4 0 rfl rfl hi14 d_Labels_addRules_14 ?_
    refine lv_iload_n hx hb d_Labels_addRules_15 rfl (lv_at hl 2 rfl) ?_
    refine lv_ior hx hb d_Labels_addRules_16 ?_
    obtain ⟨hi17, h⟩ := gi_s h
    refine hn_iast S hE 4 0 rfl rfl hi17 d_Labels_addRules_17 (fun H locs hE => ?_)
    have hE : hn_E D (TY cI cZ) tt A s H locs [(h_this, .inr (1, [.ref h_this_codes, .ref h_this_ends, .ref h_this_rules, .ref h_this_tagged, .int n_this_count])), (h_this_codes, .inr (0, [.ref h_this_codes_codes, .int n_this_codes_size])), (h_this_codes_codes, .inl (cI, 96, .inl f_this_codes_codes)), (h_this_ends, .inl (cI, 49, .inl f_this_ends)), (h_this_rules, .inl (cI, 49, .inl (upd f_this_rules (a1).toNatClampNeg ((f_this_rules (a1).toNatClampNeg) ||| a2)))), (h_this_tagged, .inl (cZ, 49, .inl f_this_tagged))] := hE
    obtain rfl := Option.some.inj h
    exact hret H locs ls 18 d_Labels_addRules_18 hE
abbrev rm_Labels_allRules : Room := { frames := 0, cells := 0, slots := 0, locals := 0 }
theorem cf_Labels_allRules : hn_CF y_Labels_allRules b_Labels_allRules 3 (some .int) 0 := ⟨mw_451, mw_3, by decide, by decide, by decide +kernel⟩
set_option maxHeartbeats 4000000 in
set_option maxRecDepth 100000 in
theorem c_Labels_allRules (l : Launch) (D : va_G) (cI cZ : ClassId) (tt : Nat → Nat) (h_this h_this_codes h_this_codes_codes h_this_ends h_this_rules h_this_tagged : Nat) (sz : Nat) (n_this_count : Int32) (n_this_codes_size : Int32) (f_this_codes_codes : Nat → Int32) (f_this_ends : Nat → Int32) (f_this_rules : Nat → Int32) (f_this_tagged : Nat → Int32) (o : Int32) (h : P_Labels_allRules n_this_count f_this_rules = some o) : Met l y_Labels_allRules (hn_w y_Labels_allRules b_Labels_allRules 3 (some .int)) rm_Labels_allRules (hn_Pc D (TY cI cZ) tt [.ref h_this] sz [(h_this, .inr (1, [.ref h_this_codes, .ref h_this_ends, .ref h_this_rules, .ref h_this_tagged, .int n_this_count])), (h_this_codes, .inr (0, [.ref h_this_codes_codes, .int n_this_codes_size])), (h_this_codes_codes, .inl (cI, 96, .inl f_this_codes_codes)), (h_this_ends, .inl (cI, 49, .inl f_this_ends)), (h_this_rules, .inl (cI, 49, .inl f_this_rules)), (h_this_tagged, .inl (cZ, 49, .inl f_this_tagged))]) (hn_Qi D [(h_this, .inr (1, [.ref h_this_codes, .ref h_this_ends, .ref h_this_rules, .ref h_this_tagged, .int n_this_count])), (h_this_codes, .inr (0, [.ref h_this_codes_codes, .int n_this_codes_size])), (h_this_codes_codes, .inl (cI, 96, .inl f_this_codes_codes)), (h_this_ends, .inl (cI, 49, .inl f_this_ends)), (h_this_rules, .inl (cI, 49, .inl f_this_rules)), (h_this_tagged, .inl (cZ, 49, .inl f_this_tagged))] sz [(h_this, .inr (1, [.ref h_this_codes, .ref h_this_ends, .ref h_this_rules, .ref h_this_tagged, .int n_this_count])), (h_this_codes, .inr (0, [.ref h_this_codes_codes, .int n_this_codes_size])), (h_this_codes_codes, .inl (cI, 96, .inl f_this_codes_codes)), (h_this_ends, .inl (cI, 49, .inl f_this_ends)), (h_this_rules, .inl (cI, 49, .inl f_this_rules)), (h_this_tagged, .inl (cZ, 49, .inl f_this_tagged))] o) 0 0 (va_A [(h_this, .inr (1, [.ref h_this_codes, .ref h_this_ends, .ref h_this_rules, .ref h_this_tagged, .int n_this_count])), (h_this_codes, .inr (0, [.ref h_this_codes_codes, .int n_this_codes_size])), (h_this_codes_codes, .inl (cI, 96, .inl f_this_codes_codes)), (h_this_ends, .inl (cI, 49, .inl f_this_ends)), (h_this_rules, .inl (cI, 49, .inl f_this_rules)), (h_this_tagged, .inl (cZ, 49, .inl f_this_tagged))] sz) := by
  refine hn_ofWi (own := R_Labels) (by decide) rfl (Nat.le_of_ble_eq_true rfl) ?_
  intro p e s m args below meth c A H locs ls Q S hE hl hret
  have hx := S.1
  have hb := S.2.1
  have hown := S.2.2.2.1
  have hl : lv_has ls 3 [(0, .ref h_this)] := hl
  have hL4 : ∀ (kf : Nat) (v1 : Int32) (v2 : Int32) (H : Heap) (locs : List Loc) (ls : Array Slot), hn_E D (TY cI cZ) tt A s H locs [(h_this, .inr (1, [.ref h_this_codes, .ref h_this_ends, .ref h_this_rules, .ref h_this_tagged, .int n_this_count])), (h_this_codes, .inr (0, [.ref h_this_codes_codes, .int n_this_codes_size])), (h_this_codes_codes, .inl (cI, 96, .inl f_this_codes_codes)), (h_this_ends, .inl (cI, 49, .inl f_this_ends)), (h_this_rules, .inl (cI, 49, .inl f_this_rules)), (h_this_tagged, .inl (cZ, 49, .inl f_this_tagged))] → lv_has ls 3 [(0, .ref h_this), (1, .int v1), (2, .int v2)] → fl2 (P_Labels_allRules_4 n_this_count f_this_rules) kf v1 v2 = some o → W p l e rm_Labels_allRules s m args below meth c H locs 0 0 Q (F0 m 4 ls []) := by
    intro kf
    induction kf with
    | zero => intro v1 v2 H locs ls hE hl h; exact no_s h
    | succ kf ih =>
      intro v1 v2 H locs ls hE hl h
      have h : P_Labels_allRules_4 n_this_count f_this_rules (fl2 (P_Labels_allRules_4 n_this_count f_this_rules) kf) v1 v2 = some o := h
      generalize fl2 (P_Labels_allRules_4 n_this_count f_this_rules) kf = k4 at ih h
      have hk4 := ih
      unfold P_Labels_allRules_4 at h
      refine lv_iload_n hx hb d_Labels_allRules_4 rfl (lv_at hl 2 rfl) ?_
      refine lv_aload_n hx hb d_Labels_allRules_5 rfl (lv_at hl 0 rfl) ?_
      refine hn_get S hE kc_Labels 0 rfl rfl 4 (by decide) mw_44 rfl d_Labels_allRules_6 ?_
      refine lv_icmp_ge (tgt := 27) hx hb d_Labels_allRules_9 (by decide) (fun hc => ?_) (fun hc => ?_)
      · have h := ite_t hc h
        refine lv_iload_n hx hb d_Labels_allRules_27 rfl (lv_at hl 1 rfl) ?_
        obtain rfl := Option.some.inj h
        exact hret H locs ls 28 d_Labels_allRules_28 hE
      · have h := ite_f hc h
        refine lv_iload_n hx hb d_Labels_allRules_12 rfl (lv_at hl 1 rfl) ?_
        refine lv_aload_n hx hb d_Labels_allRules_13 rfl (lv_at hl 0 rfl) ?_
        refine hn_get S hE kc_Labels 0 rfl rfl 2 (by decide) mw_42 rfl d_Labels_allRules_14 ?_
        refine lv_iload_n hx hb d_Labels_allRules_17 rfl (lv_at hl 2 rfl) ?_
        obtain ⟨hi18, h⟩ := gi_s h
        refine hn_iald S hE 4 0 rfl rfl hi18 d_Labels_allRules_18 ?_
        refine lv_ior hx hb d_Labels_allRules_19 ?_
        refine lv_istore_n (lv' := [(1, .int (v1 ||| (f_this_rules (v2).toNatClampNeg))), (0, .ref h_this), (2, .int v2)]) hx hb d_Labels_allRules_20 rfl hl (by decide) rfl (fun ls hl => ?_)
        refine lv_iinc (v := (v2 + (1 : Int32))) (lv' := [(2, .int (v2 + (1 : Int32))), (1, .int (v1 ||| (f_this_rules (v2).toNatClampNeg))), (0, .ref h_this)]) hx hb d_Labels_allRules_21 hl (k := 2) rfl rfl (by decide) rfl (fun ls hl => ?_)
        refine lv_goto (tgt := 4) hx hb d_Labels_allRules_24 (by decide) ?_
        exact hk4 (v1 ||| (f_this_rules (v2).toNatClampNeg)) (v2 + (1 : Int32)) H locs ls hE (lv_sub hl [2, 1, 0] rfl) h
  unfold P_Labels_allRules at h
  refine lv_iconst (v := 0) hx hb d_Labels_allRules_0 (by decide) ?_
  refine lv_istore_n (lv' := [(1, .int (0 : Int32)), (0, .ref h_this)]) hx hb d_Labels_allRules_1 rfl hl (by decide) rfl (fun ls hl => ?_)
  refine lv_iconst (v := 0) hx hb d_Labels_allRules_2 (by decide) ?_
  refine lv_istore_n (lv' := [(2, .int (0 : Int32)), (1, .int (0 : Int32)), (0, .ref h_this)]) hx hb d_Labels_allRules_3 rfl hl (by decide) rfl (fun ls hl => ?_)
  exact hL4 fu (0 : Int32) (0 : Int32) H locs ls hE (lv_sub hl [2, 1, 0] rfl) h
