abbrev rm_Row_add : Room := { frames := 0, cells := 0, slots := 0, locals := 0 }
theorem cf_Row_add : hn_CF y_Row_add b_Row_add 2 (some .boolean) 1 := ⟨mw_143, mw_2, by decide, by decide, by decide +kernel⟩
set_option maxHeartbeats 4000000 in
set_option maxRecDepth 100000 in
theorem c_Row_add (l : Launch) (D : va_G) (cI cZ : ClassId) (tt : Nat → Nat) (h_this h_this_codes : Nat) (sz : Nat) (N_this_codes : Nat) (n_this_size : Int32) (f_this_codes : Nat → Int32) (a1 : Int32) (o : Int32 × Int32 × (Nat → Int32)) (h : P_Row_add N_this_codes n_this_size f_this_codes a1 = some o) : Met l y_Row_add (hn_w y_Row_add b_Row_add 2 (some .boolean)) rm_Row_add (hn_Pc D (TY cI cZ) tt [.ref h_this, .int a1] sz [(h_this, .inr (0, [.ref h_this_codes, .int n_this_size])), (h_this_codes, .inl (cI, N_this_codes, .inl f_this_codes))]) (hn_Qz D [(h_this, .inr (0, [.ref h_this_codes, .int n_this_size])), (h_this_codes, .inl (cI, N_this_codes, .inl f_this_codes))] sz [(h_this, .inr (0, [.ref h_this_codes, .int o.2.1])), (h_this_codes, .inl (cI, N_this_codes, .inl o.2.2))] o.1) 0 0 (va_A [(h_this, .inr (0, [.ref h_this_codes, .int n_this_size])), (h_this_codes, .inl (cI, N_this_codes, .inl f_this_codes))] sz) := by
  refine hn_ofWz (own := R_Row) (by decide) rfl (Nat.le_of_ble_eq_true rfl) ?_
  intro p e s m args below meth c A H locs ls Q S hE hl hret
  have hx := S.1
  have hb := S.2.1
  have hown := S.2.2.2.1
  have hl : lv_has ls 2 [(0, .ref h_this), (1, .int a1)] := hl
  unfold P_Row_add at h
  refine lv_aload_n hx hb d_Row_add_0 rfl (lv_at hl 0 rfl) ?_
  refine hn_get S hE kc_Row 0 rfl rfl 1 (by decide) mw_25 rfl d_Row_add_1 ?_
  refine lv_aload_n hx hb d_Row_add_4 rfl (lv_at hl 0 rfl) ?_
  refine hn_get S hE kc_Row 0 rfl rfl 0 (by decide) mw_24 rfl d_Row_add_5 ?_
  refine hn_alen S hE 1 0 rfl rfl d_Row_add_8 ?_
  refine lv_icmp_lt (tgt := 14) hx hb d_Row_add_9 (by decide) (fun hc => ?_) (fun hc => ?_)
  · have h := ite_t hc h
    refine lv_aload_n hx hb d_Row_add_14 rfl (lv_at hl 0 rfl) ?_
    refine hn_get S hE kc_Row 0 rfl rfl 0 (by decide) mw_24 rfl d_Row_add_15 ?_
    refine lv_aload_n hx hb d_Row_add_18 rfl (lv_at hl 0 rfl) ?_
    refine hn_get S hE kc_Row 0 rfl rfl 1 (by decide) mw_25 rfl d_Row_add_19 ?_
    refine lv_iload_n hx hb d_Row_add_22 rfl (lv_at hl 1 rfl) ?_
    obtain ⟨hi23, h⟩ := gi_s h
    refine hn_iast S hE 1 0 rfl rfl hi23 d_Row_add_23 (fun H locs hE => ?_)
    have hE : hn_E D (TY cI cZ) tt A s H locs [(h_this, .inr (0, [.ref h_this_codes, .int n_this_size])), (h_this_codes, .inl (cI, N_this_codes, .inl (upd f_this_codes (n_this_size).toNatClampNeg a1)))] := hE
    refine lv_aload_n hx hb d_Row_add_24 rfl (lv_at hl 0 rfl) ?_
    refine lv_dup hx hb d_Row_add_25 rfl ?_
    refine hn_get S hE kc_Row 0 rfl rfl 1 (by decide) mw_25 rfl d_Row_add_26 ?_
    refine lv_iconst (v := 1) hx hb d_Row_add_29 (by decide) ?_
    refine lv_iadd hx hb d_Row_add_30 ?_
    refine hn_put (tv := .int) S hE kc_Row t_Row_ok n_Row 0 rfl rfl 1 (by decide) mw_25 rfl (by decide +kernel) rfl rfl (Nat.le_of_ble_eq_true rfl) d_Row_add_31 (fun H locs hE => ?_)
    have hE : hn_E D (TY cI cZ) tt A s H locs [(h_this, .inr (0, [.ref h_this_codes, .int (n_this_size + (1 : Int32))])), (h_this_codes, .inl (cI, N_this_codes, .inl (upd f_this_codes (n_this_size).toNatClampNeg a1)))] := hE
    refine lv_iconst (v := 1) hx hb d_Row_add_34 (by decide) ?_
    obtain rfl := Option.some.inj h
    exact hret H locs ls 35 d_Row_add_35 narrow_b1 hE
  · have h := ite_f hc h
    refine lv_iconst (v := 0) hx hb d_Row_add_12 (by decide) ?_
    obtain rfl := Option.some.inj h
    exact hret H locs ls 13 d_Row_add_13 narrow_b0 hE
abbrev rm_Row_size : Room := { frames := 0, cells := 0, slots := 0, locals := 0 }
theorem cf_Row_size : hn_CF y_Row_size b_Row_size 1 (some .int) 0 := ⟨mw_151, mw_2, by decide, by decide, by decide +kernel⟩
set_option maxHeartbeats 4000000 in
set_option maxRecDepth 100000 in
theorem c_Row_size (l : Launch) (D : va_G) (cI cZ : ClassId) (tt : Nat → Nat) (h_this h_this_codes : Nat) (sz : Nat) (N_this_codes : Nat) (n_this_size : Int32) (f_this_codes : Nat → Int32) (o : Int32) (h : P_Row_size n_this_size = some o) : Met l y_Row_size (hn_w y_Row_size b_Row_size 1 (some .int)) rm_Row_size (hn_Pc D (TY cI cZ) tt [.ref h_this] sz [(h_this, .inr (0, [.ref h_this_codes, .int n_this_size])), (h_this_codes, .inl (cI, N_this_codes, .inl f_this_codes))]) (hn_Qi D [(h_this, .inr (0, [.ref h_this_codes, .int n_this_size])), (h_this_codes, .inl (cI, N_this_codes, .inl f_this_codes))] sz [(h_this, .inr (0, [.ref h_this_codes, .int n_this_size])), (h_this_codes, .inl (cI, N_this_codes, .inl f_this_codes))] o) 0 0 (va_A [(h_this, .inr (0, [.ref h_this_codes, .int n_this_size])), (h_this_codes, .inl (cI, N_this_codes, .inl f_this_codes))] sz) := by
  refine hn_ofWi (own := R_Row) (by decide) rfl (Nat.le_of_ble_eq_true rfl) ?_
  intro p e s m args below meth c A H locs ls Q S hE hl hret
  have hx := S.1
  have hb := S.2.1
  have hown := S.2.2.2.1
  have hl : lv_has ls 1 [(0, .ref h_this)] := hl
  unfold P_Row_size at h
  refine lv_aload_n hx hb d_Row_size_0 rfl (lv_at hl 0 rfl) ?_
  refine hn_get S hE kc_Row 0 rfl rfl 1 (by decide) mw_25 rfl d_Row_size_1 ?_
  obtain rfl := Option.some.inj h
  exact hret H locs ls 4 d_Row_size_4 hE
abbrev rm_Row_empty : Room := { frames := 0, cells := 0, slots := 0, locals := 0 }
theorem cf_Row_empty : hn_CF y_Row_empty b_Row_empty 1 none 0 := ⟨mw_159, mw_2, by decide, by decide, by decide +kernel⟩
set_option maxHeartbeats 4000000 in
set_option maxRecDepth 100000 in
theorem c_Row_empty (l : Launch) (D : va_G) (cI cZ : ClassId) (tt : Nat → Nat) (h_this h_this_codes : Nat) (sz : Nat) (N_this_codes : Nat) (n_this_size : Int32) (f_this_codes : Nat → Int32) (o : Int32) (h : P_Row_empty = some o) : Met l y_Row_empty (hn_w y_Row_empty b_Row_empty 1 none) rm_Row_empty (hn_Pc D (TY cI cZ) tt [.ref h_this] sz [(h_this, .inr (0, [.ref h_this_codes, .int n_this_size])), (h_this_codes, .inl (cI, N_this_codes, .inl f_this_codes))]) (hn_Qv D [(h_this, .inr (0, [.ref h_this_codes, .int n_this_size])), (h_this_codes, .inl (cI, N_this_codes, .inl f_this_codes))] sz [(h_this, .inr (0, [.ref h_this_codes, .int o])), (h_this_codes, .inl (cI, N_this_codes, .inl f_this_codes))]) 0 0 (va_A [(h_this, .inr (0, [.ref h_this_codes, .int n_this_size])), (h_this_codes, .inl (cI, N_this_codes, .inl f_this_codes))] sz) := by
  refine hn_ofWv (own := R_Row) (by decide) rfl (Nat.le_of_ble_eq_true rfl) ?_
  intro p e s m args below meth c A H locs ls Q S hE hl hret
  have hx := S.1
  have hb := S.2.1
  have hown := S.2.2.2.1
  have hl : lv_has ls 1 [(0, .ref h_this)] := hl
  unfold P_Row_empty at h
  refine lv_aload_n hx hb d_Row_empty_0 rfl (lv_at hl 0 rfl) ?_
  refine lv_iconst (v := 0) hx hb d_Row_empty_1 (by decide) ?_
  refine hn_put (tv := .int) S hE kc_Row t_Row_ok n_Row 0 rfl rfl 1 (by decide) mw_25 rfl (by decide +kernel) rfl rfl (Nat.le_of_ble_eq_true rfl) d_Row_empty_2 (fun H locs hE => ?_)
  have hE : hn_E D (TY cI cZ) tt A s H locs [(h_this, .inr (0, [.ref h_this_codes, .int (0 : Int32)])), (h_this_codes, .inl (cI, N_this_codes, .inl f_this_codes))] := hE
  obtain rfl := Option.some.inj h
  exact hret H locs ls 5 d_Row_empty_5 hE
abbrev rm_Row_get : Room := { frames := 0, cells := 0, slots := 0, locals := 0 }
theorem cf_Row_get : hn_CF y_Row_get b_Row_get 2 (some .int) 1 := ⟨mw_171, mw_2, by decide, by decide, by decide +kernel⟩
set_option maxHeartbeats 4000000 in
set_option maxRecDepth 100000 in
theorem c_Row_get (l : Launch) (D : va_G) (cI cZ : ClassId) (tt : Nat → Nat) (h_this h_this_codes : Nat) (sz : Nat) (N_this_codes : Nat) (n_this_size : Int32) (f_this_codes : Nat → Int32) (a1 : Int32) (o : Int32) (h : P_Row_get N_this_codes n_this_size f_this_codes a1 = some o) : Met l y_Row_get (hn_w y_Row_get b_Row_get 2 (some .int)) rm_Row_get (hn_Pc D (TY cI cZ) tt [.ref h_this, .int a1] sz [(h_this, .inr (0, [.ref h_this_codes, .int n_this_size])), (h_this_codes, .inl (cI, N_this_codes, .inl f_this_codes))]) (hn_Qi D [(h_this, .inr (0, [.ref h_this_codes, .int n_this_size])), (h_this_codes, .inl (cI, N_this_codes, .inl f_this_codes))] sz [(h_this, .inr (0, [.ref h_this_codes, .int n_this_size])), (h_this_codes, .inl (cI, N_this_codes, .inl f_this_codes))] o) 0 0 (va_A [(h_this, .inr (0, [.ref h_this_codes, .int n_this_size])), (h_this_codes, .inl (cI, N_this_codes, .inl f_this_codes))] sz) := by
  refine hn_ofWi (own := R_Row) (by decide) rfl (Nat.le_of_ble_eq_true rfl) ?_
  intro p e s m args below meth c A H locs ls Q S hE hl hret
  have hx := S.1
  have hb := S.2.1
  have hown := S.2.2.2.1
  have hl : lv_has ls 2 [(0, .ref h_this), (1, .int a1)] := hl
  unfold P_Row_get at h
  refine lv_iload_n hx hb d_Row_get_0 rfl (lv_at hl 1 rfl) ?_
  refine lv_if_lt (tgt := 12) hx hb d_Row_get_1 (by decide) (fun hc => ?_) (fun hc => ?_)
  · have h := ite_t hc h
    refine lv_iconst (v := -1) hx hb d_Row_get_12 (by decide) ?_
    refine lv_goto (tgt := 22) hx hb d_Row_get_13 (by decide) ?_
    obtain rfl := Option.some.inj h
    exact hret H locs ls 22 d_Row_get_22 hE
  · have h := ite_f hc h
    refine lv_iload_n hx hb d_Row_get_4 rfl (lv_at hl 1 rfl) ?_
    refine lv_aload_n hx hb d_Row_get_5 rfl (lv_at hl 0 rfl) ?_
    refine hn_get S hE kc_Row 0 rfl rfl 1 (by decide) mw_25 rfl d_Row_get_6 ?_
    refine lv_icmp_lt (tgt := 16) hx hb d_Row_get_9 (by decide) (fun hc => ?_) (fun hc => ?_)
    · have h := ite_t hc h
      refine lv_aload_n hx hb d_Row_get_16 rfl (lv_at hl 0 rfl) ?_
      refine hn_get S hE kc_Row 0 rfl rfl 0 (by decide) mw_24 rfl d_Row_get_17 ?_
      refine lv_iload_n hx hb d_Row_get_20 rfl (lv_at hl 1 rfl) ?_
      obtain ⟨hi21, h⟩ := gi_s h
      refine hn_iald S hE 1 0 rfl rfl hi21 d_Row_get_21 ?_
      obtain rfl := Option.some.inj h
      exact hret H locs ls 22 d_Row_get_22 hE
    · have h := ite_f hc h
      refine lv_iconst (v := -1) hx hb d_Row_get_12 (by decide) ?_
      refine lv_goto (tgt := 22) hx hb d_Row_get_13 (by decide) ?_
      obtain rfl := Option.some.inj h
      exact hret H locs ls 22 d_Row_get_22 hE
abbrev rm_Row_set : Room := { frames := 0, cells := 0, slots := 0, locals := 0 }
theorem cf_Row_set : hn_CF y_Row_set b_Row_set 3 none 2 := ⟨mw_239, mw_2, by decide, by decide, by decide +kernel⟩
set_option maxHeartbeats 4000000 in
set_option maxRecDepth 100000 in
theorem c_Row_set (l : Launch) (D : va_G) (cI cZ : ClassId) (tt : Nat → Nat) (h_this h_this_codes : Nat) (sz : Nat) (N_this_codes : Nat) (n_this_size : Int32) (f_this_codes : Nat → Int32) (a1 : Int32) (a2 : Int32) (o : (Nat → Int32)) (h : P_Row_set N_this_codes n_this_size f_this_codes a1 a2 = some o) : Met l y_Row_set (hn_w y_Row_set b_Row_set 3 none) rm_Row_set (hn_Pc D (TY cI cZ) tt [.ref h_this, .int a1, .int a2] sz [(h_this, .inr (0, [.ref h_this_codes, .int n_this_size])), (h_this_codes, .inl (cI, N_this_codes, .inl f_this_codes))]) (hn_Qv D [(h_this, .inr (0, [.ref h_this_codes, .int n_this_size])), (h_this_codes, .inl (cI, N_this_codes, .inl f_this_codes))] sz [(h_this, .inr (0, [.ref h_this_codes, .int n_this_size])), (h_this_codes, .inl (cI, N_this_codes, .inl o))]) 0 0 (va_A [(h_this, .inr (0, [.ref h_this_codes, .int n_this_size])), (h_this_codes, .inl (cI, N_this_codes, .inl f_this_codes))] sz) := by
  refine hn_ofWv (own := R_Row) (by decide) rfl (Nat.le_of_ble_eq_true rfl) ?_
  intro p e s m args below meth c A H locs ls Q S hE hl hret
  have hx := S.1
  have hb := S.2.1
  have hown := S.2.2.2.1
  have hl : lv_has ls 3 [(0, .ref h_this), (1, .int a1), (2, .int a2)] := hl
  unfold P_Row_set at h
  refine lv_iload_n hx hb d_Row_set_0 rfl (lv_at hl 1 rfl) ?_
  refine lv_if_lt (tgt := 19) hx hb d_Row_set_1 (by decide) (fun hc => ?_) (fun hc => ?_)
  · have h := ite_t hc h
    obtain rfl := Option.some.inj h
    exact hret H locs ls 19 d_Row_set_19 hE
  · have h := ite_f hc h
    refine lv_iload_n hx hb d_Row_set_4 rfl (lv_at hl 1 rfl) ?_
    refine lv_aload_n hx hb d_Row_set_5 rfl (lv_at hl 0 rfl) ?_
    refine hn_get S hE kc_Row 0 rfl rfl 1 (by decide) mw_25 rfl d_Row_set_6 ?_
    refine lv_icmp_ge (tgt := 19) hx hb d_Row_set_9 (by decide) (fun hc => ?_) (fun hc => ?_)
    · have h := ite_t hc h
      obtain rfl := Option.some.inj h
      exact hret H locs ls 19 d_Row_set_19 hE
    · have h := ite_f hc h
      refine lv_aload_n hx hb d_Row_set_12 rfl (lv_at hl 0 rfl) ?_
      refine hn_get S hE kc_Row 0 rfl rfl 0 (by decide) mw_24 rfl d_Row_set_13 ?_
      refine lv_iload_n hx hb d_Row_set_16 rfl (lv_at hl 1 rfl) ?_
      refine lv_iload_n hx hb d_Row_set_17 rfl (lv_at hl 2 rfl) ?_
      obtain ⟨hi18, h⟩ := gi_s h
      refine hn_iast S hE 1 0 rfl rfl hi18 d_Row_set_18 (fun H locs hE => ?_)
      have hE : hn_E D (TY cI cZ) tt A s H locs [(h_this, .inr (0, [.ref h_this_codes, .int n_this_size])), (h_this_codes, .inl (cI, N_this_codes, .inl (upd f_this_codes (a1).toNatClampNeg a2)))] := hE
      obtain rfl := Option.some.inj h
      exact hret H locs ls 19 d_Row_set_19 hE
abbrev rm_Row_addPart : Room := { frames := 1, cells := 0, slots := 0, locals := 21 }
theorem cf_Row_addPart : hn_CF y_Row_addPart b_Row_addPart 5 none 3 := ⟨mw_259, mw_2, by decide, by decide, by decide +kernel⟩
set_option maxHeartbeats 4000000 in
set_option maxRecDepth 100000 in
theorem c_Row_addPart (l : Launch) (D : va_G) (cI cZ : ClassId) (tt : Nat → Nat) (h_this h_this_codes h_a1 h_a1_codes : Nat) (sz : Nat) (N_this_codes : Nat) (N_a1_codes : Nat) (n_this_size : Int32) (f_this_codes : Nat → Int32) (n_a1_size : Int32) (f_a1_codes : Nat → Int32) (a2 : Int32) (a3 : Int32) (o : Int32 × (Nat → Int32)) (h : P_Row_addPart N_this_codes N_a1_codes n_this_size f_this_codes n_a1_size f_a1_codes a2 a3 = some o) : Met l y_Row_addPart (hn_w y_Row_addPart b_Row_addPart 5 none) rm_Row_addPart (hn_Pc D (TY cI cZ) tt [.ref h_this, .ref h_a1, .int a2, .int a3] sz [(h_this, .inr (0, [.ref h_this_codes, .int n_this_size])), (h_this_codes, .inl (cI, N_this_codes, .inl f_this_codes)), (h_a1, .inr (0, [.ref h_a1_codes, .int n_a1_size])), (h_a1_codes, .inl (cI, N_a1_codes, .inl f_a1_codes))]) (hn_Qv D [(h_this, .inr (0, [.ref h_this_codes, .int n_this_size])), (h_this_codes, .inl (cI, N_this_codes, .inl f_this_codes)), (h_a1, .inr (0, [.ref h_a1_codes, .int n_a1_size])), (h_a1_codes, .inl (cI, N_a1_codes, .inl f_a1_codes))] sz [(h_this, .inr (0, [.ref h_this_codes, .int o.1])), (h_this_codes, .inl (cI, N_this_codes, .inl o.2)), (h_a1, .inr (0, [.ref h_a1_codes, .int n_a1_size])), (h_a1_codes, .inl (cI, N_a1_codes, .inl f_a1_codes))]) 0 0 (va_A [(h_this, .inr (0, [.ref h_this_codes, .int n_this_size])), (h_this_codes, .inl (cI, N_this_codes, .inl f_this_codes)), (h_a1, .inr (0, [.ref h_a1_codes, .int n_a1_size])), (h_a1_codes, .inl (cI, N_a1_codes, .inl f_a1_codes))] sz) := by
  refine hn_ofWv (own := R_Row) (by decide) rfl (Nat.le_of_ble_eq_true rfl) ?_
  intro p e s m args below meth c A H locs ls Q S hE hl hret
  have hx := S.1
  have hb := S.2.1
  have hown := S.2.2.2.1
  have hl : lv_has ls 5 [(0, .ref h_this), (1, .ref h_a1), (2, .int a2), (3, .int a3)] := hl
  have hL3 : ∀ (kf : Nat) (v4 : Int32) (n_this_size : Int32) (f_this_codes : Nat → Int32) (H : Heap) (locs : List Loc) (ls : Array Slot), hn_E D (TY cI cZ) tt A s H locs [(h_this, .inr (0, [.ref h_this_codes, .int n_this_size])), (h_this_codes, .inl (cI, N_this_codes, .inl f_this_codes)), (h_a1, .inr (0, [.ref h_a1_codes, .int n_a1_size])), (h_a1_codes, .inl (cI, N_a1_codes, .inl f_a1_codes))] → lv_has ls 5 [(0, .ref h_this), (1, .ref h_a1), (3, .int a3), (4, .int v4)] → fl3 (P_Row_addPart_3 N_this_codes N_a1_codes n_a1_size f_a1_codes a3) kf v4 n_this_size f_this_codes = some o → W p l e rm_Row_addPart s m args below meth c H locs 0 0 Q (F0 m 3 ls []) := by
    intro kf
    induction kf with
    | zero => intro v4 n_this_size f_this_codes H locs ls hE hl h; exact no_s h
    | succ kf ih =>
      intro v4 n_this_size f_this_codes H locs ls hE hl h
      have h : P_Row_addPart_3 N_this_codes N_a1_codes n_a1_size f_a1_codes a3 (fl3 (P_Row_addPart_3 N_this_codes N_a1_codes n_a1_size f_a1_codes a3) kf) v4 n_this_size f_this_codes = some o := h
      generalize fl3 (P_Row_addPart_3 N_this_codes N_a1_codes n_a1_size f_a1_codes a3) kf = k3 at ih h
      have hk3 := ih
      unfold P_Row_addPart_3 at h
      refine lv_iload hx hb d_Row_addPart_3 (lv_at hl 3 rfl) ?_
      refine lv_iload_n hx hb d_Row_addPart_5 rfl (lv_at hl 2 rfl) ?_
      refine lv_icmp_ge (tgt := 26) hx hb d_Row_addPart_6 (by decide) (fun hc => ?_) (fun hc => ?_)
      · have h := ite_t hc h
        obtain rfl := Option.some.inj h
        exact hret H locs ls 26 d_Row_addPart_26 hE
      · have h := ite_f hc h
        refine lv_aload_n hx hb d_Row_addPart_9 rfl (lv_at hl 0 rfl) ?_
        refine lv_aload_n hx hb d_Row_addPart_10 rfl (lv_at hl 1 rfl) ?_
        refine lv_iload hx hb d_Row_addPart_11 (lv_at hl 3 rfl) ?_
        obtain ⟨x13, hc13, h⟩ := bd_s h
        have hM := (c_Row_get l D cI cZ tt h_a1 h_a1_codes H.size N_a1_codes n_a1_size f_a1_codes v4 x13 hc13)
        refine hn_ci hE (hn_runV (As := [.int v4]) (rest := [.ref h_this]) S hE hM cf_Row_get mw_260 mw_169 mw_170 ⟨rfl, rfl⟩ ⟨Nat.le_of_ble_eq_true rfl, Nat.le_of_ble_eq_true rfl⟩ [2, 3] rfl rfl rfl rfl rfl rfl hl.1 (lv_room (Nat.le_of_ble_eq_true rfl)) d_Row_addPart_13 ⟨Nat.zero_le _, Nat.zero_le _⟩) [2, 3] rfl rfl (fun H locs hE => ?_)
        have hE : hn_E D (TY cI cZ) tt A s H locs [(h_this, .inr (0, [.ref h_this_codes, .int n_this_size])), (h_this_codes, .inl (cI, N_this_codes, .inl f_this_codes)), (h_a1, .inr (0, [.ref h_a1_codes, .int n_a1_size])), (h_a1_codes, .inl (cI, N_a1_codes, .inl f_a1_codes))] := hE
        obtain ⟨x16, hc16, h⟩ := bd_s h
        have hM := (c_Row_add l D cI cZ tt h_this h_this_codes H.size N_this_codes n_this_size f_this_codes x13 x16 hc16)
        refine hn_cz hE (hn_runV (As := [.int x13]) (rest := []) S hE hM cf_Row_add mw_261 mw_141 mw_142 ⟨rfl, rfl⟩ ⟨Nat.le_of_ble_eq_true rfl, Nat.le_of_ble_eq_true rfl⟩ [0, 1] rfl rfl rfl rfl rfl rfl hl.1 (lv_room (Nat.le_of_ble_eq_true rfl)) d_Row_addPart_16 ⟨Nat.zero_le _, Nat.zero_le _⟩) [0, 1] rfl rfl (fun H locs hz16 hE => ?_)
        have hE : hn_E D (TY cI cZ) tt A s H locs [(h_this, .inr (0, [.ref h_this_codes, .int x16.2.1])), (h_this_codes, .inl (cI, N_this_codes, .inl x16.2.2)), (h_a1, .inr (0, [.ref h_a1_codes, .int n_a1_size])), (h_a1_codes, .inl (cI, N_a1_codes, .inl f_a1_codes))] := hE
        refine lv_pop hx hb d_Row_addPart_19 rfl ?_
        refine lv_iinc (v := (v4 + (1 : Int32))) (lv' := [(4, .int (v4 + (1 : Int32))), (0, .ref h_this), (1, .ref h_a1), (3, .int a3)]) hx hb d_Row_addPart_20 hl (k := 3) rfl rfl (by decide) rfl (fun ls hl => ?_)
        refine lv_goto (tgt := 3) hx hb d_Row_addPart_23 (by decide) ?_
        exact hk3 (v4 + (1 : Int32)) x16.2.1 x16.2.2 H locs ls hE (lv_sub hl [1, 2, 3, 0] rfl) h
  unfold P_Row_addPart at h
  refine lv_iload_n hx hb d_Row_addPart_0 rfl (lv_at hl 2 rfl) ?_
  refine lv_istore (lv' := [(4, .int a2), (0, .ref h_this), (1, .ref h_a1), (2, .int a2), (3, .int a3)]) hx hb d_Row_addPart_1 hl (by decide) rfl (fun ls hl => ?_)
  exact hL3 fu a2 n_this_size f_this_codes H locs ls hE (lv_sub hl [1, 2, 4, 0] rfl) h
abbrev rm_Row_insert : Room := { frames := 0, cells := 0, slots := 0, locals := 0 }
theorem cf_Row_insert : hn_CF y_Row_insert b_Row_insert 4 (some .boolean) 2 := ⟨mw_320, mw_2, by decide, by decide, by decide +kernel⟩
set_option maxHeartbeats 4000000 in
set_option maxRecDepth 100000 in
theorem c_Row_insert (l : Launch) (D : va_G) (cI cZ : ClassId) (tt : Nat → Nat) (h_this h_this_codes : Nat) (sz : Nat) (N_this_codes : Nat) (n_this_size : Int32) (f_this_codes : Nat → Int32) (a1 : Int32) (a2 : Int32) (o : Int32 × Int32 × (Nat → Int32)) (h : P_Row_insert N_this_codes n_this_size f_this_codes a1 a2 = some o) : Met l y_Row_insert (hn_w y_Row_insert b_Row_insert 4 (some .boolean)) rm_Row_insert (hn_Pc D (TY cI cZ) tt [.ref h_this, .int a1, .int a2] sz [(h_this, .inr (0, [.ref h_this_codes, .int n_this_size])), (h_this_codes, .inl (cI, N_this_codes, .inl f_this_codes))]) (hn_Qz D [(h_this, .inr (0, [.ref h_this_codes, .int n_this_size])), (h_this_codes, .inl (cI, N_this_codes, .inl f_this_codes))] sz [(h_this, .inr (0, [.ref h_this_codes, .int o.2.1])), (h_this_codes, .inl (cI, N_this_codes, .inl o.2.2))] o.1) 0 0 (va_A [(h_this, .inr (0, [.ref h_this_codes, .int n_this_size])), (h_this_codes, .inl (cI, N_this_codes, .inl f_this_codes))] sz) := by
  refine hn_ofWz (own := R_Row) (by decide) rfl (Nat.le_of_ble_eq_true rfl) ?_
  intro p e s m args below meth c A H locs ls Q S hE hl hret
  have hx := S.1
  have hb := S.2.1
  have hown := S.2.2.2.1
  have hl : lv_has ls 4 [(0, .ref h_this), (1, .int a1), (2, .int a2)] := hl
  have hL31 : ∀ (n_this_size : Int32) (kf : Nat) (v3 : Int32) (f_this_codes : Nat → Int32) (H : Heap) (locs : List Loc) (ls : Array Slot), hn_E D (TY cI cZ) tt A s H locs [(h_this, .inr (0, [.ref h_this_codes, .int n_this_size])), (h_this_codes, .inl (cI, N_this_codes, .inl f_this_codes))] → lv_has ls 4 [(0, .ref h_this), (1, .int a1), (2, .int a2), (3, .int v3)] → fl2 (P_Row_insert_31 N_this_codes a1 a2 n_this_size) kf v3 f_this_codes = some o → W p l e rm_Row_insert s m args below meth c H locs 0 0 Q (F0 m 31 ls []) := by
    intro n_this_size kf
    induction kf with
    | zero => intro v3 f_this_codes H locs ls hE hl h; exact no_s h
    | succ kf ih =>
      intro v3 f_this_codes H locs ls hE hl h
      have h : P_Row_insert_31 N_this_codes a1 a2 n_this_size (fl2 (P_Row_insert_31 N_this_codes a1 a2 n_this_size) kf) v3 f_this_codes = some o := h
      generalize fl2 (P_Row_insert_31 N_this_codes a1 a2 n_this_size) kf = k31 at ih h
      have hk31 := ih
      unfold P_Row_insert_31 at h
      refine lv_iload_n hx hb d_Row_insert_31 rfl (lv_at hl 3 rfl) ?_
      refine lv_iload_n hx hb d_Row_insert_32 rfl (lv_at hl 1 rfl) ?_
      refine lv_icmp_le (tgt := 56) hx hb d_Row_insert_33 (by decide) (fun hc => ?_) (fun hc => ?_)
      · have h := ite_t hc h
        refine lv_aload_n hx hb d_Row_insert_56 rfl (lv_at hl 0 rfl) ?_
        refine hn_get S hE kc_Row 0 rfl rfl 0 (by decide) mw_24 rfl d_Row_insert_57 ?_
        refine lv_iload_n hx hb d_Row_insert_60 rfl (lv_at hl 1 rfl) ?_
        refine lv_iload_n hx hb d_Row_insert_61 rfl (lv_at hl 2 rfl) ?_
        obtain ⟨hi62, h⟩ := gi_s h
        refine hn_iast S hE 1 0 rfl rfl hi62 d_Row_insert_62 (fun H locs hE => ?_)
        have hE : hn_E D (TY cI cZ) tt A s H locs [(h_this, .inr (0, [.ref h_this_codes, .int n_this_size])), (h_this_codes, .inl (cI, N_this_codes, .inl (upd f_this_codes (a1).toNatClampNeg a2)))] := hE
        refine lv_aload_n hx hb d_Row_insert_63 rfl (lv_at hl 0 rfl) ?_
        refine lv_dup hx hb d_Row_insert_64 rfl ?_
        refine hn_get S hE kc_Row 0 rfl rfl 1 (by decide) mw_25 rfl d_Row_insert_65 ?_
        refine lv_iconst (v := 1) hx hb d_Row_insert_68 (by decide) ?_
        refine lv_iadd hx hb d_Row_insert_69 ?_
        refine hn_put (tv := .int) S hE kc_Row t_Row_ok n_Row 0 rfl rfl 1 (by decide) mw_25 rfl (by decide +kernel) rfl rfl (Nat.le_of_ble_eq_true rfl) d_Row_insert_70 (fun H locs hE => ?_)
        have hE : hn_E D (TY cI cZ) tt A s H locs [(h_this, .inr (0, [.ref h_this_codes, .int (n_this_size + (1 : Int32))])), (h_this_codes, .inl (cI, N_this_codes, .inl (upd f_this_codes (a1).toNatClampNeg a2)))] := hE
        refine lv_iconst (v := 1) hx hb d_Row_insert_73 (by decide) ?_
        obtain rfl := Option.some.inj h
        exact hret H locs ls 74 d_Row_insert_74 narrow_b1 hE
      · have h := ite_f hc h
        refine lv_aload_n hx hb d_Row_insert_36 rfl (lv_at hl 0 rfl) ?_
        refine hn_get S hE kc_Row 0 rfl rfl 0 (by decide) mw_24 rfl d_Row_insert_37 ?_
        refine lv_iload_n hx hb d_Row_insert_40 rfl (lv_at hl 3 rfl) ?_
        refine lv_aload_n hx hb d_Row_insert_41 rfl (lv_at hl 0 rfl) ?_
        refine hn_get S hE kc_Row 0 rfl rfl 0 (by decide) mw_24 rfl d_Row_insert_42 ?_
        refine lv_iload_n hx hb d_Row_insert_45 rfl (lv_at hl 3 rfl) ?_
        refine lv_iconst (v := 1) hx hb d_Row_insert_46 (by decide) ?_
        refine lv_isub hx hb d_Row_insert_47 ?_
        obtain ⟨hi48, h⟩ := gi_s h
        refine hn_iald S hE 1 0 rfl rfl hi48 d_Row_insert_48 ?_
        obtain ⟨hi49, h⟩ := gi_s h
        refine hn_iast S hE 1 0 rfl rfl hi49 d_Row_insert_49 (fun H locs hE => ?_)
        have hE : hn_E D (TY cI cZ) tt A s H locs [(h_this, .inr (0, [.ref h_this_codes, .int n_this_size])), (h_this_codes, .inl (cI, N_this_codes, .inl (upd f_this_codes (v3).toNatClampNeg (f_this_codes ((v3 - (1 : Int32))).toNatClampNeg))))] := hE
        refine lv_iinc (v := (v3 + (-1 : Int32))) (lv' := [(3, .int (v3 + (-1 : Int32))), (0, .ref h_this), (1, .int a1), (2, .int a2)]) hx hb d_Row_insert_50 hl (k := 3) rfl rfl (by decide) rfl (fun ls hl => ?_)
        refine lv_goto (tgt := 31) hx hb d_Row_insert_53 (by decide) ?_
        exact hk31 (v3 + (-1 : Int32)) (upd f_this_codes (v3).toNatClampNeg (f_this_codes ((v3 - (1 : Int32))).toNatClampNeg)) H locs ls hE (lv_sub hl [1, 2, 3, 0] rfl) h
  unfold P_Row_insert at h
  refine lv_aload_n hx hb d_Row_insert_0 rfl (lv_at hl 0 rfl) ?_
  refine hn_get S hE kc_Row 0 rfl rfl 1 (by decide) mw_25 rfl d_Row_insert_1 ?_
  refine lv_aload_n hx hb d_Row_insert_4 rfl (lv_at hl 0 rfl) ?_
  refine hn_get S hE kc_Row 0 rfl rfl 0 (by decide) mw_24 rfl d_Row_insert_5 ?_
  refine hn_alen S hE 1 0 rfl rfl d_Row_insert_8 ?_
  refine lv_icmp_ge (tgt := 24) hx hb d_Row_insert_9 (by decide) (fun hc => ?_) (fun hc => ?_)
  · have h := ite_t hc h
    refine lv_iconst (v := 0) hx hb d_Row_insert_24 (by decide) ?_
    obtain rfl := Option.some.inj h
    exact hret H locs ls 25 d_Row_insert_25 narrow_b0 hE
  · have h := ite_f hc h
    refine lv_iload_n hx hb d_Row_insert_12 rfl (lv_at hl 1 rfl) ?_
    refine lv_if_lt (tgt := 24) hx hb d_Row_insert_13 (by decide) (fun hc => ?_) (fun hc => ?_)
    · have h := ite_t hc h
      refine lv_iconst (v := 0) hx hb d_Row_insert_24 (by decide) ?_
      obtain rfl := Option.some.inj h
      exact hret H locs ls 25 d_Row_insert_25 narrow_b0 hE
    · have h := ite_f hc h
      refine lv_iload_n hx hb d_Row_insert_16 rfl (lv_at hl 1 rfl) ?_
      refine lv_aload_n hx hb d_Row_insert_17 rfl (lv_at hl 0 rfl) ?_
      refine hn_get S hE kc_Row 0 rfl rfl 1 (by decide) mw_25 rfl d_Row_insert_18 ?_
      refine lv_icmp_le (tgt := 26) hx hb d_Row_insert_21 (by decide) (fun hc => ?_) (fun hc => ?_)
      · have h := ite_t hc h
        refine lv_aload_n hx hb d_Row_insert_26 rfl (lv_at hl 0 rfl) ?_
        refine hn_get S hE kc_Row 0 rfl rfl 1 (by decide) mw_25 rfl d_Row_insert_27 ?_
        refine lv_istore_n (lv' := [(3, .int n_this_size), (0, .ref h_this), (1, .int a1), (2, .int a2)]) hx hb d_Row_insert_30 rfl hl (by decide) rfl (fun ls hl => ?_)
        exact hL31 n_this_size fu n_this_size f_this_codes H locs ls hE (lv_sub hl [1, 2, 3, 0] rfl) h
      · have h := ite_f hc h
        refine lv_iconst (v := 0) hx hb d_Row_insert_24 (by decide) ?_
        obtain rfl := Option.some.inj h
        exact hret H locs ls 25 d_Row_insert_25 narrow_b0 hE
abbrev rm_Row_hasAbove : Room := { frames := 0, cells := 0, slots := 0, locals := 0 }
theorem cf_Row_hasAbove : hn_CF y_Row_hasAbove b_Row_hasAbove 3 (some .boolean) 1 := ⟨mw_324, mw_2, by decide, by decide, by decide +kernel⟩
set_option maxHeartbeats 4000000 in
set_option maxRecDepth 100000 in
theorem c_Row_hasAbove (l : Launch) (D : va_G) (cI cZ : ClassId) (tt : Nat → Nat) (h_this h_this_codes : Nat) (sz : Nat) (N_this_codes : Nat) (n_this_size : Int32) (f_this_codes : Nat → Int32) (a1 : Int32) (o : Int32) (h : P_Row_hasAbove N_this_codes n_this_size f_this_codes a1 = some o) : Met l y_Row_hasAbove (hn_w y_Row_hasAbove b_Row_hasAbove 3 (some .boolean)) rm_Row_hasAbove (hn_Pc D (TY cI cZ) tt [.ref h_this, .int a1] sz [(h_this, .inr (0, [.ref h_this_codes, .int n_this_size])), (h_this_codes, .inl (cI, N_this_codes, .inl f_this_codes))]) (hn_Qz D [(h_this, .inr (0, [.ref h_this_codes, .int n_this_size])), (h_this_codes, .inl (cI, N_this_codes, .inl f_this_codes))] sz [(h_this, .inr (0, [.ref h_this_codes, .int n_this_size])), (h_this_codes, .inl (cI, N_this_codes, .inl f_this_codes))] o) 0 0 (va_A [(h_this, .inr (0, [.ref h_this_codes, .int n_this_size])), (h_this_codes, .inl (cI, N_this_codes, .inl f_this_codes))] sz) := by
  refine hn_ofWz (own := R_Row) (by decide) rfl (Nat.le_of_ble_eq_true rfl) ?_
  intro p e s m args below meth c A H locs ls Q S hE hl hret
  have hx := S.1
  have hb := S.2.1
  have hown := S.2.2.2.1
  have hl : lv_has ls 3 [(0, .ref h_this), (1, .int a1)] := hl
  have hL2 : ∀ (kf : Nat) (v2 : Int32) (H : Heap) (locs : List Loc) (ls : Array Slot), hn_E D (TY cI cZ) tt A s H locs [(h_this, .inr (0, [.ref h_this_codes, .int n_this_size])), (h_this_codes, .inl (cI, N_this_codes, .inl f_this_codes))] → lv_has ls 3 [(0, .ref h_this), (1, .int a1), (2, .int v2)] → fl1 (P_Row_hasAbove_2 N_this_codes n_this_size f_this_codes a1) kf v2 = some o → W p l e rm_Row_hasAbove s m args below meth c H locs 0 0 Q (F0 m 2 ls []) := by
    intro kf
    induction kf with
    | zero => intro v2 H locs ls hE hl h; exact no_s h
    | succ kf ih =>
      intro v2 H locs ls hE hl h
      have h : P_Row_hasAbove_2 N_this_codes n_this_size f_this_codes a1 (fl1 (P_Row_hasAbove_2 N_this_codes n_this_size f_this_codes a1) kf) v2 = some o := h
      generalize fl1 (P_Row_hasAbove_2 N_this_codes n_this_size f_this_codes a1) kf = k2 at ih h
      have hk2 := ih
      unfold P_Row_hasAbove_2 at h
      refine lv_iload_n hx hb d_Row_hasAbove_2 rfl (lv_at hl 2 rfl) ?_
      refine lv_aload_n hx hb d_Row_hasAbove_3 rfl (lv_at hl 0 rfl) ?_
      refine hn_get S hE kc_Row 0 rfl rfl 1 (by decide) mw_25 rfl d_Row_hasAbove_4 ?_
      refine lv_icmp_ge (tgt := 28) hx hb d_Row_hasAbove_7 (by decide) (fun hc => ?_) (fun hc => ?_)
      · have h := ite_t hc h
        refine lv_iconst (v := 0) hx hb d_Row_hasAbove_28 (by decide) ?_
        obtain rfl := Option.some.inj h
        exact hret H locs ls 29 d_Row_hasAbove_29 narrow_b0 hE
      · have h := ite_f hc h
        refine lv_aload_n hx hb d_Row_hasAbove_10 rfl (lv_at hl 0 rfl) ?_
        refine hn_get S hE kc_Row 0 rfl rfl 0 (by decide) mw_24 rfl d_Row_hasAbove_11 ?_
        refine lv_iload_n hx hb d_Row_hasAbove_14 rfl (lv_at hl 2 rfl) ?_
        obtain ⟨hi15, h⟩ := gi_s h
        refine hn_iald S hE 1 0 rfl rfl hi15 d_Row_hasAbove_15 ?_
        refine lv_iload_n hx hb d_Row_hasAbove_16 rfl (lv_at hl 1 rfl) ?_
        refine lv_icmp_le (tgt := 22) hx hb d_Row_hasAbove_17 (by decide) (fun hc => ?_) (fun hc => ?_)
        · have h := ite_t hc h
          refine lv_iinc (v := (v2 + (1 : Int32))) (lv' := [(2, .int (v2 + (1 : Int32))), (0, .ref h_this), (1, .int a1)]) hx hb d_Row_hasAbove_22 hl (k := 2) rfl rfl (by decide) rfl (fun ls hl => ?_)
          refine lv_goto (tgt := 2) hx hb d_Row_hasAbove_25 (by decide) ?_
          exact hk2 (v2 + (1 : Int32)) H locs ls hE (lv_sub hl [1, 2, 0] rfl) h
        · have h := ite_f hc h
          refine lv_iconst (v := 1) hx hb d_Row_hasAbove_20 (by decide) ?_
          obtain rfl := Option.some.inj h
          exact hret H locs ls 21 d_Row_hasAbove_21 narrow_b1 hE
  unfold P_Row_hasAbove at h
  refine lv_iconst (v := 0) hx hb d_Row_hasAbove_0 (by decide) ?_
  refine lv_istore_n (lv' := [(2, .int (0 : Int32)), (0, .ref h_this), (1, .int a1)]) hx hb d_Row_hasAbove_1 rfl hl (by decide) rfl (fun ls hl => ?_)
  exact hL2 fu (0 : Int32) H locs ls hE (lv_sub hl [1, 2, 0] rfl) h
abbrev rm_Row_isSameAs : Room := { frames := 1, cells := 0, slots := 0, locals := 21 }
theorem cf_Row_isSameAs : hn_CF y_Row_isSameAs b_Row_isSameAs 3 (some .boolean) 1 := ⟨mw_376, mw_2, by decide, by decide, by decide +kernel⟩
set_option maxHeartbeats 4000000 in
set_option maxRecDepth 100000 in
theorem c_Row_isSameAs (l : Launch) (D : va_G) (cI cZ : ClassId) (tt : Nat → Nat) (h_this h_this_codes h_a1 h_a1_codes : Nat) (sz : Nat) (N_this_codes : Nat) (N_a1_codes : Nat) (n_this_size : Int32) (f_this_codes : Nat → Int32) (n_a1_size : Int32) (f_a1_codes : Nat → Int32) (o : Int32) (h : P_Row_isSameAs N_this_codes N_a1_codes n_this_size f_this_codes n_a1_size f_a1_codes = some o) : Met l y_Row_isSameAs (hn_w y_Row_isSameAs b_Row_isSameAs 3 (some .boolean)) rm_Row_isSameAs (hn_Pc D (TY cI cZ) tt [.ref h_this, .ref h_a1] sz [(h_this, .inr (0, [.ref h_this_codes, .int n_this_size])), (h_this_codes, .inl (cI, N_this_codes, .inl f_this_codes)), (h_a1, .inr (0, [.ref h_a1_codes, .int n_a1_size])), (h_a1_codes, .inl (cI, N_a1_codes, .inl f_a1_codes))]) (hn_Qz D [(h_this, .inr (0, [.ref h_this_codes, .int n_this_size])), (h_this_codes, .inl (cI, N_this_codes, .inl f_this_codes)), (h_a1, .inr (0, [.ref h_a1_codes, .int n_a1_size])), (h_a1_codes, .inl (cI, N_a1_codes, .inl f_a1_codes))] sz [(h_this, .inr (0, [.ref h_this_codes, .int n_this_size])), (h_this_codes, .inl (cI, N_this_codes, .inl f_this_codes)), (h_a1, .inr (0, [.ref h_a1_codes, .int n_a1_size])), (h_a1_codes, .inl (cI, N_a1_codes, .inl f_a1_codes))] o) 0 0 (va_A [(h_this, .inr (0, [.ref h_this_codes, .int n_this_size])), (h_this_codes, .inl (cI, N_this_codes, .inl f_this_codes)), (h_a1, .inr (0, [.ref h_a1_codes, .int n_a1_size])), (h_a1_codes, .inl (cI, N_a1_codes, .inl f_a1_codes))] sz) := by
  refine hn_ofWz (own := R_Row) (by decide) rfl (Nat.le_of_ble_eq_true rfl) ?_
  intro p e s m args below meth c A H locs ls Q S hE hl hret
  have hx := S.1
  have hb := S.2.1
  have hown := S.2.2.2.1
  have hl : lv_has ls 3 [(0, .ref h_this), (1, .ref h_a1)] := hl
  have hL15 : ∀ (kf : Nat) (v2 : Int32) (H : Heap) (locs : List Loc) (ls : Array Slot), hn_E D (TY cI cZ) tt A s H locs [(h_this, .inr (0, [.ref h_this_codes, .int n_this_size])), (h_this_codes, .inl (cI, N_this_codes, .inl f_this_codes)), (h_a1, .inr (0, [.ref h_a1_codes, .int n_a1_size])), (h_a1_codes, .inl (cI, N_a1_codes, .inl f_a1_codes))] → lv_has ls 3 [(0, .ref h_this), (1, .ref h_a1), (2, .int v2)] → fl1 (P_Row_isSameAs_15 N_this_codes N_a1_codes n_this_size f_this_codes n_a1_size f_a1_codes) kf v2 = some o → W p l e rm_Row_isSameAs s m args below meth c H locs 0 0 Q (F0 m 15 ls []) := by
    intro kf
    induction kf with
    | zero => intro v2 H locs ls hE hl h; exact no_s h
    | succ kf ih =>
      intro v2 H locs ls hE hl h
      have h : P_Row_isSameAs_15 N_this_codes N_a1_codes n_this_size f_this_codes n_a1_size f_a1_codes (fl1 (P_Row_isSameAs_15 N_this_codes N_a1_codes n_this_size f_this_codes n_a1_size f_a1_codes) kf) v2 = some o := h
      generalize fl1 (P_Row_isSameAs_15 N_this_codes N_a1_codes n_this_size f_this_codes n_a1_size f_a1_codes) kf = k15 at ih h
      have hk15 := ih
      unfold P_Row_isSameAs_15 at h
      refine lv_iload_n hx hb d_Row_isSameAs_15 rfl (lv_at hl 2 rfl) ?_
      refine lv_aload_n hx hb d_Row_isSameAs_16 rfl (lv_at hl 0 rfl) ?_
      refine hn_get S hE kc_Row 0 rfl rfl 1 (by decide) mw_25 rfl d_Row_isSameAs_17 ?_
      refine lv_icmp_ge (tgt := 45) hx hb d_Row_isSameAs_20 (by decide) (fun hc => ?_) (fun hc => ?_)
      · have h := ite_t hc h
        refine lv_iconst (v := 1) hx hb d_Row_isSameAs_45 (by decide) ?_
        obtain rfl := Option.some.inj h
        exact hret H locs ls 46 d_Row_isSameAs_46 narrow_b1 hE
      · have h := ite_f hc h
        refine lv_aload_n hx hb d_Row_isSameAs_23 rfl (lv_at hl 0 rfl) ?_
        refine hn_get S hE kc_Row 0 rfl rfl 0 (by decide) mw_24 rfl d_Row_isSameAs_24 ?_
        refine lv_iload_n hx hb d_Row_isSameAs_27 rfl (lv_at hl 2 rfl) ?_
        obtain ⟨hi28, h⟩ := gi_s h
        refine hn_iald S hE 1 0 rfl rfl hi28 d_Row_isSameAs_28 ?_
        refine lv_aload_n hx hb d_Row_isSameAs_29 rfl (lv_at hl 1 rfl) ?_
        refine lv_iload_n hx hb d_Row_isSameAs_30 rfl (lv_at hl 2 rfl) ?_
        obtain ⟨x31, hc31, h⟩ := bd_s h
        have hM := (c_Row_get l D cI cZ tt h_a1 h_a1_codes H.size N_a1_codes n_a1_size f_a1_codes v2 x31 hc31)
        refine hn_ci hE (hn_runV (As := [.int v2]) (rest := [.int (f_this_codes (v2).toNatClampNeg)]) S hE hM cf_Row_get mw_260 mw_169 mw_170 ⟨rfl, rfl⟩ ⟨Nat.le_of_ble_eq_true rfl, Nat.le_of_ble_eq_true rfl⟩ [2, 3] rfl rfl rfl rfl rfl rfl hl.1 (lv_room (Nat.le_of_ble_eq_true rfl)) d_Row_isSameAs_31 ⟨Nat.zero_le _, Nat.zero_le _⟩) [2, 3] rfl rfl (fun H locs hE => ?_)
        have hE : hn_E D (TY cI cZ) tt A s H locs [(h_this, .inr (0, [.ref h_this_codes, .int n_this_size])), (h_this_codes, .inl (cI, N_this_codes, .inl f_this_codes)), (h_a1, .inr (0, [.ref h_a1_codes, .int n_a1_size])), (h_a1_codes, .inl (cI, N_a1_codes, .inl f_a1_codes))] := hE
        refine lv_icmp_eq (tgt := 39) hx hb d_Row_isSameAs_34 (by decide) (fun hc => ?_) (fun hc => ?_)
        · have h := ite_t hc h
          refine lv_iinc (v := (v2 + (1 : Int32))) (lv' := [(2, .int (v2 + (1 : Int32))), (0, .ref h_this), (1, .ref h_a1)]) hx hb d_Row_isSameAs_39 hl (k := 2) rfl rfl (by decide) rfl (fun ls hl => ?_)
          refine lv_goto (tgt := 15) hx hb d_Row_isSameAs_42 (by decide) ?_
          exact hk15 (v2 + (1 : Int32)) H locs ls hE (lv_sub hl [1, 2, 0] rfl) h
        · have h := ite_f hc h
          refine lv_iconst (v := 0) hx hb d_Row_isSameAs_37 (by decide) ?_
          obtain rfl := Option.some.inj h
          exact hret H locs ls 38 d_Row_isSameAs_38 narrow_b0 hE
  unfold P_Row_isSameAs at h
  refine lv_aload_n hx hb d_Row_isSameAs_0 rfl (lv_at hl 0 rfl) ?_
  refine hn_get S hE kc_Row 0 rfl rfl 1 (by decide) mw_25 rfl d_Row_isSameAs_1 ?_
  refine lv_aload_n hx hb d_Row_isSameAs_4 rfl (lv_at hl 1 rfl) ?_
  obtain ⟨x5, hc5, h⟩ := bd_s h
  have hM := (c_Row_size l D cI cZ tt h_a1 h_a1_codes H.size N_a1_codes n_a1_size f_a1_codes x5 hc5)
  refine hn_ci hE (hn_runV (As := []) (rest := [.int n_this_size]) S hE hM cf_Row_size mw_377 mw_149 mw_150 ⟨rfl, rfl⟩ ⟨Nat.le_of_ble_eq_true rfl, Nat.le_of_ble_eq_true rfl⟩ [2, 3] rfl rfl rfl rfl rfl rfl hl.1 (lv_room (Nat.le_of_ble_eq_true rfl)) d_Row_isSameAs_5 ⟨Nat.zero_le _, Nat.zero_le _⟩) [2, 3] rfl rfl (fun H locs hE => ?_)
  have hE : hn_E D (TY cI cZ) tt A s H locs [(h_this, .inr (0, [.ref h_this_codes, .int n_this_size])), (h_this_codes, .inl (cI, N_this_codes, .inl f_this_codes)), (h_a1, .inr (0, [.ref h_a1_codes, .int n_a1_size])), (h_a1_codes, .inl (cI, N_a1_codes, .inl f_a1_codes))] := hE
  refine lv_icmp_eq (tgt := 13) hx hb d_Row_isSameAs_8 (by decide) (fun hc => ?_) (fun hc => ?_)
  · have h := ite_t hc h
    refine lv_iconst (v := 0) hx hb d_Row_isSameAs_13 (by decide) ?_
    refine lv_istore_n (lv' := [(2, .int (0 : Int32)), (0, .ref h_this), (1, .ref h_a1)]) hx hb d_Row_isSameAs_14 rfl hl (by decide) rfl (fun ls hl => ?_)
    exact hL15 fu (0 : Int32) H locs ls hE (lv_sub hl [1, 2, 0] rfl) h
  · have h := ite_f hc h
    refine lv_iconst (v := 0) hx hb d_Row_isSameAs_11 (by decide) ?_
    obtain rfl := Option.some.inj h
    exact hret H locs ls 12 d_Row_isSameAs_12 narrow_b0 hE
