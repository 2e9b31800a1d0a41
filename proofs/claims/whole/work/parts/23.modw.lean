abbrev rm_Mod_hasTag : Room := { frames := 0, cells := 0, slots := 0, locals := 0 }
theorem cf_Mod_hasTag : hn_CF y_Mod_hasTag b_Mod_hasTag 1 (some .boolean) 0 := ⟨mw_622, mw_7, by decide, by decide, by decide +kernel⟩
set_option maxHeartbeats 4000000 in
set_option maxRecDepth 100000 in
theorem c_Mod_hasTag (l : Launch) (D : va_G) (cI cZ : ClassId) (tt : Nat → Nat) (h_this h_this_text h_this_result h_this_row h_this_other h_this_starts h_this_sizes h_this_rules h_this_tagged h_this_pool h_this_placed : Nat) (sz : Nat) (n_this_textSize : Int32) (n_this_size : Int32) (n_this_rowSize : Int32) (n_this_count : Int32) (n_this_poolSize : Int32) (n_this_whole : Int32) (n_this_bias : Int32) (f_this_text : Nat → Int32) (f_this_result : Nat → Int32) (f_this_row : Nat → Int32) (f_this_other : Nat → Int32) (f_this_starts : Nat → Int32) (f_this_sizes : Nat → Int32) (f_this_rules : Nat → Int32) (f_this_tagged : Nat → Int32) (f_this_pool : Nat → Int32) (f_this_placed : Nat → Int32) (o : Int32) (h : P_Mod_hasTag n_this_rowSize f_this_row = some o) : Met l y_Mod_hasTag (hn_w y_Mod_hasTag b_Mod_hasTag 1 (some .boolean)) rm_Mod_hasTag (hn_Pc D (TY cI cZ) tt [.ref h_this] sz [(h_this, .inr (6, [.int n_this_textSize, .ref h_this_text, .int n_this_size, .ref h_this_result, .int n_this_rowSize, .ref h_this_row, .ref h_this_other, .int n_this_count, .ref h_this_starts, .ref h_this_sizes, .ref h_this_rules, .ref h_this_tagged, .int n_this_poolSize, .ref h_this_pool, .int n_this_whole, .ref h_this_placed, .int n_this_bias])), (h_this_text, .inl (cI, 48, .inl f_this_text)), (h_this_result, .inl (cI, 2000, .inl f_this_result)), (h_this_row, .inl (cI, 200, .inl f_this_row)), (h_this_other, .inl (cI, 200, .inl f_this_other)), (h_this_starts, .inl (cI, 50, .inl f_this_starts)), (h_this_sizes, .inl (cI, 50, .inl f_this_sizes)), (h_this_rules, .inl (cI, 50, .inl f_this_rules)), (h_this_tagged, .inl (cZ, 50, .inl f_this_tagged)), (h_this_pool, .inl (cI, 300, .inl f_this_pool)), (h_this_placed, .inl (cZ, 200, .inl f_this_placed))]) (hn_Qz D [(h_this, .inr (6, [.int n_this_textSize, .ref h_this_text, .int n_this_size, .ref h_this_result, .int n_this_rowSize, .ref h_this_row, .ref h_this_other, .int n_this_count, .ref h_this_starts, .ref h_this_sizes, .ref h_this_rules, .ref h_this_tagged, .int n_this_poolSize, .ref h_this_pool, .int n_this_whole, .ref h_this_placed, .int n_this_bias])), (h_this_text, .inl (cI, 48, .inl f_this_text)), (h_this_result, .inl (cI, 2000, .inl f_this_result)), (h_this_row, .inl (cI, 200, .inl f_this_row)), (h_this_other, .inl (cI, 200, .inl f_this_other)), (h_this_starts, .inl (cI, 50, .inl f_this_starts)), (h_this_sizes, .inl (cI, 50, .inl f_this_sizes)), (h_this_rules, .inl (cI, 50, .inl f_this_rules)), (h_this_tagged, .inl (cZ, 50, .inl f_this_tagged)), (h_this_pool, .inl (cI, 300, .inl f_this_pool)), (h_this_placed, .inl (cZ, 200, .inl f_this_placed))] sz [(h_this, .inr (6, [.int n_this_textSize, .ref h_this_text, .int n_this_size, .ref h_this_result, .int n_this_rowSize, .ref h_this_row, .ref h_this_other, .int n_this_count, .ref h_this_starts, .ref h_this_sizes, .ref h_this_rules, .ref h_this_tagged, .int n_this_poolSize, .ref h_this_pool, .int n_this_whole, .ref h_this_placed, .int n_this_bias])), (h_this_text, .inl (cI, 48, .inl f_this_text)), (h_this_result, .inl (cI, 2000, .inl f_this_result)), (h_this_row, .inl (cI, 200, .inl f_this_row)), (h_this_other, .inl (cI, 200, .inl f_this_other)), (h_this_starts, .inl (cI, 50, .inl f_this_starts)), (h_this_sizes, .inl (cI, 50, .inl f_this_sizes)), (h_this_rules, .inl (cI, 50, .inl f_this_rules)), (h_this_tagged, .inl (cZ, 50, .inl f_this_tagged)), (h_this_pool, .inl (cI, 300, .inl f_this_pool)), (h_this_placed, .inl (cZ, 200, .inl f_this_placed))] o) 0 0 (va_A [(h_this, .inr (6, [.int n_this_textSize, .ref h_this_text, .int n_this_size, .ref h_this_result, .int n_this_rowSize, .ref h_this_row, .ref h_this_other, .int n_this_count, .ref h_this_starts, .ref h_this_sizes, .ref h_this_rules, .ref h_this_tagged, .int n_this_poolSize, .ref h_this_pool, .int n_this_whole, .ref h_this_placed, .int n_this_bias])), (h_this_text, .inl (cI, 48, .inl f_this_text)), (h_this_result, .inl (cI, 2000, .inl f_this_result)), (h_this_row, .inl (cI, 200, .inl f_this_row)), (h_this_other, .inl (cI, 200, .inl f_this_other)), (h_this_starts, .inl (cI, 50, .inl f_this_starts)), (h_this_sizes, .inl (cI, 50, .inl f_this_sizes)), (h_this_rules, .inl (cI, 50, .inl f_this_rules)), (h_this_tagged, .inl (cZ, 50, .inl f_this_tagged)), (h_this_pool, .inl (cI, 300, .inl f_this_pool)), (h_this_placed, .inl (cZ, 200, .inl f_this_placed))] sz) := by
  refine hn_ofWz (own := R_Mod) (by decide) rfl (Nat.le_of_ble_eq_true rfl) ?_
  intro p e s m args below meth c A H locs ls Q S hE hl hret
  have hx := S.1
  have hb := S.2.1
  have hown := S.2.2.2.1
  have hl : lv_has ls 1 [(0, .ref h_this)] := hl
  unfold P_Mod_hasTag at h
  refine lv_aload_n hx hb d_Mod_hasTag_0 rfl (lv_at hl 0 rfl) ?_
  refine hn_get S hE kc_Mod 0 rfl rfl 4 (by decide) mw_490 rfl d_Mod_hasTag_1 ?_
  refine lv_iconst (v := 3) hx hb d_Mod_hasTag_4 (by decide) ?_
  refine lv_icmp_le (tgt := 56) hx hb d_Mod_hasTag_5 (by decide) (fun hc => ?_) (fun hc => ?_)
  · have h := ite_t hc h
    refine lv_iconst (v := 0) hx hb d_Mod_hasTag_56 (by decide) ?_
    obtain rfl := Option.some.inj h
    exact hret H locs ls 57 d_Mod_hasTag_57 narrow_b0 hE
  · have h := ite_f hc h
    refine lv_aload_n hx hb d_Mod_hasTag_8 rfl (lv_at hl 0 rfl) ?_
    refine hn_get S hE kc_Mod 0 rfl rfl 5 (by decide) mw_491 rfl d_Mod_hasTag_9 ?_
    refine lv_iconst (v := 0) hx hb d_Mod_hasTag_12 (by decide) ?_
    obtain ⟨hi13, h⟩ := gi_s h
    refine hn_iald S hE 3 0 rfl rfl hi13 d_Mod_hasTag_13 ?_
    refine lv_bipush (v := 120) hx hb d_Mod_hasTag_14 (by decide) ?_
    refine lv_icmp_ne (tgt := 56) hx hb d_Mod_hasTag_16 (by decide) (fun hc => ?_) (fun hc => ?_)
    · have h := ite_f hc h
      refine lv_iconst (v := 0) hx hb d_Mod_hasTag_56 (by decide) ?_
      obtain rfl := Option.some.inj h
      exact hret H locs ls 57 d_Mod_hasTag_57 narrow_b0 hE
    · have h := ite_t hc h
      refine lv_aload_n hx hb d_Mod_hasTag_19 rfl (lv_at hl 0 rfl) ?_
      refine hn_get S hE kc_Mod 0 rfl rfl 5 (by decide) mw_491 rfl d_Mod_hasTag_20 ?_
      refine lv_iconst (v := 1) hx hb d_Mod_hasTag_23 (by decide) ?_
      obtain ⟨hi24, h⟩ := gi_s h
      refine hn_iald S hE 3 0 rfl rfl hi24 d_Mod_hasTag_24 ?_
      refine lv_bipush (v := 110) hx hb d_Mod_hasTag_25 (by decide) ?_
      refine lv_icmp_ne (tgt := 56) hx hb d_Mod_hasTag_27 (by decide) (fun hc => ?_) (fun hc => ?_)
      · have h := ite_f hc h
        refine lv_iconst (v := 0) hx hb d_Mod_hasTag_56 (by decide) ?_
        obtain rfl := Option.some.inj h
        exact hret H locs ls 57 d_Mod_hasTag_57 narrow_b0 hE
      · have h := ite_t hc h
        refine lv_aload_n hx hb d_Mod_hasTag_30 rfl (lv_at hl 0 rfl) ?_
        refine hn_get S hE kc_Mod 0 rfl rfl 5 (by decide) mw_491 rfl d_Mod_hasTag_31 ?_
        refine lv_iconst (v := 2) hx hb d_Mod_hasTag_34 (by decide) ?_
        obtain ⟨hi35, h⟩ := gi_s h
        refine hn_iald S hE 3 0 rfl rfl hi35 d_Mod_hasTag_35 ?_
        refine lv_bipush (v := 45) hx hb d_Mod_hasTag_36 (by decide) ?_
        refine lv_icmp_ne (tgt := 56) hx hb d_Mod_hasTag_38 (by decide) (fun hc => ?_) (fun hc => ?_)
        · have h := ite_f hc h
          refine lv_iconst (v := 0) hx hb d_Mod_hasTag_56 (by decide) ?_
          obtain rfl := Option.some.inj h
          exact hret H locs ls 57 d_Mod_hasTag_57 narrow_b0 hE
        · have h := ite_t hc h
          refine lv_aload_n hx hb d_Mod_hasTag_41 rfl (lv_at hl 0 rfl) ?_
          refine hn_get S hE kc_Mod 0 rfl rfl 5 (by decide) mw_491 rfl d_Mod_hasTag_42 ?_
          refine lv_iconst (v := 3) hx hb d_Mod_hasTag_45 (by decide) ?_
          obtain ⟨hi46, h⟩ := gi_s h
          refine hn_iald S hE 3 0 rfl rfl hi46 d_Mod_hasTag_46 ?_
          refine lv_bipush (v := 45) hx hb d_Mod_hasTag_47 (by decide) ?_
          refine lv_icmp_ne (tgt := 56) hx hb d_Mod_hasTag_49 (by decide) (fun hc => ?_) (fun hc => ?_)
          · have h := ite_f hc h
            refine lv_iconst (v := 0) hx hb d_Mod_hasTag_56 (by decide) ?_
            obtain rfl := Option.some.inj h
            exact hret H locs ls 57 d_Mod_hasTag_57 narrow_b0 hE
          · have h := ite_t hc h
            refine lv_iconst (v := 1) hx hb d_Mod_hasTag_52 (by decide) ?_
            refine lv_goto (tgt := 57) hx hb d_Mod_hasTag_53 (by decide) ?_
            obtain rfl := Option.some.inj h
            exact hret H locs ls 57 d_Mod_hasTag_57 narrow_b1 hE
abbrev rm_Mod_keep : Room := { frames := 0, cells := 0, slots := 0, locals := 0 }
theorem cf_Mod_keep : hn_CF y_Mod_keep b_Mod_keep 3 none 1 := ⟨mw_644, mw_7, by decide, by decide, by decide +kernel⟩
set_option maxHeartbeats 4000000 in
set_option maxRecDepth 100000 in
theorem c_Mod_keep (l : Launch) (D : va_G) (cI cZ : ClassId) (tt : Nat → Nat) (h_this h_this_text h_this_result h_this_row h_this_other h_this_starts h_this_sizes h_this_rules h_this_tagged h_this_pool h_this_placed : Nat) (sz : Nat) (n_this_textSize : Int32) (n_this_size : Int32) (n_this_rowSize : Int32) (n_this_count : Int32) (n_this_poolSize : Int32) (n_this_whole : Int32) (n_this_bias : Int32) (f_this_text : Nat → Int32) (f_this_result : Nat → Int32) (f_this_row : Nat → Int32) (f_this_other : Nat → Int32) (f_this_starts : Nat → Int32) (f_this_sizes : Nat → Int32) (f_this_rules : Nat → Int32) (f_this_tagged : Nat → Int32) (f_this_pool : Nat → Int32) (f_this_placed : Nat → Int32) (a1 : Int32) (o : Int32 × (Nat → Int32) × (Nat → Int32) × (Nat → Int32)) (h : P_Mod_keep n_this_rowSize n_this_poolSize f_this_row f_this_starts f_this_sizes f_this_pool a1 = some o) : Met l y_Mod_keep (hn_w y_Mod_keep b_Mod_keep 3 none) rm_Mod_keep (hn_Pc D (TY cI cZ) tt [.ref h_this, .int a1] sz [(h_this, .inr (6, [.int n_this_textSize, .ref h_this_text, .int n_this_size, .ref h_this_result, .int n_this_rowSize, .ref h_this_row, .ref h_this_other, .int n_this_count, .ref h_this_starts, .ref h_this_sizes, .ref h_this_rules, .ref h_this_tagged, .int n_this_poolSize, .ref h_this_pool, .int n_this_whole, .ref h_this_placed, .int n_this_bias])), (h_this_text, .inl (cI, 48, .inl f_this_text)), (h_this_result, .inl (cI, 2000, .inl f_this_result)), (h_this_row, .inl (cI, 200, .inl f_this_row)), (h_this_other, .inl (cI, 200, .inl f_this_other)), (h_this_starts, .inl (cI, 50, .inl f_this_starts)), (h_this_sizes, .inl (cI, 50, .inl f_this_sizes)), (h_this_rules, .inl (cI, 50, .inl f_this_rules)), (h_this_tagged, .inl (cZ, 50, .inl f_this_tagged)), (h_this_pool, .inl (cI, 300, .inl f_this_pool)), (h_this_placed, .inl (cZ, 200, .inl f_this_placed))]) (hn_Qv D [(h_this, .inr (6, [.int n_this_textSize, .ref h_this_text, .int n_this_size, .ref h_this_result, .int n_this_rowSize, .ref h_this_row, .ref h_this_other, .int n_this_count, .ref h_this_starts, .ref h_this_sizes, .ref h_this_rules, .ref h_this_tagged, .int n_this_poolSize, .ref h_this_pool, .int n_this_whole, .ref h_this_placed, .int n_this_bias])), (h_this_text, .inl (cI, 48, .inl f_this_text)), (h_this_result, .inl (cI, 2000, .inl f_this_result)), (h_this_row, .inl (cI, 200, .inl f_this_row)), (h_this_other, .inl (cI, 200, .inl f_this_other)), (h_this_starts, .inl (cI, 50, .inl f_this_starts)), (h_this_sizes, .inl (cI, 50, .inl f_this_sizes)), (h_this_rules, .inl (cI, 50, .inl f_this_rules)), (h_this_tagged, .inl (cZ, 50, .inl f_this_tagged)), (h_this_pool, .inl (cI, 300, .inl f_this_pool)), (h_this_placed, .inl (cZ, 200, .inl f_this_placed))] sz [(h_this, .inr (6, [.int n_this_textSize, .ref h_this_text, .int n_this_size, .ref h_this_result, .int n_this_rowSize, .ref h_this_row, .ref h_this_other, .int n_this_count, .ref h_this_starts, .ref h_this_sizes, .ref h_this_rules, .ref h_this_tagged, .int o.1, .ref h_this_pool, .int n_this_whole, .ref h_this_placed, .int n_this_bias])), (h_this_text, .inl (cI, 48, .inl f_this_text)), (h_this_result, .inl (cI, 2000, .inl f_this_result)), (h_this_row, .inl (cI, 200, .inl f_this_row)), (h_this_other, .inl (cI, 200, .inl f_this_other)), (h_this_starts, .inl (cI, 50, .inl o.2.1)), (h_this_sizes, .inl (cI, 50, .inl o.2.2.1)), (h_this_rules, .inl (cI, 50, .inl f_this_rules)), (h_this_tagged, .inl (cZ, 50, .inl f_this_tagged)), (h_this_pool, .inl (cI, 300, .inl o.2.2.2)), (h_this_placed, .inl (cZ, 200, .inl f_this_placed))]) 0 0 (va_A [(h_this, .inr (6, [.int n_this_textSize, .ref h_this_text, .int n_this_size, .ref h_this_result, .int n_this_rowSize, .ref h_this_row, .ref h_this_other, .int n_this_count, .ref h_this_starts, .ref h_this_sizes, .ref h_this_rules, .ref h_this_tagged, .int n_this_poolSize, .ref h_this_pool, .int n_this_whole, .ref h_this_placed, .int n_this_bias])), (h_this_text, .inl (cI, 48, .inl f_this_text)), (h_this_result, .inl (cI, 2000, .inl f_this_result)), (h_this_row, .inl (cI, 200, .inl f_this_row)), (h_this_other, .inl (cI, 200, .inl f_this_other)), (h_this_starts, .inl (cI, 50, .inl f_this_starts)), (h_this_sizes, .inl (cI, 50, .inl f_this_sizes)), (h_this_rules, .inl (cI, 50, .inl f_this_rules)), (h_this_tagged, .inl (cZ, 50, .inl f_this_tagged)), (h_this_pool, .inl (cI, 300, .inl f_this_pool)), (h_this_placed, .inl (cZ, 200, .inl f_this_placed))] sz) := by
  refine hn_ofWv (own := R_Mod) (by decide) rfl (Nat.le_of_ble_eq_true rfl) ?_
  intro p e s m args below meth c A H locs ls Q S hE hl hret
  have hx := S.1
  have hb := S.2.1
  have hown := S.2.2.2.1
  have hl : lv_has ls 3 [(0, .ref h_this), (1, .int a1)] := hl
  have hL22 : ∀ (f_this_starts : Nat → Int32) (f_this_sizes : Nat → Int32) (kf : Nat) (v2 : Int32) (n_this_poolSize : Int32) (f_this_pool : Nat → Int32) (H : Heap) (locs : List Loc) (ls : Array Slot), hn_E D (TY cI cZ) tt A s H locs [(h_this, .inr (6, [.int n_this_textSize, .ref h_this_text, .int n_this_size, .ref h_this_result, .int n_this_rowSize, .ref h_this_row, .ref h_this_other, .int n_this_count, .ref h_this_starts, .ref h_this_sizes, .ref h_this_rules, .ref h_this_tagged, .int n_this_poolSize, .ref h_this_pool, .int n_this_whole, .ref h_this_placed, .int n_this_bias])), (h_this_text, .inl (cI, 48, .inl f_this_text)), (h_this_result, .inl (cI, 2000, .inl f_this_result)), (h_this_row, .inl (cI, 200, .inl f_this_row)), (h_this_other, .inl (cI, 200, .inl f_this_other)), (h_this_starts, .inl (cI, 50, .inl f_this_starts)), (h_this_sizes, .inl (cI, 50, .inl f_this_sizes)), (h_this_rules, .inl (cI, 50, .inl f_this_rules)), (h_this_tagged, .inl (cZ, 50, .inl f_this_tagged)), (h_this_pool, .inl (cI, 300, .inl f_this_pool)), (h_this_placed, .inl (cZ, 200, .inl f_this_placed))] → lv_has ls 3 [(0, .ref h_this), (2, .int v2)] → fl3 (P_Mod_keep_22 n_this_rowSize f_this_row f_this_starts f_this_sizes) kf v2 n_this_poolSize f_this_pool = some o → W p l e rm_Mod_keep s m args below meth c H locs 0 0 Q (F0 m 22 ls []) := by
    intro f_this_starts f_this_sizes kf
    induction kf with
    | zero => intro v2 n_this_poolSize f_this_pool H locs ls hE hl h; exact no_s h
    | succ kf ih =>
      intro v2 n_this_poolSize f_this_pool H locs ls hE hl h
      have h : P_Mod_keep_22 n_this_rowSize f_this_row f_this_starts f_this_sizes (fl3 (P_Mod_keep_22 n_this_rowSize f_this_row f_this_starts f_this_sizes) kf) v2 n_this_poolSize f_this_pool = some o := h
      generalize fl3 (P_Mod_keep_22 n_this_rowSize f_this_row f_this_starts f_this_sizes) kf = k22 at ih h
      have hk22 := ih
      unfold P_Mod_keep_22 at h
      refine lv_iload_n hx hb d_Mod_keep_22 rfl (lv_at hl 1 rfl) ?_
      refine lv_aload_n hx hb d_Mod_keep_23 rfl (lv_at hl 0 rfl) ?_
      refine hn_get S hE kc_Mod 0 rfl rfl 4 (by decide) mw_490 rfl d_Mod_keep_24 ?_
      refine lv_icmp_ge (tgt := 61) hx hb d_Mod_keep_27 (by decide) (fun hc => ?_) (fun hc => ?_)
      · have h := ite_t hc h
        obtain rfl := Option.some.inj h
        exact hret H locs ls 61 d_Mod_keep_61 hE
      · have h := ite_f hc h
        refine lv_aload_n hx hb d_Mod_keep_30 rfl (lv_at hl 0 rfl) ?_
        refine hn_get S hE kc_Mod 0 rfl rfl 13 (by decide) mw_499 rfl d_Mod_keep_31 ?_
        refine lv_aload_n hx hb d_Mod_keep_34 rfl (lv_at hl 0 rfl) ?_
        refine hn_get S hE kc_Mod 0 rfl rfl 12 (by decide) mw_498 rfl d_Mod_keep_35 ?_
        refine lv_aload_n hx hb d_Mod_keep_38 rfl (lv_at hl 0 rfl) ?_
        refine hn_get S hE kc_Mod 0 rfl rfl 5 (by decide) mw_491 rfl d_Mod_keep_39 ?_
        refine lv_iload_n hx hb d_Mod_keep_42 rfl (lv_at hl 1 rfl) ?_
        obtain ⟨hi43, h⟩ := gi_s h
        refine hn_iald S hE 3 0 rfl rfl hi43 d_Mod_keep_43 ?_
        obtain ⟨hi44, h⟩ := gi_s h
        refine hn_iast S hE 9 0 rfl rfl hi44 d_Mod_keep_44 (fun H locs hE => ?_)
        have hE : hn_E D (TY cI cZ) tt A s H locs [(h_this, .inr (6, [.int n_this_textSize, .ref h_this_text, .int n_this_size, .ref h_this_result, .int n_this_rowSize, .ref h_this_row, .ref h_this_other, .int n_this_count, .ref h_this_starts, .ref h_this_sizes, .ref h_this_rules, .ref h_this_tagged, .int n_this_poolSize, .ref h_this_pool, .int n_this_whole, .ref h_this_placed, .int n_this_bias])), (h_this_text, .inl (cI, 48, .inl f_this_text)), (h_this_result, .inl (cI, 2000, .inl f_this_result)), (h_this_row, .inl (cI, 200, .inl f_this_row)), (h_this_other, .inl (cI, 200, .inl f_this_other)), (h_this_starts, .inl (cI, 50, .inl f_this_starts)), (h_this_sizes, .inl (cI, 50, .inl f_this_sizes)), (h_this_rules, .inl (cI, 50, .inl f_this_rules)), (h_this_tagged, .inl (cZ, 50, .inl f_this_tagged)), (h_this_pool, .inl (cI, 300, .inl (upd f_this_pool (n_this_poolSize).toNatClampNeg (f_this_row (v2).toNatClampNeg)))), (h_this_placed, .inl (cZ, 200, .inl f_this_placed))] := hE
        refine lv_aload_n hx hb d_Mod_keep_45 rfl (lv_at hl 0 rfl) ?_
        refine lv_dup hx hb d_Mod_keep_46 rfl ?_
        refine hn_get S hE kc_Mod 0 rfl rfl 12 (by decide) mw_498 rfl d_Mod_keep_47 ?_
        refine lv_iconst (v := 1) hx hb d_Mod_keep_50 (by decide) ?_
        refine lv_iadd hx hb d_Mod_keep_51 ?_
        refine hn_put (tv := .int) S hE kc_Mod t_Mod_ok n_Mod 0 rfl rfl 12 (by decide) mw_498 rfl (by decide +kernel) rfl rfl (Nat.le_of_ble_eq_true rfl) d_Mod_keep_52 (fun H locs hE => ?_)
        have hE : hn_E D (TY cI cZ) tt A s H locs [(h_this, .inr (6, [.int n_this_textSize, .ref h_this_text, .int n_this_size, .ref h_this_result, .int n_this_rowSize, .ref h_this_row, .ref h_this_other, .int n_this_count, .ref h_this_starts, .ref h_this_sizes, .ref h_this_rules, .ref h_this_tagged, .int (n_this_poolSize + (1 : Int32)), .ref h_this_pool, .int n_this_whole, .ref h_this_placed, .int n_this_bias])), (h_this_text, .inl (cI, 48, .inl f_this_text)), (h_this_result, .inl (cI, 2000, .inl f_this_result)), (h_this_row, .inl (cI, 200, .inl f_this_row)), (h_this_other, .inl (cI, 200, .inl f_this_other)), (h_this_starts, .inl (cI, 50, .inl f_this_starts)), (h_this_sizes, .inl (cI, 50, .inl f_this_sizes)), (h_this_rules, .inl (cI, 50, .inl f_this_rules)), (h_this_tagged, .inl (cZ, 50, .inl f_this_tagged)), (h_this_pool, .inl (cI, 300, .inl (upd f_this_pool (n_this_poolSize).toNatClampNeg (f_this_row (v2).toNatClampNeg)))), (h_this_placed, .inl (cZ, 200, .inl f_this_placed))] := hE
        refine lv_iinc (v := (v2 + (1 : Int32))) (lv' := [(2, .int (v2 + (1 : Int32))), (0, .ref h_this)]) hx hb d_Mod_keep_55 hl (k := 1) rfl rfl (by decide) rfl (fun ls hl => ?_)
        refine lv_goto (tgt := 22) hx hb d_Mod_keep_58 (by decide) ?_
        exact hk22 (v2 + (1 : Int32)) (n_this_poolSize + (1 : Int32)) (upd f_this_pool (n_this_poolSize).toNatClampNeg (f_this_row (v2).toNatClampNeg)) H locs ls hE (lv_sub hl [1, 0] rfl) h
  unfold P_Mod_keep at h
  refine lv_aload_n hx hb d_Mod_keep_0 rfl (lv_at hl 0 rfl) ?_
  refine hn_get S hE kc_Mod 0 rfl rfl 8 (by decide) mw_494 rfl d_Mod_keep_1 ?_
  refine lv_iload_n hx hb d_Mod_keep_4 rfl (lv_at hl 1 rfl) ?_
  refine lv_aload_n hx hb d_Mod_keep_5 rfl (lv_at hl 0 rfl) ?_
  refine hn_get S hE kc_Mod 0 rfl rfl 12 (by decide) mw_498 rfl d_Mod_keep_6 ?_
  obtain ⟨hi9, h⟩ := gi_s h
  refine hn_iast S hE 5 0 rfl rfl hi9 d_Mod_keep_9 (fun H locs hE => ?_)
  have hE : hn_E D (TY cI cZ) tt A s H locs [(h_this, .inr (6, [.int n_this_textSize, .ref h_this_text, .int n_this_size, .ref h_this_result, .int n_this_rowSize, .ref h_this_row, .ref h_this_other, .int n_this_count, .ref h_this_starts, .ref h_this_sizes, .ref h_this_rules, .ref h_this_tagged, .int n_this_poolSize, .ref h_this_pool, .int n_this_whole, .ref h_this_placed, .int n_this_bias])), (h_this_text, .inl (cI, 48, .inl f_this_text)), (h_this_result, .inl (cI, 2000, .inl f_this_result)), (h_this_row, .inl (cI, 200, .inl f_this_row)), (h_this_other, .inl (cI, 200, .inl f_this_other)), (h_this_starts, .inl (cI, 50, .inl (upd f_this_starts (a1).toNatClampNeg n_this_poolSize))), (h_this_sizes, .inl (cI, 50, .inl f_this_sizes)), (h_this_rules, .inl (cI, 50, .inl f_this_rules)), (h_this_tagged, .inl (cZ, 50, .inl f_this_tagged)), (h_this_pool, .inl (cI, 300, .inl f_this_pool)), (h_this_placed, .inl (cZ, 200, .inl f_this_placed))] := hE
  refine lv_aload_n hx hb d_Mod_keep_10 rfl (lv_at hl 0 rfl) ?_
  refine hn_get S hE kc_Mod 0 rfl rfl 9 (by decide) mw_495 rfl d_Mod_keep_11 ?_
  refine lv_iload_n hx hb d_Mod_keep_14 rfl (lv_at hl 1 rfl) ?_
  refine lv_aload_n hx hb d_Mod_keep_15 rfl (lv_at hl 0 rfl) ?_
  refine hn_get S hE kc_Mod 0 rfl rfl 4 (by decide) mw_490 rfl d_Mod_keep_16 ?_
  obtain ⟨hi19, h⟩ := gi_s h
  refine hn_iast S hE 6 0 rfl rfl hi19 d_Mod_keep_19 (fun H locs hE => ?_)
  have hE : hn_E D (TY cI cZ) tt A s H locs [(h_this, .inr (6, [.int n_this_textSize, .ref h_this_text, .int n_this_size, .ref h_this_result, .int n_this_rowSize, .ref h_this_row, .ref h_this_other, .int n_this_count, .ref h_this_starts, .ref h_this_sizes, .ref h_this_rules, .ref h_this_tagged, .int n_this_poolSize, .ref h_this_pool, .int n_this_whole, .ref h_this_placed, .int n_this_bias])), (h_this_text, .inl (cI, 48, .inl f_this_text)), (h_this_result, .inl (cI, 2000, .inl f_this_result)), (h_this_row, .inl (cI, 200, .inl f_this_row)), (h_this_other, .inl (cI, 200, .inl f_this_other)), (h_this_starts, .inl (cI, 50, .inl (upd f_this_starts (a1).toNatClampNeg n_this_poolSize))), (h_this_sizes, .inl (cI, 50, .inl (upd f_this_sizes (a1).toNatClampNeg n_this_rowSize))), (h_this_rules, .inl (cI, 50, .inl f_this_rules)), (h_this_tagged, .inl (cZ, 50, .inl f_this_tagged)), (h_this_pool, .inl (cI, 300, .inl f_this_pool)), (h_this_placed, .inl (cZ, 200, .inl f_this_placed))] := hE
  refine lv_iconst (v := 0) hx hb d_Mod_keep_20 (by decide) ?_
  refine lv_istore_n (lv' := [(2, .int (0 : Int32)), (0, .ref h_this), (1, .int a1)]) hx hb d_Mod_keep_21 rfl hl (by decide) rfl (fun ls hl => ?_)
  exact hL22 (upd f_this_starts (a1).toNatClampNeg n_this_poolSize) (upd f_this_sizes (a1).toNatClampNeg n_this_rowSize) fu (0 : Int32) n_this_poolSize f_this_pool H locs ls hE (lv_sub hl [1, 0] rfl) h
abbrev rm_Mod_fetch : Room := { frames := 0, cells := 0, slots := 0, locals := 0 }
theorem cf_Mod_fetch : hn_CF y_Mod_fetch b_Mod_fetch 3 none 1 := ⟨mw_618, mw_7, by decide, by decide, by decide +kernel⟩
set_option maxHeartbeats 4000000 in
set_option maxRecDepth 100000 in
theorem c_Mod_fetch (l : Launch) (D : va_G) (cI cZ : ClassId) (tt : Nat → Nat) (h_this h_this_text h_this_result h_this_row h_this_other h_this_starts h_this_sizes h_this_rules h_this_tagged h_this_pool h_this_placed : Nat) (sz : Nat) (n_this_textSize : Int32) (n_this_size : Int32) (n_this_rowSize : Int32) (n_this_count : Int32) (n_this_poolSize : Int32) (n_this_whole : Int32) (n_this_bias : Int32) (f_this_text : Nat → Int32) (f_this_result : Nat → Int32) (f_this_row : Nat → Int32) (f_this_other : Nat → Int32) (f_this_starts : Nat → Int32) (f_this_sizes : Nat → Int32) (f_this_rules : Nat → Int32) (f_this_tagged : Nat → Int32) (f_this_pool : Nat → Int32) (f_this_placed : Nat → Int32) (a1 : Int32) (o : Int32 × (Nat → Int32)) (h : P_Mod_fetch f_this_row f_this_starts f_this_sizes f_this_pool a1 = some o) : Met l y_Mod_fetch (hn_w y_Mod_fetch b_Mod_fetch 3 none) rm_Mod_fetch (hn_Pc D (TY cI cZ) tt [.ref h_this, .int a1] sz [(h_this, .inr (6, [.int n_this_textSize, .ref h_this_text, .int n_this_size, .ref h_this_result, .int n_this_rowSize, .ref h_this_row, .ref h_this_other, .int n_this_count, .ref h_this_starts, .ref h_this_sizes, .ref h_this_rules, .ref h_this_tagged, .int n_this_poolSize, .ref h_this_pool, .int n_this_whole, .ref h_this_placed, .int n_this_bias])), (h_this_text, .inl (cI, 48, .inl f_this_text)), (h_this_result, .inl (cI, 2000, .inl f_this_result)), (h_this_row, .inl (cI, 200, .inl f_this_row)), (h_this_other, .inl (cI, 200, .inl f_this_other)), (h_this_starts, .inl (cI, 50, .inl f_this_starts)), (h_this_sizes, .inl (cI, 50, .inl f_this_sizes)), (h_this_rules, .inl (cI, 50, .inl f_this_rules)), (h_this_tagged, .inl (cZ, 50, .inl f_this_tagged)), (h_this_pool, .inl (cI, 300, .inl f_this_pool)), (h_this_placed, .inl (cZ, 200, .inl f_this_placed))]) (hn_Qv D [(h_this, .inr (6, [.int n_this_textSize, .ref h_this_text, .int n_this_size, .ref h_this_result, .int n_this_rowSize, .ref h_this_row, .ref h_this_other, .int n_this_count, .ref h_this_starts, .ref h_this_sizes, .ref h_this_rules, .ref h_this_tagged, .int n_this_poolSize, .ref h_this_pool, .int n_this_whole, .ref h_this_placed, .int n_this_bias])), (h_this_text, .inl (cI, 48, .inl f_this_text)), (h_this_result, .inl (cI, 2000, .inl f_this_result)), (h_this_row, .inl (cI, 200, .inl f_this_row)), (h_this_other, .inl (cI, 200, .inl f_this_other)), (h_this_starts, .inl (cI, 50, .inl f_this_starts)), (h_this_sizes, .inl (cI, 50, .inl f_this_sizes)), (h_this_rules, .inl (cI, 50, .inl f_this_rules)), (h_this_tagged, .inl (cZ, 50, .inl f_this_tagged)), (h_this_pool, .inl (cI, 300, .inl f_this_pool)), (h_this_placed, .inl (cZ, 200, .inl f_this_placed))] sz [(h_this, .inr (6, [.int n_this_textSize, .ref h_this_text, .int n_this_size, .ref h_this_result, .int o.1, .ref h_this_row, .ref h_this_other, .int n_this_count, .ref h_this_starts, .ref h_this_sizes, .ref h_this_rules, .ref h_this_tagged, .int n_this_poolSize, .ref h_this_pool, .int n_this_whole, .ref h_this_placed, .int n_this_bias])), (h_this_text, .inl (cI, 48, .inl f_this_text)), (h_this_result, .inl (cI, 2000, .inl f_this_result)), (h_this_row, .inl (cI, 200, .inl o.2)), (h_this_other, .inl (cI, 200, .inl f_this_other)), (h_this_starts, .inl (cI, 50, .inl f_this_starts)), (h_this_sizes, .inl (cI, 50, .inl f_this_sizes)), (h_this_rules, .inl (cI, 50, .inl f_this_rules)), (h_this_tagged, .inl (cZ, 50, .inl f_this_tagged)), (h_this_pool, .inl (cI, 300, .inl f_this_pool)), (h_this_placed, .inl (cZ, 200, .inl f_this_placed))]) 0 0 (va_A [(h_this, .inr (6, [.int n_this_textSize, .ref h_this_text, .int n_this_size, .ref h_this_result, .int n_this_rowSize, .ref h_this_row, .ref h_this_other, .int n_this_count, .ref h_this_starts, .ref h_this_sizes, .ref h_this_rules, .ref h_this_tagged, .int n_this_poolSize, .ref h_this_pool, .int n_this_whole, .ref h_this_placed, .int n_this_bias])), (h_this_text, .inl (cI, 48, .inl f_this_text)), (h_this_result, .inl (cI, 2000, .inl f_this_result)), (h_this_row, .inl (cI, 200, .inl f_this_row)), (h_this_other, .inl (cI, 200, .inl f_this_other)), (h_this_starts, .inl (cI, 50, .inl f_this_starts)), (h_this_sizes, .inl (cI, 50, .inl f_this_sizes)), (h_this_rules, .inl (cI, 50, .inl f_this_rules)), (h_this_tagged, .inl (cZ, 50, .inl f_this_tagged)), (h_this_pool, .inl (cI, 300, .inl f_this_pool)), (h_this_placed, .inl (cZ, 200, .inl f_this_placed))] sz) := by
  refine hn_ofWv (own := R_Mod) (by decide) rfl (Nat.le_of_ble_eq_true rfl) ?_
  intro p e s m args below meth c A H locs ls Q S hE hl hret
  have hx := S.1
  have hb := S.2.1
  have hown := S.2.2.2.1
  have hl : lv_has ls 3 [(0, .ref h_this), (1, .int a1)] := hl
  have hL12 : ∀ (n_this_rowSize : Int32) (kf : Nat) (v2 : Int32) (f_this_row : Nat → Int32) (H : Heap) (locs : List Loc) (ls : Array Slot), hn_E D (TY cI cZ) tt A s H locs [(h_this, .inr (6, [.int n_this_textSize, .ref h_this_text, .int n_this_size, .ref h_this_result, .int n_this_rowSize, .ref h_this_row, .ref h_this_other, .int n_this_count, .ref h_this_starts, .ref h_this_sizes, .ref h_this_rules, .ref h_this_tagged, .int n_this_poolSize, .ref h_this_pool, .int n_this_whole, .ref h_this_placed, .int n_this_bias])), (h_this_text, .inl (cI, 48, .inl f_this_text)), (h_this_result, .inl (cI, 2000, .inl f_this_result)), (h_this_row, .inl (cI, 200, .inl f_this_row)), (h_this_other, .inl (cI, 200, .inl f_this_other)), (h_this_starts, .inl (cI, 50, .inl f_this_starts)), (h_this_sizes, .inl (cI, 50, .inl f_this_sizes)), (h_this_rules, .inl (cI, 50, .inl f_this_rules)), (h_this_tagged, .inl (cZ, 50, .inl f_this_tagged)), (h_this_pool, .inl (cI, 300, .inl f_this_pool)), (h_this_placed, .inl (cZ, 200, .inl f_this_placed))] → lv_has ls 3 [(0, .ref h_this), (1, .int a1), (2, .int v2)] → fl2 (P_Mod_fetch_12 f_this_starts f_this_pool a1 n_this_rowSize) kf v2 f_this_row = some o → W p l e rm_Mod_fetch s m args below meth c H locs 0 0 Q (F0 m 12 ls []) := by
    intro n_this_rowSize kf
    induction kf with
    | zero => intro v2 f_this_row H locs ls hE hl h; exact no_s h
    | succ kf ih =>
      intro v2 f_this_row H locs ls hE hl h
      have h : P_Mod_fetch_12 f_this_starts f_this_pool a1 n_this_rowSize (fl2 (P_Mod_fetch_12 f_this_starts f_this_pool a1 n_this_rowSize) kf) v2 f_this_row = some o := h
      generalize fl2 (P_Mod_fetch_12 f_this_starts f_this_pool a1 n_this_rowSize) kf = k12 at ih h
      have hk12 := ih
      unfold P_Mod_fetch_12 at h
      refine lv_iload_n hx hb d_Mod_fetch_12 rfl (lv_at hl 2 rfl) ?_
      refine lv_aload_n hx hb d_Mod_fetch_13 rfl (lv_at hl 0 rfl) ?_
      refine hn_get S hE kc_Mod 0 rfl rfl 4 (by decide) mw_490 rfl d_Mod_fetch_14 ?_
      refine lv_icmp_ge (tgt := 45) hx hb d_Mod_fetch_17 (by decide) (fun hc => ?_) (fun hc => ?_)
      · have h := ite_t hc h
        obtain rfl := Option.some.inj h
        exact hret H locs ls 45 d_Mod_fetch_45 hE
      · have h := ite_f hc h
        refine lv_aload_n hx hb d_Mod_fetch_20 rfl (lv_at hl 0 rfl) ?_
        refine hn_get S hE kc_Mod 0 rfl rfl 5 (by decide) mw_491 rfl d_Mod_fetch_21 ?_
        refine lv_iload_n hx hb d_Mod_fetch_24 rfl (lv_at hl 2 rfl) ?_
        refine lv_aload_n hx hb d_Mod_fetch_25 rfl (lv_at hl 0 rfl) ?_
        refine hn_get S hE kc_Mod 0 rfl rfl 13 (by decide) mw_499 rfl d_Mod_fetch_26 ?_
        refine lv_aload_n hx hb d_Mod_fetch_29 rfl (lv_at hl 0 rfl) ?_
        refine hn_get S hE kc_Mod 0 rfl rfl 8 (by decide) mw_494 rfl d_Mod_fetch_30 ?_
        refine lv_iload_n hx hb d_Mod_fetch_33 rfl (lv_at hl 1 rfl) ?_
        obtain ⟨hi34, h⟩ := gi_s h
        refine hn_iald S hE 5 0 rfl rfl hi34 d_Mod_fetch_34 ?_
        refine lv_iload_n hx hb d_Mod_fetch_35 rfl (lv_at hl 2 rfl) ?_
        refine lv_iadd hx hb d_Mod_fetch_36 ?_
        obtain ⟨hi37, h⟩ := gi_s h
        refine hn_iald S hE 9 0 rfl rfl hi37 d_Mod_fetch_37 ?_
        obtain ⟨hi38, h⟩ := gi_s h
        refine hn_iast S hE 3 0 rfl rfl hi38 d_Mod_fetch_38 (fun H locs hE => ?_)
        have hE : hn_E D (TY cI cZ) tt A s H locs [(h_this, .inr (6, [.int n_this_textSize, .ref h_this_text, .int n_this_size, .ref h_this_result, .int n_this_rowSize, .ref h_this_row, .ref h_this_other, .int n_this_count, .ref h_this_starts, .ref h_this_sizes, .ref h_this_rules, .ref h_this_tagged, .int n_this_poolSize, .ref h_this_pool, .int n_this_whole, .ref h_this_placed, .int n_this_bias])), (h_this_text, .inl (cI, 48, .inl f_this_text)), (h_this_result, .inl (cI, 2000, .inl f_this_result)), (h_this_row, .inl (cI, 200, .inl (upd f_this_row (v2).toNatClampNeg (f_this_pool (((f_this_starts (a1).toNatClampNeg) + v2)).toNatClampNeg)))), (h_this_other, .inl (cI, 200, .inl f_this_other)), (h_this_starts, .inl (cI, 50, .inl f_this_starts)), (h_this_sizes, .inl (cI, 50, .inl f_this_sizes)), (h_this_rules, .inl (cI, 50, .inl f_this_rules)), (h_this_tagged, .inl (cZ, 50, .inl f_this_tagged)), (h_this_pool, .inl (cI, 300, .inl f_this_pool)), (h_this_placed, .inl (cZ, 200, .inl f_this_placed))] := hE
        refine lv_iinc (v := (v2 + (1 : Int32))) (lv' := [(2, .int (v2 + (1 : Int32))), (0, .ref h_this), (1, .int a1)]) hx hb d_Mod_fetch_39 hl (k := 2) rfl rfl (by decide) rfl (fun ls hl => ?_)
        refine lv_goto (tgt := 12) hx hb d_Mod_fetch_42 (by decide) ?_
        exact hk12 (v2 + (1 : Int32)) (upd f_this_row (v2).toNatClampNeg (f_this_pool (((f_this_starts (a1).toNatClampNeg) + v2)).toNatClampNeg)) H locs ls hE (lv_sub hl [1, 2, 0] rfl) h
  unfold P_Mod_fetch at h
  refine lv_aload_n hx hb d_Mod_fetch_0 rfl (lv_at hl 0 rfl) ?_
  refine lv_aload_n hx hb d_Mod_fetch_1 rfl (lv_at hl 0 rfl) ?_
  refine hn_get S hE kc_Mod 0 rfl rfl 9 (by decide) mw_495 rfl d_Mod_fetch_2 ?_
  refine lv_iload_n hx hb d_Mod_fetch_5 rfl (lv_at hl 1 rfl) ?_
  obtain ⟨hi6, h⟩ := gi_s h
  refine hn_iald S hE 6 0 rfl rfl hi6 d_Mod_fetch_6 ?_
  refine hn_put (tv := .int) S hE kc_Mod t_Mod_ok n_Mod 0 rfl rfl 4 (by decide) mw_490 rfl (by decide +kernel) rfl rfl (Nat.le_of_ble_eq_true rfl) d_Mod_fetch_7 (fun H locs hE => ?_)
  have hE : hn_E D (TY cI cZ) tt A s H locs [(h_this, .inr (6, [.int n_this_textSize, .ref h_this_text, .int n_this_size, .ref h_this_result, .int (f_this_sizes (a1).toNatClampNeg), .ref h_this_row, .ref h_this_other, .int n_this_count, .ref h_this_starts, .ref h_this_sizes, .ref h_this_rules, .ref h_this_tagged, .int n_this_poolSize, .ref h_this_pool, .int n_this_whole, .ref h_this_placed, .int n_this_bias])), (h_this_text, .inl (cI, 48, .inl f_this_text)), (h_this_result, .inl (cI, 2000, .inl f_this_result)), (h_this_row, .inl (cI, 200, .inl f_this_row)), (h_this_other, .inl (cI, 200, .inl f_this_other)), (h_this_starts, .inl (cI, 50, .inl f_this_starts)), (h_this_sizes, .inl (cI, 50, .inl f_this_sizes)), (h_this_rules, .inl (cI, 50, .inl f_this_rules)), (h_this_tagged, .inl (cZ, 50, .inl f_this_tagged)), (h_this_pool, .inl (cI, 300, .inl f_this_pool)), (h_this_placed, .inl (cZ, 200, .inl f_this_placed))] := hE
  refine lv_iconst (v := 0) hx hb d_Mod_fetch_10 (by decide) ?_
  refine lv_istore_n (lv' := [(2, .int (0 : Int32)), (0, .ref h_this), (1, .int a1)]) hx hb d_Mod_fetch_11 rfl hl (by decide) rfl (fun ls hl => ?_)
  exact hL12 (f_this_sizes (a1).toNatClampNeg) fu (0 : Int32) f_this_row H locs ls hE (lv_sub hl [1, 2, 0] rfl) h
abbrev rm_Mod_cut : Room := { frames := 0, cells := 0, slots := 0, locals := 0 }
theorem cf_Mod_cut : hn_CF y_Mod_cut b_Mod_cut 2 none 0 := ⟨mw_610, mw_7, by decide, by decide, by decide +kernel⟩
set_option maxHeartbeats 4000000 in
set_option maxRecDepth 100000 in
theorem c_Mod_cut (l : Launch) (D : va_G) (cI cZ : ClassId) (tt : Nat → Nat) (h_this h_this_text h_this_result h_this_row h_this_other h_this_starts h_this_sizes h_this_rules h_this_tagged h_this_pool h_this_placed : Nat) (sz : Nat) (n_this_textSize : Int32) (n_this_size : Int32) (n_this_rowSize : Int32) (n_this_count : Int32) (n_this_poolSize : Int32) (n_this_whole : Int32) (n_this_bias : Int32) (f_this_text : Nat → Int32) (f_this_result : Nat → Int32) (f_this_row : Nat → Int32) (f_this_other : Nat → Int32) (f_this_starts : Nat → Int32) (f_this_sizes : Nat → Int32) (f_this_rules : Nat → Int32) (f_this_tagged : Nat → Int32) (f_this_pool : Nat → Int32) (f_this_placed : Nat → Int32) (o : Int32 × Int32 × (Nat → Int32) × (Nat → Int32) × (Nat → Int32)) (h : P_Mod_cut n_this_rowSize f_this_row f_this_starts f_this_sizes f_this_pool = some o) : Met l y_Mod_cut (hn_w y_Mod_cut b_Mod_cut 2 none) rm_Mod_cut (hn_Pc D (TY cI cZ) tt [.ref h_this] sz [(h_this, .inr (6, [.int n_this_textSize, .ref h_this_text, .int n_this_size, .ref h_this_result, .int n_this_rowSize, .ref h_this_row, .ref h_this_other, .int n_this_count, .ref h_this_starts, .ref h_this_sizes, .ref h_this_rules, .ref h_this_tagged, .int n_this_poolSize, .ref h_this_pool, .int n_this_whole, .ref h_this_placed, .int n_this_bias])), (h_this_text, .inl (cI, 48, .inl f_this_text)), (h_this_result, .inl (cI, 2000, .inl f_this_result)), (h_this_row, .inl (cI, 200, .inl f_this_row)), (h_this_other, .inl (cI, 200, .inl f_this_other)), (h_this_starts, .inl (cI, 50, .inl f_this_starts)), (h_this_sizes, .inl (cI, 50, .inl f_this_sizes)), (h_this_rules, .inl (cI, 50, .inl f_this_rules)), (h_this_tagged, .inl (cZ, 50, .inl f_this_tagged)), (h_this_pool, .inl (cI, 300, .inl f_this_pool)), (h_this_placed, .inl (cZ, 200, .inl f_this_placed))]) (hn_Qv D [(h_this, .inr (6, [.int n_this_textSize, .ref h_this_text, .int n_this_size, .ref h_this_result, .int n_this_rowSize, .ref h_this_row, .ref h_this_other, .int n_this_count, .ref h_this_starts, .ref h_this_sizes, .ref h_this_rules, .ref h_this_tagged, .int n_this_poolSize, .ref h_this_pool, .int n_this_whole, .ref h_this_placed, .int n_this_bias])), (h_this_text, .inl (cI, 48, .inl f_this_text)), (h_this_result, .inl (cI, 2000, .inl f_this_result)), (h_this_row, .inl (cI, 200, .inl f_this_row)), (h_this_other, .inl (cI, 200, .inl f_this_other)), (h_this_starts, .inl (cI, 50, .inl f_this_starts)), (h_this_sizes, .inl (cI, 50, .inl f_this_sizes)), (h_this_rules, .inl (cI, 50, .inl f_this_rules)), (h_this_tagged, .inl (cZ, 50, .inl f_this_tagged)), (h_this_pool, .inl (cI, 300, .inl f_this_pool)), (h_this_placed, .inl (cZ, 200, .inl f_this_placed))] sz [(h_this, .inr (6, [.int n_this_textSize, .ref h_this_text, .int n_this_size, .ref h_this_result, .int n_this_rowSize, .ref h_this_row, .ref h_this_other, .int o.1, .ref h_this_starts, .ref h_this_sizes, .ref h_this_rules, .ref h_this_tagged, .int o.2.1, .ref h_this_pool, .int n_this_whole, .ref h_this_placed, .int n_this_bias])), (h_this_text, .inl (cI, 48, .inl f_this_text)), (h_this_result, .inl (cI, 2000, .inl f_this_result)), (h_this_row, .inl (cI, 200, .inl f_this_row)), (h_this_other, .inl (cI, 200, .inl f_this_other)), (h_this_starts, .inl (cI, 50, .inl o.2.2.1)), (h_this_sizes, .inl (cI, 50, .inl o.2.2.2.1)), (h_this_rules, .inl (cI, 50, .inl f_this_rules)), (h_this_tagged, .inl (cZ, 50, .inl f_this_tagged)), (h_this_pool, .inl (cI, 300, .inl o.2.2.2.2)), (h_this_placed, .inl (cZ, 200, .inl f_this_placed))]) 0 0 (va_A [(h_this, .inr (6, [.int n_this_textSize, .ref h_this_text, .int n_this_size, .ref h_this_result, .int n_this_rowSize, .ref h_this_row, .ref h_this_other, .int n_this_count, .ref h_this_starts, .ref h_this_sizes, .ref h_this_rules, .ref h_this_tagged, .int n_this_poolSize, .ref h_this_pool, .int n_this_whole, .ref h_this_placed, .int n_this_bias])), (h_this_text, .inl (cI, 48, .inl f_this_text)), (h_this_result, .inl (cI, 2000, .inl f_this_result)), (h_this_row, .inl (cI, 200, .inl f_this_row)), (h_this_other, .inl (cI, 200, .inl f_this_other)), (h_this_starts, .inl (cI, 50, .inl f_this_starts)), (h_this_sizes, .inl (cI, 50, .inl f_this_sizes)), (h_this_rules, .inl (cI, 50, .inl f_this_rules)), (h_this_tagged, .inl (cZ, 50, .inl f_this_tagged)), (h_this_pool, .inl (cI, 300, .inl f_this_pool)), (h_this_placed, .inl (cZ, 200, .inl f_this_placed))] sz) := by
  refine hn_ofWv (own := R_Mod) (by decide) rfl (Nat.le_of_ble_eq_true rfl) ?_
  intro p e s m args below meth c A H locs ls Q S hE hl hret
  have hx := S.1
  have hb := S.2.1
  have hown := S.2.2.2.1
  have hl : lv_has ls 2 [(0, .ref h_this)] := hl
  have hL26 : ∀ (kf : Nat) (v1 : Int32) (n_this_count : Int32) (n_this_poolSize : Int32) (f_this_starts : Nat → Int32) (f_this_sizes : Nat → Int32) (f_this_pool : Nat → Int32) (H : Heap) (locs : List Loc) (ls : Array Slot), hn_E D (TY cI cZ) tt A s H locs [(h_this, .inr (6, [.int n_this_textSize, .ref h_this_text, .int n_this_size, .ref h_this_result, .int n_this_rowSize, .ref h_this_row, .ref h_this_other, .int n_this_count, .ref h_this_starts, .ref h_this_sizes, .ref h_this_rules, .ref h_this_tagged, .int n_this_poolSize, .ref h_this_pool, .int n_this_whole, .ref h_this_placed, .int n_this_bias])), (h_this_text, .inl (cI, 48, .inl f_this_text)), (h_this_result, .inl (cI, 2000, .inl f_this_result)), (h_this_row, .inl (cI, 200, .inl f_this_row)), (h_this_other, .inl (cI, 200, .inl f_this_other)), (h_this_starts, .inl (cI, 50, .inl f_this_starts)), (h_this_sizes, .inl (cI, 50, .inl f_this_sizes)), (h_this_rules, .inl (cI, 50, .inl f_this_rules)), (h_this_tagged, .inl (cZ, 50, .inl f_this_tagged)), (h_this_pool, .inl (cI, 300, .inl f_this_pool)), (h_this_placed, .inl (cZ, 200, .inl f_this_placed))] → lv_has ls 2 [(0, .ref h_this), (1, .int v1)] → fl6 (P_Mod_cut_26 n_this_rowSize f_this_row) kf v1 n_this_count n_this_poolSize f_this_starts f_this_sizes f_this_pool = some o → W p l e rm_Mod_cut s m args below meth c H locs 0 0 Q (F0 m 26 ls []) := by
    intro kf
    induction kf with
    | zero => intro v1 n_this_count n_this_poolSize f_this_starts f_this_sizes f_this_pool H locs ls hE hl h; exact no_s h
    | succ kf ih =>
      intro v1 n_this_count n_this_poolSize f_this_starts f_this_sizes f_this_pool H locs ls hE hl h
      have h : P_Mod_cut_26 n_this_rowSize f_this_row (fl6 (P_Mod_cut_26 n_this_rowSize f_this_row) kf) v1 n_this_count n_this_poolSize f_this_starts f_this_sizes f_this_pool = some o := h
      generalize fl6 (P_Mod_cut_26 n_this_rowSize f_this_row) kf = k26 at ih h
      have hk26 := ih
      unfold P_Mod_cut_26 at h
      refine lv_iload_n hx hb d_Mod_cut_26 rfl (lv_at hl 1 rfl) ?_
      refine lv_aload_n hx hb d_Mod_cut_27 rfl (lv_at hl 0 rfl) ?_
      refine hn_get S hE kc_Mod 0 rfl rfl 4 (by decide) mw_490 rfl d_Mod_cut_28 ?_
      refine lv_icmp_ge (tgt := 132) hx hb d_Mod_cut_31 (by decide) (fun hc => ?_) (fun hc => ?_)
      · have h := ite_t hc h
        refine lv_aload_n hx hb d_Mod_cut_132 rfl (lv_at hl 0 rfl) ?_
        refine lv_dup hx hb d_Mod_cut_133 rfl ?_
        refine hn_get S hE kc_Mod 0 rfl rfl 7 (by decide) mw_493 rfl d_Mod_cut_134 ?_
        refine lv_iconst (v := 1) hx hb d_Mod_cut_137 (by decide) ?_
        refine lv_iadd hx hb d_Mod_cut_138 ?_
        refine hn_put (tv := .int) S hE kc_Mod t_Mod_ok n_Mod 0 rfl rfl 7 (by decide) mw_493 rfl (by decide +kernel) rfl rfl (Nat.le_of_ble_eq_true rfl) d_Mod_cut_139 (fun H locs hE => ?_)
        have hE : hn_E D (TY cI cZ) tt A s H locs [(h_this, .inr (6, [.int n_this_textSize, .ref h_this_text, .int n_this_size, .ref h_this_result, .int n_this_rowSize, .ref h_this_row, .ref h_this_other, .int (n_this_count + (1 : Int32)), .ref h_this_starts, .ref h_this_sizes, .ref h_this_rules, .ref h_this_tagged, .int n_this_poolSize, .ref h_this_pool, .int n_this_whole, .ref h_this_placed, .int n_this_bias])), (h_this_text, .inl (cI, 48, .inl f_this_text)), (h_this_result, .inl (cI, 2000, .inl f_this_result)), (h_this_row, .inl (cI, 200, .inl f_this_row)), (h_this_other, .inl (cI, 200, .inl f_this_other)), (h_this_starts, .inl (cI, 50, .inl f_this_starts)), (h_this_sizes, .inl (cI, 50, .inl f_this_sizes)), (h_this_rules, .inl (cI, 50, .inl f_this_rules)), (h_this_tagged, .inl (cZ, 50, .inl f_this_tagged)), (h_this_pool, .inl (cI, 300, .inl f_this_pool)), (h_this_placed, .inl (cZ, 200, .inl f_this_placed))] := hE
        obtain rfl := Option.some.inj h
        exact hret H locs ls 142 d_Mod_cut_142 hE
      · have h := ite_f hc h
        refine lv_aload_n hx hb d_Mod_cut_34 rfl (lv_at hl 0 rfl) ?_
        refine hn_get S hE kc_Mod 0 rfl rfl 5 (by decide) mw_491 rfl d_Mod_cut_35 ?_
        refine lv_iload_n hx hb d_Mod_cut_38 rfl (lv_at hl 1 rfl) ?_
        obtain ⟨hi39, h⟩ := gi_s h
        refine hn_iald S hE 3 0 rfl rfl hi39 d_Mod_cut_39 ?_
        refine lv_bipush (v := 46) hx hb d_Mod_cut_40 (by decide) ?_
        refine lv_icmp_ne (tgt := 81) hx hb d_Mod_cut_42 (by decide) (fun hc => ?_) (fun hc => ?_)
        · have h := ite_f hc h
          refine lv_aload_n hx hb d_Mod_cut_81 rfl (lv_at hl 0 rfl) ?_
          refine hn_get S hE kc_Mod 0 rfl rfl 13 (by decide) mw_499 rfl d_Mod_cut_82 ?_
          refine lv_aload_n hx hb d_Mod_cut_85 rfl (lv_at hl 0 rfl) ?_
          refine hn_get S hE kc_Mod 0 rfl rfl 12 (by decide) mw_498 rfl d_Mod_cut_86 ?_
          refine lv_aload_n hx hb d_Mod_cut_89 rfl (lv_at hl 0 rfl) ?_
          refine hn_get S hE kc_Mod 0 rfl rfl 5 (by decide) mw_491 rfl d_Mod_cut_90 ?_
          refine lv_iload_n hx hb d_Mod_cut_93 rfl (lv_at hl 1 rfl) ?_
          obtain ⟨hi94, h⟩ := gi_s h
          refine hn_iald S hE 3 0 rfl rfl hi94 d_Mod_cut_94 ?_
          obtain ⟨hi95, h⟩ := gi_s h
          refine hn_iast S hE 9 0 rfl rfl hi95 d_Mod_cut_95 (fun H locs hE => ?_)
          have hE : hn_E D (TY cI cZ) tt A s H locs [(h_this, .inr (6, [.int n_this_textSize, .ref h_this_text, .int n_this_size, .ref h_this_result, .int n_this_rowSize, .ref h_this_row, .ref h_this_other, .int n_this_count, .ref h_this_starts, .ref h_this_sizes, .ref h_this_rules, .ref h_this_tagged, .int n_this_poolSize, .ref h_this_pool, .int n_this_whole, .ref h_this_placed, .int n_this_bias])), (h_this_text, .inl (cI, 48, .inl f_this_text)), (h_this_result, .inl (cI, 2000, .inl f_this_result)), (h_this_row, .inl (cI, 200, .inl f_this_row)), (h_this_other, .inl (cI, 200, .inl f_this_other)), (h_this_starts, .inl (cI, 50, .inl f_this_starts)), (h_this_sizes, .inl (cI, 50, .inl f_this_sizes)), (h_this_rules, .inl (cI, 50, .inl f_this_rules)), (h_this_tagged, .inl (cZ, 50, .inl f_this_tagged)), (h_this_pool, .inl (cI, 300, .inl (upd f_this_pool (n_this_poolSize).toNatClampNeg (f_this_row (v1).toNatClampNeg)))), (h_this_placed, .inl (cZ, 200, .inl f_this_placed))] := hE
          refine lv_aload_n hx hb d_Mod_cut_96 rfl (lv_at hl 0 rfl) ?_
          refine lv_dup hx hb d_Mod_cut_97 rfl ?_
          refine hn_get S hE kc_Mod 0 rfl rfl 12 (by decide) mw_498 rfl d_Mod_cut_98 ?_
          refine lv_iconst (v := 1) hx hb d_Mod_cut_101 (by decide) ?_
          refine lv_iadd hx hb d_Mod_cut_102 ?_
          refine hn_put (tv := .int) S hE kc_Mod t_Mod_ok n_Mod 0 rfl rfl 12 (by decide) mw_498 rfl (by decide +kernel) rfl rfl (Nat.le_of_ble_eq_true rfl) d_Mod_cut_103 (fun H locs hE => ?_)
          have hE : hn_E D (TY cI cZ) tt A s H locs [(h_this, .inr (6, [.int n_this_textSize, .ref h_this_text, .int n_this_size, .ref h_this_result, .int n_this_rowSize, .ref h_this_row, .ref h_this_other, .int n_this_count, .ref h_this_starts, .ref h_this_sizes, .ref h_this_rules, .ref h_this_tagged, .int (n_this_poolSize + (1 : Int32)), .ref h_this_pool, .int n_this_whole, .ref h_this_placed, .int n_this_bias])), (h_this_text, .inl (cI, 48, .inl f_this_text)), (h_this_result, .inl (cI, 2000, .inl f_this_result)), (h_this_row, .inl (cI, 200, .inl f_this_row)), (h_this_other, .inl (cI, 200, .inl f_this_other)), (h_this_starts, .inl (cI, 50, .inl f_this_starts)), (h_this_sizes, .inl (cI, 50, .inl f_this_sizes)), (h_this_rules, .inl (cI, 50, .inl f_this_rules)), (h_this_tagged, .inl (cZ, 50, .inl f_this_tagged)), (h_this_pool, .inl (cI, 300, .inl (upd f_this_pool (n_this_poolSize).toNatClampNeg (f_this_row (v1).toNatClampNeg)))), (h_this_placed, .inl (cZ, 200, .inl f_this_placed))] := hE
          refine lv_aload_n hx hb d_Mod_cut_106 rfl (lv_at hl 0 rfl) ?_
          refine hn_get S hE kc_Mod 0 rfl rfl 9 (by decide) mw_495 rfl d_Mod_cut_107 ?_
          refine lv_aload_n hx hb d_Mod_cut_110 rfl (lv_at hl 0 rfl) ?_
          refine hn_get S hE kc_Mod 0 rfl rfl 7 (by decide) mw_493 rfl d_Mod_cut_111 ?_
          refine lv_aload_n hx hb d_Mod_cut_114 rfl (lv_at hl 0 rfl) ?_
          refine hn_get S hE kc_Mod 0 rfl rfl 9 (by decide) mw_495 rfl d_Mod_cut_115 ?_
          refine lv_aload_n hx hb d_Mod_cut_118 rfl (lv_at hl 0 rfl) ?_
          refine hn_get S hE kc_Mod 0 rfl rfl 7 (by decide) mw_493 rfl d_Mod_cut_119 ?_
          obtain ⟨hi122, h⟩ := gi_s h
          refine hn_iald S hE 6 0 rfl rfl hi122 d_Mod_cut_122 ?_
          refine lv_iconst (v := 1) hx hb d_Mod_cut_123 (by decide) ?_
          refine lv_iadd hx hb d_Mod_cut_124 ?_
          obtain ⟨hi125, h⟩ := gi_s h
          refine hn_iast S hE 6 0 rfl rfl hi125 d_Mod_cut_125 (fun H locs hE => ?_)
          have hE : hn_E D (TY cI cZ) tt A s H locs [(h_this, .inr (6, [.int n_this_textSize, .ref h_this_text, .int n_this_size, .ref h_this_result, .int n_this_rowSize, .ref h_this_row, .ref h_this_other, .int n_this_count, .ref h_this_starts, .ref h_this_sizes, .ref h_this_rules, .ref h_this_tagged, .int (n_this_poolSize + (1 : Int32)), .ref h_this_pool, .int n_this_whole, .ref h_this_placed, .int n_this_bias])), (h_this_text, .inl (cI, 48, .inl f_this_text)), (h_this_result, .inl (cI, 2000, .inl f_this_result)), (h_this_row, .inl (cI, 200, .inl f_this_row)), (h_this_other, .inl (cI, 200, .inl f_this_other)), (h_this_starts, .inl (cI, 50, .inl f_this_starts)), (h_this_sizes, .inl (cI, 50, .inl (upd f_this_sizes (n_this_count).toNatClampNeg ((f_this_sizes (n_this_count).toNatClampNeg) + (1 : Int32))))), (h_this_rules, .inl (cI, 50, .inl f_this_rules)), (h_this_tagged, .inl (cZ, 50, .inl f_this_tagged)), (h_this_pool, .inl (cI, 300, .inl (upd f_this_pool (n_this_poolSize).toNatClampNeg (f_this_row (v1).toNatClampNeg)))), (h_this_placed, .inl (cZ, 200, .inl f_this_placed))] := hE
          refine lv_iinc (v := (v1 + (1 : Int32))) (lv' := [(1, .int (v1 + (1 : Int32))), (0, .ref h_this)]) hx hb d_Mod_cut_126 hl (k := 1) rfl rfl (by decide) rfl (fun ls hl => ?_)
          refine lv_goto (tgt := 26) hx hb d_Mod_cut_129 (by decide) ?_
          exact hk26 (v1 + (1 : Int32)) n_this_count (n_this_poolSize + (1 : Int32)) f_this_starts (upd f_this_sizes (n_this_count).toNatClampNeg ((f_this_sizes (n_this_count).toNatClampNeg) + (1 : Int32))) (upd f_this_pool (n_this_poolSize).toNatClampNeg (f_this_row (v1).toNatClampNeg)) H locs ls hE (lv_sub hl [1, 0] rfl) h
        · have h := ite_t hc h
          refine lv_aload_n hx hb d_Mod_cut_45 rfl (lv_at hl 0 rfl) ?_
          refine lv_dup hx hb d_Mod_cut_46 rfl ?_
          refine hn_get S hE kc_Mod 0 rfl rfl 7 (by decide) mw_493 rfl d_Mod_cut_47 ?_
          refine lv_iconst (v := 1) hx hb d_Mod_cut_50 (by decide) ?_
          refine lv_iadd hx hb d_Mod_cut_51 ?_
          refine hn_put (tv := .int) S hE kc_Mod t_Mod_ok n_Mod 0 rfl rfl 7 (by decide) mw_493 rfl (by decide +kernel) rfl rfl (Nat.le_of_ble_eq_true rfl) d_Mod_cut_52 (fun H locs hE => ?_)
          have hE : hn_E D (TY cI cZ) tt A s H locs [(h_this, .inr (6, [.int n_this_textSize, .ref h_this_text, .int n_this_size, .ref h_this_result, .int n_this_rowSize, .ref h_this_row, .ref h_this_other, .int (n_this_count + (1 : Int32)), .ref h_this_starts, .ref h_this_sizes, .ref h_this_rules, .ref h_this_tagged, .int n_this_poolSize, .ref h_this_pool, .int n_this_whole, .ref h_this_placed, .int n_this_bias])), (h_this_text, .inl (cI, 48, .inl f_this_text)), (h_this_result, .inl (cI, 2000, .inl f_this_result)), (h_this_row, .inl (cI, 200, .inl f_this_row)), (h_this_other, .inl (cI, 200, .inl f_this_other)), (h_this_starts, .inl (cI, 50, .inl f_this_starts)), (h_this_sizes, .inl (cI, 50, .inl f_this_sizes)), (h_this_rules, .inl (cI, 50, .inl f_this_rules)), (h_this_tagged, .inl (cZ, 50, .inl f_this_tagged)), (h_this_pool, .inl (cI, 300, .inl f_this_pool)), (h_this_placed, .inl (cZ, 200, .inl f_this_placed))] := hE
          refine lv_aload_n hx hb d_Mod_cut_55 rfl (lv_at hl 0 rfl) ?_
          refine hn_get S hE kc_Mod 0 rfl rfl 8 (by decide) mw_494 rfl d_Mod_cut_56 ?_
          refine lv_aload_n hx hb d_Mod_cut_59 rfl (lv_at hl 0 rfl) ?_
          refine hn_get S hE kc_Mod 0 rfl rfl 7 (by decide) mw_493 rfl d_Mod_cut_60 ?_
          refine lv_aload_n hx hb d_Mod_cut_63 rfl (lv_at hl 0 rfl) ?_
          refine hn_get S hE kc_Mod 0 rfl rfl 12 (by decide) mw_498 rfl d_Mod_cut_64 ?_
          obtain ⟨hi67, h⟩ := gi_s h
          refine hn_iast S hE 5 0 rfl rfl hi67 d_Mod_cut_67 (fun H locs hE => ?_)
          have hE : hn_E D (TY cI cZ) tt A s H locs [(h_this, .inr (6, [.int n_this_textSize, .ref h_this_text, .int n_this_size, .ref h_this_result, .int n_this_rowSize, .ref h_this_row, .ref h_this_other, .int (n_this_count + (1 : Int32)), .ref h_this_starts, .ref h_this_sizes, .ref h_this_rules, .ref h_this_tagged, .int n_this_poolSize, .ref h_this_pool, .int n_this_whole, .ref h_this_placed, .int n_this_bias])), (h_this_text, .inl (cI, 48, .inl f_this_text)), (h_this_result, .inl (cI, 2000, .inl f_this_result)), (h_this_row, .inl (cI, 200, .inl f_this_row)), (h_this_other, .inl (cI, 200, .inl f_this_other)), (h_this_starts, .inl (cI, 50, .inl (upd f_this_starts ((n_this_count + (1 : Int32))).toNatClampNeg n_this_poolSize))), (h_this_sizes, .inl (cI, 50, .inl f_this_sizes)), (h_this_rules, .inl (cI, 50, .inl f_this_rules)), (h_this_tagged, .inl (cZ, 50, .inl f_this_tagged)), (h_this_pool, .inl (cI, 300, .inl f_this_pool)), (h_this_placed, .inl (cZ, 200, .inl f_this_placed))] := hE
          refine lv_aload_n hx hb d_Mod_cut_68 rfl (lv_at hl 0 rfl) ?_
          refine hn_get S hE kc_Mod 0 rfl rfl 9 (by decide) mw_495 rfl d_Mod_cut_69 ?_
          refine lv_aload_n hx hb d_Mod_cut_72 rfl (lv_at hl 0 rfl) ?_
          refine hn_get S hE kc_Mod 0 rfl rfl 7 (by decide) mw_493 rfl d_Mod_cut_73 ?_
          refine lv_iconst (v := 0) hx hb d_Mod_cut_76 (by decide) ?_
          obtain ⟨hi77, h⟩ := gi_s h
          refine hn_iast S hE 6 0 rfl rfl hi77 d_Mod_cut_77 (fun H locs hE => ?_)
          have hE : hn_E D (TY cI cZ) tt A s H locs [(h_this, .inr (6, [.int n_this_textSize, .ref h_this_text, .int n_this_size, .ref h_this_result, .int n_this_rowSize, .ref h_this_row, .ref h_this_other, .int (n_this_count + (1 : Int32)), .ref h_this_starts, .ref h_this_sizes, .ref h_this_rules, .ref h_this_tagged, .int n_this_poolSize, .ref h_this_pool, .int n_this_whole, .ref h_this_placed, .int n_this_bias])), (h_this_text, .inl (cI, 48, .inl f_this_text)), (h_this_result, .inl (cI, 2000, .inl f_this_result)), (h_this_row, .inl (cI, 200, .inl f_this_row)), (h_this_other, .inl (cI, 200, .inl f_this_other)), (h_this_starts, .inl (cI, 50, .inl (upd f_this_starts ((n_this_count + (1 : Int32))).toNatClampNeg n_this_poolSize))), (h_this_sizes, .inl (cI, 50, .inl (upd f_this_sizes ((n_this_count + (1 : Int32))).toNatClampNeg (0 : Int32)))), (h_this_rules, .inl (cI, 50, .inl f_this_rules)), (h_this_tagged, .inl (cZ, 50, .inl f_this_tagged)), (h_this_pool, .inl (cI, 300, .inl f_this_pool)), (h_this_placed, .inl (cZ, 200, .inl f_this_placed))] := hE
          refine lv_goto (tgt := 126) hx hb d_Mod_cut_78 (by decide) ?_
          refine lv_iinc (v := (v1 + (1 : Int32))) (lv' := [(1, .int (v1 + (1 : Int32))), (0, .ref h_this)]) hx hb d_Mod_cut_126 hl (k := 1) rfl rfl (by decide) rfl (fun ls hl => ?_)
          refine lv_goto (tgt := 26) hx hb d_Mod_cut_129 (by decide) ?_
          exact hk26 (v1 + (1 : Int32)) (n_this_count + (1 : Int32)) n_this_poolSize (upd f_this_starts ((n_this_count + (1 : Int32))).toNatClampNeg n_this_poolSize) (upd f_this_sizes ((n_this_count + (1 : Int32))).toNatClampNeg (0 : Int32)) f_this_pool H locs ls hE (lv_sub hl [1, 0] rfl) h
  unfold P_Mod_cut at h
  refine lv_aload_n hx hb d_Mod_cut_0 rfl (lv_at hl 0 rfl) ?_
  refine lv_iconst (v := 0) hx hb d_Mod_cut_1 (by decide) ?_
  refine hn_put (tv := .int) S hE kc_Mod t_Mod_ok n_Mod 0 rfl rfl 7 (by decide) mw_493 rfl (by decide +kernel) rfl rfl (Nat.le_of_ble_eq_true rfl) d_Mod_cut_2 (fun H locs hE => ?_)
  have hE : hn_E D (TY cI cZ) tt A s H locs [(h_this, .inr (6, [.int n_this_textSize, .ref h_this_text, .int n_this_size, .ref h_this_result, .int n_this_rowSize, .ref h_this_row, .ref h_this_other, .int (0 : Int32), .ref h_this_starts, .ref h_this_sizes, .ref h_this_rules, .ref h_this_tagged, .int n_this_poolSize, .ref h_this_pool, .int n_this_whole, .ref h_this_placed, .int n_this_bias])), (h_this_text, .inl (cI, 48, .inl f_this_text)), (h_this_result, .inl (cI, 2000, .inl f_this_result)), (h_this_row, .inl (cI, 200, .inl f_this_row)), (h_this_other, .inl (cI, 200, .inl f_this_other)), (h_this_starts, .inl (cI, 50, .inl f_this_starts)), (h_this_sizes, .inl (cI, 50, .inl f_this_sizes)), (h_this_rules, .inl (cI, 50, .inl f_this_rules)), (h_this_tagged, .inl (cZ, 50, .inl f_this_tagged)), (h_this_pool, .inl (cI, 300, .inl f_this_pool)), (h_this_placed, .inl (cZ, 200, .inl f_this_placed))] := hE
  refine lv_aload_n hx hb d_Mod_cut_5 rfl (lv_at hl 0 rfl) ?_
  refine lv_iconst (v := 0) hx hb d_Mod_cut_6 (by decide) ?_
  refine hn_put (tv := .int) S hE kc_Mod t_Mod_ok n_Mod 0 rfl rfl 12 (by decide) mw_498 rfl (by decide +kernel) rfl rfl (Nat.le_of_ble_eq_true rfl) d_Mod_cut_7 (fun H locs hE => ?_)
  have hE : hn_E D (TY cI cZ) tt A s H locs [(h_this, .inr (6, [.int n_this_textSize, .ref h_this_text, .int n_this_size, .ref h_this_result, .int n_this_rowSize, .ref h_this_row, .ref h_this_other, .int (0 : Int32), .ref h_this_starts, .ref h_this_sizes, .ref h_this_rules, .ref h_this_tagged, .int (0 : Int32), .ref h_this_pool, .int n_this_whole, .ref h_this_placed, .int n_this_bias])), (h_this_text, .inl (cI, 48, .inl f_this_text)), (h_this_result, .inl (cI, 2000, .inl f_this_result)), (h_this_row, .inl (cI, 200, .inl f_this_row)), (h_this_other, .inl (cI, 200, .inl f_this_other)), (h_this_starts, .inl (cI, 50, .inl f_this_starts)), (h_this_sizes, .inl (cI, 50, .inl f_this_sizes)), (h_this_rules, .inl (cI, 50, .inl f_this_rules)), (h_this_tagged, .inl (cZ, 50, .inl f_this_tagged)), (h_this_pool, .inl (cI, 300, .inl f_this_pool)), (h_this_placed, .inl (cZ, 200, .inl f_this_placed))] := hE
  refine lv_aload_n hx hb d_Mod_cut_10 rfl (lv_at hl 0 rfl) ?_
  refine hn_get S hE kc_Mod 0 rfl rfl 8 (by decide) mw_494 rfl d_Mod_cut_11 ?_
  refine lv_iconst (v := 0) hx hb d_Mod_cut_14 (by decide) ?_
  refine lv_iconst (v := 0) hx hb d_Mod_cut_15 (by decide) ?_
  obtain ⟨hi16, h⟩ := gi_s h
  refine hn_iast S hE 5 0 rfl rfl hi16 d_Mod_cut_16 (fun H locs hE => ?_)
  have hE : hn_E D (TY cI cZ) tt A s H locs [(h_this, .inr (6, [.int n_this_textSize, .ref h_this_text, .int n_this_size, .ref h_this_result, .int n_this_rowSize, .ref h_this_row, .ref h_this_other, .int (0 : Int32), .ref h_this_starts, .ref h_this_sizes, .ref h_this_rules, .ref h_this_tagged, .int (0 : Int32), .ref h_this_pool, .int n_this_whole, .ref h_this_placed, .int n_this_bias])), (h_this_text, .inl (cI, 48, .inl f_this_text)), (h_this_result, .inl (cI, 2000, .inl f_this_result)), (h_this_row, .inl (cI, 200, .inl f_this_row)), (h_this_other, .inl (cI, 200, .inl f_this_other)), (h_this_starts, .inl (cI, 50, .inl (upd f_this_starts ((0 : Int32)).toNatClampNeg (0 : Int32)))), (h_this_sizes, .inl (cI, 50, .inl f_this_sizes)), (h_this_rules, .inl (cI, 50, .inl f_this_rules)), (h_this_tagged, .inl (cZ, 50, .inl f_this_tagged)), (h_this_pool, .inl (cI, 300, .inl f_this_pool)), (h_this_placed, .inl (cZ, 200, .inl f_this_placed))] := hE
  refine lv_aload_n hx hb d_Mod_cut_17 rfl (lv_at hl 0 rfl) ?_
  refine hn_get S hE kc_Mod 0 rfl rfl 9 (by decide) mw_495 rfl d_Mod_cut_18 ?_
  refine lv_iconst (v := 0) hx hb d_Mod_cut_21 (by decide) ?_
  refine lv_iconst (v := 0) hx hb d_Mod_cut_22 (by decide) ?_
  obtain ⟨hi23, h⟩ := gi_s h
  refine hn_iast S hE 6 0 rfl rfl hi23 d_Mod_cut_23 (fun H locs hE => ?_)
  have hE : hn_E D (TY cI cZ) tt A s H locs [(h_this, .inr (6, [.int n_this_textSize, .ref h_this_text, .int n_this_size, .ref h_this_result, .int n_this_rowSize, .ref h_this_row, .ref h_this_other, .int (0 : Int32), .ref h_this_starts, .ref h_this_sizes, .ref h_this_rules, .ref h_this_tagged, .int (0 : Int32), .ref h_this_pool, .int n_this_whole, .ref h_this_placed, .int n_this_bias])), (h_this_text, .inl (cI, 48, .inl f_this_text)), (h_this_result, .inl (cI, 2000, .inl f_this_result)), (h_this_row, .inl (cI, 200, .inl f_this_row)), (h_this_other, .inl (cI, 200, .inl f_this_other)), (h_this_starts, .inl (cI, 50, .inl (upd f_this_starts ((0 : Int32)).toNatClampNeg (0 : Int32)))), (h_this_sizes, .inl (cI, 50, .inl (upd f_this_sizes ((0 : Int32)).toNatClampNeg (0 : Int32)))), (h_this_rules, .inl (cI, 50, .inl f_this_rules)), (h_this_tagged, .inl (cZ, 50, .inl f_this_tagged)), (h_this_pool, .inl (cI, 300, .inl f_this_pool)), (h_this_placed, .inl (cZ, 200, .inl f_this_placed))] := hE
  refine lv_iconst (v := 0) hx hb d_Mod_cut_24 (by decide) ?_
  refine lv_istore_n (lv' := [(1, .int (0 : Int32)), (0, .ref h_this)]) hx hb d_Mod_cut_25 rfl hl (by decide) rfl (fun ls hl => ?_)
  exact hL26 fu (0 : Int32) (0 : Int32) (0 : Int32) (upd f_this_starts ((0 : Int32)).toNatClampNeg (0 : Int32)) (upd f_this_sizes ((0 : Int32)).toNatClampNeg (0 : Int32)) f_this_pool H locs ls hE (lv_sub hl [1, 0] rfl) h
abbrev rm_Mod_open : Room := { frames := 3, cells := 0, slots := 0, locals := 78 }
theorem cf_Mod_open : hn_CF y_Mod_open b_Mod_open 5 none 1 := ⟨mw_614, mw_7, by decide, by decide, by decide +kernel⟩
set_option maxHeartbeats 4000000 in
set_option maxRecDepth 100000 in
theorem c_Mod_open (l : Launch) (D : va_G) (cI cZ : ClassId) (tt : Nat → Nat) (h_this h_this_text h_this_result h_this_row h_this_other h_this_starts h_this_sizes h_this_rules h_this_tagged h_this_pool h_this_placed : Nat) (sz : Nat) (n_this_textSize : Int32) (n_this_size : Int32) (n_this_rowSize : Int32) (n_this_count : Int32) (n_this_poolSize : Int32) (n_this_whole : Int32) (n_this_bias : Int32) (f_this_text : Nat → Int32) (f_this_result : Nat → Int32) (f_this_row : Nat → Int32) (f_this_other : Nat → Int32) (f_this_starts : Nat → Int32) (f_this_sizes : Nat → Int32) (f_this_rules : Nat → Int32) (f_this_tagged : Nat → Int32) (f_this_pool : Nat → Int32) (f_this_placed : Nat → Int32) (a1 : Int32) (o : Int32 × Int32 × Int32 × (Nat → Int32) × (Nat → Int32) × (Nat → Int32) × (Nat → Int32) × (Nat → Int32) × (Nat → Int32) × (Nat → Int32)) (h : P_Mod_open n_this_poolSize n_this_bias f_this_row f_this_other f_this_starts f_this_sizes f_this_rules f_this_tagged f_this_pool a1 = some o) : Met l y_Mod_open (hn_w y_Mod_open b_Mod_open 5 none) rm_Mod_open (hn_Pc D (TY cI cZ) tt [.ref h_this, .int a1] sz [(h_this, .inr (6, [.int n_this_textSize, .ref h_this_text, .int n_this_size, .ref h_this_result, .int n_this_rowSize, .ref h_this_row, .ref h_this_other, .int n_this_count, .ref h_this_starts, .ref h_this_sizes, .ref h_this_rules, .ref h_this_tagged, .int n_this_poolSize, .ref h_this_pool, .int n_this_whole, .ref h_this_placed, .int n_this_bias])), (h_this_text, .inl (cI, 48, .inl f_this_text)), (h_this_result, .inl (cI, 2000, .inl f_this_result)), (h_this_row, .inl (cI, 200, .inl f_this_row)), (h_this_other, .inl (cI, 200, .inl f_this_other)), (h_this_starts, .inl (cI, 50, .inl f_this_starts)), (h_this_sizes, .inl (cI, 50, .inl f_this_sizes)), (h_this_rules, .inl (cI, 50, .inl f_this_rules)), (h_this_tagged, .inl (cZ, 50, .inl f_this_tagged)), (h_this_pool, .inl (cI, 300, .inl f_this_pool)), (h_this_placed, .inl (cZ, 200, .inl f_this_placed))]) (hn_Qv D [(h_this, .inr (6, [.int n_this_textSize, .ref h_this_text, .int n_this_size, .ref h_this_result, .int n_this_rowSize, .ref h_this_row, .ref h_this_other, .int n_this_count, .ref h_this_starts, .ref h_this_sizes, .ref h_this_rules, .ref h_this_tagged, .int n_this_poolSize, .ref h_this_pool, .int n_this_whole, .ref h_this_placed, .int n_this_bias])), (h_this_text, .inl (cI, 48, .inl f_this_text)), (h_this_result, .inl (cI, 2000, .inl f_this_result)), (h_this_row, .inl (cI, 200, .inl f_this_row)), (h_this_other, .inl (cI, 200, .inl f_this_other)), (h_this_starts, .inl (cI, 50, .inl f_this_starts)), (h_this_sizes, .inl (cI, 50, .inl f_this_sizes)), (h_this_rules, .inl (cI, 50, .inl f_this_rules)), (h_this_tagged, .inl (cZ, 50, .inl f_this_tagged)), (h_this_pool, .inl (cI, 300, .inl f_this_pool)), (h_this_placed, .inl (cZ, 200, .inl f_this_placed))] sz [(h_this, .inr (6, [.int n_this_textSize, .ref h_this_text, .int n_this_size, .ref h_this_result, .int o.1, .ref h_this_row, .ref h_this_other, .int n_this_count, .ref h_this_starts, .ref h_this_sizes, .ref h_this_rules, .ref h_this_tagged, .int o.2.1, .ref h_this_pool, .int n_this_whole, .ref h_this_placed, .int o.2.2.1])), (h_this_text, .inl (cI, 48, .inl f_this_text)), (h_this_result, .inl (cI, 2000, .inl f_this_result)), (h_this_row, .inl (cI, 200, .inl o.2.2.2.1)), (h_this_other, .inl (cI, 200, .inl o.2.2.2.2.1)), (h_this_starts, .inl (cI, 50, .inl o.2.2.2.2.2.1)), (h_this_sizes, .inl (cI, 50, .inl o.2.2.2.2.2.2.1)), (h_this_rules, .inl (cI, 50, .inl o.2.2.2.2.2.2.2.1)), (h_this_tagged, .inl (cZ, 50, .inl o.2.2.2.2.2.2.2.2.1)), (h_this_pool, .inl (cI, 300, .inl o.2.2.2.2.2.2.2.2.2)), (h_this_placed, .inl (cZ, 200, .inl f_this_placed))]) 0 0 (va_A [(h_this, .inr (6, [.int n_this_textSize, .ref h_this_text, .int n_this_size, .ref h_this_result, .int n_this_rowSize, .ref h_this_row, .ref h_this_other, .int n_this_count, .ref h_this_starts, .ref h_this_sizes, .ref h_this_rules, .ref h_this_tagged, .int n_this_poolSize, .ref h_this_pool, .int n_this_whole, .ref h_this_placed, .int n_this_bias])), (h_this_text, .inl (cI, 48, .inl f_this_text)), (h_this_result, .inl (cI, 2000, .inl f_this_result)), (h_this_row, .inl (cI, 200, .inl f_this_row)), (h_this_other, .inl (cI, 200, .inl f_this_other)), (h_this_starts, .inl (cI, 50, .inl f_this_starts)), (h_this_sizes, .inl (cI, 50, .inl f_this_sizes)), (h_this_rules, .inl (cI, 50, .inl f_this_rules)), (h_this_tagged, .inl (cZ, 50, .inl f_this_tagged)), (h_this_pool, .inl (cI, 300, .inl f_this_pool)), (h_this_placed, .inl (cZ, 200, .inl f_this_placed))] sz) := by
  refine hn_ofWv (own := R_Mod) (by decide) rfl (Nat.le_of_ble_eq_true rfl) ?_
  intro p e s m args below meth c A H locs ls Q S hE hl hret
  have hx := S.1
  have hb := S.2.1
  have hown := S.2.2.2.1
  have hl : lv_has ls 5 [(0, .ref h_this), (1, .int a1)] := hl
  have hj84 : ∀ (v2 : Int32) (v3 : Int32) (n_this_rowSize : Int32) (n_this_poolSize : Int32) (n_this_bias : Int32) (f_this_row : Nat → Int32) (f_this_other : Nat → Int32) (f_this_starts : Nat → Int32) (f_this_sizes : Nat → Int32) (f_this_rules : Nat → Int32) (f_this_tagged : Nat → Int32) (f_this_pool : Nat → Int32) (H : Heap) (locs : List Loc) (ls : Array Slot), hn_E D (TY cI cZ) tt A s H locs [(h_this, .inr (6, [.int n_this_textSize, .ref h_this_text, .int n_this_size, .ref h_this_result, .int n_this_rowSize, .ref h_this_row, .ref h_this_other, .int n_this_count, .ref h_this_starts, .ref h_this_sizes, .ref h_this_rules, .ref h_this_tagged, .int n_this_poolSize, .ref h_this_pool, .int n_this_whole, .ref h_this_placed, .int n_this_bias])), (h_this_text, .inl (cI, 48, .inl f_this_text)), (h_this_result, .inl (cI, 2000, .inl f_this_result)), (h_this_row, .inl (cI, 200, .inl f_this_row)), (h_this_other, .inl (cI, 200, .inl f_this_other)), (h_this_starts, .inl (cI, 50, .inl f_this_starts)), (h_this_sizes, .inl (cI, 50, .inl f_this_sizes)), (h_this_rules, .inl (cI, 50, .inl f_this_rules)), (h_this_tagged, .inl (cZ, 50, .inl f_this_tagged)), (h_this_pool, .inl (cI, 300, .inl f_this_pool)), (h_this_placed, .inl (cZ, 200, .inl f_this_placed))] → lv_has ls 5 [(0, .ref h_this), (1, .int a1), (2, .int v2), (3, .int v3)] → P_Mod_open_84 a1 v2 v3 n_this_rowSize n_this_poolSize n_this_bias f_this_row f_this_other f_this_starts f_this_sizes f_this_rules f_this_tagged f_this_pool = some o → W p l e rm_Mod_open s m args below meth c H locs 0 0 Q (F0 m 84 ls []) := by
    intro v2 v3 n_this_rowSize n_this_poolSize n_this_bias f_this_row f_this_other f_this_starts f_this_sizes f_this_rules f_this_tagged f_this_pool H locs ls hE hl h
    unfold P_Mod_open_84 at h
    refine lv_iload_n hx hb d_Mod_open_84 rfl (lv_at hl 2 rfl) ?_
    refine lv_if_eq (tgt := 100) hx hb d_Mod_open_85 (by decide) (fun hc => ?_) (fun hc => ?_)
    · have h := ite_t hc h
      refine lv_aload_n hx hb d_Mod_open_100 rfl (lv_at hl 0 rfl) ?_
      refine hn_get S hE kc_Mod 0 rfl rfl 10 (by decide) mw_496 rfl d_Mod_open_101 ?_
      refine lv_iload_n hx hb d_Mod_open_104 rfl (lv_at hl 1 rfl) ?_
      refine lv_iconst (v := 2) hx hb d_Mod_open_105 (by decide) ?_
      obtain ⟨hi106, h⟩ := gi_s h
      refine hn_iast S hE 7 0 rfl rfl hi106 d_Mod_open_106 (fun H locs hE => ?_)
      have hE : hn_E D (TY cI cZ) tt A s H locs [(h_this, .inr (6, [.int n_this_textSize, .ref h_this_text, .int n_this_size, .ref h_this_result, .int n_this_rowSize, .ref h_this_row, .ref h_this_other, .int n_this_count, .ref h_this_starts, .ref h_this_sizes, .ref h_this_rules, .ref h_this_tagged, .int n_this_poolSize, .ref h_this_pool, .int n_this_whole, .ref h_this_placed, .int n_this_bias])), (h_this_text, .inl (cI, 48, .inl f_this_text)), (h_this_result, .inl (cI, 2000, .inl f_this_result)), (h_this_row, .inl (cI, 200, .inl f_this_row)), (h_this_other, .inl (cI, 200, .inl f_this_other)), (h_this_starts, .inl (cI, 50, .inl f_this_starts)), (h_this_sizes, .inl (cI, 50, .inl f_this_sizes)), (h_this_rules, .inl (cI, 50, .inl (upd f_this_rules (a1).toNatClampNeg (2 : Int32)))), (h_this_tagged, .inl (cZ, 50, .inl f_this_tagged)), (h_this_pool, .inl (cI, 300, .inl f_this_pool)), (h_this_placed, .inl (cZ, 200, .inl f_this_placed))] := hE
      obtain rfl := Option.some.inj h
      exact hret H locs ls 107 d_Mod_open_107 hE
    · have h := ite_f hc h
      refine lv_iload_n hx hb d_Mod_open_88 rfl (lv_at hl 3 rfl) ?_
      refine lv_if_eq (tgt := 100) hx hb d_Mod_open_89 (by decide) (fun hc => ?_) (fun hc => ?_)
      · have h := ite_t hc h
        refine lv_aload_n hx hb d_Mod_open_100 rfl (lv_at hl 0 rfl) ?_
        refine hn_get S hE kc_Mod 0 rfl rfl 10 (by decide) mw_496 rfl d_Mod_open_101 ?_
        refine lv_iload_n hx hb d_Mod_open_104 rfl (lv_at hl 1 rfl) ?_
        refine lv_iconst (v := 2) hx hb d_Mod_open_105 (by decide) ?_
        obtain ⟨hi106, h⟩ := gi_s h
        refine hn_iast S hE 7 0 rfl rfl hi106 d_Mod_open_106 (fun H locs hE => ?_)
        have hE : hn_E D (TY cI cZ) tt A s H locs [(h_this, .inr (6, [.int n_this_textSize, .ref h_this_text, .int n_this_size, .ref h_this_result, .int n_this_rowSize, .ref h_this_row, .ref h_this_other, .int n_this_count, .ref h_this_starts, .ref h_this_sizes, .ref h_this_rules, .ref h_this_tagged, .int n_this_poolSize, .ref h_this_pool, .int n_this_whole, .ref h_this_placed, .int n_this_bias])), (h_this_text, .inl (cI, 48, .inl f_this_text)), (h_this_result, .inl (cI, 2000, .inl f_this_result)), (h_this_row, .inl (cI, 200, .inl f_this_row)), (h_this_other, .inl (cI, 200, .inl f_this_other)), (h_this_starts, .inl (cI, 50, .inl f_this_starts)), (h_this_sizes, .inl (cI, 50, .inl f_this_sizes)), (h_this_rules, .inl (cI, 50, .inl (upd f_this_rules (a1).toNatClampNeg (2 : Int32)))), (h_this_tagged, .inl (cZ, 50, .inl f_this_tagged)), (h_this_pool, .inl (cI, 300, .inl f_this_pool)), (h_this_placed, .inl (cZ, 200, .inl f_this_placed))] := hE
        obtain rfl := Option.some.inj h
        exact hret H locs ls 107 d_Mod_open_107 hE
      · have h := ite_f hc h
        refine lv_aload_n hx hb d_Mod_open_92 rfl (lv_at hl 0 rfl) ?_
        refine lv_iload_n hx hb d_Mod_open_93 rfl (lv_at hl 1 rfl) ?_
        obtain ⟨x94, hc94, h⟩ := bd_s h
        have hM := (c_Mod_keep l D cI cZ tt h_this h_this_text h_this_result h_this_row h_this_other h_this_starts h_this_sizes h_this_rules h_this_tagged h_this_pool h_this_placed H.size n_this_textSize n_this_size n_this_rowSize n_this_count n_this_poolSize n_this_whole n_this_bias f_this_text f_this_result f_this_row f_this_other f_this_starts f_this_sizes f_this_rules f_this_tagged f_this_pool f_this_placed a1 x94 hc94)
        refine hn_cv hE (hn_runV (As := [.int a1]) (rest := []) S hE hM cf_Mod_keep mw_641 mw_643 ms_29 ⟨rfl, rfl⟩ ⟨Nat.le_of_ble_eq_true rfl, Nat.le_of_ble_eq_true rfl⟩ [0, 1, 2, 3, 4, 5, 6, 7, 8, 9, 10] rfl rfl rfl rfl rfl rfl hl.1 (lv_room (Nat.le_of_ble_eq_true rfl)) d_Mod_open_94 ⟨Nat.zero_le _, Nat.zero_le _⟩) [0, 1, 2, 3, 4, 5, 6, 7, 8, 9, 10] rfl rfl (fun H locs hE => ?_)
        have hE : hn_E D (TY cI cZ) tt A s H locs [(h_this, .inr (6, [.int n_this_textSize, .ref h_this_text, .int n_this_size, .ref h_this_result, .int n_this_rowSize, .ref h_this_row, .ref h_this_other, .int n_this_count, .ref h_this_starts, .ref h_this_sizes, .ref h_this_rules, .ref h_this_tagged, .int x94.1, .ref h_this_pool, .int n_this_whole, .ref h_this_placed, .int n_this_bias])), (h_this_text, .inl (cI, 48, .inl f_this_text)), (h_this_result, .inl (cI, 2000, .inl f_this_result)), (h_this_row, .inl (cI, 200, .inl f_this_row)), (h_this_other, .inl (cI, 200, .inl f_this_other)), (h_this_starts, .inl (cI, 50, .inl x94.2.1)), (h_this_sizes, .inl (cI, 50, .inl x94.2.2.1)), (h_this_rules, .inl (cI, 50, .inl f_this_rules)), (h_this_tagged, .inl (cZ, 50, .inl f_this_tagged)), (h_this_pool, .inl (cI, 300, .inl x94.2.2.2)), (h_this_placed, .inl (cZ, 200, .inl f_this_placed))] := hE
        refine lv_goto (tgt := 107) hx hb d_Mod_open_97 (by decide) ?_
        obtain rfl := Option.some.inj h
        exact hret H locs ls 107 d_Mod_open_107 hE
  have hL43 : ∀ (v2 : Int32) (n_this_rowSize : Int32) (n_this_poolSize : Int32) (n_this_bias : Int32) (f_this_row : Nat → Int32) (f_this_other : Nat → Int32) (f_this_starts : Nat → Int32) (f_this_sizes : Nat → Int32) (f_this_rules : Nat → Int32) (f_this_tagged : Nat → Int32) (f_this_pool : Nat → Int32) (kf : Nat) (v3 : Int32) (v4 : Int32) (H : Heap) (locs : List Loc) (ls : Array Slot), hn_E D (TY cI cZ) tt A s H locs [(h_this, .inr (6, [.int n_this_textSize, .ref h_this_text, .int n_this_size, .ref h_this_result, .int n_this_rowSize, .ref h_this_row, .ref h_this_other, .int n_this_count, .ref h_this_starts, .ref h_this_sizes, .ref h_this_rules, .ref h_this_tagged, .int n_this_poolSize, .ref h_this_pool, .int n_this_whole, .ref h_this_placed, .int n_this_bias])), (h_this_text, .inl (cI, 48, .inl f_this_text)), (h_this_result, .inl (cI, 2000, .inl f_this_result)), (h_this_row, .inl (cI, 200, .inl f_this_row)), (h_this_other, .inl (cI, 200, .inl f_this_other)), (h_this_starts, .inl (cI, 50, .inl f_this_starts)), (h_this_sizes, .inl (cI, 50, .inl f_this_sizes)), (h_this_rules, .inl (cI, 50, .inl f_this_rules)), (h_this_tagged, .inl (cZ, 50, .inl f_this_tagged)), (h_this_pool, .inl (cI, 300, .inl f_this_pool)), (h_this_placed, .inl (cZ, 200, .inl f_this_placed))] → lv_has ls 5 [(0, .ref h_this), (1, .int a1), (2, .int v2), (3, .int v3), (4, .int v4)] → fl2 (P_Mod_open_43 a1 v2 n_this_rowSize n_this_poolSize n_this_bias f_this_row f_this_other f_this_starts f_this_sizes f_this_rules f_this_tagged f_this_pool) kf v3 v4 = some o → W p l e rm_Mod_open s m args below meth c H locs 0 0 Q (F0 m 43 ls []) := by
    intro v2 n_this_rowSize n_this_poolSize n_this_bias f_this_row f_this_other f_this_starts f_this_sizes f_this_rules f_this_tagged f_this_pool kf
    induction kf with
    | zero => intro v3 v4 H locs ls hE hl h; exact no_s h
    | succ kf ih =>
      intro v3 v4 H locs ls hE hl h
      have h : P_Mod_open_43 a1 v2 n_this_rowSize n_this_poolSize n_this_bias f_this_row f_this_other f_this_starts f_this_sizes f_this_rules f_this_tagged f_this_pool (fl2 (P_Mod_open_43 a1 v2 n_this_rowSize n_this_poolSize n_this_bias f_this_row f_this_other f_this_starts f_this_sizes f_this_rules f_this_tagged f_this_pool) kf) v3 v4 = some o := h
      generalize fl2 (P_Mod_open_43 a1 v2 n_this_rowSize n_this_poolSize n_this_bias f_this_row f_this_other f_this_starts f_this_sizes f_this_rules f_this_tagged f_this_pool) kf = k43 at ih h
      have hk43 := ih
      unfold P_Mod_open_43 at h
      refine lv_iload hx hb d_Mod_open_43 (lv_at hl 4 rfl) ?_
      refine lv_aload_n hx hb d_Mod_open_45 rfl (lv_at hl 0 rfl) ?_
      refine hn_get S hE kc_Mod 0 rfl rfl 4 (by decide) mw_490 rfl d_Mod_open_46 ?_
      refine lv_icmp_ge (tgt := 84) hx hb d_Mod_open_49 (by decide) (fun hc => ?_) (fun hc => ?_)
      · have h := ite_t hc h
        exact hj84 v2 v3 n_this_rowSize n_this_poolSize n_this_bias f_this_row f_this_other f_this_starts f_this_sizes f_this_rules f_this_tagged f_this_pool H locs ls hE (lv_sub hl [0, 1, 2, 3] rfl) h
      · have h := ite_f hc h
        refine lv_iload_n hx hb d_Mod_open_52 rfl (lv_at hl 2 rfl) ?_
        refine lv_if_eq (tgt := 84) hx hb d_Mod_open_53 (by decide) (fun hc => ?_) (fun hc => ?_)
        · have h := ite_t hc h
          exact hj84 v2 v3 n_this_rowSize n_this_poolSize n_this_bias f_this_row f_this_other f_this_starts f_this_sizes f_this_rules f_this_tagged f_this_pool H locs ls hE (lv_sub hl [0, 1, 2, 3] rfl) h
        · have h := ite_f hc h
          refine lv_iload_n hx hb d_Mod_open_56 rfl (lv_at hl 3 rfl) ?_
          refine lv_if_ne (tgt := 72) hx hb d_Mod_open_57 (by decide) (fun hc => ?_) (fun hc => ?_)
          · have h := ite_f hc h
            refine lv_iconst (v := 1) hx hb d_Mod_open_72 (by decide) ?_
            refine lv_goto (tgt := 77) hx hb d_Mod_open_73 (by decide) ?_
            refine lv_istore_n (lv' := [(3, .int (1 : Int32)), (0, .ref h_this), (1, .int a1), (2, .int v2), (4, .int v4)]) hx hb d_Mod_open_77 rfl hl (by decide) rfl (fun ls hl => ?_)
            refine lv_iinc (v := (v4 + (1 : Int32))) (lv' := [(4, .int (v4 + (1 : Int32))), (3, .int (1 : Int32)), (0, .ref h_this), (1, .int a1), (2, .int v2)]) hx hb d_Mod_open_78 hl (k := 4) rfl rfl (by decide) rfl (fun ls hl => ?_)
            refine lv_goto (tgt := 43) hx hb d_Mod_open_81 (by decide) ?_
            exact hk43 (1 : Int32) (v4 + (1 : Int32)) H locs ls hE (lv_sub hl [2, 3, 4, 1, 0] rfl) h
          · have h := ite_t hc h
            refine lv_aload_n hx hb d_Mod_open_60 rfl (lv_at hl 0 rfl) ?_
            refine hn_get S hE kc_Mod 0 rfl rfl 5 (by decide) mw_491 rfl d_Mod_open_61 ?_
            refine lv_iload hx hb d_Mod_open_64 (lv_at hl 4 rfl) ?_
            obtain ⟨hi66, h⟩ := gi_s h
            refine hn_iald S hE 3 0 rfl rfl hi66 d_Mod_open_66 ?_
            refine lv_bipush (v := 127) hx hb d_Mod_open_67 (by decide) ?_
            refine lv_icmp_le (tgt := 76) hx hb d_Mod_open_69 (by decide) (fun hc => ?_) (fun hc => ?_)
            · have h := ite_t hc h
              refine lv_iconst (v := 0) hx hb d_Mod_open_76 (by decide) ?_
              refine lv_istore_n (lv' := [(3, .int (0 : Int32)), (0, .ref h_this), (1, .int a1), (2, .int v2), (4, .int v4)]) hx hb d_Mod_open_77 rfl hl (by decide) rfl (fun ls hl => ?_)
              refine lv_iinc (v := (v4 + (1 : Int32))) (lv' := [(4, .int (v4 + (1 : Int32))), (3, .int (0 : Int32)), (0, .ref h_this), (1, .int a1), (2, .int v2)]) hx hb d_Mod_open_78 hl (k := 4) rfl rfl (by decide) rfl (fun ls hl => ?_)
              refine lv_goto (tgt := 43) hx hb d_Mod_open_81 (by decide) ?_
              exact hk43 (0 : Int32) (v4 + (1 : Int32)) H locs ls hE (lv_sub hl [2, 3, 4, 1, 0] rfl) h
            · have h := ite_f hc h
              refine lv_iconst (v := 1) hx hb d_Mod_open_72 (by decide) ?_
              refine lv_goto (tgt := 77) hx hb d_Mod_open_73 (by decide) ?_
              refine lv_istore_n (lv' := [(3, .int (1 : Int32)), (0, .ref h_this), (1, .int a1), (2, .int v2), (4, .int v4)]) hx hb d_Mod_open_77 rfl hl (by decide) rfl (fun ls hl => ?_)
              refine lv_iinc (v := (v4 + (1 : Int32))) (lv' := [(4, .int (v4 + (1 : Int32))), (3, .int (1 : Int32)), (0, .ref h_this), (1, .int a1), (2, .int v2)]) hx hb d_Mod_open_78 hl (k := 4) rfl rfl (by decide) rfl (fun ls hl => ?_)
              refine lv_goto (tgt := 43) hx hb d_Mod_open_81 (by decide) ?_
              exact hk43 (1 : Int32) (v4 + (1 : Int32)) H locs ls hE (lv_sub hl [2, 3, 4, 1, 0] rfl) h
  unfold P_Mod_open at h
  refine lv_aload_n hx hb d_Mod_open_0 rfl (lv_at hl 0 rfl) ?_
  refine lv_iload_n hx hb d_Mod_open_1 rfl (lv_at hl 1 rfl) ?_
  obtain ⟨x2, hc2, h⟩ := bd_s h
  have hM := (c_Mod_fetch l D cI cZ tt h_this h_this_text h_this_result h_this_row h_this_other h_this_starts h_this_sizes h_this_rules h_this_tagged h_this_pool h_this_placed H.size n_this_textSize n_this_size n_this_rowSize n_this_count n_this_poolSize n_this_whole n_this_bias f_this_text f_this_result f_this_row f_this_other f_this_starts f_this_sizes f_this_rules f_this_tagged f_this_pool f_this_placed a1 x2 hc2)
  refine hn_cv hE (hn_runV (As := [.int a1]) (rest := []) S hE hM cf_Mod_fetch mw_615 mw_617 ms_24 ⟨rfl, rfl⟩ ⟨Nat.le_of_ble_eq_true rfl, Nat.le_of_ble_eq_true rfl⟩ [0, 1, 2, 3, 4, 5, 6, 7, 8, 9, 10] rfl rfl rfl rfl rfl rfl hl.1 (lv_room (Nat.le_of_ble_eq_true rfl)) d_Mod_open_2 ⟨Nat.zero_le _, Nat.zero_le _⟩) [0, 1, 2, 3, 4, 5, 6, 7, 8, 9, 10] rfl rfl (fun H locs hE => ?_)
  have hE : hn_E D (TY cI cZ) tt A s H locs [(h_this, .inr (6, [.int n_this_textSize, .ref h_this_text, .int n_this_size, .ref h_this_result, .int x2.1, .ref h_this_row, .ref h_this_other, .int n_this_count, .ref h_this_starts, .ref h_this_sizes, .ref h_this_rules, .ref h_this_tagged, .int n_this_poolSize, .ref h_this_pool, .int n_this_whole, .ref h_this_placed, .int n_this_bias])), (h_this_text, .inl (cI, 48, .inl f_this_text)), (h_this_result, .inl (cI, 2000, .inl f_this_result)), (h_this_row, .inl (cI, 200, .inl x2.2)), (h_this_other, .inl (cI, 200, .inl f_this_other)), (h_this_starts, .inl (cI, 50, .inl f_this_starts)), (h_this_sizes, .inl (cI, 50, .inl f_this_sizes)), (h_this_rules, .inl (cI, 50, .inl f_this_rules)), (h_this_tagged, .inl (cZ, 50, .inl f_this_tagged)), (h_this_pool, .inl (cI, 300, .inl f_this_pool)), (h_this_placed, .inl (cZ, 200, .inl f_this_placed))] := hE
  refine lv_aload_n hx hb d_Mod_open_5 rfl (lv_at hl 0 rfl) ?_
  refine hn_get S hE kc_Mod 0 rfl rfl 10 (by decide) mw_496 rfl d_Mod_open_6 ?_
  refine lv_iload_n hx hb d_Mod_open_9 rfl (lv_at hl 1 rfl) ?_
  refine lv_iconst (v := 0) hx hb d_Mod_open_10 (by decide) ?_
  obtain ⟨hi11, h⟩ := gi_s h
  refine hn_iast S hE 7 0 rfl rfl hi11 d_Mod_open_11 (fun H locs hE => ?_)
  have hE : hn_E D (TY cI cZ) tt A s H locs [(h_this, .inr (6, [.int n_this_textSize, .ref h_this_text, .int n_this_size, .ref h_this_result, .int x2.1, .ref h_this_row, .ref h_this_other, .int n_this_count, .ref h_this_starts, .ref h_this_sizes, .ref h_this_rules, .ref h_this_tagged, .int n_this_poolSize, .ref h_this_pool, .int n_this_whole, .ref h_this_placed, .int n_this_bias])), (h_this_text, .inl (cI, 48, .inl f_this_text)), (h_this_result, .inl (cI, 2000, .inl f_this_result)), (h_this_row, .inl (cI, 200, .inl x2.2)), (h_this_other, .inl (cI, 200, .inl f_this_other)), (h_this_starts, .inl (cI, 50, .inl f_this_starts)), (h_this_sizes, .inl (cI, 50, .inl f_this_sizes)), (h_this_rules, .inl (cI, 50, .inl (upd f_this_rules (a1).toNatClampNeg (0 : Int32)))), (h_this_tagged, .inl (cZ, 50, .inl f_this_tagged)), (h_this_pool, .inl (cI, 300, .inl f_this_pool)), (h_this_placed, .inl (cZ, 200, .inl f_this_placed))] := hE
  refine lv_aload_n hx hb d_Mod_open_12 rfl (lv_at hl 0 rfl) ?_
  refine hn_get S hE kc_Mod 0 rfl rfl 11 (by decide) mw_497 rfl d_Mod_open_13 ?_
  refine lv_iload_n hx hb d_Mod_open_16 rfl (lv_at hl 1 rfl) ?_
  refine lv_aload_n hx hb d_Mod_open_17 rfl (lv_at hl 0 rfl) ?_
  obtain ⟨x18, hc18, h⟩ := bd_s h
  have hM := (c_Mod_hasTag l D cI cZ tt h_this h_this_text h_this_result h_this_row h_this_other h_this_starts h_this_sizes h_this_rules h_this_tagged h_this_pool h_this_placed H.size n_this_textSize n_this_size x2.1 n_this_count n_this_poolSize n_this_whole n_this_bias f_this_text f_this_result x2.2 f_this_other f_this_starts f_this_sizes (upd f_this_rules (a1).toNatClampNeg (0 : Int32)) f_this_tagged f_this_pool f_this_placed x18 hc18)
  refine hn_cz hE (hn_runV (As := []) (rest := [.int a1, .ref h_this_tagged]) S hE hM cf_Mod_hasTag mw_619 mw_621 ms_25 ⟨rfl, rfl⟩ ⟨Nat.le_of_ble_eq_true rfl, Nat.le_of_ble_eq_true rfl⟩ [0, 1, 2, 3, 4, 5, 6, 7, 8, 9, 10] rfl rfl rfl rfl rfl rfl hl.1 (lv_room (Nat.le_of_ble_eq_true rfl)) d_Mod_open_18 ⟨Nat.zero_le _, Nat.zero_le _⟩) [0, 1, 2, 3, 4, 5, 6, 7, 8, 9, 10] rfl rfl (fun H locs hz18 hE => ?_)
  have hE : hn_E D (TY cI cZ) tt A s H locs [(h_this, .inr (6, [.int n_this_textSize, .ref h_this_text, .int n_this_size, .ref h_this_result, .int x2.1, .ref h_this_row, .ref h_this_other, .int n_this_count, .ref h_this_starts, .ref h_this_sizes, .ref h_this_rules, .ref h_this_tagged, .int n_this_poolSize, .ref h_this_pool, .int n_this_whole, .ref h_this_placed, .int n_this_bias])), (h_this_text, .inl (cI, 48, .inl f_this_text)), (h_this_result, .inl (cI, 2000, .inl f_this_result)), (h_this_row, .inl (cI, 200, .inl x2.2)), (h_this_other, .inl (cI, 200, .inl f_this_other)), (h_this_starts, .inl (cI, 50, .inl f_this_starts)), (h_this_sizes, .inl (cI, 50, .inl f_this_sizes)), (h_this_rules, .inl (cI, 50, .inl (upd f_this_rules (a1).toNatClampNeg (0 : Int32)))), (h_this_tagged, .inl (cZ, 50, .inl f_this_tagged)), (h_this_pool, .inl (cI, 300, .inl f_this_pool)), (h_this_placed, .inl (cZ, 200, .inl f_this_placed))] := hE
  obtain ⟨hi21, h⟩ := gi_s h
  refine hn_zast S hE 8 1 rfl rfl hi21 d_Mod_open_21 (fun H locs hE => ?_)
  have hE : hn_E D (TY cI cZ) tt A s H locs [(h_this, .inr (6, [.int n_this_textSize, .ref h_this_text, .int n_this_size, .ref h_this_result, .int x2.1, .ref h_this_row, .ref h_this_other, .int n_this_count, .ref h_this_starts, .ref h_this_sizes, .ref h_this_rules, .ref h_this_tagged, .int n_this_poolSize, .ref h_this_pool, .int n_this_whole, .ref h_this_placed, .int n_this_bias])), (h_this_text, .inl (cI, 48, .inl f_this_text)), (h_this_result, .inl (cI, 2000, .inl f_this_result)), (h_this_row, .inl (cI, 200, .inl x2.2)), (h_this_other, .inl (cI, 200, .inl f_this_other)), (h_this_starts, .inl (cI, 50, .inl f_this_starts)), (h_this_sizes, .inl (cI, 50, .inl f_this_sizes)), (h_this_rules, .inl (cI, 50, .inl (upd f_this_rules (a1).toNatClampNeg (0 : Int32)))), (h_this_tagged, .inl (cZ, 50, .inl (upd f_this_tagged (a1).toNatClampNeg (vp_nar .boolean x18)))), (h_this_pool, .inl (cI, 300, .inl f_this_pool)), (h_this_placed, .inl (cZ, 200, .inl f_this_placed))] := hE
  refine lv_aload_n hx hb d_Mod_open_22 rfl (lv_at hl 0 rfl) ?_
  refine hn_get S hE kc_Mod 0 rfl rfl 11 (by decide) mw_497 rfl d_Mod_open_23 ?_
  refine lv_iload_n hx hb d_Mod_open_26 rfl (lv_at hl 1 rfl) ?_
  obtain ⟨hi27, h⟩ := gi_s h
  refine hn_zald S hE 8 1 rfl rfl hi27 d_Mod_open_27 ?_
  refine lv_if_ne (tgt := 32) hx hb d_Mod_open_28 (by decide) (fun hc => ?_) (fun hc => ?_)
  · have h := ite_f hc h
    refine lv_aload_n hx hb d_Mod_open_32 rfl (lv_at hl 0 rfl) ?_
    refine lv_iconst (v := 4) hx hb d_Mod_open_33 (by decide) ?_
    obtain ⟨x34, hc34, h⟩ := bd_s h
    have hM := (c_Mod_unpackRow l D cI cZ tt h_this h_this_text h_this_result h_this_row h_this_other h_this_starts h_this_sizes h_this_rules h_this_tagged h_this_pool h_this_placed H.size n_this_textSize n_this_size x2.1 n_this_count n_this_poolSize n_this_whole n_this_bias f_this_text f_this_result x2.2 f_this_other f_this_starts f_this_sizes (upd f_this_rules (a1).toNatClampNeg (0 : Int32)) (upd f_this_tagged (a1).toNatClampNeg (vp_nar .boolean x18)) f_this_pool f_this_placed (4 : Int32) x34 hc34)
    refine hn_cz hE (hn_runV (As := [.int (4 : Int32)]) (rest := []) S hE hM cf_Mod_unpackRow mw_623 mw_625 ms_26 ⟨rfl, rfl⟩ ⟨Nat.le_of_ble_eq_true rfl, Nat.le_of_ble_eq_true rfl⟩ [0, 1, 2, 3, 4, 5, 6, 7, 8, 9, 10] rfl rfl rfl rfl rfl rfl hl.1 (lv_room (Nat.le_of_ble_eq_true rfl)) d_Mod_open_34 ⟨Nat.zero_le _, Nat.zero_le _⟩) [0, 1, 2, 3, 4, 5, 6, 7, 8, 9, 10] rfl rfl (fun H locs hz34 hE => ?_)
    have hE : hn_E D (TY cI cZ) tt A s H locs [(h_this, .inr (6, [.int n_this_textSize, .ref h_this_text, .int n_this_size, .ref h_this_result, .int x34.2.1, .ref h_this_row, .ref h_this_other, .int n_this_count, .ref h_this_starts, .ref h_this_sizes, .ref h_this_rules, .ref h_this_tagged, .int n_this_poolSize, .ref h_this_pool, .int n_this_whole, .ref h_this_placed, .int x34.2.2.1])), (h_this_text, .inl (cI, 48, .inl f_this_text)), (h_this_result, .inl (cI, 2000, .inl f_this_result)), (h_this_row, .inl (cI, 200, .inl x34.2.2.2.1)), (h_this_other, .inl (cI, 200, .inl x34.2.2.2.2)), (h_this_starts, .inl (cI, 50, .inl f_this_starts)), (h_this_sizes, .inl (cI, 50, .inl f_this_sizes)), (h_this_rules, .inl (cI, 50, .inl (upd f_this_rules (a1).toNatClampNeg (0 : Int32)))), (h_this_tagged, .inl (cZ, 50, .inl (upd f_this_tagged (a1).toNatClampNeg (vp_nar .boolean x18)))), (h_this_pool, .inl (cI, 300, .inl f_this_pool)), (h_this_placed, .inl (cZ, 200, .inl f_this_placed))] := hE
    refine lv_istore_n (lv' := [(2, .int x34.1), (0, .ref h_this), (1, .int a1)]) hx hb d_Mod_open_37 rfl hl (by decide) rfl (fun ls hl => ?_)
    refine lv_iconst (v := 0) hx hb d_Mod_open_38 (by decide) ?_
    refine lv_istore_n (lv' := [(3, .int (0 : Int32)), (2, .int x34.1), (0, .ref h_this), (1, .int a1)]) hx hb d_Mod_open_39 rfl hl (by decide) rfl (fun ls hl => ?_)
    refine lv_iconst (v := 0) hx hb d_Mod_open_40 (by decide) ?_
    refine lv_istore (lv' := [(4, .int (0 : Int32)), (3, .int (0 : Int32)), (2, .int x34.1), (0, .ref h_this), (1, .int a1)]) hx hb d_Mod_open_41 hl (by decide) rfl (fun ls hl => ?_)
    exact hL43 x34.1 x34.2.1 n_this_poolSize x34.2.2.1 x34.2.2.2.1 x34.2.2.2.2 f_this_starts f_this_sizes (upd f_this_rules (a1).toNatClampNeg (0 : Int32)) (upd f_this_tagged (a1).toNatClampNeg (vp_nar .boolean x18)) f_this_pool fu (0 : Int32) (0 : Int32) H locs ls hE (lv_sub hl [3, 4, 2, 1, 0] rfl) h
  · have h := ite_t hc h
    obtain rfl := Option.some.inj h
    exact hret H locs ls 31 d_Mod_open_31 hE
abbrev rm_Mod_composed : Room := { frames := 5, cells := 0, slots := 0, locals := 117 }
theorem cf_Mod_composed : hn_CF y_Mod_composed b_Mod_composed 4 (some .boolean) 1 := ⟨mw_663, mw_7, by decide, by decide, by decide +kernel⟩
set_option maxHeartbeats 4000000 in
set_option maxRecDepth 100000 in
theorem c_Mod_composed (l : Launch) (D : va_G) (cI cZ : ClassId) (tt : Nat → Nat) (h_this h_this_text h_this_result h_this_row h_this_other h_this_starts h_this_sizes h_this_rules h_this_tagged h_this_pool h_this_placed : Nat) (sz : Nat) (n_this_textSize : Int32) (n_this_size : Int32) (n_this_rowSize : Int32) (n_this_count : Int32) (n_this_poolSize : Int32) (n_this_whole : Int32) (n_this_bias : Int32) (f_this_text : Nat → Int32) (f_this_result : Nat → Int32) (f_this_row : Nat → Int32) (f_this_other : Nat → Int32) (f_this_starts : Nat → Int32) (f_this_sizes : Nat → Int32) (f_this_rules : Nat → Int32) (f_this_tagged : Nat → Int32) (f_this_pool : Nat → Int32) (f_this_placed : Nat → Int32) (a1 : Int32) (o : Int32 × Int32 × (Nat → Int32) × (Nat → Int32)) (h : P_Mod_composed f_this_row f_this_other f_this_starts f_this_sizes f_this_pool a1 = some o) : Met l y_Mod_composed (hn_w y_Mod_composed b_Mod_composed 4 (some .boolean)) rm_Mod_composed (hn_Pc D (TY cI cZ) tt [.ref h_this, .int a1] sz [(h_this, .inr (6, [.int n_this_textSize, .ref h_this_text, .int n_this_size, .ref h_this_result, .int n_this_rowSize, .ref h_this_row, .ref h_this_other, .int n_this_count, .ref h_this_starts, .ref h_this_sizes, .ref h_this_rules, .ref h_this_tagged, .int n_this_poolSize, .ref h_this_pool, .int n_this_whole, .ref h_this_placed, .int n_this_bias])), (h_this_text, .inl (cI, 48, .inl f_this_text)), (h_this_result, .inl (cI, 2000, .inl f_this_result)), (h_this_row, .inl (cI, 200, .inl f_this_row)), (h_this_other, .inl (cI, 200, .inl f_this_other)), (h_this_starts, .inl (cI, 50, .inl f_this_starts)), (h_this_sizes, .inl (cI, 50, .inl f_this_sizes)), (h_this_rules, .inl (cI, 50, .inl f_this_rules)), (h_this_tagged, .inl (cZ, 50, .inl f_this_tagged)), (h_this_pool, .inl (cI, 300, .inl f_this_pool)), (h_this_placed, .inl (cZ, 200, .inl f_this_placed))]) (hn_Qz D [(h_this, .inr (6, [.int n_this_textSize, .ref h_this_text, .int n_this_size, .ref h_this_result, .int n_this_rowSize, .ref h_this_row, .ref h_this_other, .int n_this_count, .ref h_this_starts, .ref h_this_sizes, .ref h_this_rules, .ref h_this_tagged, .int n_this_poolSize, .ref h_this_pool, .int n_this_whole, .ref h_this_placed, .int n_this_bias])), (h_this_text, .inl (cI, 48, .inl f_this_text)), (h_this_result, .inl (cI, 2000, .inl f_this_result)), (h_this_row, .inl (cI, 200, .inl f_this_row)), (h_this_other, .inl (cI, 200, .inl f_this_other)), (h_this_starts, .inl (cI, 50, .inl f_this_starts)), (h_this_sizes, .inl (cI, 50, .inl f_this_sizes)), (h_this_rules, .inl (cI, 50, .inl f_this_rules)), (h_this_tagged, .inl (cZ, 50, .inl f_this_tagged)), (h_this_pool, .inl (cI, 300, .inl f_this_pool)), (h_this_placed, .inl (cZ, 200, .inl f_this_placed))] sz [(h_this, .inr (6, [.int n_this_textSize, .ref h_this_text, .int n_this_size, .ref h_this_result, .int o.2.1, .ref h_this_row, .ref h_this_other, .int n_this_count, .ref h_this_starts, .ref h_this_sizes, .ref h_this_rules, .ref h_this_tagged, .int n_this_poolSize, .ref h_this_pool, .int n_this_whole, .ref h_this_placed, .int n_this_bias])), (h_this_text, .inl (cI, 48, .inl f_this_text)), (h_this_result, .inl (cI, 2000, .inl f_this_result)), (h_this_row, .inl (cI, 200, .inl o.2.2.1)), (h_this_other, .inl (cI, 200, .inl o.2.2.2)), (h_this_starts, .inl (cI, 50, .inl f_this_starts)), (h_this_sizes, .inl (cI, 50, .inl f_this_sizes)), (h_this_rules, .inl (cI, 50, .inl f_this_rules)), (h_this_tagged, .inl (cZ, 50, .inl f_this_tagged)), (h_this_pool, .inl (cI, 300, .inl f_this_pool)), (h_this_placed, .inl (cZ, 200, .inl f_this_placed))] o.1) 0 0 (va_A [(h_this, .inr (6, [.int n_this_textSize, .ref h_this_text, .int n_this_size, .ref h_this_result, .int n_this_rowSize, .ref h_this_row, .ref h_this_other, .int n_this_count, .ref h_this_starts, .ref h_this_sizes, .ref h_this_rules, .ref h_this_tagged, .int n_this_poolSize, .ref h_this_pool, .int n_this_whole, .ref h_this_placed, .int n_this_bias])), (h_this_text, .inl (cI, 48, .inl f_this_text)), (h_this_result, .inl (cI, 2000, .inl f_this_result)), (h_this_row, .inl (cI, 200, .inl f_this_row)), (h_this_other, .inl (cI, 200, .inl f_this_other)), (h_this_starts, .inl (cI, 50, .inl f_this_starts)), (h_this_sizes, .inl (cI, 50, .inl f_this_sizes)), (h_this_rules, .inl (cI, 50, .inl f_this_rules)), (h_this_tagged, .inl (cZ, 50, .inl f_this_tagged)), (h_this_pool, .inl (cI, 300, .inl f_this_pool)), (h_this_placed, .inl (cZ, 200, .inl f_this_placed))] sz) := by
  refine hn_ofWz (own := R_Mod) (by decide) rfl (Nat.le_of_ble_eq_true rfl) ?_
  intro p e s m args below meth c A H locs ls Q S hE hl hret
  have hx := S.1
  have hb := S.2.1
  have hown := S.2.2.2.1
  have hl : lv_has ls 4 [(0, .ref h_this), (1, .int a1)] := hl
  have hL30 : ∀ (n_this_rowSize : Int32) (f_this_row : Nat → Int32) (f_this_other : Nat → Int32) (kf : Nat) (v2 : Int32) (v3 : Int32) (H : Heap) (locs : List Loc) (ls : Array Slot), hn_E D (TY cI cZ) tt A s H locs [(h_this, .inr (6, [.int n_this_textSize, .ref h_this_text, .int n_this_size, .ref h_this_result, .int n_this_rowSize, .ref h_this_row, .ref h_this_other, .int n_this_count, .ref h_this_starts, .ref h_this_sizes, .ref h_this_rules, .ref h_this_tagged, .int n_this_poolSize, .ref h_this_pool, .int n_this_whole, .ref h_this_placed, .int n_this_bias])), (h_this_text, .inl (cI, 48, .inl f_this_text)), (h_this_result, .inl (cI, 2000, .inl f_this_result)), (h_this_row, .inl (cI, 200, .inl f_this_row)), (h_this_other, .inl (cI, 200, .inl f_this_other)), (h_this_starts, .inl (cI, 50, .inl f_this_starts)), (h_this_sizes, .inl (cI, 50, .inl f_this_sizes)), (h_this_rules, .inl (cI, 50, .inl f_this_rules)), (h_this_tagged, .inl (cZ, 50, .inl f_this_tagged)), (h_this_pool, .inl (cI, 300, .inl f_this_pool)), (h_this_placed, .inl (cZ, 200, .inl f_this_placed))] → lv_has ls 4 [(0, .ref h_this), (1, .int a1), (2, .int v2), (3, .int v3)] → fl2 (P_Mod_composed_30 f_this_starts f_this_sizes f_this_pool a1 n_this_rowSize f_this_row f_this_other) kf v2 v3 = some o → W p l e rm_Mod_composed s m args below meth c H locs 0 0 Q (F0 m 30 ls []) := by
    intro n_this_rowSize f_this_row f_this_other kf
    induction kf with
    | zero => intro v2 v3 H locs ls hE hl h; exact no_s h
    | succ kf ih =>
      intro v2 v3 H locs ls hE hl h
      have h : P_Mod_composed_30 f_this_starts f_this_sizes f_this_pool a1 n_this_rowSize f_this_row f_this_other (fl2 (P_Mod_composed_30 f_this_starts f_this_sizes f_this_pool a1 n_this_rowSize f_this_row f_this_other) kf) v2 v3 = some o := h
      generalize fl2 (P_Mod_composed_30 f_this_starts f_this_sizes f_this_pool a1 n_this_rowSize f_this_row f_this_other) kf = k30 at ih h
      have hk30 := ih
      unfold P_Mod_composed_30 at h
      refine lv_iload_n hx hb d_Mod_composed_30 rfl (lv_at hl 3 rfl) ?_
      refine lv_aload_n hx hb d_Mod_composed_31 rfl (lv_at hl 0 rfl) ?_
      refine hn_get S hE kc_Mod 0 rfl rfl 9 (by decide) mw_495 rfl d_Mod_composed_32 ?_
      refine lv_iload_n hx hb d_Mod_composed_35 rfl (lv_at hl 1 rfl) ?_
      obtain ⟨hi36, h⟩ := gi_s h
      refine hn_iald S hE 6 0 rfl rfl hi36 d_Mod_composed_36 ?_
      refine lv_icmp_ge (tgt := 71) hx hb d_Mod_composed_37 (by decide) (fun hc => ?_) (fun hc => ?_)
      · have h := ite_t hc h
        refine lv_iload_n hx hb d_Mod_composed_71 rfl (lv_at hl 2 rfl) ?_
        obtain ⟨hz72, h⟩ := gb_s h
        obtain rfl := Option.some.inj h
        exact hret H locs ls 72 d_Mod_composed_72 hz72 hE
      · have h := ite_f hc h
        refine lv_iload_n hx hb d_Mod_composed_40 rfl (lv_at hl 2 rfl) ?_
        refine lv_if_eq (tgt := 71) hx hb d_Mod_composed_41 (by decide) (fun hc => ?_) (fun hc => ?_)
        · have h := ite_t hc h
          refine lv_iload_n hx hb d_Mod_composed_71 rfl (lv_at hl 2 rfl) ?_
          obtain ⟨hz72, h⟩ := gb_s h
          obtain rfl := Option.some.inj h
          exact hret H locs ls 72 d_Mod_composed_72 hz72 hE
        · have h := ite_f hc h
          refine lv_aload_n hx hb d_Mod_composed_44 rfl (lv_at hl 0 rfl) ?_
          refine hn_get S hE kc_Mod 0 rfl rfl 5 (by decide) mw_491 rfl d_Mod_composed_45 ?_
          refine lv_iload_n hx hb d_Mod_composed_48 rfl (lv_at hl 3 rfl) ?_
          obtain ⟨hi49, h⟩ := gi_s h
          refine hn_iald S hE 3 0 rfl rfl hi49 d_Mod_composed_49 ?_
          refine lv_aload_n hx hb d_Mod_composed_50 rfl (lv_at hl 0 rfl) ?_
          refine lv_iload_n hx hb d_Mod_composed_51 rfl (lv_at hl 1 rfl) ?_
          refine lv_iload_n hx hb d_Mod_composed_52 rfl (lv_at hl 3 rfl) ?_
          obtain ⟨x53, hc53, h⟩ := bd_s h
          have hM := (c_Mod_codeOf l D cI cZ tt h_this h_this_text h_this_result h_this_row h_this_other h_this_starts h_this_sizes h_this_rules h_this_tagged h_this_pool h_this_placed H.size n_this_textSize n_this_size n_this_rowSize n_this_count n_this_poolSize n_this_whole n_this_bias f_this_text f_this_result f_this_row f_this_other f_this_starts f_this_sizes f_this_rules f_this_tagged f_this_pool f_this_placed a1 v3 x53 hc53)
          refine hn_ci hE (hn_runV (As := [.int a1, .int v3]) (rest := [.int (f_this_row (v3).toNatClampNeg)]) S hE hM cf_Mod_codeOf mw_649 mw_651 ms_31 ⟨rfl, rfl⟩ ⟨Nat.le_of_ble_eq_true rfl, Nat.le_of_ble_eq_true rfl⟩ [0, 1, 2, 3, 4, 5, 6, 7, 8, 9, 10] rfl rfl rfl rfl rfl rfl hl.1 (lv_room (Nat.le_of_ble_eq_true rfl)) d_Mod_composed_53 ⟨Nat.zero_le _, Nat.zero_le _⟩) [0, 1, 2, 3, 4, 5, 6, 7, 8, 9, 10] rfl rfl (fun H locs hE => ?_)
          have hE : hn_E D (TY cI cZ) tt A s H locs [(h_this, .inr (6, [.int n_this_textSize, .ref h_this_text, .int n_this_size, .ref h_this_result, .int n_this_rowSize, .ref h_this_row, .ref h_this_other, .int n_this_count, .ref h_this_starts, .ref h_this_sizes, .ref h_this_rules, .ref h_this_tagged, .int n_this_poolSize, .ref h_this_pool, .int n_this_whole, .ref h_this_placed, .int n_this_bias])), (h_this_text, .inl (cI, 48, .inl f_this_text)), (h_this_result, .inl (cI, 2000, .inl f_this_result)), (h_this_row, .inl (cI, 200, .inl f_this_row)), (h_this_other, .inl (cI, 200, .inl f_this_other)), (h_this_starts, .inl (cI, 50, .inl f_this_starts)), (h_this_sizes, .inl (cI, 50, .inl f_this_sizes)), (h_this_rules, .inl (cI, 50, .inl f_this_rules)), (h_this_tagged, .inl (cZ, 50, .inl f_this_tagged)), (h_this_pool, .inl (cI, 300, .inl f_this_pool)), (h_this_placed, .inl (cZ, 200, .inl f_this_placed))] := hE
          refine lv_icmp_ne (tgt := 63) hx hb d_Mod_composed_56 (by decide) (fun hc => ?_) (fun hc => ?_)
          · have h := ite_f hc h
            refine lv_iconst (v := 0) hx hb d_Mod_composed_63 (by decide) ?_
            refine lv_istore_n (lv' := [(2, .int (0 : Int32)), (0, .ref h_this), (1, .int a1), (3, .int v3)]) hx hb d_Mod_composed_64 rfl hl (by decide) rfl (fun ls hl => ?_)
            refine lv_iinc (v := (v3 + (1 : Int32))) (lv' := [(3, .int (v3 + (1 : Int32))), (2, .int (0 : Int32)), (0, .ref h_this), (1, .int a1)]) hx hb d_Mod_composed_65 hl (k := 3) rfl rfl (by decide) rfl (fun ls hl => ?_)
            refine lv_goto (tgt := 30) hx hb d_Mod_composed_68 (by decide) ?_
            exact hk30 (0 : Int32) (v3 + (1 : Int32)) H locs ls hE (lv_sub hl [2, 3, 1, 0] rfl) h
          · have h := ite_t hc h
            refine lv_iconst (v := 1) hx hb d_Mod_composed_59 (by decide) ?_
            refine lv_goto (tgt := 64) hx hb d_Mod_composed_60 (by decide) ?_
            refine lv_istore_n (lv' := [(2, .int (1 : Int32)), (0, .ref h_this), (1, .int a1), (3, .int v3)]) hx hb d_Mod_composed_64 rfl hl (by decide) rfl (fun ls hl => ?_)
            refine lv_iinc (v := (v3 + (1 : Int32))) (lv' := [(3, .int (v3 + (1 : Int32))), (2, .int (1 : Int32)), (0, .ref h_this), (1, .int a1)]) hx hb d_Mod_composed_65 hl (k := 3) rfl rfl (by decide) rfl (fun ls hl => ?_)
            refine lv_goto (tgt := 30) hx hb d_Mod_composed_68 (by decide) ?_
            exact hk30 (1 : Int32) (v3 + (1 : Int32)) H locs ls hE (lv_sub hl [2, 3, 1, 0] rfl) h
  unfold P_Mod_composed at h
  refine lv_aload_n hx hb d_Mod_composed_0 rfl (lv_at hl 0 rfl) ?_
  refine lv_iload_n hx hb d_Mod_composed_1 rfl (lv_at hl 1 rfl) ?_
  obtain ⟨x2, hc2, h⟩ := bd_s h
  have hM := (c_Mod_fetch l D cI cZ tt h_this h_this_text h_this_result h_this_row h_this_other h_this_starts h_this_sizes h_this_rules h_this_tagged h_this_pool h_this_placed H.size n_this_textSize n_this_size n_this_rowSize n_this_count n_this_poolSize n_this_whole n_this_bias f_this_text f_this_result f_this_row f_this_other f_this_starts f_this_sizes f_this_rules f_this_tagged f_this_pool f_this_placed a1 x2 hc2)
  refine hn_cv hE (hn_runV (As := [.int a1]) (rest := []) S hE hM cf_Mod_fetch mw_615 mw_617 ms_24 ⟨rfl, rfl⟩ ⟨Nat.le_of_ble_eq_true rfl, Nat.le_of_ble_eq_true rfl⟩ [0, 1, 2, 3, 4, 5, 6, 7, 8, 9, 10] rfl rfl rfl rfl rfl rfl hl.1 (lv_room (Nat.le_of_ble_eq_true rfl)) d_Mod_composed_2 ⟨Nat.zero_le _, Nat.zero_le _⟩) [0, 1, 2, 3, 4, 5, 6, 7, 8, 9, 10] rfl rfl (fun H locs hE => ?_)
  have hE : hn_E D (TY cI cZ) tt A s H locs [(h_this, .inr (6, [.int n_this_textSize, .ref h_this_text, .int n_this_size, .ref h_this_result, .int x2.1, .ref h_this_row, .ref h_this_other, .int n_this_count, .ref h_this_starts, .ref h_this_sizes, .ref h_this_rules, .ref h_this_tagged, .int n_this_poolSize, .ref h_this_pool, .int n_this_whole, .ref h_this_placed, .int n_this_bias])), (h_this_text, .inl (cI, 48, .inl f_this_text)), (h_this_result, .inl (cI, 2000, .inl f_this_result)), (h_this_row, .inl (cI, 200, .inl x2.2)), (h_this_other, .inl (cI, 200, .inl f_this_other)), (h_this_starts, .inl (cI, 50, .inl f_this_starts)), (h_this_sizes, .inl (cI, 50, .inl f_this_sizes)), (h_this_rules, .inl (cI, 50, .inl f_this_rules)), (h_this_tagged, .inl (cZ, 50, .inl f_this_tagged)), (h_this_pool, .inl (cI, 300, .inl f_this_pool)), (h_this_placed, .inl (cZ, 200, .inl f_this_placed))] := hE
  refine lv_aload_n hx hb d_Mod_composed_5 rfl (lv_at hl 0 rfl) ?_
  obtain ⟨x6, hc6, h⟩ := bd_s h
  have hM := (c_Mod_composeRow l D cI cZ tt h_this h_this_text h_this_result h_this_row h_this_other h_this_starts h_this_sizes h_this_rules h_this_tagged h_this_pool h_this_placed H.size n_this_textSize n_this_size x2.1 n_this_count n_this_poolSize n_this_whole n_this_bias f_this_text f_this_result x2.2 f_this_other f_this_starts f_this_sizes f_this_rules f_this_tagged f_this_pool f_this_placed x6 hc6)
  refine hn_cv hE (hn_runV (As := []) (rest := []) S hE hM cf_Mod_composeRow mw_590 mw_592 ms_20 ⟨rfl, rfl⟩ ⟨Nat.le_of_ble_eq_true rfl, Nat.le_of_ble_eq_true rfl⟩ [0, 1, 2, 3, 4, 5, 6, 7, 8, 9, 10] rfl rfl rfl rfl rfl rfl hl.1 (lv_room (Nat.le_of_ble_eq_true rfl)) d_Mod_composed_6 ⟨Nat.zero_le _, Nat.zero_le _⟩) [0, 1, 2, 3, 4, 5, 6, 7, 8, 9, 10] rfl rfl (fun H locs hE => ?_)
  have hE : hn_E D (TY cI cZ) tt A s H locs [(h_this, .inr (6, [.int n_this_textSize, .ref h_this_text, .int n_this_size, .ref h_this_result, .int x6.1, .ref h_this_row, .ref h_this_other, .int n_this_count, .ref h_this_starts, .ref h_this_sizes, .ref h_this_rules, .ref h_this_tagged, .int n_this_poolSize, .ref h_this_pool, .int n_this_whole, .ref h_this_placed, .int n_this_bias])), (h_this_text, .inl (cI, 48, .inl f_this_text)), (h_this_result, .inl (cI, 2000, .inl f_this_result)), (h_this_row, .inl (cI, 200, .inl x6.2.1)), (h_this_other, .inl (cI, 200, .inl x6.2.2)), (h_this_starts, .inl (cI, 50, .inl f_this_starts)), (h_this_sizes, .inl (cI, 50, .inl f_this_sizes)), (h_this_rules, .inl (cI, 50, .inl f_this_rules)), (h_this_tagged, .inl (cZ, 50, .inl f_this_tagged)), (h_this_pool, .inl (cI, 300, .inl f_this_pool)), (h_this_placed, .inl (cZ, 200, .inl f_this_placed))] := hE
  refine lv_aload_n hx hb d_Mod_composed_9 rfl (lv_at hl 0 rfl) ?_
  refine hn_get S hE kc_Mod 0 rfl rfl 4 (by decide) mw_490 rfl d_Mod_composed_10 ?_
  refine lv_aload_n hx hb d_Mod_composed_13 rfl (lv_at hl 0 rfl) ?_
  refine hn_get S hE kc_Mod 0 rfl rfl 9 (by decide) mw_495 rfl d_Mod_composed_14 ?_
  refine lv_iload_n hx hb d_Mod_composed_17 rfl (lv_at hl 1 rfl) ?_
  obtain ⟨hi18, h⟩ := gi_s h
  refine hn_iald S hE 6 0 rfl rfl hi18 d_Mod_composed_18 ?_
  refine lv_icmp_ne (tgt := 26) hx hb d_Mod_composed_19 (by decide) (fun hc => ?_) (fun hc => ?_)
  · have h := ite_f hc h
    refine lv_iconst (v := 0) hx hb d_Mod_composed_26 (by decide) ?_
    refine lv_istore_n (lv' := [(2, .int (0 : Int32)), (0, .ref h_this), (1, .int a1)]) hx hb d_Mod_composed_27 rfl hl (by decide) rfl (fun ls hl => ?_)
    refine lv_iconst (v := 0) hx hb d_Mod_composed_28 (by decide) ?_
    refine lv_istore_n (lv' := [(3, .int (0 : Int32)), (2, .int (0 : Int32)), (0, .ref h_this), (1, .int a1)]) hx hb d_Mod_composed_29 rfl hl (by decide) rfl (fun ls hl => ?_)
    exact hL30 x6.1 x6.2.1 x6.2.2 fu (0 : Int32) (0 : Int32) H locs ls hE (lv_sub hl [2, 3, 1, 0] rfl) h
  · have h := ite_t hc h
    refine lv_iconst (v := 1) hx hb d_Mod_composed_22 (by decide) ?_
    refine lv_goto (tgt := 27) hx hb d_Mod_composed_23 (by decide) ?_
    refine lv_istore_n (lv' := [(2, .int (1 : Int32)), (0, .ref h_this), (1, .int a1)]) hx hb d_Mod_composed_27 rfl hl (by decide) rfl (fun ls hl => ?_)
    refine lv_iconst (v := 0) hx hb d_Mod_composed_28 (by decide) ?_
    refine lv_istore_n (lv' := [(3, .int (0 : Int32)), (2, .int (1 : Int32)), (0, .ref h_this), (1, .int a1)]) hx hb d_Mod_composed_29 rfl hl (by decide) rfl (fun ls hl => ?_)
    exact hL30 x6.1 x6.2.1 x6.2.2 fu (1 : Int32) (0 : Int32) H locs ls hE (lv_sub hl [2, 3, 1, 0] rfl) h
abbrev rm_Mod_allGood : Room := { frames := 3, cells := 0, slots := 0, locals := 64 }
theorem cf_Mod_allGood : hn_CF y_Mod_allGood b_Mod_allGood 7 (some .boolean) 2 := ⟨mw_671, mw_7, by decide, by decide, by decide +kernel⟩
set_option maxHeartbeats 4000000 in
set_option maxRecDepth 100000 in
theorem c_Mod_allGood (l : Launch) (D : va_G) (cI cZ : ClassId) (tt : Nat → Nat) (h_this h_this_text h_this_result h_this_row h_this_other h_this_starts h_this_sizes h_this_rules h_this_tagged h_this_pool h_this_placed : Nat) (sz : Nat) (n_this_textSize : Int32) (n_this_size : Int32) (n_this_rowSize : Int32) (n_this_count : Int32) (n_this_poolSize : Int32) (n_this_whole : Int32) (n_this_bias : Int32) (f_this_text : Nat → Int32) (f_this_result : Nat → Int32) (f_this_row : Nat → Int32) (f_this_other : Nat → Int32) (f_this_starts : Nat → Int32) (f_this_sizes : Nat → Int32) (f_this_rules : Nat → Int32) (f_this_tagged : Nat → Int32) (f_this_pool : Nat → Int32) (f_this_placed : Nat → Int32) (a1 : Int32) (a2 : Int32) (o : Int32) (h : P_Mod_allGood f_this_starts f_this_sizes f_this_tagged f_this_pool a1 a2 = some o) : Met l y_Mod_allGood (hn_w y_Mod_allGood b_Mod_allGood 7 (some .boolean)) rm_Mod_allGood (hn_Pc D (TY cI cZ) tt [.ref h_this, .int a1, .int a2] sz [(h_this, .inr (6, [.int n_this_textSize, .ref h_this_text, .int n_this_size, .ref h_this_result, .int n_this_rowSize, .ref h_this_row, .ref h_this_other, .int n_this_count, .ref h_this_starts, .ref h_this_sizes, .ref h_this_rules, .ref h_this_tagged, .int n_this_poolSize, .ref h_this_pool, .int n_this_whole, .ref h_this_placed, .int n_this_bias])), (h_this_text, .inl (cI, 48, .inl f_this_text)), (h_this_result, .inl (cI, 2000, .inl f_this_result)), (h_this_row, .inl (cI, 200, .inl f_this_row)), (h_this_other, .inl (cI, 200, .inl f_this_other)), (h_this_starts, .inl (cI, 50, .inl f_this_starts)), (h_this_sizes, .inl (cI, 50, .inl f_this_sizes)), (h_this_rules, .inl (cI, 50, .inl f_this_rules)), (h_this_tagged, .inl (cZ, 50, .inl f_this_tagged)), (h_this_pool, .inl (cI, 300, .inl f_this_pool)), (h_this_placed, .inl (cZ, 200, .inl f_this_placed))]) (hn_Qz D [(h_this, .inr (6, [.int n_this_textSize, .ref h_this_text, .int n_this_size, .ref h_this_result, .int n_this_rowSize, .ref h_this_row, .ref h_this_other, .int n_this_count, .ref h_this_starts, .ref h_this_sizes, .ref h_this_rules, .ref h_this_tagged, .int n_this_poolSize, .ref h_this_pool, .int n_this_whole, .ref h_this_placed, .int n_this_bias])), (h_this_text, .inl (cI, 48, .inl f_this_text)), (h_this_result, .inl (cI, 2000, .inl f_this_result)), (h_this_row, .inl (cI, 200, .inl f_this_row)), (h_this_other, .inl (cI, 200, .inl f_this_other)), (h_this_starts, .inl (cI, 50, .inl f_this_starts)), (h_this_sizes, .inl (cI, 50, .inl f_this_sizes)), (h_this_rules, .inl (cI, 50, .inl f_this_rules)), (h_this_tagged, .inl (cZ, 50, .inl f_this_tagged)), (h_this_pool, .inl (cI, 300, .inl f_this_pool)), (h_this_placed, .inl (cZ, 200, .inl f_this_placed))] sz [(h_this, .inr (6, [.int n_this_textSize, .ref h_this_text, .int n_this_size, .ref h_this_result, .int n_this_rowSize, .ref h_this_row, .ref h_this_other, .int n_this_count, .ref h_this_starts, .ref h_this_sizes, .ref h_this_rules, .ref h_this_tagged, .int n_this_poolSize, .ref h_this_pool, .int n_this_whole, .ref h_this_placed, .int n_this_bias])), (h_this_text, .inl (cI, 48, .inl f_this_text)), (h_this_result, .inl (cI, 2000, .inl f_this_result)), (h_this_row, .inl (cI, 200, .inl f_this_row)), (h_this_other, .inl (cI, 200, .inl f_this_other)), (h_this_starts, .inl (cI, 50, .inl f_this_starts)), (h_this_sizes, .inl (cI, 50, .inl f_this_sizes)), (h_this_rules, .inl (cI, 50, .inl f_this_rules)), (h_this_tagged, .inl (cZ, 50, .inl f_this_tagged)), (h_this_pool, .inl (cI, 300, .inl f_this_pool)), (h_this_placed, .inl (cZ, 200, .inl f_this_placed))] o) 0 0 (va_A [(h_this, .inr (6, [.int n_this_textSize, .ref h_this_text, .int n_this_size, .ref h_this_result, .int n_this_rowSize, .ref h_this_row, .ref h_this_other, .int n_this_count, .ref h_this_starts, .ref h_this_sizes, .ref h_this_rules, .ref h_this_tagged, .int n_this_poolSize, .ref h_this_pool, .int n_this_whole, .ref h_this_placed, .int n_this_bias])), (h_this_text, .inl (cI, 48, .inl f_this_text)), (h_this_result, .inl (cI, 2000, .inl f_this_result)), (h_this_row, .inl (cI, 200, .inl f_this_row)), (h_this_other, .inl (cI, 200, .inl f_this_other)), (h_this_starts, .inl (cI, 50, .inl f_this_starts)), (h_this_sizes, .inl (cI, 50, .inl f_this_sizes)), (h_this_rules, .inl (cI, 50, .inl f_this_rules)), (h_this_tagged, .inl (cZ, 50, .inl f_this_tagged)), (h_this_pool, .inl (cI, 300, .inl f_this_pool)), (h_this_placed, .inl (cZ, 200, .inl f_this_placed))] sz) := by
  refine hn_ofWz (own := R_Mod) (by decide) rfl (Nat.le_of_ble_eq_true rfl) ?_
  intro p e s m args below meth c A H locs ls Q S hE hl hret
  have hx := S.1
  have hb := S.2.1
  have hown := S.2.2.2.1
  have hl : lv_has ls 7 [(0, .ref h_this), (1, .int a1), (2, .int a2)] := hl
  have hL5 : ∀ (kf : Nat) (v3 : Int32) (v4 : Int32) (H : Heap) (locs : List Loc) (ls : Array Slot), hn_E D (TY cI cZ) tt A s H locs [(h_this, .inr (6, [.int n_this_textSize, .ref h_this_text, .int n_this_size, .ref h_this_result, .int n_this_rowSize, .ref h_this_row, .ref h_this_other, .int n_this_count, .ref h_this_starts, .ref h_this_sizes, .ref h_this_rules, .ref h_this_tagged, .int n_this_poolSize, .ref h_this_pool, .int n_this_whole, .ref h_this_placed, .int n_this_bias])), (h_this_text, .inl (cI, 48, .inl f_this_text)), (h_this_result, .inl (cI, 2000, .inl f_this_result)), (h_this_row, .inl (cI, 200, .inl f_this_row)), (h_this_other, .inl (cI, 200, .inl f_this_other)), (h_this_starts, .inl (cI, 50, .inl f_this_starts)), (h_this_sizes, .inl (cI, 50, .inl f_this_sizes)), (h_this_rules, .inl (cI, 50, .inl f_this_rules)), (h_this_tagged, .inl (cZ, 50, .inl f_this_tagged)), (h_this_pool, .inl (cI, 300, .inl f_this_pool)), (h_this_placed, .inl (cZ, 200, .inl f_this_placed))] → lv_has ls 7 [(0, .ref h_this), (1, .int a1), (2, .int a2), (3, .int v3), (4, .int v4)] → fl2 (P_Mod_allGood_5 f_this_starts f_this_sizes f_this_tagged f_this_pool a1 a2) kf v3 v4 = some o → W p l e rm_Mod_allGood s m args below meth c H locs 0 0 Q (F0 m 5 ls []) := by
    intro kf
    induction kf with
    | zero => intro v3 v4 H locs ls hE hl h; exact no_s h
    | succ kf ih =>
      intro v3 v4 H locs ls hE hl h
      have h : P_Mod_allGood_5 f_this_starts f_this_sizes f_this_tagged f_this_pool a1 a2 (fl2 (P_Mod_allGood_5 f_this_starts f_this_sizes f_this_tagged f_this_pool a1 a2) kf) v3 v4 = some o := h
      generalize fl2 (P_Mod_allGood_5 f_this_starts f_this_sizes f_this_tagged f_this_pool a1 a2) kf = k5 at ih h
      have hk5 := ih
      have hj85 : ∀ (v4 : Int32) (v6 : Int32) (H : Heap) (locs : List Loc) (ls : Array Slot), hn_E D (TY cI cZ) tt A s H locs [(h_this, .inr (6, [.int n_this_textSize, .ref h_this_text, .int n_this_size, .ref h_this_result, .int n_this_rowSize, .ref h_this_row, .ref h_this_other, .int n_this_count, .ref h_this_starts, .ref h_this_sizes, .ref h_this_rules, .ref h_this_tagged, .int n_this_poolSize, .ref h_this_pool, .int n_this_whole, .ref h_this_placed, .int n_this_bias])), (h_this_text, .inl (cI, 48, .inl f_this_text)), (h_this_result, .inl (cI, 2000, .inl f_this_result)), (h_this_row, .inl (cI, 200, .inl f_this_row)), (h_this_other, .inl (cI, 200, .inl f_this_other)), (h_this_starts, .inl (cI, 50, .inl f_this_starts)), (h_this_sizes, .inl (cI, 50, .inl f_this_sizes)), (h_this_rules, .inl (cI, 50, .inl f_this_rules)), (h_this_tagged, .inl (cZ, 50, .inl f_this_tagged)), (h_this_pool, .inl (cI, 300, .inl f_this_pool)), (h_this_placed, .inl (cZ, 200, .inl f_this_placed))] → lv_has ls 7 [(0, .ref h_this), (1, .int a1), (2, .int a2), (4, .int v4), (6, .int v6)] → P_Mod_allGood_85 k5 v4 v6 = some o → W p l e rm_Mod_allGood s m args below meth c H locs 0 0 Q (F0 m 85 ls []) := by
        intro v4 v6 H locs ls hE hl h
        unfold P_Mod_allGood_85 at h
        refine lv_iload hx hb d_Mod_allGood_85 (lv_at hl 4 rfl) ?_
        refine lv_if_eq (tgt := 94) hx hb d_Mod_allGood_87 (by decide) (fun hc => ?_) (fun hc => ?_)
        · have h := ite_t hc h
          refine lv_iconst (v := 0) hx hb d_Mod_allGood_94 (by decide) ?_
          refine lv_istore_n (lv' := [(3, .int (0 : Int32)), (0, .ref h_this), (1, .int a1), (2, .int a2), (4, .int v4), (6, .int v6)]) hx hb d_Mod_allGood_95 rfl hl (by decide) rfl (fun ls hl => ?_)
          refine lv_iinc (v := (v4 + (1 : Int32))) (lv' := [(4, .int (v4 + (1 : Int32))), (3, .int (0 : Int32)), (0, .ref h_this), (1, .int a1), (2, .int a2), (6, .int v6)]) hx hb d_Mod_allGood_96 hl (k := 4) rfl rfl (by decide) rfl (fun ls hl => ?_)
          refine lv_goto (tgt := 5) hx hb d_Mod_allGood_99 (by decide) ?_
          exact hk5 (0 : Int32) (v4 + (1 : Int32)) H locs ls hE (lv_sub hl [2, 3, 4, 1, 0] rfl) h
        · have h := ite_f hc h
          refine lv_iconst (v := 1) hx hb d_Mod_allGood_90 (by decide) ?_
          refine lv_goto (tgt := 95) hx hb d_Mod_allGood_91 (by decide) ?_
          refine lv_istore_n (lv' := [(3, .int (1 : Int32)), (0, .ref h_this), (1, .int a1), (2, .int a2), (4, .int v4), (6, .int v6)]) hx hb d_Mod_allGood_95 rfl hl (by decide) rfl (fun ls hl => ?_)
          refine lv_iinc (v := (v4 + (1 : Int32))) (lv' := [(4, .int (v4 + (1 : Int32))), (3, .int (1 : Int32)), (0, .ref h_this), (1, .int a1), (2, .int a2), (6, .int v6)]) hx hb d_Mod_allGood_96 hl (k := 4) rfl rfl (by decide) rfl (fun ls hl => ?_)
          refine lv_goto (tgt := 5) hx hb d_Mod_allGood_99 (by decide) ?_
          exact hk5 (1 : Int32) (v4 + (1 : Int32)) H locs ls hE (lv_sub hl [2, 3, 4, 1, 0] rfl) h
      have hj55 : ∀ (v3 : Int32) (v4 : Int32) (v5 : Int32) (s0 : Int32) (H : Heap) (locs : List Loc) (ls : Array Slot), hn_E D (TY cI cZ) tt A s H locs [(h_this, .inr (6, [.int n_this_textSize, .ref h_this_text, .int n_this_size, .ref h_this_result, .int n_this_rowSize, .ref h_this_row, .ref h_this_other, .int n_this_count, .ref h_this_starts, .ref h_this_sizes, .ref h_this_rules, .ref h_this_tagged, .int n_this_poolSize, .ref h_this_pool, .int n_this_whole, .ref h_this_placed, .int n_this_bias])), (h_this_text, .inl (cI, 48, .inl f_this_text)), (h_this_result, .inl (cI, 2000, .inl f_this_result)), (h_this_row, .inl (cI, 200, .inl f_this_row)), (h_this_other, .inl (cI, 200, .inl f_this_other)), (h_this_starts, .inl (cI, 50, .inl f_this_starts)), (h_this_sizes, .inl (cI, 50, .inl f_this_sizes)), (h_this_rules, .inl (cI, 50, .inl f_this_rules)), (h_this_tagged, .inl (cZ, 50, .inl f_this_tagged)), (h_this_pool, .inl (cI, 300, .inl f_this_pool)), (h_this_placed, .inl (cZ, 200, .inl f_this_placed))] → lv_has ls 7 [(0, .ref h_this), (1, .int a1), (2, .int a2), (3, .int v3), (4, .int v4), (5, .int v5)] → P_Mod_allGood_55 a2 k5 v3 v4 v5 s0 = some o → W p l e rm_Mod_allGood s m args below meth c H locs 0 0 Q (F0 m 55 ls [.int s0]) := by
        intro v3 v4 v5 s0 H locs ls hE hl h
        unfold P_Mod_allGood_55 at h
        refine lv_istore (lv' := [(6, .int s0), (0, .ref h_this), (1, .int a1), (2, .int a2), (3, .int v3), (4, .int v4), (5, .int v5)]) hx hb d_Mod_allGood_55 hl (by decide) rfl (fun ls hl => ?_)
        refine lv_iload_n hx hb d_Mod_allGood_57 rfl (lv_at hl 4 rfl) ?_
        refine lv_if_eq (tgt := 94) hx hb d_Mod_allGood_58 (by decide) (fun hc => ?_) (fun hc => ?_)
        · have h := ite_t hc h
          refine lv_iconst (v := 0) hx hb d_Mod_allGood_94 (by decide) ?_
          refine lv_istore_n (lv' := [(3, .int (0 : Int32)), (6, .int s0), (0, .ref h_this), (1, .int a1), (2, .int a2), (4, .int v4), (5, .int v5)]) hx hb d_Mod_allGood_95 rfl hl (by decide) rfl (fun ls hl => ?_)
          refine lv_iinc (v := (v4 + (1 : Int32))) (lv' := [(4, .int (v4 + (1 : Int32))), (3, .int (0 : Int32)), (6, .int s0), (0, .ref h_this), (1, .int a1), (2, .int a2), (5, .int v5)]) hx hb d_Mod_allGood_96 hl (k := 5) rfl rfl (by decide) rfl (fun ls hl => ?_)
          refine lv_goto (tgt := 5) hx hb d_Mod_allGood_99 (by decide) ?_
          exact hk5 (0 : Int32) (v4 + (1 : Int32)) H locs ls hE (lv_sub hl [3, 4, 5, 1, 0] rfl) h
        · have h := ite_f hc h
          refine lv_iload hx hb d_Mod_allGood_61 (lv_at hl 6 rfl) ?_
          obtain ⟨x63, hc63, h⟩ := bd_s h
          have hM := (c_Mod_isGood l D cI cZ tt H.size v5 x63 hc63)
          refine hn_cz hE (hn_runS (As := [.int v5]) (rest := []) S hE hM cf_Mod_isGood mw_583 mw_584 ⟨rfl, rfl⟩ ⟨Nat.le_of_ble_eq_true rfl, Nat.le_of_ble_eq_true rfl⟩ [] rfl rfl rfl rfl hl.1 (lv_room (Nat.le_of_ble_eq_true rfl)) d_Mod_allGood_63 ⟨Nat.zero_le _, Nat.zero_le _⟩) [] rfl rfl (fun H locs hz63 hE => ?_)
          have hE : hn_E D (TY cI cZ) tt A s H locs [(h_this, .inr (6, [.int n_this_textSize, .ref h_this_text, .int n_this_size, .ref h_this_result, .int n_this_rowSize, .ref h_this_row, .ref h_this_other, .int n_this_count, .ref h_this_starts, .ref h_this_sizes, .ref h_this_rules, .ref h_this_tagged, .int n_this_poolSize, .ref h_this_pool, .int n_this_whole, .ref h_this_placed, .int n_this_bias])), (h_this_text, .inl (cI, 48, .inl f_this_text)), (h_this_result, .inl (cI, 2000, .inl f_this_result)), (h_this_row, .inl (cI, 200, .inl f_this_row)), (h_this_other, .inl (cI, 200, .inl f_this_other)), (h_this_starts, .inl (cI, 50, .inl f_this_starts)), (h_this_sizes, .inl (cI, 50, .inl f_this_sizes)), (h_this_rules, .inl (cI, 50, .inl f_this_rules)), (h_this_tagged, .inl (cZ, 50, .inl f_this_tagged)), (h_this_pool, .inl (cI, 300, .inl f_this_pool)), (h_this_placed, .inl (cZ, 200, .inl f_this_placed))] := hE
          refine lv_if_ne (tgt := 90) hx hb d_Mod_allGood_66 (by decide) (fun hc => ?_) (fun hc => ?_)
          · have h := ite_f hc h
            refine lv_iconst (v := 1) hx hb d_Mod_allGood_90 (by decide) ?_
            refine lv_goto (tgt := 95) hx hb d_Mod_allGood_91 (by decide) ?_
            refine lv_istore_n (lv' := [(3, .int (1 : Int32)), (6, .int s0), (0, .ref h_this), (1, .int a1), (2, .int a2), (4, .int v4), (5, .int v5)]) hx hb d_Mod_allGood_95 rfl hl (by decide) rfl (fun ls hl => ?_)
            refine lv_iinc (v := (v4 + (1 : Int32))) (lv' := [(4, .int (v4 + (1 : Int32))), (3, .int (1 : Int32)), (6, .int s0), (0, .ref h_this), (1, .int a1), (2, .int a2), (5, .int v5)]) hx hb d_Mod_allGood_96 hl (k := 5) rfl rfl (by decide) rfl (fun ls hl => ?_)
            refine lv_goto (tgt := 5) hx hb d_Mod_allGood_99 (by decide) ?_
            exact hk5 (1 : Int32) (v4 + (1 : Int32)) H locs ls hE (lv_sub hl [3, 4, 5, 1, 0] rfl) h
          · have h := ite_t hc h
            refine lv_iload hx hb d_Mod_allGood_69 (lv_at hl 6 rfl) ?_
            obtain ⟨x71, hc71, h⟩ := bd_s h
            have hM := (c_Mod_isPlain l D cI cZ tt H.size v5 x71 hc71)
            refine hn_cz hE (hn_runS (As := [.int v5]) (rest := []) S hE hM cf_Mod_isPlain mw_580 mw_581 ⟨rfl, rfl⟩ ⟨Nat.le_of_ble_eq_true rfl, Nat.le_of_ble_eq_true rfl⟩ [] rfl rfl rfl rfl hl.1 (lv_room (Nat.le_of_ble_eq_true rfl)) d_Mod_allGood_71 ⟨Nat.zero_le _, Nat.zero_le _⟩) [] rfl rfl (fun H locs hz71 hE => ?_)
            have hE : hn_E D (TY cI cZ) tt A s H locs [(h_this, .inr (6, [.int n_this_textSize, .ref h_this_text, .int n_this_size, .ref h_this_result, .int n_this_rowSize, .ref h_this_row, .ref h_this_other, .int n_this_count, .ref h_this_starts, .ref h_this_sizes, .ref h_this_rules, .ref h_this_tagged, .int n_this_poolSize, .ref h_this_pool, .int n_this_whole, .ref h_this_placed, .int n_this_bias])), (h_this_text, .inl (cI, 48, .inl f_this_text)), (h_this_result, .inl (cI, 2000, .inl f_this_result)), (h_this_row, .inl (cI, 200, .inl f_this_row)), (h_this_other, .inl (cI, 200, .inl f_this_other)), (h_this_starts, .inl (cI, 50, .inl f_this_starts)), (h_this_sizes, .inl (cI, 50, .inl f_this_sizes)), (h_this_rules, .inl (cI, 50, .inl f_this_rules)), (h_this_tagged, .inl (cZ, 50, .inl f_this_tagged)), (h_this_pool, .inl (cI, 300, .inl f_this_pool)), (h_this_placed, .inl (cZ, 200, .inl f_this_placed))] := hE
            refine lv_if_eq (tgt := 85) hx hb d_Mod_allGood_74 (by decide) (fun hc => ?_) (fun hc => ?_)
            · have h := ite_t hc h
              exact hj85 v4 s0 H locs ls hE (lv_sub hl [1, 2, 3, 5, 0] rfl) h
            · have h := ite_f hc h
              refine lv_iload_n hx hb d_Mod_allGood_77 rfl (lv_at hl 3 rfl) ?_
              refine lv_iconst (v := 1) hx hb d_Mod_allGood_78 (by decide) ?_
              obtain ⟨x79, hc79, h⟩ := bd_s h
              have hM := (c_Mod_on l D cI cZ tt H.size a2 (1 : Int32) x79 hc79)
              refine hn_cz hE (hn_runS (As := [.int a2, .int (1 : Int32)]) (rest := []) S hE hM cf_Mod_on mw_567 mw_568 ⟨rfl, rfl⟩ ⟨Nat.le_of_ble_eq_true rfl, Nat.le_of_ble_eq_true rfl⟩ [] rfl rfl rfl rfl hl.1 (lv_room (Nat.le_of_ble_eq_true rfl)) d_Mod_allGood_79 ⟨Nat.zero_le _, Nat.zero_le _⟩) [] rfl rfl (fun H locs hz79 hE => ?_)
              have hE : hn_E D (TY cI cZ) tt A s H locs [(h_this, .inr (6, [.int n_this_textSize, .ref h_this_text, .int n_this_size, .ref h_this_result, .int n_this_rowSize, .ref h_this_row, .ref h_this_other, .int n_this_count, .ref h_this_starts, .ref h_this_sizes, .ref h_this_rules, .ref h_this_tagged, .int n_this_poolSize, .ref h_this_pool, .int n_this_whole, .ref h_this_placed, .int n_this_bias])), (h_this_text, .inl (cI, 48, .inl f_this_text)), (h_this_result, .inl (cI, 2000, .inl f_this_result)), (h_this_row, .inl (cI, 200, .inl f_this_row)), (h_this_other, .inl (cI, 200, .inl f_this_other)), (h_this_starts, .inl (cI, 50, .inl f_this_starts)), (h_this_sizes, .inl (cI, 50, .inl f_this_sizes)), (h_this_rules, .inl (cI, 50, .inl f_this_rules)), (h_this_tagged, .inl (cZ, 50, .inl f_this_tagged)), (h_this_pool, .inl (cI, 300, .inl f_this_pool)), (h_this_placed, .inl (cZ, 200, .inl f_this_placed))] := hE
              refine lv_if_eq (tgt := 90) hx hb d_Mod_allGood_82 (by decide) (fun hc => ?_) (fun hc => ?_)
              · have h := ite_t hc h
                refine lv_iconst (v := 1) hx hb d_Mod_allGood_90 (by decide) ?_
                refine lv_goto (tgt := 95) hx hb d_Mod_allGood_91 (by decide) ?_
                refine lv_istore_n (lv' := [(3, .int (1 : Int32)), (6, .int s0), (0, .ref h_this), (1, .int a1), (2, .int a2), (4, .int v4), (5, .int v5)]) hx hb d_Mod_allGood_95 rfl hl (by decide) rfl (fun ls hl => ?_)
                refine lv_iinc (v := (v4 + (1 : Int32))) (lv' := [(4, .int (v4 + (1 : Int32))), (3, .int (1 : Int32)), (6, .int s0), (0, .ref h_this), (1, .int a1), (2, .int a2), (5, .int v5)]) hx hb d_Mod_allGood_96 hl (k := 5) rfl rfl (by decide) rfl (fun ls hl => ?_)
                refine lv_goto (tgt := 5) hx hb d_Mod_allGood_99 (by decide) ?_
                exact hk5 (1 : Int32) (v4 + (1 : Int32)) H locs ls hE (lv_sub hl [3, 4, 5, 1, 0] rfl) h
              · have h := ite_f hc h
                exact hj85 v4 s0 H locs ls hE (lv_sub hl [1, 2, 3, 5, 0] rfl) h
      unfold P_Mod_allGood_5 at h
      refine lv_iload hx hb d_Mod_allGood_5 (lv_at hl 4 rfl) ?_
      refine lv_aload_n hx hb d_Mod_allGood_7 rfl (lv_at hl 0 rfl) ?_
      refine hn_get S hE kc_Mod 0 rfl rfl 9 (by decide) mw_495 rfl d_Mod_allGood_8 ?_
      refine lv_iload_n hx hb d_Mod_allGood_11 rfl (lv_at hl 1 rfl) ?_
      obtain ⟨hi12, h⟩ := gi_s h
      refine hn_iald S hE 6 0 rfl rfl hi12 d_Mod_allGood_12 ?_
      refine lv_icmp_ge (tgt := 102) hx hb d_Mod_allGood_13 (by decide) (fun hc => ?_) (fun hc => ?_)
      · have h := ite_t hc h
        refine lv_iload_n hx hb d_Mod_allGood_102 rfl (lv_at hl 3 rfl) ?_
        obtain ⟨hz103, h⟩ := gb_s h
        obtain rfl := Option.some.inj h
        exact hret H locs ls 103 d_Mod_allGood_103 hz103 hE
      · have h := ite_f hc h
        refine lv_aload_n hx hb d_Mod_allGood_16 rfl (lv_at hl 0 rfl) ?_
        refine lv_iload_n hx hb d_Mod_allGood_17 rfl (lv_at hl 1 rfl) ?_
        refine lv_iload hx hb d_Mod_allGood_18 (lv_at hl 4 rfl) ?_
        obtain ⟨x20, hc20, h⟩ := bd_s h
        have hM := (c_Mod_codeOf l D cI cZ tt h_this h_this_text h_this_result h_this_row h_this_other h_this_starts h_this_sizes h_this_rules h_this_tagged h_this_pool h_this_placed H.size n_this_textSize n_this_size n_this_rowSize n_this_count n_this_poolSize n_this_whole n_this_bias f_this_text f_this_result f_this_row f_this_other f_this_starts f_this_sizes f_this_rules f_this_tagged f_this_pool f_this_placed a1 v4 x20 hc20)
        refine hn_ci hE (hn_runV (As := [.int a1, .int v4]) (rest := []) S hE hM cf_Mod_codeOf mw_649 mw_651 ms_31 ⟨rfl, rfl⟩ ⟨Nat.le_of_ble_eq_true rfl, Nat.le_of_ble_eq_true rfl⟩ [0, 1, 2, 3, 4, 5, 6, 7, 8, 9, 10] rfl rfl rfl rfl rfl rfl hl.1 (lv_room (Nat.le_of_ble_eq_true rfl)) d_Mod_allGood_20 ⟨Nat.zero_le _, Nat.zero_le _⟩) [0, 1, 2, 3, 4, 5, 6, 7, 8, 9, 10] rfl rfl (fun H locs hE => ?_)
        have hE : hn_E D (TY cI cZ) tt A s H locs [(h_this, .inr (6, [.int n_this_textSize, .ref h_this_text, .int n_this_size, .ref h_this_result, .int n_this_rowSize, .ref h_this_row, .ref h_this_other, .int n_this_count, .ref h_this_starts, .ref h_this_sizes, .ref h_this_rules, .ref h_this_tagged, .int n_this_poolSize, .ref h_this_pool, .int n_this_whole, .ref h_this_placed, .int n_this_bias])), (h_this_text, .inl (cI, 48, .inl f_this_text)), (h_this_result, .inl (cI, 2000, .inl f_this_result)), (h_this_row, .inl (cI, 200, .inl f_this_row)), (h_this_other, .inl (cI, 200, .inl f_this_other)), (h_this_starts, .inl (cI, 50, .inl f_this_starts)), (h_this_sizes, .inl (cI, 50, .inl f_this_sizes)), (h_this_rules, .inl (cI, 50, .inl f_this_rules)), (h_this_tagged, .inl (cZ, 50, .inl f_this_tagged)), (h_this_pool, .inl (cI, 300, .inl f_this_pool)), (h_this_placed, .inl (cZ, 200, .inl f_this_placed))] := hE
        refine lv_istore (lv' := [(5, .int x20), (0, .ref h_this), (1, .int a1), (2, .int a2), (3, .int v3), (4, .int v4)]) hx hb d_Mod_allGood_23 hl (by decide) rfl (fun ls hl => ?_)
        refine lv_iload hx hb d_Mod_allGood_25 (lv_at hl 0 rfl) ?_
        obtain ⟨x27, hc27, h⟩ := bd_s h
        have hM := (c_Mod_isOdd l D cI cZ tt H.size x20 x27 hc27)
        refine hn_cz hE (hn_runS (As := [.int x20]) (rest := []) S hE hM cf_Mod_isOdd mw_564 mw_565 ⟨rfl, rfl⟩ ⟨Nat.le_of_ble_eq_true rfl, Nat.le_of_ble_eq_true rfl⟩ [] rfl rfl rfl rfl hl.1 (lv_room (Nat.le_of_ble_eq_true rfl)) d_Mod_allGood_27 ⟨Nat.zero_le _, Nat.zero_le _⟩) [] rfl rfl (fun H locs hz27 hE => ?_)
        have hE : hn_E D (TY cI cZ) tt A s H locs [(h_this, .inr (6, [.int n_this_textSize, .ref h_this_text, .int n_this_size, .ref h_this_result, .int n_this_rowSize, .ref h_this_row, .ref h_this_other, .int n_this_count, .ref h_this_starts, .ref h_this_sizes, .ref h_this_rules, .ref h_this_tagged, .int n_this_poolSize, .ref h_this_pool, .int n_this_whole, .ref h_this_placed, .int n_this_bias])), (h_this_text, .inl (cI, 48, .inl f_this_text)), (h_this_result, .inl (cI, 2000, .inl f_this_result)), (h_this_row, .inl (cI, 200, .inl f_this_row)), (h_this_other, .inl (cI, 200, .inl f_this_other)), (h_this_starts, .inl (cI, 50, .inl f_this_starts)), (h_this_sizes, .inl (cI, 50, .inl f_this_sizes)), (h_this_rules, .inl (cI, 50, .inl f_this_rules)), (h_this_tagged, .inl (cZ, 50, .inl f_this_tagged)), (h_this_pool, .inl (cI, 300, .inl f_this_pool)), (h_this_placed, .inl (cZ, 200, .inl f_this_placed))] := hE
        refine lv_if_eq (tgt := 54) hx hb d_Mod_allGood_30 (by decide) (fun hc => ?_) (fun hc => ?_)
        · have h := ite_t hc h
          refine lv_iconst (v := 0) hx hb d_Mod_allGood_54 (by decide) ?_
          exact hj55 v3 v4 x20 (0 : Int32) H locs ls hE (lv_sub hl [1, 2, 3, 4, 5, 0] rfl) h
        · have h := ite_f hc h
          refine lv_aload_n hx hb d_Mod_allGood_33 rfl (lv_at hl 1 rfl) ?_
          refine hn_get S hE kc_Mod 0 rfl rfl 11 (by decide) mw_497 rfl d_Mod_allGood_34 ?_
          refine lv_iload_n hx hb d_Mod_allGood_37 rfl (lv_at hl 2 rfl) ?_
          obtain ⟨hi38, h⟩ := gi_s h
          refine hn_zald S hE 8 1 rfl rfl hi38 d_Mod_allGood_38 ?_
          refine lv_if_ne (tgt := 50) hx hb d_Mod_allGood_39 (by decide) (fun hc => ?_) (fun hc => ?_)
          · have h := ite_f hc h
            refine lv_iconst (v := 1) hx hb d_Mod_allGood_50 (by decide) ?_
            refine lv_goto (tgt := 55) hx hb d_Mod_allGood_51 (by decide) ?_
            exact hj55 v3 v4 x20 (1 : Int32) H locs ls hE (lv_sub hl [1, 2, 3, 4, 5, 0] rfl) h
          · have h := ite_t hc h
            refine lv_iload_n hx hb d_Mod_allGood_42 rfl (lv_at hl 3 rfl) ?_
            refine lv_iconst (v := 2) hx hb d_Mod_allGood_43 (by decide) ?_
            obtain ⟨x44, hc44, h⟩ := bd_s h
            have hM := (c_Mod_on l D cI cZ tt H.size a2 (2 : Int32) x44 hc44)
            refine hn_cz hE (hn_runS (As := [.int a2, .int (2 : Int32)]) (rest := []) S hE hM cf_Mod_on mw_567 mw_568 ⟨rfl, rfl⟩ ⟨Nat.le_of_ble_eq_true rfl, Nat.le_of_ble_eq_true rfl⟩ [] rfl rfl rfl rfl hl.1 (lv_room (Nat.le_of_ble_eq_true rfl)) d_Mod_allGood_44 ⟨Nat.zero_le _, Nat.zero_le _⟩) [] rfl rfl (fun H locs hz44 hE => ?_)
            have hE : hn_E D (TY cI cZ) tt A s H locs [(h_this, .inr (6, [.int n_this_textSize, .ref h_this_text, .int n_this_size, .ref h_this_result, .int n_this_rowSize, .ref h_this_row, .ref h_this_other, .int n_this_count, .ref h_this_starts, .ref h_this_sizes, .ref h_this_rules, .ref h_this_tagged, .int n_this_poolSize, .ref h_this_pool, .int n_this_whole, .ref h_this_placed, .int n_this_bias])), (h_this_text, .inl (cI, 48, .inl f_this_text)), (h_this_result, .inl (cI, 2000, .inl f_this_result)), (h_this_row, .inl (cI, 200, .inl f_this_row)), (h_this_other, .inl (cI, 200, .inl f_this_other)), (h_this_starts, .inl (cI, 50, .inl f_this_starts)), (h_this_sizes, .inl (cI, 50, .inl f_this_sizes)), (h_this_rules, .inl (cI, 50, .inl f_this_rules)), (h_this_tagged, .inl (cZ, 50, .inl f_this_tagged)), (h_this_pool, .inl (cI, 300, .inl f_this_pool)), (h_this_placed, .inl (cZ, 200, .inl f_this_placed))] := hE
            refine lv_if_ne (tgt := 54) hx hb d_Mod_allGood_47 (by decide) (fun hc => ?_) (fun hc => ?_)
            · have h := ite_f hc h
              refine lv_iconst (v := 0) hx hb d_Mod_allGood_54 (by decide) ?_
              exact hj55 v3 v4 x20 (0 : Int32) H locs ls hE (lv_sub hl [1, 2, 3, 4, 5, 0] rfl) h
            · have h := ite_t hc h
              refine lv_iconst (v := 1) hx hb d_Mod_allGood_50 (by decide) ?_
              refine lv_goto (tgt := 55) hx hb d_Mod_allGood_51 (by decide) ?_
              exact hj55 v3 v4 x20 (1 : Int32) H locs ls hE (lv_sub hl [1, 2, 3, 4, 5, 0] rfl) h
  unfold P_Mod_allGood at h
  refine lv_iconst (v := 1) hx hb d_Mod_allGood_0 (by decide) ?_
  refine lv_istore_n (lv' := [(3, .int (1 : Int32)), (0, .ref h_this), (1, .int a1), (2, .int a2)]) hx hb d_Mod_allGood_1 rfl hl (by decide) rfl (fun ls hl => ?_)
  refine lv_iconst (v := 0) hx hb d_Mod_allGood_2 (by decide) ?_
  refine lv_istore (lv' := [(4, .int (0 : Int32)), (3, .int (1 : Int32)), (0, .ref h_this), (1, .int a1), (2, .int a2)]) hx hb d_Mod_allGood_3 hl (by decide) rfl (fun ls hl => ?_)
  exact hL5 fu (1 : Int32) (0 : Int32) H locs ls hE (lv_sub hl [2, 3, 4, 1, 0] rfl) h
abbrev rm_Mod_across : Room := { frames := 1, cells := 0, slots := 0, locals := 22 }
theorem cf_Mod_across : hn_CF y_Mod_across b_Mod_across 5 (some .int) 3 := ⟨mw_679, mw_7, by decide, by decide, by decide +kernel⟩
set_option maxHeartbeats 4000000 in
set_option maxRecDepth 100000 in
theorem c_Mod_across (l : Launch) (D : va_G) (cI cZ : ClassId) (tt : Nat → Nat) (h_this h_this_text h_this_result h_this_row h_this_other h_this_starts h_this_sizes h_this_rules h_this_tagged h_this_pool h_this_placed : Nat) (sz : Nat) (n_this_textSize : Int32) (n_this_size : Int32) (n_this_rowSize : Int32) (n_this_count : Int32) (n_this_poolSize : Int32) (n_this_whole : Int32) (n_this_bias : Int32) (f_this_text : Nat → Int32) (f_this_result : Nat → Int32) (f_this_row : Nat → Int32) (f_this_other : Nat → Int32) (f_this_starts : Nat → Int32) (f_this_sizes : Nat → Int32) (f_this_rules : Nat → Int32) (f_this_tagged : Nat → Int32) (f_this_pool : Nat → Int32) (f_this_placed : Nat → Int32) (a1 : Int32) (a2 : Int32) (a3 : Int32) (o : Int32) (h : P_Mod_across f_this_starts f_this_sizes f_this_pool a1 a2 a3 = some o) : Met l y_Mod_across (hn_w y_Mod_across b_Mod_across 5 (some .int)) rm_Mod_across (hn_Pc D (TY cI cZ) tt [.ref h_this, .int a1, .int a2, .int a3] sz [(h_this, .inr (6, [.int n_this_textSize, .ref h_this_text, .int n_this_size, .ref h_this_result, .int n_this_rowSize, .ref h_this_row, .ref h_this_other, .int n_this_count, .ref h_this_starts, .ref h_this_sizes, .ref h_this_rules, .ref h_this_tagged, .int n_this_poolSize, .ref h_this_pool, .int n_this_whole, .ref h_this_placed, .int n_this_bias])), (h_this_text, .inl (cI, 48, .inl f_this_text)), (h_this_result, .inl (cI, 2000, .inl f_this_result)), (h_this_row, .inl (cI, 200, .inl f_this_row)), (h_this_other, .inl (cI, 200, .inl f_this_other)), (h_this_starts, .inl (cI, 50, .inl f_this_starts)), (h_this_sizes, .inl (cI, 50, .inl f_this_sizes)), (h_this_rules, .inl (cI, 50, .inl f_this_rules)), (h_this_tagged, .inl (cZ, 50, .inl f_this_tagged)), (h_this_pool, .inl (cI, 300, .inl f_this_pool)), (h_this_placed, .inl (cZ, 200, .inl f_this_placed))]) (hn_Qi D [(h_this, .inr (6, [.int n_this_textSize, .ref h_this_text, .int n_this_size, .ref h_this_result, .int n_this_rowSize, .ref h_this_row, .ref h_this_other, .int n_this_count, .ref h_this_starts, .ref h_this_sizes, .ref h_this_rules, .ref h_this_tagged, .int n_this_poolSize, .ref h_this_pool, .int n_this_whole, .ref h_this_placed, .int n_this_bias])), (h_this_text, .inl (cI, 48, .inl f_this_text)), (h_this_result, .inl (cI, 2000, .inl f_this_result)), (h_this_row, .inl (cI, 200, .inl f_this_row)), (h_this_other, .inl (cI, 200, .inl f_this_other)), (h_this_starts, .inl (cI, 50, .inl f_this_starts)), (h_this_sizes, .inl (cI, 50, .inl f_this_sizes)), (h_this_rules, .inl (cI, 50, .inl f_this_rules)), (h_this_tagged, .inl (cZ, 50, .inl f_this_tagged)), (h_this_pool, .inl (cI, 300, .inl f_this_pool)), (h_this_placed, .inl (cZ, 200, .inl f_this_placed))] sz [(h_this, .inr (6, [.int n_this_textSize, .ref h_this_text, .int n_this_size, .ref h_this_result, .int n_this_rowSize, .ref h_this_row, .ref h_this_other, .int n_this_count, .ref h_this_starts, .ref h_this_sizes, .ref h_this_rules, .ref h_this_tagged, .int n_this_poolSize, .ref h_this_pool, .int n_this_whole, .ref h_this_placed, .int n_this_bias])), (h_this_text, .inl (cI, 48, .inl f_this_text)), (h_this_result, .inl (cI, 2000, .inl f_this_result)), (h_this_row, .inl (cI, 200, .inl f_this_row)), (h_this_other, .inl (cI, 200, .inl f_this_other)), (h_this_starts, .inl (cI, 50, .inl f_this_starts)), (h_this_sizes, .inl (cI, 50, .inl f_this_sizes)), (h_this_rules, .inl (cI, 50, .inl f_this_rules)), (h_this_tagged, .inl (cZ, 50, .inl f_this_tagged)), (h_this_pool, .inl (cI, 300, .inl f_this_pool)), (h_this_placed, .inl (cZ, 200, .inl f_this_placed))] o) 0 0 (va_A [(h_this, .inr (6, [.int n_this_textSize, .ref h_this_text, .int n_this_size, .ref h_this_result, .int n_this_rowSize, .ref h_this_row, .ref h_this_other, .int n_this_count, .ref h_this_starts, .ref h_this_sizes, .ref h_this_rules, .ref h_this_tagged, .int n_this_poolSize, .ref h_this_pool, .int n_this_whole, .ref h_this_placed, .int n_this_bias])), (h_this_text, .inl (cI, 48, .inl f_this_text)), (h_this_result, .inl (cI, 2000, .inl f_this_result)), (h_this_row, .inl (cI, 200, .inl f_this_row)), (h_this_other, .inl (cI, 200, .inl f_this_other)), (h_this_starts, .inl (cI, 50, .inl f_this_starts)), (h_this_sizes, .inl (cI, 50, .inl f_this_sizes)), (h_this_rules, .inl (cI, 50, .inl f_this_rules)), (h_this_tagged, .inl (cZ, 50, .inl f_this_tagged)), (h_this_pool, .inl (cI, 300, .inl f_this_pool)), (h_this_placed, .inl (cZ, 200, .inl f_this_placed))] sz) := by
  refine hn_ofWi (own := R_Mod) (by decide) rfl (Nat.le_of_ble_eq_true rfl) ?_
  intro p e s m args below meth c A H locs ls Q S hE hl hret
  have hx := S.1
  have hb := S.2.1
  have hown := S.2.2.2.1
  have hl : lv_has ls 5 [(0, .ref h_this), (1, .int a1), (2, .int a2), (3, .int a3)] := hl
  have hj44 : ∀ (v4 : Int32) (H : Heap) (locs : List Loc) (ls : Array Slot), hn_E D (TY cI cZ) tt A s H locs [(h_this, .inr (6, [.int n_this_textSize, .ref h_this_text, .int n_this_size, .ref h_this_result, .int n_this_rowSize, .ref h_this_row, .ref h_this_other, .int n_this_count, .ref h_this_starts, .ref h_this_sizes, .ref h_this_rules, .ref h_this_tagged, .int n_this_poolSize, .ref h_this_pool, .int n_this_whole, .ref h_this_placed, .int n_this_bias])), (h_this_text, .inl (cI, 48, .inl f_this_text)), (h_this_result, .inl (cI, 2000, .inl f_this_result)), (h_this_row, .inl (cI, 200, .inl f_this_row)), (h_this_other, .inl (cI, 200, .inl f_this_other)), (h_this_starts, .inl (cI, 50, .inl f_this_starts)), (h_this_sizes, .inl (cI, 50, .inl f_this_sizes)), (h_this_rules, .inl (cI, 50, .inl f_this_rules)), (h_this_tagged, .inl (cZ, 50, .inl f_this_tagged)), (h_this_pool, .inl (cI, 300, .inl f_this_pool)), (h_this_placed, .inl (cZ, 200, .inl f_this_placed))] → lv_has ls 5 [(0, .ref h_this), (1, .int a1), (4, .int v4)] → P_Mod_across_44 f_this_starts f_this_sizes f_this_pool a1 v4 = some o → W p l e rm_Mod_across s m args below meth c H locs 0 0 Q (F0 m 44 ls []) := by
    intro v4 H locs ls hE hl h
    unfold P_Mod_across_44 at h
    refine lv_iload hx hb d_Mod_across_44 (lv_at hl 2 rfl) ?_
    refine lv_if_lt (tgt := 70) hx hb d_Mod_across_46 (by decide) (fun hc => ?_) (fun hc => ?_)
    · have h := ite_t hc h
      refine lv_iconst (v := -1) hx hb d_Mod_across_70 (by decide) ?_
      obtain rfl := Option.some.inj h
      exact hret H locs ls 71 d_Mod_across_71 hE
    · have h := ite_f hc h
      refine lv_iload hx hb d_Mod_across_49 (lv_at hl 2 rfl) ?_
      refine lv_aload_n hx hb d_Mod_across_51 rfl (lv_at hl 0 rfl) ?_
      refine hn_get S hE kc_Mod 0 rfl rfl 9 (by decide) mw_495 rfl d_Mod_across_52 ?_
      refine lv_iload_n hx hb d_Mod_across_55 rfl (lv_at hl 1 rfl) ?_
      obtain ⟨hi56, h⟩ := gi_s h
      refine hn_iald S hE 6 0 rfl rfl hi56 d_Mod_across_56 ?_
      refine lv_icmp_ge (tgt := 70) hx hb d_Mod_across_57 (by decide) (fun hc => ?_) (fun hc => ?_)
      · have h := ite_t hc h
        refine lv_iconst (v := -1) hx hb d_Mod_across_70 (by decide) ?_
        obtain rfl := Option.some.inj h
        exact hret H locs ls 71 d_Mod_across_71 hE
      · have h := ite_f hc h
        refine lv_aload_n hx hb d_Mod_across_60 rfl (lv_at hl 0 rfl) ?_
        refine lv_iload_n hx hb d_Mod_across_61 rfl (lv_at hl 1 rfl) ?_
        refine lv_iload hx hb d_Mod_across_62 (lv_at hl 2 rfl) ?_
        obtain ⟨x64, hc64, h⟩ := bd_s h
        have hM := (c_Mod_codeOf l D cI cZ tt h_this h_this_text h_this_result h_this_row h_this_other h_this_starts h_this_sizes h_this_rules h_this_tagged h_this_pool h_this_placed H.size n_this_textSize n_this_size n_this_rowSize n_this_count n_this_poolSize n_this_whole n_this_bias f_this_text f_this_result f_this_row f_this_other f_this_starts f_this_sizes f_this_rules f_this_tagged f_this_pool f_this_placed a1 v4 x64 hc64)
        refine hn_ci hE (hn_runV (As := [.int a1, .int v4]) (rest := []) S hE hM cf_Mod_codeOf mw_649 mw_651 ms_31 ⟨rfl, rfl⟩ ⟨Nat.le_of_ble_eq_true rfl, Nat.le_of_ble_eq_true rfl⟩ [0, 1, 2, 3, 4, 5, 6, 7, 8, 9, 10] rfl rfl rfl rfl rfl rfl hl.1 (lv_room (Nat.le_of_ble_eq_true rfl)) d_Mod_across_64 ⟨Nat.zero_le _, Nat.zero_le _⟩) [0, 1, 2, 3, 4, 5, 6, 7, 8, 9, 10] rfl rfl (fun H locs hE => ?_)
        have hE : hn_E D (TY cI cZ) tt A s H locs [(h_this, .inr (6, [.int n_this_textSize, .ref h_this_text, .int n_this_size, .ref h_this_result, .int n_this_rowSize, .ref h_this_row, .ref h_this_other, .int n_this_count, .ref h_this_starts, .ref h_this_sizes, .ref h_this_rules, .ref h_this_tagged, .int n_this_poolSize, .ref h_this_pool, .int n_this_whole, .ref h_this_placed, .int n_this_bias])), (h_this_text, .inl (cI, 48, .inl f_this_text)), (h_this_result, .inl (cI, 2000, .inl f_this_result)), (h_this_row, .inl (cI, 200, .inl f_this_row)), (h_this_other, .inl (cI, 200, .inl f_this_other)), (h_this_starts, .inl (cI, 50, .inl f_this_starts)), (h_this_sizes, .inl (cI, 50, .inl f_this_sizes)), (h_this_rules, .inl (cI, 50, .inl f_this_rules)), (h_this_tagged, .inl (cZ, 50, .inl f_this_tagged)), (h_this_pool, .inl (cI, 300, .inl f_this_pool)), (h_this_placed, .inl (cZ, 200, .inl f_this_placed))] := hE
        refine lv_goto (tgt := 71) hx hb d_Mod_across_67 (by decide) ?_
        obtain rfl := Option.some.inj h
        exact hret H locs ls 71 d_Mod_across_71 hE
  have hL5 : ∀ (kf : Nat) (v4 : Int32) (H : Heap) (locs : List Loc) (ls : Array Slot), hn_E D (TY cI cZ) tt A s H locs [(h_this, .inr (6, [.int n_this_textSize, .ref h_this_text, .int n_this_size, .ref h_this_result, .int n_this_rowSize, .ref h_this_row, .ref h_this_other, .int n_this_count, .ref h_this_starts, .ref h_this_sizes, .ref h_this_rules, .ref h_this_tagged, .int n_this_poolSize, .ref h_this_pool, .int n_this_whole, .ref h_this_placed, .int n_this_bias])), (h_this_text, .inl (cI, 48, .inl f_this_text)), (h_this_result, .inl (cI, 2000, .inl f_this_result)), (h_this_row, .inl (cI, 200, .inl f_this_row)), (h_this_other, .inl (cI, 200, .inl f_this_other)), (h_this_starts, .inl (cI, 50, .inl f_this_starts)), (h_this_sizes, .inl (cI, 50, .inl f_this_sizes)), (h_this_rules, .inl (cI, 50, .inl f_this_rules)), (h_this_tagged, .inl (cZ, 50, .inl f_this_tagged)), (h_this_pool, .inl (cI, 300, .inl f_this_pool)), (h_this_placed, .inl (cZ, 200, .inl f_this_placed))] → lv_has ls 5 [(0, .ref h_this), (1, .int a1), (3, .int a3), (4, .int v4)] → fl1 (P_Mod_across_5 f_this_starts f_this_sizes f_this_pool a1 a3) kf v4 = some o → W p l e rm_Mod_across s m args below meth c H locs 0 0 Q (F0 m 5 ls []) := by
    intro kf
    induction kf with
    | zero => intro v4 H locs ls hE hl h; exact no_s h
    | succ kf ih =>
      intro v4 H locs ls hE hl h
      have h : P_Mod_across_5 f_this_starts f_this_sizes f_this_pool a1 a3 (fl1 (P_Mod_across_5 f_this_starts f_this_sizes f_this_pool a1 a3) kf) v4 = some o := h
      generalize fl1 (P_Mod_across_5 f_this_starts f_this_sizes f_this_pool a1 a3) kf = k5 at ih h
      have hk5 := ih
      unfold P_Mod_across_5 at h
      refine lv_iload hx hb d_Mod_across_5 (lv_at hl 3 rfl) ?_
      refine lv_if_lt (tgt := 44) hx hb d_Mod_across_7 (by decide) (fun hc => ?_) (fun hc => ?_)
      · have h := ite_t hc h
        exact hj44 v4 H locs ls hE (lv_sub hl [0, 1, 3] rfl) h
      · have h := ite_f hc h
        refine lv_iload hx hb d_Mod_across_10 (lv_at hl 3 rfl) ?_
        refine lv_aload_n hx hb d_Mod_across_12 rfl (lv_at hl 0 rfl) ?_
        refine hn_get S hE kc_Mod 0 rfl rfl 9 (by decide) mw_495 rfl d_Mod_across_13 ?_
        refine lv_iload_n hx hb d_Mod_across_16 rfl (lv_at hl 1 rfl) ?_
        obtain ⟨hi17, h⟩ := gi_s h
        refine hn_iald S hE 6 0 rfl rfl hi17 d_Mod_across_17 ?_
        refine lv_icmp_ge (tgt := 44) hx hb d_Mod_across_18 (by decide) (fun hc => ?_) (fun hc => ?_)
        · have h := ite_t hc h
          exact hj44 v4 H locs ls hE (lv_sub hl [0, 1, 3] rfl) h
        · have h := ite_f hc h
          refine lv_aload_n hx hb d_Mod_across_21 rfl (lv_at hl 0 rfl) ?_
          refine lv_iload_n hx hb d_Mod_across_22 rfl (lv_at hl 1 rfl) ?_
          refine lv_iload hx hb d_Mod_across_23 (lv_at hl 3 rfl) ?_
          obtain ⟨x25, hc25, h⟩ := bd_s h
          have hM := (c_Mod_codeOf l D cI cZ tt h_this h_this_text h_this_result h_this_row h_this_other h_this_starts h_this_sizes h_this_rules h_this_tagged h_this_pool h_this_placed H.size n_this_textSize n_this_size n_this_rowSize n_this_count n_this_poolSize n_this_whole n_this_bias f_this_text f_this_result f_this_row f_this_other f_this_starts f_this_sizes f_this_rules f_this_tagged f_this_pool f_this_placed a1 v4 x25 hc25)
          refine hn_ci hE (hn_runV (As := [.int a1, .int v4]) (rest := []) S hE hM cf_Mod_codeOf mw_649 mw_651 ms_31 ⟨rfl, rfl⟩ ⟨Nat.le_of_ble_eq_true rfl, Nat.le_of_ble_eq_true rfl⟩ [0, 1, 2, 3, 4, 5, 6, 7, 8, 9, 10] rfl rfl rfl rfl rfl rfl hl.1 (lv_room (Nat.le_of_ble_eq_true rfl)) d_Mod_across_25 ⟨Nat.zero_le _, Nat.zero_le _⟩) [0, 1, 2, 3, 4, 5, 6, 7, 8, 9, 10] rfl rfl (fun H locs hE => ?_)
          have hE : hn_E D (TY cI cZ) tt A s H locs [(h_this, .inr (6, [.int n_this_textSize, .ref h_this_text, .int n_this_size, .ref h_this_result, .int n_this_rowSize, .ref h_this_row, .ref h_this_other, .int n_this_count, .ref h_this_starts, .ref h_this_sizes, .ref h_this_rules, .ref h_this_tagged, .int n_this_poolSize, .ref h_this_pool, .int n_this_whole, .ref h_this_placed, .int n_this_bias])), (h_this_text, .inl (cI, 48, .inl f_this_text)), (h_this_result, .inl (cI, 2000, .inl f_this_result)), (h_this_row, .inl (cI, 200, .inl f_this_row)), (h_this_other, .inl (cI, 200, .inl f_this_other)), (h_this_starts, .inl (cI, 50, .inl f_this_starts)), (h_this_sizes, .inl (cI, 50, .inl f_this_sizes)), (h_this_rules, .inl (cI, 50, .inl f_this_rules)), (h_this_tagged, .inl (cZ, 50, .inl f_this_tagged)), (h_this_pool, .inl (cI, 300, .inl f_this_pool)), (h_this_placed, .inl (cZ, 200, .inl f_this_placed))] := hE
          obtain ⟨x28, hc28, h⟩ := bd_s h
          have hM := (c_Mod_joins l D cI cZ tt H.size x25 x28 hc28)
          refine hn_ci hE (hn_runS (As := [.int x25]) (rest := []) S hE hM cf_Mod_joins mw_680 mw_681 ⟨rfl, rfl⟩ ⟨Nat.le_of_ble_eq_true rfl, Nat.le_of_ble_eq_true rfl⟩ [] rfl rfl rfl rfl hl.1 (lv_room (Nat.le_of_ble_eq_true rfl)) d_Mod_across_28 ⟨Nat.zero_le _, Nat.zero_le _⟩) [] rfl rfl (fun H locs hE => ?_)
          have hE : hn_E D (TY cI cZ) tt A s H locs [(h_this, .inr (6, [.int n_this_textSize, .ref h_this_text, .int n_this_size, .ref h_this_result, .int n_this_rowSize, .ref h_this_row, .ref h_this_other, .int n_this_count, .ref h_this_starts, .ref h_this_sizes, .ref h_this_rules, .ref h_this_tagged, .int n_this_poolSize, .ref h_this_pool, .int n_this_whole, .ref h_this_placed, .int n_this_bias])), (h_this_text, .inl (cI, 48, .inl f_this_text)), (h_this_result, .inl (cI, 2000, .inl f_this_result)), (h_this_row, .inl (cI, 200, .inl f_this_row)), (h_this_other, .inl (cI, 200, .inl f_this_other)), (h_this_starts, .inl (cI, 50, .inl f_this_starts)), (h_this_sizes, .inl (cI, 50, .inl f_this_sizes)), (h_this_rules, .inl (cI, 50, .inl f_this_rules)), (h_this_tagged, .inl (cZ, 50, .inl f_this_tagged)), (h_this_pool, .inl (cI, 300, .inl f_this_pool)), (h_this_placed, .inl (cZ, 200, .inl f_this_placed))] := hE
          refine lv_iconst (v := 3) hx hb d_Mod_across_31 (by decide) ?_
          refine lv_icmp_ne (tgt := 44) hx hb d_Mod_across_32 (by decide) (fun hc => ?_) (fun hc => ?_)
          · have h := ite_f hc h
            exact hj44 v4 H locs ls hE (lv_sub hl [0, 1, 3] rfl) h
          · have h := ite_t hc h
            refine lv_iload hx hb d_Mod_across_35 (lv_at hl 3 rfl) ?_
            refine lv_iload_n hx hb d_Mod_across_37 rfl (lv_at hl 2 rfl) ?_
            refine lv_iadd hx hb d_Mod_across_38 ?_
            refine lv_istore (lv' := [(4, .int (v4 + a3)), (0, .ref h_this), (1, .int a1), (3, .int a3)]) hx hb d_Mod_across_39 hl (by decide) rfl (fun ls hl => ?_)
            refine lv_goto (tgt := 5) hx hb d_Mod_across_41 (by decide) ?_
            exact hk5 (v4 + a3) H locs ls hE (lv_sub hl [1, 2, 3, 0] rfl) h
  unfold P_Mod_across at h
  refine lv_iload_n hx hb d_Mod_across_0 rfl (lv_at hl 2 rfl) ?_
  refine lv_iload_n hx hb d_Mod_across_1 rfl (lv_at hl 3 rfl) ?_
  refine lv_iadd hx hb d_Mod_across_2 ?_
  refine lv_istore (lv' := [(4, .int (a2 + a3)), (0, .ref h_this), (1, .int a1), (2, .int a2), (3, .int a3)]) hx hb d_Mod_across_3 hl (by decide) rfl (fun ls hl => ?_)
  exact hL5 fu (a2 + a3) H locs ls hE (lv_sub hl [1, 2, 4, 0] rfl) h
abbrev rm_Mod_joinersRight : Room := { frames := 2, cells := 0, slots := 0, locals := 46 }
theorem cf_Mod_joinersRight : hn_CF y_Mod_joinersRight b_Mod_joinersRight 8 (some .boolean) 1 := ⟨mw_675, mw_7, by decide, by decide, by decide +kernel⟩
set_option maxHeartbeats 4000000 in
set_option maxRecDepth 100000 in
theorem c_Mod_joinersRight (l : Launch) (D : va_G) (cI cZ : ClassId) (tt : Nat → Nat) (h_this h_this_text h_this_result h_this_row h_this_other h_this_starts h_this_sizes h_this_rules h_this_tagged h_this_pool h_this_placed : Nat) (sz : Nat) (n_this_textSize : Int32) (n_this_size : Int32) (n_this_rowSize : Int32) (n_this_count : Int32) (n_this_poolSize : Int32) (n_this_whole : Int32) (n_this_bias : Int32) (f_this_text : Nat → Int32) (f_this_result : Nat → Int32) (f_this_row : Nat → Int32) (f_this_other : Nat → Int32) (f_this_starts : Nat → Int32) (f_this_sizes : Nat → Int32) (f_this_rules : Nat → Int32) (f_this_tagged : Nat → Int32) (f_this_pool : Nat → Int32) (f_this_placed : Nat → Int32) (a1 : Int32) (o : Int32) (h : P_Mod_joinersRight f_this_starts f_this_sizes f_this_pool a1 = some o) : Met l y_Mod_joinersRight (hn_w y_Mod_joinersRight b_Mod_joinersRight 8 (some .boolean)) rm_Mod_joinersRight (hn_Pc D (TY cI cZ) tt [.ref h_this, .int a1] sz [(h_this, .inr (6, [.int n_this_textSize, .ref h_this_text, .int n_this_size, .ref h_this_result, .int n_this_rowSize, .ref h_this_row, .ref h_this_other, .int n_this_count, .ref h_this_starts, .ref h_this_sizes, .ref h_this_rules, .ref h_this_tagged, .int n_this_poolSize, .ref h_this_pool, .int n_this_whole, .ref h_this_placed, .int n_this_bias])), (h_this_text, .inl (cI, 48, .inl f_this_text)), (h_this_result, .inl (cI, 2000, .inl f_this_result)), (h_this_row, .inl (cI, 200, .inl f_this_row)), (h_this_other, .inl (cI, 200, .inl f_this_other)), (h_this_starts, .inl (cI, 50, .inl f_this_starts)), (h_this_sizes, .inl (cI, 50, .inl f_this_sizes)), (h_this_rules, .inl (cI, 50, .inl f_this_rules)), (h_this_tagged, .inl (cZ, 50, .inl f_this_tagged)), (h_this_pool, .inl (cI, 300, .inl f_this_pool)), (h_this_placed, .inl (cZ, 200, .inl f_this_placed))]) (hn_Qz D [(h_this, .inr (6, [.int n_this_textSize, .ref h_this_text, .int n_this_size, .ref h_this_result, .int n_this_rowSize, .ref h_this_row, .ref h_this_other, .int n_this_count, .ref h_this_starts, .ref h_this_sizes, .ref h_this_rules, .ref h_this_tagged, .int n_this_poolSize, .ref h_this_pool, .int n_this_whole, .ref h_this_placed, .int n_this_bias])), (h_this_text, .inl (cI, 48, .inl f_this_text)), (h_this_result, .inl (cI, 2000, .inl f_this_result)), (h_this_row, .inl (cI, 200, .inl f_this_row)), (h_this_other, .inl (cI, 200, .inl f_this_other)), (h_this_starts, .inl (cI, 50, .inl f_this_starts)), (h_this_sizes, .inl (cI, 50, .inl f_this_sizes)), (h_this_rules, .inl (cI, 50, .inl f_this_rules)), (h_this_tagged, .inl (cZ, 50, .inl f_this_tagged)), (h_this_pool, .inl (cI, 300, .inl f_this_pool)), (h_this_placed, .inl (cZ, 200, .inl f_this_placed))] sz [(h_this, .inr (6, [.int n_this_textSize, .ref h_this_text, .int n_this_size, .ref h_this_result, .int n_this_rowSize, .ref h_this_row, .ref h_this_other, .int n_this_count, .ref h_this_starts, .ref h_this_sizes, .ref h_this_rules, .ref h_this_tagged, .int n_this_poolSize, .ref h_this_pool, .int n_this_whole, .ref h_this_placed, .int n_this_bias])), (h_this_text, .inl (cI, 48, .inl f_this_text)), (h_this_result, .inl (cI, 2000, .inl f_this_result)), (h_this_row, .inl (cI, 200, .inl f_this_row)), (h_this_other, .inl (cI, 200, .inl f_this_other)), (h_this_starts, .inl (cI, 50, .inl f_this_starts)), (h_this_sizes, .inl (cI, 50, .inl f_this_sizes)), (h_this_rules, .inl (cI, 50, .inl f_this_rules)), (h_this_tagged, .inl (cZ, 50, .inl f_this_tagged)), (h_this_pool, .inl (cI, 300, .inl f_this_pool)), (h_this_placed, .inl (cZ, 200, .inl f_this_placed))] o) 0 0 (va_A [(h_this, .inr (6, [.int n_this_textSize, .ref h_this_text, .int n_this_size, .ref h_this_result, .int n_this_rowSize, .ref h_this_row, .ref h_this_other, .int n_this_count, .ref h_this_starts, .ref h_this_sizes, .ref h_this_rules, .ref h_this_tagged, .int n_this_poolSize, .ref h_this_pool, .int n_this_whole, .ref h_this_placed, .int n_this_bias])), (h_this_text, .inl (cI, 48, .inl f_this_text)), (h_this_result, .inl (cI, 2000, .inl f_this_result)), (h_this_row, .inl (cI, 200, .inl f_this_row)), (h_this_other, .inl (cI, 200, .inl f_this_other)), (h_this_starts, .inl (cI, 50, .inl f_this_starts)), (h_this_sizes, .inl (cI, 50, .inl f_this_sizes)), (h_this_rules, .inl (cI, 50, .inl f_this_rules)), (h_this_tagged, .inl (cZ, 50, .inl f_this_tagged)), (h_this_pool, .inl (cI, 300, .inl f_this_pool)), (h_this_placed, .inl (cZ, 200, .inl f_this_placed))] sz) := by
  refine hn_ofWz (own := R_Mod) (by decide) rfl (Nat.le_of_ble_eq_true rfl) ?_
  intro p e s m args below meth c A H locs ls Q S hE hl hret
  have hx := S.1
  have hb := S.2.1
  have hown := S.2.2.2.1
  have hl : lv_has ls 8 [(0, .ref h_this), (1, .int a1)] := hl
  have hL4 : ∀ (kf : Nat) (v2 : Int32) (v3 : Int32) (H : Heap) (locs : List Loc) (ls : Array Slot), hn_E D (TY cI cZ) tt A s H locs [(h_this, .inr (6, [.int n_this_textSize, .ref h_this_text, .int n_this_size, .ref h_this_result, .int n_this_rowSize, .ref h_this_row, .ref h_this_other, .int n_this_count, .ref h_this_starts, .ref h_this_sizes, .ref h_this_rules, .ref h_this_tagged, .int n_this_poolSize, .ref h_this_pool, .int n_this_whole, .ref h_this_placed, .int n_this_bias])), (h_this_text, .inl (cI, 48, .inl f_this_text)), (h_this_result, .inl (cI, 2000, .inl f_this_result)), (h_this_row, .inl (cI, 200, .inl f_this_row)), (h_this_other, .inl (cI, 200, .inl f_this_other)), (h_this_starts, .inl (cI, 50, .inl f_this_starts)), (h_this_sizes, .inl (cI, 50, .inl f_this_sizes)), (h_this_rules, .inl (cI, 50, .inl f_this_rules)), (h_this_tagged, .inl (cZ, 50, .inl f_this_tagged)), (h_this_pool, .inl (cI, 300, .inl f_this_pool)), (h_this_placed, .inl (cZ, 200, .inl f_this_placed))] → lv_has ls 8 [(0, .ref h_this), (1, .int a1), (2, .int v2), (3, .int v3)] → fl2 (P_Mod_joinersRight_4 f_this_starts f_this_sizes f_this_pool a1) kf v2 v3 = some o → W p l e rm_Mod_joinersRight s m args below meth c H locs 0 0 Q (F0 m 4 ls []) := by
    intro kf
    induction kf with
    | zero => intro v2 v3 H locs ls hE hl h; exact no_s h
    | succ kf ih =>
      intro v2 v3 H locs ls hE hl h
      have h : P_Mod_joinersRight_4 f_this_starts f_this_sizes f_this_pool a1 (fl2 (P_Mod_joinersRight_4 f_this_starts f_this_sizes f_this_pool a1) kf) v2 v3 = some o := h
      generalize fl2 (P_Mod_joinersRight_4 f_this_starts f_this_sizes f_this_pool a1) kf = k4 at ih h
      have hk4 := ih
      have hj123 : ∀ (v2 : Int32) (v3 : Int32) (v5 : Int32) (s0 : Int32) (H : Heap) (locs : List Loc) (ls : Array Slot), hn_E D (TY cI cZ) tt A s H locs [(h_this, .inr (6, [.int n_this_textSize, .ref h_this_text, .int n_this_size, .ref h_this_result, .int n_this_rowSize, .ref h_this_row, .ref h_this_other, .int n_this_count, .ref h_this_starts, .ref h_this_sizes, .ref h_this_rules, .ref h_this_tagged, .int n_this_poolSize, .ref h_this_pool, .int n_this_whole, .ref h_this_placed, .int n_this_bias])), (h_this_text, .inl (cI, 48, .inl f_this_text)), (h_this_result, .inl (cI, 2000, .inl f_this_result)), (h_this_row, .inl (cI, 200, .inl f_this_row)), (h_this_other, .inl (cI, 200, .inl f_this_other)), (h_this_starts, .inl (cI, 50, .inl f_this_starts)), (h_this_sizes, .inl (cI, 50, .inl f_this_sizes)), (h_this_rules, .inl (cI, 50, .inl f_this_rules)), (h_this_tagged, .inl (cZ, 50, .inl f_this_tagged)), (h_this_pool, .inl (cI, 300, .inl f_this_pool)), (h_this_placed, .inl (cZ, 200, .inl f_this_placed))] → lv_has ls 8 [(0, .ref h_this), (1, .int a1), (2, .int v2), (3, .int v3), (5, .int v5)] → P_Mod_joinersRight_123 k4 v2 v3 v5 s0 = some o → W p l e rm_Mod_joinersRight s m args below meth c H locs 0 0 Q (F0 m 123 ls [.int s0]) := by
        intro v2 v3 v5 s0 H locs ls hE hl h
        unfold P_Mod_joinersRight_123 at h
        refine lv_istore (lv' := [(7, .int s0), (0, .ref h_this), (1, .int a1), (2, .int v2), (3, .int v3), (5, .int v5)]) hx hb d_Mod_joinersRight_123 hl (by decide) rfl (fun ls hl => ?_)
        refine lv_iload_n hx hb d_Mod_joinersRight_125 rfl (lv_at hl 3 rfl) ?_
        refine lv_if_eq (tgt := 143) hx hb d_Mod_joinersRight_126 (by decide) (fun hc => ?_) (fun hc => ?_)
        · have h := ite_t hc h
          refine lv_iconst (v := 0) hx hb d_Mod_joinersRight_143 (by decide) ?_
          refine lv_istore_n (lv' := [(2, .int (0 : Int32)), (7, .int s0), (0, .ref h_this), (1, .int a1), (3, .int v3), (5, .int v5)]) hx hb d_Mod_joinersRight_144 rfl hl (by decide) rfl (fun ls hl => ?_)
          refine lv_iinc (v := (v3 + (1 : Int32))) (lv' := [(3, .int (v3 + (1 : Int32))), (2, .int (0 : Int32)), (7, .int s0), (0, .ref h_this), (1, .int a1), (5, .int v5)]) hx hb d_Mod_joinersRight_145 hl (k := 4) rfl rfl (by decide) rfl (fun ls hl => ?_)
          refine lv_goto (tgt := 4) hx hb d_Mod_joinersRight_148 (by decide) ?_
          exact hk4 (0 : Int32) (v3 + (1 : Int32)) H locs ls hE (lv_sub hl [3, 4, 1, 0] rfl) h
        · have h := ite_f hc h
          refine lv_iload hx hb d_Mod_joinersRight_129 (lv_at hl 5 rfl) ?_
          refine lv_if_ne (tgt := 139) hx hb d_Mod_joinersRight_131 (by decide) (fun hc => ?_) (fun hc => ?_)
          · have h := ite_f hc h
            refine lv_iconst (v := 1) hx hb d_Mod_joinersRight_139 (by decide) ?_
            refine lv_goto (tgt := 144) hx hb d_Mod_joinersRight_140 (by decide) ?_
            refine lv_istore_n (lv' := [(2, .int (1 : Int32)), (7, .int s0), (0, .ref h_this), (1, .int a1), (3, .int v3), (5, .int v5)]) hx hb d_Mod_joinersRight_144 rfl hl (by decide) rfl (fun ls hl => ?_)
            refine lv_iinc (v := (v3 + (1 : Int32))) (lv' := [(3, .int (v3 + (1 : Int32))), (2, .int (1 : Int32)), (7, .int s0), (0, .ref h_this), (1, .int a1), (5, .int v5)]) hx hb d_Mod_joinersRight_145 hl (k := 4) rfl rfl (by decide) rfl (fun ls hl => ?_)
            refine lv_goto (tgt := 4) hx hb d_Mod_joinersRight_148 (by decide) ?_
            exact hk4 (1 : Int32) (v3 + (1 : Int32)) H locs ls hE (lv_sub hl [3, 4, 1, 0] rfl) h
          · have h := ite_t hc h
            refine lv_iload hx hb d_Mod_joinersRight_134 (lv_at hl 0 rfl) ?_
            refine lv_if_eq (tgt := 143) hx hb d_Mod_joinersRight_136 (by decide) (fun hc => ?_) (fun hc => ?_)
            · have h := ite_t hc h
              refine lv_iconst (v := 0) hx hb d_Mod_joinersRight_143 (by decide) ?_
              refine lv_istore_n (lv' := [(2, .int (0 : Int32)), (7, .int s0), (0, .ref h_this), (1, .int a1), (3, .int v3), (5, .int v5)]) hx hb d_Mod_joinersRight_144 rfl hl (by decide) rfl (fun ls hl => ?_)
              refine lv_iinc (v := (v3 + (1 : Int32))) (lv' := [(3, .int (v3 + (1 : Int32))), (2, .int (0 : Int32)), (7, .int s0), (0, .ref h_this), (1, .int a1), (5, .int v5)]) hx hb d_Mod_joinersRight_145 hl (k := 4) rfl rfl (by decide) rfl (fun ls hl => ?_)
              refine lv_goto (tgt := 4) hx hb d_Mod_joinersRight_148 (by decide) ?_
              exact hk4 (0 : Int32) (v3 + (1 : Int32)) H locs ls hE (lv_sub hl [3, 4, 1, 0] rfl) h
            · have h := ite_f hc h
              refine lv_iconst (v := 1) hx hb d_Mod_joinersRight_139 (by decide) ?_
              refine lv_goto (tgt := 144) hx hb d_Mod_joinersRight_140 (by decide) ?_
              refine lv_istore_n (lv' := [(2, .int (1 : Int32)), (7, .int s0), (0, .ref h_this), (1, .int a1), (3, .int v3), (5, .int v5)]) hx hb d_Mod_joinersRight_144 rfl hl (by decide) rfl (fun ls hl => ?_)
              refine lv_iinc (v := (v3 + (1 : Int32))) (lv' := [(3, .int (v3 + (1 : Int32))), (2, .int (1 : Int32)), (7, .int s0), (0, .ref h_this), (1, .int a1), (5, .int v5)]) hx hb d_Mod_joinersRight_145 hl (k := 4) rfl rfl (by decide) rfl (fun ls hl => ?_)
              refine lv_goto (tgt := 4) hx hb d_Mod_joinersRight_148 (by decide) ?_
              exact hk4 (1 : Int32) (v3 + (1 : Int32)) H locs ls hE (lv_sub hl [3, 4, 1, 0] rfl) h
      have hj72 : ∀ (v2 : Int32) (v3 : Int32) (v4 : Int32) (v5 : Int32) (H : Heap) (locs : List Loc) (ls : Array Slot), hn_E D (TY cI cZ) tt A s H locs [(h_this, .inr (6, [.int n_this_textSize, .ref h_this_text, .int n_this_size, .ref h_this_result, .int n_this_rowSize, .ref h_this_row, .ref h_this_other, .int n_this_count, .ref h_this_starts, .ref h_this_sizes, .ref h_this_rules, .ref h_this_tagged, .int n_this_poolSize, .ref h_this_pool, .int n_this_whole, .ref h_this_placed, .int n_this_bias])), (h_this_text, .inl (cI, 48, .inl f_this_text)), (h_this_result, .inl (cI, 2000, .inl f_this_result)), (h_this_row, .inl (cI, 200, .inl f_this_row)), (h_this_other, .inl (cI, 200, .inl f_this_other)), (h_this_starts, .inl (cI, 50, .inl f_this_starts)), (h_this_sizes, .inl (cI, 50, .inl f_this_sizes)), (h_this_rules, .inl (cI, 50, .inl f_this_rules)), (h_this_tagged, .inl (cZ, 50, .inl f_this_tagged)), (h_this_pool, .inl (cI, 300, .inl f_this_pool)), (h_this_placed, .inl (cZ, 200, .inl f_this_placed))] → lv_has ls 8 [(0, .ref h_this), (1, .int a1), (2, .int v2), (3, .int v3), (4, .int v4), (5, .int v5)] → P_Mod_joinersRight_72 f_this_starts f_this_sizes f_this_pool a1 k4 v2 v3 v4 v5 = some o → W p l e rm_Mod_joinersRight s m args below meth c H locs 0 0 Q (F0 m 72 ls []) := by
        intro v2 v3 v4 v5 H locs ls hE hl h
        unfold P_Mod_joinersRight_72 at h
        refine lv_iload hx hb d_Mod_joinersRight_72 (lv_at hl 4 rfl) ?_
        refine lv_sipush (v := 8204) hx hb d_Mod_joinersRight_74 (by decide) ?_
        refine lv_icmp_ne (tgt := 145) hx hb d_Mod_joinersRight_77 (by decide) (fun hc => ?_) (fun hc => ?_)
        · have h := ite_f hc h
          refine lv_iinc (v := (v3 + (1 : Int32))) (lv' := [(3, .int (v3 + (1 : Int32))), (0, .ref h_this), (1, .int a1), (2, .int v2), (4, .int v4), (5, .int v5)]) hx hb d_Mod_joinersRight_145 hl (k := 3) rfl rfl (by decide) rfl (fun ls hl => ?_)
          refine lv_goto (tgt := 4) hx hb d_Mod_joinersRight_148 (by decide) ?_
          exact hk4 v2 (v3 + (1 : Int32)) H locs ls hE (lv_sub hl [1, 2, 3, 0] rfl) h
        · have h := ite_t hc h
          refine lv_aload_n hx hb d_Mod_joinersRight_80 rfl (lv_at hl 0 rfl) ?_
          refine lv_iload_n hx hb d_Mod_joinersRight_81 rfl (lv_at hl 1 rfl) ?_
          refine lv_iload_n hx hb d_Mod_joinersRight_82 rfl (lv_at hl 3 rfl) ?_
          refine lv_iconst (v := 1) hx hb d_Mod_joinersRight_83 (by decide) ?_
          obtain ⟨x84, hc84, h⟩ := bd_s h
          have hM := (c_Mod_across l D cI cZ tt h_this h_this_text h_this_result h_this_row h_this_other h_this_starts h_this_sizes h_this_rules h_this_tagged h_this_pool h_this_placed H.size n_this_textSize n_this_size n_this_rowSize n_this_count n_this_poolSize n_this_whole n_this_bias f_this_text f_this_result f_this_row f_this_other f_this_starts f_this_sizes f_this_rules f_this_tagged f_this_pool f_this_placed a1 v3 (1 : Int32) x84 hc84)
          refine hn_ci hE (hn_runV (As := [.int a1, .int v3, .int (1 : Int32)]) (rest := []) S hE hM cf_Mod_across mw_676 mw_678 ms_37 ⟨rfl, rfl⟩ ⟨Nat.le_of_ble_eq_true rfl, Nat.le_of_ble_eq_true rfl⟩ [0, 1, 2, 3, 4, 5, 6, 7, 8, 9, 10] rfl rfl rfl rfl rfl rfl hl.1 (lv_room (Nat.le_of_ble_eq_true rfl)) d_Mod_joinersRight_84 ⟨Nat.zero_le _, Nat.zero_le _⟩) [0, 1, 2, 3, 4, 5, 6, 7, 8, 9, 10] rfl rfl (fun H locs hE => ?_)
          have hE : hn_E D (TY cI cZ) tt A s H locs [(h_this, .inr (6, [.int n_this_textSize, .ref h_this_text, .int n_this_size, .ref h_this_result, .int n_this_rowSize, .ref h_this_row, .ref h_this_other, .int n_this_count, .ref h_this_starts, .ref h_this_sizes, .ref h_this_rules, .ref h_this_tagged, .int n_this_poolSize, .ref h_this_pool, .int n_this_whole, .ref h_this_placed, .int n_this_bias])), (h_this_text, .inl (cI, 48, .inl f_this_text)), (h_this_result, .inl (cI, 2000, .inl f_this_result)), (h_this_row, .inl (cI, 200, .inl f_this_row)), (h_this_other, .inl (cI, 200, .inl f_this_other)), (h_this_starts, .inl (cI, 50, .inl f_this_starts)), (h_this_sizes, .inl (cI, 50, .inl f_this_sizes)), (h_this_rules, .inl (cI, 50, .inl f_this_rules)), (h_this_tagged, .inl (cZ, 50, .inl f_this_tagged)), (h_this_pool, .inl (cI, 300, .inl f_this_pool)), (h_this_placed, .inl (cZ, 200, .inl f_this_placed))] := hE
          obtain ⟨x87, hc87, h⟩ := bd_s h
          have hM := (c_Mod_joins l D cI cZ tt H.size x84 x87 hc87)
          refine hn_ci hE (hn_runS (As := [.int x84]) (rest := []) S hE hM cf_Mod_joins mw_680 mw_681 ⟨rfl, rfl⟩ ⟨Nat.le_of_ble_eq_true rfl, Nat.le_of_ble_eq_true rfl⟩ [] rfl rfl rfl rfl hl.1 (lv_room (Nat.le_of_ble_eq_true rfl)) d_Mod_joinersRight_87 ⟨Nat.zero_le _, Nat.zero_le _⟩) [] rfl rfl (fun H locs hE => ?_)
          have hE : hn_E D (TY cI cZ) tt A s H locs [(h_this, .inr (6, [.int n_this_textSize, .ref h_this_text, .int n_this_size, .ref h_this_result, .int n_this_rowSize, .ref h_this_row, .ref h_this_other, .int n_this_count, .ref h_this_starts, .ref h_this_sizes, .ref h_this_rules, .ref h_this_tagged, .int n_this_poolSize, .ref h_this_pool, .int n_this_whole, .ref h_this_placed, .int n_this_bias])), (h_this_text, .inl (cI, 48, .inl f_this_text)), (h_this_result, .inl (cI, 2000, .inl f_this_result)), (h_this_row, .inl (cI, 200, .inl f_this_row)), (h_this_other, .inl (cI, 200, .inl f_this_other)), (h_this_starts, .inl (cI, 50, .inl f_this_starts)), (h_this_sizes, .inl (cI, 50, .inl f_this_sizes)), (h_this_rules, .inl (cI, 50, .inl f_this_rules)), (h_this_tagged, .inl (cZ, 50, .inl f_this_tagged)), (h_this_pool, .inl (cI, 300, .inl f_this_pool)), (h_this_placed, .inl (cZ, 200, .inl f_this_placed))] := hE
          refine lv_istore (lv' := [(6, .int x87), (0, .ref h_this), (1, .int a1), (2, .int v2), (3, .int v3), (4, .int v4), (5, .int v5)]) hx hb d_Mod_joinersRight_90 hl (by decide) rfl (fun ls hl => ?_)
          refine lv_aload_n hx hb d_Mod_joinersRight_92 rfl (lv_at hl 1 rfl) ?_
          refine lv_iload_n hx hb d_Mod_joinersRight_93 rfl (lv_at hl 2 rfl) ?_
          refine lv_iload_n hx hb d_Mod_joinersRight_94 rfl (lv_at hl 4 rfl) ?_
          refine lv_iconst (v := -1) hx hb d_Mod_joinersRight_95 (by decide) ?_
          obtain ⟨x96, hc96, h⟩ := bd_s h
          have hM := (c_Mod_across l D cI cZ tt h_this h_this_text h_this_result h_this_row h_this_other h_this_starts h_this_sizes h_this_rules h_this_tagged h_this_pool h_this_placed H.size n_this_textSize n_this_size n_this_rowSize n_this_count n_this_poolSize n_this_whole n_this_bias f_this_text f_this_result f_this_row f_this_other f_this_starts f_this_sizes f_this_rules f_this_tagged f_this_pool f_this_placed a1 v3 (-1 : Int32) x96 hc96)
          refine hn_ci hE (hn_runV (As := [.int a1, .int v3, .int (-1 : Int32)]) (rest := []) S hE hM cf_Mod_across mw_676 mw_678 ms_37 ⟨rfl, rfl⟩ ⟨Nat.le_of_ble_eq_true rfl, Nat.le_of_ble_eq_true rfl⟩ [0, 1, 2, 3, 4, 5, 6, 7, 8, 9, 10] rfl rfl rfl rfl rfl rfl hl.1 (lv_room (Nat.le_of_ble_eq_true rfl)) d_Mod_joinersRight_96 ⟨Nat.zero_le _, Nat.zero_le _⟩) [0, 1, 2, 3, 4, 5, 6, 7, 8, 9, 10] rfl rfl (fun H locs hE => ?_)
          have hE : hn_E D (TY cI cZ) tt A s H locs [(h_this, .inr (6, [.int n_this_textSize, .ref h_this_text, .int n_this_size, .ref h_this_result, .int n_this_rowSize, .ref h_this_row, .ref h_this_other, .int n_this_count, .ref h_this_starts, .ref h_this_sizes, .ref h_this_rules, .ref h_this_tagged, .int n_this_poolSize, .ref h_this_pool, .int n_this_whole, .ref h_this_placed, .int n_this_bias])), (h_this_text, .inl (cI, 48, .inl f_this_text)), (h_this_result, .inl (cI, 2000, .inl f_this_result)), (h_this_row, .inl (cI, 200, .inl f_this_row)), (h_this_other, .inl (cI, 200, .inl f_this_other)), (h_this_starts, .inl (cI, 50, .inl f_this_starts)), (h_this_sizes, .inl (cI, 50, .inl f_this_sizes)), (h_this_rules, .inl (cI, 50, .inl f_this_rules)), (h_this_tagged, .inl (cZ, 50, .inl f_this_tagged)), (h_this_pool, .inl (cI, 300, .inl f_this_pool)), (h_this_placed, .inl (cZ, 200, .inl f_this_placed))] := hE
          obtain ⟨x99, hc99, h⟩ := bd_s h
          have hM := (c_Mod_joins l D cI cZ tt H.size x96 x99 hc99)
          refine hn_ci hE (hn_runS (As := [.int x96]) (rest := []) S hE hM cf_Mod_joins mw_680 mw_681 ⟨rfl, rfl⟩ ⟨Nat.le_of_ble_eq_true rfl, Nat.le_of_ble_eq_true rfl⟩ [] rfl rfl rfl rfl hl.1 (lv_room (Nat.le_of_ble_eq_true rfl)) d_Mod_joinersRight_99 ⟨Nat.zero_le _, Nat.zero_le _⟩) [] rfl rfl (fun H locs hE => ?_)
          have hE : hn_E D (TY cI cZ) tt A s H locs [(h_this, .inr (6, [.int n_this_textSize, .ref h_this_text, .int n_this_size, .ref h_this_result, .int n_this_rowSize, .ref h_this_row, .ref h_this_other, .int n_this_count, .ref h_this_starts, .ref h_this_sizes, .ref h_this_rules, .ref h_this_tagged, .int n_this_poolSize, .ref h_this_pool, .int n_this_whole, .ref h_this_placed, .int n_this_bias])), (h_this_text, .inl (cI, 48, .inl f_this_text)), (h_this_result, .inl (cI, 2000, .inl f_this_result)), (h_this_row, .inl (cI, 200, .inl f_this_row)), (h_this_other, .inl (cI, 200, .inl f_this_other)), (h_this_starts, .inl (cI, 50, .inl f_this_starts)), (h_this_sizes, .inl (cI, 50, .inl f_this_sizes)), (h_this_rules, .inl (cI, 50, .inl f_this_rules)), (h_this_tagged, .inl (cZ, 50, .inl f_this_tagged)), (h_this_pool, .inl (cI, 300, .inl f_this_pool)), (h_this_placed, .inl (cZ, 200, .inl f_this_placed))] := hE
          refine lv_iconst (v := 2) hx hb d_Mod_joinersRight_102 (by decide) ?_
          refine lv_icmp_ne (tgt := 122) hx hb d_Mod_joinersRight_103 (by decide) (fun hc => ?_) (fun hc => ?_)
          · have h := ite_f hc h
            refine lv_iconst (v := 0) hx hb d_Mod_joinersRight_122 (by decide) ?_
            exact hj123 v2 v3 v5 (0 : Int32) H locs ls hE (lv_sub hl [1, 2, 3, 4, 6] rfl) h
          · have h := ite_t hc h
            refine lv_iload hx hb d_Mod_joinersRight_106 (lv_at hl 0 rfl) ?_
            refine lv_iconst (v := 1) hx hb d_Mod_joinersRight_108 (by decide) ?_
            refine lv_icmp_eq (tgt := 118) hx hb d_Mod_joinersRight_109 (by decide) (fun hc => ?_) (fun hc => ?_)
            · have h := ite_t hc h
              refine lv_iconst (v := 1) hx hb d_Mod_joinersRight_118 (by decide) ?_
              refine lv_goto (tgt := 123) hx hb d_Mod_joinersRight_119 (by decide) ?_
              exact hj123 v2 v3 v5 (1 : Int32) H locs ls hE (lv_sub hl [1, 2, 3, 4, 6] rfl) h
            · have h := ite_f hc h
              refine lv_iload hx hb d_Mod_joinersRight_112 (lv_at hl 0 rfl) ?_
              refine lv_iconst (v := 2) hx hb d_Mod_joinersRight_114 (by decide) ?_
              refine lv_icmp_ne (tgt := 122) hx hb d_Mod_joinersRight_115 (by decide) (fun hc => ?_) (fun hc => ?_)
              · have h := ite_f hc h
                refine lv_iconst (v := 0) hx hb d_Mod_joinersRight_122 (by decide) ?_
                exact hj123 v2 v3 v5 (0 : Int32) H locs ls hE (lv_sub hl [1, 2, 3, 4, 6] rfl) h
              · have h := ite_t hc h
                refine lv_iconst (v := 1) hx hb d_Mod_joinersRight_118 (by decide) ?_
                refine lv_goto (tgt := 123) hx hb d_Mod_joinersRight_119 (by decide) ?_
                exact hj123 v2 v3 v5 (1 : Int32) H locs ls hE (lv_sub hl [1, 2, 3, 4, 6] rfl) h
      have hj47 : ∀ (v2 : Int32) (v3 : Int32) (v4 : Int32) (s0 : Int32) (H : Heap) (locs : List Loc) (ls : Array Slot), hn_E D (TY cI cZ) tt A s H locs [(h_this, .inr (6, [.int n_this_textSize, .ref h_this_text, .int n_this_size, .ref h_this_result, .int n_this_rowSize, .ref h_this_row, .ref h_this_other, .int n_this_count, .ref h_this_starts, .ref h_this_sizes, .ref h_this_rules, .ref h_this_tagged, .int n_this_poolSize, .ref h_this_pool, .int n_this_whole, .ref h_this_placed, .int n_this_bias])), (h_this_text, .inl (cI, 48, .inl f_this_text)), (h_this_result, .inl (cI, 2000, .inl f_this_result)), (h_this_row, .inl (cI, 200, .inl f_this_row)), (h_this_other, .inl (cI, 200, .inl f_this_other)), (h_this_starts, .inl (cI, 50, .inl f_this_starts)), (h_this_sizes, .inl (cI, 50, .inl f_this_sizes)), (h_this_rules, .inl (cI, 50, .inl f_this_rules)), (h_this_tagged, .inl (cZ, 50, .inl f_this_tagged)), (h_this_pool, .inl (cI, 300, .inl f_this_pool)), (h_this_placed, .inl (cZ, 200, .inl f_this_placed))] → lv_has ls 8 [(0, .ref h_this), (1, .int a1), (2, .int v2), (3, .int v3), (4, .int v4)] → P_Mod_joinersRight_47 f_this_starts f_this_sizes f_this_pool a1 k4 v2 v3 v4 s0 = some o → W p l e rm_Mod_joinersRight s m args below meth c H locs 0 0 Q (F0 m 47 ls [.int s0]) := by
        intro v2 v3 v4 s0 H locs ls hE hl h
        unfold P_Mod_joinersRight_47 at h
        refine lv_istore (lv' := [(5, .int s0), (0, .ref h_this), (1, .int a1), (2, .int v2), (3, .int v3), (4, .int v4)]) hx hb d_Mod_joinersRight_47 hl (by decide) rfl (fun ls hl => ?_)
        refine lv_iload hx hb d_Mod_joinersRight_49 (lv_at hl 5 rfl) ?_
        refine lv_sipush (v := 8205) hx hb d_Mod_joinersRight_51 (by decide) ?_
        refine lv_icmp_ne (tgt := 72) hx hb d_Mod_joinersRight_54 (by decide) (fun hc => ?_) (fun hc => ?_)
        · have h := ite_f hc h
          exact hj72 v2 v3 v4 s0 H locs ls hE (lv_sub hl [1, 2, 3, 4, 5, 0] rfl) h
        · have h := ite_t hc h
          refine lv_iload_n hx hb d_Mod_joinersRight_57 rfl (lv_at hl 3 rfl) ?_
          refine lv_if_eq (tgt := 70) hx hb d_Mod_joinersRight_58 (by decide) (fun hc => ?_) (fun hc => ?_)
          · have h := ite_t hc h
            refine lv_iconst (v := 0) hx hb d_Mod_joinersRight_70 (by decide) ?_
            refine lv_istore_n (lv' := [(2, .int (0 : Int32)), (5, .int s0), (0, .ref h_this), (1, .int a1), (3, .int v3), (4, .int v4)]) hx hb d_Mod_joinersRight_71 rfl hl (by decide) rfl (fun ls hl => ?_)
            exact hj72 (0 : Int32) v3 v4 s0 H locs ls hE (lv_sub hl [2, 3, 0, 4, 5, 1] rfl) h
          · have h := ite_f hc h
            refine lv_iload hx hb d_Mod_joinersRight_61 (lv_at hl 0 rfl) ?_
            refine lv_if_eq (tgt := 70) hx hb d_Mod_joinersRight_63 (by decide) (fun hc => ?_) (fun hc => ?_)
            · have h := ite_t hc h
              refine lv_iconst (v := 0) hx hb d_Mod_joinersRight_70 (by decide) ?_
              refine lv_istore_n (lv' := [(2, .int (0 : Int32)), (5, .int s0), (0, .ref h_this), (1, .int a1), (3, .int v3), (4, .int v4)]) hx hb d_Mod_joinersRight_71 rfl hl (by decide) rfl (fun ls hl => ?_)
              exact hj72 (0 : Int32) v3 v4 s0 H locs ls hE (lv_sub hl [2, 3, 0, 4, 5, 1] rfl) h
            · have h := ite_f hc h
              refine lv_iconst (v := 1) hx hb d_Mod_joinersRight_66 (by decide) ?_
              refine lv_goto (tgt := 71) hx hb d_Mod_joinersRight_67 (by decide) ?_
              refine lv_istore_n (lv' := [(2, .int (1 : Int32)), (5, .int s0), (0, .ref h_this), (1, .int a1), (3, .int v3), (4, .int v4)]) hx hb d_Mod_joinersRight_71 rfl hl (by decide) rfl (fun ls hl => ?_)
              exact hj72 (1 : Int32) v3 v4 s0 H locs ls hE (lv_sub hl [2, 3, 0, 4, 5, 1] rfl) h
      unfold P_Mod_joinersRight_4 at h
      refine lv_iload_n hx hb d_Mod_joinersRight_4 rfl (lv_at hl 3 rfl) ?_
      refine lv_aload_n hx hb d_Mod_joinersRight_5 rfl (lv_at hl 0 rfl) ?_
      refine hn_get S hE kc_Mod 0 rfl rfl 9 (by decide) mw_495 rfl d_Mod_joinersRight_6 ?_
      refine lv_iload_n hx hb d_Mod_joinersRight_9 rfl (lv_at hl 1 rfl) ?_
      obtain ⟨hi10, h⟩ := gi_s h
      refine hn_iald S hE 6 0 rfl rfl hi10 d_Mod_joinersRight_10 ?_
      refine lv_icmp_ge (tgt := 151) hx hb d_Mod_joinersRight_11 (by decide) (fun hc => ?_) (fun hc => ?_)
      · have h := ite_t hc h
        refine lv_iload_n hx hb d_Mod_joinersRight_151 rfl (lv_at hl 2 rfl) ?_
        obtain ⟨hz152, h⟩ := gb_s h
        obtain rfl := Option.some.inj h
        exact hret H locs ls 152 d_Mod_joinersRight_152 hz152 hE
      · have h := ite_f hc h
        refine lv_aload_n hx hb d_Mod_joinersRight_14 rfl (lv_at hl 0 rfl) ?_
        refine lv_iload_n hx hb d_Mod_joinersRight_15 rfl (lv_at hl 1 rfl) ?_
        refine lv_iload_n hx hb d_Mod_joinersRight_16 rfl (lv_at hl 3 rfl) ?_
        obtain ⟨x17, hc17, h⟩ := bd_s h
        have hM := (c_Mod_codeOf l D cI cZ tt h_this h_this_text h_this_result h_this_row h_this_other h_this_starts h_this_sizes h_this_rules h_this_tagged h_this_pool h_this_placed H.size n_this_textSize n_this_size n_this_rowSize n_this_count n_this_poolSize n_this_whole n_this_bias f_this_text f_this_result f_this_row f_this_other f_this_starts f_this_sizes f_this_rules f_this_tagged f_this_pool f_this_placed a1 v3 x17 hc17)
        refine hn_ci hE (hn_runV (As := [.int a1, .int v3]) (rest := []) S hE hM cf_Mod_codeOf mw_649 mw_651 ms_31 ⟨rfl, rfl⟩ ⟨Nat.le_of_ble_eq_true rfl, Nat.le_of_ble_eq_true rfl⟩ [0, 1, 2, 3, 4, 5, 6, 7, 8, 9, 10] rfl rfl rfl rfl rfl rfl hl.1 (lv_room (Nat.le_of_ble_eq_true rfl)) d_Mod_joinersRight_17 ⟨Nat.zero_le _, Nat.zero_le _⟩) [0, 1, 2, 3, 4, 5, 6, 7, 8, 9, 10] rfl rfl (fun H locs hE => ?_)
        have hE : hn_E D (TY cI cZ) tt A s H locs [(h_this, .inr (6, [.int n_this_textSize, .ref h_this_text, .int n_this_size, .ref h_this_result, .int n_this_rowSize, .ref h_this_row, .ref h_this_other, .int n_this_count, .ref h_this_starts, .ref h_this_sizes, .ref h_this_rules, .ref h_this_tagged, .int n_this_poolSize, .ref h_this_pool, .int n_this_whole, .ref h_this_placed, .int n_this_bias])), (h_this_text, .inl (cI, 48, .inl f_this_text)), (h_this_result, .inl (cI, 2000, .inl f_this_result)), (h_this_row, .inl (cI, 200, .inl f_this_row)), (h_this_other, .inl (cI, 200, .inl f_this_other)), (h_this_starts, .inl (cI, 50, .inl f_this_starts)), (h_this_sizes, .inl (cI, 50, .inl f_this_sizes)), (h_this_rules, .inl (cI, 50, .inl f_this_rules)), (h_this_tagged, .inl (cZ, 50, .inl f_this_tagged)), (h_this_pool, .inl (cI, 300, .inl f_this_pool)), (h_this_placed, .inl (cZ, 200, .inl f_this_placed))] := hE
        refine lv_istore (lv' := [(4, .int x17), (0, .ref h_this), (1, .int a1), (2, .int v2), (3, .int v3)]) hx hb d_Mod_joinersRight_20 hl (by decide) rfl (fun ls hl => ?_)
        refine lv_iload_n hx hb d_Mod_joinersRight_22 rfl (lv_at hl 4 rfl) ?_
        refine lv_if_le (tgt := 46) hx hb d_Mod_joinersRight_23 (by decide) (fun hc => ?_) (fun hc => ?_)
        · have h := ite_t hc h
          refine lv_iconst (v := 0) hx hb d_Mod_joinersRight_46 (by decide) ?_
          exact hj47 v2 v3 x17 (0 : Int32) H locs ls hE (lv_sub hl [1, 2, 3, 4, 0] rfl) h
        · have h := ite_f hc h
          refine lv_aload_n hx hb d_Mod_joinersRight_26 rfl (lv_at hl 1 rfl) ?_
          refine lv_iload_n hx hb d_Mod_joinersRight_27 rfl (lv_at hl 2 rfl) ?_
          refine lv_iload_n hx hb d_Mod_joinersRight_28 rfl (lv_at hl 4 rfl) ?_
          refine lv_iconst (v := 1) hx hb d_Mod_joinersRight_29 (by decide) ?_
          refine lv_isub hx hb d_Mod_joinersRight_30 ?_
          obtain ⟨x31, hc31, h⟩ := bd_s h
          have hM := (c_Mod_codeOf l D cI cZ tt h_this h_this_text h_this_result h_this_row h_this_other h_this_starts h_this_sizes h_this_rules h_this_tagged h_this_pool h_this_placed H.size n_this_textSize n_this_size n_this_rowSize n_this_count n_this_poolSize n_this_whole n_this_bias f_this_text f_this_result f_this_row f_this_other f_this_starts f_this_sizes f_this_rules f_this_tagged f_this_pool f_this_placed a1 (v3 - (1 : Int32)) x31 hc31)
          refine hn_ci hE (hn_runV (As := [.int a1, .int (v3 - (1 : Int32))]) (rest := []) S hE hM cf_Mod_codeOf mw_649 mw_651 ms_31 ⟨rfl, rfl⟩ ⟨Nat.le_of_ble_eq_true rfl, Nat.le_of_ble_eq_true rfl⟩ [0, 1, 2, 3, 4, 5, 6, 7, 8, 9, 10] rfl rfl rfl rfl rfl rfl hl.1 (lv_room (Nat.le_of_ble_eq_true rfl)) d_Mod_joinersRight_31 ⟨Nat.zero_le _, Nat.zero_le _⟩) [0, 1, 2, 3, 4, 5, 6, 7, 8, 9, 10] rfl rfl (fun H locs hE => ?_)
          have hE : hn_E D (TY cI cZ) tt A s H locs [(h_this, .inr (6, [.int n_this_textSize, .ref h_this_text, .int n_this_size, .ref h_this_result, .int n_this_rowSize, .ref h_this_row, .ref h_this_other, .int n_this_count, .ref h_this_starts, .ref h_this_sizes, .ref h_this_rules, .ref h_this_tagged, .int n_this_poolSize, .ref h_this_pool, .int n_this_whole, .ref h_this_placed, .int n_this_bias])), (h_this_text, .inl (cI, 48, .inl f_this_text)), (h_this_result, .inl (cI, 2000, .inl f_this_result)), (h_this_row, .inl (cI, 200, .inl f_this_row)), (h_this_other, .inl (cI, 200, .inl f_this_other)), (h_this_starts, .inl (cI, 50, .inl f_this_starts)), (h_this_sizes, .inl (cI, 50, .inl f_this_sizes)), (h_this_rules, .inl (cI, 50, .inl f_this_rules)), (h_this_tagged, .inl (cZ, 50, .inl f_this_tagged)), (h_this_pool, .inl (cI, 300, .inl f_this_pool)), (h_this_placed, .inl (cZ, 200, .inl f_this_placed))] := hE
          obtain ⟨x34, hc34, h⟩ := bd_s h
          have hM := (c_Mod_order l D cI cZ tt H.size x31 x34 hc34)
          refine hn_ci hE (hn_runS (As := [.int x31]) (rest := []) S hE hM cf_Mod_order mw_586 mw_587 ⟨rfl, rfl⟩ ⟨Nat.le_of_ble_eq_true rfl, Nat.le_of_ble_eq_true rfl⟩ [] rfl rfl rfl rfl hl.1 (lv_room (Nat.le_of_ble_eq_true rfl)) d_Mod_joinersRight_34 ⟨Nat.zero_le _, Nat.zero_le _⟩) [] rfl rfl (fun H locs hE => ?_)
          have hE : hn_E D (TY cI cZ) tt A s H locs [(h_this, .inr (6, [.int n_this_textSize, .ref h_this_text, .int n_this_size, .ref h_this_result, .int n_this_rowSize, .ref h_this_row, .ref h_this_other, .int n_this_count, .ref h_this_starts, .ref h_this_sizes, .ref h_this_rules, .ref h_this_tagged, .int n_this_poolSize, .ref h_this_pool, .int n_this_whole, .ref h_this_placed, .int n_this_bias])), (h_this_text, .inl (cI, 48, .inl f_this_text)), (h_this_result, .inl (cI, 2000, .inl f_this_result)), (h_this_row, .inl (cI, 200, .inl f_this_row)), (h_this_other, .inl (cI, 200, .inl f_this_other)), (h_this_starts, .inl (cI, 50, .inl f_this_starts)), (h_this_sizes, .inl (cI, 50, .inl f_this_sizes)), (h_this_rules, .inl (cI, 50, .inl f_this_rules)), (h_this_tagged, .inl (cZ, 50, .inl f_this_tagged)), (h_this_pool, .inl (cI, 300, .inl f_this_pool)), (h_this_placed, .inl (cZ, 200, .inl f_this_placed))] := hE
          refine lv_bipush (v := 9) hx hb d_Mod_joinersRight_37 (by decide) ?_
          refine lv_icmp_ne (tgt := 46) hx hb d_Mod_joinersRight_39 (by decide) (fun hc => ?_) (fun hc => ?_)
          · have h := ite_f hc h
            refine lv_iconst (v := 0) hx hb d_Mod_joinersRight_46 (by decide) ?_
            exact hj47 v2 v3 x17 (0 : Int32) H locs ls hE (lv_sub hl [1, 2, 3, 4, 0] rfl) h
          · have h := ite_t hc h
            refine lv_iconst (v := 1) hx hb d_Mod_joinersRight_42 (by decide) ?_
            refine lv_goto (tgt := 47) hx hb d_Mod_joinersRight_43 (by decide) ?_
            exact hj47 v2 v3 x17 (1 : Int32) H locs ls hE (lv_sub hl [1, 2, 3, 4, 0] rfl) h
  unfold P_Mod_joinersRight at h
  refine lv_iconst (v := 1) hx hb d_Mod_joinersRight_0 (by decide) ?_
  refine lv_istore_n (lv' := [(2, .int (1 : Int32)), (0, .ref h_this), (1, .int a1)]) hx hb d_Mod_joinersRight_1 rfl hl (by decide) rfl (fun ls hl => ?_)
  refine lv_iconst (v := 0) hx hb d_Mod_joinersRight_2 (by decide) ?_
  refine lv_istore_n (lv' := [(3, .int (0 : Int32)), (2, .int (1 : Int32)), (0, .ref h_this), (1, .int a1)]) hx hb d_Mod_joinersRight_3 rfl hl (by decide) rfl (fun ls hl => ?_)
  exact hL4 fu (1 : Int32) (0 : Int32) H locs ls hE (lv_sub hl [2, 3, 1, 0] rfl) h
abbrev rm_Mod_directed : Room := { frames := 2, cells := 0, slots := 0, locals := 42 }
theorem cf_Mod_directed : hn_CF y_Mod_directed b_Mod_directed 8 (some .boolean) 1 := ⟨mw_686, mw_7, by decide, by decide, by decide +kernel⟩
set_option maxHeartbeats 4000000 in
set_option maxRecDepth 100000 in
theorem c_Mod_directed (l : Launch) (D : va_G) (cI cZ : ClassId) (tt : Nat → Nat) (h_this h_this_text h_this_result h_this_row h_this_other h_this_starts h_this_sizes h_this_rules h_this_tagged h_this_pool h_this_placed : Nat) (sz : Nat) (n_this_textSize : Int32) (n_this_size : Int32) (n_this_rowSize : Int32) (n_this_count : Int32) (n_this_poolSize : Int32) (n_this_whole : Int32) (n_this_bias : Int32) (f_this_text : Nat → Int32) (f_this_result : Nat → Int32) (f_this_row : Nat → Int32) (f_this_other : Nat → Int32) (f_this_starts : Nat → Int32) (f_this_sizes : Nat → Int32) (f_this_rules : Nat → Int32) (f_this_tagged : Nat → Int32) (f_this_pool : Nat → Int32) (f_this_placed : Nat → Int32) (a1 : Int32) (o : Int32) (h : P_Mod_directed f_this_starts f_this_sizes f_this_pool a1 = some o) : Met l y_Mod_directed (hn_w y_Mod_directed b_Mod_directed 8 (some .boolean)) rm_Mod_directed (hn_Pc D (TY cI cZ) tt [.ref h_this, .int a1] sz [(h_this, .inr (6, [.int n_this_textSize, .ref h_this_text, .int n_this_size, .ref h_this_result, .int n_this_rowSize, .ref h_this_row, .ref h_this_other, .int n_this_count, .ref h_this_starts, .ref h_this_sizes, .ref h_this_rules, .ref h_this_tagged, .int n_this_poolSize, .ref h_this_pool, .int n_this_whole, .ref h_this_placed, .int n_this_bias])), (h_this_text, .inl (cI, 48, .inl f_this_text)), (h_this_result, .inl (cI, 2000, .inl f_this_result)), (h_this_row, .inl (cI, 200, .inl f_this_row)), (h_this_other, .inl (cI, 200, .inl f_this_other)), (h_this_starts, .inl (cI, 50, .inl f_this_starts)), (h_this_sizes, .inl (cI, 50, .inl f_this_sizes)), (h_this_rules, .inl (cI, 50, .inl f_this_rules)), (h_this_tagged, .inl (cZ, 50, .inl f_this_tagged)), (h_this_pool, .inl (cI, 300, .inl f_this_pool)), (h_this_placed, .inl (cZ, 200, .inl f_this_placed))]) (hn_Qz D [(h_this, .inr (6, [.int n_this_textSize, .ref h_this_text, .int n_this_size, .ref h_this_result, .int n_this_rowSize, .ref h_this_row, .ref h_this_other, .int n_this_count, .ref h_this_starts, .ref h_this_sizes, .ref h_this_rules, .ref h_this_tagged, .int n_this_poolSize, .ref h_this_pool, .int n_this_whole, .ref h_this_placed, .int n_this_bias])), (h_this_text, .inl (cI, 48, .inl f_this_text)), (h_this_result, .inl (cI, 2000, .inl f_this_result)), (h_this_row, .inl (cI, 200, .inl f_this_row)), (h_this_other, .inl (cI, 200, .inl f_this_other)), (h_this_starts, .inl (cI, 50, .inl f_this_starts)), (h_this_sizes, .inl (cI, 50, .inl f_this_sizes)), (h_this_rules, .inl (cI, 50, .inl f_this_rules)), (h_this_tagged, .inl (cZ, 50, .inl f_this_tagged)), (h_this_pool, .inl (cI, 300, .inl f_this_pool)), (h_this_placed, .inl (cZ, 200, .inl f_this_placed))] sz [(h_this, .inr (6, [.int n_this_textSize, .ref h_this_text, .int n_this_size, .ref h_this_result, .int n_this_rowSize, .ref h_this_row, .ref h_this_other, .int n_this_count, .ref h_this_starts, .ref h_this_sizes, .ref h_this_rules, .ref h_this_tagged, .int n_this_poolSize, .ref h_this_pool, .int n_this_whole, .ref h_this_placed, .int n_this_bias])), (h_this_text, .inl (cI, 48, .inl f_this_text)), (h_this_result, .inl (cI, 2000, .inl f_this_result)), (h_this_row, .inl (cI, 200, .inl f_this_row)), (h_this_other, .inl (cI, 200, .inl f_this_other)), (h_this_starts, .inl (cI, 50, .inl f_this_starts)), (h_this_sizes, .inl (cI, 50, .inl f_this_sizes)), (h_this_rules, .inl (cI, 50, .inl f_this_rules)), (h_this_tagged, .inl (cZ, 50, .inl f_this_tagged)), (h_this_pool, .inl (cI, 300, .inl f_this_pool)), (h_this_placed, .inl (cZ, 200, .inl f_this_placed))] o) 0 0 (va_A [(h_this, .inr (6, [.int n_this_textSize, .ref h_this_text, .int n_this_size, .ref h_this_result, .int n_this_rowSize, .ref h_this_row, .ref h_this_other, .int n_this_count, .ref h_this_starts, .ref h_this_sizes, .ref h_this_rules, .ref h_this_tagged, .int n_this_poolSize, .ref h_this_pool, .int n_this_whole, .ref h_this_placed, .int n_this_bias])), (h_this_text, .inl (cI, 48, .inl f_this_text)), (h_this_result, .inl (cI, 2000, .inl f_this_result)), (h_this_row, .inl (cI, 200, .inl f_this_row)), (h_this_other, .inl (cI, 200, .inl f_this_other)), (h_this_starts, .inl (cI, 50, .inl f_this_starts)), (h_this_sizes, .inl (cI, 50, .inl f_this_sizes)), (h_this_rules, .inl (cI, 50, .inl f_this_rules)), (h_this_tagged, .inl (cZ, 50, .inl f_this_tagged)), (h_this_pool, .inl (cI, 300, .inl f_this_pool)), (h_this_placed, .inl (cZ, 200, .inl f_this_placed))] sz) := by
  refine hn_ofWz (own := R_Mod) (by decide) rfl (Nat.le_of_ble_eq_true rfl) ?_
  intro p e s m args below meth c A H locs ls Q S hE hl hret
  have hx := S.1
  have hb := S.2.1
  have hown := S.2.2.2.1
  have hl : lv_has ls 8 [(0, .ref h_this), (1, .int a1)] := hl
  have hj163 : ∀ (v3 : Int32) (v5 : Int32) (v7 : Int32) (H : Heap) (locs : List Loc) (ls : Array Slot), hn_E D (TY cI cZ) tt A s H locs [(h_this, .inr (6, [.int n_this_textSize, .ref h_this_text, .int n_this_size, .ref h_this_result, .int n_this_rowSize, .ref h_this_row, .ref h_this_other, .int n_this_count, .ref h_this_starts, .ref h_this_sizes, .ref h_this_rules, .ref h_this_tagged, .int n_this_poolSize, .ref h_this_pool, .int n_this_whole, .ref h_this_placed, .int n_this_bias])), (h_this_text, .inl (cI, 48, .inl f_this_text)), (h_this_result, .inl (cI, 2000, .inl f_this_result)), (h_this_row, .inl (cI, 200, .inl f_this_row)), (h_this_other, .inl (cI, 200, .inl f_this_other)), (h_this_starts, .inl (cI, 50, .inl f_this_starts)), (h_this_sizes, .inl (cI, 50, .inl f_this_sizes)), (h_this_rules, .inl (cI, 50, .inl f_this_rules)), (h_this_tagged, .inl (cZ, 50, .inl f_this_tagged)), (h_this_pool, .inl (cI, 300, .inl f_this_pool)), (h_this_placed, .inl (cZ, 200, .inl f_this_placed))] → lv_has ls 8 [(3, .int v3), (5, .int v5), (7, .int v7)] → P_Mod_directed_163 v3 v5 v7 = some o → W p l e rm_Mod_directed s m args below meth c H locs 0 0 Q (F0 m 163 ls []) := by
    intro v3 v5 v7 H locs ls hE hl h
    unfold P_Mod_directed_163 at h
    refine lv_iload_n hx hb d_Mod_directed_163 rfl (lv_at hl 0 rfl) ?_
    refine lv_bipush (v := 9) hx hb d_Mod_directed_164 (by decide) ?_
    refine lv_ishr hx hb d_Mod_directed_166 ?_
    refine lv_iconst (v := 1) hx hb d_Mod_directed_167 (by decide) ?_
    refine lv_iand hx hb d_Mod_directed_168 ?_
    refine lv_if_ne (tgt := 193) hx hb d_Mod_directed_169 (by decide) (fun hc => ?_) (fun hc => ?_)
    · have h := ite_f hc h
      refine lv_iconst (v := 0) hx hb d_Mod_directed_193 (by decide) ?_
      obtain rfl := Option.some.inj h
      exact hret H locs ls 194 d_Mod_directed_194 narrow_b0 hE
    · have h := ite_t hc h
      refine lv_iload hx hb d_Mod_directed_172 (lv_at hl 1 rfl) ?_
      refine lv_iconst (v := 1) hx hb d_Mod_directed_174 (by decide) ?_
      refine lv_icmp_lt (tgt := 193) hx hb d_Mod_directed_175 (by decide) (fun hc => ?_) (fun hc => ?_)
      · have h := ite_t hc h
        refine lv_iconst (v := 0) hx hb d_Mod_directed_193 (by decide) ?_
        obtain rfl := Option.some.inj h
        exact hret H locs ls 194 d_Mod_directed_194 narrow_b0 hE
      · have h := ite_f hc h
        refine lv_iload hx hb d_Mod_directed_178 (lv_at hl 1 rfl) ?_
        refine lv_iconst (v := 4) hx hb d_Mod_directed_180 (by decide) ?_
        refine lv_icmp_gt (tgt := 193) hx hb d_Mod_directed_181 (by decide) (fun hc => ?_) (fun hc => ?_)
        · have h := ite_t hc h
          refine lv_iconst (v := 0) hx hb d_Mod_directed_193 (by decide) ?_
          obtain rfl := Option.some.inj h
          exact hret H locs ls 194 d_Mod_directed_194 narrow_b0 hE
        · have h := ite_f hc h
          refine lv_iload hx hb d_Mod_directed_184 (lv_at hl 2 rfl) ?_
          refine lv_if_ne (tgt := 193) hx hb d_Mod_directed_186 (by decide) (fun hc => ?_) (fun hc => ?_)
          · have h := ite_f hc h
            refine lv_iconst (v := 0) hx hb d_Mod_directed_193 (by decide) ?_
            obtain rfl := Option.some.inj h
            exact hret H locs ls 194 d_Mod_directed_194 narrow_b0 hE
          · have h := ite_t hc h
            refine lv_iconst (v := 1) hx hb d_Mod_directed_189 (by decide) ?_
            refine lv_goto (tgt := 194) hx hb d_Mod_directed_190 (by decide) ?_
            obtain rfl := Option.some.inj h
            exact hret H locs ls 194 d_Mod_directed_194 narrow_b1 hE
  have hj149 : ∀ (v3 : Int32) (v5 : Int32) (v6 : Int32) (s0 : Int32) (H : Heap) (locs : List Loc) (ls : Array Slot), hn_E D (TY cI cZ) tt A s H locs [(h_this, .inr (6, [.int n_this_textSize, .ref h_this_text, .int n_this_size, .ref h_this_result, .int n_this_rowSize, .ref h_this_row, .ref h_this_other, .int n_this_count, .ref h_this_starts, .ref h_this_sizes, .ref h_this_rules, .ref h_this_tagged, .int n_this_poolSize, .ref h_this_pool, .int n_this_whole, .ref h_this_placed, .int n_this_bias])), (h_this_text, .inl (cI, 48, .inl f_this_text)), (h_this_result, .inl (cI, 2000, .inl f_this_result)), (h_this_row, .inl (cI, 200, .inl f_this_row)), (h_this_other, .inl (cI, 200, .inl f_this_other)), (h_this_starts, .inl (cI, 50, .inl f_this_starts)), (h_this_sizes, .inl (cI, 50, .inl f_this_sizes)), (h_this_rules, .inl (cI, 50, .inl f_this_rules)), (h_this_tagged, .inl (cZ, 50, .inl f_this_tagged)), (h_this_pool, .inl (cI, 300, .inl f_this_pool)), (h_this_placed, .inl (cZ, 200, .inl f_this_placed))] → lv_has ls 8 [(3, .int v3), (5, .int v5), (6, .int v6)] → P_Mod_directed_149 v3 v5 v6 s0 = some o → W p l e rm_Mod_directed s m args below meth c H locs 0 0 Q (F0 m 149 ls [.int s0]) := by
    intro v3 v5 v6 s0 H locs ls hE hl h
    unfold P_Mod_directed_149 at h
    refine lv_istore (lv' := [(7, .int s0), (3, .int v3), (5, .int v5), (6, .int v6)]) hx hb d_Mod_directed_149 hl (by decide) rfl (fun ls hl => ?_)
    refine lv_iload hx hb d_Mod_directed_151 (lv_at hl 3 rfl) ?_
    refine lv_iconst (v := 1) hx hb d_Mod_directed_153 (by decide) ?_
    refine lv_icmp_eq (tgt := 163) hx hb d_Mod_directed_154 (by decide) (fun hc => ?_) (fun hc => ?_)
    · have h := ite_t hc h
      exact hj163 v3 v5 s0 H locs ls hE (lv_sub hl [1, 2, 0] rfl) h
    · have h := ite_f hc h
      refine lv_iload hx hb d_Mod_directed_157 (lv_at hl 3 rfl) ?_
      refine lv_iconst (v := 2) hx hb d_Mod_directed_159 (by decide) ?_
      refine lv_icmp_ne (tgt := 193) hx hb d_Mod_directed_160 (by decide) (fun hc => ?_) (fun hc => ?_)
      · have h := ite_f hc h
        refine lv_iconst (v := 0) hx hb d_Mod_directed_193 (by decide) ?_
        obtain rfl := Option.some.inj h
        exact hret H locs ls 194 d_Mod_directed_194 narrow_b0 hE
      · have h := ite_t hc h
        exact hj163 v3 v5 s0 H locs ls hE (lv_sub hl [1, 2, 0] rfl) h
  have hj70 : ∀ (v3 : Int32) (v4 : Int32) (H : Heap) (locs : List Loc) (ls : Array Slot), hn_E D (TY cI cZ) tt A s H locs [(h_this, .inr (6, [.int n_this_textSize, .ref h_this_text, .int n_this_size, .ref h_this_result, .int n_this_rowSize, .ref h_this_row, .ref h_this_other, .int n_this_count, .ref h_this_starts, .ref h_this_sizes, .ref h_this_rules, .ref h_this_tagged, .int n_this_poolSize, .ref h_this_pool, .int n_this_whole, .ref h_this_placed, .int n_this_bias])), (h_this_text, .inl (cI, 48, .inl f_this_text)), (h_this_result, .inl (cI, 2000, .inl f_this_result)), (h_this_row, .inl (cI, 200, .inl f_this_row)), (h_this_other, .inl (cI, 200, .inl f_this_other)), (h_this_starts, .inl (cI, 50, .inl f_this_starts)), (h_this_sizes, .inl (cI, 50, .inl f_this_sizes)), (h_this_rules, .inl (cI, 50, .inl f_this_rules)), (h_this_tagged, .inl (cZ, 50, .inl f_this_tagged)), (h_this_pool, .inl (cI, 300, .inl f_this_pool)), (h_this_placed, .inl (cZ, 200, .inl f_this_placed))] → lv_has ls 8 [(0, .ref h_this), (1, .int a1), (3, .int v3), (4, .int v4)] → P_Mod_directed_70 f_this_starts f_this_pool a1 v3 v4 = some o → W p l e rm_Mod_directed s m args below meth c H locs 0 0 Q (F0 m 70 ls []) := by
    intro v3 v4 H locs ls hE hl h
    unfold P_Mod_directed_70 at h
    refine lv_aload_n hx hb d_Mod_directed_70 rfl (lv_at hl 0 rfl) ?_
    refine lv_iload_n hx hb d_Mod_directed_71 rfl (lv_at hl 1 rfl) ?_
    refine lv_iload hx hb d_Mod_directed_72 (lv_at hl 3 rfl) ?_
    obtain ⟨x74, hc74, h⟩ := bd_s h
    have hM := (c_Mod_codeOf l D cI cZ tt h_this h_this_text h_this_result h_this_row h_this_other h_this_starts h_this_sizes h_this_rules h_this_tagged h_this_pool h_this_placed H.size n_this_textSize n_this_size n_this_rowSize n_this_count n_this_poolSize n_this_whole n_this_bias f_this_text f_this_result f_this_row f_this_other f_this_starts f_this_sizes f_this_rules f_this_tagged f_this_pool f_this_placed a1 v4 x74 hc74)
    refine hn_ci hE (hn_runV (As := [.int a1, .int v4]) (rest := []) S hE hM cf_Mod_codeOf mw_649 mw_651 ms_31 ⟨rfl, rfl⟩ ⟨Nat.le_of_ble_eq_true rfl, Nat.le_of_ble_eq_true rfl⟩ [0, 1, 2, 3, 4, 5, 6, 7, 8, 9, 10] rfl rfl rfl rfl rfl rfl hl.1 (lv_room (Nat.le_of_ble_eq_true rfl)) d_Mod_directed_74 ⟨Nat.zero_le _, Nat.zero_le _⟩) [0, 1, 2, 3, 4, 5, 6, 7, 8, 9, 10] rfl rfl (fun H locs hE => ?_)
    have hE : hn_E D (TY cI cZ) tt A s H locs [(h_this, .inr (6, [.int n_this_textSize, .ref h_this_text, .int n_this_size, .ref h_this_result, .int n_this_rowSize, .ref h_this_row, .ref h_this_other, .int n_this_count, .ref h_this_starts, .ref h_this_sizes, .ref h_this_rules, .ref h_this_tagged, .int n_this_poolSize, .ref h_this_pool, .int n_this_whole, .ref h_this_placed, .int n_this_bias])), (h_this_text, .inl (cI, 48, .inl f_this_text)), (h_this_result, .inl (cI, 2000, .inl f_this_result)), (h_this_row, .inl (cI, 200, .inl f_this_row)), (h_this_other, .inl (cI, 200, .inl f_this_other)), (h_this_starts, .inl (cI, 50, .inl f_this_starts)), (h_this_sizes, .inl (cI, 50, .inl f_this_sizes)), (h_this_rules, .inl (cI, 50, .inl f_this_rules)), (h_this_tagged, .inl (cZ, 50, .inl f_this_tagged)), (h_this_pool, .inl (cI, 300, .inl f_this_pool)), (h_this_placed, .inl (cZ, 200, .inl f_this_placed))] := hE
    obtain ⟨x77, hc77, h⟩ := bd_s h
    have hM := (c_Mod_direction l D cI cZ tt H.size x74 x77 hc77)
    refine hn_ci hE (hn_runS (As := [.int x74]) (rest := []) S hE hM cf_Mod_direction mw_653 mw_654 ⟨rfl, rfl⟩ ⟨Nat.le_of_ble_eq_true rfl, Nat.le_of_ble_eq_true rfl⟩ [] rfl rfl rfl rfl hl.1 (lv_room (Nat.le_of_ble_eq_true rfl)) d_Mod_directed_77 ⟨Nat.zero_le _, Nat.zero_le _⟩) [] rfl rfl (fun H locs hE => ?_)
    have hE : hn_E D (TY cI cZ) tt A s H locs [(h_this, .inr (6, [.int n_this_textSize, .ref h_this_text, .int n_this_size, .ref h_this_result, .int n_this_rowSize, .ref h_this_row, .ref h_this_other, .int n_this_count, .ref h_this_starts, .ref h_this_sizes, .ref h_this_rules, .ref h_this_tagged, .int n_this_poolSize, .ref h_this_pool, .int n_this_whole, .ref h_this_placed, .int n_this_bias])), (h_this_text, .inl (cI, 48, .inl f_this_text)), (h_this_result, .inl (cI, 2000, .inl f_this_result)), (h_this_row, .inl (cI, 200, .inl f_this_row)), (h_this_other, .inl (cI, 200, .inl f_this_other)), (h_this_starts, .inl (cI, 50, .inl f_this_starts)), (h_this_sizes, .inl (cI, 50, .inl f_this_sizes)), (h_this_rules, .inl (cI, 50, .inl f_this_rules)), (h_this_tagged, .inl (cZ, 50, .inl f_this_tagged)), (h_this_pool, .inl (cI, 300, .inl f_this_pool)), (h_this_placed, .inl (cZ, 200, .inl f_this_placed))] := hE
    refine lv_istore (lv' := [(5, .int x77), (0, .ref h_this), (1, .int a1), (3, .int v3), (4, .int v4)]) hx hb d_Mod_directed_80 hl (by decide) rfl (fun ls hl => ?_)
    refine lv_aload_n hx hb d_Mod_directed_82 rfl (lv_at hl 1 rfl) ?_
    refine lv_iload_n hx hb d_Mod_directed_83 rfl (lv_at hl 2 rfl) ?_
    refine lv_iconst (v := 0) hx hb d_Mod_directed_84 (by decide) ?_
    obtain ⟨x85, hc85, h⟩ := bd_s h
    have hM := (c_Mod_codeOf l D cI cZ tt h_this h_this_text h_this_result h_this_row h_this_other h_this_starts h_this_sizes h_this_rules h_this_tagged h_this_pool h_this_placed H.size n_this_textSize n_this_size n_this_rowSize n_this_count n_this_poolSize n_this_whole n_this_bias f_this_text f_this_result f_this_row f_this_other f_this_starts f_this_sizes f_this_rules f_this_tagged f_this_pool f_this_placed a1 (0 : Int32) x85 hc85)
    refine hn_ci hE (hn_runV (As := [.int a1, .int (0 : Int32)]) (rest := []) S hE hM cf_Mod_codeOf mw_649 mw_651 ms_31 ⟨rfl, rfl⟩ ⟨Nat.le_of_ble_eq_true rfl, Nat.le_of_ble_eq_true rfl⟩ [0, 1, 2, 3, 4, 5, 6, 7, 8, 9, 10] rfl rfl rfl rfl rfl rfl hl.1 (lv_room (Nat.le_of_ble_eq_true rfl)) d_Mod_directed_85 ⟨Nat.zero_le _, Nat.zero_le _⟩) [0, 1, 2, 3, 4, 5, 6, 7, 8, 9, 10] rfl rfl (fun H locs hE => ?_)
    have hE : hn_E D (TY cI cZ) tt A s H locs [(h_this, .inr (6, [.int n_this_textSize, .ref h_this_text, .int n_this_size, .ref h_this_result, .int n_this_rowSize, .ref h_this_row, .ref h_this_other, .int n_this_count, .ref h_this_starts, .ref h_this_sizes, .ref h_this_rules, .ref h_this_tagged, .int n_this_poolSize, .ref h_this_pool, .int n_this_whole, .ref h_this_placed, .int n_this_bias])), (h_this_text, .inl (cI, 48, .inl f_this_text)), (h_this_result, .inl (cI, 2000, .inl f_this_result)), (h_this_row, .inl (cI, 200, .inl f_this_row)), (h_this_other, .inl (cI, 200, .inl f_this_other)), (h_this_starts, .inl (cI, 50, .inl f_this_starts)), (h_this_sizes, .inl (cI, 50, .inl f_this_sizes)), (h_this_rules, .inl (cI, 50, .inl f_this_rules)), (h_this_tagged, .inl (cZ, 50, .inl f_this_tagged)), (h_this_pool, .inl (cI, 300, .inl f_this_pool)), (h_this_placed, .inl (cZ, 200, .inl f_this_placed))] := hE
    obtain ⟨x88, hc88, h⟩ := bd_s h
    have hM := (c_Mod_direction l D cI cZ tt H.size x85 x88 hc88)
    refine hn_ci hE (hn_runS (As := [.int x85]) (rest := []) S hE hM cf_Mod_direction mw_653 mw_654 ⟨rfl, rfl⟩ ⟨Nat.le_of_ble_eq_true rfl, Nat.le_of_ble_eq_true rfl⟩ [] rfl rfl rfl rfl hl.1 (lv_room (Nat.le_of_ble_eq_true rfl)) d_Mod_directed_88 ⟨Nat.zero_le _, Nat.zero_le _⟩) [] rfl rfl (fun H locs hE => ?_)
    have hE : hn_E D (TY cI cZ) tt A s H locs [(h_this, .inr (6, [.int n_this_textSize, .ref h_this_text, .int n_this_size, .ref h_this_result, .int n_this_rowSize, .ref h_this_row, .ref h_this_other, .int n_this_count, .ref h_this_starts, .ref h_this_sizes, .ref h_this_rules, .ref h_this_tagged, .int n_this_poolSize, .ref h_this_pool, .int n_this_whole, .ref h_this_placed, .int n_this_bias])), (h_this_text, .inl (cI, 48, .inl f_this_text)), (h_this_result, .inl (cI, 2000, .inl f_this_result)), (h_this_row, .inl (cI, 200, .inl f_this_row)), (h_this_other, .inl (cI, 200, .inl f_this_other)), (h_this_starts, .inl (cI, 50, .inl f_this_starts)), (h_this_sizes, .inl (cI, 50, .inl f_this_sizes)), (h_this_rules, .inl (cI, 50, .inl f_this_rules)), (h_this_tagged, .inl (cZ, 50, .inl f_this_tagged)), (h_this_pool, .inl (cI, 300, .inl f_this_pool)), (h_this_placed, .inl (cZ, 200, .inl f_this_placed))] := hE
    refine lv_istore (lv' := [(6, .int x88), (5, .int x77), (0, .ref h_this), (1, .int a1), (3, .int v3), (4, .int v4)]) hx hb d_Mod_directed_91 hl (by decide) rfl (fun ls hl => ?_)
    refine lv_iload hx hb d_Mod_directed_93 (lv_at hl 0 rfl) ?_
    refine lv_bipush (v := 9) hx hb d_Mod_directed_95 (by decide) ?_
    refine lv_icmp_ne (tgt := 126) hx hb d_Mod_directed_97 (by decide) (fun hc => ?_) (fun hc => ?_)
    · have h := ite_f hc h
      refine lv_iload_n hx hb d_Mod_directed_126 rfl (lv_at hl 4 rfl) ?_
      refine lv_iconst (v := 3) hx hb d_Mod_directed_127 (by decide) ?_
      refine lv_ishr hx hb d_Mod_directed_128 ?_
      refine lv_iconst (v := 1) hx hb d_Mod_directed_129 (by decide) ?_
      refine lv_iand hx hb d_Mod_directed_130 ?_
      refine lv_iconst (v := 1) hx hb d_Mod_directed_131 (by decide) ?_
      refine lv_icmp_ne (tgt := 148) hx hb d_Mod_directed_132 (by decide) (fun hc => ?_) (fun hc => ?_)
      · have h := ite_f hc h
        refine lv_iconst (v := 0) hx hb d_Mod_directed_148 (by decide) ?_
        exact hj149 v3 x77 x88 (0 : Int32) H locs ls hE (lv_sub hl [4, 1, 0] rfl) h
      · have h := ite_t hc h
        refine lv_iload_n hx hb d_Mod_directed_135 rfl (lv_at hl 4 rfl) ?_
        refine lv_iconst (v := 4) hx hb d_Mod_directed_136 (by decide) ?_
        refine lv_ishr hx hb d_Mod_directed_137 ?_
        refine lv_iconst (v := 1) hx hb d_Mod_directed_138 (by decide) ?_
        refine lv_iand hx hb d_Mod_directed_139 ?_
        refine lv_iconst (v := 1) hx hb d_Mod_directed_140 (by decide) ?_
        refine lv_icmp_ne (tgt := 148) hx hb d_Mod_directed_141 (by decide) (fun hc => ?_) (fun hc => ?_)
        · have h := ite_f hc h
          refine lv_iconst (v := 0) hx hb d_Mod_directed_148 (by decide) ?_
          exact hj149 v3 x77 x88 (0 : Int32) H locs ls hE (lv_sub hl [4, 1, 0] rfl) h
        · have h := ite_t hc h
          refine lv_iconst (v := 1) hx hb d_Mod_directed_144 (by decide) ?_
          refine lv_goto (tgt := 149) hx hb d_Mod_directed_145 (by decide) ?_
          exact hj149 v3 x77 x88 (1 : Int32) H locs ls hE (lv_sub hl [4, 1, 0] rfl) h
    · have h := ite_t hc h
      refine lv_iload_n hx hb d_Mod_directed_100 rfl (lv_at hl 4 rfl) ?_
      refine lv_bipush (v := 14) hx hb d_Mod_directed_101 (by decide) ?_
      refine lv_iand hx hb d_Mod_directed_103 ?_
      refine lv_if_ne (tgt := 124) hx hb d_Mod_directed_104 (by decide) (fun hc => ?_) (fun hc => ?_)
      · have h := ite_f hc h
        refine lv_iconst (v := 0) hx hb d_Mod_directed_124 (by decide) ?_
        obtain rfl := Option.some.inj h
        exact hret H locs ls 125 d_Mod_directed_125 narrow_b0 hE
      · have h := ite_t hc h
        refine lv_iload hx hb d_Mod_directed_107 (lv_at hl 1 rfl) ?_
        refine lv_bipush (v := 9) hx hb d_Mod_directed_109 (by decide) ?_
        refine lv_icmp_eq (tgt := 120) hx hb d_Mod_directed_111 (by decide) (fun hc => ?_) (fun hc => ?_)
        · have h := ite_t hc h
          refine lv_iconst (v := 1) hx hb d_Mod_directed_120 (by decide) ?_
          refine lv_goto (tgt := 125) hx hb d_Mod_directed_121 (by decide) ?_
          obtain rfl := Option.some.inj h
          exact hret H locs ls 125 d_Mod_directed_125 narrow_b1 hE
        · have h := ite_f hc h
          refine lv_iload hx hb d_Mod_directed_114 (lv_at hl 1 rfl) ?_
          refine lv_iconst (v := 4) hx hb d_Mod_directed_116 (by decide) ?_
          refine lv_icmp_ne (tgt := 124) hx hb d_Mod_directed_117 (by decide) (fun hc => ?_) (fun hc => ?_)
          · have h := ite_f hc h
            refine lv_iconst (v := 0) hx hb d_Mod_directed_124 (by decide) ?_
            obtain rfl := Option.some.inj h
            exact hret H locs ls 125 d_Mod_directed_125 narrow_b0 hE
          · have h := ite_t hc h
            refine lv_iconst (v := 1) hx hb d_Mod_directed_120 (by decide) ?_
            refine lv_goto (tgt := 125) hx hb d_Mod_directed_121 (by decide) ?_
            obtain rfl := Option.some.inj h
            exact hret H locs ls 125 d_Mod_directed_125 narrow_b1 hE
  have hL44 : ∀ (v3 : Int32) (kf : Nat) (v4 : Int32) (H : Heap) (locs : List Loc) (ls : Array Slot), hn_E D (TY cI cZ) tt A s H locs [(h_this, .inr (6, [.int n_this_textSize, .ref h_this_text, .int n_this_size, .ref h_this_result, .int n_this_rowSize, .ref h_this_row, .ref h_this_other, .int n_this_count, .ref h_this_starts, .ref h_this_sizes, .ref h_this_rules, .ref h_this_tagged, .int n_this_poolSize, .ref h_this_pool, .int n_this_whole, .ref h_this_placed, .int n_this_bias])), (h_this_text, .inl (cI, 48, .inl f_this_text)), (h_this_result, .inl (cI, 2000, .inl f_this_result)), (h_this_row, .inl (cI, 200, .inl f_this_row)), (h_this_other, .inl (cI, 200, .inl f_this_other)), (h_this_starts, .inl (cI, 50, .inl f_this_starts)), (h_this_sizes, .inl (cI, 50, .inl f_this_sizes)), (h_this_rules, .inl (cI, 50, .inl f_this_rules)), (h_this_tagged, .inl (cZ, 50, .inl f_this_tagged)), (h_this_pool, .inl (cI, 300, .inl f_this_pool)), (h_this_placed, .inl (cZ, 200, .inl f_this_placed))] → lv_has ls 8 [(0, .ref h_this), (1, .int a1), (3, .int v3), (4, .int v4)] → fl1 (P_Mod_directed_44 f_this_starts f_this_pool a1 v3) kf v4 = some o → W p l e rm_Mod_directed s m args below meth c H locs 0 0 Q (F0 m 44 ls []) := by
    intro v3 kf
    induction kf with
    | zero => intro v4 H locs ls hE hl h; exact no_s h
    | succ kf ih =>
      intro v4 H locs ls hE hl h
      have h : P_Mod_directed_44 f_this_starts f_this_pool a1 v3 (fl1 (P_Mod_directed_44 f_this_starts f_this_pool a1 v3) kf) v4 = some o := h
      generalize fl1 (P_Mod_directed_44 f_this_starts f_this_pool a1 v3) kf = k44 at ih h
      have hk44 := ih
      unfold P_Mod_directed_44 at h
      refine lv_iload hx hb d_Mod_directed_44 (lv_at hl 3 rfl) ?_
      refine lv_if_le (tgt := 70) hx hb d_Mod_directed_46 (by decide) (fun hc => ?_) (fun hc => ?_)
      · have h := ite_t hc h
        exact hj70 v3 v4 H locs ls hE (lv_sub hl [0, 1, 2, 3] rfl) h
      · have h := ite_f hc h
        refine lv_aload_n hx hb d_Mod_directed_49 rfl (lv_at hl 0 rfl) ?_
        refine lv_iload_n hx hb d_Mod_directed_50 rfl (lv_at hl 1 rfl) ?_
        refine lv_iload hx hb d_Mod_directed_51 (lv_at hl 3 rfl) ?_
        obtain ⟨x53, hc53, h⟩ := bd_s h
        have hM := (c_Mod_codeOf l D cI cZ tt h_this h_this_text h_this_result h_this_row h_this_other h_this_starts h_this_sizes h_this_rules h_this_tagged h_this_pool h_this_placed H.size n_this_textSize n_this_size n_this_rowSize n_this_count n_this_poolSize n_this_whole n_this_bias f_this_text f_this_result f_this_row f_this_other f_this_starts f_this_sizes f_this_rules f_this_tagged f_this_pool f_this_placed a1 v4 x53 hc53)
        refine hn_ci hE (hn_runV (As := [.int a1, .int v4]) (rest := []) S hE hM cf_Mod_codeOf mw_649 mw_651 ms_31 ⟨rfl, rfl⟩ ⟨Nat.le_of_ble_eq_true rfl, Nat.le_of_ble_eq_true rfl⟩ [0, 1, 2, 3, 4, 5, 6, 7, 8, 9, 10] rfl rfl rfl rfl rfl rfl hl.1 (lv_room (Nat.le_of_ble_eq_true rfl)) d_Mod_directed_53 ⟨Nat.zero_le _, Nat.zero_le _⟩) [0, 1, 2, 3, 4, 5, 6, 7, 8, 9, 10] rfl rfl (fun H locs hE => ?_)
        have hE : hn_E D (TY cI cZ) tt A s H locs [(h_this, .inr (6, [.int n_this_textSize, .ref h_this_text, .int n_this_size, .ref h_this_result, .int n_this_rowSize, .ref h_this_row, .ref h_this_other, .int n_this_count, .ref h_this_starts, .ref h_this_sizes, .ref h_this_rules, .ref h_this_tagged, .int n_this_poolSize, .ref h_this_pool, .int n_this_whole, .ref h_this_placed, .int n_this_bias])), (h_this_text, .inl (cI, 48, .inl f_this_text)), (h_this_result, .inl (cI, 2000, .inl f_this_result)), (h_this_row, .inl (cI, 200, .inl f_this_row)), (h_this_other, .inl (cI, 200, .inl f_this_other)), (h_this_starts, .inl (cI, 50, .inl f_this_starts)), (h_this_sizes, .inl (cI, 50, .inl f_this_sizes)), (h_this_rules, .inl (cI, 50, .inl f_this_rules)), (h_this_tagged, .inl (cZ, 50, .inl f_this_tagged)), (h_this_pool, .inl (cI, 300, .inl f_this_pool)), (h_this_placed, .inl (cZ, 200, .inl f_this_placed))] := hE
        obtain ⟨x56, hc56, h⟩ := bd_s h
        have hM := (c_Mod_direction l D cI cZ tt H.size x53 x56 hc56)
        refine hn_ci hE (hn_runS (As := [.int x53]) (rest := []) S hE hM cf_Mod_direction mw_653 mw_654 ⟨rfl, rfl⟩ ⟨Nat.le_of_ble_eq_true rfl, Nat.le_of_ble_eq_true rfl⟩ [] rfl rfl rfl rfl hl.1 (lv_room (Nat.le_of_ble_eq_true rfl)) d_Mod_directed_56 ⟨Nat.zero_le _, Nat.zero_le _⟩) [] rfl rfl (fun H locs hE => ?_)
        have hE : hn_E D (TY cI cZ) tt A s H locs [(h_this, .inr (6, [.int n_this_textSize, .ref h_this_text, .int n_this_size, .ref h_this_result, .int n_this_rowSize, .ref h_this_row, .ref h_this_other, .int n_this_count, .ref h_this_starts, .ref h_this_sizes, .ref h_this_rules, .ref h_this_tagged, .int n_this_poolSize, .ref h_this_pool, .int n_this_whole, .ref h_this_placed, .int n_this_bias])), (h_this_text, .inl (cI, 48, .inl f_this_text)), (h_this_result, .inl (cI, 2000, .inl f_this_result)), (h_this_row, .inl (cI, 200, .inl f_this_row)), (h_this_other, .inl (cI, 200, .inl f_this_other)), (h_this_starts, .inl (cI, 50, .inl f_this_starts)), (h_this_sizes, .inl (cI, 50, .inl f_this_sizes)), (h_this_rules, .inl (cI, 50, .inl f_this_rules)), (h_this_tagged, .inl (cZ, 50, .inl f_this_tagged)), (h_this_pool, .inl (cI, 300, .inl f_this_pool)), (h_this_placed, .inl (cZ, 200, .inl f_this_placed))] := hE
        refine lv_bipush (v := 6) hx hb d_Mod_directed_59 (by decide) ?_
        refine lv_icmp_ne (tgt := 70) hx hb d_Mod_directed_61 (by decide) (fun hc => ?_) (fun hc => ?_)
        · have h := ite_f hc h
          exact hj70 v3 v4 H locs ls hE (lv_sub hl [0, 1, 2, 3] rfl) h
        · have h := ite_t hc h
          refine lv_iinc (v := (v4 + (-1 : Int32))) (lv' := [(4, .int (v4 + (-1 : Int32))), (0, .ref h_this), (1, .int a1), (3, .int v3)]) hx hb d_Mod_directed_64 hl (k := 3) rfl rfl (by decide) rfl (fun ls hl => ?_)
          refine lv_goto (tgt := 44) hx hb d_Mod_directed_67 (by decide) ?_
          exact hk44 (v4 + (-1 : Int32)) H locs ls hE (lv_sub hl [1, 2, 3, 0] rfl) h
  have hL12 : ∀ (v2 : Int32) (kf : Nat) (v3 : Int32) (v4 : Int32) (H : Heap) (locs : List Loc) (ls : Array Slot), hn_E D (TY cI cZ) tt A s H locs [(h_this, .inr (6, [.int n_this_textSize, .ref h_this_text, .int n_this_size, .ref h_this_result, .int n_this_rowSize, .ref h_this_row, .ref h_this_other, .int n_this_count, .ref h_this_starts, .ref h_this_sizes, .ref h_this_rules, .ref h_this_tagged, .int n_this_poolSize, .ref h_this_pool, .int n_this_whole, .ref h_this_placed, .int n_this_bias])), (h_this_text, .inl (cI, 48, .inl f_this_text)), (h_this_result, .inl (cI, 2000, .inl f_this_result)), (h_this_row, .inl (cI, 200, .inl f_this_row)), (h_this_other, .inl (cI, 200, .inl f_this_other)), (h_this_starts, .inl (cI, 50, .inl f_this_starts)), (h_this_sizes, .inl (cI, 50, .inl f_this_sizes)), (h_this_rules, .inl (cI, 50, .inl f_this_rules)), (h_this_tagged, .inl (cZ, 50, .inl f_this_tagged)), (h_this_pool, .inl (cI, 300, .inl f_this_pool)), (h_this_placed, .inl (cZ, 200, .inl f_this_placed))] → lv_has ls 8 [(0, .ref h_this), (1, .int a1), (2, .int v2), (3, .int v3), (4, .int v4)] → fl2 (P_Mod_directed_12 f_this_starts f_this_pool a1 v2) kf v3 v4 = some o → W p l e rm_Mod_directed s m args below meth c H locs 0 0 Q (F0 m 12 ls []) := by
    intro v2 kf
    induction kf with
    | zero => intro v3 v4 H locs ls hE hl h; exact no_s h
    | succ kf ih =>
      intro v3 v4 H locs ls hE hl h
      have h : P_Mod_directed_12 f_this_starts f_this_pool a1 v2 (fl2 (P_Mod_directed_12 f_this_starts f_this_pool a1 v2) kf) v3 v4 = some o := h
      generalize fl2 (P_Mod_directed_12 f_this_starts f_this_pool a1 v2) kf = k12 at ih h
      have hk12 := ih
      unfold P_Mod_directed_12 at h
      refine lv_iload hx hb d_Mod_directed_12 (lv_at hl 4 rfl) ?_
      refine lv_iload_n hx hb d_Mod_directed_14 rfl (lv_at hl 2 rfl) ?_
      refine lv_icmp_ge (tgt := 39) hx hb d_Mod_directed_15 (by decide) (fun hc => ?_) (fun hc => ?_)
      · have h := ite_t hc h
        refine lv_iload_n hx hb d_Mod_directed_39 rfl (lv_at hl 2 rfl) ?_
        refine lv_iconst (v := 1) hx hb d_Mod_directed_40 (by decide) ?_
        refine lv_isub hx hb d_Mod_directed_41 ?_
        refine lv_istore (lv' := [(4, .int (v2 - (1 : Int32))), (0, .ref h_this), (1, .int a1), (2, .int v2), (3, .int v3)]) hx hb d_Mod_directed_42 hl (by decide) rfl (fun ls hl => ?_)
        exact hL44 v3 fu (v2 - (1 : Int32)) H locs ls hE (lv_sub hl [1, 2, 4, 0] rfl) h
      · have h := ite_f hc h
        refine lv_iload_n hx hb d_Mod_directed_18 rfl (lv_at hl 3 rfl) ?_
        refine lv_iconst (v := 1) hx hb d_Mod_directed_19 (by decide) ?_
        refine lv_aload_n hx hb d_Mod_directed_20 rfl (lv_at hl 0 rfl) ?_
        refine lv_iload_n hx hb d_Mod_directed_21 rfl (lv_at hl 1 rfl) ?_
        refine lv_iload hx hb d_Mod_directed_22 (lv_at hl 4 rfl) ?_
        obtain ⟨x24, hc24, h⟩ := bd_s h
        have hM := (c_Mod_codeOf l D cI cZ tt h_this h_this_text h_this_result h_this_row h_this_other h_this_starts h_this_sizes h_this_rules h_this_tagged h_this_pool h_this_placed H.size n_this_textSize n_this_size n_this_rowSize n_this_count n_this_poolSize n_this_whole n_this_bias f_this_text f_this_result f_this_row f_this_other f_this_starts f_this_sizes f_this_rules f_this_tagged f_this_pool f_this_placed a1 v4 x24 hc24)
        refine hn_ci hE (hn_runV (As := [.int a1, .int v4]) (rest := [.int (1 : Int32), .int v3]) S hE hM cf_Mod_codeOf mw_649 mw_651 ms_31 ⟨rfl, rfl⟩ ⟨Nat.le_of_ble_eq_true rfl, Nat.le_of_ble_eq_true rfl⟩ [0, 1, 2, 3, 4, 5, 6, 7, 8, 9, 10] rfl rfl rfl rfl rfl rfl hl.1 (lv_room (Nat.le_of_ble_eq_true rfl)) d_Mod_directed_24 ⟨Nat.zero_le _, Nat.zero_le _⟩) [0, 1, 2, 3, 4, 5, 6, 7, 8, 9, 10] rfl rfl (fun H locs hE => ?_)
        have hE : hn_E D (TY cI cZ) tt A s H locs [(h_this, .inr (6, [.int n_this_textSize, .ref h_this_text, .int n_this_size, .ref h_this_result, .int n_this_rowSize, .ref h_this_row, .ref h_this_other, .int n_this_count, .ref h_this_starts, .ref h_this_sizes, .ref h_this_rules, .ref h_this_tagged, .int n_this_poolSize, .ref h_this_pool, .int n_this_whole, .ref h_this_placed, .int n_this_bias])), (h_this_text, .inl (cI, 48, .inl f_this_text)), (h_this_result, .inl (cI, 2000, .inl f_this_result)), (h_this_row, .inl (cI, 200, .inl f_this_row)), (h_this_other, .inl (cI, 200, .inl f_this_other)), (h_this_starts, .inl (cI, 50, .inl f_this_starts)), (h_this_sizes, .inl (cI, 50, .inl f_this_sizes)), (h_this_rules, .inl (cI, 50, .inl f_this_rules)), (h_this_tagged, .inl (cZ, 50, .inl f_this_tagged)), (h_this_pool, .inl (cI, 300, .inl f_this_pool)), (h_this_placed, .inl (cZ, 200, .inl f_this_placed))] := hE
        obtain ⟨x27, hc27, h⟩ := bd_s h
        have hM := (c_Mod_direction l D cI cZ tt H.size x24 x27 hc27)
        refine hn_ci hE (hn_runS (As := [.int x24]) (rest := [.int (1 : Int32), .int v3]) S hE hM cf_Mod_direction mw_653 mw_654 ⟨rfl, rfl⟩ ⟨Nat.le_of_ble_eq_true rfl, Nat.le_of_ble_eq_true rfl⟩ [] rfl rfl rfl rfl hl.1 (lv_room (Nat.le_of_ble_eq_true rfl)) d_Mod_directed_27 ⟨Nat.zero_le _, Nat.zero_le _⟩) [] rfl rfl (fun H locs hE => ?_)
        have hE : hn_E D (TY cI cZ) tt A s H locs [(h_this, .inr (6, [.int n_this_textSize, .ref h_this_text, .int n_this_size, .ref h_this_result, .int n_this_rowSize, .ref h_this_row, .ref h_this_other, .int n_this_count, .ref h_this_starts, .ref h_this_sizes, .ref h_this_rules, .ref h_this_tagged, .int n_this_poolSize, .ref h_this_pool, .int n_this_whole, .ref h_this_placed, .int n_this_bias])), (h_this_text, .inl (cI, 48, .inl f_this_text)), (h_this_result, .inl (cI, 2000, .inl f_this_result)), (h_this_row, .inl (cI, 200, .inl f_this_row)), (h_this_other, .inl (cI, 200, .inl f_this_other)), (h_this_starts, .inl (cI, 50, .inl f_this_starts)), (h_this_sizes, .inl (cI, 50, .inl f_this_sizes)), (h_this_rules, .inl (cI, 50, .inl f_this_rules)), (h_this_tagged, .inl (cZ, 50, .inl f_this_tagged)), (h_this_pool, .inl (cI, 300, .inl f_this_pool)), (h_this_placed, .inl (cZ, 200, .inl f_this_placed))] := hE
        refine lv_ishl hx hb d_Mod_directed_30 ?_
        refine lv_ior hx hb d_Mod_directed_31 ?_
        refine lv_istore_n (lv' := [(3, .int (v3 ||| ((1 : Int32) <<< (x27 &&& 31)))), (0, .ref h_this), (1, .int a1), (2, .int v2), (4, .int v4)]) hx hb d_Mod_directed_32 rfl hl (by decide) rfl (fun ls hl => ?_)
        refine lv_iinc (v := (v4 + (1 : Int32))) (lv' := [(4, .int (v4 + (1 : Int32))), (3, .int (v3 ||| ((1 : Int32) <<< (x27 &&& 31)))), (0, .ref h_this), (1, .int a1), (2, .int v2)]) hx hb d_Mod_directed_33 hl (k := 4) rfl rfl (by decide) rfl (fun ls hl => ?_)
        refine lv_goto (tgt := 12) hx hb d_Mod_directed_36 (by decide) ?_
        exact hk12 (v3 ||| ((1 : Int32) <<< (x27 &&& 31))) (v4 + (1 : Int32)) H locs ls hE (lv_sub hl [2, 3, 4, 1, 0] rfl) h
  unfold P_Mod_directed at h
  refine lv_aload_n hx hb d_Mod_directed_0 rfl (lv_at hl 0 rfl) ?_
  refine hn_get S hE kc_Mod 0 rfl rfl 9 (by decide) mw_495 rfl d_Mod_directed_1 ?_
  refine lv_iload_n hx hb d_Mod_directed_4 rfl (lv_at hl 1 rfl) ?_
  obtain ⟨hi5, h⟩ := gi_s h
  refine hn_iald S hE 6 0 rfl rfl hi5 d_Mod_directed_5 ?_
  refine lv_istore_n (lv' := [(2, .int (f_this_sizes (a1).toNatClampNeg)), (0, .ref h_this), (1, .int a1)]) hx hb d_Mod_directed_6 rfl hl (by decide) rfl (fun ls hl => ?_)
  refine lv_iconst (v := 0) hx hb d_Mod_directed_7 (by decide) ?_
  refine lv_istore_n (lv' := [(3, .int (0 : Int32)), (2, .int (f_this_sizes (a1).toNatClampNeg)), (0, .ref h_this), (1, .int a1)]) hx hb d_Mod_directed_8 rfl hl (by decide) rfl (fun ls hl => ?_)
  refine lv_iconst (v := 0) hx hb d_Mod_directed_9 (by decide) ?_
  refine lv_istore (lv' := [(4, .int (0 : Int32)), (3, .int (0 : Int32)), (2, .int (f_this_sizes (a1).toNatClampNeg)), (0, .ref h_this), (1, .int a1)]) hx hb d_Mod_directed_10 hl (by decide) rfl (fun ls hl => ?_)
  exact hL12 (f_this_sizes (a1).toNatClampNeg) fu (0 : Int32) (0 : Int32) H locs ls hE (lv_sub hl [3, 4, 2, 1, 0] rfl) h
abbrev rm_Mod_anyRight : Room := { frames := 2, cells := 0, slots := 0, locals := 42 }
theorem cf_Mod_anyRight : hn_CF y_Mod_anyRight b_Mod_anyRight 4 (some .boolean) 0 := ⟨mw_648, mw_7, by decide, by decide, by decide +kernel⟩
set_option maxHeartbeats 4000000 in
set_option maxRecDepth 100000 in
theorem c_Mod_anyRight (l : Launch) (D : va_G) (cI cZ : ClassId) (tt : Nat → Nat) (h_this h_this_text h_this_result h_this_row h_this_other h_this_starts h_this_sizes h_this_rules h_this_tagged h_this_pool h_this_placed : Nat) (sz : Nat) (n_this_textSize : Int32) (n_this_size : Int32) (n_this_rowSize : Int32) (n_this_count : Int32) (n_this_poolSize : Int32) (n_this_whole : Int32) (n_this_bias : Int32) (f_this_text : Nat → Int32) (f_this_result : Nat → Int32) (f_this_row : Nat → Int32) (f_this_other : Nat → Int32) (f_this_starts : Nat → Int32) (f_this_sizes : Nat → Int32) (f_this_rules : Nat → Int32) (f_this_tagged : Nat → Int32) (f_this_pool : Nat → Int32) (f_this_placed : Nat → Int32) (o : Int32) (h : P_Mod_anyRight n_this_count f_this_starts f_this_sizes f_this_pool = some o) : Met l y_Mod_anyRight (hn_w y_Mod_anyRight b_Mod_anyRight 4 (some .boolean)) rm_Mod_anyRight (hn_Pc D (TY cI cZ) tt [.ref h_this] sz [(h_this, .inr (6, [.int n_this_textSize, .ref h_this_text, .int n_this_size, .ref h_this_result, .int n_this_rowSize, .ref h_this_row, .ref h_this_other, .int n_this_count, .ref h_this_starts, .ref h_this_sizes, .ref h_this_rules, .ref h_this_tagged, .int n_this_poolSize, .ref h_this_pool, .int n_this_whole, .ref h_this_placed, .int n_this_bias])), (h_this_text, .inl (cI, 48, .inl f_this_text)), (h_this_result, .inl (cI, 2000, .inl f_this_result)), (h_this_row, .inl (cI, 200, .inl f_this_row)), (h_this_other, .inl (cI, 200, .inl f_this_other)), (h_this_starts, .inl (cI, 50, .inl f_this_starts)), (h_this_sizes, .inl (cI, 50, .inl f_this_sizes)), (h_this_rules, .inl (cI, 50, .inl f_this_rules)), (h_this_tagged, .inl (cZ, 50, .inl f_this_tagged)), (h_this_pool, .inl (cI, 300, .inl f_this_pool)), (h_this_placed, .inl (cZ, 200, .inl f_this_placed))]) (hn_Qz D [(h_this, .inr (6, [.int n_this_textSize, .ref h_this_text, .int n_this_size, .ref h_this_result, .int n_this_rowSize, .ref h_this_row, .ref h_this_other, .int n_this_count, .ref h_this_starts, .ref h_this_sizes, .ref h_this_rules, .ref h_this_tagged, .int n_this_poolSize, .ref h_this_pool, .int n_this_whole, .ref h_this_placed, .int n_this_bias])), (h_this_text, .inl (cI, 48, .inl f_this_text)), (h_this_result, .inl (cI, 2000, .inl f_this_result)), (h_this_row, .inl (cI, 200, .inl f_this_row)), (h_this_other, .inl (cI, 200, .inl f_this_other)), (h_this_starts, .inl (cI, 50, .inl f_this_starts)), (h_this_sizes, .inl (cI, 50, .inl f_this_sizes)), (h_this_rules, .inl (cI, 50, .inl f_this_rules)), (h_this_tagged, .inl (cZ, 50, .inl f_this_tagged)), (h_this_pool, .inl (cI, 300, .inl f_this_pool)), (h_this_placed, .inl (cZ, 200, .inl f_this_placed))] sz [(h_this, .inr (6, [.int n_this_textSize, .ref h_this_text, .int n_this_size, .ref h_this_result, .int n_this_rowSize, .ref h_this_row, .ref h_this_other, .int n_this_count, .ref h_this_starts, .ref h_this_sizes, .ref h_this_rules, .ref h_this_tagged, .int n_this_poolSize, .ref h_this_pool, .int n_this_whole, .ref h_this_placed, .int n_this_bias])), (h_this_text, .inl (cI, 48, .inl f_this_text)), (h_this_result, .inl (cI, 2000, .inl f_this_result)), (h_this_row, .inl (cI, 200, .inl f_this_row)), (h_this_other, .inl (cI, 200, .inl f_this_other)), (h_this_starts, .inl (cI, 50, .inl f_this_starts)), (h_this_sizes, .inl (cI, 50, .inl f_this_sizes)), (h_this_rules, .inl (cI, 50, .inl f_this_rules)), (h_this_tagged, .inl (cZ, 50, .inl f_this_tagged)), (h_this_pool, .inl (cI, 300, .inl f_this_pool)), (h_this_placed, .inl (cZ, 200, .inl f_this_placed))] o) 0 0 (va_A [(h_this, .inr (6, [.int n_this_textSize, .ref h_this_text, .int n_this_size, .ref h_this_result, .int n_this_rowSize, .ref h_this_row, .ref h_this_other, .int n_this_count, .ref h_this_starts, .ref h_this_sizes, .ref h_this_rules, .ref h_this_tagged, .int n_this_poolSize, .ref h_this_pool, .int n_this_whole, .ref h_this_placed, .int n_this_bias])), (h_this_text, .inl (cI, 48, .inl f_this_text)), (h_this_result, .inl (cI, 2000, .inl f_this_result)), (h_this_row, .inl (cI, 200, .inl f_this_row)), (h_this_other, .inl (cI, 200, .inl f_this_other)), (h_this_starts, .inl (cI, 50, .inl f_this_starts)), (h_this_sizes, .inl (cI, 50, .inl f_this_sizes)), (h_this_rules, .inl (cI, 50, .inl f_this_rules)), (h_this_tagged, .inl (cZ, 50, .inl f_this_tagged)), (h_this_pool, .inl (cI, 300, .inl f_this_pool)), (h_this_placed, .inl (cZ, 200, .inl f_this_placed))] sz) := by
  refine hn_ofWz (own := R_Mod) (by decide) rfl (Nat.le_of_ble_eq_true rfl) ?_
  intro p e s m args below meth c A H locs ls Q S hE hl hret
  have hx := S.1
  have hb := S.2.1
  have hown := S.2.2.2.1
  have hl : lv_has ls 4 [(0, .ref h_this)] := hl
  have hL4 : ∀ (kf : Nat) (v1 : Int32) (v2 : Int32) (H : Heap) (locs : List Loc) (ls : Array Slot), hn_E D (TY cI cZ) tt A s H locs [(h_this, .inr (6, [.int n_this_textSize, .ref h_this_text, .int n_this_size, .ref h_this_result, .int n_this_rowSize, .ref h_this_row, .ref h_this_other, .int n_this_count, .ref h_this_starts, .ref h_this_sizes, .ref h_this_rules, .ref h_this_tagged, .int n_this_poolSize, .ref h_this_pool, .int n_this_whole, .ref h_this_placed, .int n_this_bias])), (h_this_text, .inl (cI, 48, .inl f_this_text)), (h_this_result, .inl (cI, 2000, .inl f_this_result)), (h_this_row, .inl (cI, 200, .inl f_this_row)), (h_this_other, .inl (cI, 200, .inl f_this_other)), (h_this_starts, .inl (cI, 50, .inl f_this_starts)), (h_this_sizes, .inl (cI, 50, .inl f_this_sizes)), (h_this_rules, .inl (cI, 50, .inl f_this_rules)), (h_this_tagged, .inl (cZ, 50, .inl f_this_tagged)), (h_this_pool, .inl (cI, 300, .inl f_this_pool)), (h_this_placed, .inl (cZ, 200, .inl f_this_placed))] → lv_has ls 4 [(0, .ref h_this), (1, .int v1), (2, .int v2)] → fl2 (P_Mod_anyRight_4 n_this_count f_this_starts f_this_sizes f_this_pool) kf v1 v2 = some o → W p l e rm_Mod_anyRight s m args below meth c H locs 0 0 Q (F0 m 4 ls []) := by
    intro kf
    induction kf with
    | zero => intro v1 v2 H locs ls hE hl h; exact no_s h
    | succ kf ih =>
      intro v1 v2 H locs ls hE hl h
      have h : P_Mod_anyRight_4 n_this_count f_this_starts f_this_sizes f_this_pool (fl2 (P_Mod_anyRight_4 n_this_count f_this_starts f_this_sizes f_this_pool) kf) v1 v2 = some o := h
      generalize fl2 (P_Mod_anyRight_4 n_this_count f_this_starts f_this_sizes f_this_pool) kf = k4 at ih h
      have hk4 := ih
      have hL14 : ∀ (v2 : Int32) (kf : Nat) (v1 : Int32) (v3 : Int32) (H : Heap) (locs : List Loc) (ls : Array Slot), hn_E D (TY cI cZ) tt A s H locs [(h_this, .inr (6, [.int n_this_textSize, .ref h_this_text, .int n_this_size, .ref h_this_result, .int n_this_rowSize, .ref h_this_row, .ref h_this_other, .int n_this_count, .ref h_this_starts, .ref h_this_sizes, .ref h_this_rules, .ref h_this_tagged, .int n_this_poolSize, .ref h_this_pool, .int n_this_whole, .ref h_this_placed, .int n_this_bias])), (h_this_text, .inl (cI, 48, .inl f_this_text)), (h_this_result, .inl (cI, 2000, .inl f_this_result)), (h_this_row, .inl (cI, 200, .inl f_this_row)), (h_this_other, .inl (cI, 200, .inl f_this_other)), (h_this_starts, .inl (cI, 50, .inl f_this_starts)), (h_this_sizes, .inl (cI, 50, .inl f_this_sizes)), (h_this_rules, .inl (cI, 50, .inl f_this_rules)), (h_this_tagged, .inl (cZ, 50, .inl f_this_tagged)), (h_this_pool, .inl (cI, 300, .inl f_this_pool)), (h_this_placed, .inl (cZ, 200, .inl f_this_placed))] → lv_has ls 4 [(0, .ref h_this), (1, .int v1), (2, .int v2), (3, .int v3)] → fl2 (P_Mod_anyRight_14 f_this_starts f_this_sizes f_this_pool k4 v2) kf v1 v3 = some o → W p l e rm_Mod_anyRight s m args below meth c H locs 0 0 Q (F0 m 14 ls []) := by
        intro v2 kf
        induction kf with
        | zero => intro v1 v3 H locs ls hE hl h; exact no_s h
        | succ kf ih =>
          intro v1 v3 H locs ls hE hl h
          have h : P_Mod_anyRight_14 f_this_starts f_this_sizes f_this_pool k4 v2 (fl2 (P_Mod_anyRight_14 f_this_starts f_this_sizes f_this_pool k4 v2) kf) v1 v3 = some o := h
          generalize fl2 (P_Mod_anyRight_14 f_this_starts f_this_sizes f_this_pool k4 v2) kf = k14 at ih h
          have hk14 := ih
          unfold P_Mod_anyRight_14 at h
          refine lv_iload_n hx hb d_Mod_anyRight_14 rfl (lv_at hl 3 rfl) ?_
          refine lv_aload_n hx hb d_Mod_anyRight_15 rfl (lv_at hl 0 rfl) ?_
          refine hn_get S hE kc_Mod 0 rfl rfl 9 (by decide) mw_495 rfl d_Mod_anyRight_16 ?_
          refine lv_iload_n hx hb d_Mod_anyRight_19 rfl (lv_at hl 2 rfl) ?_
          obtain ⟨hi20, h⟩ := gi_s h
          refine hn_iald S hE 6 0 rfl rfl hi20 d_Mod_anyRight_20 ?_
          refine lv_icmp_ge (tgt := 53) hx hb d_Mod_anyRight_21 (by decide) (fun hc => ?_) (fun hc => ?_)
          · have h := ite_t hc h
            refine lv_iinc (v := (v2 + (1 : Int32))) (lv' := [(2, .int (v2 + (1 : Int32))), (0, .ref h_this), (1, .int v1), (3, .int v3)]) hx hb d_Mod_anyRight_53 hl (k := 2) rfl rfl (by decide) rfl (fun ls hl => ?_)
            refine lv_goto (tgt := 4) hx hb d_Mod_anyRight_56 (by decide) ?_
            exact hk4 v1 (v2 + (1 : Int32)) H locs ls hE (lv_sub hl [1, 2, 0] rfl) h
          · have h := ite_f hc h
            refine lv_iload_n hx hb d_Mod_anyRight_24 rfl (lv_at hl 1 rfl) ?_
            refine lv_if_ne (tgt := 41) hx hb d_Mod_anyRight_25 (by decide) (fun hc => ?_) (fun hc => ?_)
            · have h := ite_f hc h
              refine lv_iconst (v := 1) hx hb d_Mod_anyRight_41 (by decide) ?_
              refine lv_goto (tgt := 46) hx hb d_Mod_anyRight_42 (by decide) ?_
              refine lv_istore_n (lv' := [(1, .int (1 : Int32)), (0, .ref h_this), (2, .int v2), (3, .int v3)]) hx hb d_Mod_anyRight_46 rfl hl (by decide) rfl (fun ls hl => ?_)
              refine lv_iinc (v := (v3 + (1 : Int32))) (lv' := [(3, .int (v3 + (1 : Int32))), (1, .int (1 : Int32)), (0, .ref h_this), (2, .int v2)]) hx hb d_Mod_anyRight_47 hl (k := 3) rfl rfl (by decide) rfl (fun ls hl => ?_)
              refine lv_goto (tgt := 14) hx hb d_Mod_anyRight_50 (by decide) ?_
              exact hk14 (1 : Int32) (v3 + (1 : Int32)) H locs ls hE (lv_sub hl [2, 1, 3, 0] rfl) h
            · have h := ite_t hc h
              refine lv_aload_n hx hb d_Mod_anyRight_28 rfl (lv_at hl 0 rfl) ?_
              refine lv_iload_n hx hb d_Mod_anyRight_29 rfl (lv_at hl 2 rfl) ?_
              refine lv_iload_n hx hb d_Mod_anyRight_30 rfl (lv_at hl 3 rfl) ?_
              obtain ⟨x31, hc31, h⟩ := bd_s h
              have hM := (c_Mod_codeOf l D cI cZ tt h_this h_this_text h_this_result h_this_row h_this_other h_this_starts h_this_sizes h_this_rules h_this_tagged h_this_pool h_this_placed H.size n_this_textSize n_this_size n_this_rowSize n_this_count n_this_poolSize n_this_whole n_this_bias f_this_text f_this_result f_this_row f_this_other f_this_starts f_this_sizes f_this_rules f_this_tagged f_this_pool f_this_placed v2 v3 x31 hc31)
              refine hn_ci hE (hn_runV (As := [.int v2, .int v3]) (rest := []) S hE hM cf_Mod_codeOf mw_649 mw_651 ms_31 ⟨rfl, rfl⟩ ⟨Nat.le_of_ble_eq_true rfl, Nat.le_of_ble_eq_true rfl⟩ [0, 1, 2, 3, 4, 5, 6, 7, 8, 9, 10] rfl rfl rfl rfl rfl rfl hl.1 (lv_room (Nat.le_of_ble_eq_true rfl)) d_Mod_anyRight_31 ⟨Nat.zero_le _, Nat.zero_le _⟩) [0, 1, 2, 3, 4, 5, 6, 7, 8, 9, 10] rfl rfl (fun H locs hE => ?_)
              have hE : hn_E D (TY cI cZ) tt A s H locs [(h_this, .inr (6, [.int n_this_textSize, .ref h_this_text, .int n_this_size, .ref h_this_result, .int n_this_rowSize, .ref h_this_row, .ref h_this_other, .int n_this_count, .ref h_this_starts, .ref h_this_sizes, .ref h_this_rules, .ref h_this_tagged, .int n_this_poolSize, .ref h_this_pool, .int n_this_whole, .ref h_this_placed, .int n_this_bias])), (h_this_text, .inl (cI, 48, .inl f_this_text)), (h_this_result, .inl (cI, 2000, .inl f_this_result)), (h_this_row, .inl (cI, 200, .inl f_this_row)), (h_this_other, .inl (cI, 200, .inl f_this_other)), (h_this_starts, .inl (cI, 50, .inl f_this_starts)), (h_this_sizes, .inl (cI, 50, .inl f_this_sizes)), (h_this_rules, .inl (cI, 50, .inl f_this_rules)), (h_this_tagged, .inl (cZ, 50, .inl f_this_tagged)), (h_this_pool, .inl (cI, 300, .inl f_this_pool)), (h_this_placed, .inl (cZ, 200, .inl f_this_placed))] := hE
              obtain ⟨x34, hc34, h⟩ := bd_s h
              have hM := (c_Mod_direction l D cI cZ tt H.size x31 x34 hc34)
              refine hn_ci hE (hn_runS (As := [.int x31]) (rest := []) S hE hM cf_Mod_direction mw_653 mw_654 ⟨rfl, rfl⟩ ⟨Nat.le_of_ble_eq_true rfl, Nat.le_of_ble_eq_true rfl⟩ [] rfl rfl rfl rfl hl.1 (lv_room (Nat.le_of_ble_eq_true rfl)) d_Mod_anyRight_34 ⟨Nat.zero_le _, Nat.zero_le _⟩) [] rfl rfl (fun H locs hE => ?_)
              have hE : hn_E D (TY cI cZ) tt A s H locs [(h_this, .inr (6, [.int n_this_textSize, .ref h_this_text, .int n_this_size, .ref h_this_result, .int n_this_rowSize, .ref h_this_row, .ref h_this_other, .int n_this_count, .ref h_this_starts, .ref h_this_sizes, .ref h_this_rules, .ref h_this_tagged, .int n_this_poolSize, .ref h_this_pool, .int n_this_whole, .ref h_this_placed, .int n_this_bias])), (h_this_text, .inl (cI, 48, .inl f_this_text)), (h_this_result, .inl (cI, 2000, .inl f_this_result)), (h_this_row, .inl (cI, 200, .inl f_this_row)), (h_this_other, .inl (cI, 200, .inl f_this_other)), (h_this_starts, .inl (cI, 50, .inl f_this_starts)), (h_this_sizes, .inl (cI, 50, .inl f_this_sizes)), (h_this_rules, .inl (cI, 50, .inl f_this_rules)), (h_this_tagged, .inl (cZ, 50, .inl f_this_tagged)), (h_this_pool, .inl (cI, 300, .inl f_this_pool)), (h_this_placed, .inl (cZ, 200, .inl f_this_placed))] := hE
              refine lv_iconst (v := 3) hx hb d_Mod_anyRight_37 (by decide) ?_
              refine lv_icmp_gt (tgt := 45) hx hb d_Mod_anyRight_38 (by decide) (fun hc => ?_) (fun hc => ?_)
              · have h := ite_t hc h
                refine lv_iconst (v := 0) hx hb d_Mod_anyRight_45 (by decide) ?_
                refine lv_istore_n (lv' := [(1, .int (0 : Int32)), (0, .ref h_this), (2, .int v2), (3, .int v3)]) hx hb d_Mod_anyRight_46 rfl hl (by decide) rfl (fun ls hl => ?_)
                refine lv_iinc (v := (v3 + (1 : Int32))) (lv' := [(3, .int (v3 + (1 : Int32))), (1, .int (0 : Int32)), (0, .ref h_this), (2, .int v2)]) hx hb d_Mod_anyRight_47 hl (k := 3) rfl rfl (by decide) rfl (fun ls hl => ?_)
                refine lv_goto (tgt := 14) hx hb d_Mod_anyRight_50 (by decide) ?_
                exact hk14 (0 : Int32) (v3 + (1 : Int32)) H locs ls hE (lv_sub hl [2, 1, 3, 0] rfl) h
              · have h := ite_f hc h
                refine lv_iconst (v := 1) hx hb d_Mod_anyRight_41 (by decide) ?_
                refine lv_goto (tgt := 46) hx hb d_Mod_anyRight_42 (by decide) ?_
                refine lv_istore_n (lv' := [(1, .int (1 : Int32)), (0, .ref h_this), (2, .int v2), (3, .int v3)]) hx hb d_Mod_anyRight_46 rfl hl (by decide) rfl (fun ls hl => ?_)
                refine lv_iinc (v := (v3 + (1 : Int32))) (lv' := [(3, .int (v3 + (1 : Int32))), (1, .int (1 : Int32)), (0, .ref h_this), (2, .int v2)]) hx hb d_Mod_anyRight_47 hl (k := 3) rfl rfl (by decide) rfl (fun ls hl => ?_)
                refine lv_goto (tgt := 14) hx hb d_Mod_anyRight_50 (by decide) ?_
                exact hk14 (1 : Int32) (v3 + (1 : Int32)) H locs ls hE (lv_sub hl [2, 1, 3, 0] rfl) h
      unfold P_Mod_anyRight_4 at h
      refine lv_iload_n hx hb d_Mod_anyRight_4 rfl (lv_at hl 2 rfl) ?_
      refine lv_aload_n hx hb d_Mod_anyRight_5 rfl (lv_at hl 0 rfl) ?_
      refine hn_get S hE kc_Mod 0 rfl rfl 7 (by decide) mw_493 rfl d_Mod_anyRight_6 ?_
      refine lv_icmp_ge (tgt := 59) hx hb d_Mod_anyRight_9 (by decide) (fun hc => ?_) (fun hc => ?_)
      · have h := ite_t hc h
        refine lv_iload_n hx hb d_Mod_anyRight_59 rfl (lv_at hl 1 rfl) ?_
        obtain ⟨hz60, h⟩ := gb_s h
        obtain rfl := Option.some.inj h
        exact hret H locs ls 60 d_Mod_anyRight_60 hz60 hE
      · have h := ite_f hc h
        refine lv_iconst (v := 0) hx hb d_Mod_anyRight_12 (by decide) ?_
        refine lv_istore_n (lv' := [(3, .int (0 : Int32)), (0, .ref h_this), (1, .int v1), (2, .int v2)]) hx hb d_Mod_anyRight_13 rfl hl (by decide) rfl (fun ls hl => ?_)
        exact hL14 v2 fu v1 (0 : Int32) H locs ls hE (lv_sub hl [1, 2, 3, 0] rfl) h
  unfold P_Mod_anyRight at h
  refine lv_iconst (v := 0) hx hb d_Mod_anyRight_0 (by decide) ?_
  refine lv_istore_n (lv' := [(1, .int (0 : Int32)), (0, .ref h_this)]) hx hb d_Mod_anyRight_1 rfl hl (by decide) rfl (fun ls hl => ?_)
  refine lv_iconst (v := 0) hx hb d_Mod_anyRight_2 (by decide) ?_
  refine lv_istore_n (lv' := [(2, .int (0 : Int32)), (1, .int (0 : Int32)), (0, .ref h_this)]) hx hb d_Mod_anyRight_3 rfl hl (by decide) rfl (fun ls hl => ?_)
  exact hL4 fu (0 : Int32) (0 : Int32) H locs ls hE (lv_sub hl [2, 1, 0] rfl) h
abbrev rm_Mod_hyphenRules : Room := { frames := 1, cells := 0, slots := 0, locals := 22 }
theorem cf_Mod_hyphenRules : hn_CF y_Mod_hyphenRules b_Mod_hyphenRules 4 (some .int) 1 := ⟨mw_667, mw_7, by decide, by decide, by decide +kernel⟩
set_option maxHeartbeats 4000000 in
set_option maxRecDepth 100000 in
theorem c_Mod_hyphenRules (l : Launch) (D : va_G) (cI cZ : ClassId) (tt : Nat → Nat) (h_this h_this_text h_this_result h_this_row h_this_other h_this_starts h_this_sizes h_this_rules h_this_tagged h_this_pool h_this_placed : Nat) (sz : Nat) (n_this_textSize : Int32) (n_this_size : Int32) (n_this_rowSize : Int32) (n_this_count : Int32) (n_this_poolSize : Int32) (n_this_whole : Int32) (n_this_bias : Int32) (f_this_text : Nat → Int32) (f_this_result : Nat → Int32) (f_this_row : Nat → Int32) (f_this_other : Nat → Int32) (f_this_starts : Nat → Int32) (f_this_sizes : Nat → Int32) (f_this_rules : Nat → Int32) (f_this_tagged : Nat → Int32) (f_this_pool : Nat → Int32) (f_this_placed : Nat → Int32) (a1 : Int32) (o : Int32) (h : P_Mod_hyphenRules f_this_starts f_this_sizes f_this_pool a1 = some o) : Met l y_Mod_hyphenRules (hn_w y_Mod_hyphenRules b_Mod_hyphenRules 4 (some .int)) rm_Mod_hyphenRules (hn_Pc D (TY cI cZ) tt [.ref h_this, .int a1] sz [(h_this, .inr (6, [.int n_this_textSize, .ref h_this_text, .int n_this_size, .ref h_this_result, .int n_this_rowSize, .ref h_this_row, .ref h_this_other, .int n_this_count, .ref h_this_starts, .ref h_this_sizes, .ref h_this_rules, .ref h_this_tagged, .int n_this_poolSize, .ref h_this_pool, .int n_this_whole, .ref h_this_placed, .int n_this_bias])), (h_this_text, .inl (cI, 48, .inl f_this_text)), (h_this_result, .inl (cI, 2000, .inl f_this_result)), (h_this_row, .inl (cI, 200, .inl f_this_row)), (h_this_other, .inl (cI, 200, .inl f_this_other)), (h_this_starts, .inl (cI, 50, .inl f_this_starts)), (h_this_sizes, .inl (cI, 50, .inl f_this_sizes)), (h_this_rules, .inl (cI, 50, .inl f_this_rules)), (h_this_tagged, .inl (cZ, 50, .inl f_this_tagged)), (h_this_pool, .inl (cI, 300, .inl f_this_pool)), (h_this_placed, .inl (cZ, 200, .inl f_this_placed))]) (hn_Qi D [(h_this, .inr (6, [.int n_this_textSize, .ref h_this_text, .int n_this_size, .ref h_this_result, .int n_this_rowSize, .ref h_this_row, .ref h_this_other, .int n_this_count, .ref h_this_starts, .ref h_this_sizes, .ref h_this_rules, .ref h_this_tagged, .int n_this_poolSize, .ref h_this_pool, .int n_this_whole, .ref h_this_placed, .int n_this_bias])), (h_this_text, .inl (cI, 48, .inl f_this_text)), (h_this_result, .inl (cI, 2000, .inl f_this_result)), (h_this_row, .inl (cI, 200, .inl f_this_row)), (h_this_other, .inl (cI, 200, .inl f_this_other)), (h_this_starts, .inl (cI, 50, .inl f_this_starts)), (h_this_sizes, .inl (cI, 50, .inl f_this_sizes)), (h_this_rules, .inl (cI, 50, .inl f_this_rules)), (h_this_tagged, .inl (cZ, 50, .inl f_this_tagged)), (h_this_pool, .inl (cI, 300, .inl f_this_pool)), (h_this_placed, .inl (cZ, 200, .inl f_this_placed))] sz [(h_this, .inr (6, [.int n_this_textSize, .ref h_this_text, .int n_this_size, .ref h_this_result, .int n_this_rowSize, .ref h_this_row, .ref h_this_other, .int n_this_count, .ref h_this_starts, .ref h_this_sizes, .ref h_this_rules, .ref h_this_tagged, .int n_this_poolSize, .ref h_this_pool, .int n_this_whole, .ref h_this_placed, .int n_this_bias])), (h_this_text, .inl (cI, 48, .inl f_this_text)), (h_this_result, .inl (cI, 2000, .inl f_this_result)), (h_this_row, .inl (cI, 200, .inl f_this_row)), (h_this_other, .inl (cI, 200, .inl f_this_other)), (h_this_starts, .inl (cI, 50, .inl f_this_starts)), (h_this_sizes, .inl (cI, 50, .inl f_this_sizes)), (h_this_rules, .inl (cI, 50, .inl f_this_rules)), (h_this_tagged, .inl (cZ, 50, .inl f_this_tagged)), (h_this_pool, .inl (cI, 300, .inl f_this_pool)), (h_this_placed, .inl (cZ, 200, .inl f_this_placed))] o) 0 0 (va_A [(h_this, .inr (6, [.int n_this_textSize, .ref h_this_text, .int n_this_size, .ref h_this_result, .int n_this_rowSize, .ref h_this_row, .ref h_this_other, .int n_this_count, .ref h_this_starts, .ref h_this_sizes, .ref h_this_rules, .ref h_this_tagged, .int n_this_poolSize, .ref h_this_pool, .int n_this_whole, .ref h_this_placed, .int n_this_bias])), (h_this_text, .inl (cI, 48, .inl f_this_text)), (h_this_result, .inl (cI, 2000, .inl f_this_result)), (h_this_row, .inl (cI, 200, .inl f_this_row)), (h_this_other, .inl (cI, 200, .inl f_this_other)), (h_this_starts, .inl (cI, 50, .inl f_this_starts)), (h_this_sizes, .inl (cI, 50, .inl f_this_sizes)), (h_this_rules, .inl (cI, 50, .inl f_this_rules)), (h_this_tagged, .inl (cZ, 50, .inl f_this_tagged)), (h_this_pool, .inl (cI, 300, .inl f_this_pool)), (h_this_placed, .inl (cZ, 200, .inl f_this_placed))] sz) := by
  refine hn_ofWi (own := R_Mod) (by decide) rfl (Nat.le_of_ble_eq_true rfl) ?_
  intro p e s m args below meth c A H locs ls Q S hE hl hret
  have hx := S.1
  have hb := S.2.1
  have hown := S.2.2.2.1
  have hl : lv_has ls 4 [(0, .ref h_this), (1, .int a1)] := hl
  have hj40 : ∀ (v2 : Int32) (s0 : Int32) (H : Heap) (locs : List Loc) (ls : Array Slot), hn_E D (TY cI cZ) tt A s H locs [(h_this, .inr (6, [.int n_this_textSize, .ref h_this_text, .int n_this_size, .ref h_this_result, .int n_this_rowSize, .ref h_this_row, .ref h_this_other, .int n_this_count, .ref h_this_starts, .ref h_this_sizes, .ref h_this_rules, .ref h_this_tagged, .int n_this_poolSize, .ref h_this_pool, .int n_this_whole, .ref h_this_placed, .int n_this_bias])), (h_this_text, .inl (cI, 48, .inl f_this_text)), (h_this_result, .inl (cI, 2000, .inl f_this_result)), (h_this_row, .inl (cI, 200, .inl f_this_row)), (h_this_other, .inl (cI, 200, .inl f_this_other)), (h_this_starts, .inl (cI, 50, .inl f_this_starts)), (h_this_sizes, .inl (cI, 50, .inl f_this_sizes)), (h_this_rules, .inl (cI, 50, .inl f_this_rules)), (h_this_tagged, .inl (cZ, 50, .inl f_this_tagged)), (h_this_pool, .inl (cI, 300, .inl f_this_pool)), (h_this_placed, .inl (cZ, 200, .inl f_this_placed))] → lv_has ls 4 [(0, .ref h_this), (1, .int a1), (2, .int v2)] → P_Mod_hyphenRules_40 f_this_starts f_this_pool a1 v2 s0 = some o → W p l e rm_Mod_hyphenRules s m args below meth c H locs 0 0 Q (F0 m 40 ls [.int s0]) := by
    intro v2 s0 H locs ls hE hl h
    unfold P_Mod_hyphenRules_40 at h
    refine lv_istore_n (lv' := [(3, .int s0), (0, .ref h_this), (1, .int a1), (2, .int v2)]) hx hb d_Mod_hyphenRules_40 rfl hl (by decide) rfl (fun ls hl => ?_)
    refine lv_aload_n hx hb d_Mod_hyphenRules_41 rfl (lv_at hl 1 rfl) ?_
    refine lv_iload_n hx hb d_Mod_hyphenRules_42 rfl (lv_at hl 2 rfl) ?_
    refine lv_iconst (v := 0) hx hb d_Mod_hyphenRules_43 (by decide) ?_
    obtain ⟨x44, hc44, h⟩ := bd_s h
    have hM := (c_Mod_codeOf l D cI cZ tt h_this h_this_text h_this_result h_this_row h_this_other h_this_starts h_this_sizes h_this_rules h_this_tagged h_this_pool h_this_placed H.size n_this_textSize n_this_size n_this_rowSize n_this_count n_this_poolSize n_this_whole n_this_bias f_this_text f_this_result f_this_row f_this_other f_this_starts f_this_sizes f_this_rules f_this_tagged f_this_pool f_this_placed a1 (0 : Int32) x44 hc44)
    refine hn_ci hE (hn_runV (As := [.int a1, .int (0 : Int32)]) (rest := []) S hE hM cf_Mod_codeOf mw_649 mw_651 ms_31 ⟨rfl, rfl⟩ ⟨Nat.le_of_ble_eq_true rfl, Nat.le_of_ble_eq_true rfl⟩ [0, 1, 2, 3, 4, 5, 6, 7, 8, 9, 10] rfl rfl rfl rfl rfl rfl hl.1 (lv_room (Nat.le_of_ble_eq_true rfl)) d_Mod_hyphenRules_44 ⟨Nat.zero_le _, Nat.zero_le _⟩) [0, 1, 2, 3, 4, 5, 6, 7, 8, 9, 10] rfl rfl (fun H locs hE => ?_)
    have hE : hn_E D (TY cI cZ) tt A s H locs [(h_this, .inr (6, [.int n_this_textSize, .ref h_this_text, .int n_this_size, .ref h_this_result, .int n_this_rowSize, .ref h_this_row, .ref h_this_other, .int n_this_count, .ref h_this_starts, .ref h_this_sizes, .ref h_this_rules, .ref h_this_tagged, .int n_this_poolSize, .ref h_this_pool, .int n_this_whole, .ref h_this_placed, .int n_this_bias])), (h_this_text, .inl (cI, 48, .inl f_this_text)), (h_this_result, .inl (cI, 2000, .inl f_this_result)), (h_this_row, .inl (cI, 200, .inl f_this_row)), (h_this_other, .inl (cI, 200, .inl f_this_other)), (h_this_starts, .inl (cI, 50, .inl f_this_starts)), (h_this_sizes, .inl (cI, 50, .inl f_this_sizes)), (h_this_rules, .inl (cI, 50, .inl f_this_rules)), (h_this_tagged, .inl (cZ, 50, .inl f_this_tagged)), (h_this_pool, .inl (cI, 300, .inl f_this_pool)), (h_this_placed, .inl (cZ, 200, .inl f_this_placed))] := hE
    refine lv_bipush (v := 45) hx hb d_Mod_hyphenRules_47 (by decide) ?_
    refine lv_icmp_eq (tgt := 65) hx hb d_Mod_hyphenRules_49 (by decide) (fun hc => ?_) (fun hc => ?_)
    · have h := ite_t hc h
      refine lv_iload_n hx hb d_Mod_hyphenRules_65 rfl (lv_at hl 0 rfl) ?_
      refine lv_bipush (v := 16) hx hb d_Mod_hyphenRules_66 (by decide) ?_
      refine lv_iadd hx hb d_Mod_hyphenRules_68 ?_
      refine lv_goto (tgt := 73) hx hb d_Mod_hyphenRules_69 (by decide) ?_
      obtain rfl := Option.some.inj h
      exact hret H locs ls 73 d_Mod_hyphenRules_73 hE
    · have h := ite_f hc h
      refine lv_aload_n hx hb d_Mod_hyphenRules_52 rfl (lv_at hl 1 rfl) ?_
      refine lv_iload_n hx hb d_Mod_hyphenRules_53 rfl (lv_at hl 2 rfl) ?_
      refine lv_iload_n hx hb d_Mod_hyphenRules_54 rfl (lv_at hl 3 rfl) ?_
      refine lv_iconst (v := 1) hx hb d_Mod_hyphenRules_55 (by decide) ?_
      refine lv_isub hx hb d_Mod_hyphenRules_56 ?_
      obtain ⟨x57, hc57, h⟩ := bd_s h
      have hM := (c_Mod_codeOf l D cI cZ tt h_this h_this_text h_this_result h_this_row h_this_other h_this_starts h_this_sizes h_this_rules h_this_tagged h_this_pool h_this_placed H.size n_this_textSize n_this_size n_this_rowSize n_this_count n_this_poolSize n_this_whole n_this_bias f_this_text f_this_result f_this_row f_this_other f_this_starts f_this_sizes f_this_rules f_this_tagged f_this_pool f_this_placed a1 (v2 - (1 : Int32)) x57 hc57)
      refine hn_ci hE (hn_runV (As := [.int a1, .int (v2 - (1 : Int32))]) (rest := []) S hE hM cf_Mod_codeOf mw_649 mw_651 ms_31 ⟨rfl, rfl⟩ ⟨Nat.le_of_ble_eq_true rfl, Nat.le_of_ble_eq_true rfl⟩ [0, 1, 2, 3, 4, 5, 6, 7, 8, 9, 10] rfl rfl rfl rfl rfl rfl hl.1 (lv_room (Nat.le_of_ble_eq_true rfl)) d_Mod_hyphenRules_57 ⟨Nat.zero_le _, Nat.zero_le _⟩) [0, 1, 2, 3, 4, 5, 6, 7, 8, 9, 10] rfl rfl (fun H locs hE => ?_)
      have hE : hn_E D (TY cI cZ) tt A s H locs [(h_this, .inr (6, [.int n_this_textSize, .ref h_this_text, .int n_this_size, .ref h_this_result, .int n_this_rowSize, .ref h_this_row, .ref h_this_other, .int n_this_count, .ref h_this_starts, .ref h_this_sizes, .ref h_this_rules, .ref h_this_tagged, .int n_this_poolSize, .ref h_this_pool, .int n_this_whole, .ref h_this_placed, .int n_this_bias])), (h_this_text, .inl (cI, 48, .inl f_this_text)), (h_this_result, .inl (cI, 2000, .inl f_this_result)), (h_this_row, .inl (cI, 200, .inl f_this_row)), (h_this_other, .inl (cI, 200, .inl f_this_other)), (h_this_starts, .inl (cI, 50, .inl f_this_starts)), (h_this_sizes, .inl (cI, 50, .inl f_this_sizes)), (h_this_rules, .inl (cI, 50, .inl f_this_rules)), (h_this_tagged, .inl (cZ, 50, .inl f_this_tagged)), (h_this_pool, .inl (cI, 300, .inl f_this_pool)), (h_this_placed, .inl (cZ, 200, .inl f_this_placed))] := hE
      refine lv_bipush (v := 45) hx hb d_Mod_hyphenRules_60 (by decide) ?_
      refine lv_icmp_ne (tgt := 72) hx hb d_Mod_hyphenRules_62 (by decide) (fun hc => ?_) (fun hc => ?_)
      · have h := ite_f hc h
        refine lv_iload_n hx hb d_Mod_hyphenRules_72 rfl (lv_at hl 0 rfl) ?_
        obtain rfl := Option.some.inj h
        exact hret H locs ls 73 d_Mod_hyphenRules_73 hE
      · have h := ite_t hc h
        refine lv_iload_n hx hb d_Mod_hyphenRules_65 rfl (lv_at hl 0 rfl) ?_
        refine lv_bipush (v := 16) hx hb d_Mod_hyphenRules_66 (by decide) ?_
        refine lv_iadd hx hb d_Mod_hyphenRules_68 ?_
        refine lv_goto (tgt := 73) hx hb d_Mod_hyphenRules_69 (by decide) ?_
        obtain rfl := Option.some.inj h
        exact hret H locs ls 73 d_Mod_hyphenRules_73 hE
  unfold P_Mod_hyphenRules at h
  refine lv_aload_n hx hb d_Mod_hyphenRules_0 rfl (lv_at hl 0 rfl) ?_
  refine hn_get S hE kc_Mod 0 rfl rfl 9 (by decide) mw_495 rfl d_Mod_hyphenRules_1 ?_
  refine lv_iload_n hx hb d_Mod_hyphenRules_4 rfl (lv_at hl 1 rfl) ?_
  obtain ⟨hi5, h⟩ := gi_s h
  refine hn_iald S hE 6 0 rfl rfl hi5 d_Mod_hyphenRules_5 ?_
  refine lv_istore_n (lv' := [(2, .int (f_this_sizes (a1).toNatClampNeg)), (0, .ref h_this), (1, .int a1)]) hx hb d_Mod_hyphenRules_6 rfl hl (by decide) rfl (fun ls hl => ?_)
  refine lv_iload_n hx hb d_Mod_hyphenRules_7 rfl (lv_at hl 0 rfl) ?_
  refine lv_iconst (v := 3) hx hb d_Mod_hyphenRules_8 (by decide) ?_
  refine lv_icmp_le (tgt := 39) hx hb d_Mod_hyphenRules_9 (by decide) (fun hc => ?_) (fun hc => ?_)
  · have h := ite_t hc h
    refine lv_iconst (v := 0) hx hb d_Mod_hyphenRules_39 (by decide) ?_
    exact hj40 (f_this_sizes (a1).toNatClampNeg) (0 : Int32) H locs ls hE (lv_sub hl [1, 2, 0] rfl) h
  · have h := ite_f hc h
    refine lv_aload_n hx hb d_Mod_hyphenRules_12 rfl (lv_at hl 1 rfl) ?_
    refine lv_iload_n hx hb d_Mod_hyphenRules_13 rfl (lv_at hl 2 rfl) ?_
    refine lv_iconst (v := 2) hx hb d_Mod_hyphenRules_14 (by decide) ?_
    obtain ⟨x15, hc15, h⟩ := bd_s h
    have hM := (c_Mod_codeOf l D cI cZ tt h_this h_this_text h_this_result h_this_row h_this_other h_this_starts h_this_sizes h_this_rules h_this_tagged h_this_pool h_this_placed H.size n_this_textSize n_this_size n_this_rowSize n_this_count n_this_poolSize n_this_whole n_this_bias f_this_text f_this_result f_this_row f_this_other f_this_starts f_this_sizes f_this_rules f_this_tagged f_this_pool f_this_placed a1 (2 : Int32) x15 hc15)
    refine hn_ci hE (hn_runV (As := [.int a1, .int (2 : Int32)]) (rest := []) S hE hM cf_Mod_codeOf mw_649 mw_651 ms_31 ⟨rfl, rfl⟩ ⟨Nat.le_of_ble_eq_true rfl, Nat.le_of_ble_eq_true rfl⟩ [0, 1, 2, 3, 4, 5, 6, 7, 8, 9, 10] rfl rfl rfl rfl rfl rfl hl.1 (lv_room (Nat.le_of_ble_eq_true rfl)) d_Mod_hyphenRules_15 ⟨Nat.zero_le _, Nat.zero_le _⟩) [0, 1, 2, 3, 4, 5, 6, 7, 8, 9, 10] rfl rfl (fun H locs hE => ?_)
    have hE : hn_E D (TY cI cZ) tt A s H locs [(h_this, .inr (6, [.int n_this_textSize, .ref h_this_text, .int n_this_size, .ref h_this_result, .int n_this_rowSize, .ref h_this_row, .ref h_this_other, .int n_this_count, .ref h_this_starts, .ref h_this_sizes, .ref h_this_rules, .ref h_this_tagged, .int n_this_poolSize, .ref h_this_pool, .int n_this_whole, .ref h_this_placed, .int n_this_bias])), (h_this_text, .inl (cI, 48, .inl f_this_text)), (h_this_result, .inl (cI, 2000, .inl f_this_result)), (h_this_row, .inl (cI, 200, .inl f_this_row)), (h_this_other, .inl (cI, 200, .inl f_this_other)), (h_this_starts, .inl (cI, 50, .inl f_this_starts)), (h_this_sizes, .inl (cI, 50, .inl f_this_sizes)), (h_this_rules, .inl (cI, 50, .inl f_this_rules)), (h_this_tagged, .inl (cZ, 50, .inl f_this_tagged)), (h_this_pool, .inl (cI, 300, .inl f_this_pool)), (h_this_placed, .inl (cZ, 200, .inl f_this_placed))] := hE
    refine lv_bipush (v := 45) hx hb d_Mod_hyphenRules_18 (by decide) ?_
    refine lv_icmp_ne (tgt := 39) hx hb d_Mod_hyphenRules_20 (by decide) (fun hc => ?_) (fun hc => ?_)
    · have h := ite_f hc h
      refine lv_iconst (v := 0) hx hb d_Mod_hyphenRules_39 (by decide) ?_
      exact hj40 (f_this_sizes (a1).toNatClampNeg) (0 : Int32) H locs ls hE (lv_sub hl [1, 2, 0] rfl) h
    · have h := ite_t hc h
      refine lv_aload_n hx hb d_Mod_hyphenRules_23 rfl (lv_at hl 1 rfl) ?_
      refine lv_iload_n hx hb d_Mod_hyphenRules_24 rfl (lv_at hl 2 rfl) ?_
      refine lv_iconst (v := 3) hx hb d_Mod_hyphenRules_25 (by decide) ?_
      obtain ⟨x26, hc26, h⟩ := bd_s h
      have hM := (c_Mod_codeOf l D cI cZ tt h_this h_this_text h_this_result h_this_row h_this_other h_this_starts h_this_sizes h_this_rules h_this_tagged h_this_pool h_this_placed H.size n_this_textSize n_this_size n_this_rowSize n_this_count n_this_poolSize n_this_whole n_this_bias f_this_text f_this_result f_this_row f_this_other f_this_starts f_this_sizes f_this_rules f_this_tagged f_this_pool f_this_placed a1 (3 : Int32) x26 hc26)
      refine hn_ci hE (hn_runV (As := [.int a1, .int (3 : Int32)]) (rest := []) S hE hM cf_Mod_codeOf mw_649 mw_651 ms_31 ⟨rfl, rfl⟩ ⟨Nat.le_of_ble_eq_true rfl, Nat.le_of_ble_eq_true rfl⟩ [0, 1, 2, 3, 4, 5, 6, 7, 8, 9, 10] rfl rfl rfl rfl rfl rfl hl.1 (lv_room (Nat.le_of_ble_eq_true rfl)) d_Mod_hyphenRules_26 ⟨Nat.zero_le _, Nat.zero_le _⟩) [0, 1, 2, 3, 4, 5, 6, 7, 8, 9, 10] rfl rfl (fun H locs hE => ?_)
      have hE : hn_E D (TY cI cZ) tt A s H locs [(h_this, .inr (6, [.int n_this_textSize, .ref h_this_text, .int n_this_size, .ref h_this_result, .int n_this_rowSize, .ref h_this_row, .ref h_this_other, .int n_this_count, .ref h_this_starts, .ref h_this_sizes, .ref h_this_rules, .ref h_this_tagged, .int n_this_poolSize, .ref h_this_pool, .int n_this_whole, .ref h_this_placed, .int n_this_bias])), (h_this_text, .inl (cI, 48, .inl f_this_text)), (h_this_result, .inl (cI, 2000, .inl f_this_result)), (h_this_row, .inl (cI, 200, .inl f_this_row)), (h_this_other, .inl (cI, 200, .inl f_this_other)), (h_this_starts, .inl (cI, 50, .inl f_this_starts)), (h_this_sizes, .inl (cI, 50, .inl f_this_sizes)), (h_this_rules, .inl (cI, 50, .inl f_this_rules)), (h_this_tagged, .inl (cZ, 50, .inl f_this_tagged)), (h_this_pool, .inl (cI, 300, .inl f_this_pool)), (h_this_placed, .inl (cZ, 200, .inl f_this_placed))] := hE
      refine lv_bipush (v := 45) hx hb d_Mod_hyphenRules_29 (by decide) ?_
      refine lv_icmp_ne (tgt := 39) hx hb d_Mod_hyphenRules_31 (by decide) (fun hc => ?_) (fun hc => ?_)
      · have h := ite_f hc h
        refine lv_iconst (v := 0) hx hb d_Mod_hyphenRules_39 (by decide) ?_
        exact hj40 (f_this_sizes (a1).toNatClampNeg) (0 : Int32) H locs ls hE (lv_sub hl [1, 2, 0] rfl) h
      · have h := ite_t hc h
        refine lv_bipush (v := 8) hx hb d_Mod_hyphenRules_34 (by decide) ?_
        refine lv_goto (tgt := 40) hx hb d_Mod_hyphenRules_36 (by decide) ?_
        exact hj40 (f_this_sizes (a1).toNatClampNeg) (8 : Int32) H locs ls hE (lv_sub hl [1, 2, 0] rfl) h
