abbrev rm_Mod_unpackRow : Room := { frames := 2, cells := 0, slots := 0, locals := 42 }
theorem cf_Mod_unpackRow : hn_CF y_Mod_unpackRow b_Mod_unpackRow 17 (some .boolean) 1 := ⟨mw_626, mw_7, by decide, by decide, by decide +kernel⟩
set_option maxHeartbeats 4000000 in
set_option maxRecDepth 100000 in
theorem c_Mod_unpackRow (l : Launch) (D : va_G) (cI cZ : ClassId) (tt : Nat → Nat) (h_this h_this_text h_this_result h_this_row h_this_other h_this_starts h_this_sizes h_this_rules h_this_tagged h_this_pool h_this_placed : Nat) (sz : Nat) (n_this_textSize : Int32) (n_this_size : Int32) (n_this_rowSize : Int32) (n_this_count : Int32) (n_this_poolSize : Int32) (n_this_whole : Int32) (n_this_bias : Int32) (f_this_text : Nat → Int32) (f_this_result : Nat → Int32) (f_this_row : Nat → Int32) (f_this_other : Nat → Int32) (f_this_starts : Nat → Int32) (f_this_sizes : Nat → Int32) (f_this_rules : Nat → Int32) (f_this_tagged : Nat → Int32) (f_this_pool : Nat → Int32) (f_this_placed : Nat → Int32) (a1 : Int32) (o : Int32 × Int32 × Int32 × (Nat → Int32) × (Nat → Int32)) (h : P_Mod_unpackRow n_this_rowSize n_this_bias f_this_row f_this_other a1 = some o) : Met l y_Mod_unpackRow (hn_w y_Mod_unpackRow b_Mod_unpackRow 17 (some .boolean)) rm_Mod_unpackRow (hn_Pc D (TY cI cZ) tt [.ref h_this, .int a1] sz [(h_this, .inr (6, [.int n_this_textSize, .ref h_this_text, .int n_this_size, .ref h_this_result, .int n_this_rowSize, .ref h_this_row, .ref h_this_other, .int n_this_count, .ref h_this_starts, .ref h_this_sizes, .ref h_this_rules, .ref h_this_tagged, .int n_this_poolSize, .ref h_this_pool, .int n_this_whole, .ref h_this_placed, .int n_this_bias])), (h_this_text, .inl (cI, 48, .inl f_this_text)), (h_this_result, .inl (cI, 2000, .inl f_this_result)), (h_this_row, .inl (cI, 200, .inl f_this_row)), (h_this_other, .inl (cI, 200, .inl f_this_other)), (h_this_starts, .inl (cI, 50, .inl f_this_starts)), (h_this_sizes, .inl (cI, 50, .inl f_this_sizes)), (h_this_rules, .inl (cI, 50, .inl f_this_rules)), (h_this_tagged, .inl (cZ, 50, .inl f_this_tagged)), (h_this_pool, .inl (cI, 300, .inl f_this_pool)), (h_this_placed, .inl (cZ, 200, .inl f_this_placed))]) (hn_Qz D [(h_this, .inr (6, [.int n_this_textSize, .ref h_this_text, .int n_this_size, .ref h_this_result, .int n_this_rowSize, .ref h_this_row, .ref h_this_other, .int n_this_count, .ref h_this_starts, .ref h_this_sizes, .ref h_this_rules, .ref h_this_tagged, .int n_this_poolSize, .ref h_this_pool, .int n_this_whole, .ref h_this_placed, .int n_this_bias])), (h_this_text, .inl (cI, 48, .inl f_this_text)), (h_this_result, .inl (cI, 2000, .inl f_this_result)), (h_this_row, .inl (cI, 200, .inl f_this_row)), (h_this_other, .inl (cI, 200, .inl f_this_other)), (h_this_starts, .inl (cI, 50, .inl f_this_starts)), (h_this_sizes, .inl (cI, 50, .inl f_this_sizes)), (h_this_rules, .inl (cI, 50, .inl f_this_rules)), (h_this_tagged, .inl (cZ, 50, .inl f_this_tagged)), (h_this_pool, .inl (cI, 300, .inl f_this_pool)), (h_this_placed, .inl (cZ, 200, .inl f_this_placed))] sz [(h_this, .inr (6, [.int n_this_textSize, .ref h_this_text, .int n_this_size, .ref h_this_result, .int o.2.1, .ref h_this_row, .ref h_this_other, .int n_this_count, .ref h_this_starts, .ref h_this_sizes, .ref h_this_rules, .ref h_this_tagged, .int n_this_poolSize, .ref h_this_pool, .int n_this_whole, .ref h_this_placed, .int o.2.2.1])), (h_this_text, .inl (cI, 48, .inl f_this_text)), (h_this_result, .inl (cI, 2000, .inl f_this_result)), (h_this_row, .inl (cI, 200, .inl o.2.2.2.1)), (h_this_other, .inl (cI, 200, .inl o.2.2.2.2)), (h_this_starts, .inl (cI, 50, .inl f_this_starts)), (h_this_sizes, .inl (cI, 50, .inl f_this_sizes)), (h_this_rules, .inl (cI, 50, .inl f_this_rules)), (h_this_tagged, .inl (cZ, 50, .inl f_this_tagged)), (h_this_pool, .inl (cI, 300, .inl f_this_pool)), (h_this_placed, .inl (cZ, 200, .inl f_this_placed))] o.1) 0 0 (va_A [(h_this, .inr (6, [.int n_this_textSize, .ref h_this_text, .int n_this_size, .ref h_this_result, .int n_this_rowSize, .ref h_this_row, .ref h_this_other, .int n_this_count, .ref h_this_starts, .ref h_this_sizes, .ref h_this_rules, .ref h_this_tagged, .int n_this_poolSize, .ref h_this_pool, .int n_this_whole, .ref h_this_placed, .int n_this_bias])), (h_this_text, .inl (cI, 48, .inl f_this_text)), (h_this_result, .inl (cI, 2000, .inl f_this_result)), (h_this_row, .inl (cI, 200, .inl f_this_row)), (h_this_other, .inl (cI, 200, .inl f_this_other)), (h_this_starts, .inl (cI, 50, .inl f_this_starts)), (h_this_sizes, .inl (cI, 50, .inl f_this_sizes)), (h_this_rules, .inl (cI, 50, .inl f_this_rules)), (h_this_tagged, .inl (cZ, 50, .inl f_this_tagged)), (h_this_pool, .inl (cI, 300, .inl f_this_pool)), (h_this_placed, .inl (cZ, 200, .inl f_this_placed))] sz) := by
  refine hn_ofWz (own := R_Mod) (by decide) rfl (Nat.le_of_ble_eq_true rfl) ?_
  intro p e s m args below meth c A H locs ls Q S hE hl hret
  have hx := S.1
  have hb := S.2.1
  have hown := S.2.2.2.1
  have hl : lv_has ls 17 [(0, .ref h_this), (1, .int a1)] := hl
  have hL377 : ∀ (v3 : Int32) (n_this_rowSize : Int32) (n_this_bias : Int32) (f_this_other : Nat → Int32) (kf : Nat) (v9 : Int32) (f_this_row : Nat → Int32) (H : Heap) (locs : List Loc) (ls : Array Slot), hn_E D (TY cI cZ) tt A s H locs [(h_this, .inr (6, [.int n_this_textSize, .ref h_this_text, .int n_this_size, .ref h_this_result, .int n_this_rowSize, .ref h_this_row, .ref h_this_other, .int n_this_count, .ref h_this_starts, .ref h_this_sizes, .ref h_this_rules, .ref h_this_tagged, .int n_this_poolSize, .ref h_this_pool, .int n_this_whole, .ref h_this_placed, .int n_this_bias])), (h_this_text, .inl (cI, 48, .inl f_this_text)), (h_this_result, .inl (cI, 2000, .inl f_this_result)), (h_this_row, .inl (cI, 200, .inl f_this_row)), (h_this_other, .inl (cI, 200, .inl f_this_other)), (h_this_starts, .inl (cI, 50, .inl f_this_starts)), (h_this_sizes, .inl (cI, 50, .inl f_this_sizes)), (h_this_rules, .inl (cI, 50, .inl f_this_rules)), (h_this_tagged, .inl (cZ, 50, .inl f_this_tagged)), (h_this_pool, .inl (cI, 300, .inl f_this_pool)), (h_this_placed, .inl (cZ, 200, .inl f_this_placed))] → lv_has ls 17 [(0, .ref h_this), (3, .int v3), (9, .int v9)] → fl2 (P_Mod_unpackRow_377 v3 n_this_bias f_this_other) kf v9 f_this_row = some o → W p l e rm_Mod_unpackRow s m args below meth c H locs 0 0 Q (F0 m 377 ls []) := by
    intro v3 n_this_rowSize n_this_bias f_this_other kf
    induction kf with
    | zero => intro v9 f_this_row H locs ls hE hl h; exact no_s h
    | succ kf ih =>
      intro v9 f_this_row H locs ls hE hl h
      have h : P_Mod_unpackRow_377 v3 n_this_bias f_this_other (fl2 (P_Mod_unpackRow_377 v3 n_this_bias f_this_other) kf) v9 f_this_row = some o := h
      generalize fl2 (P_Mod_unpackRow_377 v3 n_this_bias f_this_other) kf = k377 at ih h
      have hk377 := ih
      unfold P_Mod_unpackRow_377 at h
      refine lv_iload hx hb d_Mod_unpackRow_377 (lv_at hl 2 rfl) ?_
      refine lv_iload_n hx hb d_Mod_unpackRow_379 rfl (lv_at hl 1 rfl) ?_
      refine lv_icmp_ge (tgt := 403) hx hb d_Mod_unpackRow_380 (by decide) (fun hc => ?_) (fun hc => ?_)
      · have h := ite_t hc h
        refine lv_aload_n hx hb d_Mod_unpackRow_403 rfl (lv_at hl 0 rfl) ?_
        refine lv_iload_n hx hb d_Mod_unpackRow_404 rfl (lv_at hl 1 rfl) ?_
        refine hn_put (tv := .int) S hE kc_Mod t_Mod_ok n_Mod 0 rfl rfl 4 (by decide) mw_490 rfl (by decide +kernel) rfl rfl (Nat.le_of_ble_eq_true rfl) d_Mod_unpackRow_405 (fun H locs hE => ?_)
        have hE : hn_E D (TY cI cZ) tt A s H locs [(h_this, .inr (6, [.int n_this_textSize, .ref h_this_text, .int n_this_size, .ref h_this_result, .int v3, .ref h_this_row, .ref h_this_other, .int n_this_count, .ref h_this_starts, .ref h_this_sizes, .ref h_this_rules, .ref h_this_tagged, .int n_this_poolSize, .ref h_this_pool, .int n_this_whole, .ref h_this_placed, .int n_this_bias])), (h_this_text, .inl (cI, 48, .inl f_this_text)), (h_this_result, .inl (cI, 2000, .inl f_this_result)), (h_this_row, .inl (cI, 200, .inl f_this_row)), (h_this_other, .inl (cI, 200, .inl f_this_other)), (h_this_starts, .inl (cI, 50, .inl f_this_starts)), (h_this_sizes, .inl (cI, 50, .inl f_this_sizes)), (h_this_rules, .inl (cI, 50, .inl f_this_rules)), (h_this_tagged, .inl (cZ, 50, .inl f_this_tagged)), (h_this_pool, .inl (cI, 300, .inl f_this_pool)), (h_this_placed, .inl (cZ, 200, .inl f_this_placed))] := hE
        refine lv_iconst (v := 1) hx hb d_Mod_unpackRow_408 (by decide) ?_
        obtain rfl := Option.some.inj h
        exact hret H locs ls 409 d_Mod_unpackRow_409 narrow_b1 hE
      · have h := ite_f hc h
        refine lv_aload_n hx hb d_Mod_unpackRow_383 rfl (lv_at hl 0 rfl) ?_
        refine hn_get S hE kc_Mod 0 rfl rfl 5 (by decide) mw_491 rfl d_Mod_unpackRow_384 ?_
        refine lv_iload hx hb d_Mod_unpackRow_387 (lv_at hl 2 rfl) ?_
        refine lv_aload_n hx hb d_Mod_unpackRow_389 rfl (lv_at hl 0 rfl) ?_
        refine hn_get S hE kc_Mod 0 rfl rfl 6 (by decide) mw_492 rfl d_Mod_unpackRow_390 ?_
        refine lv_iload hx hb d_Mod_unpackRow_393 (lv_at hl 2 rfl) ?_
        obtain ⟨hi395, h⟩ := gi_s h
        refine hn_iald S hE 4 0 rfl rfl hi395 d_Mod_unpackRow_395 ?_
        obtain ⟨hi396, h⟩ := gi_s h
        refine hn_iast S hE 3 0 rfl rfl hi396 d_Mod_unpackRow_396 (fun H locs hE => ?_)
        have hE : hn_E D (TY cI cZ) tt A s H locs [(h_this, .inr (6, [.int n_this_textSize, .ref h_this_text, .int n_this_size, .ref h_this_result, .int n_this_rowSize, .ref h_this_row, .ref h_this_other, .int n_this_count, .ref h_this_starts, .ref h_this_sizes, .ref h_this_rules, .ref h_this_tagged, .int n_this_poolSize, .ref h_this_pool, .int n_this_whole, .ref h_this_placed, .int n_this_bias])), (h_this_text, .inl (cI, 48, .inl f_this_text)), (h_this_result, .inl (cI, 2000, .inl f_this_result)), (h_this_row, .inl (cI, 200, .inl (upd f_this_row (v9).toNatClampNeg (f_this_other (v9).toNatClampNeg)))), (h_this_other, .inl (cI, 200, .inl f_this_other)), (h_this_starts, .inl (cI, 50, .inl f_this_starts)), (h_this_sizes, .inl (cI, 50, .inl f_this_sizes)), (h_this_rules, .inl (cI, 50, .inl f_this_rules)), (h_this_tagged, .inl (cZ, 50, .inl f_this_tagged)), (h_this_pool, .inl (cI, 300, .inl f_this_pool)), (h_this_placed, .inl (cZ, 200, .inl f_this_placed))] := hE
        refine lv_iinc (v := (v9 + (1 : Int32))) (lv' := [(9, .int (v9 + (1 : Int32))), (0, .ref h_this), (3, .int v3)]) hx hb d_Mod_unpackRow_397 hl (k := 2) rfl rfl (by decide) rfl (fun ls hl => ?_)
        refine lv_goto (tgt := 377) hx hb d_Mod_unpackRow_400 (by decide) ?_
        exact hk377 (v9 + (1 : Int32)) (upd f_this_row (v9).toNatClampNeg (f_this_other (v9).toNatClampNeg)) H locs ls hE (lv_sub hl [1, 2, 0] rfl) h
  have hL109 : ∀ (n_this_rowSize : Int32) (f_this_row : Nat → Int32) (kf : Nat) (v3 : Int32) (v4 : Int64) (v6 : Int64) (v8 : Int32) (n_this_bias : Int32) (f_this_other : Nat → Int32) (H : Heap) (locs : List Loc) (ls : Array Slot), hn_E D (TY cI cZ) tt A s H locs [(h_this, .inr (6, [.int n_this_textSize, .ref h_this_text, .int n_this_size, .ref h_this_result, .int n_this_rowSize, .ref h_this_row, .ref h_this_other, .int n_this_count, .ref h_this_starts, .ref h_this_sizes, .ref h_this_rules, .ref h_this_tagged, .int n_this_poolSize, .ref h_this_pool, .int n_this_whole, .ref h_this_placed, .int n_this_bias])), (h_this_text, .inl (cI, 48, .inl f_this_text)), (h_this_result, .inl (cI, 2000, .inl f_this_result)), (h_this_row, .inl (cI, 200, .inl f_this_row)), (h_this_other, .inl (cI, 200, .inl f_this_other)), (h_this_starts, .inl (cI, 50, .inl f_this_starts)), (h_this_sizes, .inl (cI, 50, .inl f_this_sizes)), (h_this_rules, .inl (cI, 50, .inl f_this_rules)), (h_this_tagged, .inl (cZ, 50, .inl f_this_tagged)), (h_this_pool, .inl (cI, 300, .inl f_this_pool)), (h_this_placed, .inl (cZ, 200, .inl f_this_placed))] → lv_has ls 17 [(0, .ref h_this), (3, .int v3), (4, .long v4), (6, .long v6), (8, .int v8)] → fl6 (P_Mod_unpackRow_109 n_this_rowSize f_this_row) kf v3 v4 v6 v8 n_this_bias f_this_other = some o → W p l e rm_Mod_unpackRow s m args below meth c H locs 0 0 Q (F0 m 109 ls []) := by
    intro n_this_rowSize f_this_row kf
    induction kf with
    | zero => intro v3 v4 v6 v8 n_this_bias f_this_other H locs ls hE hl h; exact no_s h
    | succ kf ih =>
      intro v3 v4 v6 v8 n_this_bias f_this_other H locs ls hE hl h
      have h : P_Mod_unpackRow_109 n_this_rowSize f_this_row (fl6 (P_Mod_unpackRow_109 n_this_rowSize f_this_row) kf) v3 v4 v6 v8 n_this_bias f_this_other = some o := h
      generalize fl6 (P_Mod_unpackRow_109 n_this_rowSize f_this_row) kf = k109 at ih h
      have hk109 := ih
      have hL323 : ∀ (v3 : Int32) (v4 : Int64) (v6 : Int64) (v8 : Int32) (n_this_bias : Int32) (kf : Nat) (v15 : Int32) (f_this_other : Nat → Int32) (H : Heap) (locs : List Loc) (ls : Array Slot), hn_E D (TY cI cZ) tt A s H locs [(h_this, .inr (6, [.int n_this_textSize, .ref h_this_text, .int n_this_size, .ref h_this_result, .int n_this_rowSize, .ref h_this_row, .ref h_this_other, .int n_this_count, .ref h_this_starts, .ref h_this_sizes, .ref h_this_rules, .ref h_this_tagged, .int n_this_poolSize, .ref h_this_pool, .int n_this_whole, .ref h_this_placed, .int n_this_bias])), (h_this_text, .inl (cI, 48, .inl f_this_text)), (h_this_result, .inl (cI, 2000, .inl f_this_result)), (h_this_row, .inl (cI, 200, .inl f_this_row)), (h_this_other, .inl (cI, 200, .inl f_this_other)), (h_this_starts, .inl (cI, 50, .inl f_this_starts)), (h_this_sizes, .inl (cI, 50, .inl f_this_sizes)), (h_this_rules, .inl (cI, 50, .inl f_this_rules)), (h_this_tagged, .inl (cZ, 50, .inl f_this_tagged)), (h_this_pool, .inl (cI, 300, .inl f_this_pool)), (h_this_placed, .inl (cZ, 200, .inl f_this_placed))] → lv_has ls 17 [(0, .ref h_this), (3, .int v3), (4, .long v4), (6, .long v6), (8, .int v8), (15, .int v15)] → fl2 (P_Mod_unpackRow_323 k109 v3 v4 v6 v8 n_this_bias) kf v15 f_this_other = some o → W p l e rm_Mod_unpackRow s m args below meth c H locs 0 0 Q (F0 m 323 ls []) := by
        intro v3 v4 v6 v8 n_this_bias kf
        induction kf with
        | zero => intro v15 f_this_other H locs ls hE hl h; exact no_s h
        | succ kf ih =>
          intro v15 f_this_other H locs ls hE hl h
          have h : P_Mod_unpackRow_323 k109 v3 v4 v6 v8 n_this_bias (fl2 (P_Mod_unpackRow_323 k109 v3 v4 v6 v8 n_this_bias) kf) v15 f_this_other = some o := h
          generalize fl2 (P_Mod_unpackRow_323 k109 v3 v4 v6 v8 n_this_bias) kf = k323 at ih h
          have hk323 := ih
          unfold P_Mod_unpackRow_323 at h
          refine lv_iload hx hb d_Mod_unpackRow_323 (lv_at hl 5 rfl) ?_
          refine lv_i2l hx hb d_Mod_unpackRow_325 rfl ?_
          refine lv_lload hx hb d_Mod_unpackRow_326 (lv_at hl 2 rfl) ?_
          refine W.lcmp hx hb d_Mod_unpackRow_328 ?_
          refine lv_if_le (tgt := 354) hx hb d_Mod_unpackRow_329 (by decide) (fun hc => ?_) (fun hc => ?_)
          · have h := ite_t hc h
            refine lv_aload_n hx hb d_Mod_unpackRow_354 rfl (lv_at hl 0 rfl) ?_
            refine hn_get S hE kc_Mod 0 rfl rfl 6 (by decide) mw_492 rfl d_Mod_unpackRow_355 ?_
            refine lv_lload hx hb d_Mod_unpackRow_358 (lv_at hl 2 rfl) ?_
            refine lv_l2i hx hb d_Mod_unpackRow_360 rfl ?_
            refine lv_lload hx hb d_Mod_unpackRow_361 (lv_at hl 3 rfl) ?_
            refine lv_l2i hx hb d_Mod_unpackRow_363 rfl ?_
            obtain ⟨hi364, h⟩ := gi_s h
            refine hn_iast S hE 4 0 rfl rfl hi364 d_Mod_unpackRow_364 (fun H locs hE => ?_)
            have hE : hn_E D (TY cI cZ) tt A s H locs [(h_this, .inr (6, [.int n_this_textSize, .ref h_this_text, .int n_this_size, .ref h_this_result, .int n_this_rowSize, .ref h_this_row, .ref h_this_other, .int n_this_count, .ref h_this_starts, .ref h_this_sizes, .ref h_this_rules, .ref h_this_tagged, .int n_this_poolSize, .ref h_this_pool, .int n_this_whole, .ref h_this_placed, .int n_this_bias])), (h_this_text, .inl (cI, 48, .inl f_this_text)), (h_this_result, .inl (cI, 2000, .inl f_this_result)), (h_this_row, .inl (cI, 200, .inl f_this_row)), (h_this_other, .inl (cI, 200, .inl (upd f_this_other ((v4).toInt32).toNatClampNeg (v6).toInt32))), (h_this_starts, .inl (cI, 50, .inl f_this_starts)), (h_this_sizes, .inl (cI, 50, .inl f_this_sizes)), (h_this_rules, .inl (cI, 50, .inl f_this_rules)), (h_this_tagged, .inl (cZ, 50, .inl f_this_tagged)), (h_this_pool, .inl (cI, 300, .inl f_this_pool)), (h_this_placed, .inl (cZ, 200, .inl f_this_placed))] := hE
            refine lv_lload hx hb d_Mod_unpackRow_365 (lv_at hl 2 rfl) ?_
            refine lv_lconst (v := 1) hx hb d_Mod_unpackRow_367 (by decide) ?_
            refine lv_ladd hx hb d_Mod_unpackRow_368 ?_
            refine lv_lstore (lv' := [(4, .long (v4 + (1 : Int64))), (0, .ref h_this), (3, .int v3), (6, .long v6), (8, .int v8), (15, .int v15)]) hx hb d_Mod_unpackRow_369 hl (by decide) rfl (fun ls hl => ?_)
            refine lv_goto (tgt := 109) hx hb d_Mod_unpackRow_371 (by decide) ?_
            exact hk109 v3 (v4 + (1 : Int64)) v6 v8 n_this_bias (upd f_this_other ((v4).toInt32).toNatClampNeg (v6).toInt32) H locs ls hE (lv_sub hl [1, 2, 0, 3, 4] rfl) h
          · have h := ite_f hc h
            refine lv_aload_n hx hb d_Mod_unpackRow_332 rfl (lv_at hl 0 rfl) ?_
            refine hn_get S hE kc_Mod 0 rfl rfl 6 (by decide) mw_492 rfl d_Mod_unpackRow_333 ?_
            refine lv_iload hx hb d_Mod_unpackRow_336 (lv_at hl 5 rfl) ?_
            refine lv_aload_n hx hb d_Mod_unpackRow_338 rfl (lv_at hl 0 rfl) ?_
            refine hn_get S hE kc_Mod 0 rfl rfl 6 (by decide) mw_492 rfl d_Mod_unpackRow_339 ?_
            refine lv_iload hx hb d_Mod_unpackRow_342 (lv_at hl 5 rfl) ?_
            refine lv_iconst (v := 1) hx hb d_Mod_unpackRow_344 (by decide) ?_
            refine lv_isub hx hb d_Mod_unpackRow_345 ?_
            obtain ⟨hi346, h⟩ := gi_s h
            refine hn_iald S hE 4 0 rfl rfl hi346 d_Mod_unpackRow_346 ?_
            obtain ⟨hi347, h⟩ := gi_s h
            refine hn_iast S hE 4 0 rfl rfl hi347 d_Mod_unpackRow_347 (fun H locs hE => ?_)
            have hE : hn_E D (TY cI cZ) tt A s H locs [(h_this, .inr (6, [.int n_this_textSize, .ref h_this_text, .int n_this_size, .ref h_this_result, .int n_this_rowSize, .ref h_this_row, .ref h_this_other, .int n_this_count, .ref h_this_starts, .ref h_this_sizes, .ref h_this_rules, .ref h_this_tagged, .int n_this_poolSize, .ref h_this_pool, .int n_this_whole, .ref h_this_placed, .int n_this_bias])), (h_this_text, .inl (cI, 48, .inl f_this_text)), (h_this_result, .inl (cI, 2000, .inl f_this_result)), (h_this_row, .inl (cI, 200, .inl f_this_row)), (h_this_other, .inl (cI, 200, .inl (upd f_this_other (v15).toNatClampNeg (f_this_other ((v15 - (1 : Int32))).toNatClampNeg)))), (h_this_starts, .inl (cI, 50, .inl f_this_starts)), (h_this_sizes, .inl (cI, 50, .inl f_this_sizes)), (h_this_rules, .inl (cI, 50, .inl f_this_rules)), (h_this_tagged, .inl (cZ, 50, .inl f_this_tagged)), (h_this_pool, .inl (cI, 300, .inl f_this_pool)), (h_this_placed, .inl (cZ, 200, .inl f_this_placed))] := hE
            refine lv_iinc (v := (v15 + (-1 : Int32))) (lv' := [(15, .int (v15 + (-1 : Int32))), (0, .ref h_this), (3, .int v3), (4, .long v4), (6, .long v6), (8, .int v8)]) hx hb d_Mod_unpackRow_348 hl (k := 5) rfl rfl (by decide) rfl (fun ls hl => ?_)
            refine lv_goto (tgt := 323) hx hb d_Mod_unpackRow_351 (by decide) ?_
            exact hk323 (v15 + (-1 : Int32)) (upd f_this_other (v15).toNatClampNeg (f_this_other ((v15 - (1 : Int32))).toNatClampNeg)) H locs ls hE (lv_sub hl [1, 2, 3, 4, 5, 0] rfl) h
      have hj287 : ∀ (v3 : Int32) (v4 : Int64) (v6 : Int64) (v8 : Int32) (s0 : Int32) (s1 : Int32) (s2 : Int32) (n_this_bias : Int32) (f_this_other : Nat → Int32) (H : Heap) (locs : List Loc) (ls : Array Slot), hn_E D (TY cI cZ) tt A s H locs [(h_this, .inr (6, [.int n_this_textSize, .ref h_this_text, .int n_this_size, .ref h_this_result, .int n_this_rowSize, .ref h_this_row, .ref h_this_other, .int n_this_count, .ref h_this_starts, .ref h_this_sizes, .ref h_this_rules, .ref h_this_tagged, .int n_this_poolSize, .ref h_this_pool, .int n_this_whole, .ref h_this_placed, .int n_this_bias])), (h_this_text, .inl (cI, 48, .inl f_this_text)), (h_this_result, .inl (cI, 2000, .inl f_this_result)), (h_this_row, .inl (cI, 200, .inl f_this_row)), (h_this_other, .inl (cI, 200, .inl f_this_other)), (h_this_starts, .inl (cI, 50, .inl f_this_starts)), (h_this_sizes, .inl (cI, 50, .inl f_this_sizes)), (h_this_rules, .inl (cI, 50, .inl f_this_rules)), (h_this_tagged, .inl (cZ, 50, .inl f_this_tagged)), (h_this_pool, .inl (cI, 300, .inl f_this_pool)), (h_this_placed, .inl (cZ, 200, .inl f_this_placed))] → lv_has ls 17 [(0, .ref h_this), (3, .int v3), (4, .long v4), (6, .long v6), (8, .int v8)] → P_Mod_unpackRow_287 n_this_rowSize f_this_row k109 v3 v4 v6 v8 s0 s1 s2 f_this_other = some o → W p l e rm_Mod_unpackRow s m args below meth c H locs 0 0 Q (F0 m 287 ls [.int s0, .int s1, .int s2, .ref h_this]) := by
        intro v3 v4 v6 v8 s0 s1 s2 n_this_bias f_this_other H locs ls hE hl h
        unfold P_Mod_unpackRow_287 at h
        obtain ⟨x287, hc287, h⟩ := bd_s h
        have hM := (c_Mod_adapt l D cI cZ tt h_this h_this_text h_this_result h_this_row h_this_other h_this_starts h_this_sizes h_this_rules h_this_tagged h_this_pool h_this_placed H.size n_this_textSize n_this_size n_this_rowSize n_this_count n_this_poolSize n_this_whole n_this_bias f_this_text f_this_result f_this_row f_this_other f_this_starts f_this_sizes f_this_rules f_this_tagged f_this_pool f_this_placed s2 s1 s0 x287 hc287)
        refine hn_cv hE (hn_runV (As := [.int s2, .int s1, .int s0]) (rest := []) S hE hM cf_Mod_adapt mw_636 mw_638 ms_28 ⟨rfl, rfl⟩ ⟨Nat.le_of_ble_eq_true rfl, Nat.le_of_ble_eq_true rfl⟩ [0, 1, 2, 3, 4, 5, 6, 7, 8, 9, 10] rfl rfl rfl rfl rfl rfl hl.1 (lv_room (Nat.le_of_ble_eq_true rfl)) d_Mod_unpackRow_287 ⟨Nat.zero_le _, Nat.zero_le _⟩) [0, 1, 2, 3, 4, 5, 6, 7, 8, 9, 10] rfl rfl (fun H locs hE => ?_)
        have hE : hn_E D (TY cI cZ) tt A s H locs [(h_this, .inr (6, [.int n_this_textSize, .ref h_this_text, .int n_this_size, .ref h_this_result, .int n_this_rowSize, .ref h_this_row, .ref h_this_other, .int n_this_count, .ref h_this_starts, .ref h_this_sizes, .ref h_this_rules, .ref h_this_tagged, .int n_this_poolSize, .ref h_this_pool, .int n_this_whole, .ref h_this_placed, .int x287])), (h_this_text, .inl (cI, 48, .inl f_this_text)), (h_this_result, .inl (cI, 2000, .inl f_this_result)), (h_this_row, .inl (cI, 200, .inl f_this_row)), (h_this_other, .inl (cI, 200, .inl f_this_other)), (h_this_starts, .inl (cI, 50, .inl f_this_starts)), (h_this_sizes, .inl (cI, 50, .inl f_this_sizes)), (h_this_rules, .inl (cI, 50, .inl f_this_rules)), (h_this_tagged, .inl (cZ, 50, .inl f_this_tagged)), (h_this_pool, .inl (cI, 300, .inl f_this_pool)), (h_this_placed, .inl (cZ, 200, .inl f_this_placed))] := hE
        refine lv_lload hx hb d_Mod_unpackRow_290 (lv_at hl 3 rfl) ?_
        refine lv_lload hx hb d_Mod_unpackRow_292 (lv_at hl 2 rfl) ?_
        refine lv_iload_n hx hb d_Mod_unpackRow_294 rfl (lv_at hl 1 rfl) ?_
        refine lv_i2l hx hb d_Mod_unpackRow_295 rfl ?_
        obtain ⟨hz296, h⟩ := gzl_s h
        refine lv_ldiv hx hb d_Mod_unpackRow_296 hz296 ?_
        refine lv_ladd hx hb d_Mod_unpackRow_297 ?_
        refine lv_lstore (lv' := [(6, .long (v6 + (v4 / (v3).toInt64))), (0, .ref h_this), (3, .int v3), (4, .long v4), (8, .int v8)]) hx hb d_Mod_unpackRow_298 hl (by decide) rfl (fun ls hl => ?_)
        refine lv_lload hx hb d_Mod_unpackRow_300 (lv_at hl 0 rfl) ?_
        refine lv_ldc2 (v := 1114111) hx hb hown (S.2.2.2.2 _ mw_640) d_Mod_unpackRow_302 ?_
        refine W.lcmp hx hb d_Mod_unpackRow_305 ?_
        refine lv_if_le (tgt := 311) hx hb d_Mod_unpackRow_306 (by decide) (fun hc => ?_) (fun hc => ?_)
        · have h := ite_t hc h
          refine lv_lload hx hb d_Mod_unpackRow_311 (lv_at hl 3 rfl) ?_
          refine lv_iload_n hx hb d_Mod_unpackRow_313 rfl (lv_at hl 2 rfl) ?_
          refine lv_i2l hx hb d_Mod_unpackRow_314 rfl ?_
          obtain ⟨hz315, h⟩ := gzl_s h
          refine lv_lrem hx hb d_Mod_unpackRow_315 hz315 ?_
          refine lv_lstore (lv' := [(4, .long (v4 - v4 / (v3).toInt64 * (v3).toInt64)), (6, .long (v6 + (v4 / (v3).toInt64))), (0, .ref h_this), (3, .int v3), (8, .int v8)]) hx hb d_Mod_unpackRow_316 hl (by decide) rfl (fun ls hl => ?_)
          refine lv_iload_n hx hb d_Mod_unpackRow_318 rfl (lv_at hl 3 rfl) ?_
          refine lv_iconst (v := 1) hx hb d_Mod_unpackRow_319 (by decide) ?_
          refine lv_isub hx hb d_Mod_unpackRow_320 ?_
          refine lv_istore (lv' := [(15, .int (v3 - (1 : Int32))), (4, .long (v4 - v4 / (v3).toInt64 * (v3).toInt64)), (6, .long (v6 + (v4 / (v3).toInt64))), (0, .ref h_this), (3, .int v3), (8, .int v8)]) hx hb d_Mod_unpackRow_321 hl (by decide) rfl (fun ls hl => ?_)
          exact hL323 v3 (v4 - v4 / (v3).toInt64 * (v3).toInt64) (v6 + (v4 / (v3).toInt64)) v8 x287 fu (v3 - (1 : Int32)) f_this_other H locs ls hE (lv_sub hl [3, 4, 1, 2, 5, 0] rfl) h
        · have h := ite_f hc h
          refine lv_iconst (v := 0) hx hb d_Mod_unpackRow_309 (by decide) ?_
          obtain rfl := Option.some.inj h
          exact hret H locs ls 310 d_Mod_unpackRow_310 narrow_b0 hE
      have hL132 : ∀ (v3 : Int32) (v6 : Int64) (v9 : Int64) (n_this_bias : Int32) (f_this_other : Nat → Int32) (kf : Nat) (v4 : Int64) (v8 : Int32) (v11 : Int64) (v13 : Int32) (v14 : Int32) (H : Heap) (locs : List Loc) (ls : Array Slot), hn_E D (TY cI cZ) tt A s H locs [(h_this, .inr (6, [.int n_this_textSize, .ref h_this_text, .int n_this_size, .ref h_this_result, .int n_this_rowSize, .ref h_this_row, .ref h_this_other, .int n_this_count, .ref h_this_starts, .ref h_this_sizes, .ref h_this_rules, .ref h_this_tagged, .int n_this_poolSize, .ref h_this_pool, .int n_this_whole, .ref h_this_placed, .int n_this_bias])), (h_this_text, .inl (cI, 48, .inl f_this_text)), (h_this_result, .inl (cI, 2000, .inl f_this_result)), (h_this_row, .inl (cI, 200, .inl f_this_row)), (h_this_other, .inl (cI, 200, .inl f_this_other)), (h_this_starts, .inl (cI, 50, .inl f_this_starts)), (h_this_sizes, .inl (cI, 50, .inl f_this_sizes)), (h_this_rules, .inl (cI, 50, .inl f_this_rules)), (h_this_tagged, .inl (cZ, 50, .inl f_this_tagged)), (h_this_pool, .inl (cI, 300, .inl f_this_pool)), (h_this_placed, .inl (cZ, 200, .inl f_this_placed))] → lv_has ls 17 [(0, .ref h_this), (3, .int v3), (4, .long v4), (6, .long v6), (8, .int v8), (9, .long v9), (11, .long v11), (13, .int v13), (14, .int v14)] → fl5 (P_Mod_unpackRow_132 n_this_rowSize f_this_row k109 v3 v6 v9 n_this_bias f_this_other) kf v4 v8 v11 v13 v14 = some o → W p l e rm_Mod_unpackRow s m args below meth c H locs 0 0 Q (F0 m 132 ls []) := by
        intro v3 v6 v9 n_this_bias f_this_other kf
        induction kf with
        | zero => intro v4 v8 v11 v13 v14 H locs ls hE hl h; exact no_s h
        | succ kf ih =>
          intro v4 v8 v11 v13 v14 H locs ls hE hl h
          have h : P_Mod_unpackRow_132 n_this_rowSize f_this_row k109 v3 v6 v9 n_this_bias f_this_other (fl5 (P_Mod_unpackRow_132 n_this_rowSize f_this_row k109 v3 v6 v9 n_this_bias f_this_other) kf) v4 v8 v11 v13 v14 = some o := h
          generalize fl5 (P_Mod_unpackRow_132 n_this_rowSize f_this_row k109 v3 v6 v9 n_this_bias f_this_other) kf = k132 at ih h
          have hk132 := ih
          have hj224 : ∀ (v4 : Int64) (v8 : Int32) (v13 : Int32) (v14 : Int32) (s0 : Int64) (H : Heap) (locs : List Loc) (ls : Array Slot), hn_E D (TY cI cZ) tt A s H locs [(h_this, .inr (6, [.int n_this_textSize, .ref h_this_text, .int n_this_size, .ref h_this_result, .int n_this_rowSize, .ref h_this_row, .ref h_this_other, .int n_this_count, .ref h_this_starts, .ref h_this_sizes, .ref h_this_rules, .ref h_this_tagged, .int n_this_poolSize, .ref h_this_pool, .int n_this_whole, .ref h_this_placed, .int n_this_bias])), (h_this_text, .inl (cI, 48, .inl f_this_text)), (h_this_result, .inl (cI, 2000, .inl f_this_result)), (h_this_row, .inl (cI, 200, .inl f_this_row)), (h_this_other, .inl (cI, 200, .inl f_this_other)), (h_this_starts, .inl (cI, 50, .inl f_this_starts)), (h_this_sizes, .inl (cI, 50, .inl f_this_sizes)), (h_this_rules, .inl (cI, 50, .inl f_this_rules)), (h_this_tagged, .inl (cZ, 50, .inl f_this_tagged)), (h_this_pool, .inl (cI, 300, .inl f_this_pool)), (h_this_placed, .inl (cZ, 200, .inl f_this_placed))] → lv_has ls 17 [(0, .ref h_this), (3, .int v3), (4, .long v4), (6, .long v6), (8, .int v8), (9, .long v9), (13, .int v13), (14, .int v14)] → P_Mod_unpackRow_224 n_this_rowSize n_this_bias f_this_row f_this_other k132 v4 v8 v13 v14 s0 = some o → W p l e rm_Mod_unpackRow s m args below meth c H locs 0 0 Q (F0 m 224 ls [.long s0]) := by
            intro v4 v8 v13 v14 s0 H locs ls hE hl h
            unfold P_Mod_unpackRow_224 at h
            refine lv_lstore (lv' := [(11, .long s0), (0, .ref h_this), (3, .int v3), (4, .long v4), (6, .long v6), (8, .int v8), (9, .long v9), (13, .int v13), (14, .int v14)]) hx hb d_Mod_unpackRow_224 hl (by decide) rfl (fun ls hl => ?_)
            refine lv_lload hx hb d_Mod_unpackRow_226 (lv_at hl 3 rfl) ?_
            refine lv_ldc2 (v := 2147483647) hx hb hown (S.2.2.2.2 _ mw_635) d_Mod_unpackRow_228 ?_
            refine W.lcmp hx hb d_Mod_unpackRow_231 ?_
            refine lv_if_gt (tgt := 244) hx hb d_Mod_unpackRow_232 (by decide) (fun hc => ?_) (fun hc => ?_)
            · have h := ite_t hc h
              refine lv_iconst (v := 0) hx hb d_Mod_unpackRow_244 (by decide) ?_
              obtain rfl := Option.some.inj h
              exact hret H locs ls 245 d_Mod_unpackRow_245 narrow_b0 hE
            · have h := ite_f hc h
              refine lv_lload hx hb d_Mod_unpackRow_235 (lv_at hl 0 rfl) ?_
              refine lv_ldc2 (v := 2147483647) hx hb hown (S.2.2.2.2 _ mw_635) d_Mod_unpackRow_237 ?_
              refine W.lcmp hx hb d_Mod_unpackRow_240 ?_
              refine lv_if_le (tgt := 246) hx hb d_Mod_unpackRow_241 (by decide) (fun hc => ?_) (fun hc => ?_)
              · have h := ite_t hc h
                refine lv_iload hx hb d_Mod_unpackRow_246 (lv_at hl 7 rfl) ?_
                refine lv_bipush (v := 36) hx hb d_Mod_unpackRow_248 (by decide) ?_
                refine lv_iadd hx hb d_Mod_unpackRow_250 ?_
                refine lv_istore (lv' := [(13, .int (v13 + (36 : Int32))), (11, .long s0), (0, .ref h_this), (3, .int v3), (4, .long v4), (6, .long v6), (8, .int v8), (9, .long v9), (14, .int v14)]) hx hb d_Mod_unpackRow_251 hl (by decide) rfl (fun ls hl => ?_)
                refine lv_goto (tgt := 132) hx hb d_Mod_unpackRow_253 (by decide) ?_
                exact hk132 v4 v8 s0 (v13 + (36 : Int32)) v14 H locs ls hE (lv_sub hl [2, 3, 4, 5, 6, 7, 1, 0, 8] rfl) h
              · have h := ite_f hc h
                refine lv_iconst (v := 0) hx hb d_Mod_unpackRow_244 (by decide) ?_
                obtain rfl := Option.some.inj h
                exact hret H locs ls 245 d_Mod_unpackRow_245 narrow_b0 hE
          have hj203 : ∀ (v4 : Int64) (v8 : Int32) (v11 : Int64) (v13 : Int32) (v16 : Int32) (s0 : Int32) (H : Heap) (locs : List Loc) (ls : Array Slot), hn_E D (TY cI cZ) tt A s H locs [(h_this, .inr (6, [.int n_this_textSize, .ref h_this_text, .int n_this_size, .ref h_this_result, .int n_this_rowSize, .ref h_this_row, .ref h_this_other, .int n_this_count, .ref h_this_starts, .ref h_this_sizes, .ref h_this_rules, .ref h_this_tagged, .int n_this_poolSize, .ref h_this_pool, .int n_this_whole, .ref h_this_placed, .int n_this_bias])), (h_this_text, .inl (cI, 48, .inl f_this_text)), (h_this_result, .inl (cI, 2000, .inl f_this_result)), (h_this_row, .inl (cI, 200, .inl f_this_row)), (h_this_other, .inl (cI, 200, .inl f_this_other)), (h_this_starts, .inl (cI, 50, .inl f_this_starts)), (h_this_sizes, .inl (cI, 50, .inl f_this_sizes)), (h_this_rules, .inl (cI, 50, .inl f_this_rules)), (h_this_tagged, .inl (cZ, 50, .inl f_this_tagged)), (h_this_pool, .inl (cI, 300, .inl f_this_pool)), (h_this_placed, .inl (cZ, 200, .inl f_this_placed))] → lv_has ls 17 [(0, .ref h_this), (3, .int v3), (4, .long v4), (6, .long v6), (8, .int v8), (9, .long v9), (11, .long v11), (13, .int v13), (16, .int v16)] → P_Mod_unpackRow_203 n_this_rowSize n_this_bias f_this_row f_this_other k132 v4 v8 v11 v13 v16 s0 = some o → W p l e rm_Mod_unpackRow s m args below meth c H locs 0 0 Q (F0 m 203 ls [.int s0]) := by
            intro v4 v8 v11 v13 v16 s0 H locs ls hE hl h
            unfold P_Mod_unpackRow_203 at h
            refine lv_istore (lv' := [(14, .int s0), (0, .ref h_this), (3, .int v3), (4, .long v4), (6, .long v6), (8, .int v8), (9, .long v9), (11, .long v11), (13, .int v13), (16, .int v16)]) hx hb d_Mod_unpackRow_203 hl (by decide) rfl (fun ls hl => ?_)
            refine lv_iload hx hb d_Mod_unpackRow_205 (lv_at hl 0 rfl) ?_
            refine lv_if_eq (tgt := 222) hx hb d_Mod_unpackRow_207 (by decide) (fun hc => ?_) (fun hc => ?_)
            · have h := ite_t hc h
              refine lv_lload hx hb d_Mod_unpackRow_222 (lv_at hl 7 rfl) ?_
              exact hj224 v4 v8 v13 s0 v11 H locs ls hE (lv_sub hl [1, 2, 3, 4, 5, 6, 8, 0] rfl) h
            · have h := ite_f hc h
              refine lv_lload hx hb d_Mod_unpackRow_210 (lv_at hl 7 rfl) ?_
              refine lv_bipush (v := 36) hx hb d_Mod_unpackRow_212 (by decide) ?_
              refine lv_iload hx hb d_Mod_unpackRow_214 (lv_at hl 9 rfl) ?_
              refine lv_isub hx hb d_Mod_unpackRow_216 ?_
              refine lv_i2l hx hb d_Mod_unpackRow_217 rfl ?_
              refine lv_lmul hx hb d_Mod_unpackRow_218 ?_
              refine lv_goto (tgt := 224) hx hb d_Mod_unpackRow_219 (by decide) ?_
              exact hj224 v4 v8 v13 s0 (v11 * (((36 : Int32) - v16)).toInt64) H locs ls hE (lv_sub hl [1, 2, 3, 4, 5, 6, 8, 0] rfl) h
          have hj160 : ∀ (v4 : Int64) (v8 : Int32) (v11 : Int64) (v13 : Int32) (s0 : Int32) (H : Heap) (locs : List Loc) (ls : Array Slot), hn_E D (TY cI cZ) tt A s H locs [(h_this, .inr (6, [.int n_this_textSize, .ref h_this_text, .int n_this_size, .ref h_this_result, .int n_this_rowSize, .ref h_this_row, .ref h_this_other, .int n_this_count, .ref h_this_starts, .ref h_this_sizes, .ref h_this_rules, .ref h_this_tagged, .int n_this_poolSize, .ref h_this_pool, .int n_this_whole, .ref h_this_placed, .int n_this_bias])), (h_this_text, .inl (cI, 48, .inl f_this_text)), (h_this_result, .inl (cI, 2000, .inl f_this_result)), (h_this_row, .inl (cI, 200, .inl f_this_row)), (h_this_other, .inl (cI, 200, .inl f_this_other)), (h_this_starts, .inl (cI, 50, .inl f_this_starts)), (h_this_sizes, .inl (cI, 50, .inl f_this_sizes)), (h_this_rules, .inl (cI, 50, .inl f_this_rules)), (h_this_tagged, .inl (cZ, 50, .inl f_this_tagged)), (h_this_pool, .inl (cI, 300, .inl f_this_pool)), (h_this_placed, .inl (cZ, 200, .inl f_this_placed))] → lv_has ls 17 [(0, .ref h_this), (3, .int v3), (4, .long v4), (6, .long v6), (8, .int v8), (9, .long v9), (11, .long v11), (13, .int v13)] → P_Mod_unpackRow_160 n_this_rowSize n_this_bias f_this_row f_this_other k132 v4 v8 v11 v13 s0 = some o → W p l e rm_Mod_unpackRow s m args below meth c H locs 0 0 Q (F0 m 160 ls [.int s0]) := by
            intro v4 v8 v11 v13 s0 H locs ls hE hl h
            unfold P_Mod_unpackRow_160 at h
            refine lv_istore (lv' := [(15, .int s0), (0, .ref h_this), (3, .int v3), (4, .long v4), (6, .long v6), (8, .int v8), (9, .long v9), (11, .long v11), (13, .int v13)]) hx hb d_Mod_unpackRow_160 hl (by decide) rfl (fun ls hl => ?_)
            refine lv_iload hx hb d_Mod_unpackRow_162 (lv_at hl 0 rfl) ?_
            refine lv_if_ge (tgt := 169) hx hb d_Mod_unpackRow_164 (by decide) (fun hc => ?_) (fun hc => ?_)
            · have h := ite_t hc h
              refine lv_iinc (v := (v8 + (1 : Int32))) (lv' := [(8, .int (v8 + (1 : Int32))), (15, .int s0), (0, .ref h_this), (3, .int v3), (4, .long v4), (6, .long v6), (9, .long v9), (11, .long v11), (13, .int v13)]) hx hb d_Mod_unpackRow_169 hl (k := 5) rfl rfl (by decide) rfl (fun ls hl => ?_)
              refine lv_lload hx hb d_Mod_unpackRow_172 (lv_at hl 4 rfl) ?_
              refine lv_iload hx hb d_Mod_unpackRow_174 (lv_at hl 1 rfl) ?_
              refine lv_i2l hx hb d_Mod_unpackRow_176 rfl ?_
              refine lv_lload hx hb d_Mod_unpackRow_177 (lv_at hl 7 rfl) ?_
              refine lv_lmul hx hb d_Mod_unpackRow_179 ?_
              refine lv_ladd hx hb d_Mod_unpackRow_180 ?_
              refine lv_lstore (lv' := [(4, .long (v4 + ((s0).toInt64 * v11))), (8, .int (v8 + (1 : Int32))), (15, .int s0), (0, .ref h_this), (3, .int v3), (6, .long v6), (9, .long v9), (11, .long v11), (13, .int v13)]) hx hb d_Mod_unpackRow_181 hl (by decide) rfl (fun ls hl => ?_)
              refine lv_aload_n hx hb d_Mod_unpackRow_183 rfl (lv_at hl 3 rfl) ?_
              refine lv_iload hx hb d_Mod_unpackRow_184 (lv_at hl 8 rfl) ?_
              obtain ⟨x186, hc186, h⟩ := bd_s h
              have hM := (c_Mod_threshold l D cI cZ tt h_this h_this_text h_this_result h_this_row h_this_other h_this_starts h_this_sizes h_this_rules h_this_tagged h_this_pool h_this_placed H.size n_this_textSize n_this_size n_this_rowSize n_this_count n_this_poolSize n_this_whole n_this_bias f_this_text f_this_result f_this_row f_this_other f_this_starts f_this_sizes f_this_rules f_this_tagged f_this_pool f_this_placed v13 x186 hc186)
              refine hn_ci hE (hn_runV (As := [.int v13]) (rest := []) S hE hM cf_Mod_threshold mw_631 mw_633 ms_27 ⟨rfl, rfl⟩ ⟨Nat.le_of_ble_eq_true rfl, Nat.le_of_ble_eq_true rfl⟩ [0, 1, 2, 3, 4, 5, 6, 7, 8, 9, 10] rfl rfl rfl rfl rfl rfl hl.1 (lv_room (Nat.le_of_ble_eq_true rfl)) d_Mod_unpackRow_186 ⟨Nat.zero_le _, Nat.zero_le _⟩) [0, 1, 2, 3, 4, 5, 6, 7, 8, 9, 10] rfl rfl (fun H locs hE => ?_)
              have hE : hn_E D (TY cI cZ) tt A s H locs [(h_this, .inr (6, [.int n_this_textSize, .ref h_this_text, .int n_this_size, .ref h_this_result, .int n_this_rowSize, .ref h_this_row, .ref h_this_other, .int n_this_count, .ref h_this_starts, .ref h_this_sizes, .ref h_this_rules, .ref h_this_tagged, .int n_this_poolSize, .ref h_this_pool, .int n_this_whole, .ref h_this_placed, .int n_this_bias])), (h_this_text, .inl (cI, 48, .inl f_this_text)), (h_this_result, .inl (cI, 2000, .inl f_this_result)), (h_this_row, .inl (cI, 200, .inl f_this_row)), (h_this_other, .inl (cI, 200, .inl f_this_other)), (h_this_starts, .inl (cI, 50, .inl f_this_starts)), (h_this_sizes, .inl (cI, 50, .inl f_this_sizes)), (h_this_rules, .inl (cI, 50, .inl f_this_rules)), (h_this_tagged, .inl (cZ, 50, .inl f_this_tagged)), (h_this_pool, .inl (cI, 300, .inl f_this_pool)), (h_this_placed, .inl (cZ, 200, .inl f_this_placed))] := hE
              refine lv_istore (lv' := [(16, .int x186), (4, .long (v4 + ((s0).toInt64 * v11))), (8, .int (v8 + (1 : Int32))), (15, .int s0), (0, .ref h_this), (3, .int v3), (6, .long v6), (9, .long v9), (11, .long v11), (13, .int v13)]) hx hb d_Mod_unpackRow_189 hl (by decide) rfl (fun ls hl => ?_)
              refine lv_iload hx hb d_Mod_unpackRow_191 (lv_at hl 3 rfl) ?_
              refine lv_iload hx hb d_Mod_unpackRow_193 (lv_at hl 0 rfl) ?_
              refine lv_icmp_lt (tgt := 202) hx hb d_Mod_unpackRow_195 (by decide) (fun hc => ?_) (fun hc => ?_)
              · have h := ite_t hc h
                refine lv_iconst (v := 0) hx hb d_Mod_unpackRow_202 (by decide) ?_
                exact hj203 (v4 + ((s0).toInt64 * v11)) (v8 + (1 : Int32)) v11 v13 x186 (0 : Int32) H locs ls hE (lv_sub hl [4, 5, 1, 6, 2, 7, 8, 9, 0] rfl) h
              · have h := ite_f hc h
                refine lv_iconst (v := 1) hx hb d_Mod_unpackRow_198 (by decide) ?_
                refine lv_goto (tgt := 203) hx hb d_Mod_unpackRow_199 (by decide) ?_
                exact hj203 (v4 + ((s0).toInt64 * v11)) (v8 + (1 : Int32)) v11 v13 x186 (1 : Int32) H locs ls hE (lv_sub hl [4, 5, 1, 6, 2, 7, 8, 9, 0] rfl) h
            · have h := ite_f hc h
              refine lv_iconst (v := 0) hx hb d_Mod_unpackRow_167 (by decide) ?_
              obtain rfl := Option.some.inj h
              exact hret H locs ls 168 d_Mod_unpackRow_168 narrow_b0 hE
          unfold P_Mod_unpackRow_132 at h
          refine lv_iload hx hb d_Mod_unpackRow_132 (lv_at hl 8 rfl) ?_
          refine lv_if_eq (tgt := 256) hx hb d_Mod_unpackRow_134 (by decide) (fun hc => ?_) (fun hc => ?_)
          · have h := ite_t hc h
            refine lv_iload_n hx hb d_Mod_unpackRow_256 rfl (lv_at hl 1 rfl) ?_
            refine lv_bipush (v := 48) hx hb d_Mod_unpackRow_257 (by decide) ?_
            refine lv_icmp_ne (tgt := 264) hx hb d_Mod_unpackRow_259 (by decide) (fun hc => ?_) (fun hc => ?_)
            · have h := ite_f hc h
              refine lv_iinc (v := (v3 + (1 : Int32))) (lv' := [(3, .int (v3 + (1 : Int32))), (0, .ref h_this), (4, .long v4), (6, .long v6), (8, .int v8), (9, .long v9), (11, .long v11), (13, .int v13), (14, .int v14)]) hx hb d_Mod_unpackRow_264 hl (k := 1) rfl rfl (by decide) rfl (fun ls hl => ?_)
              refine lv_aload_n hx hb d_Mod_unpackRow_267 rfl (lv_at hl 1 rfl) ?_
              refine lv_lload hx hb d_Mod_unpackRow_268 (lv_at hl 2 rfl) ?_
              refine lv_lload hx hb d_Mod_unpackRow_270 (lv_at hl 5 rfl) ?_
              refine lv_lsub hx hb d_Mod_unpackRow_272 ?_
              refine lv_l2i hx hb d_Mod_unpackRow_273 rfl ?_
              refine lv_iload_n hx hb d_Mod_unpackRow_274 rfl (lv_at hl 0 rfl) ?_
              refine lv_lload hx hb d_Mod_unpackRow_275 (lv_at hl 5 rfl) ?_
              refine lv_lconst (v := 0) hx hb d_Mod_unpackRow_277 (by decide) ?_
              refine W.lcmp hx hb d_Mod_unpackRow_278 ?_
              refine lv_if_ne (tgt := 286) hx hb d_Mod_unpackRow_279 (by decide) (fun hc => ?_) (fun hc => ?_)
              · have h := ite_f hc h
                refine lv_iconst (v := 0) hx hb d_Mod_unpackRow_286 (by decide) ?_
                exact hj287 (v3 + (1 : Int32)) v4 v6 v8 (0 : Int32) (v3 + (1 : Int32)) ((v4 - v9)).toInt32 n_this_bias f_this_other H locs ls hE (lv_sub hl [1, 0, 2, 3, 4] rfl) h
              · have h := ite_t hc h
                refine lv_iconst (v := 1) hx hb d_Mod_unpackRow_282 (by decide) ?_
                refine lv_goto (tgt := 287) hx hb d_Mod_unpackRow_283 (by decide) ?_
                exact hj287 (v3 + (1 : Int32)) v4 v6 v8 (1 : Int32) (v3 + (1 : Int32)) ((v4 - v9)).toInt32 n_this_bias f_this_other H locs ls hE (lv_sub hl [1, 0, 2, 3, 4] rfl) h
            · have h := ite_t hc h
              refine lv_iconst (v := 0) hx hb d_Mod_unpackRow_262 (by decide) ?_
              obtain rfl := Option.some.inj h
              exact hret H locs ls 263 d_Mod_unpackRow_263 narrow_b0 hE
          · have h := ite_f hc h
            refine lv_iload hx hb d_Mod_unpackRow_137 (lv_at hl 4 rfl) ?_
            refine lv_aload_n hx hb d_Mod_unpackRow_139 rfl (lv_at hl 0 rfl) ?_
            refine hn_get S hE kc_Mod 0 rfl rfl 4 (by decide) mw_490 rfl d_Mod_unpackRow_140 ?_
            refine lv_icmp_ge (tgt := 159) hx hb d_Mod_unpackRow_143 (by decide) (fun hc => ?_) (fun hc => ?_)
            · have h := ite_t hc h
              refine lv_iconst (v := -1) hx hb d_Mod_unpackRow_159 (by decide) ?_
              exact hj160 v4 v8 v11 v13 (-1 : Int32) H locs ls hE (lv_sub hl [0, 1, 2, 3, 4, 5, 6, 7] rfl) h
            · have h := ite_f hc h
              refine lv_aload_n hx hb d_Mod_unpackRow_146 rfl (lv_at hl 0 rfl) ?_
              refine hn_get S hE kc_Mod 0 rfl rfl 5 (by decide) mw_491 rfl d_Mod_unpackRow_147 ?_
              refine lv_iload hx hb d_Mod_unpackRow_150 (lv_at hl 4 rfl) ?_
              obtain ⟨hi152, h⟩ := gi_s h
              refine hn_iald S hE 3 0 rfl rfl hi152 d_Mod_unpackRow_152 ?_
              obtain ⟨x153, hc153, h⟩ := bd_s h
              have hM := (c_Mod_digit l D cI cZ tt H.size (f_this_row (v8).toNatClampNeg) x153 hc153)
              refine hn_ci hE (hn_runS (As := [.int (f_this_row (v8).toNatClampNeg)]) (rest := []) S hE hM cf_Mod_digit mw_628 mw_629 ⟨rfl, rfl⟩ ⟨Nat.le_of_ble_eq_true rfl, Nat.le_of_ble_eq_true rfl⟩ [] rfl rfl rfl rfl hl.1 (lv_room (Nat.le_of_ble_eq_true rfl)) d_Mod_unpackRow_153 ⟨Nat.zero_le _, Nat.zero_le _⟩) [] rfl rfl (fun H locs hE => ?_)
              have hE : hn_E D (TY cI cZ) tt A s H locs [(h_this, .inr (6, [.int n_this_textSize, .ref h_this_text, .int n_this_size, .ref h_this_result, .int n_this_rowSize, .ref h_this_row, .ref h_this_other, .int n_this_count, .ref h_this_starts, .ref h_this_sizes, .ref h_this_rules, .ref h_this_tagged, .int n_this_poolSize, .ref h_this_pool, .int n_this_whole, .ref h_this_placed, .int n_this_bias])), (h_this_text, .inl (cI, 48, .inl f_this_text)), (h_this_result, .inl (cI, 2000, .inl f_this_result)), (h_this_row, .inl (cI, 200, .inl f_this_row)), (h_this_other, .inl (cI, 200, .inl f_this_other)), (h_this_starts, .inl (cI, 50, .inl f_this_starts)), (h_this_sizes, .inl (cI, 50, .inl f_this_sizes)), (h_this_rules, .inl (cI, 50, .inl f_this_rules)), (h_this_tagged, .inl (cZ, 50, .inl f_this_tagged)), (h_this_pool, .inl (cI, 300, .inl f_this_pool)), (h_this_placed, .inl (cZ, 200, .inl f_this_placed))] := hE
              refine lv_goto (tgt := 160) hx hb d_Mod_unpackRow_156 (by decide) ?_
              exact hj160 v4 v8 v11 v13 x153 H locs ls hE (lv_sub hl [0, 1, 2, 3, 4, 5, 6, 7] rfl) h
      unfold P_Mod_unpackRow_109 at h
      refine lv_iload hx hb d_Mod_unpackRow_109 (lv_at hl 4 rfl) ?_
      refine lv_aload_n hx hb d_Mod_unpackRow_111 rfl (lv_at hl 0 rfl) ?_
      refine hn_get S hE kc_Mod 0 rfl rfl 4 (by decide) mw_490 rfl d_Mod_unpackRow_112 ?_
      refine lv_icmp_ge (tgt := 374) hx hb d_Mod_unpackRow_115 (by decide) (fun hc => ?_) (fun hc => ?_)
      · have h := ite_t hc h
        refine lv_iconst (v := 0) hx hb d_Mod_unpackRow_374 (by decide) ?_
        refine lv_istore (lv' := [(9, .int (0 : Int32)), (0, .ref h_this), (3, .int v3), (4, .long v4), (6, .long v6), (8, .int v8)]) hx hb d_Mod_unpackRow_375 hl (by decide) rfl (fun ls hl => ?_)
        exact hL377 v3 n_this_rowSize n_this_bias f_this_other fu (0 : Int32) f_this_row H locs ls hE (lv_sub hl [1, 2, 0] rfl) h
      · have h := ite_f hc h
        refine lv_lload hx hb d_Mod_unpackRow_118 (lv_at hl 2 rfl) ?_
        refine lv_lstore (lv' := [(9, .long v4), (0, .ref h_this), (3, .int v3), (4, .long v4), (6, .long v6), (8, .int v8)]) hx hb d_Mod_unpackRow_120 hl (by decide) rfl (fun ls hl => ?_)
        refine lv_lconst (v := 1) hx hb d_Mod_unpackRow_122 (by decide) ?_
        refine lv_lstore (lv' := [(11, .long (1 : Int64)), (9, .long v4), (0, .ref h_this), (3, .int v3), (4, .long v4), (6, .long v6), (8, .int v8)]) hx hb d_Mod_unpackRow_123 hl (by decide) rfl (fun ls hl => ?_)
        refine lv_bipush (v := 36) hx hb d_Mod_unpackRow_125 (by decide) ?_
        refine lv_istore (lv' := [(13, .int (36 : Int32)), (11, .long (1 : Int64)), (9, .long v4), (0, .ref h_this), (3, .int v3), (4, .long v4), (6, .long v6), (8, .int v8)]) hx hb d_Mod_unpackRow_127 hl (by decide) rfl (fun ls hl => ?_)
        refine lv_iconst (v := 1) hx hb d_Mod_unpackRow_129 (by decide) ?_
        refine lv_istore (lv' := [(14, .int (1 : Int32)), (13, .int (36 : Int32)), (11, .long (1 : Int64)), (9, .long v4), (0, .ref h_this), (3, .int v3), (4, .long v4), (6, .long v6), (8, .int v8)]) hx hb d_Mod_unpackRow_130 hl (by decide) rfl (fun ls hl => ?_)
        exact hL132 v3 v6 v4 n_this_bias f_this_other fu v4 v8 (1 : Int64) (36 : Int32) (1 : Int32) H locs ls hE (lv_sub hl [4, 5, 6, 7, 8, 3, 2, 1, 0] rfl) h
  have hL42 : ∀ (v2 : Int32) (n_this_rowSize : Int32) (n_this_bias : Int32) (f_this_row : Nat → Int32) (kf : Nat) (v3 : Int32) (v4 : Int32) (f_this_other : Nat → Int32) (H : Heap) (locs : List Loc) (ls : Array Slot), hn_E D (TY cI cZ) tt A s H locs [(h_this, .inr (6, [.int n_this_textSize, .ref h_this_text, .int n_this_size, .ref h_this_result, .int n_this_rowSize, .ref h_this_row, .ref h_this_other, .int n_this_count, .ref h_this_starts, .ref h_this_sizes, .ref h_this_rules, .ref h_this_tagged, .int n_this_poolSize, .ref h_this_pool, .int n_this_whole, .ref h_this_placed, .int n_this_bias])), (h_this_text, .inl (cI, 48, .inl f_this_text)), (h_this_result, .inl (cI, 2000, .inl f_this_result)), (h_this_row, .inl (cI, 200, .inl f_this_row)), (h_this_other, .inl (cI, 200, .inl f_this_other)), (h_this_starts, .inl (cI, 50, .inl f_this_starts)), (h_this_sizes, .inl (cI, 50, .inl f_this_sizes)), (h_this_rules, .inl (cI, 50, .inl f_this_rules)), (h_this_tagged, .inl (cZ, 50, .inl f_this_tagged)), (h_this_pool, .inl (cI, 300, .inl f_this_pool)), (h_this_placed, .inl (cZ, 200, .inl f_this_placed))] → lv_has ls 17 [(0, .ref h_this), (2, .int v2), (3, .int v3), (4, .int v4)] → fl3 (P_Mod_unpackRow_42 v2 n_this_rowSize n_this_bias f_this_row) kf v3 v4 f_this_other = some o → W p l e rm_Mod_unpackRow s m args below meth c H locs 0 0 Q (F0 m 42 ls []) := by
    intro v2 n_this_rowSize n_this_bias f_this_row kf
    induction kf with
    | zero => intro v3 v4 f_this_other H locs ls hE hl h; exact no_s h
    | succ kf ih =>
      intro v3 v4 f_this_other H locs ls hE hl h
      have h : P_Mod_unpackRow_42 v2 n_this_rowSize n_this_bias f_this_row (fl3 (P_Mod_unpackRow_42 v2 n_this_rowSize n_this_bias f_this_row) kf) v3 v4 f_this_other = some o := h
      generalize fl3 (P_Mod_unpackRow_42 v2 n_this_rowSize n_this_bias f_this_row) kf = k42 at ih h
      have hk42 := ih
      unfold P_Mod_unpackRow_42 at h
      refine lv_iload hx hb d_Mod_unpackRow_42 (lv_at hl 3 rfl) ?_
      refine lv_iload_n hx hb d_Mod_unpackRow_44 rfl (lv_at hl 1 rfl) ?_
      refine lv_icmp_ge (tgt := 90) hx hb d_Mod_unpackRow_45 (by decide) (fun hc => ?_) (fun hc => ?_)
      · have h := ite_t hc h
        refine lv_aload_n hx hb d_Mod_unpackRow_90 rfl (lv_at hl 0 rfl) ?_
        refine lv_bipush (v := 72) hx hb d_Mod_unpackRow_91 (by decide) ?_
        refine hn_put (tv := .int) S hE kc_Mod t_Mod_ok n_Mod 0 rfl rfl 16 (by decide) mw_502 rfl (by decide +kernel) rfl rfl (Nat.le_of_ble_eq_true rfl) d_Mod_unpackRow_93 (fun H locs hE => ?_)
        have hE : hn_E D (TY cI cZ) tt A s H locs [(h_this, .inr (6, [.int n_this_textSize, .ref h_this_text, .int n_this_size, .ref h_this_result, .int n_this_rowSize, .ref h_this_row, .ref h_this_other, .int n_this_count, .ref h_this_starts, .ref h_this_sizes, .ref h_this_rules, .ref h_this_tagged, .int n_this_poolSize, .ref h_this_pool, .int n_this_whole, .ref h_this_placed, .int (72 : Int32)])), (h_this_text, .inl (cI, 48, .inl f_this_text)), (h_this_result, .inl (cI, 2000, .inl f_this_result)), (h_this_row, .inl (cI, 200, .inl f_this_row)), (h_this_other, .inl (cI, 200, .inl f_this_other)), (h_this_starts, .inl (cI, 50, .inl f_this_starts)), (h_this_sizes, .inl (cI, 50, .inl f_this_sizes)), (h_this_rules, .inl (cI, 50, .inl f_this_rules)), (h_this_tagged, .inl (cZ, 50, .inl f_this_tagged)), (h_this_pool, .inl (cI, 300, .inl f_this_pool)), (h_this_placed, .inl (cZ, 200, .inl f_this_placed))] := hE
        refine lv_lconst (v := 0) hx hb d_Mod_unpackRow_96 (by decide) ?_
        refine lv_lstore (lv' := [(4, .long (0 : Int64)), (0, .ref h_this), (2, .int v2), (3, .int v3)]) hx hb d_Mod_unpackRow_97 hl (by decide) rfl (fun ls hl => ?_)
        refine lv_ldc2 (v := 128) hx hb hown (S.2.2.2.2 _ mw_627) d_Mod_unpackRow_99 ?_
        refine lv_lstore (lv' := [(6, .long (128 : Int64)), (4, .long (0 : Int64)), (0, .ref h_this), (2, .int v2), (3, .int v3)]) hx hb d_Mod_unpackRow_102 hl (by decide) rfl (fun ls hl => ?_)
        refine lv_iload_n hx hb d_Mod_unpackRow_104 rfl (lv_at hl 3 rfl) ?_
        refine lv_iconst (v := 1) hx hb d_Mod_unpackRow_105 (by decide) ?_
        refine lv_iadd hx hb d_Mod_unpackRow_106 ?_
        refine lv_istore (lv' := [(8, .int (v2 + (1 : Int32))), (6, .long (128 : Int64)), (4, .long (0 : Int64)), (0, .ref h_this), (2, .int v2), (3, .int v3)]) hx hb d_Mod_unpackRow_107 hl (by decide) rfl (fun ls hl => ?_)
        exact hL109 n_this_rowSize f_this_row fu v3 (0 : Int64) (128 : Int64) (v2 + (1 : Int32)) (72 : Int32) f_this_other H locs ls hE (lv_sub hl [3, 5, 2, 1, 0] rfl) h
      · have h := ite_f hc h
        refine lv_aload_n hx hb d_Mod_unpackRow_48 rfl (lv_at hl 0 rfl) ?_
        refine hn_get S hE kc_Mod 0 rfl rfl 5 (by decide) mw_491 rfl d_Mod_unpackRow_49 ?_
        refine lv_iload hx hb d_Mod_unpackRow_52 (lv_at hl 3 rfl) ?_
        obtain ⟨hi54, h⟩ := gi_s h
        refine hn_iald S hE 3 0 rfl rfl hi54 d_Mod_unpackRow_54 ?_
        refine lv_bipush (v := 127) hx hb d_Mod_unpackRow_55 (by decide) ?_
        refine lv_icmp_gt (tgt := 66) hx hb d_Mod_unpackRow_57 (by decide) (fun hc => ?_) (fun hc => ?_)
        · have h := ite_t hc h
          refine lv_iconst (v := 0) hx hb d_Mod_unpackRow_66 (by decide) ?_
          obtain rfl := Option.some.inj h
          exact hret H locs ls 67 d_Mod_unpackRow_67 narrow_b0 hE
        · have h := ite_f hc h
          refine lv_iload_n hx hb d_Mod_unpackRow_60 rfl (lv_at hl 2 rfl) ?_
          refine lv_bipush (v := 48) hx hb d_Mod_unpackRow_61 (by decide) ?_
          refine lv_icmp_ne (tgt := 68) hx hb d_Mod_unpackRow_63 (by decide) (fun hc => ?_) (fun hc => ?_)
          · have h := ite_f hc h
            refine lv_aload_n hx hb d_Mod_unpackRow_68 rfl (lv_at hl 0 rfl) ?_
            refine hn_get S hE kc_Mod 0 rfl rfl 6 (by decide) mw_492 rfl d_Mod_unpackRow_69 ?_
            refine lv_iload_n hx hb d_Mod_unpackRow_72 rfl (lv_at hl 2 rfl) ?_
            refine lv_aload_n hx hb d_Mod_unpackRow_73 rfl (lv_at hl 0 rfl) ?_
            refine hn_get S hE kc_Mod 0 rfl rfl 5 (by decide) mw_491 rfl d_Mod_unpackRow_74 ?_
            refine lv_iload hx hb d_Mod_unpackRow_77 (lv_at hl 3 rfl) ?_
            obtain ⟨hi79, h⟩ := gi_s h
            refine hn_iald S hE 3 0 rfl rfl hi79 d_Mod_unpackRow_79 ?_
            obtain ⟨hi80, h⟩ := gi_s h
            refine hn_iast S hE 4 0 rfl rfl hi80 d_Mod_unpackRow_80 (fun H locs hE => ?_)
            have hE : hn_E D (TY cI cZ) tt A s H locs [(h_this, .inr (6, [.int n_this_textSize, .ref h_this_text, .int n_this_size, .ref h_this_result, .int n_this_rowSize, .ref h_this_row, .ref h_this_other, .int n_this_count, .ref h_this_starts, .ref h_this_sizes, .ref h_this_rules, .ref h_this_tagged, .int n_this_poolSize, .ref h_this_pool, .int n_this_whole, .ref h_this_placed, .int n_this_bias])), (h_this_text, .inl (cI, 48, .inl f_this_text)), (h_this_result, .inl (cI, 2000, .inl f_this_result)), (h_this_row, .inl (cI, 200, .inl f_this_row)), (h_this_other, .inl (cI, 200, .inl (upd f_this_other (v3).toNatClampNeg (f_this_row (v4).toNatClampNeg)))), (h_this_starts, .inl (cI, 50, .inl f_this_starts)), (h_this_sizes, .inl (cI, 50, .inl f_this_sizes)), (h_this_rules, .inl (cI, 50, .inl f_this_rules)), (h_this_tagged, .inl (cZ, 50, .inl f_this_tagged)), (h_this_pool, .inl (cI, 300, .inl f_this_pool)), (h_this_placed, .inl (cZ, 200, .inl f_this_placed))] := hE
            refine lv_iinc (v := (v3 + (1 : Int32))) (lv' := [(3, .int (v3 + (1 : Int32))), (0, .ref h_this), (2, .int v2), (4, .int v4)]) hx hb d_Mod_unpackRow_81 hl (k := 2) rfl rfl (by decide) rfl (fun ls hl => ?_)
            refine lv_iinc (v := (v4 + (1 : Int32))) (lv' := [(4, .int (v4 + (1 : Int32))), (3, .int (v3 + (1 : Int32))), (0, .ref h_this), (2, .int v2)]) hx hb d_Mod_unpackRow_84 hl (k := 3) rfl rfl (by decide) rfl (fun ls hl => ?_)
            refine lv_goto (tgt := 42) hx hb d_Mod_unpackRow_87 (by decide) ?_
            exact hk42 (v3 + (1 : Int32)) (v4 + (1 : Int32)) (upd f_this_other (v3).toNatClampNeg (f_this_row (v4).toNatClampNeg)) H locs ls hE (lv_sub hl [2, 3, 1, 0] rfl) h
          · have h := ite_t hc h
            refine lv_iconst (v := 0) hx hb d_Mod_unpackRow_66 (by decide) ?_
            obtain rfl := Option.some.inj h
            exact hret H locs ls 67 d_Mod_unpackRow_67 narrow_b0 hE
  have hL6 : ∀ (n_this_rowSize : Int32) (n_this_bias : Int32) (f_this_row : Nat → Int32) (f_this_other : Nat → Int32) (kf : Nat) (v2 : Int32) (v3 : Int32) (H : Heap) (locs : List Loc) (ls : Array Slot), hn_E D (TY cI cZ) tt A s H locs [(h_this, .inr (6, [.int n_this_textSize, .ref h_this_text, .int n_this_size, .ref h_this_result, .int n_this_rowSize, .ref h_this_row, .ref h_this_other, .int n_this_count, .ref h_this_starts, .ref h_this_sizes, .ref h_this_rules, .ref h_this_tagged, .int n_this_poolSize, .ref h_this_pool, .int n_this_whole, .ref h_this_placed, .int n_this_bias])), (h_this_text, .inl (cI, 48, .inl f_this_text)), (h_this_result, .inl (cI, 2000, .inl f_this_result)), (h_this_row, .inl (cI, 200, .inl f_this_row)), (h_this_other, .inl (cI, 200, .inl f_this_other)), (h_this_starts, .inl (cI, 50, .inl f_this_starts)), (h_this_sizes, .inl (cI, 50, .inl f_this_sizes)), (h_this_rules, .inl (cI, 50, .inl f_this_rules)), (h_this_tagged, .inl (cZ, 50, .inl f_this_tagged)), (h_this_pool, .inl (cI, 300, .inl f_this_pool)), (h_this_placed, .inl (cZ, 200, .inl f_this_placed))] → lv_has ls 17 [(0, .ref h_this), (1, .int a1), (2, .int v2), (3, .int v3)] → fl2 (P_Mod_unpackRow_6 a1 n_this_rowSize n_this_bias f_this_row f_this_other) kf v2 v3 = some o → W p l e rm_Mod_unpackRow s m args below meth c H locs 0 0 Q (F0 m 6 ls []) := by
    intro n_this_rowSize n_this_bias f_this_row f_this_other kf
    induction kf with
    | zero => intro v2 v3 H locs ls hE hl h; exact no_s h
    | succ kf ih =>
      intro v2 v3 H locs ls hE hl h
      have h : P_Mod_unpackRow_6 a1 n_this_rowSize n_this_bias f_this_row f_this_other (fl2 (P_Mod_unpackRow_6 a1 n_this_rowSize n_this_bias f_this_row f_this_other) kf) v2 v3 = some o := h
      generalize fl2 (P_Mod_unpackRow_6 a1 n_this_rowSize n_this_bias f_this_row f_this_other) kf = k6 at ih h
      have hk6 := ih
      unfold P_Mod_unpackRow_6 at h
      refine lv_iload_n hx hb d_Mod_unpackRow_6 rfl (lv_at hl 3 rfl) ?_
      refine lv_aload_n hx hb d_Mod_unpackRow_7 rfl (lv_at hl 0 rfl) ?_
      refine hn_get S hE kc_Mod 0 rfl rfl 4 (by decide) mw_490 rfl d_Mod_unpackRow_8 ?_
      refine lv_icmp_ge (tgt := 37) hx hb d_Mod_unpackRow_11 (by decide) (fun hc => ?_) (fun hc => ?_)
      · have h := ite_t hc h
        refine lv_iconst (v := 0) hx hb d_Mod_unpackRow_37 (by decide) ?_
        refine lv_istore_n (lv' := [(3, .int (0 : Int32)), (0, .ref h_this), (1, .int a1), (2, .int v2)]) hx hb d_Mod_unpackRow_38 rfl hl (by decide) rfl (fun ls hl => ?_)
        refine lv_iload_n hx hb d_Mod_unpackRow_39 rfl (lv_at hl 2 rfl) ?_
        refine lv_istore (lv' := [(4, .int a1), (3, .int (0 : Int32)), (0, .ref h_this), (1, .int a1), (2, .int v2)]) hx hb d_Mod_unpackRow_40 hl (by decide) rfl (fun ls hl => ?_)
        exact hL42 v2 n_this_rowSize n_this_bias f_this_row fu (0 : Int32) a1 f_this_other H locs ls hE (lv_sub hl [2, 4, 1, 0] rfl) h
      · have h := ite_f hc h
        refine lv_aload_n hx hb d_Mod_unpackRow_14 rfl (lv_at hl 0 rfl) ?_
        refine hn_get S hE kc_Mod 0 rfl rfl 5 (by decide) mw_491 rfl d_Mod_unpackRow_15 ?_
        refine lv_iload_n hx hb d_Mod_unpackRow_18 rfl (lv_at hl 3 rfl) ?_
        obtain ⟨hi19, h⟩ := gi_s h
        refine hn_iald S hE 3 0 rfl rfl hi19 d_Mod_unpackRow_19 ?_
        refine lv_bipush (v := 45) hx hb d_Mod_unpackRow_20 (by decide) ?_
        refine lv_icmp_ne (tgt := 29) hx hb d_Mod_unpackRow_22 (by decide) (fun hc => ?_) (fun hc => ?_)
        · have h := ite_f hc h
          refine lv_iload_n hx hb d_Mod_unpackRow_29 rfl (lv_at hl 2 rfl) ?_
          refine lv_istore_n (lv' := [(2, .int v2), (0, .ref h_this), (1, .int a1), (3, .int v3)]) hx hb d_Mod_unpackRow_30 rfl hl (by decide) rfl (fun ls hl => ?_)
          refine lv_iinc (v := (v3 + (1 : Int32))) (lv' := [(3, .int (v3 + (1 : Int32))), (2, .int v2), (0, .ref h_this), (1, .int a1)]) hx hb d_Mod_unpackRow_31 hl (k := 3) rfl rfl (by decide) rfl (fun ls hl => ?_)
          refine lv_goto (tgt := 6) hx hb d_Mod_unpackRow_34 (by decide) ?_
          exact hk6 v2 (v3 + (1 : Int32)) H locs ls hE (lv_sub hl [2, 3, 1, 0] rfl) h
        · have h := ite_t hc h
          refine lv_iload_n hx hb d_Mod_unpackRow_25 rfl (lv_at hl 3 rfl) ?_
          refine lv_goto (tgt := 30) hx hb d_Mod_unpackRow_26 (by decide) ?_
          refine lv_istore_n (lv' := [(2, .int v3), (0, .ref h_this), (1, .int a1), (3, .int v3)]) hx hb d_Mod_unpackRow_30 rfl hl (by decide) rfl (fun ls hl => ?_)
          refine lv_iinc (v := (v3 + (1 : Int32))) (lv' := [(3, .int (v3 + (1 : Int32))), (2, .int v3), (0, .ref h_this), (1, .int a1)]) hx hb d_Mod_unpackRow_31 hl (k := 3) rfl rfl (by decide) rfl (fun ls hl => ?_)
          refine lv_goto (tgt := 6) hx hb d_Mod_unpackRow_34 (by decide) ?_
          exact hk6 v3 (v3 + (1 : Int32)) H locs ls hE (lv_sub hl [2, 3, 1, 0] rfl) h
  unfold P_Mod_unpackRow at h
  refine lv_iload_n hx hb d_Mod_unpackRow_0 rfl (lv_at hl 1 rfl) ?_
  refine lv_iconst (v := 1) hx hb d_Mod_unpackRow_1 (by decide) ?_
  refine lv_isub hx hb d_Mod_unpackRow_2 ?_
  refine lv_istore_n (lv' := [(2, .int (a1 - (1 : Int32))), (0, .ref h_this), (1, .int a1)]) hx hb d_Mod_unpackRow_3 rfl hl (by decide) rfl (fun ls hl => ?_)
  refine lv_iload_n hx hb d_Mod_unpackRow_4 rfl (lv_at hl 2 rfl) ?_
  refine lv_istore_n (lv' := [(3, .int a1), (2, .int (a1 - (1 : Int32))), (0, .ref h_this), (1, .int a1)]) hx hb d_Mod_unpackRow_5 rfl hl (by decide) rfl (fun ls hl => ?_)
  exact hL6 n_this_rowSize n_this_bias f_this_row f_this_other fu (a1 - (1 : Int32)) a1 H locs ls hE (lv_sub hl [2, 3, 1, 0] rfl) h
abbrev rm_Mod_put : Room := { frames := 1, cells := 0, slots := 0, locals := 22 }
theorem cf_Mod_put : hn_CF y_Mod_put b_Mod_put 2 (some .boolean) 1 := ⟨mw_541, mw_7, by decide, by decide, by decide +kernel⟩
set_option maxHeartbeats 4000000 in
set_option maxRecDepth 100000 in
theorem c_Mod_put (l : Launch) (D : va_G) (cI cZ : ClassId) (tt : Nat → Nat) (h_this h_this_text h_this_result h_this_row h_this_other h_this_starts h_this_sizes h_this_rules h_this_tagged h_this_pool h_this_placed : Nat) (sz : Nat) (n_this_textSize : Int32) (n_this_size : Int32) (n_this_rowSize : Int32) (n_this_count : Int32) (n_this_poolSize : Int32) (n_this_whole : Int32) (n_this_bias : Int32) (f_this_text : Nat → Int32) (f_this_result : Nat → Int32) (f_this_row : Nat → Int32) (f_this_other : Nat → Int32) (f_this_starts : Nat → Int32) (f_this_sizes : Nat → Int32) (f_this_rules : Nat → Int32) (f_this_tagged : Nat → Int32) (f_this_pool : Nat → Int32) (f_this_placed : Nat → Int32) (a1 : Int32) (o : Int32 × Int32 × (Nat → Int32)) (h : P_Mod_put n_this_textSize f_this_text a1 = some o) : Met l y_Mod_put (hn_w y_Mod_put b_Mod_put 2 (some .boolean)) rm_Mod_put (hn_Pc D (TY cI cZ) tt [.ref h_this, .int a1] sz [(h_this, .inr (6, [.int n_this_textSize, .ref h_this_text, .int n_this_size, .ref h_this_result, .int n_this_rowSize, .ref h_this_row, .ref h_this_other, .int n_this_count, .ref h_this_starts, .ref h_this_sizes, .ref h_this_rules, .ref h_this_tagged, .int n_this_poolSize, .ref h_this_pool, .int n_this_whole, .ref h_this_placed, .int n_this_bias])), (h_this_text, .inl (cI, 48, .inl f_this_text)), (h_this_result, .inl (cI, 2000, .inl f_this_result)), (h_this_row, .inl (cI, 200, .inl f_this_row)), (h_this_other, .inl (cI, 200, .inl f_this_other)), (h_this_starts, .inl (cI, 50, .inl f_this_starts)), (h_this_sizes, .inl (cI, 50, .inl f_this_sizes)), (h_this_rules, .inl (cI, 50, .inl f_this_rules)), (h_this_tagged, .inl (cZ, 50, .inl f_this_tagged)), (h_this_pool, .inl (cI, 300, .inl f_this_pool)), (h_this_placed, .inl (cZ, 200, .inl f_this_placed))]) (hn_Qz D [(h_this, .inr (6, [.int n_this_textSize, .ref h_this_text, .int n_this_size, .ref h_this_result, .int n_this_rowSize, .ref h_this_row, .ref h_this_other, .int n_this_count, .ref h_this_starts, .ref h_this_sizes, .ref h_this_rules, .ref h_this_tagged, .int n_this_poolSize, .ref h_this_pool, .int n_this_whole, .ref h_this_placed, .int n_this_bias])), (h_this_text, .inl (cI, 48, .inl f_this_text)), (h_this_result, .inl (cI, 2000, .inl f_this_result)), (h_this_row, .inl (cI, 200, .inl f_this_row)), (h_this_other, .inl (cI, 200, .inl f_this_other)), (h_this_starts, .inl (cI, 50, .inl f_this_starts)), (h_this_sizes, .inl (cI, 50, .inl f_this_sizes)), (h_this_rules, .inl (cI, 50, .inl f_this_rules)), (h_this_tagged, .inl (cZ, 50, .inl f_this_tagged)), (h_this_pool, .inl (cI, 300, .inl f_this_pool)), (h_this_placed, .inl (cZ, 200, .inl f_this_placed))] sz [(h_this, .inr (6, [.int o.2.1, .ref h_this_text, .int n_this_size, .ref h_this_result, .int n_this_rowSize, .ref h_this_row, .ref h_this_other, .int n_this_count, .ref h_this_starts, .ref h_this_sizes, .ref h_this_rules, .ref h_this_tagged, .int n_this_poolSize, .ref h_this_pool, .int n_this_whole, .ref h_this_placed, .int n_this_bias])), (h_this_text, .inl (cI, 48, .inl o.2.2)), (h_this_result, .inl (cI, 2000, .inl f_this_result)), (h_this_row, .inl (cI, 200, .inl f_this_row)), (h_this_other, .inl (cI, 200, .inl f_this_other)), (h_this_starts, .inl (cI, 50, .inl f_this_starts)), (h_this_sizes, .inl (cI, 50, .inl f_this_sizes)), (h_this_rules, .inl (cI, 50, .inl f_this_rules)), (h_this_tagged, .inl (cZ, 50, .inl f_this_tagged)), (h_this_pool, .inl (cI, 300, .inl f_this_pool)), (h_this_placed, .inl (cZ, 200, .inl f_this_placed))] o.1) 0 0 (va_A [(h_this, .inr (6, [.int n_this_textSize, .ref h_this_text, .int n_this_size, .ref h_this_result, .int n_this_rowSize, .ref h_this_row, .ref h_this_other, .int n_this_count, .ref h_this_starts, .ref h_this_sizes, .ref h_this_rules, .ref h_this_tagged, .int n_this_poolSize, .ref h_this_pool, .int n_this_whole, .ref h_this_placed, .int n_this_bias])), (h_this_text, .inl (cI, 48, .inl f_this_text)), (h_this_result, .inl (cI, 2000, .inl f_this_result)), (h_this_row, .inl (cI, 200, .inl f_this_row)), (h_this_other, .inl (cI, 200, .inl f_this_other)), (h_this_starts, .inl (cI, 50, .inl f_this_starts)), (h_this_sizes, .inl (cI, 50, .inl f_this_sizes)), (h_this_rules, .inl (cI, 50, .inl f_this_rules)), (h_this_tagged, .inl (cZ, 50, .inl f_this_tagged)), (h_this_pool, .inl (cI, 300, .inl f_this_pool)), (h_this_placed, .inl (cZ, 200, .inl f_this_placed))] sz) := by
  refine hn_ofWz (own := R_Mod) (by decide) rfl (Nat.le_of_ble_eq_true rfl) ?_
  intro p e s m args below meth c A H locs ls Q S hE hl hret
  have hx := S.1
  have hb := S.2.1
  have hown := S.2.2.2.1
  have hl : lv_has ls 2 [(0, .ref h_this), (1, .int a1)] := hl
  unfold P_Mod_put at h
  refine lv_iload_n hx hb d_Mod_put_0 rfl (lv_at hl 1 rfl) ?_
  refine lv_iconst (v := 0) hx hb d_Mod_put_1 (by decide) ?_
  refine lv_ldc (v := 1114111) hx hb hown (S.2.2.2.2 _ mw_542) d_Mod_put_2 ?_
  obtain ⟨x4, hc4, h⟩ := bd_s h
  have hM := (c_Mod_within l D cI cZ tt H.size a1 (0 : Int32) (1114111 : Int32) x4 hc4)
  refine hn_cz hE (hn_runS (As := [.int a1, .int (0 : Int32), .int (1114111 : Int32)]) (rest := []) S hE hM cf_Mod_within mw_543 mw_544 ⟨rfl, rfl⟩ ⟨Nat.le_of_ble_eq_true rfl, Nat.le_of_ble_eq_true rfl⟩ [] rfl rfl rfl rfl hl.1 (lv_room (Nat.le_of_ble_eq_true rfl)) d_Mod_put_4 ⟨Nat.zero_le _, Nat.zero_le _⟩) [] rfl rfl (fun H locs hz4 hE => ?_)
  have hE : hn_E D (TY cI cZ) tt A s H locs [(h_this, .inr (6, [.int n_this_textSize, .ref h_this_text, .int n_this_size, .ref h_this_result, .int n_this_rowSize, .ref h_this_row, .ref h_this_other, .int n_this_count, .ref h_this_starts, .ref h_this_sizes, .ref h_this_rules, .ref h_this_tagged, .int n_this_poolSize, .ref h_this_pool, .int n_this_whole, .ref h_this_placed, .int n_this_bias])), (h_this_text, .inl (cI, 48, .inl f_this_text)), (h_this_result, .inl (cI, 2000, .inl f_this_result)), (h_this_row, .inl (cI, 200, .inl f_this_row)), (h_this_other, .inl (cI, 200, .inl f_this_other)), (h_this_starts, .inl (cI, 50, .inl f_this_starts)), (h_this_sizes, .inl (cI, 50, .inl f_this_sizes)), (h_this_rules, .inl (cI, 50, .inl f_this_rules)), (h_this_tagged, .inl (cZ, 50, .inl f_this_tagged)), (h_this_pool, .inl (cI, 300, .inl f_this_pool)), (h_this_placed, .inl (cZ, 200, .inl f_this_placed))] := hE
  refine lv_if_eq (tgt := 30) hx hb d_Mod_put_7 (by decide) (fun hc => ?_) (fun hc => ?_)
  · have h := ite_t hc h
    refine lv_iconst (v := 0) hx hb d_Mod_put_30 (by decide) ?_
    obtain rfl := Option.some.inj h
    exact hret H locs ls 31 d_Mod_put_31 narrow_b0 hE
  · have h := ite_f hc h
    refine lv_iload_n hx hb d_Mod_put_10 rfl (lv_at hl 1 rfl) ?_
    refine lv_ldc (v := 55296) hx hb hown (S.2.2.2.2 _ mw_546) d_Mod_put_11 ?_
    refine lv_ldc (v := 57343) hx hb hown (S.2.2.2.2 _ mw_547) d_Mod_put_13 ?_
    obtain ⟨x15, hc15, h⟩ := bd_s h
    have hM := (c_Mod_within l D cI cZ tt H.size a1 (55296 : Int32) (57343 : Int32) x15 hc15)
    refine hn_cz hE (hn_runS (As := [.int a1, .int (55296 : Int32), .int (57343 : Int32)]) (rest := []) S hE hM cf_Mod_within mw_543 mw_544 ⟨rfl, rfl⟩ ⟨Nat.le_of_ble_eq_true rfl, Nat.le_of_ble_eq_true rfl⟩ [] rfl rfl rfl rfl hl.1 (lv_room (Nat.le_of_ble_eq_true rfl)) d_Mod_put_15 ⟨Nat.zero_le _, Nat.zero_le _⟩) [] rfl rfl (fun H locs hz15 hE => ?_)
    have hE : hn_E D (TY cI cZ) tt A s H locs [(h_this, .inr (6, [.int n_this_textSize, .ref h_this_text, .int n_this_size, .ref h_this_result, .int n_this_rowSize, .ref h_this_row, .ref h_this_other, .int n_this_count, .ref h_this_starts, .ref h_this_sizes, .ref h_this_rules, .ref h_this_tagged, .int n_this_poolSize, .ref h_this_pool, .int n_this_whole, .ref h_this_placed, .int n_this_bias])), (h_this_text, .inl (cI, 48, .inl f_this_text)), (h_this_result, .inl (cI, 2000, .inl f_this_result)), (h_this_row, .inl (cI, 200, .inl f_this_row)), (h_this_other, .inl (cI, 200, .inl f_this_other)), (h_this_starts, .inl (cI, 50, .inl f_this_starts)), (h_this_sizes, .inl (cI, 50, .inl f_this_sizes)), (h_this_rules, .inl (cI, 50, .inl f_this_rules)), (h_this_tagged, .inl (cZ, 50, .inl f_this_tagged)), (h_this_pool, .inl (cI, 300, .inl f_this_pool)), (h_this_placed, .inl (cZ, 200, .inl f_this_placed))] := hE
    refine lv_if_ne (tgt := 30) hx hb d_Mod_put_18 (by decide) (fun hc => ?_) (fun hc => ?_)
    · have h := ite_f hc h
      refine lv_iconst (v := 0) hx hb d_Mod_put_30 (by decide) ?_
      obtain rfl := Option.some.inj h
      exact hret H locs ls 31 d_Mod_put_31 narrow_b0 hE
    · have h := ite_t hc h
      refine lv_aload_n hx hb d_Mod_put_21 rfl (lv_at hl 0 rfl) ?_
      refine hn_get S hE kc_Mod 0 rfl rfl 0 (by decide) mw_486 rfl d_Mod_put_22 ?_
      refine lv_bipush (v := 48) hx hb d_Mod_put_25 (by decide) ?_
      refine lv_icmp_ne (tgt := 32) hx hb d_Mod_put_27 (by decide) (fun hc => ?_) (fun hc => ?_)
      · have h := ite_f hc h
        refine lv_aload_n hx hb d_Mod_put_32 rfl (lv_at hl 0 rfl) ?_
        refine hn_get S hE kc_Mod 0 rfl rfl 1 (by decide) mw_487 rfl d_Mod_put_33 ?_
        refine lv_aload_n hx hb d_Mod_put_36 rfl (lv_at hl 0 rfl) ?_
        refine hn_get S hE kc_Mod 0 rfl rfl 0 (by decide) mw_486 rfl d_Mod_put_37 ?_
        refine lv_iload_n hx hb d_Mod_put_40 rfl (lv_at hl 1 rfl) ?_
        obtain ⟨hi41, h⟩ := gi_s h
        refine hn_iast S hE 1 0 rfl rfl hi41 d_Mod_put_41 (fun H locs hE => ?_)
        have hE : hn_E D (TY cI cZ) tt A s H locs [(h_this, .inr (6, [.int n_this_textSize, .ref h_this_text, .int n_this_size, .ref h_this_result, .int n_this_rowSize, .ref h_this_row, .ref h_this_other, .int n_this_count, .ref h_this_starts, .ref h_this_sizes, .ref h_this_rules, .ref h_this_tagged, .int n_this_poolSize, .ref h_this_pool, .int n_this_whole, .ref h_this_placed, .int n_this_bias])), (h_this_text, .inl (cI, 48, .inl (upd f_this_text (n_this_textSize).toNatClampNeg a1))), (h_this_result, .inl (cI, 2000, .inl f_this_result)), (h_this_row, .inl (cI, 200, .inl f_this_row)), (h_this_other, .inl (cI, 200, .inl f_this_other)), (h_this_starts, .inl (cI, 50, .inl f_this_starts)), (h_this_sizes, .inl (cI, 50, .inl f_this_sizes)), (h_this_rules, .inl (cI, 50, .inl f_this_rules)), (h_this_tagged, .inl (cZ, 50, .inl f_this_tagged)), (h_this_pool, .inl (cI, 300, .inl f_this_pool)), (h_this_placed, .inl (cZ, 200, .inl f_this_placed))] := hE
        refine lv_aload_n hx hb d_Mod_put_42 rfl (lv_at hl 0 rfl) ?_
        refine lv_dup hx hb d_Mod_put_43 rfl ?_
        refine hn_get S hE kc_Mod 0 rfl rfl 0 (by decide) mw_486 rfl d_Mod_put_44 ?_
        refine lv_iconst (v := 1) hx hb d_Mod_put_47 (by decide) ?_
        refine lv_iadd hx hb d_Mod_put_48 ?_
        refine hn_put (tv := .int) S hE kc_Mod t_Mod_ok n_Mod 0 rfl rfl 0 (by decide) mw_486 rfl (by decide +kernel) rfl rfl (Nat.le_of_ble_eq_true rfl) d_Mod_put_49 (fun H locs hE => ?_)
        have hE : hn_E D (TY cI cZ) tt A s H locs [(h_this, .inr (6, [.int (n_this_textSize + (1 : Int32)), .ref h_this_text, .int n_this_size, .ref h_this_result, .int n_this_rowSize, .ref h_this_row, .ref h_this_other, .int n_this_count, .ref h_this_starts, .ref h_this_sizes, .ref h_this_rules, .ref h_this_tagged, .int n_this_poolSize, .ref h_this_pool, .int n_this_whole, .ref h_this_placed, .int n_this_bias])), (h_this_text, .inl (cI, 48, .inl (upd f_this_text (n_this_textSize).toNatClampNeg a1))), (h_this_result, .inl (cI, 2000, .inl f_this_result)), (h_this_row, .inl (cI, 200, .inl f_this_row)), (h_this_other, .inl (cI, 200, .inl f_this_other)), (h_this_starts, .inl (cI, 50, .inl f_this_starts)), (h_this_sizes, .inl (cI, 50, .inl f_this_sizes)), (h_this_rules, .inl (cI, 50, .inl f_this_rules)), (h_this_tagged, .inl (cZ, 50, .inl f_this_tagged)), (h_this_pool, .inl (cI, 300, .inl f_this_pool)), (h_this_placed, .inl (cZ, 200, .inl f_this_placed))] := hE
        refine lv_iconst (v := 1) hx hb d_Mod_put_52 (by decide) ?_
        obtain rfl := Option.some.inj h
        exact hret H locs ls 53 d_Mod_put_53 narrow_b1 hE
      · have h := ite_t hc h
        refine lv_iconst (v := 0) hx hb d_Mod_put_30 (by decide) ?_
        obtain rfl := Option.some.inj h
        exact hret H locs ls 31 d_Mod_put_31 narrow_b0 hE
abbrev rm_Mod_type : Room := { frames := 1, cells := 0, slots := 0, locals := 22 }
theorem cf_Mod_type : hn_CF y_Mod_type b_Mod_type 5 (some .boolean) 2 := ⟨mw_551, mw_7, by decide, by decide, by decide +kernel⟩
set_option maxHeartbeats 4000000 in
set_option maxRecDepth 100000 in
theorem c_Mod_type (l : Launch) (D : va_G) (cI cZ : ClassId) (tt : Nat → Nat) (h_this h_this_text h_this_result h_this_row h_this_other h_this_starts h_this_sizes h_this_rules h_this_tagged h_this_pool h_this_placed : Nat) (sz : Nat) (n_this_textSize : Int32) (n_this_size : Int32) (n_this_rowSize : Int32) (n_this_count : Int32) (n_this_poolSize : Int32) (n_this_whole : Int32) (n_this_bias : Int32) (f_this_text : Nat → Int32) (f_this_result : Nat → Int32) (f_this_row : Nat → Int32) (f_this_other : Nat → Int32) (f_this_starts : Nat → Int32) (f_this_sizes : Nat → Int32) (f_this_rules : Nat → Int32) (f_this_tagged : Nat → Int32) (f_this_pool : Nat → Int32) (f_this_placed : Nat → Int32) (a1 : Int64) (a2 : Int32) (o : Int32 × Int32 × (Nat → Int32)) (h : P_Mod_type n_this_textSize f_this_text a1 a2 = some o) : Met l y_Mod_type (hn_w y_Mod_type b_Mod_type 5 (some .boolean)) rm_Mod_type (hn_Pc D (TY cI cZ) tt [.ref h_this, .long a1, .int a2] sz [(h_this, .inr (6, [.int n_this_textSize, .ref h_this_text, .int n_this_size, .ref h_this_result, .int n_this_rowSize, .ref h_this_row, .ref h_this_other, .int n_this_count, .ref h_this_starts, .ref h_this_sizes, .ref h_this_rules, .ref h_this_tagged, .int n_this_poolSize, .ref h_this_pool, .int n_this_whole, .ref h_this_placed, .int n_this_bias])), (h_this_text, .inl (cI, 48, .inl f_this_text)), (h_this_result, .inl (cI, 2000, .inl f_this_result)), (h_this_row, .inl (cI, 200, .inl f_this_row)), (h_this_other, .inl (cI, 200, .inl f_this_other)), (h_this_starts, .inl (cI, 50, .inl f_this_starts)), (h_this_sizes, .inl (cI, 50, .inl f_this_sizes)), (h_this_rules, .inl (cI, 50, .inl f_this_rules)), (h_this_tagged, .inl (cZ, 50, .inl f_this_tagged)), (h_this_pool, .inl (cI, 300, .inl f_this_pool)), (h_this_placed, .inl (cZ, 200, .inl f_this_placed))]) (hn_Qz D [(h_this, .inr (6, [.int n_this_textSize, .ref h_this_text, .int n_this_size, .ref h_this_result, .int n_this_rowSize, .ref h_this_row, .ref h_this_other, .int n_this_count, .ref h_this_starts, .ref h_this_sizes, .ref h_this_rules, .ref h_this_tagged, .int n_this_poolSize, .ref h_this_pool, .int n_this_whole, .ref h_this_placed, .int n_this_bias])), (h_this_text, .inl (cI, 48, .inl f_this_text)), (h_this_result, .inl (cI, 2000, .inl f_this_result)), (h_this_row, .inl (cI, 200, .inl f_this_row)), (h_this_other, .inl (cI, 200, .inl f_this_other)), (h_this_starts, .inl (cI, 50, .inl f_this_starts)), (h_this_sizes, .inl (cI, 50, .inl f_this_sizes)), (h_this_rules, .inl (cI, 50, .inl f_this_rules)), (h_this_tagged, .inl (cZ, 50, .inl f_this_tagged)), (h_this_pool, .inl (cI, 300, .inl f_this_pool)), (h_this_placed, .inl (cZ, 200, .inl f_this_placed))] sz [(h_this, .inr (6, [.int o.2.1, .ref h_this_text, .int n_this_size, .ref h_this_result, .int n_this_rowSize, .ref h_this_row, .ref h_this_other, .int n_this_count, .ref h_this_starts, .ref h_this_sizes, .ref h_this_rules, .ref h_this_tagged, .int n_this_poolSize, .ref h_this_pool, .int n_this_whole, .ref h_this_placed, .int n_this_bias])), (h_this_text, .inl (cI, 48, .inl o.2.2)), (h_this_result, .inl (cI, 2000, .inl f_this_result)), (h_this_row, .inl (cI, 200, .inl f_this_row)), (h_this_other, .inl (cI, 200, .inl f_this_other)), (h_this_starts, .inl (cI, 50, .inl f_this_starts)), (h_this_sizes, .inl (cI, 50, .inl f_this_sizes)), (h_this_rules, .inl (cI, 50, .inl f_this_rules)), (h_this_tagged, .inl (cZ, 50, .inl f_this_tagged)), (h_this_pool, .inl (cI, 300, .inl f_this_pool)), (h_this_placed, .inl (cZ, 200, .inl f_this_placed))] o.1) 0 0 (va_A [(h_this, .inr (6, [.int n_this_textSize, .ref h_this_text, .int n_this_size, .ref h_this_result, .int n_this_rowSize, .ref h_this_row, .ref h_this_other, .int n_this_count, .ref h_this_starts, .ref h_this_sizes, .ref h_this_rules, .ref h_this_tagged, .int n_this_poolSize, .ref h_this_pool, .int n_this_whole, .ref h_this_placed, .int n_this_bias])), (h_this_text, .inl (cI, 48, .inl f_this_text)), (h_this_result, .inl (cI, 2000, .inl f_this_result)), (h_this_row, .inl (cI, 200, .inl f_this_row)), (h_this_other, .inl (cI, 200, .inl f_this_other)), (h_this_starts, .inl (cI, 50, .inl f_this_starts)), (h_this_sizes, .inl (cI, 50, .inl f_this_sizes)), (h_this_rules, .inl (cI, 50, .inl f_this_rules)), (h_this_tagged, .inl (cZ, 50, .inl f_this_tagged)), (h_this_pool, .inl (cI, 300, .inl f_this_pool)), (h_this_placed, .inl (cZ, 200, .inl f_this_placed))] sz) := by
  refine hn_ofWz (own := R_Mod) (by decide) rfl (Nat.le_of_ble_eq_true rfl) ?_
  intro p e s m args below meth c A H locs ls Q S hE hl hret
  have hx := S.1
  have hb := S.2.1
  have hown := S.2.2.2.1
  have hl : lv_has ls 5 [(0, .ref h_this), (1, .long a1), (3, .int a2)] := hl
  have hL28 : ∀ (kf : Nat) (v4 : Int32) (n_this_textSize : Int32) (f_this_text : Nat → Int32) (H : Heap) (locs : List Loc) (ls : Array Slot), hn_E D (TY cI cZ) tt A s H locs [(h_this, .inr (6, [.int n_this_textSize, .ref h_this_text, .int n_this_size, .ref h_this_result, .int n_this_rowSize, .ref h_this_row, .ref h_this_other, .int n_this_count, .ref h_this_starts, .ref h_this_sizes, .ref h_this_rules, .ref h_this_tagged, .int n_this_poolSize, .ref h_this_pool, .int n_this_whole, .ref h_this_placed, .int n_this_bias])), (h_this_text, .inl (cI, 48, .inl f_this_text)), (h_this_result, .inl (cI, 2000, .inl f_this_result)), (h_this_row, .inl (cI, 200, .inl f_this_row)), (h_this_other, .inl (cI, 200, .inl f_this_other)), (h_this_starts, .inl (cI, 50, .inl f_this_starts)), (h_this_sizes, .inl (cI, 50, .inl f_this_sizes)), (h_this_rules, .inl (cI, 50, .inl f_this_rules)), (h_this_tagged, .inl (cZ, 50, .inl f_this_tagged)), (h_this_pool, .inl (cI, 300, .inl f_this_pool)), (h_this_placed, .inl (cZ, 200, .inl f_this_placed))] → lv_has ls 5 [(0, .ref h_this), (1, .long a1), (4, .int v4)] → fl3 (P_Mod_type_28 a1) kf v4 n_this_textSize f_this_text = some o → W p l e rm_Mod_type s m args below meth c H locs 0 0 Q (F0 m 28 ls []) := by
    intro kf
    induction kf with
    | zero => intro v4 n_this_textSize f_this_text H locs ls hE hl h; exact no_s h
    | succ kf ih =>
      intro v4 n_this_textSize f_this_text H locs ls hE hl h
      have h : P_Mod_type_28 a1 (fl3 (P_Mod_type_28 a1) kf) v4 n_this_textSize f_this_text = some o := h
      generalize fl3 (P_Mod_type_28 a1) kf = k28 at ih h
      have hk28 := ih
      unfold P_Mod_type_28 at h
      refine lv_iload hx hb d_Mod_type_28 (lv_at hl 2 rfl) ?_
      refine lv_if_lt (tgt := 70) hx hb d_Mod_type_30 (by decide) (fun hc => ?_) (fun hc => ?_)
      · have h := ite_t hc h
        refine lv_iconst (v := 1) hx hb d_Mod_type_70 (by decide) ?_
        obtain rfl := Option.some.inj h
        exact hret H locs ls 71 d_Mod_type_71 narrow_b1 hE
      · have h := ite_f hc h
        refine lv_aload_n hx hb d_Mod_type_33 rfl (lv_at hl 0 rfl) ?_
        refine hn_get S hE kc_Mod 0 rfl rfl 1 (by decide) mw_487 rfl d_Mod_type_34 ?_
        refine lv_aload_n hx hb d_Mod_type_37 rfl (lv_at hl 0 rfl) ?_
        refine hn_get S hE kc_Mod 0 rfl rfl 0 (by decide) mw_486 rfl d_Mod_type_38 ?_
        refine lv_lload_n hx hb d_Mod_type_41 rfl (lv_at hl 1 rfl) ?_
        refine lv_bipush (v := 8) hx hb d_Mod_type_42 (by decide) ?_
        refine lv_iload hx hb d_Mod_type_44 (lv_at hl 2 rfl) ?_
        refine lv_imul hx hb d_Mod_type_46 ?_
        refine lv_lshr hx hb d_Mod_type_47 rfl ?_
        refine lv_l2i hx hb d_Mod_type_48 rfl ?_
        refine lv_sipush (v := 255) hx hb d_Mod_type_49 (by decide) ?_
        refine lv_iand hx hb d_Mod_type_52 ?_
        obtain ⟨hi53, h⟩ := gi_s h
        refine hn_iast S hE 1 0 rfl rfl hi53 d_Mod_type_53 (fun H locs hE => ?_)
        have hE : hn_E D (TY cI cZ) tt A s H locs [(h_this, .inr (6, [.int n_this_textSize, .ref h_this_text, .int n_this_size, .ref h_this_result, .int n_this_rowSize, .ref h_this_row, .ref h_this_other, .int n_this_count, .ref h_this_starts, .ref h_this_sizes, .ref h_this_rules, .ref h_this_tagged, .int n_this_poolSize, .ref h_this_pool, .int n_this_whole, .ref h_this_placed, .int n_this_bias])), (h_this_text, .inl (cI, 48, .inl (upd f_this_text (n_this_textSize).toNatClampNeg (((a1 >>> ((((8 : Int32) * v4)).toInt64 &&& 63))).toInt32 &&& (255 : Int32))))), (h_this_result, .inl (cI, 2000, .inl f_this_result)), (h_this_row, .inl (cI, 200, .inl f_this_row)), (h_this_other, .inl (cI, 200, .inl f_this_other)), (h_this_starts, .inl (cI, 50, .inl f_this_starts)), (h_this_sizes, .inl (cI, 50, .inl f_this_sizes)), (h_this_rules, .inl (cI, 50, .inl f_this_rules)), (h_this_tagged, .inl (cZ, 50, .inl f_this_tagged)), (h_this_pool, .inl (cI, 300, .inl f_this_pool)), (h_this_placed, .inl (cZ, 200, .inl f_this_placed))] := hE
        refine lv_aload_n hx hb d_Mod_type_54 rfl (lv_at hl 0 rfl) ?_
        refine lv_dup hx hb d_Mod_type_55 rfl ?_
        refine hn_get S hE kc_Mod 0 rfl rfl 0 (by decide) mw_486 rfl d_Mod_type_56 ?_
        refine lv_iconst (v := 1) hx hb d_Mod_type_59 (by decide) ?_
        refine lv_iadd hx hb d_Mod_type_60 ?_
        refine hn_put (tv := .int) S hE kc_Mod t_Mod_ok n_Mod 0 rfl rfl 0 (by decide) mw_486 rfl (by decide +kernel) rfl rfl (Nat.le_of_ble_eq_true rfl) d_Mod_type_61 (fun H locs hE => ?_)
        have hE : hn_E D (TY cI cZ) tt A s H locs [(h_this, .inr (6, [.int (n_this_textSize + (1 : Int32)), .ref h_this_text, .int n_this_size, .ref h_this_result, .int n_this_rowSize, .ref h_this_row, .ref h_this_other, .int n_this_count, .ref h_this_starts, .ref h_this_sizes, .ref h_this_rules, .ref h_this_tagged, .int n_this_poolSize, .ref h_this_pool, .int n_this_whole, .ref h_this_placed, .int n_this_bias])), (h_this_text, .inl (cI, 48, .inl (upd f_this_text (n_this_textSize).toNatClampNeg (((a1 >>> ((((8 : Int32) * v4)).toInt64 &&& 63))).toInt32 &&& (255 : Int32))))), (h_this_result, .inl (cI, 2000, .inl f_this_result)), (h_this_row, .inl (cI, 200, .inl f_this_row)), (h_this_other, .inl (cI, 200, .inl f_this_other)), (h_this_starts, .inl (cI, 50, .inl f_this_starts)), (h_this_sizes, .inl (cI, 50, .inl f_this_sizes)), (h_this_rules, .inl (cI, 50, .inl f_this_rules)), (h_this_tagged, .inl (cZ, 50, .inl f_this_tagged)), (h_this_pool, .inl (cI, 300, .inl f_this_pool)), (h_this_placed, .inl (cZ, 200, .inl f_this_placed))] := hE
        refine lv_iinc (v := (v4 + (-1 : Int32))) (lv' := [(4, .int (v4 + (-1 : Int32))), (0, .ref h_this), (1, .long a1)]) hx hb d_Mod_type_64 hl (k := 2) rfl rfl (by decide) rfl (fun ls hl => ?_)
        refine lv_goto (tgt := 28) hx hb d_Mod_type_67 (by decide) ?_
        exact hk28 (v4 + (-1 : Int32)) (n_this_textSize + (1 : Int32)) (upd f_this_text (n_this_textSize).toNatClampNeg (((a1 >>> ((((8 : Int32) * v4)).toInt64 &&& 63))).toInt32 &&& (255 : Int32))) H locs ls hE (lv_sub hl [1, 2, 0] rfl) h
  unfold P_Mod_type at h
  refine lv_iload_n hx hb d_Mod_type_0 rfl (lv_at hl 2 rfl) ?_
  refine lv_iconst (v := 1) hx hb d_Mod_type_1 (by decide) ?_
  refine lv_bipush (v := 8) hx hb d_Mod_type_2 (by decide) ?_
  obtain ⟨x4, hc4, h⟩ := bd_s h
  have hM := (c_Mod_within l D cI cZ tt H.size a2 (1 : Int32) (8 : Int32) x4 hc4)
  refine hn_cz hE (hn_runS (As := [.int a2, .int (1 : Int32), .int (8 : Int32)]) (rest := []) S hE hM cf_Mod_within mw_543 mw_544 ⟨rfl, rfl⟩ ⟨Nat.le_of_ble_eq_true rfl, Nat.le_of_ble_eq_true rfl⟩ [] rfl rfl rfl rfl hl.1 (lv_room (Nat.le_of_ble_eq_true rfl)) d_Mod_type_4 ⟨Nat.zero_le _, Nat.zero_le _⟩) [] rfl rfl (fun H locs hz4 hE => ?_)
  have hE : hn_E D (TY cI cZ) tt A s H locs [(h_this, .inr (6, [.int n_this_textSize, .ref h_this_text, .int n_this_size, .ref h_this_result, .int n_this_rowSize, .ref h_this_row, .ref h_this_other, .int n_this_count, .ref h_this_starts, .ref h_this_sizes, .ref h_this_rules, .ref h_this_tagged, .int n_this_poolSize, .ref h_this_pool, .int n_this_whole, .ref h_this_placed, .int n_this_bias])), (h_this_text, .inl (cI, 48, .inl f_this_text)), (h_this_result, .inl (cI, 2000, .inl f_this_result)), (h_this_row, .inl (cI, 200, .inl f_this_row)), (h_this_other, .inl (cI, 200, .inl f_this_other)), (h_this_starts, .inl (cI, 50, .inl f_this_starts)), (h_this_sizes, .inl (cI, 50, .inl f_this_sizes)), (h_this_rules, .inl (cI, 50, .inl f_this_rules)), (h_this_tagged, .inl (cZ, 50, .inl f_this_tagged)), (h_this_pool, .inl (cI, 300, .inl f_this_pool)), (h_this_placed, .inl (cZ, 200, .inl f_this_placed))] := hE
  refine lv_if_eq (tgt := 21) hx hb d_Mod_type_7 (by decide) (fun hc => ?_) (fun hc => ?_)
  · have h := ite_t hc h
    refine lv_iconst (v := 0) hx hb d_Mod_type_21 (by decide) ?_
    obtain rfl := Option.some.inj h
    exact hret H locs ls 22 d_Mod_type_22 narrow_b0 hE
  · have h := ite_f hc h
    refine lv_aload_n hx hb d_Mod_type_10 rfl (lv_at hl 0 rfl) ?_
    refine hn_get S hE kc_Mod 0 rfl rfl 0 (by decide) mw_486 rfl d_Mod_type_11 ?_
    refine lv_iload_n hx hb d_Mod_type_14 rfl (lv_at hl 2 rfl) ?_
    refine lv_iadd hx hb d_Mod_type_15 ?_
    refine lv_bipush (v := 48) hx hb d_Mod_type_16 (by decide) ?_
    refine lv_icmp_le (tgt := 23) hx hb d_Mod_type_18 (by decide) (fun hc => ?_) (fun hc => ?_)
    · have h := ite_t hc h
      refine lv_iload_n hx hb d_Mod_type_23 rfl (lv_at hl 2 rfl) ?_
      refine lv_iconst (v := 1) hx hb d_Mod_type_24 (by decide) ?_
      refine lv_isub hx hb d_Mod_type_25 ?_
      refine lv_istore (lv' := [(4, .int (a2 - (1 : Int32))), (0, .ref h_this), (1, .long a1), (3, .int a2)]) hx hb d_Mod_type_26 hl (by decide) rfl (fun ls hl => ?_)
      exact hL28 fu (a2 - (1 : Int32)) n_this_textSize f_this_text H locs ls hE (lv_sub hl [1, 2, 0] rfl) h
    · have h := ite_f hc h
      refine lv_iconst (v := 0) hx hb d_Mod_type_21 (by decide) ?_
      obtain rfl := Option.some.inj h
      exact hret H locs ls 22 d_Mod_type_22 narrow_b0 hE
abbrev rm_Mod_clear : Room := { frames := 0, cells := 0, slots := 0, locals := 0 }
theorem cf_Mod_clear : hn_CF y_Mod_clear b_Mod_clear 2 (some .int) 0 := ⟨mw_555, mw_7, by decide, by decide, by decide +kernel⟩
set_option maxHeartbeats 4000000 in
set_option maxRecDepth 100000 in
theorem c_Mod_clear (l : Launch) (D : va_G) (cI cZ : ClassId) (tt : Nat → Nat) (h_this h_this_text h_this_result h_this_row h_this_other h_this_starts h_this_sizes h_this_rules h_this_tagged h_this_pool h_this_placed : Nat) (sz : Nat) (n_this_textSize : Int32) (n_this_size : Int32) (n_this_rowSize : Int32) (n_this_count : Int32) (n_this_poolSize : Int32) (n_this_whole : Int32) (n_this_bias : Int32) (f_this_text : Nat → Int32) (f_this_result : Nat → Int32) (f_this_row : Nat → Int32) (f_this_other : Nat → Int32) (f_this_starts : Nat → Int32) (f_this_sizes : Nat → Int32) (f_this_rules : Nat → Int32) (f_this_tagged : Nat → Int32) (f_this_pool : Nat → Int32) (f_this_placed : Nat → Int32) (o : Int32 × Int32) (h : P_Mod_clear n_this_textSize = some o) : Met l y_Mod_clear (hn_w y_Mod_clear b_Mod_clear 2 (some .int)) rm_Mod_clear (hn_Pc D (TY cI cZ) tt [.ref h_this] sz [(h_this, .inr (6, [.int n_this_textSize, .ref h_this_text, .int n_this_size, .ref h_this_result, .int n_this_rowSize, .ref h_this_row, .ref h_this_other, .int n_this_count, .ref h_this_starts, .ref h_this_sizes, .ref h_this_rules, .ref h_this_tagged, .int n_this_poolSize, .ref h_this_pool, .int n_this_whole, .ref h_this_placed, .int n_this_bias])), (h_this_text, .inl (cI, 48, .inl f_this_text)), (h_this_result, .inl (cI, 2000, .inl f_this_result)), (h_this_row, .inl (cI, 200, .inl f_this_row)), (h_this_other, .inl (cI, 200, .inl f_this_other)), (h_this_starts, .inl (cI, 50, .inl f_this_starts)), (h_this_sizes, .inl (cI, 50, .inl f_this_sizes)), (h_this_rules, .inl (cI, 50, .inl f_this_rules)), (h_this_tagged, .inl (cZ, 50, .inl f_this_tagged)), (h_this_pool, .inl (cI, 300, .inl f_this_pool)), (h_this_placed, .inl (cZ, 200, .inl f_this_placed))]) (hn_Qi D [(h_this, .inr (6, [.int n_this_textSize, .ref h_this_text, .int n_this_size, .ref h_this_result, .int n_this_rowSize, .ref h_this_row, .ref h_this_other, .int n_this_count, .ref h_this_starts, .ref h_this_sizes, .ref h_this_rules, .ref h_this_tagged, .int n_this_poolSize, .ref h_this_pool, .int n_this_whole, .ref h_this_placed, .int n_this_bias])), (h_this_text, .inl (cI, 48, .inl f_this_text)), (h_this_result, .inl (cI, 2000, .inl f_this_result)), (h_this_row, .inl (cI, 200, .inl f_this_row)), (h_this_other, .inl (cI, 200, .inl f_this_other)), (h_this_starts, .inl (cI, 50, .inl f_this_starts)), (h_this_sizes, .inl (cI, 50, .inl f_this_sizes)), (h_this_rules, .inl (cI, 50, .inl f_this_rules)), (h_this_tagged, .inl (cZ, 50, .inl f_this_tagged)), (h_this_pool, .inl (cI, 300, .inl f_this_pool)), (h_this_placed, .inl (cZ, 200, .inl f_this_placed))] sz [(h_this, .inr (6, [.int o.2, .ref h_this_text, .int n_this_size, .ref h_this_result, .int n_this_rowSize, .ref h_this_row, .ref h_this_other, .int n_this_count, .ref h_this_starts, .ref h_this_sizes, .ref h_this_rules, .ref h_this_tagged, .int n_this_poolSize, .ref h_this_pool, .int n_this_whole, .ref h_this_placed, .int n_this_bias])), (h_this_text, .inl (cI, 48, .inl f_this_text)), (h_this_result, .inl (cI, 2000, .inl f_this_result)), (h_this_row, .inl (cI, 200, .inl f_this_row)), (h_this_other, .inl (cI, 200, .inl f_this_other)), (h_this_starts, .inl (cI, 50, .inl f_this_starts)), (h_this_sizes, .inl (cI, 50, .inl f_this_sizes)), (h_this_rules, .inl (cI, 50, .inl f_this_rules)), (h_this_tagged, .inl (cZ, 50, .inl f_this_tagged)), (h_this_pool, .inl (cI, 300, .inl f_this_pool)), (h_this_placed, .inl (cZ, 200, .inl f_this_placed))] o.1) 0 0 (va_A [(h_this, .inr (6, [.int n_this_textSize, .ref h_this_text, .int n_this_size, .ref h_this_result, .int n_this_rowSize, .ref h_this_row, .ref h_this_other, .int n_this_count, .ref h_this_starts, .ref h_this_sizes, .ref h_this_rules, .ref h_this_tagged, .int n_this_poolSize, .ref h_this_pool, .int n_this_whole, .ref h_this_placed, .int n_this_bias])), (h_this_text, .inl (cI, 48, .inl f_this_text)), (h_this_result, .inl (cI, 2000, .inl f_this_result)), (h_this_row, .inl (cI, 200, .inl f_this_row)), (h_this_other, .inl (cI, 200, .inl f_this_other)), (h_this_starts, .inl (cI, 50, .inl f_this_starts)), (h_this_sizes, .inl (cI, 50, .inl f_this_sizes)), (h_this_rules, .inl (cI, 50, .inl f_this_rules)), (h_this_tagged, .inl (cZ, 50, .inl f_this_tagged)), (h_this_pool, .inl (cI, 300, .inl f_this_pool)), (h_this_placed, .inl (cZ, 200, .inl f_this_placed))] sz) := by
  refine hn_ofWi (own := R_Mod) (by decide) rfl (Nat.le_of_ble_eq_true rfl) ?_
  intro p e s m args below meth c A H locs ls Q S hE hl hret
  have hx := S.1
  have hb := S.2.1
  have hown := S.2.2.2.1
  have hl : lv_has ls 2 [(0, .ref h_this)] := hl
  unfold P_Mod_clear at h
  refine lv_aload_n hx hb d_Mod_clear_0 rfl (lv_at hl 0 rfl) ?_
  refine hn_get S hE kc_Mod 0 rfl rfl 0 (by decide) mw_486 rfl d_Mod_clear_1 ?_
  refine lv_istore_n (lv' := [(1, .int n_this_textSize), (0, .ref h_this)]) hx hb d_Mod_clear_4 rfl hl (by decide) rfl (fun ls hl => ?_)
  refine lv_aload_n hx hb d_Mod_clear_5 rfl (lv_at hl 1 rfl) ?_
  refine lv_iconst (v := 0) hx hb d_Mod_clear_6 (by decide) ?_
  refine hn_put (tv := .int) S hE kc_Mod t_Mod_ok n_Mod 0 rfl rfl 0 (by decide) mw_486 rfl (by decide +kernel) rfl rfl (Nat.le_of_ble_eq_true rfl) d_Mod_clear_7 (fun H locs hE => ?_)
  have hE : hn_E D (TY cI cZ) tt A s H locs [(h_this, .inr (6, [.int (0 : Int32), .ref h_this_text, .int n_this_size, .ref h_this_result, .int n_this_rowSize, .ref h_this_row, .ref h_this_other, .int n_this_count, .ref h_this_starts, .ref h_this_sizes, .ref h_this_rules, .ref h_this_tagged, .int n_this_poolSize, .ref h_this_pool, .int n_this_whole, .ref h_this_placed, .int n_this_bias])), (h_this_text, .inl (cI, 48, .inl f_this_text)), (h_this_result, .inl (cI, 2000, .inl f_this_result)), (h_this_row, .inl (cI, 200, .inl f_this_row)), (h_this_other, .inl (cI, 200, .inl f_this_other)), (h_this_starts, .inl (cI, 50, .inl f_this_starts)), (h_this_sizes, .inl (cI, 50, .inl f_this_sizes)), (h_this_rules, .inl (cI, 50, .inl f_this_rules)), (h_this_tagged, .inl (cZ, 50, .inl f_this_tagged)), (h_this_pool, .inl (cI, 300, .inl f_this_pool)), (h_this_placed, .inl (cZ, 200, .inl f_this_placed))] := hE
  refine lv_iload_n hx hb d_Mod_clear_10 rfl (lv_at hl 0 rfl) ?_
  obtain rfl := Option.some.inj h
  exact hret H locs ls 11 d_Mod_clear_11 hE
abbrev rm_Mod_takeText : Room := { frames := 0, cells := 0, slots := 0, locals := 0 }
theorem cf_Mod_takeText : hn_CF y_Mod_takeText b_Mod_takeText 2 none 0 := ⟨mw_734, mw_7, by decide, by decide, by decide +kernel⟩
set_option maxHeartbeats 4000000 in
set_option maxRecDepth 100000 in
theorem c_Mod_takeText (l : Launch) (D : va_G) (cI cZ : ClassId) (tt : Nat → Nat) (h_this h_this_text h_this_result h_this_row h_this_other h_this_starts h_this_sizes h_this_rules h_this_tagged h_this_pool h_this_placed : Nat) (sz : Nat) (n_this_textSize : Int32) (n_this_size : Int32) (n_this_rowSize : Int32) (n_this_count : Int32) (n_this_poolSize : Int32) (n_this_whole : Int32) (n_this_bias : Int32) (f_this_text : Nat → Int32) (f_this_result : Nat → Int32) (f_this_row : Nat → Int32) (f_this_other : Nat → Int32) (f_this_starts : Nat → Int32) (f_this_sizes : Nat → Int32) (f_this_rules : Nat → Int32) (f_this_tagged : Nat → Int32) (f_this_pool : Nat → Int32) (f_this_placed : Nat → Int32) (o : Int32 × (Nat → Int32)) (h : P_Mod_takeText n_this_textSize f_this_text f_this_row = some o) : Met l y_Mod_takeText (hn_w y_Mod_takeText b_Mod_takeText 2 none) rm_Mod_takeText (hn_Pc D (TY cI cZ) tt [.ref h_this] sz [(h_this, .inr (6, [.int n_this_textSize, .ref h_this_text, .int n_this_size, .ref h_this_result, .int n_this_rowSize, .ref h_this_row, .ref h_this_other, .int n_this_count, .ref h_this_starts, .ref h_this_sizes, .ref h_this_rules, .ref h_this_tagged, .int n_this_poolSize, .ref h_this_pool, .int n_this_whole, .ref h_this_placed, .int n_this_bias])), (h_this_text, .inl (cI, 48, .inl f_this_text)), (h_this_result, .inl (cI, 2000, .inl f_this_result)), (h_this_row, .inl (cI, 200, .inl f_this_row)), (h_this_other, .inl (cI, 200, .inl f_this_other)), (h_this_starts, .inl (cI, 50, .inl f_this_starts)), (h_this_sizes, .inl (cI, 50, .inl f_this_sizes)), (h_this_rules, .inl (cI, 50, .inl f_this_rules)), (h_this_tagged, .inl (cZ, 50, .inl f_this_tagged)), (h_this_pool, .inl (cI, 300, .inl f_this_pool)), (h_this_placed, .inl (cZ, 200, .inl f_this_placed))]) (hn_Qv D [(h_this, .inr (6, [.int n_this_textSize, .ref h_this_text, .int n_this_size, .ref h_this_result, .int n_this_rowSize, .ref h_this_row, .ref h_this_other, .int n_this_count, .ref h_this_starts, .ref h_this_sizes, .ref h_this_rules, .ref h_this_tagged, .int n_this_poolSize, .ref h_this_pool, .int n_this_whole, .ref h_this_placed, .int n_this_bias])), (h_this_text, .inl (cI, 48, .inl f_this_text)), (h_this_result, .inl (cI, 2000, .inl f_this_result)), (h_this_row, .inl (cI, 200, .inl f_this_row)), (h_this_other, .inl (cI, 200, .inl f_this_other)), (h_this_starts, .inl (cI, 50, .inl f_this_starts)), (h_this_sizes, .inl (cI, 50, .inl f_this_sizes)), (h_this_rules, .inl (cI, 50, .inl f_this_rules)), (h_this_tagged, .inl (cZ, 50, .inl f_this_tagged)), (h_this_pool, .inl (cI, 300, .inl f_this_pool)), (h_this_placed, .inl (cZ, 200, .inl f_this_placed))] sz [(h_this, .inr (6, [.int n_this_textSize, .ref h_this_text, .int n_this_size, .ref h_this_result, .int o.1, .ref h_this_row, .ref h_this_other, .int n_this_count, .ref h_this_starts, .ref h_this_sizes, .ref h_this_rules, .ref h_this_tagged, .int n_this_poolSize, .ref h_this_pool, .int n_this_whole, .ref h_this_placed, .int n_this_bias])), (h_this_text, .inl (cI, 48, .inl f_this_text)), (h_this_result, .inl (cI, 2000, .inl f_this_result)), (h_this_row, .inl (cI, 200, .inl o.2)), (h_this_other, .inl (cI, 200, .inl f_this_other)), (h_this_starts, .inl (cI, 50, .inl f_this_starts)), (h_this_sizes, .inl (cI, 50, .inl f_this_sizes)), (h_this_rules, .inl (cI, 50, .inl f_this_rules)), (h_this_tagged, .inl (cZ, 50, .inl f_this_tagged)), (h_this_pool, .inl (cI, 300, .inl f_this_pool)), (h_this_placed, .inl (cZ, 200, .inl f_this_placed))]) 0 0 (va_A [(h_this, .inr (6, [.int n_this_textSize, .ref h_this_text, .int n_this_size, .ref h_this_result, .int n_this_rowSize, .ref h_this_row, .ref h_this_other, .int n_this_count, .ref h_this_starts, .ref h_this_sizes, .ref h_this_rules, .ref h_this_tagged, .int n_this_poolSize, .ref h_this_pool, .int n_this_whole, .ref h_this_placed, .int n_this_bias])), (h_this_text, .inl (cI, 48, .inl f_this_text)), (h_this_result, .inl (cI, 2000, .inl f_this_result)), (h_this_row, .inl (cI, 200, .inl f_this_row)), (h_this_other, .inl (cI, 200, .inl f_this_other)), (h_this_starts, .inl (cI, 50, .inl f_this_starts)), (h_this_sizes, .inl (cI, 50, .inl f_this_sizes)), (h_this_rules, .inl (cI, 50, .inl f_this_rules)), (h_this_tagged, .inl (cZ, 50, .inl f_this_tagged)), (h_this_pool, .inl (cI, 300, .inl f_this_pool)), (h_this_placed, .inl (cZ, 200, .inl f_this_placed))] sz) := by
  refine hn_ofWv (own := R_Mod) (by decide) rfl (Nat.le_of_ble_eq_true rfl) ?_
  intro p e s m args below meth c A H locs ls Q S hE hl hret
  have hx := S.1
  have hb := S.2.1
  have hown := S.2.2.2.1
  have hl : lv_has ls 2 [(0, .ref h_this)] := hl
  have hL2 : ∀ (n_this_rowSize : Int32) (kf : Nat) (v1 : Int32) (f_this_row : Nat → Int32) (H : Heap) (locs : List Loc) (ls : Array Slot), hn_E D (TY cI cZ) tt A s H locs [(h_this, .inr (6, [.int n_this_textSize, .ref h_this_text, .int n_this_size, .ref h_this_result, .int n_this_rowSize, .ref h_this_row, .ref h_this_other, .int n_this_count, .ref h_this_starts, .ref h_this_sizes, .ref h_this_rules, .ref h_this_tagged, .int n_this_poolSize, .ref h_this_pool, .int n_this_whole, .ref h_this_placed, .int n_this_bias])), (h_this_text, .inl (cI, 48, .inl f_this_text)), (h_this_result, .inl (cI, 2000, .inl f_this_result)), (h_this_row, .inl (cI, 200, .inl f_this_row)), (h_this_other, .inl (cI, 200, .inl f_this_other)), (h_this_starts, .inl (cI, 50, .inl f_this_starts)), (h_this_sizes, .inl (cI, 50, .inl f_this_sizes)), (h_this_rules, .inl (cI, 50, .inl f_this_rules)), (h_this_tagged, .inl (cZ, 50, .inl f_this_tagged)), (h_this_pool, .inl (cI, 300, .inl f_this_pool)), (h_this_placed, .inl (cZ, 200, .inl f_this_placed))] → lv_has ls 2 [(0, .ref h_this), (1, .int v1)] → fl2 (P_Mod_takeText_2 n_this_textSize f_this_text) kf v1 f_this_row = some o → W p l e rm_Mod_takeText s m args below meth c H locs 0 0 Q (F0 m 2 ls []) := by
    intro n_this_rowSize kf
    induction kf with
    | zero => intro v1 f_this_row H locs ls hE hl h; exact no_s h
    | succ kf ih =>
      intro v1 f_this_row H locs ls hE hl h
      have h : P_Mod_takeText_2 n_this_textSize f_this_text (fl2 (P_Mod_takeText_2 n_this_textSize f_this_text) kf) v1 f_this_row = some o := h
      generalize fl2 (P_Mod_takeText_2 n_this_textSize f_this_text) kf = k2 at ih h
      have hk2 := ih
      unfold P_Mod_takeText_2 at h
      refine lv_iload_n hx hb d_Mod_takeText_2 rfl (lv_at hl 1 rfl) ?_
      refine lv_aload_n hx hb d_Mod_takeText_3 rfl (lv_at hl 0 rfl) ?_
      refine hn_get S hE kc_Mod 0 rfl rfl 0 (by decide) mw_486 rfl d_Mod_takeText_4 ?_
      refine lv_icmp_ge (tgt := 28) hx hb d_Mod_takeText_7 (by decide) (fun hc => ?_) (fun hc => ?_)
      · have h := ite_t hc h
        refine lv_aload_n hx hb d_Mod_takeText_28 rfl (lv_at hl 0 rfl) ?_
        refine lv_aload_n hx hb d_Mod_takeText_29 rfl (lv_at hl 0 rfl) ?_
        refine hn_get S hE kc_Mod 0 rfl rfl 0 (by decide) mw_486 rfl d_Mod_takeText_30 ?_
        refine hn_put (tv := .int) S hE kc_Mod t_Mod_ok n_Mod 0 rfl rfl 4 (by decide) mw_490 rfl (by decide +kernel) rfl rfl (Nat.le_of_ble_eq_true rfl) d_Mod_takeText_33 (fun H locs hE => ?_)
        have hE : hn_E D (TY cI cZ) tt A s H locs [(h_this, .inr (6, [.int n_this_textSize, .ref h_this_text, .int n_this_size, .ref h_this_result, .int n_this_textSize, .ref h_this_row, .ref h_this_other, .int n_this_count, .ref h_this_starts, .ref h_this_sizes, .ref h_this_rules, .ref h_this_tagged, .int n_this_poolSize, .ref h_this_pool, .int n_this_whole, .ref h_this_placed, .int n_this_bias])), (h_this_text, .inl (cI, 48, .inl f_this_text)), (h_this_result, .inl (cI, 2000, .inl f_this_result)), (h_this_row, .inl (cI, 200, .inl f_this_row)), (h_this_other, .inl (cI, 200, .inl f_this_other)), (h_this_starts, .inl (cI, 50, .inl f_this_starts)), (h_this_sizes, .inl (cI, 50, .inl f_this_sizes)), (h_this_rules, .inl (cI, 50, .inl f_this_rules)), (h_this_tagged, .inl (cZ, 50, .inl f_this_tagged)), (h_this_pool, .inl (cI, 300, .inl f_this_pool)), (h_this_placed, .inl (cZ, 200, .inl f_this_placed))] := hE
        obtain rfl := Option.some.inj h
        exact hret H locs ls 36 d_Mod_takeText_36 hE
      · have h := ite_f hc h
        refine lv_aload_n hx hb d_Mod_takeText_10 rfl (lv_at hl 0 rfl) ?_
        refine hn_get S hE kc_Mod 0 rfl rfl 5 (by decide) mw_491 rfl d_Mod_takeText_11 ?_
        refine lv_iload_n hx hb d_Mod_takeText_14 rfl (lv_at hl 1 rfl) ?_
        refine lv_aload_n hx hb d_Mod_takeText_15 rfl (lv_at hl 0 rfl) ?_
        refine hn_get S hE kc_Mod 0 rfl rfl 1 (by decide) mw_487 rfl d_Mod_takeText_16 ?_
        refine lv_iload_n hx hb d_Mod_takeText_19 rfl (lv_at hl 1 rfl) ?_
        obtain ⟨hi20, h⟩ := gi_s h
        refine hn_iald S hE 1 0 rfl rfl hi20 d_Mod_takeText_20 ?_
        obtain ⟨hi21, h⟩ := gi_s h
        refine hn_iast S hE 3 0 rfl rfl hi21 d_Mod_takeText_21 (fun H locs hE => ?_)
        have hE : hn_E D (TY cI cZ) tt A s H locs [(h_this, .inr (6, [.int n_this_textSize, .ref h_this_text, .int n_this_size, .ref h_this_result, .int n_this_rowSize, .ref h_this_row, .ref h_this_other, .int n_this_count, .ref h_this_starts, .ref h_this_sizes, .ref h_this_rules, .ref h_this_tagged, .int n_this_poolSize, .ref h_this_pool, .int n_this_whole, .ref h_this_placed, .int n_this_bias])), (h_this_text, .inl (cI, 48, .inl f_this_text)), (h_this_result, .inl (cI, 2000, .inl f_this_result)), (h_this_row, .inl (cI, 200, .inl (upd f_this_row (v1).toNatClampNeg (f_this_text (v1).toNatClampNeg)))), (h_this_other, .inl (cI, 200, .inl f_this_other)), (h_this_starts, .inl (cI, 50, .inl f_this_starts)), (h_this_sizes, .inl (cI, 50, .inl f_this_sizes)), (h_this_rules, .inl (cI, 50, .inl f_this_rules)), (h_this_tagged, .inl (cZ, 50, .inl f_this_tagged)), (h_this_pool, .inl (cI, 300, .inl f_this_pool)), (h_this_placed, .inl (cZ, 200, .inl f_this_placed))] := hE
        refine lv_iinc (v := (v1 + (1 : Int32))) (lv' := [(1, .int (v1 + (1 : Int32))), (0, .ref h_this)]) hx hb d_Mod_takeText_22 hl (k := 1) rfl rfl (by decide) rfl (fun ls hl => ?_)
        refine lv_goto (tgt := 2) hx hb d_Mod_takeText_25 (by decide) ?_
        exact hk2 (v1 + (1 : Int32)) (upd f_this_row (v1).toNatClampNeg (f_this_text (v1).toNatClampNeg)) H locs ls hE (lv_sub hl [1, 0] rfl) h
  unfold P_Mod_takeText at h
  refine lv_iconst (v := 0) hx hb d_Mod_takeText_0 (by decide) ?_
  refine lv_istore_n (lv' := [(1, .int (0 : Int32)), (0, .ref h_this)]) hx hb d_Mod_takeText_1 rfl hl (by decide) rfl (fun ls hl => ?_)
  exact hL2 n_this_rowSize fu (0 : Int32) f_this_row H locs ls hE (lv_sub hl [1, 0] rfl) h
abbrev rm_Mod_giveRow : Room := { frames := 0, cells := 0, slots := 0, locals := 0 }
theorem cf_Mod_giveRow : hn_CF y_Mod_giveRow b_Mod_giveRow 2 none 0 := ⟨mw_742, mw_7, by decide, by decide, by decide +kernel⟩
set_option maxHeartbeats 4000000 in
set_option maxRecDepth 100000 in
theorem c_Mod_giveRow (l : Launch) (D : va_G) (cI cZ : ClassId) (tt : Nat → Nat) (h_this h_this_text h_this_result h_this_row h_this_other h_this_starts h_this_sizes h_this_rules h_this_tagged h_this_pool h_this_placed : Nat) (sz : Nat) (n_this_textSize : Int32) (n_this_size : Int32) (n_this_rowSize : Int32) (n_this_count : Int32) (n_this_poolSize : Int32) (n_this_whole : Int32) (n_this_bias : Int32) (f_this_text : Nat → Int32) (f_this_result : Nat → Int32) (f_this_row : Nat → Int32) (f_this_other : Nat → Int32) (f_this_starts : Nat → Int32) (f_this_sizes : Nat → Int32) (f_this_rules : Nat → Int32) (f_this_tagged : Nat → Int32) (f_this_pool : Nat → Int32) (f_this_placed : Nat → Int32) (o : Int32 × (Nat → Int32)) (h : P_Mod_giveRow n_this_rowSize f_this_result f_this_row = some o) : Met l y_Mod_giveRow (hn_w y_Mod_giveRow b_Mod_giveRow 2 none) rm_Mod_giveRow (hn_Pc D (TY cI cZ) tt [.ref h_this] sz [(h_this, .inr (6, [.int n_this_textSize, .ref h_this_text, .int n_this_size, .ref h_this_result, .int n_this_rowSize, .ref h_this_row, .ref h_this_other, .int n_this_count, .ref h_this_starts, .ref h_this_sizes, .ref h_this_rules, .ref h_this_tagged, .int n_this_poolSize, .ref h_this_pool, .int n_this_whole, .ref h_this_placed, .int n_this_bias])), (h_this_text, .inl (cI, 48, .inl f_this_text)), (h_this_result, .inl (cI, 2000, .inl f_this_result)), (h_this_row, .inl (cI, 200, .inl f_this_row)), (h_this_other, .inl (cI, 200, .inl f_this_other)), (h_this_starts, .inl (cI, 50, .inl f_this_starts)), (h_this_sizes, .inl (cI, 50, .inl f_this_sizes)), (h_this_rules, .inl (cI, 50, .inl f_this_rules)), (h_this_tagged, .inl (cZ, 50, .inl f_this_tagged)), (h_this_pool, .inl (cI, 300, .inl f_this_pool)), (h_this_placed, .inl (cZ, 200, .inl f_this_placed))]) (hn_Qv D [(h_this, .inr (6, [.int n_this_textSize, .ref h_this_text, .int n_this_size, .ref h_this_result, .int n_this_rowSize, .ref h_this_row, .ref h_this_other, .int n_this_count, .ref h_this_starts, .ref h_this_sizes, .ref h_this_rules, .ref h_this_tagged, .int n_this_poolSize, .ref h_this_pool, .int n_this_whole, .ref h_this_placed, .int n_this_bias])), (h_this_text, .inl (cI, 48, .inl f_this_text)), (h_this_result, .inl (cI, 2000, .inl f_this_result)), (h_this_row, .inl (cI, 200, .inl f_this_row)), (h_this_other, .inl (cI, 200, .inl f_this_other)), (h_this_starts, .inl (cI, 50, .inl f_this_starts)), (h_this_sizes, .inl (cI, 50, .inl f_this_sizes)), (h_this_rules, .inl (cI, 50, .inl f_this_rules)), (h_this_tagged, .inl (cZ, 50, .inl f_this_tagged)), (h_this_pool, .inl (cI, 300, .inl f_this_pool)), (h_this_placed, .inl (cZ, 200, .inl f_this_placed))] sz [(h_this, .inr (6, [.int n_this_textSize, .ref h_this_text, .int o.1, .ref h_this_result, .int n_this_rowSize, .ref h_this_row, .ref h_this_other, .int n_this_count, .ref h_this_starts, .ref h_this_sizes, .ref h_this_rules, .ref h_this_tagged, .int n_this_poolSize, .ref h_this_pool, .int n_this_whole, .ref h_this_placed, .int n_this_bias])), (h_this_text, .inl (cI, 48, .inl f_this_text)), (h_this_result, .inl (cI, 2000, .inl o.2)), (h_this_row, .inl (cI, 200, .inl f_this_row)), (h_this_other, .inl (cI, 200, .inl f_this_other)), (h_this_starts, .inl (cI, 50, .inl f_this_starts)), (h_this_sizes, .inl (cI, 50, .inl f_this_sizes)), (h_this_rules, .inl (cI, 50, .inl f_this_rules)), (h_this_tagged, .inl (cZ, 50, .inl f_this_tagged)), (h_this_pool, .inl (cI, 300, .inl f_this_pool)), (h_this_placed, .inl (cZ, 200, .inl f_this_placed))]) 0 0 (va_A [(h_this, .inr (6, [.int n_this_textSize, .ref h_this_text, .int n_this_size, .ref h_this_result, .int n_this_rowSize, .ref h_this_row, .ref h_this_other, .int n_this_count, .ref h_this_starts, .ref h_this_sizes, .ref h_this_rules, .ref h_this_tagged, .int n_this_poolSize, .ref h_this_pool, .int n_this_whole, .ref h_this_placed, .int n_this_bias])), (h_this_text, .inl (cI, 48, .inl f_this_text)), (h_this_result, .inl (cI, 2000, .inl f_this_result)), (h_this_row, .inl (cI, 200, .inl f_this_row)), (h_this_other, .inl (cI, 200, .inl f_this_other)), (h_this_starts, .inl (cI, 50, .inl f_this_starts)), (h_this_sizes, .inl (cI, 50, .inl f_this_sizes)), (h_this_rules, .inl (cI, 50, .inl f_this_rules)), (h_this_tagged, .inl (cZ, 50, .inl f_this_tagged)), (h_this_pool, .inl (cI, 300, .inl f_this_pool)), (h_this_placed, .inl (cZ, 200, .inl f_this_placed))] sz) := by
  refine hn_ofWv (own := R_Mod) (by decide) rfl (Nat.le_of_ble_eq_true rfl) ?_
  intro p e s m args below meth c A H locs ls Q S hE hl hret
  have hx := S.1
  have hb := S.2.1
  have hown := S.2.2.2.1
  have hl : lv_has ls 2 [(0, .ref h_this)] := hl
  have hL2 : ∀ (n_this_size : Int32) (kf : Nat) (v1 : Int32) (f_this_result : Nat → Int32) (H : Heap) (locs : List Loc) (ls : Array Slot), hn_E D (TY cI cZ) tt A s H locs [(h_this, .inr (6, [.int n_this_textSize, .ref h_this_text, .int n_this_size, .ref h_this_result, .int n_this_rowSize, .ref h_this_row, .ref h_this_other, .int n_this_count, .ref h_this_starts, .ref h_this_sizes, .ref h_this_rules, .ref h_this_tagged, .int n_this_poolSize, .ref h_this_pool, .int n_this_whole, .ref h_this_placed, .int n_this_bias])), (h_this_text, .inl (cI, 48, .inl f_this_text)), (h_this_result, .inl (cI, 2000, .inl f_this_result)), (h_this_row, .inl (cI, 200, .inl f_this_row)), (h_this_other, .inl (cI, 200, .inl f_this_other)), (h_this_starts, .inl (cI, 50, .inl f_this_starts)), (h_this_sizes, .inl (cI, 50, .inl f_this_sizes)), (h_this_rules, .inl (cI, 50, .inl f_this_rules)), (h_this_tagged, .inl (cZ, 50, .inl f_this_tagged)), (h_this_pool, .inl (cI, 300, .inl f_this_pool)), (h_this_placed, .inl (cZ, 200, .inl f_this_placed))] → lv_has ls 2 [(0, .ref h_this), (1, .int v1)] → fl2 (P_Mod_giveRow_2 n_this_rowSize f_this_row) kf v1 f_this_result = some o → W p l e rm_Mod_giveRow s m args below meth c H locs 0 0 Q (F0 m 2 ls []) := by
    intro n_this_size kf
    induction kf with
    | zero => intro v1 f_this_result H locs ls hE hl h; exact no_s h
    | succ kf ih =>
      intro v1 f_this_result H locs ls hE hl h
      have h : P_Mod_giveRow_2 n_this_rowSize f_this_row (fl2 (P_Mod_giveRow_2 n_this_rowSize f_this_row) kf) v1 f_this_result = some o := h
      generalize fl2 (P_Mod_giveRow_2 n_this_rowSize f_this_row) kf = k2 at ih h
      have hk2 := ih
      unfold P_Mod_giveRow_2 at h
      refine lv_iload_n hx hb d_Mod_giveRow_2 rfl (lv_at hl 1 rfl) ?_
      refine lv_aload_n hx hb d_Mod_giveRow_3 rfl (lv_at hl 0 rfl) ?_
      refine hn_get S hE kc_Mod 0 rfl rfl 4 (by decide) mw_490 rfl d_Mod_giveRow_4 ?_
      refine lv_icmp_ge (tgt := 28) hx hb d_Mod_giveRow_7 (by decide) (fun hc => ?_) (fun hc => ?_)
      · have h := ite_t hc h
        refine lv_aload_n hx hb d_Mod_giveRow_28 rfl (lv_at hl 0 rfl) ?_
        refine lv_aload_n hx hb d_Mod_giveRow_29 rfl (lv_at hl 0 rfl) ?_
        refine hn_get S hE kc_Mod 0 rfl rfl 4 (by decide) mw_490 rfl d_Mod_giveRow_30 ?_
        refine hn_put (tv := .int) S hE kc_Mod t_Mod_ok n_Mod 0 rfl rfl 2 (by decide) mw_488 rfl (by decide +kernel) rfl rfl (Nat.le_of_ble_eq_true rfl) d_Mod_giveRow_33 (fun H locs hE => ?_)
        have hE : hn_E D (TY cI cZ) tt A s H locs [(h_this, .inr (6, [.int n_this_textSize, .ref h_this_text, .int n_this_rowSize, .ref h_this_result, .int n_this_rowSize, .ref h_this_row, .ref h_this_other, .int n_this_count, .ref h_this_starts, .ref h_this_sizes, .ref h_this_rules, .ref h_this_tagged, .int n_this_poolSize, .ref h_this_pool, .int n_this_whole, .ref h_this_placed, .int n_this_bias])), (h_this_text, .inl (cI, 48, .inl f_this_text)), (h_this_result, .inl (cI, 2000, .inl f_this_result)), (h_this_row, .inl (cI, 200, .inl f_this_row)), (h_this_other, .inl (cI, 200, .inl f_this_other)), (h_this_starts, .inl (cI, 50, .inl f_this_starts)), (h_this_sizes, .inl (cI, 50, .inl f_this_sizes)), (h_this_rules, .inl (cI, 50, .inl f_this_rules)), (h_this_tagged, .inl (cZ, 50, .inl f_this_tagged)), (h_this_pool, .inl (cI, 300, .inl f_this_pool)), (h_this_placed, .inl (cZ, 200, .inl f_this_placed))] := hE
        obtain rfl := Option.some.inj h
        exact hret H locs ls 36 d_Mod_giveRow_36 hE
      · have h := ite_f hc h
        refine lv_aload_n hx hb d_Mod_giveRow_10 rfl (lv_at hl 0 rfl) ?_
        refine hn_get S hE kc_Mod 0 rfl rfl 3 (by decide) mw_489 rfl d_Mod_giveRow_11 ?_
        refine lv_iload_n hx hb d_Mod_giveRow_14 rfl (lv_at hl 1 rfl) ?_
        refine lv_aload_n hx hb d_Mod_giveRow_15 rfl (lv_at hl 0 rfl) ?_
        refine hn_get S hE kc_Mod 0 rfl rfl 5 (by decide) mw_491 rfl d_Mod_giveRow_16 ?_
        refine lv_iload_n hx hb d_Mod_giveRow_19 rfl (lv_at hl 1 rfl) ?_
        obtain ⟨hi20, h⟩ := gi_s h
        refine hn_iald S hE 3 0 rfl rfl hi20 d_Mod_giveRow_20 ?_
        obtain ⟨hi21, h⟩ := gi_s h
        refine hn_iast S hE 2 0 rfl rfl hi21 d_Mod_giveRow_21 (fun H locs hE => ?_)
        have hE : hn_E D (TY cI cZ) tt A s H locs [(h_this, .inr (6, [.int n_this_textSize, .ref h_this_text, .int n_this_size, .ref h_this_result, .int n_this_rowSize, .ref h_this_row, .ref h_this_other, .int n_this_count, .ref h_this_starts, .ref h_this_sizes, .ref h_this_rules, .ref h_this_tagged, .int n_this_poolSize, .ref h_this_pool, .int n_this_whole, .ref h_this_placed, .int n_this_bias])), (h_this_text, .inl (cI, 48, .inl f_this_text)), (h_this_result, .inl (cI, 2000, .inl (upd f_this_result (v1).toNatClampNeg (f_this_row (v1).toNatClampNeg)))), (h_this_row, .inl (cI, 200, .inl f_this_row)), (h_this_other, .inl (cI, 200, .inl f_this_other)), (h_this_starts, .inl (cI, 50, .inl f_this_starts)), (h_this_sizes, .inl (cI, 50, .inl f_this_sizes)), (h_this_rules, .inl (cI, 50, .inl f_this_rules)), (h_this_tagged, .inl (cZ, 50, .inl f_this_tagged)), (h_this_pool, .inl (cI, 300, .inl f_this_pool)), (h_this_placed, .inl (cZ, 200, .inl f_this_placed))] := hE
        refine lv_iinc (v := (v1 + (1 : Int32))) (lv' := [(1, .int (v1 + (1 : Int32))), (0, .ref h_this)]) hx hb d_Mod_giveRow_22 hl (k := 1) rfl rfl (by decide) rfl (fun ls hl => ?_)
        refine lv_goto (tgt := 2) hx hb d_Mod_giveRow_25 (by decide) ?_
        exact hk2 (v1 + (1 : Int32)) (upd f_this_result (v1).toNatClampNeg (f_this_row (v1).toNatClampNeg)) H locs ls hE (lv_sub hl [1, 0] rfl) h
  unfold P_Mod_giveRow at h
  refine lv_iconst (v := 0) hx hb d_Mod_giveRow_0 (by decide) ?_
  refine lv_istore_n (lv' := [(1, .int (0 : Int32)), (0, .ref h_this)]) hx hb d_Mod_giveRow_1 rfl hl (by decide) rfl (fun ls hl => ?_)
  exact hL2 n_this_size fu (0 : Int32) f_this_result H locs ls hE (lv_sub hl [1, 0] rfl) h
abbrev rm_Mod_mapText : Room := { frames := 3, cells := 0, slots := 0, locals := 64 }
theorem cf_Mod_mapText : hn_CF y_Mod_mapText b_Mod_mapText 7 (some .boolean) 1 := ⟨mw_563, mw_7, by decide, by decide, by decide +kernel⟩
set_option maxHeartbeats 4000000 in
set_option maxRecDepth 100000 in
theorem c_Mod_mapText (l : Launch) (D : va_G) (cI cZ : ClassId) (tt : Nat → Nat) (h_this h_this_text h_this_result h_this_row h_this_other h_this_starts h_this_sizes h_this_rules h_this_tagged h_this_pool h_this_placed : Nat) (sz : Nat) (n_this_textSize : Int32) (n_this_size : Int32) (n_this_rowSize : Int32) (n_this_count : Int32) (n_this_poolSize : Int32) (n_this_whole : Int32) (n_this_bias : Int32) (f_this_text : Nat → Int32) (f_this_result : Nat → Int32) (f_this_row : Nat → Int32) (f_this_other : Nat → Int32) (f_this_starts : Nat → Int32) (f_this_sizes : Nat → Int32) (f_this_rules : Nat → Int32) (f_this_tagged : Nat → Int32) (f_this_pool : Nat → Int32) (f_this_placed : Nat → Int32) (a1 : Int32) (o : Int32 × Int32 × (Nat → Int32)) (h : P_Mod_mapText n_this_textSize f_this_text f_this_row a1 = some o) : Met l y_Mod_mapText (hn_w y_Mod_mapText b_Mod_mapText 7 (some .boolean)) rm_Mod_mapText (hn_Pc D (TY cI cZ) tt [.ref h_this, .int a1] sz [(h_this, .inr (6, [.int n_this_textSize, .ref h_this_text, .int n_this_size, .ref h_this_result, .int n_this_rowSize, .ref h_this_row, .ref h_this_other, .int n_this_count, .ref h_this_starts, .ref h_this_sizes, .ref h_this_rules, .ref h_this_tagged, .int n_this_poolSize, .ref h_this_pool, .int n_this_whole, .ref h_this_placed, .int n_this_bias])), (h_this_text, .inl (cI, 48, .inl f_this_text)), (h_this_result, .inl (cI, 2000, .inl f_this_result)), (h_this_row, .inl (cI, 200, .inl f_this_row)), (h_this_other, .inl (cI, 200, .inl f_this_other)), (h_this_starts, .inl (cI, 50, .inl f_this_starts)), (h_this_sizes, .inl (cI, 50, .inl f_this_sizes)), (h_this_rules, .inl (cI, 50, .inl f_this_rules)), (h_this_tagged, .inl (cZ, 50, .inl f_this_tagged)), (h_this_pool, .inl (cI, 300, .inl f_this_pool)), (h_this_placed, .inl (cZ, 200, .inl f_this_placed))]) (hn_Qz D [(h_this, .inr (6, [.int n_this_textSize, .ref h_this_text, .int n_this_size, .ref h_this_result, .int n_this_rowSize, .ref h_this_row, .ref h_this_other, .int n_this_count, .ref h_this_starts, .ref h_this_sizes, .ref h_this_rules, .ref h_this_tagged, .int n_this_poolSize, .ref h_this_pool, .int n_this_whole, .ref h_this_placed, .int n_this_bias])), (h_this_text, .inl (cI, 48, .inl f_this_text)), (h_this_result, .inl (cI, 2000, .inl f_this_result)), (h_this_row, .inl (cI, 200, .inl f_this_row)), (h_this_other, .inl (cI, 200, .inl f_this_other)), (h_this_starts, .inl (cI, 50, .inl f_this_starts)), (h_this_sizes, .inl (cI, 50, .inl f_this_sizes)), (h_this_rules, .inl (cI, 50, .inl f_this_rules)), (h_this_tagged, .inl (cZ, 50, .inl f_this_tagged)), (h_this_pool, .inl (cI, 300, .inl f_this_pool)), (h_this_placed, .inl (cZ, 200, .inl f_this_placed))] sz [(h_this, .inr (6, [.int n_this_textSize, .ref h_this_text, .int n_this_size, .ref h_this_result, .int o.2.1, .ref h_this_row, .ref h_this_other, .int n_this_count, .ref h_this_starts, .ref h_this_sizes, .ref h_this_rules, .ref h_this_tagged, .int n_this_poolSize, .ref h_this_pool, .int n_this_whole, .ref h_this_placed, .int n_this_bias])), (h_this_text, .inl (cI, 48, .inl f_this_text)), (h_this_result, .inl (cI, 2000, .inl f_this_result)), (h_this_row, .inl (cI, 200, .inl o.2.2)), (h_this_other, .inl (cI, 200, .inl f_this_other)), (h_this_starts, .inl (cI, 50, .inl f_this_starts)), (h_this_sizes, .inl (cI, 50, .inl f_this_sizes)), (h_this_rules, .inl (cI, 50, .inl f_this_rules)), (h_this_tagged, .inl (cZ, 50, .inl f_this_tagged)), (h_this_pool, .inl (cI, 300, .inl f_this_pool)), (h_this_placed, .inl (cZ, 200, .inl f_this_placed))] o.1) 0 0 (va_A [(h_this, .inr (6, [.int n_this_textSize, .ref h_this_text, .int n_this_size, .ref h_this_result, .int n_this_rowSize, .ref h_this_row, .ref h_this_other, .int n_this_count, .ref h_this_starts, .ref h_this_sizes, .ref h_this_rules, .ref h_this_tagged, .int n_this_poolSize, .ref h_this_pool, .int n_this_whole, .ref h_this_placed, .int n_this_bias])), (h_this_text, .inl (cI, 48, .inl f_this_text)), (h_this_result, .inl (cI, 2000, .inl f_this_result)), (h_this_row, .inl (cI, 200, .inl f_this_row)), (h_this_other, .inl (cI, 200, .inl f_this_other)), (h_this_starts, .inl (cI, 50, .inl f_this_starts)), (h_this_sizes, .inl (cI, 50, .inl f_this_sizes)), (h_this_rules, .inl (cI, 50, .inl f_this_rules)), (h_this_tagged, .inl (cZ, 50, .inl f_this_tagged)), (h_this_pool, .inl (cI, 300, .inl f_this_pool)), (h_this_placed, .inl (cZ, 200, .inl f_this_placed))] sz) := by
  refine hn_ofWz (own := R_Mod) (by decide) rfl (Nat.le_of_ble_eq_true rfl) ?_
  intro p e s m args below meth c A H locs ls Q S hE hl hret
  have hx := S.1
  have hb := S.2.1
  have hown := S.2.2.2.1
  have hl : lv_has ls 7 [(0, .ref h_this), (1, .int a1)] := hl
  have hL9 : ∀ (kf : Nat) (v2 : Int32) (v3 : Int32) (n_this_rowSize : Int32) (f_this_row : Nat → Int32) (H : Heap) (locs : List Loc) (ls : Array Slot), hn_E D (TY cI cZ) tt A s H locs [(h_this, .inr (6, [.int n_this_textSize, .ref h_this_text, .int n_this_size, .ref h_this_result, .int n_this_rowSize, .ref h_this_row, .ref h_this_other, .int n_this_count, .ref h_this_starts, .ref h_this_sizes, .ref h_this_rules, .ref h_this_tagged, .int n_this_poolSize, .ref h_this_pool, .int n_this_whole, .ref h_this_placed, .int n_this_bias])), (h_this_text, .inl (cI, 48, .inl f_this_text)), (h_this_result, .inl (cI, 2000, .inl f_this_result)), (h_this_row, .inl (cI, 200, .inl f_this_row)), (h_this_other, .inl (cI, 200, .inl f_this_other)), (h_this_starts, .inl (cI, 50, .inl f_this_starts)), (h_this_sizes, .inl (cI, 50, .inl f_this_sizes)), (h_this_rules, .inl (cI, 50, .inl f_this_rules)), (h_this_tagged, .inl (cZ, 50, .inl f_this_tagged)), (h_this_pool, .inl (cI, 300, .inl f_this_pool)), (h_this_placed, .inl (cZ, 200, .inl f_this_placed))] → lv_has ls 7 [(0, .ref h_this), (1, .int a1), (2, .int v2), (3, .int v3)] → fl4 (P_Mod_mapText_9 n_this_textSize f_this_text a1) kf v2 v3 n_this_rowSize f_this_row = some o → W p l e rm_Mod_mapText s m args below meth c H locs 0 0 Q (F0 m 9 ls []) := by
    intro kf
    induction kf with
    | zero => intro v2 v3 n_this_rowSize f_this_row H locs ls hE hl h; exact no_s h
    | succ kf ih =>
      intro v2 v3 n_this_rowSize f_this_row H locs ls hE hl h
      have h : P_Mod_mapText_9 n_this_textSize f_this_text a1 (fl4 (P_Mod_mapText_9 n_this_textSize f_this_text a1) kf) v2 v3 n_this_rowSize f_this_row = some o := h
      generalize fl4 (P_Mod_mapText_9 n_this_textSize f_this_text a1) kf = k9 at ih h
      have hk9 := ih
      have hj185 : ∀ (v3 : Int32) (v4 : Int32) (n_this_rowSize : Int32) (f_this_row : Nat → Int32) (H : Heap) (locs : List Loc) (ls : Array Slot), hn_E D (TY cI cZ) tt A s H locs [(h_this, .inr (6, [.int n_this_textSize, .ref h_this_text, .int n_this_size, .ref h_this_result, .int n_this_rowSize, .ref h_this_row, .ref h_this_other, .int n_this_count, .ref h_this_starts, .ref h_this_sizes, .ref h_this_rules, .ref h_this_tagged, .int n_this_poolSize, .ref h_this_pool, .int n_this_whole, .ref h_this_placed, .int n_this_bias])), (h_this_text, .inl (cI, 48, .inl f_this_text)), (h_this_result, .inl (cI, 2000, .inl f_this_result)), (h_this_row, .inl (cI, 200, .inl f_this_row)), (h_this_other, .inl (cI, 200, .inl f_this_other)), (h_this_starts, .inl (cI, 50, .inl f_this_starts)), (h_this_sizes, .inl (cI, 50, .inl f_this_sizes)), (h_this_rules, .inl (cI, 50, .inl f_this_rules)), (h_this_tagged, .inl (cZ, 50, .inl f_this_tagged)), (h_this_pool, .inl (cI, 300, .inl f_this_pool)), (h_this_placed, .inl (cZ, 200, .inl f_this_placed))] → lv_has ls 7 [(0, .ref h_this), (1, .int a1), (3, .int v3), (4, .int v4)] → P_Mod_mapText_185 k9 v3 v4 n_this_rowSize f_this_row = some o → W p l e rm_Mod_mapText s m args below meth c H locs 0 0 Q (F0 m 185 ls []) := by
        intro v3 v4 n_this_rowSize f_this_row H locs ls hE hl h
        unfold P_Mod_mapText_185 at h
        refine lv_iload hx hb d_Mod_mapText_185 (lv_at hl 3 rfl) ?_
        obtain ⟨x187, hc187, h⟩ := bd_s h
        have hM := (c_Mod_isPlain l D cI cZ tt H.size v4 x187 hc187)
        refine hn_cz hE (hn_runS (As := [.int v4]) (rest := []) S hE hM cf_Mod_isPlain mw_580 mw_581 ⟨rfl, rfl⟩ ⟨Nat.le_of_ble_eq_true rfl, Nat.le_of_ble_eq_true rfl⟩ [] rfl rfl rfl rfl hl.1 (lv_room (Nat.le_of_ble_eq_true rfl)) d_Mod_mapText_187 ⟨Nat.zero_le _, Nat.zero_le _⟩) [] rfl rfl (fun H locs hz187 hE => ?_)
        have hE : hn_E D (TY cI cZ) tt A s H locs [(h_this, .inr (6, [.int n_this_textSize, .ref h_this_text, .int n_this_size, .ref h_this_result, .int n_this_rowSize, .ref h_this_row, .ref h_this_other, .int n_this_count, .ref h_this_starts, .ref h_this_sizes, .ref h_this_rules, .ref h_this_tagged, .int n_this_poolSize, .ref h_this_pool, .int n_this_whole, .ref h_this_placed, .int n_this_bias])), (h_this_text, .inl (cI, 48, .inl f_this_text)), (h_this_result, .inl (cI, 2000, .inl f_this_result)), (h_this_row, .inl (cI, 200, .inl f_this_row)), (h_this_other, .inl (cI, 200, .inl f_this_other)), (h_this_starts, .inl (cI, 50, .inl f_this_starts)), (h_this_sizes, .inl (cI, 50, .inl f_this_sizes)), (h_this_rules, .inl (cI, 50, .inl f_this_rules)), (h_this_tagged, .inl (cZ, 50, .inl f_this_tagged)), (h_this_pool, .inl (cI, 300, .inl f_this_pool)), (h_this_placed, .inl (cZ, 200, .inl f_this_placed))] := hE
        refine lv_if_ne (tgt := 213) hx hb d_Mod_mapText_190 (by decide) (fun hc => ?_) (fun hc => ?_)
        · have h := ite_f hc h
          refine lv_iconst (v := 0) hx hb d_Mod_mapText_213 (by decide) ?_
          refine lv_istore_n (lv' := [(2, .int (0 : Int32)), (0, .ref h_this), (1, .int a1), (3, .int v3), (4, .int v4)]) hx hb d_Mod_mapText_214 rfl hl (by decide) rfl (fun ls hl => ?_)
          refine lv_iinc (v := (v3 + (1 : Int32))) (lv' := [(3, .int (v3 + (1 : Int32))), (2, .int (0 : Int32)), (0, .ref h_this), (1, .int a1), (4, .int v4)]) hx hb d_Mod_mapText_215 hl (k := 3) rfl rfl (by decide) rfl (fun ls hl => ?_)
          refine lv_goto (tgt := 9) hx hb d_Mod_mapText_218 (by decide) ?_
          exact hk9 (0 : Int32) (v3 + (1 : Int32)) n_this_rowSize f_this_row H locs ls hE (lv_sub hl [2, 3, 1, 0] rfl) h
        · have h := ite_t hc h
          refine lv_iload hx hb d_Mod_mapText_193 (lv_at hl 3 rfl) ?_
          obtain ⟨x195, hc195, h⟩ := bd_s h
          have hM := (c_Mod_isGood l D cI cZ tt H.size v4 x195 hc195)
          refine hn_cz hE (hn_runS (As := [.int v4]) (rest := []) S hE hM cf_Mod_isGood mw_583 mw_584 ⟨rfl, rfl⟩ ⟨Nat.le_of_ble_eq_true rfl, Nat.le_of_ble_eq_true rfl⟩ [] rfl rfl rfl rfl hl.1 (lv_room (Nat.le_of_ble_eq_true rfl)) d_Mod_mapText_195 ⟨Nat.zero_le _, Nat.zero_le _⟩) [] rfl rfl (fun H locs hz195 hE => ?_)
          have hE : hn_E D (TY cI cZ) tt A s H locs [(h_this, .inr (6, [.int n_this_textSize, .ref h_this_text, .int n_this_size, .ref h_this_result, .int n_this_rowSize, .ref h_this_row, .ref h_this_other, .int n_this_count, .ref h_this_starts, .ref h_this_sizes, .ref h_this_rules, .ref h_this_tagged, .int n_this_poolSize, .ref h_this_pool, .int n_this_whole, .ref h_this_placed, .int n_this_bias])), (h_this_text, .inl (cI, 48, .inl f_this_text)), (h_this_result, .inl (cI, 2000, .inl f_this_result)), (h_this_row, .inl (cI, 200, .inl f_this_row)), (h_this_other, .inl (cI, 200, .inl f_this_other)), (h_this_starts, .inl (cI, 50, .inl f_this_starts)), (h_this_sizes, .inl (cI, 50, .inl f_this_sizes)), (h_this_rules, .inl (cI, 50, .inl f_this_rules)), (h_this_tagged, .inl (cZ, 50, .inl f_this_tagged)), (h_this_pool, .inl (cI, 300, .inl f_this_pool)), (h_this_placed, .inl (cZ, 200, .inl f_this_placed))] := hE
          refine lv_if_ne (tgt := 213) hx hb d_Mod_mapText_198 (by decide) (fun hc => ?_) (fun hc => ?_)
          · have h := ite_f hc h
            refine lv_iconst (v := 0) hx hb d_Mod_mapText_213 (by decide) ?_
            refine lv_istore_n (lv' := [(2, .int (0 : Int32)), (0, .ref h_this), (1, .int a1), (3, .int v3), (4, .int v4)]) hx hb d_Mod_mapText_214 rfl hl (by decide) rfl (fun ls hl => ?_)
            refine lv_iinc (v := (v3 + (1 : Int32))) (lv' := [(3, .int (v3 + (1 : Int32))), (2, .int (0 : Int32)), (0, .ref h_this), (1, .int a1), (4, .int v4)]) hx hb d_Mod_mapText_215 hl (k := 3) rfl rfl (by decide) rfl (fun ls hl => ?_)
            refine lv_goto (tgt := 9) hx hb d_Mod_mapText_218 (by decide) ?_
            exact hk9 (0 : Int32) (v3 + (1 : Int32)) n_this_rowSize f_this_row H locs ls hE (lv_sub hl [2, 3, 1, 0] rfl) h
          · have h := ite_t hc h
            refine lv_iload hx hb d_Mod_mapText_201 (lv_at hl 3 rfl) ?_
            obtain ⟨x203, hc203, h⟩ := bd_s h
            have hM := (c_Mod_isOdd l D cI cZ tt H.size v4 x203 hc203)
            refine hn_cz hE (hn_runS (As := [.int v4]) (rest := []) S hE hM cf_Mod_isOdd mw_564 mw_565 ⟨rfl, rfl⟩ ⟨Nat.le_of_ble_eq_true rfl, Nat.le_of_ble_eq_true rfl⟩ [] rfl rfl rfl rfl hl.1 (lv_room (Nat.le_of_ble_eq_true rfl)) d_Mod_mapText_203 ⟨Nat.zero_le _, Nat.zero_le _⟩) [] rfl rfl (fun H locs hz203 hE => ?_)
            have hE : hn_E D (TY cI cZ) tt A s H locs [(h_this, .inr (6, [.int n_this_textSize, .ref h_this_text, .int n_this_size, .ref h_this_result, .int n_this_rowSize, .ref h_this_row, .ref h_this_other, .int n_this_count, .ref h_this_starts, .ref h_this_sizes, .ref h_this_rules, .ref h_this_tagged, .int n_this_poolSize, .ref h_this_pool, .int n_this_whole, .ref h_this_placed, .int n_this_bias])), (h_this_text, .inl (cI, 48, .inl f_this_text)), (h_this_result, .inl (cI, 2000, .inl f_this_result)), (h_this_row, .inl (cI, 200, .inl f_this_row)), (h_this_other, .inl (cI, 200, .inl f_this_other)), (h_this_starts, .inl (cI, 50, .inl f_this_starts)), (h_this_sizes, .inl (cI, 50, .inl f_this_sizes)), (h_this_rules, .inl (cI, 50, .inl f_this_rules)), (h_this_tagged, .inl (cZ, 50, .inl f_this_tagged)), (h_this_pool, .inl (cI, 300, .inl f_this_pool)), (h_this_placed, .inl (cZ, 200, .inl f_this_placed))] := hE
            refine lv_if_ne (tgt := 213) hx hb d_Mod_mapText_206 (by decide) (fun hc => ?_) (fun hc => ?_)
            · have h := ite_f hc h
              refine lv_iconst (v := 0) hx hb d_Mod_mapText_213 (by decide) ?_
              refine lv_istore_n (lv' := [(2, .int (0 : Int32)), (0, .ref h_this), (1, .int a1), (3, .int v3), (4, .int v4)]) hx hb d_Mod_mapText_214 rfl hl (by decide) rfl (fun ls hl => ?_)
              refine lv_iinc (v := (v3 + (1 : Int32))) (lv' := [(3, .int (v3 + (1 : Int32))), (2, .int (0 : Int32)), (0, .ref h_this), (1, .int a1), (4, .int v4)]) hx hb d_Mod_mapText_215 hl (k := 3) rfl rfl (by decide) rfl (fun ls hl => ?_)
              refine lv_goto (tgt := 9) hx hb d_Mod_mapText_218 (by decide) ?_
              exact hk9 (0 : Int32) (v3 + (1 : Int32)) n_this_rowSize f_this_row H locs ls hE (lv_sub hl [2, 3, 1, 0] rfl) h
            · have h := ite_t hc h
              refine lv_iconst (v := 1) hx hb d_Mod_mapText_209 (by decide) ?_
              refine lv_goto (tgt := 214) hx hb d_Mod_mapText_210 (by decide) ?_
              refine lv_istore_n (lv' := [(2, .int (1 : Int32)), (0, .ref h_this), (1, .int a1), (3, .int v3), (4, .int v4)]) hx hb d_Mod_mapText_214 rfl hl (by decide) rfl (fun ls hl => ?_)
              refine lv_iinc (v := (v3 + (1 : Int32))) (lv' := [(3, .int (v3 + (1 : Int32))), (2, .int (1 : Int32)), (0, .ref h_this), (1, .int a1), (4, .int v4)]) hx hb d_Mod_mapText_215 hl (k := 3) rfl rfl (by decide) rfl (fun ls hl => ?_)
              refine lv_goto (tgt := 9) hx hb d_Mod_mapText_218 (by decide) ?_
              exact hk9 (1 : Int32) (v3 + (1 : Int32)) n_this_rowSize f_this_row H locs ls hE (lv_sub hl [2, 3, 1, 0] rfl) h
      have hj106 : ∀ (v2 : Int32) (v3 : Int32) (v4 : Int32) (v5 : Int32) (v6 : Int32) (n_this_rowSize : Int32) (f_this_row : Nat → Int32) (H : Heap) (locs : List Loc) (ls : Array Slot), hn_E D (TY cI cZ) tt A s H locs [(h_this, .inr (6, [.int n_this_textSize, .ref h_this_text, .int n_this_size, .ref h_this_result, .int n_this_rowSize, .ref h_this_row, .ref h_this_other, .int n_this_count, .ref h_this_starts, .ref h_this_sizes, .ref h_this_rules, .ref h_this_tagged, .int n_this_poolSize, .ref h_this_pool, .int n_this_whole, .ref h_this_placed, .int n_this_bias])), (h_this_text, .inl (cI, 48, .inl f_this_text)), (h_this_result, .inl (cI, 2000, .inl f_this_result)), (h_this_row, .inl (cI, 200, .inl f_this_row)), (h_this_other, .inl (cI, 200, .inl f_this_other)), (h_this_starts, .inl (cI, 50, .inl f_this_starts)), (h_this_sizes, .inl (cI, 50, .inl f_this_sizes)), (h_this_rules, .inl (cI, 50, .inl f_this_rules)), (h_this_tagged, .inl (cZ, 50, .inl f_this_tagged)), (h_this_pool, .inl (cI, 300, .inl f_this_pool)), (h_this_placed, .inl (cZ, 200, .inl f_this_placed))] → lv_has ls 7 [(0, .ref h_this), (1, .int a1), (2, .int v2), (3, .int v3), (4, .int v4), (5, .int v5), (6, .int v6)] → P_Mod_mapText_106 a1 k9 v2 v3 v4 v5 v6 n_this_rowSize f_this_row = some o → W p l e rm_Mod_mapText s m args below meth c H locs 0 0 Q (F0 m 106 ls []) := by
        intro v2 v3 v4 v5 v6 n_this_rowSize f_this_row H locs ls hE hl h
        unfold P_Mod_mapText_106 at h
        refine lv_iload hx hb d_Mod_mapText_106 (lv_at hl 6 rfl) ?_
        refine lv_if_lt (tgt := 146) hx hb d_Mod_mapText_108 (by decide) (fun hc => ?_) (fun hc => ?_)
        · have h := ite_t hc h
          refine lv_iload hx hb d_Mod_mapText_146 (lv_at hl 5 rfl) ?_
          refine lv_if_ne (tgt := 215) hx hb d_Mod_mapText_148 (by decide) (fun hc => ?_) (fun hc => ?_)
          · have h := ite_f hc h
            refine lv_iinc (v := (v3 + (1 : Int32))) (lv' := [(3, .int (v3 + (1 : Int32))), (0, .ref h_this), (1, .int a1), (2, .int v2), (4, .int v4), (5, .int v5), (6, .int v6)]) hx hb d_Mod_mapText_215 hl (k := 3) rfl rfl (by decide) rfl (fun ls hl => ?_)
            refine lv_goto (tgt := 9) hx hb d_Mod_mapText_218 (by decide) ?_
            exact hk9 v2 (v3 + (1 : Int32)) n_this_rowSize f_this_row H locs ls hE (lv_sub hl [1, 2, 3, 0] rfl) h
          · have h := ite_t hc h
            refine lv_iload hx hb d_Mod_mapText_151 (lv_at hl 4 rfl) ?_
            refine lv_sipush (v := 173) hx hb d_Mod_mapText_153 (by decide) ?_
            refine lv_icmp_eq (tgt := 215) hx hb d_Mod_mapText_156 (by decide) (fun hc => ?_) (fun hc => ?_)
            · have h := ite_t hc h
              refine lv_iinc (v := (v3 + (1 : Int32))) (lv' := [(3, .int (v3 + (1 : Int32))), (0, .ref h_this), (1, .int a1), (2, .int v2), (4, .int v4), (5, .int v5), (6, .int v6)]) hx hb d_Mod_mapText_215 hl (k := 3) rfl rfl (by decide) rfl (fun ls hl => ?_)
              refine lv_goto (tgt := 9) hx hb d_Mod_mapText_218 (by decide) ?_
              exact hk9 v2 (v3 + (1 : Int32)) n_this_rowSize f_this_row H locs ls hE (lv_sub hl [1, 2, 3, 0] rfl) h
            · have h := ite_f hc h
              refine lv_aload_n hx hb d_Mod_mapText_159 rfl (lv_at hl 0 rfl) ?_
              refine lv_iload hx hb d_Mod_mapText_160 (lv_at hl 4 rfl) ?_
              obtain ⟨x162, hc162, h⟩ := bd_s h
              have hM := (c_Mod_add l D cI cZ tt h_this h_this_text h_this_result h_this_row h_this_other h_this_starts h_this_sizes h_this_rules h_this_tagged h_this_pool h_this_placed H.size n_this_textSize n_this_size n_this_rowSize n_this_count n_this_poolSize n_this_whole n_this_bias f_this_text f_this_result f_this_row f_this_other f_this_starts f_this_sizes f_this_rules f_this_tagged f_this_pool f_this_placed v4 x162 hc162)
              refine hn_cv hE (hn_runV (As := [.int v4]) (rest := []) S hE hM cf_Mod_add mw_576 mw_578 ms_19 ⟨rfl, rfl⟩ ⟨Nat.le_of_ble_eq_true rfl, Nat.le_of_ble_eq_true rfl⟩ [0, 1, 2, 3, 4, 5, 6, 7, 8, 9, 10] rfl rfl rfl rfl rfl rfl hl.1 (lv_room (Nat.le_of_ble_eq_true rfl)) d_Mod_mapText_162 ⟨Nat.zero_le _, Nat.zero_le _⟩) [0, 1, 2, 3, 4, 5, 6, 7, 8, 9, 10] rfl rfl (fun H locs hE => ?_)
              have hE : hn_E D (TY cI cZ) tt A s H locs [(h_this, .inr (6, [.int n_this_textSize, .ref h_this_text, .int n_this_size, .ref h_this_result, .int x162.1, .ref h_this_row, .ref h_this_other, .int n_this_count, .ref h_this_starts, .ref h_this_sizes, .ref h_this_rules, .ref h_this_tagged, .int n_this_poolSize, .ref h_this_pool, .int n_this_whole, .ref h_this_placed, .int n_this_bias])), (h_this_text, .inl (cI, 48, .inl f_this_text)), (h_this_result, .inl (cI, 2000, .inl f_this_result)), (h_this_row, .inl (cI, 200, .inl x162.2)), (h_this_other, .inl (cI, 200, .inl f_this_other)), (h_this_starts, .inl (cI, 50, .inl f_this_starts)), (h_this_sizes, .inl (cI, 50, .inl f_this_sizes)), (h_this_rules, .inl (cI, 50, .inl f_this_rules)), (h_this_tagged, .inl (cZ, 50, .inl f_this_tagged)), (h_this_pool, .inl (cI, 300, .inl f_this_pool)), (h_this_placed, .inl (cZ, 200, .inl f_this_placed))] := hE
              refine lv_iload_n hx hb d_Mod_mapText_165 rfl (lv_at hl 2 rfl) ?_
              refine lv_if_ne (tgt := 209) hx hb d_Mod_mapText_166 (by decide) (fun hc => ?_) (fun hc => ?_)
              · have h := ite_f hc h
                refine lv_iconst (v := 1) hx hb d_Mod_mapText_209 (by decide) ?_
                refine lv_goto (tgt := 214) hx hb d_Mod_mapText_210 (by decide) ?_
                refine lv_istore_n (lv' := [(2, .int (1 : Int32)), (0, .ref h_this), (1, .int a1), (3, .int v3), (4, .int v4), (5, .int v5), (6, .int v6)]) hx hb d_Mod_mapText_214 rfl hl (by decide) rfl (fun ls hl => ?_)
                refine lv_iinc (v := (v3 + (1 : Int32))) (lv' := [(3, .int (v3 + (1 : Int32))), (2, .int (1 : Int32)), (0, .ref h_this), (1, .int a1), (4, .int v4), (5, .int v5), (6, .int v6)]) hx hb d_Mod_mapText_215 hl (k := 3) rfl rfl (by decide) rfl (fun ls hl => ?_)
                refine lv_goto (tgt := 9) hx hb d_Mod_mapText_218 (by decide) ?_
                exact hk9 (1 : Int32) (v3 + (1 : Int32)) x162.1 x162.2 H locs ls hE (lv_sub hl [2, 3, 1, 0] rfl) h
              · have h := ite_t hc h
                refine lv_iload hx hb d_Mod_mapText_169 (lv_at hl 4 rfl) ?_
                obtain ⟨x171, hc171, h⟩ := bd_s h
                have hM := (c_Mod_isPlain l D cI cZ tt H.size v4 x171 hc171)
                refine hn_cz hE (hn_runS (As := [.int v4]) (rest := []) S hE hM cf_Mod_isPlain mw_580 mw_581 ⟨rfl, rfl⟩ ⟨Nat.le_of_ble_eq_true rfl, Nat.le_of_ble_eq_true rfl⟩ [] rfl rfl rfl rfl hl.1 (lv_room (Nat.le_of_ble_eq_true rfl)) d_Mod_mapText_171 ⟨Nat.zero_le _, Nat.zero_le _⟩) [] rfl rfl (fun H locs hz171 hE => ?_)
                have hE : hn_E D (TY cI cZ) tt A s H locs [(h_this, .inr (6, [.int n_this_textSize, .ref h_this_text, .int n_this_size, .ref h_this_result, .int x162.1, .ref h_this_row, .ref h_this_other, .int n_this_count, .ref h_this_starts, .ref h_this_sizes, .ref h_this_rules, .ref h_this_tagged, .int n_this_poolSize, .ref h_this_pool, .int n_this_whole, .ref h_this_placed, .int n_this_bias])), (h_this_text, .inl (cI, 48, .inl f_this_text)), (h_this_result, .inl (cI, 2000, .inl f_this_result)), (h_this_row, .inl (cI, 200, .inl x162.2)), (h_this_other, .inl (cI, 200, .inl f_this_other)), (h_this_starts, .inl (cI, 50, .inl f_this_starts)), (h_this_sizes, .inl (cI, 50, .inl f_this_sizes)), (h_this_rules, .inl (cI, 50, .inl f_this_rules)), (h_this_tagged, .inl (cZ, 50, .inl f_this_tagged)), (h_this_pool, .inl (cI, 300, .inl f_this_pool)), (h_this_placed, .inl (cZ, 200, .inl f_this_placed))] := hE
                refine lv_if_eq (tgt := 185) hx hb d_Mod_mapText_174 (by decide) (fun hc => ?_) (fun hc => ?_)
                · have h := ite_t hc h
                  exact hj185 v3 v4 x162.1 x162.2 H locs ls hE (lv_sub hl [0, 1, 3, 4] rfl) h
                · have h := ite_f hc h
                  refine lv_iload_n hx hb d_Mod_mapText_177 rfl (lv_at hl 1 rfl) ?_
                  refine lv_iconst (v := 1) hx hb d_Mod_mapText_178 (by decide) ?_
                  obtain ⟨x179, hc179, h⟩ := bd_s h
                  have hM := (c_Mod_on l D cI cZ tt H.size a1 (1 : Int32) x179 hc179)
                  refine hn_cz hE (hn_runS (As := [.int a1, .int (1 : Int32)]) (rest := []) S hE hM cf_Mod_on mw_567 mw_568 ⟨rfl, rfl⟩ ⟨Nat.le_of_ble_eq_true rfl, Nat.le_of_ble_eq_true rfl⟩ [] rfl rfl rfl rfl hl.1 (lv_room (Nat.le_of_ble_eq_true rfl)) d_Mod_mapText_179 ⟨Nat.zero_le _, Nat.zero_le _⟩) [] rfl rfl (fun H locs hz179 hE => ?_)
                  have hE : hn_E D (TY cI cZ) tt A s H locs [(h_this, .inr (6, [.int n_this_textSize, .ref h_this_text, .int n_this_size, .ref h_this_result, .int x162.1, .ref h_this_row, .ref h_this_other, .int n_this_count, .ref h_this_starts, .ref h_this_sizes, .ref h_this_rules, .ref h_this_tagged, .int n_this_poolSize, .ref h_this_pool, .int n_this_whole, .ref h_this_placed, .int n_this_bias])), (h_this_text, .inl (cI, 48, .inl f_this_text)), (h_this_result, .inl (cI, 2000, .inl f_this_result)), (h_this_row, .inl (cI, 200, .inl x162.2)), (h_this_other, .inl (cI, 200, .inl f_this_other)), (h_this_starts, .inl (cI, 50, .inl f_this_starts)), (h_this_sizes, .inl (cI, 50, .inl f_this_sizes)), (h_this_rules, .inl (cI, 50, .inl f_this_rules)), (h_this_tagged, .inl (cZ, 50, .inl f_this_tagged)), (h_this_pool, .inl (cI, 300, .inl f_this_pool)), (h_this_placed, .inl (cZ, 200, .inl f_this_placed))] := hE
                  refine lv_if_ne (tgt := 209) hx hb d_Mod_mapText_182 (by decide) (fun hc => ?_) (fun hc => ?_)
                  · have h := ite_f hc h
                    refine lv_iconst (v := 1) hx hb d_Mod_mapText_209 (by decide) ?_
                    refine lv_goto (tgt := 214) hx hb d_Mod_mapText_210 (by decide) ?_
                    refine lv_istore_n (lv' := [(2, .int (1 : Int32)), (0, .ref h_this), (1, .int a1), (3, .int v3), (4, .int v4), (5, .int v5), (6, .int v6)]) hx hb d_Mod_mapText_214 rfl hl (by decide) rfl (fun ls hl => ?_)
                    refine lv_iinc (v := (v3 + (1 : Int32))) (lv' := [(3, .int (v3 + (1 : Int32))), (2, .int (1 : Int32)), (0, .ref h_this), (1, .int a1), (4, .int v4), (5, .int v5), (6, .int v6)]) hx hb d_Mod_mapText_215 hl (k := 3) rfl rfl (by decide) rfl (fun ls hl => ?_)
                    refine lv_goto (tgt := 9) hx hb d_Mod_mapText_218 (by decide) ?_
                    exact hk9 (1 : Int32) (v3 + (1 : Int32)) x162.1 x162.2 H locs ls hE (lv_sub hl [2, 3, 1, 0] rfl) h
                  · have h := ite_t hc h
                    exact hj185 v3 v4 x162.1 x162.2 H locs ls hE (lv_sub hl [0, 1, 3, 4] rfl) h
        · have h := ite_f hc h
          refine lv_aload_n hx hb d_Mod_mapText_111 rfl (lv_at hl 0 rfl) ?_
          refine lv_iload hx hb d_Mod_mapText_112 (lv_at hl 6 rfl) ?_
          obtain ⟨x114, hc114, h⟩ := bd_s h
          have hM := (c_Mod_add l D cI cZ tt h_this h_this_text h_this_result h_this_row h_this_other h_this_starts h_this_sizes h_this_rules h_this_tagged h_this_pool h_this_placed H.size n_this_textSize n_this_size n_this_rowSize n_this_count n_this_poolSize n_this_whole n_this_bias f_this_text f_this_result f_this_row f_this_other f_this_starts f_this_sizes f_this_rules f_this_tagged f_this_pool f_this_placed v6 x114 hc114)
          refine hn_cv hE (hn_runV (As := [.int v6]) (rest := []) S hE hM cf_Mod_add mw_576 mw_578 ms_19 ⟨rfl, rfl⟩ ⟨Nat.le_of_ble_eq_true rfl, Nat.le_of_ble_eq_true rfl⟩ [0, 1, 2, 3, 4, 5, 6, 7, 8, 9, 10] rfl rfl rfl rfl rfl rfl hl.1 (lv_room (Nat.le_of_ble_eq_true rfl)) d_Mod_mapText_114 ⟨Nat.zero_le _, Nat.zero_le _⟩) [0, 1, 2, 3, 4, 5, 6, 7, 8, 9, 10] rfl rfl (fun H locs hE => ?_)
          have hE : hn_E D (TY cI cZ) tt A s H locs [(h_this, .inr (6, [.int n_this_textSize, .ref h_this_text, .int n_this_size, .ref h_this_result, .int x114.1, .ref h_this_row, .ref h_this_other, .int n_this_count, .ref h_this_starts, .ref h_this_sizes, .ref h_this_rules, .ref h_this_tagged, .int n_this_poolSize, .ref h_this_pool, .int n_this_whole, .ref h_this_placed, .int n_this_bias])), (h_this_text, .inl (cI, 48, .inl f_this_text)), (h_this_result, .inl (cI, 2000, .inl f_this_result)), (h_this_row, .inl (cI, 200, .inl x114.2)), (h_this_other, .inl (cI, 200, .inl f_this_other)), (h_this_starts, .inl (cI, 50, .inl f_this_starts)), (h_this_sizes, .inl (cI, 50, .inl f_this_sizes)), (h_this_rules, .inl (cI, 50, .inl f_this_rules)), (h_this_tagged, .inl (cZ, 50, .inl f_this_tagged)), (h_this_pool, .inl (cI, 300, .inl f_this_pool)), (h_this_placed, .inl (cZ, 200, .inl f_this_placed))] := hE
          refine lv_iload_n hx hb d_Mod_mapText_117 rfl (lv_at hl 2 rfl) ?_
          refine lv_if_ne (tgt := 137) hx hb d_Mod_mapText_118 (by decide) (fun hc => ?_) (fun hc => ?_)
          · have h := ite_f hc h
            refine lv_iconst (v := 1) hx hb d_Mod_mapText_137 (by decide) ?_
            refine lv_goto (tgt := 142) hx hb d_Mod_mapText_138 (by decide) ?_
            refine lv_istore_n (lv' := [(2, .int (1 : Int32)), (0, .ref h_this), (1, .int a1), (3, .int v3), (4, .int v4), (5, .int v5), (6, .int v6)]) hx hb d_Mod_mapText_142 rfl hl (by decide) rfl (fun ls hl => ?_)
            refine lv_goto (tgt := 215) hx hb d_Mod_mapText_143 (by decide) ?_
            refine lv_iinc (v := (v3 + (1 : Int32))) (lv' := [(3, .int (v3 + (1 : Int32))), (2, .int (1 : Int32)), (0, .ref h_this), (1, .int a1), (4, .int v4), (5, .int v5), (6, .int v6)]) hx hb d_Mod_mapText_215 hl (k := 3) rfl rfl (by decide) rfl (fun ls hl => ?_)
            refine lv_goto (tgt := 9) hx hb d_Mod_mapText_218 (by decide) ?_
            exact hk9 (1 : Int32) (v3 + (1 : Int32)) x114.1 x114.2 H locs ls hE (lv_sub hl [2, 3, 1, 0] rfl) h
          · have h := ite_t hc h
            refine lv_iload hx hb d_Mod_mapText_121 (lv_at hl 6 rfl) ?_
            obtain ⟨x123, hc123, h⟩ := bd_s h
            have hM := (c_Mod_isPlain l D cI cZ tt H.size v6 x123 hc123)
            refine hn_cz hE (hn_runS (As := [.int v6]) (rest := []) S hE hM cf_Mod_isPlain mw_580 mw_581 ⟨rfl, rfl⟩ ⟨Nat.le_of_ble_eq_true rfl, Nat.le_of_ble_eq_true rfl⟩ [] rfl rfl rfl rfl hl.1 (lv_room (Nat.le_of_ble_eq_true rfl)) d_Mod_mapText_123 ⟨Nat.zero_le _, Nat.zero_le _⟩) [] rfl rfl (fun H locs hz123 hE => ?_)
            have hE : hn_E D (TY cI cZ) tt A s H locs [(h_this, .inr (6, [.int n_this_textSize, .ref h_this_text, .int n_this_size, .ref h_this_result, .int x114.1, .ref h_this_row, .ref h_this_other, .int n_this_count, .ref h_this_starts, .ref h_this_sizes, .ref h_this_rules, .ref h_this_tagged, .int n_this_poolSize, .ref h_this_pool, .int n_this_whole, .ref h_this_placed, .int n_this_bias])), (h_this_text, .inl (cI, 48, .inl f_this_text)), (h_this_result, .inl (cI, 2000, .inl f_this_result)), (h_this_row, .inl (cI, 200, .inl x114.2)), (h_this_other, .inl (cI, 200, .inl f_this_other)), (h_this_starts, .inl (cI, 50, .inl f_this_starts)), (h_this_sizes, .inl (cI, 50, .inl f_this_sizes)), (h_this_rules, .inl (cI, 50, .inl f_this_rules)), (h_this_tagged, .inl (cZ, 50, .inl f_this_tagged)), (h_this_pool, .inl (cI, 300, .inl f_this_pool)), (h_this_placed, .inl (cZ, 200, .inl f_this_placed))] := hE
            refine lv_if_eq (tgt := 141) hx hb d_Mod_mapText_126 (by decide) (fun hc => ?_) (fun hc => ?_)
            · have h := ite_t hc h
              refine lv_iconst (v := 0) hx hb d_Mod_mapText_141 (by decide) ?_
              refine lv_istore_n (lv' := [(2, .int (0 : Int32)), (0, .ref h_this), (1, .int a1), (3, .int v3), (4, .int v4), (5, .int v5), (6, .int v6)]) hx hb d_Mod_mapText_142 rfl hl (by decide) rfl (fun ls hl => ?_)
              refine lv_goto (tgt := 215) hx hb d_Mod_mapText_143 (by decide) ?_
              refine lv_iinc (v := (v3 + (1 : Int32))) (lv' := [(3, .int (v3 + (1 : Int32))), (2, .int (0 : Int32)), (0, .ref h_this), (1, .int a1), (4, .int v4), (5, .int v5), (6, .int v6)]) hx hb d_Mod_mapText_215 hl (k := 3) rfl rfl (by decide) rfl (fun ls hl => ?_)
              refine lv_goto (tgt := 9) hx hb d_Mod_mapText_218 (by decide) ?_
              exact hk9 (0 : Int32) (v3 + (1 : Int32)) x114.1 x114.2 H locs ls hE (lv_sub hl [2, 3, 1, 0] rfl) h
            · have h := ite_f hc h
              refine lv_iload_n hx hb d_Mod_mapText_129 rfl (lv_at hl 1 rfl) ?_
              refine lv_iconst (v := 1) hx hb d_Mod_mapText_130 (by decide) ?_
              obtain ⟨x131, hc131, h⟩ := bd_s h
              have hM := (c_Mod_on l D cI cZ tt H.size a1 (1 : Int32) x131 hc131)
              refine hn_cz hE (hn_runS (As := [.int a1, .int (1 : Int32)]) (rest := []) S hE hM cf_Mod_on mw_567 mw_568 ⟨rfl, rfl⟩ ⟨Nat.le_of_ble_eq_true rfl, Nat.le_of_ble_eq_true rfl⟩ [] rfl rfl rfl rfl hl.1 (lv_room (Nat.le_of_ble_eq_true rfl)) d_Mod_mapText_131 ⟨Nat.zero_le _, Nat.zero_le _⟩) [] rfl rfl (fun H locs hz131 hE => ?_)
              have hE : hn_E D (TY cI cZ) tt A s H locs [(h_this, .inr (6, [.int n_this_textSize, .ref h_this_text, .int n_this_size, .ref h_this_result, .int x114.1, .ref h_this_row, .ref h_this_other, .int n_this_count, .ref h_this_starts, .ref h_this_sizes, .ref h_this_rules, .ref h_this_tagged, .int n_this_poolSize, .ref h_this_pool, .int n_this_whole, .ref h_this_placed, .int n_this_bias])), (h_this_text, .inl (cI, 48, .inl f_this_text)), (h_this_result, .inl (cI, 2000, .inl f_this_result)), (h_this_row, .inl (cI, 200, .inl x114.2)), (h_this_other, .inl (cI, 200, .inl f_this_other)), (h_this_starts, .inl (cI, 50, .inl f_this_starts)), (h_this_sizes, .inl (cI, 50, .inl f_this_sizes)), (h_this_rules, .inl (cI, 50, .inl f_this_rules)), (h_this_tagged, .inl (cZ, 50, .inl f_this_tagged)), (h_this_pool, .inl (cI, 300, .inl f_this_pool)), (h_this_placed, .inl (cZ, 200, .inl f_this_placed))] := hE
              refine lv_if_eq (tgt := 141) hx hb d_Mod_mapText_134 (by decide) (fun hc => ?_) (fun hc => ?_)
              · have h := ite_t hc h
                refine lv_iconst (v := 0) hx hb d_Mod_mapText_141 (by decide) ?_
                refine lv_istore_n (lv' := [(2, .int (0 : Int32)), (0, .ref h_this), (1, .int a1), (3, .int v3), (4, .int v4), (5, .int v5), (6, .int v6)]) hx hb d_Mod_mapText_142 rfl hl (by decide) rfl (fun ls hl => ?_)
                refine lv_goto (tgt := 215) hx hb d_Mod_mapText_143 (by decide) ?_
                refine lv_iinc (v := (v3 + (1 : Int32))) (lv' := [(3, .int (v3 + (1 : Int32))), (2, .int (0 : Int32)), (0, .ref h_this), (1, .int a1), (4, .int v4), (5, .int v5), (6, .int v6)]) hx hb d_Mod_mapText_215 hl (k := 3) rfl rfl (by decide) rfl (fun ls hl => ?_)
                refine lv_goto (tgt := 9) hx hb d_Mod_mapText_218 (by decide) ?_
                exact hk9 (0 : Int32) (v3 + (1 : Int32)) x114.1 x114.2 H locs ls hE (lv_sub hl [2, 3, 1, 0] rfl) h
              · have h := ite_f hc h
                refine lv_iconst (v := 1) hx hb d_Mod_mapText_137 (by decide) ?_
                refine lv_goto (tgt := 142) hx hb d_Mod_mapText_138 (by decide) ?_
                refine lv_istore_n (lv' := [(2, .int (1 : Int32)), (0, .ref h_this), (1, .int a1), (3, .int v3), (4, .int v4), (5, .int v5), (6, .int v6)]) hx hb d_Mod_mapText_142 rfl hl (by decide) rfl (fun ls hl => ?_)
                refine lv_goto (tgt := 215) hx hb d_Mod_mapText_143 (by decide) ?_
                refine lv_iinc (v := (v3 + (1 : Int32))) (lv' := [(3, .int (v3 + (1 : Int32))), (2, .int (1 : Int32)), (0, .ref h_this), (1, .int a1), (4, .int v4), (5, .int v5), (6, .int v6)]) hx hb d_Mod_mapText_215 hl (k := 3) rfl rfl (by decide) rfl (fun ls hl => ?_)
                refine lv_goto (tgt := 9) hx hb d_Mod_mapText_218 (by decide) ?_
                exact hk9 (1 : Int32) (v3 + (1 : Int32)) x114.1 x114.2 H locs ls hE (lv_sub hl [2, 3, 1, 0] rfl) h
      have hj83 : ∀ (v2 : Int32) (v3 : Int32) (v4 : Int32) (v5 : Int32) (v6 : Int32) (n_this_rowSize : Int32) (f_this_row : Nat → Int32) (H : Heap) (locs : List Loc) (ls : Array Slot), hn_E D (TY cI cZ) tt A s H locs [(h_this, .inr (6, [.int n_this_textSize, .ref h_this_text, .int n_this_size, .ref h_this_result, .int n_this_rowSize, .ref h_this_row, .ref h_this_other, .int n_this_count, .ref h_this_starts, .ref h_this_sizes, .ref h_this_rules, .ref h_this_tagged, .int n_this_poolSize, .ref h_this_pool, .int n_this_whole, .ref h_this_placed, .int n_this_bias])), (h_this_text, .inl (cI, 48, .inl f_this_text)), (h_this_result, .inl (cI, 2000, .inl f_this_result)), (h_this_row, .inl (cI, 200, .inl f_this_row)), (h_this_other, .inl (cI, 200, .inl f_this_other)), (h_this_starts, .inl (cI, 50, .inl f_this_starts)), (h_this_sizes, .inl (cI, 50, .inl f_this_sizes)), (h_this_rules, .inl (cI, 50, .inl f_this_rules)), (h_this_tagged, .inl (cZ, 50, .inl f_this_tagged)), (h_this_pool, .inl (cI, 300, .inl f_this_pool)), (h_this_placed, .inl (cZ, 200, .inl f_this_placed))] → lv_has ls 7 [(0, .ref h_this), (1, .int a1), (2, .int v2), (3, .int v3), (4, .int v4), (5, .int v5), (6, .int v6)] → P_Mod_mapText_83 a1 k9 v2 v3 v4 v5 v6 n_this_rowSize f_this_row = some o → W p l e rm_Mod_mapText s m args below meth c H locs 0 0 Q (F0 m 83 ls []) := by
        intro v2 v3 v4 v5 v6 n_this_rowSize f_this_row H locs ls hE hl h
        unfold P_Mod_mapText_83 at h
        refine lv_iload hx hb d_Mod_mapText_83 (lv_at hl 5 rfl) ?_
        refine lv_if_eq (tgt := 106) hx hb d_Mod_mapText_85 (by decide) (fun hc => ?_) (fun hc => ?_)
        · have h := ite_t hc h
          exact hj106 v2 v3 v4 v5 v6 n_this_rowSize f_this_row H locs ls hE (lv_sub hl [0, 1, 2, 3, 4, 5, 6] rfl) h
        · have h := ite_f hc h
          refine lv_iload hx hb d_Mod_mapText_88 (lv_at hl 4 rfl) ?_
          refine lv_sipush (v := 962) hx hb d_Mod_mapText_90 (by decide) ?_
          refine lv_icmp_ne (tgt := 106) hx hb d_Mod_mapText_93 (by decide) (fun hc => ?_) (fun hc => ?_)
          · have h := ite_f hc h
            exact hj106 v2 v3 v4 v5 v6 n_this_rowSize f_this_row H locs ls hE (lv_sub hl [0, 1, 2, 3, 4, 5, 6] rfl) h
          · have h := ite_t hc h
            refine lv_aload_n hx hb d_Mod_mapText_96 rfl (lv_at hl 0 rfl) ?_
            refine lv_sipush (v := 963) hx hb d_Mod_mapText_97 (by decide) ?_
            obtain ⟨x100, hc100, h⟩ := bd_s h
            have hM := (c_Mod_add l D cI cZ tt h_this h_this_text h_this_result h_this_row h_this_other h_this_starts h_this_sizes h_this_rules h_this_tagged h_this_pool h_this_placed H.size n_this_textSize n_this_size n_this_rowSize n_this_count n_this_poolSize n_this_whole n_this_bias f_this_text f_this_result f_this_row f_this_other f_this_starts f_this_sizes f_this_rules f_this_tagged f_this_pool f_this_placed (963 : Int32) x100 hc100)
            refine hn_cv hE (hn_runV (As := [.int (963 : Int32)]) (rest := []) S hE hM cf_Mod_add mw_576 mw_578 ms_19 ⟨rfl, rfl⟩ ⟨Nat.le_of_ble_eq_true rfl, Nat.le_of_ble_eq_true rfl⟩ [0, 1, 2, 3, 4, 5, 6, 7, 8, 9, 10] rfl rfl rfl rfl rfl rfl hl.1 (lv_room (Nat.le_of_ble_eq_true rfl)) d_Mod_mapText_100 ⟨Nat.zero_le _, Nat.zero_le _⟩) [0, 1, 2, 3, 4, 5, 6, 7, 8, 9, 10] rfl rfl (fun H locs hE => ?_)
            have hE : hn_E D (TY cI cZ) tt A s H locs [(h_this, .inr (6, [.int n_this_textSize, .ref h_this_text, .int n_this_size, .ref h_this_result, .int x100.1, .ref h_this_row, .ref h_this_other, .int n_this_count, .ref h_this_starts, .ref h_this_sizes, .ref h_this_rules, .ref h_this_tagged, .int n_this_poolSize, .ref h_this_pool, .int n_this_whole, .ref h_this_placed, .int n_this_bias])), (h_this_text, .inl (cI, 48, .inl f_this_text)), (h_this_result, .inl (cI, 2000, .inl f_this_result)), (h_this_row, .inl (cI, 200, .inl x100.2)), (h_this_other, .inl (cI, 200, .inl f_this_other)), (h_this_starts, .inl (cI, 50, .inl f_this_starts)), (h_this_sizes, .inl (cI, 50, .inl f_this_sizes)), (h_this_rules, .inl (cI, 50, .inl f_this_rules)), (h_this_tagged, .inl (cZ, 50, .inl f_this_tagged)), (h_this_pool, .inl (cI, 300, .inl f_this_pool)), (h_this_placed, .inl (cZ, 200, .inl f_this_placed))] := hE
            refine lv_goto (tgt := 215) hx hb d_Mod_mapText_103 (by decide) ?_
            refine lv_iinc (v := (v3 + (1 : Int32))) (lv' := [(3, .int (v3 + (1 : Int32))), (0, .ref h_this), (1, .int a1), (2, .int v2), (4, .int v4), (5, .int v5), (6, .int v6)]) hx hb d_Mod_mapText_215 hl (k := 3) rfl rfl (by decide) rfl (fun ls hl => ?_)
            refine lv_goto (tgt := 9) hx hb d_Mod_mapText_218 (by decide) ?_
            exact hk9 v2 (v3 + (1 : Int32)) x100.1 x100.2 H locs ls hE (lv_sub hl [1, 2, 3, 0] rfl) h
      have hj46 : ∀ (v2 : Int32) (v3 : Int32) (v4 : Int32) (s0 : Int32) (n_this_rowSize : Int32) (f_this_row : Nat → Int32) (H : Heap) (locs : List Loc) (ls : Array Slot), hn_E D (TY cI cZ) tt A s H locs [(h_this, .inr (6, [.int n_this_textSize, .ref h_this_text, .int n_this_size, .ref h_this_result, .int n_this_rowSize, .ref h_this_row, .ref h_this_other, .int n_this_count, .ref h_this_starts, .ref h_this_sizes, .ref h_this_rules, .ref h_this_tagged, .int n_this_poolSize, .ref h_this_pool, .int n_this_whole, .ref h_this_placed, .int n_this_bias])), (h_this_text, .inl (cI, 48, .inl f_this_text)), (h_this_result, .inl (cI, 2000, .inl f_this_result)), (h_this_row, .inl (cI, 200, .inl f_this_row)), (h_this_other, .inl (cI, 200, .inl f_this_other)), (h_this_starts, .inl (cI, 50, .inl f_this_starts)), (h_this_sizes, .inl (cI, 50, .inl f_this_sizes)), (h_this_rules, .inl (cI, 50, .inl f_this_rules)), (h_this_tagged, .inl (cZ, 50, .inl f_this_tagged)), (h_this_pool, .inl (cI, 300, .inl f_this_pool)), (h_this_placed, .inl (cZ, 200, .inl f_this_placed))] → lv_has ls 7 [(0, .ref h_this), (1, .int a1), (2, .int v2), (3, .int v3), (4, .int v4)] → P_Mod_mapText_46 a1 k9 v2 v3 v4 s0 n_this_rowSize f_this_row = some o → W p l e rm_Mod_mapText s m args below meth c H locs 0 0 Q (F0 m 46 ls [.int s0]) := by
        intro v2 v3 v4 s0 n_this_rowSize f_this_row H locs ls hE hl h
        unfold P_Mod_mapText_46 at h
        refine lv_istore (lv' := [(5, .int s0), (0, .ref h_this), (1, .int a1), (2, .int v2), (3, .int v3), (4, .int v4)]) hx hb d_Mod_mapText_46 hl (by decide) rfl (fun ls hl => ?_)
        refine lv_iload hx hb d_Mod_mapText_48 (lv_at hl 5 rfl) ?_
        obtain ⟨x50, hc50, h⟩ := bd_s h
        have hM := (c_Mod_image l D cI cZ tt H.size v4 x50 hc50)
        refine hn_ci hE (hn_runS (As := [.int v4]) (rest := []) S hE hM cf_Mod_image mw_570 mw_571 ⟨rfl, rfl⟩ ⟨Nat.le_of_ble_eq_true rfl, Nat.le_of_ble_eq_true rfl⟩ [] rfl rfl rfl rfl hl.1 (lv_room (Nat.le_of_ble_eq_true rfl)) d_Mod_mapText_50 ⟨Nat.zero_le _, Nat.zero_le _⟩) [] rfl rfl (fun H locs hE => ?_)
        have hE : hn_E D (TY cI cZ) tt A s H locs [(h_this, .inr (6, [.int n_this_textSize, .ref h_this_text, .int n_this_size, .ref h_this_result, .int n_this_rowSize, .ref h_this_row, .ref h_this_other, .int n_this_count, .ref h_this_starts, .ref h_this_sizes, .ref h_this_rules, .ref h_this_tagged, .int n_this_poolSize, .ref h_this_pool, .int n_this_whole, .ref h_this_placed, .int n_this_bias])), (h_this_text, .inl (cI, 48, .inl f_this_text)), (h_this_result, .inl (cI, 2000, .inl f_this_result)), (h_this_row, .inl (cI, 200, .inl f_this_row)), (h_this_other, .inl (cI, 200, .inl f_this_other)), (h_this_starts, .inl (cI, 50, .inl f_this_starts)), (h_this_sizes, .inl (cI, 50, .inl f_this_sizes)), (h_this_rules, .inl (cI, 50, .inl f_this_rules)), (h_this_tagged, .inl (cZ, 50, .inl f_this_tagged)), (h_this_pool, .inl (cI, 300, .inl f_this_pool)), (h_this_placed, .inl (cZ, 200, .inl f_this_placed))] := hE
        refine lv_istore (lv' := [(6, .int x50), (5, .int s0), (0, .ref h_this), (1, .int a1), (2, .int v2), (3, .int v3), (4, .int v4)]) hx hb d_Mod_mapText_53 hl (by decide) rfl (fun ls hl => ?_)
        refine lv_iload hx hb d_Mod_mapText_55 (lv_at hl 1 rfl) ?_
        refine lv_if_eq (tgt := 83) hx hb d_Mod_mapText_57 (by decide) (fun hc => ?_) (fun hc => ?_)
        · have h := ite_t hc h
          exact hj83 v2 v3 v4 s0 x50 n_this_rowSize f_this_row H locs ls hE (lv_sub hl [2, 3, 4, 5, 6, 1, 0] rfl) h
        · have h := ite_f hc h
          refine lv_iload hx hb d_Mod_mapText_60 (lv_at hl 6 rfl) ?_
          refine lv_sipush (v := 223) hx hb d_Mod_mapText_62 (by decide) ?_
          refine lv_icmp_ne (tgt := 83) hx hb d_Mod_mapText_65 (by decide) (fun hc => ?_) (fun hc => ?_)
          · have h := ite_f hc h
            exact hj83 v2 v3 v4 s0 x50 n_this_rowSize f_this_row H locs ls hE (lv_sub hl [2, 3, 4, 5, 6, 1, 0] rfl) h
          · have h := ite_t hc h
            refine lv_aload_n hx hb d_Mod_mapText_68 rfl (lv_at hl 2 rfl) ?_
            refine lv_bipush (v := 115) hx hb d_Mod_mapText_69 (by decide) ?_
            obtain ⟨x71, hc71, h⟩ := bd_s h
            have hM := (c_Mod_add l D cI cZ tt h_this h_this_text h_this_result h_this_row h_this_other h_this_starts h_this_sizes h_this_rules h_this_tagged h_this_pool h_this_placed H.size n_this_textSize n_this_size n_this_rowSize n_this_count n_this_poolSize n_this_whole n_this_bias f_this_text f_this_result f_this_row f_this_other f_this_starts f_this_sizes f_this_rules f_this_tagged f_this_pool f_this_placed (115 : Int32) x71 hc71)
            refine hn_cv hE (hn_runV (As := [.int (115 : Int32)]) (rest := []) S hE hM cf_Mod_add mw_576 mw_578 ms_19 ⟨rfl, rfl⟩ ⟨Nat.le_of_ble_eq_true rfl, Nat.le_of_ble_eq_true rfl⟩ [0, 1, 2, 3, 4, 5, 6, 7, 8, 9, 10] rfl rfl rfl rfl rfl rfl hl.1 (lv_room (Nat.le_of_ble_eq_true rfl)) d_Mod_mapText_71 ⟨Nat.zero_le _, Nat.zero_le _⟩) [0, 1, 2, 3, 4, 5, 6, 7, 8, 9, 10] rfl rfl (fun H locs hE => ?_)
            have hE : hn_E D (TY cI cZ) tt A s H locs [(h_this, .inr (6, [.int n_this_textSize, .ref h_this_text, .int n_this_size, .ref h_this_result, .int x71.1, .ref h_this_row, .ref h_this_other, .int n_this_count, .ref h_this_starts, .ref h_this_sizes, .ref h_this_rules, .ref h_this_tagged, .int n_this_poolSize, .ref h_this_pool, .int n_this_whole, .ref h_this_placed, .int n_this_bias])), (h_this_text, .inl (cI, 48, .inl f_this_text)), (h_this_result, .inl (cI, 2000, .inl f_this_result)), (h_this_row, .inl (cI, 200, .inl x71.2)), (h_this_other, .inl (cI, 200, .inl f_this_other)), (h_this_starts, .inl (cI, 50, .inl f_this_starts)), (h_this_sizes, .inl (cI, 50, .inl f_this_sizes)), (h_this_rules, .inl (cI, 50, .inl f_this_rules)), (h_this_tagged, .inl (cZ, 50, .inl f_this_tagged)), (h_this_pool, .inl (cI, 300, .inl f_this_pool)), (h_this_placed, .inl (cZ, 200, .inl f_this_placed))] := hE
            refine lv_aload_n hx hb d_Mod_mapText_74 rfl (lv_at hl 2 rfl) ?_
            refine lv_bipush (v := 115) hx hb d_Mod_mapText_75 (by decide) ?_
            obtain ⟨x77, hc77, h⟩ := bd_s h
            have hM := (c_Mod_add l D cI cZ tt h_this h_this_text h_this_result h_this_row h_this_other h_this_starts h_this_sizes h_this_rules h_this_tagged h_this_pool h_this_placed H.size n_this_textSize n_this_size x71.1 n_this_count n_this_poolSize n_this_whole n_this_bias f_this_text f_this_result x71.2 f_this_other f_this_starts f_this_sizes f_this_rules f_this_tagged f_this_pool f_this_placed (115 : Int32) x77 hc77)
            refine hn_cv hE (hn_runV (As := [.int (115 : Int32)]) (rest := []) S hE hM cf_Mod_add mw_576 mw_578 ms_19 ⟨rfl, rfl⟩ ⟨Nat.le_of_ble_eq_true rfl, Nat.le_of_ble_eq_true rfl⟩ [0, 1, 2, 3, 4, 5, 6, 7, 8, 9, 10] rfl rfl rfl rfl rfl rfl hl.1 (lv_room (Nat.le_of_ble_eq_true rfl)) d_Mod_mapText_77 ⟨Nat.zero_le _, Nat.zero_le _⟩) [0, 1, 2, 3, 4, 5, 6, 7, 8, 9, 10] rfl rfl (fun H locs hE => ?_)
            have hE : hn_E D (TY cI cZ) tt A s H locs [(h_this, .inr (6, [.int n_this_textSize, .ref h_this_text, .int n_this_size, .ref h_this_result, .int x77.1, .ref h_this_row, .ref h_this_other, .int n_this_count, .ref h_this_starts, .ref h_this_sizes, .ref h_this_rules, .ref h_this_tagged, .int n_this_poolSize, .ref h_this_pool, .int n_this_whole, .ref h_this_placed, .int n_this_bias])), (h_this_text, .inl (cI, 48, .inl f_this_text)), (h_this_result, .inl (cI, 2000, .inl f_this_result)), (h_this_row, .inl (cI, 200, .inl x77.2)), (h_this_other, .inl (cI, 200, .inl f_this_other)), (h_this_starts, .inl (cI, 50, .inl f_this_starts)), (h_this_sizes, .inl (cI, 50, .inl f_this_sizes)), (h_this_rules, .inl (cI, 50, .inl f_this_rules)), (h_this_tagged, .inl (cZ, 50, .inl f_this_tagged)), (h_this_pool, .inl (cI, 300, .inl f_this_pool)), (h_this_placed, .inl (cZ, 200, .inl f_this_placed))] := hE
            refine lv_goto (tgt := 215) hx hb d_Mod_mapText_80 (by decide) ?_
            refine lv_iinc (v := (v3 + (1 : Int32))) (lv' := [(3, .int (v3 + (1 : Int32))), (6, .int x50), (5, .int s0), (0, .ref h_this), (1, .int a1), (2, .int v2), (4, .int v4)]) hx hb d_Mod_mapText_215 hl (k := 5) rfl rfl (by decide) rfl (fun ls hl => ?_)
            refine lv_goto (tgt := 9) hx hb d_Mod_mapText_218 (by decide) ?_
            exact hk9 v2 (v3 + (1 : Int32)) x77.1 x77.2 H locs ls hE (lv_sub hl [3, 4, 5, 0] rfl) h
      unfold P_Mod_mapText_9 at h
      refine lv_iload_n hx hb d_Mod_mapText_9 rfl (lv_at hl 3 rfl) ?_
      refine lv_aload_n hx hb d_Mod_mapText_10 rfl (lv_at hl 0 rfl) ?_
      refine hn_get S hE kc_Mod 0 rfl rfl 0 (by decide) mw_486 rfl d_Mod_mapText_11 ?_
      refine lv_icmp_ge (tgt := 221) hx hb d_Mod_mapText_14 (by decide) (fun hc => ?_) (fun hc => ?_)
      · have h := ite_t hc h
        refine lv_iload_n hx hb d_Mod_mapText_221 rfl (lv_at hl 2 rfl) ?_
        obtain ⟨hz222, h⟩ := gb_s h
        obtain rfl := Option.some.inj h
        exact hret H locs ls 222 d_Mod_mapText_222 hz222 hE
      · have h := ite_f hc h
        refine lv_aload_n hx hb d_Mod_mapText_17 rfl (lv_at hl 0 rfl) ?_
        refine hn_get S hE kc_Mod 0 rfl rfl 1 (by decide) mw_487 rfl d_Mod_mapText_18 ?_
        refine lv_iload_n hx hb d_Mod_mapText_21 rfl (lv_at hl 3 rfl) ?_
        obtain ⟨hi22, h⟩ := gi_s h
        refine hn_iald S hE 1 0 rfl rfl hi22 d_Mod_mapText_22 ?_
        refine lv_istore (lv' := [(4, .int (f_this_text (v3).toNatClampNeg)), (0, .ref h_this), (1, .int a1), (2, .int v2), (3, .int v3)]) hx hb d_Mod_mapText_23 hl (by decide) rfl (fun ls hl => ?_)
        refine lv_iload hx hb d_Mod_mapText_25 (lv_at hl 0 rfl) ?_
        obtain ⟨x27, hc27, h⟩ := bd_s h
        have hM := (c_Mod_isOdd l D cI cZ tt H.size (f_this_text (v3).toNatClampNeg) x27 hc27)
        refine hn_cz hE (hn_runS (As := [.int (f_this_text (v3).toNatClampNeg)]) (rest := []) S hE hM cf_Mod_isOdd mw_564 mw_565 ⟨rfl, rfl⟩ ⟨Nat.le_of_ble_eq_true rfl, Nat.le_of_ble_eq_true rfl⟩ [] rfl rfl rfl rfl hl.1 (lv_room (Nat.le_of_ble_eq_true rfl)) d_Mod_mapText_27 ⟨Nat.zero_le _, Nat.zero_le _⟩) [] rfl rfl (fun H locs hz27 hE => ?_)
        have hE : hn_E D (TY cI cZ) tt A s H locs [(h_this, .inr (6, [.int n_this_textSize, .ref h_this_text, .int n_this_size, .ref h_this_result, .int n_this_rowSize, .ref h_this_row, .ref h_this_other, .int n_this_count, .ref h_this_starts, .ref h_this_sizes, .ref h_this_rules, .ref h_this_tagged, .int n_this_poolSize, .ref h_this_pool, .int n_this_whole, .ref h_this_placed, .int n_this_bias])), (h_this_text, .inl (cI, 48, .inl f_this_text)), (h_this_result, .inl (cI, 2000, .inl f_this_result)), (h_this_row, .inl (cI, 200, .inl f_this_row)), (h_this_other, .inl (cI, 200, .inl f_this_other)), (h_this_starts, .inl (cI, 50, .inl f_this_starts)), (h_this_sizes, .inl (cI, 50, .inl f_this_sizes)), (h_this_rules, .inl (cI, 50, .inl f_this_rules)), (h_this_tagged, .inl (cZ, 50, .inl f_this_tagged)), (h_this_pool, .inl (cI, 300, .inl f_this_pool)), (h_this_placed, .inl (cZ, 200, .inl f_this_placed))] := hE
        refine lv_if_eq (tgt := 45) hx hb d_Mod_mapText_30 (by decide) (fun hc => ?_) (fun hc => ?_)
        · have h := ite_t hc h
          refine lv_iconst (v := 0) hx hb d_Mod_mapText_45 (by decide) ?_
          exact hj46 v2 v3 (f_this_text (v3).toNatClampNeg) (0 : Int32) n_this_rowSize f_this_row H locs ls hE (lv_sub hl [1, 2, 3, 4, 0] rfl) h
        · have h := ite_f hc h
          refine lv_iload_n hx hb d_Mod_mapText_33 rfl (lv_at hl 2 rfl) ?_
          refine lv_iconst (v := 2) hx hb d_Mod_mapText_34 (by decide) ?_
          obtain ⟨x35, hc35, h⟩ := bd_s h
          have hM := (c_Mod_on l D cI cZ tt H.size a1 (2 : Int32) x35 hc35)
          refine hn_cz hE (hn_runS (As := [.int a1, .int (2 : Int32)]) (rest := []) S hE hM cf_Mod_on mw_567 mw_568 ⟨rfl, rfl⟩ ⟨Nat.le_of_ble_eq_true rfl, Nat.le_of_ble_eq_true rfl⟩ [] rfl rfl rfl rfl hl.1 (lv_room (Nat.le_of_ble_eq_true rfl)) d_Mod_mapText_35 ⟨Nat.zero_le _, Nat.zero_le _⟩) [] rfl rfl (fun H locs hz35 hE => ?_)
          have hE : hn_E D (TY cI cZ) tt A s H locs [(h_this, .inr (6, [.int n_this_textSize, .ref h_this_text, .int n_this_size, .ref h_this_result, .int n_this_rowSize, .ref h_this_row, .ref h_this_other, .int n_this_count, .ref h_this_starts, .ref h_this_sizes, .ref h_this_rules, .ref h_this_tagged, .int n_this_poolSize, .ref h_this_pool, .int n_this_whole, .ref h_this_placed, .int n_this_bias])), (h_this_text, .inl (cI, 48, .inl f_this_text)), (h_this_result, .inl (cI, 2000, .inl f_this_result)), (h_this_row, .inl (cI, 200, .inl f_this_row)), (h_this_other, .inl (cI, 200, .inl f_this_other)), (h_this_starts, .inl (cI, 50, .inl f_this_starts)), (h_this_sizes, .inl (cI, 50, .inl f_this_sizes)), (h_this_rules, .inl (cI, 50, .inl f_this_rules)), (h_this_tagged, .inl (cZ, 50, .inl f_this_tagged)), (h_this_pool, .inl (cI, 300, .inl f_this_pool)), (h_this_placed, .inl (cZ, 200, .inl f_this_placed))] := hE
          refine lv_if_eq (tgt := 45) hx hb d_Mod_mapText_38 (by decide) (fun hc => ?_) (fun hc => ?_)
          · have h := ite_t hc h
            refine lv_iconst (v := 0) hx hb d_Mod_mapText_45 (by decide) ?_
            exact hj46 v2 v3 (f_this_text (v3).toNatClampNeg) (0 : Int32) n_this_rowSize f_this_row H locs ls hE (lv_sub hl [1, 2, 3, 4, 0] rfl) h
          · have h := ite_f hc h
            refine lv_iconst (v := 1) hx hb d_Mod_mapText_41 (by decide) ?_
            refine lv_goto (tgt := 46) hx hb d_Mod_mapText_42 (by decide) ?_
            exact hj46 v2 v3 (f_this_text (v3).toNatClampNeg) (1 : Int32) n_this_rowSize f_this_row H locs ls hE (lv_sub hl [1, 2, 3, 4, 0] rfl) h
  unfold P_Mod_mapText at h
  refine lv_aload_n hx hb d_Mod_mapText_0 rfl (lv_at hl 0 rfl) ?_
  refine lv_iconst (v := 0) hx hb d_Mod_mapText_1 (by decide) ?_
  refine hn_put (tv := .int) S hE kc_Mod t_Mod_ok n_Mod 0 rfl rfl 4 (by decide) mw_490 rfl (by decide +kernel) rfl rfl (Nat.le_of_ble_eq_true rfl) d_Mod_mapText_2 (fun H locs hE => ?_)
  have hE : hn_E D (TY cI cZ) tt A s H locs [(h_this, .inr (6, [.int n_this_textSize, .ref h_this_text, .int n_this_size, .ref h_this_result, .int (0 : Int32), .ref h_this_row, .ref h_this_other, .int n_this_count, .ref h_this_starts, .ref h_this_sizes, .ref h_this_rules, .ref h_this_tagged, .int n_this_poolSize, .ref h_this_pool, .int n_this_whole, .ref h_this_placed, .int n_this_bias])), (h_this_text, .inl (cI, 48, .inl f_this_text)), (h_this_result, .inl (cI, 2000, .inl f_this_result)), (h_this_row, .inl (cI, 200, .inl f_this_row)), (h_this_other, .inl (cI, 200, .inl f_this_other)), (h_this_starts, .inl (cI, 50, .inl f_this_starts)), (h_this_sizes, .inl (cI, 50, .inl f_this_sizes)), (h_this_rules, .inl (cI, 50, .inl f_this_rules)), (h_this_tagged, .inl (cZ, 50, .inl f_this_tagged)), (h_this_pool, .inl (cI, 300, .inl f_this_pool)), (h_this_placed, .inl (cZ, 200, .inl f_this_placed))] := hE
  refine lv_iconst (v := 0) hx hb d_Mod_mapText_5 (by decide) ?_
  refine lv_istore_n (lv' := [(2, .int (0 : Int32)), (0, .ref h_this), (1, .int a1)]) hx hb d_Mod_mapText_6 rfl hl (by decide) rfl (fun ls hl => ?_)
  refine lv_iconst (v := 0) hx hb d_Mod_mapText_7 (by decide) ?_
  refine lv_istore_n (lv' := [(3, .int (0 : Int32)), (2, .int (0 : Int32)), (0, .ref h_this), (1, .int a1)]) hx hb d_Mod_mapText_8 rfl hl (by decide) rfl (fun ls hl => ?_)
  exact hL9 fu (0 : Int32) (0 : Int32) (0 : Int32) f_this_row H locs ls hE (lv_sub hl [2, 3, 1, 0] rfl) h
