abbrev rm_Mod_takeApart : Room := { frames := 3, cells := 0, slots := 0, locals := 67 }
theorem cf_Mod_takeApart : hn_CF y_Mod_takeApart b_Mod_takeApart 5 none 0 := ⟨mw_597, mw_7, by decide, by decide, by decide +kernel⟩
set_option maxHeartbeats 4000000 in
set_option maxRecDepth 100000 in
theorem c_Mod_takeApart (l : Launch) (D : va_G) (cI cZ : ClassId) (tt : Nat → Nat) (h_this h_this_text h_this_result h_this_row h_this_other h_this_starts h_this_sizes h_this_rules h_this_tagged h_this_pool h_this_placed : Nat) (sz : Nat) (n_this_textSize : Int32) (n_this_size : Int32) (n_this_rowSize : Int32) (n_this_count : Int32) (n_this_poolSize : Int32) (n_this_whole : Int32) (n_this_bias : Int32) (f_this_text : Nat → Int32) (f_this_result : Nat → Int32) (f_this_row : Nat → Int32) (f_this_other : Nat → Int32) (f_this_starts : Nat → Int32) (f_this_sizes : Nat → Int32) (f_this_rules : Nat → Int32) (f_this_tagged : Nat → Int32) (f_this_pool : Nat → Int32) (f_this_placed : Nat → Int32) (o : Int32 × (Nat → Int32)) (h : P_Mod_takeApart n_this_rowSize f_this_row f_this_other = some o) : Met l y_Mod_takeApart (hn_w y_Mod_takeApart b_Mod_takeApart 5 none) rm_Mod_takeApart (hn_Pc D (TY cI cZ) tt [.ref h_this] sz [(h_this, .inr (6, [.int n_this_textSize, .ref h_this_text, .int n_this_size, .ref h_this_result, .int n_this_rowSize, .ref h_this_row, .ref h_this_other, .int n_this_count, .ref h_this_starts, .ref h_this_sizes, .ref h_this_rules, .ref h_this_tagged, .int n_this_poolSize, .ref h_this_pool, .int n_this_whole, .ref h_this_placed, .int n_this_bias])), (h_this_text, .inl (cI, 48, .inl f_this_text)), (h_this_result, .inl (cI, 2000, .inl f_this_result)), (h_this_row, .inl (cI, 200, .inl f_this_row)), (h_this_other, .inl (cI, 200, .inl f_this_other)), (h_this_starts, .inl (cI, 50, .inl f_this_starts)), (h_this_sizes, .inl (cI, 50, .inl f_this_sizes)), (h_this_rules, .inl (cI, 50, .inl f_this_rules)), (h_this_tagged, .inl (cZ, 50, .inl f_this_tagged)), (h_this_pool, .inl (cI, 300, .inl f_this_pool)), (h_this_placed, .inl (cZ, 200, .inl f_this_placed))]) (hn_Qv D [(h_this, .inr (6, [.int n_this_textSize, .ref h_this_text, .int n_this_size, .ref h_this_result, .int n_this_rowSize, .ref h_this_row, .ref h_this_other, .int n_this_count, .ref h_this_starts, .ref h_this_sizes, .ref h_this_rules, .ref h_this_tagged, .int n_this_poolSize, .ref h_this_pool, .int n_this_whole, .ref h_this_placed, .int n_this_bias])), (h_this_text, .inl (cI, 48, .inl f_this_text)), (h_this_result, .inl (cI, 2000, .inl f_this_result)), (h_this_row, .inl (cI, 200, .inl f_this_row)), (h_this_other, .inl (cI, 200, .inl f_this_other)), (h_this_starts, .inl (cI, 50, .inl f_this_starts)), (h_this_sizes, .inl (cI, 50, .inl f_this_sizes)), (h_this_rules, .inl (cI, 50, .inl f_this_rules)), (h_this_tagged, .inl (cZ, 50, .inl f_this_tagged)), (h_this_pool, .inl (cI, 300, .inl f_this_pool)), (h_this_placed, .inl (cZ, 200, .inl f_this_placed))] sz [(h_this, .inr (6, [.int n_this_textSize, .ref h_this_text, .int n_this_size, .ref h_this_result, .int o.1, .ref h_this_row, .ref h_this_other, .int n_this_count, .ref h_this_starts, .ref h_this_sizes, .ref h_this_rules, .ref h_this_tagged, .int n_this_poolSize, .ref h_this_pool, .int n_this_whole, .ref h_this_placed, .int n_this_bias])), (h_this_text, .inl (cI, 48, .inl f_this_text)), (h_this_result, .inl (cI, 2000, .inl f_this_result)), (h_this_row, .inl (cI, 200, .inl f_this_row)), (h_this_other, .inl (cI, 200, .inl o.2)), (h_this_starts, .inl (cI, 50, .inl f_this_starts)), (h_this_sizes, .inl (cI, 50, .inl f_this_sizes)), (h_this_rules, .inl (cI, 50, .inl f_this_rules)), (h_this_tagged, .inl (cZ, 50, .inl f_this_tagged)), (h_this_pool, .inl (cI, 300, .inl f_this_pool)), (h_this_placed, .inl (cZ, 200, .inl f_this_placed))]) 0 0 (va_A [(h_this, .inr (6, [.int n_this_textSize, .ref h_this_text, .int n_this_size, .ref h_this_result, .int n_this_rowSize, .ref h_this_row, .ref h_this_other, .int n_this_count, .ref h_this_starts, .ref h_this_sizes, .ref h_this_rules, .ref h_this_tagged, .int n_this_poolSize, .ref h_this_pool, .int n_this_whole, .ref h_this_placed, .int n_this_bias])), (h_this_text, .inl (cI, 48, .inl f_this_text)), (h_this_result, .inl (cI, 2000, .inl f_this_result)), (h_this_row, .inl (cI, 200, .inl f_this_row)), (h_this_other, .inl (cI, 200, .inl f_this_other)), (h_this_starts, .inl (cI, 50, .inl f_this_starts)), (h_this_sizes, .inl (cI, 50, .inl f_this_sizes)), (h_this_rules, .inl (cI, 50, .inl f_this_rules)), (h_this_tagged, .inl (cZ, 50, .inl f_this_tagged)), (h_this_pool, .inl (cI, 300, .inl f_this_pool)), (h_this_placed, .inl (cZ, 200, .inl f_this_placed))] sz) := by
  refine hn_ofWv (own := R_Mod) (by decide) rfl (Nat.le_of_ble_eq_true rfl) ?_
  intro p e s m args below meth c A H locs ls Q S hE hl hret
  have hx := S.1
  have hb := S.2.1
  have hown := S.2.2.2.1
  have hl : lv_has ls 5 [(0, .ref h_this)] := hl
  have hL75 : ∀ (v1 : Int32) (n_this_rowSize : Int32) (kf : Nat) (v2 : Int32) (f_this_other : Nat → Int32) (H : Heap) (locs : List Loc) (ls : Array Slot), hn_E D (TY cI cZ) tt A s H locs [(h_this, .inr (6, [.int n_this_textSize, .ref h_this_text, .int n_this_size, .ref h_this_result, .int n_this_rowSize, .ref h_this_row, .ref h_this_other, .int n_this_count, .ref h_this_starts, .ref h_this_sizes, .ref h_this_rules, .ref h_this_tagged, .int n_this_poolSize, .ref h_this_pool, .int n_this_whole, .ref h_this_placed, .int n_this_bias])), (h_this_text, .inl (cI, 48, .inl f_this_text)), (h_this_result, .inl (cI, 2000, .inl f_this_result)), (h_this_row, .inl (cI, 200, .inl f_this_row)), (h_this_other, .inl (cI, 200, .inl f_this_other)), (h_this_starts, .inl (cI, 50, .inl f_this_starts)), (h_this_sizes, .inl (cI, 50, .inl f_this_sizes)), (h_this_rules, .inl (cI, 50, .inl f_this_rules)), (h_this_tagged, .inl (cZ, 50, .inl f_this_tagged)), (h_this_pool, .inl (cI, 300, .inl f_this_pool)), (h_this_placed, .inl (cZ, 200, .inl f_this_placed))] → lv_has ls 5 [(0, .ref h_this), (1, .int v1), (2, .int v2)] → fl2 (P_Mod_takeApart_75 v1) kf v2 f_this_other = some o → W p l e rm_Mod_takeApart s m args below meth c H locs 0 0 Q (F0 m 75 ls []) := by
    intro v1 n_this_rowSize kf
    induction kf with
    | zero => intro v2 f_this_other H locs ls hE hl h; exact no_s h
    | succ kf ih =>
      intro v2 f_this_other H locs ls hE hl h
      have h : P_Mod_takeApart_75 v1 (fl2 (P_Mod_takeApart_75 v1) kf) v2 f_this_other = some o := h
      generalize fl2 (P_Mod_takeApart_75 v1) kf = k75 at ih h
      have hk75 := ih
      have hL90 : ∀ (v2 : Int32) (v3 : Int32) (kf : Nat) (v4 : Int32) (f_this_other : Nat → Int32) (H : Heap) (locs : List Loc) (ls : Array Slot), hn_E D (TY cI cZ) tt A s H locs [(h_this, .inr (6, [.int n_this_textSize, .ref h_this_text, .int n_this_size, .ref h_this_result, .int n_this_rowSize, .ref h_this_row, .ref h_this_other, .int n_this_count, .ref h_this_starts, .ref h_this_sizes, .ref h_this_rules, .ref h_this_tagged, .int n_this_poolSize, .ref h_this_pool, .int n_this_whole, .ref h_this_placed, .int n_this_bias])), (h_this_text, .inl (cI, 48, .inl f_this_text)), (h_this_result, .inl (cI, 2000, .inl f_this_result)), (h_this_row, .inl (cI, 200, .inl f_this_row)), (h_this_other, .inl (cI, 200, .inl f_this_other)), (h_this_starts, .inl (cI, 50, .inl f_this_starts)), (h_this_sizes, .inl (cI, 50, .inl f_this_sizes)), (h_this_rules, .inl (cI, 50, .inl f_this_rules)), (h_this_tagged, .inl (cZ, 50, .inl f_this_tagged)), (h_this_pool, .inl (cI, 300, .inl f_this_pool)), (h_this_placed, .inl (cZ, 200, .inl f_this_placed))] → lv_has ls 5 [(0, .ref h_this), (1, .int v1), (2, .int v2), (3, .int v3), (4, .int v4)] → fl2 (P_Mod_takeApart_90 k75 v2 v3) kf v4 f_this_other = some o → W p l e rm_Mod_takeApart s m args below meth c H locs 0 0 Q (F0 m 90 ls []) := by
        intro v2 v3 kf
        induction kf with
        | zero => intro v4 f_this_other H locs ls hE hl h; exact no_s h
        | succ kf ih =>
          intro v4 f_this_other H locs ls hE hl h
          have h : P_Mod_takeApart_90 k75 v2 v3 (fl2 (P_Mod_takeApart_90 k75 v2 v3) kf) v4 f_this_other = some o := h
          generalize fl2 (P_Mod_takeApart_90 k75 v2 v3) kf = k90 at ih h
          have hk90 := ih
          unfold P_Mod_takeApart_90 at h
          refine lv_iload hx hb d_Mod_takeApart_90 (lv_at hl 4 rfl) ?_
          refine lv_if_le (tgt := 143) hx hb d_Mod_takeApart_92 (by decide) (fun hc => ?_) (fun hc => ?_)
          · have h := ite_t hc h
            refine lv_aload_n hx hb d_Mod_takeApart_143 rfl (lv_at hl 0 rfl) ?_
            refine hn_get S hE kc_Mod 0 rfl rfl 6 (by decide) mw_492 rfl d_Mod_takeApart_144 ?_
            refine lv_iload hx hb d_Mod_takeApart_147 (lv_at hl 4 rfl) ?_
            refine lv_iload_n hx hb d_Mod_takeApart_149 rfl (lv_at hl 3 rfl) ?_
            obtain ⟨hi150, h⟩ := gi_s h
            refine hn_iast S hE 4 0 rfl rfl hi150 d_Mod_takeApart_150 (fun H locs hE => ?_)
            have hE : hn_E D (TY cI cZ) tt A s H locs [(h_this, .inr (6, [.int n_this_textSize, .ref h_this_text, .int n_this_size, .ref h_this_result, .int n_this_rowSize, .ref h_this_row, .ref h_this_other, .int n_this_count, .ref h_this_starts, .ref h_this_sizes, .ref h_this_rules, .ref h_this_tagged, .int n_this_poolSize, .ref h_this_pool, .int n_this_whole, .ref h_this_placed, .int n_this_bias])), (h_this_text, .inl (cI, 48, .inl f_this_text)), (h_this_result, .inl (cI, 2000, .inl f_this_result)), (h_this_row, .inl (cI, 200, .inl f_this_row)), (h_this_other, .inl (cI, 200, .inl (upd f_this_other (v4).toNatClampNeg v3))), (h_this_starts, .inl (cI, 50, .inl f_this_starts)), (h_this_sizes, .inl (cI, 50, .inl f_this_sizes)), (h_this_rules, .inl (cI, 50, .inl f_this_rules)), (h_this_tagged, .inl (cZ, 50, .inl f_this_tagged)), (h_this_pool, .inl (cI, 300, .inl f_this_pool)), (h_this_placed, .inl (cZ, 200, .inl f_this_placed))] := hE
            refine lv_iinc (v := (v2 + (1 : Int32))) (lv' := [(2, .int (v2 + (1 : Int32))), (0, .ref h_this), (1, .int v1), (3, .int v3), (4, .int v4)]) hx hb d_Mod_takeApart_151 hl (k := 2) rfl rfl (by decide) rfl (fun ls hl => ?_)
            refine lv_goto (tgt := 75) hx hb d_Mod_takeApart_154 (by decide) ?_
            exact hk75 (v2 + (1 : Int32)) (upd f_this_other (v4).toNatClampNeg v3) H locs ls hE (lv_sub hl [1, 2, 0] rfl) h
          · have h := ite_f hc h
            refine lv_iload_n hx hb d_Mod_takeApart_95 rfl (lv_at hl 3 rfl) ?_
            obtain ⟨x96, hc96, h⟩ := bd_s h
            have hM := (c_Mod_order l D cI cZ tt H.size v3 x96 hc96)
            refine hn_ci hE (hn_runS (As := [.int v3]) (rest := []) S hE hM cf_Mod_order mw_586 mw_587 ⟨rfl, rfl⟩ ⟨Nat.le_of_ble_eq_true rfl, Nat.le_of_ble_eq_true rfl⟩ [] rfl rfl rfl rfl hl.1 (lv_room (Nat.le_of_ble_eq_true rfl)) d_Mod_takeApart_96 ⟨Nat.zero_le _, Nat.zero_le _⟩) [] rfl rfl (fun H locs hE => ?_)
            have hE : hn_E D (TY cI cZ) tt A s H locs [(h_this, .inr (6, [.int n_this_textSize, .ref h_this_text, .int n_this_size, .ref h_this_result, .int n_this_rowSize, .ref h_this_row, .ref h_this_other, .int n_this_count, .ref h_this_starts, .ref h_this_sizes, .ref h_this_rules, .ref h_this_tagged, .int n_this_poolSize, .ref h_this_pool, .int n_this_whole, .ref h_this_placed, .int n_this_bias])), (h_this_text, .inl (cI, 48, .inl f_this_text)), (h_this_result, .inl (cI, 2000, .inl f_this_result)), (h_this_row, .inl (cI, 200, .inl f_this_row)), (h_this_other, .inl (cI, 200, .inl f_this_other)), (h_this_starts, .inl (cI, 50, .inl f_this_starts)), (h_this_sizes, .inl (cI, 50, .inl f_this_sizes)), (h_this_rules, .inl (cI, 50, .inl f_this_rules)), (h_this_tagged, .inl (cZ, 50, .inl f_this_tagged)), (h_this_pool, .inl (cI, 300, .inl f_this_pool)), (h_this_placed, .inl (cZ, 200, .inl f_this_placed))] := hE
            refine lv_if_le (tgt := 143) hx hb d_Mod_takeApart_99 (by decide) (fun hc => ?_) (fun hc => ?_)
            · have h := ite_t hc h
              refine lv_aload_n hx hb d_Mod_takeApart_143 rfl (lv_at hl 0 rfl) ?_
              refine hn_get S hE kc_Mod 0 rfl rfl 6 (by decide) mw_492 rfl d_Mod_takeApart_144 ?_
              refine lv_iload hx hb d_Mod_takeApart_147 (lv_at hl 4 rfl) ?_
              refine lv_iload_n hx hb d_Mod_takeApart_149 rfl (lv_at hl 3 rfl) ?_
              obtain ⟨hi150, h⟩ := gi_s h
              refine hn_iast S hE 4 0 rfl rfl hi150 d_Mod_takeApart_150 (fun H locs hE => ?_)
              have hE : hn_E D (TY cI cZ) tt A s H locs [(h_this, .inr (6, [.int n_this_textSize, .ref h_this_text, .int n_this_size, .ref h_this_result, .int n_this_rowSize, .ref h_this_row, .ref h_this_other, .int n_this_count, .ref h_this_starts, .ref h_this_sizes, .ref h_this_rules, .ref h_this_tagged, .int n_this_poolSize, .ref h_this_pool, .int n_this_whole, .ref h_this_placed, .int n_this_bias])), (h_this_text, .inl (cI, 48, .inl f_this_text)), (h_this_result, .inl (cI, 2000, .inl f_this_result)), (h_this_row, .inl (cI, 200, .inl f_this_row)), (h_this_other, .inl (cI, 200, .inl (upd f_this_other (v4).toNatClampNeg v3))), (h_this_starts, .inl (cI, 50, .inl f_this_starts)), (h_this_sizes, .inl (cI, 50, .inl f_this_sizes)), (h_this_rules, .inl (cI, 50, .inl f_this_rules)), (h_this_tagged, .inl (cZ, 50, .inl f_this_tagged)), (h_this_pool, .inl (cI, 300, .inl f_this_pool)), (h_this_placed, .inl (cZ, 200, .inl f_this_placed))] := hE
              refine lv_iinc (v := (v2 + (1 : Int32))) (lv' := [(2, .int (v2 + (1 : Int32))), (0, .ref h_this), (1, .int v1), (3, .int v3), (4, .int v4)]) hx hb d_Mod_takeApart_151 hl (k := 2) rfl rfl (by decide) rfl (fun ls hl => ?_)
              refine lv_goto (tgt := 75) hx hb d_Mod_takeApart_154 (by decide) ?_
              exact hk75 (v2 + (1 : Int32)) (upd f_this_other (v4).toNatClampNeg v3) H locs ls hE (lv_sub hl [1, 2, 0] rfl) h
            · have h := ite_f hc h
              refine lv_aload_n hx hb d_Mod_takeApart_102 rfl (lv_at hl 0 rfl) ?_
              refine hn_get S hE kc_Mod 0 rfl rfl 6 (by decide) mw_492 rfl d_Mod_takeApart_103 ?_
              refine lv_iload hx hb d_Mod_takeApart_106 (lv_at hl 4 rfl) ?_
              refine lv_iconst (v := 1) hx hb d_Mod_takeApart_108 (by decide) ?_
              refine lv_isub hx hb d_Mod_takeApart_109 ?_
              obtain ⟨hi110, h⟩ := gi_s h
              refine hn_iald S hE 4 0 rfl rfl hi110 d_Mod_takeApart_110 ?_
              obtain ⟨x111, hc111, h⟩ := bd_s h
              have hM := (c_Mod_order l D cI cZ tt H.size (f_this_other ((v4 - (1 : Int32))).toNatClampNeg) x111 hc111)
              refine hn_ci hE (hn_runS (As := [.int (f_this_other ((v4 - (1 : Int32))).toNatClampNeg)]) (rest := []) S hE hM cf_Mod_order mw_586 mw_587 ⟨rfl, rfl⟩ ⟨Nat.le_of_ble_eq_true rfl, Nat.le_of_ble_eq_true rfl⟩ [] rfl rfl rfl rfl hl.1 (lv_room (Nat.le_of_ble_eq_true rfl)) d_Mod_takeApart_111 ⟨Nat.zero_le _, Nat.zero_le _⟩) [] rfl rfl (fun H locs hE => ?_)
              have hE : hn_E D (TY cI cZ) tt A s H locs [(h_this, .inr (6, [.int n_this_textSize, .ref h_this_text, .int n_this_size, .ref h_this_result, .int n_this_rowSize, .ref h_this_row, .ref h_this_other, .int n_this_count, .ref h_this_starts, .ref h_this_sizes, .ref h_this_rules, .ref h_this_tagged, .int n_this_poolSize, .ref h_this_pool, .int n_this_whole, .ref h_this_placed, .int n_this_bias])), (h_this_text, .inl (cI, 48, .inl f_this_text)), (h_this_result, .inl (cI, 2000, .inl f_this_result)), (h_this_row, .inl (cI, 200, .inl f_this_row)), (h_this_other, .inl (cI, 200, .inl f_this_other)), (h_this_starts, .inl (cI, 50, .inl f_this_starts)), (h_this_sizes, .inl (cI, 50, .inl f_this_sizes)), (h_this_rules, .inl (cI, 50, .inl f_this_rules)), (h_this_tagged, .inl (cZ, 50, .inl f_this_tagged)), (h_this_pool, .inl (cI, 300, .inl f_this_pool)), (h_this_placed, .inl (cZ, 200, .inl f_this_placed))] := hE
              refine lv_iload_n hx hb d_Mod_takeApart_114 rfl (lv_at hl 3 rfl) ?_
              obtain ⟨x115, hc115, h⟩ := bd_s h
              have hM := (c_Mod_order l D cI cZ tt H.size v3 x115 hc115)
              refine hn_ci hE (hn_runS (As := [.int v3]) (rest := [.int x111]) S hE hM cf_Mod_order mw_586 mw_587 ⟨rfl, rfl⟩ ⟨Nat.le_of_ble_eq_true rfl, Nat.le_of_ble_eq_true rfl⟩ [] rfl rfl rfl rfl hl.1 (lv_room (Nat.le_of_ble_eq_true rfl)) d_Mod_takeApart_115 ⟨Nat.zero_le _, Nat.zero_le _⟩) [] rfl rfl (fun H locs hE => ?_)
              have hE : hn_E D (TY cI cZ) tt A s H locs [(h_this, .inr (6, [.int n_this_textSize, .ref h_this_text, .int n_this_size, .ref h_this_result, .int n_this_rowSize, .ref h_this_row, .ref h_this_other, .int n_this_count, .ref h_this_starts, .ref h_this_sizes, .ref h_this_rules, .ref h_this_tagged, .int n_this_poolSize, .ref h_this_pool, .int n_this_whole, .ref h_this_placed, .int n_this_bias])), (h_this_text, .inl (cI, 48, .inl f_this_text)), (h_this_result, .inl (cI, 2000, .inl f_this_result)), (h_this_row, .inl (cI, 200, .inl f_this_row)), (h_this_other, .inl (cI, 200, .inl f_this_other)), (h_this_starts, .inl (cI, 50, .inl f_this_starts)), (h_this_sizes, .inl (cI, 50, .inl f_this_sizes)), (h_this_rules, .inl (cI, 50, .inl f_this_rules)), (h_this_tagged, .inl (cZ, 50, .inl f_this_tagged)), (h_this_pool, .inl (cI, 300, .inl f_this_pool)), (h_this_placed, .inl (cZ, 200, .inl f_this_placed))] := hE
              refine lv_icmp_le (tgt := 143) hx hb d_Mod_takeApart_118 (by decide) (fun hc => ?_) (fun hc => ?_)
              · have h := ite_t hc h
                refine lv_aload_n hx hb d_Mod_takeApart_143 rfl (lv_at hl 0 rfl) ?_
                refine hn_get S hE kc_Mod 0 rfl rfl 6 (by decide) mw_492 rfl d_Mod_takeApart_144 ?_
                refine lv_iload hx hb d_Mod_takeApart_147 (lv_at hl 4 rfl) ?_
                refine lv_iload_n hx hb d_Mod_takeApart_149 rfl (lv_at hl 3 rfl) ?_
                obtain ⟨hi150, h⟩ := gi_s h
                refine hn_iast S hE 4 0 rfl rfl hi150 d_Mod_takeApart_150 (fun H locs hE => ?_)
                have hE : hn_E D (TY cI cZ) tt A s H locs [(h_this, .inr (6, [.int n_this_textSize, .ref h_this_text, .int n_this_size, .ref h_this_result, .int n_this_rowSize, .ref h_this_row, .ref h_this_other, .int n_this_count, .ref h_this_starts, .ref h_this_sizes, .ref h_this_rules, .ref h_this_tagged, .int n_this_poolSize, .ref h_this_pool, .int n_this_whole, .ref h_this_placed, .int n_this_bias])), (h_this_text, .inl (cI, 48, .inl f_this_text)), (h_this_result, .inl (cI, 2000, .inl f_this_result)), (h_this_row, .inl (cI, 200, .inl f_this_row)), (h_this_other, .inl (cI, 200, .inl (upd f_this_other (v4).toNatClampNeg v3))), (h_this_starts, .inl (cI, 50, .inl f_this_starts)), (h_this_sizes, .inl (cI, 50, .inl f_this_sizes)), (h_this_rules, .inl (cI, 50, .inl f_this_rules)), (h_this_tagged, .inl (cZ, 50, .inl f_this_tagged)), (h_this_pool, .inl (cI, 300, .inl f_this_pool)), (h_this_placed, .inl (cZ, 200, .inl f_this_placed))] := hE
                refine lv_iinc (v := (v2 + (1 : Int32))) (lv' := [(2, .int (v2 + (1 : Int32))), (0, .ref h_this), (1, .int v1), (3, .int v3), (4, .int v4)]) hx hb d_Mod_takeApart_151 hl (k := 2) rfl rfl (by decide) rfl (fun ls hl => ?_)
                refine lv_goto (tgt := 75) hx hb d_Mod_takeApart_154 (by decide) ?_
                exact hk75 (v2 + (1 : Int32)) (upd f_this_other (v4).toNatClampNeg v3) H locs ls hE (lv_sub hl [1, 2, 0] rfl) h
              · have h := ite_f hc h
                refine lv_aload_n hx hb d_Mod_takeApart_121 rfl (lv_at hl 0 rfl) ?_
                refine hn_get S hE kc_Mod 0 rfl rfl 6 (by decide) mw_492 rfl d_Mod_takeApart_122 ?_
                refine lv_iload hx hb d_Mod_takeApart_125 (lv_at hl 4 rfl) ?_
                refine lv_aload_n hx hb d_Mod_takeApart_127 rfl (lv_at hl 0 rfl) ?_
                refine hn_get S hE kc_Mod 0 rfl rfl 6 (by decide) mw_492 rfl d_Mod_takeApart_128 ?_
                refine lv_iload hx hb d_Mod_takeApart_131 (lv_at hl 4 rfl) ?_
                refine lv_iconst (v := 1) hx hb d_Mod_takeApart_133 (by decide) ?_
                refine lv_isub hx hb d_Mod_takeApart_134 ?_
                obtain ⟨hi135, h⟩ := gi_s h
                refine hn_iald S hE 4 0 rfl rfl hi135 d_Mod_takeApart_135 ?_
                obtain ⟨hi136, h⟩ := gi_s h
                refine hn_iast S hE 4 0 rfl rfl hi136 d_Mod_takeApart_136 (fun H locs hE => ?_)
                have hE : hn_E D (TY cI cZ) tt A s H locs [(h_this, .inr (6, [.int n_this_textSize, .ref h_this_text, .int n_this_size, .ref h_this_result, .int n_this_rowSize, .ref h_this_row, .ref h_this_other, .int n_this_count, .ref h_this_starts, .ref h_this_sizes, .ref h_this_rules, .ref h_this_tagged, .int n_this_poolSize, .ref h_this_pool, .int n_this_whole, .ref h_this_placed, .int n_this_bias])), (h_this_text, .inl (cI, 48, .inl f_this_text)), (h_this_result, .inl (cI, 2000, .inl f_this_result)), (h_this_row, .inl (cI, 200, .inl f_this_row)), (h_this_other, .inl (cI, 200, .inl (upd f_this_other (v4).toNatClampNeg (f_this_other ((v4 - (1 : Int32))).toNatClampNeg)))), (h_this_starts, .inl (cI, 50, .inl f_this_starts)), (h_this_sizes, .inl (cI, 50, .inl f_this_sizes)), (h_this_rules, .inl (cI, 50, .inl f_this_rules)), (h_this_tagged, .inl (cZ, 50, .inl f_this_tagged)), (h_this_pool, .inl (cI, 300, .inl f_this_pool)), (h_this_placed, .inl (cZ, 200, .inl f_this_placed))] := hE
                refine lv_iinc (v := (v4 + (-1 : Int32))) (lv' := [(4, .int (v4 + (-1 : Int32))), (0, .ref h_this), (1, .int v1), (2, .int v2), (3, .int v3)]) hx hb d_Mod_takeApart_137 hl (k := 4) rfl rfl (by decide) rfl (fun ls hl => ?_)
                refine lv_goto (tgt := 90) hx hb d_Mod_takeApart_140 (by decide) ?_
                exact hk90 (v4 + (-1 : Int32)) (upd f_this_other (v4).toNatClampNeg (f_this_other ((v4 - (1 : Int32))).toNatClampNeg)) H locs ls hE (lv_sub hl [1, 2, 3, 4, 0] rfl) h
      unfold P_Mod_takeApart_75 at h
      refine lv_iload_n hx hb d_Mod_takeApart_75 rfl (lv_at hl 2 rfl) ?_
      refine lv_iload_n hx hb d_Mod_takeApart_76 rfl (lv_at hl 1 rfl) ?_
      refine lv_icmp_ge (tgt := 157) hx hb d_Mod_takeApart_77 (by decide) (fun hc => ?_) (fun hc => ?_)
      · have h := ite_t hc h
        refine lv_aload_n hx hb d_Mod_takeApart_157 rfl (lv_at hl 0 rfl) ?_
        refine lv_iload_n hx hb d_Mod_takeApart_158 rfl (lv_at hl 1 rfl) ?_
        refine hn_put (tv := .int) S hE kc_Mod t_Mod_ok n_Mod 0 rfl rfl 4 (by decide) mw_490 rfl (by decide +kernel) rfl rfl (Nat.le_of_ble_eq_true rfl) d_Mod_takeApart_159 (fun H locs hE => ?_)
        have hE : hn_E D (TY cI cZ) tt A s H locs [(h_this, .inr (6, [.int n_this_textSize, .ref h_this_text, .int n_this_size, .ref h_this_result, .int v1, .ref h_this_row, .ref h_this_other, .int n_this_count, .ref h_this_starts, .ref h_this_sizes, .ref h_this_rules, .ref h_this_tagged, .int n_this_poolSize, .ref h_this_pool, .int n_this_whole, .ref h_this_placed, .int n_this_bias])), (h_this_text, .inl (cI, 48, .inl f_this_text)), (h_this_result, .inl (cI, 2000, .inl f_this_result)), (h_this_row, .inl (cI, 200, .inl f_this_row)), (h_this_other, .inl (cI, 200, .inl f_this_other)), (h_this_starts, .inl (cI, 50, .inl f_this_starts)), (h_this_sizes, .inl (cI, 50, .inl f_this_sizes)), (h_this_rules, .inl (cI, 50, .inl f_this_rules)), (h_this_tagged, .inl (cZ, 50, .inl f_this_tagged)), (h_this_pool, .inl (cI, 300, .inl f_this_pool)), (h_this_placed, .inl (cZ, 200, .inl f_this_placed))] := hE
        obtain rfl := Option.some.inj h
        exact hret H locs ls 162 d_Mod_takeApart_162 hE
      · have h := ite_f hc h
        refine lv_aload_n hx hb d_Mod_takeApart_80 rfl (lv_at hl 0 rfl) ?_
        refine hn_get S hE kc_Mod 0 rfl rfl 6 (by decide) mw_492 rfl d_Mod_takeApart_81 ?_
        refine lv_iload_n hx hb d_Mod_takeApart_84 rfl (lv_at hl 2 rfl) ?_
        obtain ⟨hi85, h⟩ := gi_s h
        refine hn_iald S hE 4 0 rfl rfl hi85 d_Mod_takeApart_85 ?_
        refine lv_istore_n (lv' := [(3, .int (f_this_other (v2).toNatClampNeg)), (0, .ref h_this), (1, .int v1), (2, .int v2)]) hx hb d_Mod_takeApart_86 rfl hl (by decide) rfl (fun ls hl => ?_)
        refine lv_iload_n hx hb d_Mod_takeApart_87 rfl (lv_at hl 3 rfl) ?_
        refine lv_istore (lv' := [(4, .int v2), (3, .int (f_this_other (v2).toNatClampNeg)), (0, .ref h_this), (1, .int v1), (2, .int v2)]) hx hb d_Mod_takeApart_88 hl (by decide) rfl (fun ls hl => ?_)
        exact hL90 v2 (f_this_other (v2).toNatClampNeg) fu v2 f_this_other H locs ls hE (lv_sub hl [2, 3, 4, 1, 0] rfl) h
  have hL4 : ∀ (n_this_rowSize : Int32) (kf : Nat) (v1 : Int32) (v2 : Int32) (f_this_other : Nat → Int32) (H : Heap) (locs : List Loc) (ls : Array Slot), hn_E D (TY cI cZ) tt A s H locs [(h_this, .inr (6, [.int n_this_textSize, .ref h_this_text, .int n_this_size, .ref h_this_result, .int n_this_rowSize, .ref h_this_row, .ref h_this_other, .int n_this_count, .ref h_this_starts, .ref h_this_sizes, .ref h_this_rules, .ref h_this_tagged, .int n_this_poolSize, .ref h_this_pool, .int n_this_whole, .ref h_this_placed, .int n_this_bias])), (h_this_text, .inl (cI, 48, .inl f_this_text)), (h_this_result, .inl (cI, 2000, .inl f_this_result)), (h_this_row, .inl (cI, 200, .inl f_this_row)), (h_this_other, .inl (cI, 200, .inl f_this_other)), (h_this_starts, .inl (cI, 50, .inl f_this_starts)), (h_this_sizes, .inl (cI, 50, .inl f_this_sizes)), (h_this_rules, .inl (cI, 50, .inl f_this_rules)), (h_this_tagged, .inl (cZ, 50, .inl f_this_tagged)), (h_this_pool, .inl (cI, 300, .inl f_this_pool)), (h_this_placed, .inl (cZ, 200, .inl f_this_placed))] → lv_has ls 5 [(0, .ref h_this), (1, .int v1), (2, .int v2)] → fl3 (P_Mod_takeApart_4 f_this_row n_this_rowSize) kf v1 v2 f_this_other = some o → W p l e rm_Mod_takeApart s m args below meth c H locs 0 0 Q (F0 m 4 ls []) := by
    intro n_this_rowSize kf
    induction kf with
    | zero => intro v1 v2 f_this_other H locs ls hE hl h; exact no_s h
    | succ kf ih =>
      intro v1 v2 f_this_other H locs ls hE hl h
      have h : P_Mod_takeApart_4 f_this_row n_this_rowSize (fl3 (P_Mod_takeApart_4 f_this_row n_this_rowSize) kf) v1 v2 f_this_other = some o := h
      generalize fl3 (P_Mod_takeApart_4 f_this_row n_this_rowSize) kf = k4 at ih h
      have hk4 := ih
      have hj41 : ∀ (v1 : Int32) (v2 : Int32) (v3 : Int32) (s0 : Int32) (s1 : Int32) (f_this_other : Nat → Int32) (H : Heap) (locs : List Loc) (ls : Array Slot), hn_E D (TY cI cZ) tt A s H locs [(h_this, .inr (6, [.int n_this_textSize, .ref h_this_text, .int n_this_size, .ref h_this_result, .int n_this_rowSize, .ref h_this_row, .ref h_this_other, .int n_this_count, .ref h_this_starts, .ref h_this_sizes, .ref h_this_rules, .ref h_this_tagged, .int n_this_poolSize, .ref h_this_pool, .int n_this_whole, .ref h_this_placed, .int n_this_bias])), (h_this_text, .inl (cI, 48, .inl f_this_text)), (h_this_result, .inl (cI, 2000, .inl f_this_result)), (h_this_row, .inl (cI, 200, .inl f_this_row)), (h_this_other, .inl (cI, 200, .inl f_this_other)), (h_this_starts, .inl (cI, 50, .inl f_this_starts)), (h_this_sizes, .inl (cI, 50, .inl f_this_sizes)), (h_this_rules, .inl (cI, 50, .inl f_this_rules)), (h_this_tagged, .inl (cZ, 50, .inl f_this_tagged)), (h_this_pool, .inl (cI, 300, .inl f_this_pool)), (h_this_placed, .inl (cZ, 200, .inl f_this_placed))] → lv_has ls 5 [(0, .ref h_this), (1, .int v1), (2, .int v2), (3, .int v3)] → P_Mod_takeApart_41 f_this_row k4 v1 v2 v3 s0 s1 f_this_other = some o → W p l e rm_Mod_takeApart s m args below meth c H locs 0 0 Q (F0 m 41 ls [.int s0, .int s1, .ref h_this_other]) := by
        intro v1 v2 v3 s0 s1 f_this_other H locs ls hE hl h
        unfold P_Mod_takeApart_41 at h
        obtain ⟨hi41, h⟩ := gi_s h
        refine hn_iast S hE 4 0 rfl rfl hi41 d_Mod_takeApart_41 (fun H locs hE => ?_)
        have hE : hn_E D (TY cI cZ) tt A s H locs [(h_this, .inr (6, [.int n_this_textSize, .ref h_this_text, .int n_this_size, .ref h_this_result, .int n_this_rowSize, .ref h_this_row, .ref h_this_other, .int n_this_count, .ref h_this_starts, .ref h_this_sizes, .ref h_this_rules, .ref h_this_tagged, .int n_this_poolSize, .ref h_this_pool, .int n_this_whole, .ref h_this_placed, .int n_this_bias])), (h_this_text, .inl (cI, 48, .inl f_this_text)), (h_this_result, .inl (cI, 2000, .inl f_this_result)), (h_this_row, .inl (cI, 200, .inl f_this_row)), (h_this_other, .inl (cI, 200, .inl (upd f_this_other (s1).toNatClampNeg s0))), (h_this_starts, .inl (cI, 50, .inl f_this_starts)), (h_this_sizes, .inl (cI, 50, .inl f_this_sizes)), (h_this_rules, .inl (cI, 50, .inl f_this_rules)), (h_this_tagged, .inl (cZ, 50, .inl f_this_tagged)), (h_this_pool, .inl (cI, 300, .inl f_this_pool)), (h_this_placed, .inl (cZ, 200, .inl f_this_placed))] := hE
        refine lv_iinc (v := (v1 + (1 : Int32))) (lv' := [(1, .int (v1 + (1 : Int32))), (0, .ref h_this), (2, .int v2), (3, .int v3)]) hx hb d_Mod_takeApart_42 hl (k := 1) rfl rfl (by decide) rfl (fun ls hl => ?_)
        refine lv_iload_n hx hb d_Mod_takeApart_45 rfl (lv_at hl 3 rfl) ?_
        refine lv_if_le (tgt := 67) hx hb d_Mod_takeApart_46 (by decide) (fun hc => ?_) (fun hc => ?_)
        · have h := ite_t hc h
          refine lv_iinc (v := (v2 + (1 : Int32))) (lv' := [(2, .int (v2 + (1 : Int32))), (1, .int (v1 + (1 : Int32))), (0, .ref h_this), (3, .int v3)]) hx hb d_Mod_takeApart_67 hl (k := 2) rfl rfl (by decide) rfl (fun ls hl => ?_)
          refine lv_goto (tgt := 4) hx hb d_Mod_takeApart_70 (by decide) ?_
          exact hk4 (v1 + (1 : Int32)) (v2 + (1 : Int32)) (upd f_this_other (s1).toNatClampNeg s0) H locs ls hE (lv_sub hl [2, 1, 0] rfl) h
        · have h := ite_f hc h
          refine lv_aload_n hx hb d_Mod_takeApart_49 rfl (lv_at hl 1 rfl) ?_
          refine hn_get S hE kc_Mod 0 rfl rfl 6 (by decide) mw_492 rfl d_Mod_takeApart_50 ?_
          refine lv_iload_n hx hb d_Mod_takeApart_53 rfl (lv_at hl 0 rfl) ?_
          refine lv_aload_n hx hb d_Mod_takeApart_54 rfl (lv_at hl 1 rfl) ?_
          refine hn_get S hE kc_Mod 0 rfl rfl 5 (by decide) mw_491 rfl d_Mod_takeApart_55 ?_
          refine lv_iload_n hx hb d_Mod_takeApart_58 rfl (lv_at hl 2 rfl) ?_
          obtain ⟨hi59, h⟩ := gi_s h
          refine hn_iald S hE 3 0 rfl rfl hi59 d_Mod_takeApart_59 ?_
          obtain ⟨x60, hc60, h⟩ := bd_s h
          have hM := (c_Mod_markOf l D cI cZ tt H.size (f_this_row (v2).toNatClampNeg) x60 hc60)
          refine hn_ci hE (hn_runS (As := [.int (f_this_row (v2).toNatClampNeg)]) (rest := [.int (v1 + (1 : Int32)), .ref h_this_other]) S hE hM cf_Mod_markOf mw_604 mw_605 ⟨rfl, rfl⟩ ⟨Nat.le_of_ble_eq_true rfl, Nat.le_of_ble_eq_true rfl⟩ [] rfl rfl rfl rfl hl.1 (lv_room (Nat.le_of_ble_eq_true rfl)) d_Mod_takeApart_60 ⟨Nat.zero_le _, Nat.zero_le _⟩) [] rfl rfl (fun H locs hE => ?_)
          have hE : hn_E D (TY cI cZ) tt A s H locs [(h_this, .inr (6, [.int n_this_textSize, .ref h_this_text, .int n_this_size, .ref h_this_result, .int n_this_rowSize, .ref h_this_row, .ref h_this_other, .int n_this_count, .ref h_this_starts, .ref h_this_sizes, .ref h_this_rules, .ref h_this_tagged, .int n_this_poolSize, .ref h_this_pool, .int n_this_whole, .ref h_this_placed, .int n_this_bias])), (h_this_text, .inl (cI, 48, .inl f_this_text)), (h_this_result, .inl (cI, 2000, .inl f_this_result)), (h_this_row, .inl (cI, 200, .inl f_this_row)), (h_this_other, .inl (cI, 200, .inl (upd f_this_other (s1).toNatClampNeg s0))), (h_this_starts, .inl (cI, 50, .inl f_this_starts)), (h_this_sizes, .inl (cI, 50, .inl f_this_sizes)), (h_this_rules, .inl (cI, 50, .inl f_this_rules)), (h_this_tagged, .inl (cZ, 50, .inl f_this_tagged)), (h_this_pool, .inl (cI, 300, .inl f_this_pool)), (h_this_placed, .inl (cZ, 200, .inl f_this_placed))] := hE
          obtain ⟨hi63, h⟩ := gi_s h
          refine hn_iast S hE 4 0 rfl rfl hi63 d_Mod_takeApart_63 (fun H locs hE => ?_)
          have hE : hn_E D (TY cI cZ) tt A s H locs [(h_this, .inr (6, [.int n_this_textSize, .ref h_this_text, .int n_this_size, .ref h_this_result, .int n_this_rowSize, .ref h_this_row, .ref h_this_other, .int n_this_count, .ref h_this_starts, .ref h_this_sizes, .ref h_this_rules, .ref h_this_tagged, .int n_this_poolSize, .ref h_this_pool, .int n_this_whole, .ref h_this_placed, .int n_this_bias])), (h_this_text, .inl (cI, 48, .inl f_this_text)), (h_this_result, .inl (cI, 2000, .inl f_this_result)), (h_this_row, .inl (cI, 200, .inl f_this_row)), (h_this_other, .inl (cI, 200, .inl (upd (upd f_this_other (s1).toNatClampNeg s0) ((v1 + (1 : Int32))).toNatClampNeg x60))), (h_this_starts, .inl (cI, 50, .inl f_this_starts)), (h_this_sizes, .inl (cI, 50, .inl f_this_sizes)), (h_this_rules, .inl (cI, 50, .inl f_this_rules)), (h_this_tagged, .inl (cZ, 50, .inl f_this_tagged)), (h_this_pool, .inl (cI, 300, .inl f_this_pool)), (h_this_placed, .inl (cZ, 200, .inl f_this_placed))] := hE
          refine lv_iinc (v := ((v1 + (1 : Int32)) + (1 : Int32))) (lv' := [(1, .int ((v1 + (1 : Int32)) + (1 : Int32))), (0, .ref h_this), (2, .int v2), (3, .int v3)]) hx hb d_Mod_takeApart_64 hl (k := 0) rfl rfl (by decide) rfl (fun ls hl => ?_)
          refine lv_iinc (v := (v2 + (1 : Int32))) (lv' := [(2, .int (v2 + (1 : Int32))), (1, .int ((v1 + (1 : Int32)) + (1 : Int32))), (0, .ref h_this), (3, .int v3)]) hx hb d_Mod_takeApart_67 hl (k := 2) rfl rfl (by decide) rfl (fun ls hl => ?_)
          refine lv_goto (tgt := 4) hx hb d_Mod_takeApart_70 (by decide) ?_
          exact hk4 ((v1 + (1 : Int32)) + (1 : Int32)) (v2 + (1 : Int32)) (upd (upd f_this_other (s1).toNatClampNeg s0) ((v1 + (1 : Int32))).toNatClampNeg x60) H locs ls hE (lv_sub hl [2, 1, 0] rfl) h
      unfold P_Mod_takeApart_4 at h
      refine lv_iload_n hx hb d_Mod_takeApart_4 rfl (lv_at hl 2 rfl) ?_
      refine lv_aload_n hx hb d_Mod_takeApart_5 rfl (lv_at hl 0 rfl) ?_
      refine hn_get S hE kc_Mod 0 rfl rfl 4 (by decide) mw_490 rfl d_Mod_takeApart_6 ?_
      refine lv_icmp_ge (tgt := 73) hx hb d_Mod_takeApart_9 (by decide) (fun hc => ?_) (fun hc => ?_)
      · have h := ite_t hc h
        refine lv_iconst (v := 0) hx hb d_Mod_takeApart_73 (by decide) ?_
        refine lv_istore_n (lv' := [(2, .int (0 : Int32)), (0, .ref h_this), (1, .int v1)]) hx hb d_Mod_takeApart_74 rfl hl (by decide) rfl (fun ls hl => ?_)
        exact hL75 v1 n_this_rowSize fu (0 : Int32) f_this_other H locs ls hE (lv_sub hl [1, 2, 0] rfl) h
      · have h := ite_f hc h
        refine lv_aload_n hx hb d_Mod_takeApart_12 rfl (lv_at hl 0 rfl) ?_
        refine hn_get S hE kc_Mod 0 rfl rfl 5 (by decide) mw_491 rfl d_Mod_takeApart_13 ?_
        refine lv_iload_n hx hb d_Mod_takeApart_16 rfl (lv_at hl 2 rfl) ?_
        obtain ⟨hi17, h⟩ := gi_s h
        refine hn_iald S hE 3 0 rfl rfl hi17 d_Mod_takeApart_17 ?_
        obtain ⟨x18, hc18, h⟩ := bd_s h
        have hM := (c_Mod_letterOf l D cI cZ tt H.size (f_this_row (v2).toNatClampNeg) x18 hc18)
        refine hn_ci hE (hn_runS (As := [.int (f_this_row (v2).toNatClampNeg)]) (rest := []) S hE hM cf_Mod_letterOf mw_598 mw_599 ⟨rfl, rfl⟩ ⟨Nat.le_of_ble_eq_true rfl, Nat.le_of_ble_eq_true rfl⟩ [] rfl rfl rfl rfl hl.1 (lv_room (Nat.le_of_ble_eq_true rfl)) d_Mod_takeApart_18 ⟨Nat.zero_le _, Nat.zero_le _⟩) [] rfl rfl (fun H locs hE => ?_)
        have hE : hn_E D (TY cI cZ) tt A s H locs [(h_this, .inr (6, [.int n_this_textSize, .ref h_this_text, .int n_this_size, .ref h_this_result, .int n_this_rowSize, .ref h_this_row, .ref h_this_other, .int n_this_count, .ref h_this_starts, .ref h_this_sizes, .ref h_this_rules, .ref h_this_tagged, .int n_this_poolSize, .ref h_this_pool, .int n_this_whole, .ref h_this_placed, .int n_this_bias])), (h_this_text, .inl (cI, 48, .inl f_this_text)), (h_this_result, .inl (cI, 2000, .inl f_this_result)), (h_this_row, .inl (cI, 200, .inl f_this_row)), (h_this_other, .inl (cI, 200, .inl f_this_other)), (h_this_starts, .inl (cI, 50, .inl f_this_starts)), (h_this_sizes, .inl (cI, 50, .inl f_this_sizes)), (h_this_rules, .inl (cI, 50, .inl f_this_rules)), (h_this_tagged, .inl (cZ, 50, .inl f_this_tagged)), (h_this_pool, .inl (cI, 300, .inl f_this_pool)), (h_this_placed, .inl (cZ, 200, .inl f_this_placed))] := hE
        refine lv_istore_n (lv' := [(3, .int x18), (0, .ref h_this), (1, .int v1), (2, .int v2)]) hx hb d_Mod_takeApart_21 rfl hl (by decide) rfl (fun ls hl => ?_)
        refine lv_aload_n hx hb d_Mod_takeApart_22 rfl (lv_at hl 1 rfl) ?_
        refine hn_get S hE kc_Mod 0 rfl rfl 6 (by decide) mw_492 rfl d_Mod_takeApart_23 ?_
        refine lv_iload_n hx hb d_Mod_takeApart_26 rfl (lv_at hl 2 rfl) ?_
        refine lv_iload_n hx hb d_Mod_takeApart_27 rfl (lv_at hl 0 rfl) ?_
        refine lv_if_le (tgt := 35) hx hb d_Mod_takeApart_28 (by decide) (fun hc => ?_) (fun hc => ?_)
        · have h := ite_t hc h
          refine lv_aload_n hx hb d_Mod_takeApart_35 rfl (lv_at hl 1 rfl) ?_
          refine hn_get S hE kc_Mod 0 rfl rfl 5 (by decide) mw_491 rfl d_Mod_takeApart_36 ?_
          refine lv_iload_n hx hb d_Mod_takeApart_39 rfl (lv_at hl 3 rfl) ?_
          obtain ⟨hi40, h⟩ := gi_s h
          refine hn_iald S hE 3 0 rfl rfl hi40 d_Mod_takeApart_40 ?_
          exact hj41 v1 v2 x18 (f_this_row (v2).toNatClampNeg) v1 f_this_other H locs ls hE (lv_sub hl [1, 2, 3, 0] rfl) h
        · have h := ite_f hc h
          refine lv_iload_n hx hb d_Mod_takeApart_31 rfl (lv_at hl 0 rfl) ?_
          refine lv_goto (tgt := 41) hx hb d_Mod_takeApart_32 (by decide) ?_
          exact hj41 v1 v2 x18 x18 v1 f_this_other H locs ls hE (lv_sub hl [1, 2, 3, 0] rfl) h
  unfold P_Mod_takeApart at h
  refine lv_iconst (v := 0) hx hb d_Mod_takeApart_0 (by decide) ?_
  refine lv_istore_n (lv' := [(1, .int (0 : Int32)), (0, .ref h_this)]) hx hb d_Mod_takeApart_1 rfl hl (by decide) rfl (fun ls hl => ?_)
  refine lv_iconst (v := 0) hx hb d_Mod_takeApart_2 (by decide) ?_
  refine lv_istore_n (lv' := [(2, .int (0 : Int32)), (1, .int (0 : Int32)), (0, .ref h_this)]) hx hb d_Mod_takeApart_3 rfl hl (by decide) rfl (fun ls hl => ?_)
  exact hL4 n_this_rowSize fu (0 : Int32) (0 : Int32) f_this_other H locs ls hE (lv_sub hl [2, 1, 0] rfl) h
abbrev rm_Mod_composeRow : Room := { frames := 4, cells := 0, slots := 0, locals := 91 }
theorem cf_Mod_composeRow : hn_CF y_Mod_composeRow b_Mod_composeRow 7 none 0 := ⟨mw_593, mw_7, by decide, by decide, by decide +kernel⟩
set_option maxHeartbeats 4000000 in
set_option maxRecDepth 100000 in
theorem c_Mod_composeRow (l : Launch) (D : va_G) (cI cZ : ClassId) (tt : Nat → Nat) (h_this h_this_text h_this_result h_this_row h_this_other h_this_starts h_this_sizes h_this_rules h_this_tagged h_this_pool h_this_placed : Nat) (sz : Nat) (n_this_textSize : Int32) (n_this_size : Int32) (n_this_rowSize : Int32) (n_this_count : Int32) (n_this_poolSize : Int32) (n_this_whole : Int32) (n_this_bias : Int32) (f_this_text : Nat → Int32) (f_this_result : Nat → Int32) (f_this_row : Nat → Int32) (f_this_other : Nat → Int32) (f_this_starts : Nat → Int32) (f_this_sizes : Nat → Int32) (f_this_rules : Nat → Int32) (f_this_tagged : Nat → Int32) (f_this_pool : Nat → Int32) (f_this_placed : Nat → Int32) (o : Int32 × (Nat → Int32) × (Nat → Int32)) (h : P_Mod_composeRow n_this_rowSize f_this_row f_this_other = some o) : Met l y_Mod_composeRow (hn_w y_Mod_composeRow b_Mod_composeRow 7 none) rm_Mod_composeRow (hn_Pc D (TY cI cZ) tt [.ref h_this] sz [(h_this, .inr (6, [.int n_this_textSize, .ref h_this_text, .int n_this_size, .ref h_this_result, .int n_this_rowSize, .ref h_this_row, .ref h_this_other, .int n_this_count, .ref h_this_starts, .ref h_this_sizes, .ref h_this_rules, .ref h_this_tagged, .int n_this_poolSize, .ref h_this_pool, .int n_this_whole, .ref h_this_placed, .int n_this_bias])), (h_this_text, .inl (cI, 48, .inl f_this_text)), (h_this_result, .inl (cI, 2000, .inl f_this_result)), (h_this_row, .inl (cI, 200, .inl f_this_row)), (h_this_other, .inl (cI, 200, .inl f_this_other)), (h_this_starts, .inl (cI, 50, .inl f_this_starts)), (h_this_sizes, .inl (cI, 50, .inl f_this_sizes)), (h_this_rules, .inl (cI, 50, .inl f_this_rules)), (h_this_tagged, .inl (cZ, 50, .inl f_this_tagged)), (h_this_pool, .inl (cI, 300, .inl f_this_pool)), (h_this_placed, .inl (cZ, 200, .inl f_this_placed))]) (hn_Qv D [(h_this, .inr (6, [.int n_this_textSize, .ref h_this_text, .int n_this_size, .ref h_this_result, .int n_this_rowSize, .ref h_this_row, .ref h_this_other, .int n_this_count, .ref h_this_starts, .ref h_this_sizes, .ref h_this_rules, .ref h_this_tagged, .int n_this_poolSize, .ref h_this_pool, .int n_this_whole, .ref h_this_placed, .int n_this_bias])), (h_this_text, .inl (cI, 48, .inl f_this_text)), (h_this_result, .inl (cI, 2000, .inl f_this_result)), (h_this_row, .inl (cI, 200, .inl f_this_row)), (h_this_other, .inl (cI, 200, .inl f_this_other)), (h_this_starts, .inl (cI, 50, .inl f_this_starts)), (h_this_sizes, .inl (cI, 50, .inl f_this_sizes)), (h_this_rules, .inl (cI, 50, .inl f_this_rules)), (h_this_tagged, .inl (cZ, 50, .inl f_this_tagged)), (h_this_pool, .inl (cI, 300, .inl f_this_pool)), (h_this_placed, .inl (cZ, 200, .inl f_this_placed))] sz [(h_this, .inr (6, [.int n_this_textSize, .ref h_this_text, .int n_this_size, .ref h_this_result, .int o.1, .ref h_this_row, .ref h_this_other, .int n_this_count, .ref h_this_starts, .ref h_this_sizes, .ref h_this_rules, .ref h_this_tagged, .int n_this_poolSize, .ref h_this_pool, .int n_this_whole, .ref h_this_placed, .int n_this_bias])), (h_this_text, .inl (cI, 48, .inl f_this_text)), (h_this_result, .inl (cI, 2000, .inl f_this_result)), (h_this_row, .inl (cI, 200, .inl o.2.1)), (h_this_other, .inl (cI, 200, .inl o.2.2)), (h_this_starts, .inl (cI, 50, .inl f_this_starts)), (h_this_sizes, .inl (cI, 50, .inl f_this_sizes)), (h_this_rules, .inl (cI, 50, .inl f_this_rules)), (h_this_tagged, .inl (cZ, 50, .inl f_this_tagged)), (h_this_pool, .inl (cI, 300, .inl f_this_pool)), (h_this_placed, .inl (cZ, 200, .inl f_this_placed))]) 0 0 (va_A [(h_this, .inr (6, [.int n_this_textSize, .ref h_this_text, .int n_this_size, .ref h_this_result, .int n_this_rowSize, .ref h_this_row, .ref h_this_other, .int n_this_count, .ref h_this_starts, .ref h_this_sizes, .ref h_this_rules, .ref h_this_tagged, .int n_this_poolSize, .ref h_this_pool, .int n_this_whole, .ref h_this_placed, .int n_this_bias])), (h_this_text, .inl (cI, 48, .inl f_this_text)), (h_this_result, .inl (cI, 2000, .inl f_this_result)), (h_this_row, .inl (cI, 200, .inl f_this_row)), (h_this_other, .inl (cI, 200, .inl f_this_other)), (h_this_starts, .inl (cI, 50, .inl f_this_starts)), (h_this_sizes, .inl (cI, 50, .inl f_this_sizes)), (h_this_rules, .inl (cI, 50, .inl f_this_rules)), (h_this_tagged, .inl (cZ, 50, .inl f_this_tagged)), (h_this_pool, .inl (cI, 300, .inl f_this_pool)), (h_this_placed, .inl (cZ, 200, .inl f_this_placed))] sz) := by
  refine hn_ofWv (own := R_Mod) (by decide) rfl (Nat.le_of_ble_eq_true rfl) ?_
  intro p e s m args below meth c A H locs ls Q S hE hl hret
  have hx := S.1
  have hb := S.2.1
  have hown := S.2.2.2.1
  have hl : lv_has ls 7 [(0, .ref h_this)] := hl
  have hL10 : ∀ (n_this_rowSize : Int32) (f_this_other : Nat → Int32) (kf : Nat) (v1 : Int32) (v2 : Int32) (v3 : Int32) (f_this_row : Nat → Int32) (H : Heap) (locs : List Loc) (ls : Array Slot), hn_E D (TY cI cZ) tt A s H locs [(h_this, .inr (6, [.int n_this_textSize, .ref h_this_text, .int n_this_size, .ref h_this_result, .int n_this_rowSize, .ref h_this_row, .ref h_this_other, .int n_this_count, .ref h_this_starts, .ref h_this_sizes, .ref h_this_rules, .ref h_this_tagged, .int n_this_poolSize, .ref h_this_pool, .int n_this_whole, .ref h_this_placed, .int n_this_bias])), (h_this_text, .inl (cI, 48, .inl f_this_text)), (h_this_result, .inl (cI, 2000, .inl f_this_result)), (h_this_row, .inl (cI, 200, .inl f_this_row)), (h_this_other, .inl (cI, 200, .inl f_this_other)), (h_this_starts, .inl (cI, 50, .inl f_this_starts)), (h_this_sizes, .inl (cI, 50, .inl f_this_sizes)), (h_this_rules, .inl (cI, 50, .inl f_this_rules)), (h_this_tagged, .inl (cZ, 50, .inl f_this_tagged)), (h_this_pool, .inl (cI, 300, .inl f_this_pool)), (h_this_placed, .inl (cZ, 200, .inl f_this_placed))] → lv_has ls 7 [(0, .ref h_this), (1, .int v1), (2, .int v2), (3, .int v3)] → fl4 (P_Mod_composeRow_10 n_this_rowSize f_this_other) kf v1 v2 v3 f_this_row = some o → W p l e rm_Mod_composeRow s m args below meth c H locs 0 0 Q (F0 m 10 ls []) := by
    intro n_this_rowSize f_this_other kf
    induction kf with
    | zero => intro v1 v2 v3 f_this_row H locs ls hE hl h; exact no_s h
    | succ kf ih =>
      intro v1 v2 v3 f_this_row H locs ls hE hl h
      have h : P_Mod_composeRow_10 n_this_rowSize f_this_other (fl4 (P_Mod_composeRow_10 n_this_rowSize f_this_other) kf) v1 v2 v3 f_this_row = some o := h
      generalize fl4 (P_Mod_composeRow_10 n_this_rowSize f_this_other) kf = k10 at ih h
      have hk10 := ih
      have hj143 : ∀ (v1 : Int32) (v3 : Int32) (v4 : Int32) (s0 : Int32) (f_this_row : Nat → Int32) (H : Heap) (locs : List Loc) (ls : Array Slot), hn_E D (TY cI cZ) tt A s H locs [(h_this, .inr (6, [.int n_this_textSize, .ref h_this_text, .int n_this_size, .ref h_this_result, .int n_this_rowSize, .ref h_this_row, .ref h_this_other, .int n_this_count, .ref h_this_starts, .ref h_this_sizes, .ref h_this_rules, .ref h_this_tagged, .int n_this_poolSize, .ref h_this_pool, .int n_this_whole, .ref h_this_placed, .int n_this_bias])), (h_this_text, .inl (cI, 48, .inl f_this_text)), (h_this_result, .inl (cI, 2000, .inl f_this_result)), (h_this_row, .inl (cI, 200, .inl f_this_row)), (h_this_other, .inl (cI, 200, .inl f_this_other)), (h_this_starts, .inl (cI, 50, .inl f_this_starts)), (h_this_sizes, .inl (cI, 50, .inl f_this_sizes)), (h_this_rules, .inl (cI, 50, .inl f_this_rules)), (h_this_tagged, .inl (cZ, 50, .inl f_this_tagged)), (h_this_pool, .inl (cI, 300, .inl f_this_pool)), (h_this_placed, .inl (cZ, 200, .inl f_this_placed))] → lv_has ls 7 [(0, .ref h_this), (1, .int v1), (3, .int v3), (4, .int v4)] → P_Mod_composeRow_143 k10 v1 v3 v4 s0 f_this_row = some o → W p l e rm_Mod_composeRow s m args below meth c H locs 0 0 Q (F0 m 143 ls [.int s0]) := by
        intro v1 v3 v4 s0 f_this_row H locs ls hE hl h
        unfold P_Mod_composeRow_143 at h
        refine lv_istore_n (lv' := [(2, .int s0), (0, .ref h_this), (1, .int v1), (3, .int v3), (4, .int v4)]) hx hb d_Mod_composeRow_143 rfl hl (by decide) rfl (fun ls hl => ?_)
        refine lv_aload_n hx hb d_Mod_composeRow_144 rfl (lv_at hl 1 rfl) ?_
        refine hn_get S hE kc_Mod 0 rfl rfl 5 (by decide) mw_491 rfl d_Mod_composeRow_145 ?_
        refine lv_iload_n hx hb d_Mod_composeRow_148 rfl (lv_at hl 2 rfl) ?_
        refine lv_iload hx hb d_Mod_composeRow_149 (lv_at hl 4 rfl) ?_
        obtain ⟨hi151, h⟩ := gi_s h
        refine hn_iast S hE 3 0 rfl rfl hi151 d_Mod_composeRow_151 (fun H locs hE => ?_)
        have hE : hn_E D (TY cI cZ) tt A s H locs [(h_this, .inr (6, [.int n_this_textSize, .ref h_this_text, .int n_this_size, .ref h_this_result, .int n_this_rowSize, .ref h_this_row, .ref h_this_other, .int n_this_count, .ref h_this_starts, .ref h_this_sizes, .ref h_this_rules, .ref h_this_tagged, .int n_this_poolSize, .ref h_this_pool, .int n_this_whole, .ref h_this_placed, .int n_this_bias])), (h_this_text, .inl (cI, 48, .inl f_this_text)), (h_this_result, .inl (cI, 2000, .inl f_this_result)), (h_this_row, .inl (cI, 200, .inl (upd f_this_row (v1).toNatClampNeg v4))), (h_this_other, .inl (cI, 200, .inl f_this_other)), (h_this_starts, .inl (cI, 50, .inl f_this_starts)), (h_this_sizes, .inl (cI, 50, .inl f_this_sizes)), (h_this_rules, .inl (cI, 50, .inl f_this_rules)), (h_this_tagged, .inl (cZ, 50, .inl f_this_tagged)), (h_this_pool, .inl (cI, 300, .inl f_this_pool)), (h_this_placed, .inl (cZ, 200, .inl f_this_placed))] := hE
        refine lv_iinc (v := (v1 + (1 : Int32))) (lv' := [(1, .int (v1 + (1 : Int32))), (2, .int s0), (0, .ref h_this), (3, .int v3), (4, .int v4)]) hx hb d_Mod_composeRow_152 hl (k := 2) rfl rfl (by decide) rfl (fun ls hl => ?_)
        refine lv_iinc (v := (v3 + (1 : Int32))) (lv' := [(3, .int (v3 + (1 : Int32))), (1, .int (v1 + (1 : Int32))), (2, .int s0), (0, .ref h_this), (4, .int v4)]) hx hb d_Mod_composeRow_155 hl (k := 3) rfl rfl (by decide) rfl (fun ls hl => ?_)
        refine lv_goto (tgt := 10) hx hb d_Mod_composeRow_158 (by decide) ?_
        exact hk10 (v1 + (1 : Int32)) s0 (v3 + (1 : Int32)) (upd f_this_row (v1).toNatClampNeg v4) H locs ls hE (lv_sub hl [3, 1, 2, 0] rfl) h
      have hj112 : ∀ (v1 : Int32) (v2 : Int32) (v3 : Int32) (v4 : Int32) (s0 : Int32) (f_this_row : Nat → Int32) (H : Heap) (locs : List Loc) (ls : Array Slot), hn_E D (TY cI cZ) tt A s H locs [(h_this, .inr (6, [.int n_this_textSize, .ref h_this_text, .int n_this_size, .ref h_this_result, .int n_this_rowSize, .ref h_this_row, .ref h_this_other, .int n_this_count, .ref h_this_starts, .ref h_this_sizes, .ref h_this_rules, .ref h_this_tagged, .int n_this_poolSize, .ref h_this_pool, .int n_this_whole, .ref h_this_placed, .int n_this_bias])), (h_this_text, .inl (cI, 48, .inl f_this_text)), (h_this_result, .inl (cI, 2000, .inl f_this_result)), (h_this_row, .inl (cI, 200, .inl f_this_row)), (h_this_other, .inl (cI, 200, .inl f_this_other)), (h_this_starts, .inl (cI, 50, .inl f_this_starts)), (h_this_sizes, .inl (cI, 50, .inl f_this_sizes)), (h_this_rules, .inl (cI, 50, .inl f_this_rules)), (h_this_tagged, .inl (cZ, 50, .inl f_this_tagged)), (h_this_pool, .inl (cI, 300, .inl f_this_pool)), (h_this_placed, .inl (cZ, 200, .inl f_this_placed))] → lv_has ls 7 [(0, .ref h_this), (1, .int v1), (2, .int v2), (3, .int v3), (4, .int v4)] → P_Mod_composeRow_112 k10 v1 v2 v3 v4 s0 f_this_row = some o → W p l e rm_Mod_composeRow s m args below meth c H locs 0 0 Q (F0 m 112 ls [.int s0]) := by
        intro v1 v2 v3 v4 s0 f_this_row H locs ls hE hl h
        unfold P_Mod_composeRow_112 at h
        refine lv_istore (lv' := [(6, .int s0), (0, .ref h_this), (1, .int v1), (2, .int v2), (3, .int v3), (4, .int v4)]) hx hb d_Mod_composeRow_112 hl (by decide) rfl (fun ls hl => ?_)
        refine lv_iload hx hb d_Mod_composeRow_114 (lv_at hl 0 rfl) ?_
        refine lv_if_le (tgt := 130) hx hb d_Mod_composeRow_116 (by decide) (fun hc => ?_) (fun hc => ?_)
        · have h := ite_t hc h
          refine lv_iload hx hb d_Mod_composeRow_130 (lv_at hl 5 rfl) ?_
          obtain ⟨x132, hc132, h⟩ := bd_s h
          have hM := (c_Mod_order l D cI cZ tt H.size v4 x132 hc132)
          refine hn_ci hE (hn_runS (As := [.int v4]) (rest := []) S hE hM cf_Mod_order mw_586 mw_587 ⟨rfl, rfl⟩ ⟨Nat.le_of_ble_eq_true rfl, Nat.le_of_ble_eq_true rfl⟩ [] rfl rfl rfl rfl hl.1 (lv_room (Nat.le_of_ble_eq_true rfl)) d_Mod_composeRow_132 ⟨Nat.zero_le _, Nat.zero_le _⟩) [] rfl rfl (fun H locs hE => ?_)
          have hE : hn_E D (TY cI cZ) tt A s H locs [(h_this, .inr (6, [.int n_this_textSize, .ref h_this_text, .int n_this_size, .ref h_this_result, .int n_this_rowSize, .ref h_this_row, .ref h_this_other, .int n_this_count, .ref h_this_starts, .ref h_this_sizes, .ref h_this_rules, .ref h_this_tagged, .int n_this_poolSize, .ref h_this_pool, .int n_this_whole, .ref h_this_placed, .int n_this_bias])), (h_this_text, .inl (cI, 48, .inl f_this_text)), (h_this_result, .inl (cI, 2000, .inl f_this_result)), (h_this_row, .inl (cI, 200, .inl f_this_row)), (h_this_other, .inl (cI, 200, .inl f_this_other)), (h_this_starts, .inl (cI, 50, .inl f_this_starts)), (h_this_sizes, .inl (cI, 50, .inl f_this_sizes)), (h_this_rules, .inl (cI, 50, .inl f_this_rules)), (h_this_tagged, .inl (cZ, 50, .inl f_this_tagged)), (h_this_pool, .inl (cI, 300, .inl f_this_pool)), (h_this_placed, .inl (cZ, 200, .inl f_this_placed))] := hE
          refine lv_if_ne (tgt := 142) hx hb d_Mod_composeRow_135 (by decide) (fun hc => ?_) (fun hc => ?_)
          · have h := ite_f hc h
            refine lv_iload_n hx hb d_Mod_composeRow_142 rfl (lv_at hl 3 rfl) ?_
            exact hj143 v1 v3 v4 v2 f_this_row H locs ls hE (lv_sub hl [1, 2, 4, 5] rfl) h
          · have h := ite_t hc h
            refine lv_iload_n hx hb d_Mod_composeRow_138 rfl (lv_at hl 2 rfl) ?_
            refine lv_goto (tgt := 143) hx hb d_Mod_composeRow_139 (by decide) ?_
            exact hj143 v1 v3 v4 v1 f_this_row H locs ls hE (lv_sub hl [1, 2, 4, 5] rfl) h
        · have h := ite_f hc h
          refine lv_aload_n hx hb d_Mod_composeRow_119 rfl (lv_at hl 1 rfl) ?_
          refine hn_get S hE kc_Mod 0 rfl rfl 5 (by decide) mw_491 rfl d_Mod_composeRow_120 ?_
          refine lv_iload_n hx hb d_Mod_composeRow_123 rfl (lv_at hl 3 rfl) ?_
          refine lv_iload hx hb d_Mod_composeRow_124 (lv_at hl 0 rfl) ?_
          obtain ⟨hi126, h⟩ := gi_s h
          refine hn_iast S hE 3 0 rfl rfl hi126 d_Mod_composeRow_126 (fun H locs hE => ?_)
          have hE : hn_E D (TY cI cZ) tt A s H locs [(h_this, .inr (6, [.int n_this_textSize, .ref h_this_text, .int n_this_size, .ref h_this_result, .int n_this_rowSize, .ref h_this_row, .ref h_this_other, .int n_this_count, .ref h_this_starts, .ref h_this_sizes, .ref h_this_rules, .ref h_this_tagged, .int n_this_poolSize, .ref h_this_pool, .int n_this_whole, .ref h_this_placed, .int n_this_bias])), (h_this_text, .inl (cI, 48, .inl f_this_text)), (h_this_result, .inl (cI, 2000, .inl f_this_result)), (h_this_row, .inl (cI, 200, .inl (upd f_this_row (v2).toNatClampNeg s0))), (h_this_other, .inl (cI, 200, .inl f_this_other)), (h_this_starts, .inl (cI, 50, .inl f_this_starts)), (h_this_sizes, .inl (cI, 50, .inl f_this_sizes)), (h_this_rules, .inl (cI, 50, .inl f_this_rules)), (h_this_tagged, .inl (cZ, 50, .inl f_this_tagged)), (h_this_pool, .inl (cI, 300, .inl f_this_pool)), (h_this_placed, .inl (cZ, 200, .inl f_this_placed))] := hE
          refine lv_goto (tgt := 155) hx hb d_Mod_composeRow_127 (by decide) ?_
          refine lv_iinc (v := (v3 + (1 : Int32))) (lv' := [(3, .int (v3 + (1 : Int32))), (6, .int s0), (0, .ref h_this), (1, .int v1), (2, .int v2), (4, .int v4)]) hx hb d_Mod_composeRow_155 hl (k := 4) rfl rfl (by decide) rfl (fun ls hl => ?_)
          refine lv_goto (tgt := 10) hx hb d_Mod_composeRow_158 (by decide) ?_
          exact hk10 v1 v2 (v3 + (1 : Int32)) (upd f_this_row (v2).toNatClampNeg s0) H locs ls hE (lv_sub hl [2, 3, 4, 0] rfl) h
      have hL50 : ∀ (v1 : Int32) (v2 : Int32) (v3 : Int32) (v4 : Int32) (f_this_row : Nat → Int32) (kf : Nat) (v5 : Int32) (v6 : Int32) (H : Heap) (locs : List Loc) (ls : Array Slot), hn_E D (TY cI cZ) tt A s H locs [(h_this, .inr (6, [.int n_this_textSize, .ref h_this_text, .int n_this_size, .ref h_this_result, .int n_this_rowSize, .ref h_this_row, .ref h_this_other, .int n_this_count, .ref h_this_starts, .ref h_this_sizes, .ref h_this_rules, .ref h_this_tagged, .int n_this_poolSize, .ref h_this_pool, .int n_this_whole, .ref h_this_placed, .int n_this_bias])), (h_this_text, .inl (cI, 48, .inl f_this_text)), (h_this_result, .inl (cI, 2000, .inl f_this_result)), (h_this_row, .inl (cI, 200, .inl f_this_row)), (h_this_other, .inl (cI, 200, .inl f_this_other)), (h_this_starts, .inl (cI, 50, .inl f_this_starts)), (h_this_sizes, .inl (cI, 50, .inl f_this_sizes)), (h_this_rules, .inl (cI, 50, .inl f_this_rules)), (h_this_tagged, .inl (cZ, 50, .inl f_this_tagged)), (h_this_pool, .inl (cI, 300, .inl f_this_pool)), (h_this_placed, .inl (cZ, 200, .inl f_this_placed))] → lv_has ls 7 [(0, .ref h_this), (1, .int v1), (2, .int v2), (3, .int v3), (4, .int v4), (5, .int v5), (6, .int v6)] → fl2 (P_Mod_composeRow_50 k10 v1 v2 v3 v4 f_this_row) kf v5 v6 = some o → W p l e rm_Mod_composeRow s m args below meth c H locs 0 0 Q (F0 m 50 ls []) := by
        intro v1 v2 v3 v4 f_this_row kf
        induction kf with
        | zero => intro v5 v6 H locs ls hE hl h; exact no_s h
        | succ kf ih =>
          intro v5 v6 H locs ls hE hl h
          have h : P_Mod_composeRow_50 k10 v1 v2 v3 v4 f_this_row (fl2 (P_Mod_composeRow_50 k10 v1 v2 v3 v4 f_this_row) kf) v5 v6 = some o := h
          generalize fl2 (P_Mod_composeRow_50 k10 v1 v2 v3 v4 f_this_row) kf = k50 at ih h
          have hk50 := ih
          unfold P_Mod_composeRow_50 at h
          refine lv_iload hx hb d_Mod_composeRow_50 (lv_at hl 6 rfl) ?_
          refine lv_iload_n hx hb d_Mod_composeRow_52 rfl (lv_at hl 1 rfl) ?_
          refine lv_icmp_ge (tgt := 92) hx hb d_Mod_composeRow_53 (by decide) (fun hc => ?_) (fun hc => ?_)
          · have h := ite_t hc h
            refine lv_iload hx hb d_Mod_composeRow_92 (lv_at hl 5 rfl) ?_
            refine lv_if_eq (tgt := 111) hx hb d_Mod_composeRow_94 (by decide) (fun hc => ?_) (fun hc => ?_)
            · have h := ite_t hc h
              refine lv_iconst (v := 0) hx hb d_Mod_composeRow_111 (by decide) ?_
              exact hj112 v1 v2 v3 v4 (0 : Int32) f_this_row H locs ls hE (lv_sub hl [0, 1, 2, 3, 4] rfl) h
            · have h := ite_f hc h
              refine lv_aload_n hx hb d_Mod_composeRow_97 rfl (lv_at hl 0 rfl) ?_
              refine hn_get S hE kc_Mod 0 rfl rfl 5 (by decide) mw_491 rfl d_Mod_composeRow_98 ?_
              refine lv_iload_n hx hb d_Mod_composeRow_101 rfl (lv_at hl 2 rfl) ?_
              obtain ⟨hi102, h⟩ := gi_s h
              refine hn_iald S hE 3 0 rfl rfl hi102 d_Mod_composeRow_102 ?_
              refine lv_iload hx hb d_Mod_composeRow_103 (lv_at hl 4 rfl) ?_
              obtain ⟨x105, hc105, h⟩ := bd_s h
              have hM := (c_Mod_pair l D cI cZ tt H.size (f_this_row (v2).toNatClampNeg) v4 x105 hc105)
              refine hn_ci hE (hn_runS (As := [.int (f_this_row (v2).toNatClampNeg), .int v4]) (rest := []) S hE hM cf_Mod_pair mw_601 mw_602 ⟨rfl, rfl⟩ ⟨Nat.le_of_ble_eq_true rfl, Nat.le_of_ble_eq_true rfl⟩ [] rfl rfl rfl rfl hl.1 (lv_room (Nat.le_of_ble_eq_true rfl)) d_Mod_composeRow_105 ⟨Nat.zero_le _, Nat.zero_le _⟩) [] rfl rfl (fun H locs hE => ?_)
              have hE : hn_E D (TY cI cZ) tt A s H locs [(h_this, .inr (6, [.int n_this_textSize, .ref h_this_text, .int n_this_size, .ref h_this_result, .int n_this_rowSize, .ref h_this_row, .ref h_this_other, .int n_this_count, .ref h_this_starts, .ref h_this_sizes, .ref h_this_rules, .ref h_this_tagged, .int n_this_poolSize, .ref h_this_pool, .int n_this_whole, .ref h_this_placed, .int n_this_bias])), (h_this_text, .inl (cI, 48, .inl f_this_text)), (h_this_result, .inl (cI, 2000, .inl f_this_result)), (h_this_row, .inl (cI, 200, .inl f_this_row)), (h_this_other, .inl (cI, 200, .inl f_this_other)), (h_this_starts, .inl (cI, 50, .inl f_this_starts)), (h_this_sizes, .inl (cI, 50, .inl f_this_sizes)), (h_this_rules, .inl (cI, 50, .inl f_this_rules)), (h_this_tagged, .inl (cZ, 50, .inl f_this_tagged)), (h_this_pool, .inl (cI, 300, .inl f_this_pool)), (h_this_placed, .inl (cZ, 200, .inl f_this_placed))] := hE
              refine lv_goto (tgt := 112) hx hb d_Mod_composeRow_108 (by decide) ?_
              exact hj112 v1 v2 v3 v4 x105 f_this_row H locs ls hE (lv_sub hl [0, 1, 2, 3, 4] rfl) h
          · have h := ite_f hc h
            refine lv_iload hx hb d_Mod_composeRow_56 (lv_at hl 5 rfl) ?_
            refine lv_if_eq (tgt := 83) hx hb d_Mod_composeRow_58 (by decide) (fun hc => ?_) (fun hc => ?_)
            · have h := ite_t hc h
              refine lv_iconst (v := 0) hx hb d_Mod_composeRow_83 (by decide) ?_
              refine lv_istore (lv' := [(5, .int (0 : Int32)), (0, .ref h_this), (1, .int v1), (2, .int v2), (3, .int v3), (4, .int v4), (6, .int v6)]) hx hb d_Mod_composeRow_84 hl (by decide) rfl (fun ls hl => ?_)
              refine lv_iinc (v := (v6 + (1 : Int32))) (lv' := [(6, .int (v6 + (1 : Int32))), (5, .int (0 : Int32)), (0, .ref h_this), (1, .int v1), (2, .int v2), (3, .int v3), (4, .int v4)]) hx hb d_Mod_composeRow_86 hl (k := 6) rfl rfl (by decide) rfl (fun ls hl => ?_)
              refine lv_goto (tgt := 50) hx hb d_Mod_composeRow_89 (by decide) ?_
              exact hk50 (0 : Int32) (v6 + (1 : Int32)) H locs ls hE (lv_sub hl [2, 3, 4, 5, 6, 1, 0] rfl) h
            · have h := ite_f hc h
              refine lv_aload_n hx hb d_Mod_composeRow_61 rfl (lv_at hl 0 rfl) ?_
              refine hn_get S hE kc_Mod 0 rfl rfl 5 (by decide) mw_491 rfl d_Mod_composeRow_62 ?_
              refine lv_iload hx hb d_Mod_composeRow_65 (lv_at hl 6 rfl) ?_
              obtain ⟨hi67, h⟩ := gi_s h
              refine hn_iald S hE 3 0 rfl rfl hi67 d_Mod_composeRow_67 ?_
              obtain ⟨x68, hc68, h⟩ := bd_s h
              have hM := (c_Mod_order l D cI cZ tt H.size (f_this_row (v6).toNatClampNeg) x68 hc68)
              refine hn_ci hE (hn_runS (As := [.int (f_this_row (v6).toNatClampNeg)]) (rest := []) S hE hM cf_Mod_order mw_586 mw_587 ⟨rfl, rfl⟩ ⟨Nat.le_of_ble_eq_true rfl, Nat.le_of_ble_eq_true rfl⟩ [] rfl rfl rfl rfl hl.1 (lv_room (Nat.le_of_ble_eq_true rfl)) d_Mod_composeRow_68 ⟨Nat.zero_le _, Nat.zero_le _⟩) [] rfl rfl (fun H locs hE => ?_)
              have hE : hn_E D (TY cI cZ) tt A s H locs [(h_this, .inr (6, [.int n_this_textSize, .ref h_this_text, .int n_this_size, .ref h_this_result, .int n_this_rowSize, .ref h_this_row, .ref h_this_other, .int n_this_count, .ref h_this_starts, .ref h_this_sizes, .ref h_this_rules, .ref h_this_tagged, .int n_this_poolSize, .ref h_this_pool, .int n_this_whole, .ref h_this_placed, .int n_this_bias])), (h_this_text, .inl (cI, 48, .inl f_this_text)), (h_this_result, .inl (cI, 2000, .inl f_this_result)), (h_this_row, .inl (cI, 200, .inl f_this_row)), (h_this_other, .inl (cI, 200, .inl f_this_other)), (h_this_starts, .inl (cI, 50, .inl f_this_starts)), (h_this_sizes, .inl (cI, 50, .inl f_this_sizes)), (h_this_rules, .inl (cI, 50, .inl f_this_rules)), (h_this_tagged, .inl (cZ, 50, .inl f_this_tagged)), (h_this_pool, .inl (cI, 300, .inl f_this_pool)), (h_this_placed, .inl (cZ, 200, .inl f_this_placed))] := hE
              refine lv_iload hx hb d_Mod_composeRow_71 (lv_at hl 4 rfl) ?_
              obtain ⟨x73, hc73, h⟩ := bd_s h
              have hM := (c_Mod_order l D cI cZ tt H.size v4 x73 hc73)
              refine hn_ci hE (hn_runS (As := [.int v4]) (rest := [.int x68]) S hE hM cf_Mod_order mw_586 mw_587 ⟨rfl, rfl⟩ ⟨Nat.le_of_ble_eq_true rfl, Nat.le_of_ble_eq_true rfl⟩ [] rfl rfl rfl rfl hl.1 (lv_room (Nat.le_of_ble_eq_true rfl)) d_Mod_composeRow_73 ⟨Nat.zero_le _, Nat.zero_le _⟩) [] rfl rfl (fun H locs hE => ?_)
              have hE : hn_E D (TY cI cZ) tt A s H locs [(h_this, .inr (6, [.int n_this_textSize, .ref h_this_text, .int n_this_size, .ref h_this_result, .int n_this_rowSize, .ref h_this_row, .ref h_this_other, .int n_this_count, .ref h_this_starts, .ref h_this_sizes, .ref h_this_rules, .ref h_this_tagged, .int n_this_poolSize, .ref h_this_pool, .int n_this_whole, .ref h_this_placed, .int n_this_bias])), (h_this_text, .inl (cI, 48, .inl f_this_text)), (h_this_result, .inl (cI, 2000, .inl f_this_result)), (h_this_row, .inl (cI, 200, .inl f_this_row)), (h_this_other, .inl (cI, 200, .inl f_this_other)), (h_this_starts, .inl (cI, 50, .inl f_this_starts)), (h_this_sizes, .inl (cI, 50, .inl f_this_sizes)), (h_this_rules, .inl (cI, 50, .inl f_this_rules)), (h_this_tagged, .inl (cZ, 50, .inl f_this_tagged)), (h_this_pool, .inl (cI, 300, .inl f_this_pool)), (h_this_placed, .inl (cZ, 200, .inl f_this_placed))] := hE
              refine lv_icmp_ge (tgt := 83) hx hb d_Mod_composeRow_76 (by decide) (fun hc => ?_) (fun hc => ?_)
              · have h := ite_t hc h
                refine lv_iconst (v := 0) hx hb d_Mod_composeRow_83 (by decide) ?_
                refine lv_istore (lv' := [(5, .int (0 : Int32)), (0, .ref h_this), (1, .int v1), (2, .int v2), (3, .int v3), (4, .int v4), (6, .int v6)]) hx hb d_Mod_composeRow_84 hl (by decide) rfl (fun ls hl => ?_)
                refine lv_iinc (v := (v6 + (1 : Int32))) (lv' := [(6, .int (v6 + (1 : Int32))), (5, .int (0 : Int32)), (0, .ref h_this), (1, .int v1), (2, .int v2), (3, .int v3), (4, .int v4)]) hx hb d_Mod_composeRow_86 hl (k := 6) rfl rfl (by decide) rfl (fun ls hl => ?_)
                refine lv_goto (tgt := 50) hx hb d_Mod_composeRow_89 (by decide) ?_
                exact hk50 (0 : Int32) (v6 + (1 : Int32)) H locs ls hE (lv_sub hl [2, 3, 4, 5, 6, 1, 0] rfl) h
              · have h := ite_f hc h
                refine lv_iconst (v := 1) hx hb d_Mod_composeRow_79 (by decide) ?_
                refine lv_goto (tgt := 84) hx hb d_Mod_composeRow_80 (by decide) ?_
                refine lv_istore (lv' := [(5, .int (1 : Int32)), (0, .ref h_this), (1, .int v1), (2, .int v2), (3, .int v3), (4, .int v4), (6, .int v6)]) hx hb d_Mod_composeRow_84 hl (by decide) rfl (fun ls hl => ?_)
                refine lv_iinc (v := (v6 + (1 : Int32))) (lv' := [(6, .int (v6 + (1 : Int32))), (5, .int (1 : Int32)), (0, .ref h_this), (1, .int v1), (2, .int v2), (3, .int v3), (4, .int v4)]) hx hb d_Mod_composeRow_86 hl (k := 6) rfl rfl (by decide) rfl (fun ls hl => ?_)
                refine lv_goto (tgt := 50) hx hb d_Mod_composeRow_89 (by decide) ?_
                exact hk50 (1 : Int32) (v6 + (1 : Int32)) H locs ls hE (lv_sub hl [2, 3, 4, 5, 6, 1, 0] rfl) h
      unfold P_Mod_composeRow_10 at h
      refine lv_iload_n hx hb d_Mod_composeRow_10 rfl (lv_at hl 3 rfl) ?_
      refine lv_aload_n hx hb d_Mod_composeRow_11 rfl (lv_at hl 0 rfl) ?_
      refine hn_get S hE kc_Mod 0 rfl rfl 4 (by decide) mw_490 rfl d_Mod_composeRow_12 ?_
      refine lv_icmp_ge (tgt := 161) hx hb d_Mod_composeRow_15 (by decide) (fun hc => ?_) (fun hc => ?_)
      · have h := ite_t hc h
        refine lv_aload_n hx hb d_Mod_composeRow_161 rfl (lv_at hl 0 rfl) ?_
        refine lv_iload_n hx hb d_Mod_composeRow_162 rfl (lv_at hl 1 rfl) ?_
        refine hn_put (tv := .int) S hE kc_Mod t_Mod_ok n_Mod 0 rfl rfl 4 (by decide) mw_490 rfl (by decide +kernel) rfl rfl (Nat.le_of_ble_eq_true rfl) d_Mod_composeRow_163 (fun H locs hE => ?_)
        have hE : hn_E D (TY cI cZ) tt A s H locs [(h_this, .inr (6, [.int n_this_textSize, .ref h_this_text, .int n_this_size, .ref h_this_result, .int v1, .ref h_this_row, .ref h_this_other, .int n_this_count, .ref h_this_starts, .ref h_this_sizes, .ref h_this_rules, .ref h_this_tagged, .int n_this_poolSize, .ref h_this_pool, .int n_this_whole, .ref h_this_placed, .int n_this_bias])), (h_this_text, .inl (cI, 48, .inl f_this_text)), (h_this_result, .inl (cI, 2000, .inl f_this_result)), (h_this_row, .inl (cI, 200, .inl f_this_row)), (h_this_other, .inl (cI, 200, .inl f_this_other)), (h_this_starts, .inl (cI, 50, .inl f_this_starts)), (h_this_sizes, .inl (cI, 50, .inl f_this_sizes)), (h_this_rules, .inl (cI, 50, .inl f_this_rules)), (h_this_tagged, .inl (cZ, 50, .inl f_this_tagged)), (h_this_pool, .inl (cI, 300, .inl f_this_pool)), (h_this_placed, .inl (cZ, 200, .inl f_this_placed))] := hE
        obtain rfl := Option.some.inj h
        exact hret H locs ls 166 d_Mod_composeRow_166 hE
      · have h := ite_f hc h
        refine lv_aload_n hx hb d_Mod_composeRow_18 rfl (lv_at hl 0 rfl) ?_
        refine hn_get S hE kc_Mod 0 rfl rfl 6 (by decide) mw_492 rfl d_Mod_composeRow_19 ?_
        refine lv_iload_n hx hb d_Mod_composeRow_22 rfl (lv_at hl 3 rfl) ?_
        obtain ⟨hi23, h⟩ := gi_s h
        refine hn_iald S hE 4 0 rfl rfl hi23 d_Mod_composeRow_23 ?_
        refine lv_istore (lv' := [(4, .int (f_this_other (v3).toNatClampNeg)), (0, .ref h_this), (1, .int v1), (2, .int v2), (3, .int v3)]) hx hb d_Mod_composeRow_24 hl (by decide) rfl (fun ls hl => ?_)
        refine lv_iload_n hx hb d_Mod_composeRow_26 rfl (lv_at hl 3 rfl) ?_
        refine lv_if_lt (tgt := 42) hx hb d_Mod_composeRow_27 (by decide) (fun hc => ?_) (fun hc => ?_)
        · have h := ite_t hc h
          refine lv_iconst (v := 0) hx hb d_Mod_composeRow_42 (by decide) ?_
          refine lv_istore (lv' := [(5, .int (0 : Int32)), (4, .int (f_this_other (v3).toNatClampNeg)), (0, .ref h_this), (1, .int v1), (2, .int v2), (3, .int v3)]) hx hb d_Mod_composeRow_43 hl (by decide) rfl (fun ls hl => ?_)
          refine lv_iload_n hx hb d_Mod_composeRow_45 rfl (lv_at hl 4 rfl) ?_
          refine lv_iconst (v := 1) hx hb d_Mod_composeRow_46 (by decide) ?_
          refine lv_iadd hx hb d_Mod_composeRow_47 ?_
          refine lv_istore (lv' := [(6, .int (v2 + (1 : Int32))), (5, .int (0 : Int32)), (4, .int (f_this_other (v3).toNatClampNeg)), (0, .ref h_this), (1, .int v1), (2, .int v2), (3, .int v3)]) hx hb d_Mod_composeRow_48 hl (by decide) rfl (fun ls hl => ?_)
          exact hL50 v1 v2 v3 (f_this_other (v3).toNatClampNeg) f_this_row fu (0 : Int32) (v2 + (1 : Int32)) H locs ls hE (lv_sub hl [3, 4, 5, 6, 2, 1, 0] rfl) h
        · have h := ite_f hc h
          refine lv_iload hx hb d_Mod_composeRow_30 (lv_at hl 0 rfl) ?_
          obtain ⟨x32, hc32, h⟩ := bd_s h
          have hM := (c_Mod_order l D cI cZ tt H.size (f_this_other (v3).toNatClampNeg) x32 hc32)
          refine hn_ci hE (hn_runS (As := [.int (f_this_other (v3).toNatClampNeg)]) (rest := []) S hE hM cf_Mod_order mw_586 mw_587 ⟨rfl, rfl⟩ ⟨Nat.le_of_ble_eq_true rfl, Nat.le_of_ble_eq_true rfl⟩ [] rfl rfl rfl rfl hl.1 (lv_room (Nat.le_of_ble_eq_true rfl)) d_Mod_composeRow_32 ⟨Nat.zero_le _, Nat.zero_le _⟩) [] rfl rfl (fun H locs hE => ?_)
          have hE : hn_E D (TY cI cZ) tt A s H locs [(h_this, .inr (6, [.int n_this_textSize, .ref h_this_text, .int n_this_size, .ref h_this_result, .int n_this_rowSize, .ref h_this_row, .ref h_this_other, .int n_this_count, .ref h_this_starts, .ref h_this_sizes, .ref h_this_rules, .ref h_this_tagged, .int n_this_poolSize, .ref h_this_pool, .int n_this_whole, .ref h_this_placed, .int n_this_bias])), (h_this_text, .inl (cI, 48, .inl f_this_text)), (h_this_result, .inl (cI, 2000, .inl f_this_result)), (h_this_row, .inl (cI, 200, .inl f_this_row)), (h_this_other, .inl (cI, 200, .inl f_this_other)), (h_this_starts, .inl (cI, 50, .inl f_this_starts)), (h_this_sizes, .inl (cI, 50, .inl f_this_sizes)), (h_this_rules, .inl (cI, 50, .inl f_this_rules)), (h_this_tagged, .inl (cZ, 50, .inl f_this_tagged)), (h_this_pool, .inl (cI, 300, .inl f_this_pool)), (h_this_placed, .inl (cZ, 200, .inl f_this_placed))] := hE
          refine lv_if_le (tgt := 42) hx hb d_Mod_composeRow_35 (by decide) (fun hc => ?_) (fun hc => ?_)
          · have h := ite_t hc h
            refine lv_iconst (v := 0) hx hb d_Mod_composeRow_42 (by decide) ?_
            refine lv_istore (lv' := [(5, .int (0 : Int32)), (4, .int (f_this_other (v3).toNatClampNeg)), (0, .ref h_this), (1, .int v1), (2, .int v2), (3, .int v3)]) hx hb d_Mod_composeRow_43 hl (by decide) rfl (fun ls hl => ?_)
            refine lv_iload_n hx hb d_Mod_composeRow_45 rfl (lv_at hl 4 rfl) ?_
            refine lv_iconst (v := 1) hx hb d_Mod_composeRow_46 (by decide) ?_
            refine lv_iadd hx hb d_Mod_composeRow_47 ?_
            refine lv_istore (lv' := [(6, .int (v2 + (1 : Int32))), (5, .int (0 : Int32)), (4, .int (f_this_other (v3).toNatClampNeg)), (0, .ref h_this), (1, .int v1), (2, .int v2), (3, .int v3)]) hx hb d_Mod_composeRow_48 hl (by decide) rfl (fun ls hl => ?_)
            exact hL50 v1 v2 v3 (f_this_other (v3).toNatClampNeg) f_this_row fu (0 : Int32) (v2 + (1 : Int32)) H locs ls hE (lv_sub hl [3, 4, 5, 6, 2, 1, 0] rfl) h
          · have h := ite_f hc h
            refine lv_iconst (v := 1) hx hb d_Mod_composeRow_38 (by decide) ?_
            refine lv_goto (tgt := 43) hx hb d_Mod_composeRow_39 (by decide) ?_
            refine lv_istore (lv' := [(5, .int (1 : Int32)), (4, .int (f_this_other (v3).toNatClampNeg)), (0, .ref h_this), (1, .int v1), (2, .int v2), (3, .int v3)]) hx hb d_Mod_composeRow_43 hl (by decide) rfl (fun ls hl => ?_)
            refine lv_iload_n hx hb d_Mod_composeRow_45 rfl (lv_at hl 4 rfl) ?_
            refine lv_iconst (v := 1) hx hb d_Mod_composeRow_46 (by decide) ?_
            refine lv_iadd hx hb d_Mod_composeRow_47 ?_
            refine lv_istore (lv' := [(6, .int (v2 + (1 : Int32))), (5, .int (1 : Int32)), (4, .int (f_this_other (v3).toNatClampNeg)), (0, .ref h_this), (1, .int v1), (2, .int v2), (3, .int v3)]) hx hb d_Mod_composeRow_48 hl (by decide) rfl (fun ls hl => ?_)
            exact hL50 v1 v2 v3 (f_this_other (v3).toNatClampNeg) f_this_row fu (1 : Int32) (v2 + (1 : Int32)) H locs ls hE (lv_sub hl [3, 4, 5, 6, 2, 1, 0] rfl) h
  unfold P_Mod_composeRow at h
  refine lv_aload_n hx hb d_Mod_composeRow_0 rfl (lv_at hl 0 rfl) ?_
  obtain ⟨x1, hc1, h⟩ := bd_s h
  have hM := (c_Mod_takeApart l D cI cZ tt h_this h_this_text h_this_result h_this_row h_this_other h_this_starts h_this_sizes h_this_rules h_this_tagged h_this_pool h_this_placed H.size n_this_textSize n_this_size n_this_rowSize n_this_count n_this_poolSize n_this_whole n_this_bias f_this_text f_this_result f_this_row f_this_other f_this_starts f_this_sizes f_this_rules f_this_tagged f_this_pool f_this_placed x1 hc1)
  refine hn_cv hE (hn_runV (As := []) (rest := []) S hE hM cf_Mod_takeApart mw_594 mw_596 ms_21 ⟨rfl, rfl⟩ ⟨Nat.le_of_ble_eq_true rfl, Nat.le_of_ble_eq_true rfl⟩ [0, 1, 2, 3, 4, 5, 6, 7, 8, 9, 10] rfl rfl rfl rfl rfl rfl hl.1 (lv_room (Nat.le_of_ble_eq_true rfl)) d_Mod_composeRow_1 ⟨Nat.zero_le _, Nat.zero_le _⟩) [0, 1, 2, 3, 4, 5, 6, 7, 8, 9, 10] rfl rfl (fun H locs hE => ?_)
  have hE : hn_E D (TY cI cZ) tt A s H locs [(h_this, .inr (6, [.int n_this_textSize, .ref h_this_text, .int n_this_size, .ref h_this_result, .int x1.1, .ref h_this_row, .ref h_this_other, .int n_this_count, .ref h_this_starts, .ref h_this_sizes, .ref h_this_rules, .ref h_this_tagged, .int n_this_poolSize, .ref h_this_pool, .int n_this_whole, .ref h_this_placed, .int n_this_bias])), (h_this_text, .inl (cI, 48, .inl f_this_text)), (h_this_result, .inl (cI, 2000, .inl f_this_result)), (h_this_row, .inl (cI, 200, .inl f_this_row)), (h_this_other, .inl (cI, 200, .inl x1.2)), (h_this_starts, .inl (cI, 50, .inl f_this_starts)), (h_this_sizes, .inl (cI, 50, .inl f_this_sizes)), (h_this_rules, .inl (cI, 50, .inl f_this_rules)), (h_this_tagged, .inl (cZ, 50, .inl f_this_tagged)), (h_this_pool, .inl (cI, 300, .inl f_this_pool)), (h_this_placed, .inl (cZ, 200, .inl f_this_placed))] := hE
  refine lv_iconst (v := 0) hx hb d_Mod_composeRow_4 (by decide) ?_
  refine lv_istore_n (lv' := [(1, .int (0 : Int32)), (0, .ref h_this)]) hx hb d_Mod_composeRow_5 rfl hl (by decide) rfl (fun ls hl => ?_)
  refine lv_iconst (v := -1) hx hb d_Mod_composeRow_6 (by decide) ?_
  refine lv_istore_n (lv' := [(2, .int (-1 : Int32)), (1, .int (0 : Int32)), (0, .ref h_this)]) hx hb d_Mod_composeRow_7 rfl hl (by decide) rfl (fun ls hl => ?_)
  refine lv_iconst (v := 0) hx hb d_Mod_composeRow_8 (by decide) ?_
  refine lv_istore_n (lv' := [(3, .int (0 : Int32)), (2, .int (-1 : Int32)), (1, .int (0 : Int32)), (0, .ref h_this)]) hx hb d_Mod_composeRow_9 rfl hl (by decide) rfl (fun ls hl => ?_)
  exact hL10 x1.1 x1.2 fu (0 : Int32) (-1 : Int32) (0 : Int32) f_this_row H locs ls hE (lv_sub hl [3, 2, 1, 0] rfl) h
abbrev rm_Mod_outNumber : Room := { frames := 2, cells := 0, slots := 0, locals := 42 }
theorem cf_Mod_outNumber : hn_CF y_Mod_outNumber b_Mod_outNumber 5 none 1 := ⟨mw_706, mw_7, by decide, by decide, by decide +kernel⟩
set_option maxHeartbeats 4000000 in
set_option maxRecDepth 100000 in
theorem c_Mod_outNumber (l : Launch) (D : va_G) (cI cZ : ClassId) (tt : Nat → Nat) (h_this h_this_text h_this_result h_this_row h_this_other h_this_starts h_this_sizes h_this_rules h_this_tagged h_this_pool h_this_placed : Nat) (sz : Nat) (n_this_textSize : Int32) (n_this_size : Int32) (n_this_rowSize : Int32) (n_this_count : Int32) (n_this_poolSize : Int32) (n_this_whole : Int32) (n_this_bias : Int32) (f_this_text : Nat → Int32) (f_this_result : Nat → Int32) (f_this_row : Nat → Int32) (f_this_other : Nat → Int32) (f_this_starts : Nat → Int32) (f_this_sizes : Nat → Int32) (f_this_rules : Nat → Int32) (f_this_tagged : Nat → Int32) (f_this_pool : Nat → Int32) (f_this_placed : Nat → Int32) (a1 : Int32) (o : Int32 × (Nat → Int32)) (h : P_Mod_outNumber n_this_size n_this_bias f_this_result a1 = some o) : Met l y_Mod_outNumber (hn_w y_Mod_outNumber b_Mod_outNumber 5 none) rm_Mod_outNumber (hn_Pc D (TY cI cZ) tt [.ref h_this, .int a1] sz [(h_this, .inr (6, [.int n_this_textSize, .ref h_this_text, .int n_this_size, .ref h_this_result, .int n_this_rowSize, .ref h_this_row, .ref h_this_other, .int n_this_count, .ref h_this_starts, .ref h_this_sizes, .ref h_this_rules, .ref h_this_tagged, .int n_this_poolSize, .ref h_this_pool, .int n_this_whole, .ref h_this_placed, .int n_this_bias])), (h_this_text, .inl (cI, 48, .inl f_this_text)), (h_this_result, .inl (cI, 2000, .inl f_this_result)), (h_this_row, .inl (cI, 200, .inl f_this_row)), (h_this_other, .inl (cI, 200, .inl f_this_other)), (h_this_starts, .inl (cI, 50, .inl f_this_starts)), (h_this_sizes, .inl (cI, 50, .inl f_this_sizes)), (h_this_rules, .inl (cI, 50, .inl f_this_rules)), (h_this_tagged, .inl (cZ, 50, .inl f_this_tagged)), (h_this_pool, .inl (cI, 300, .inl f_this_pool)), (h_this_placed, .inl (cZ, 200, .inl f_this_placed))]) (hn_Qv D [(h_this, .inr (6, [.int n_this_textSize, .ref h_this_text, .int n_this_size, .ref h_this_result, .int n_this_rowSize, .ref h_this_row, .ref h_this_other, .int n_this_count, .ref h_this_starts, .ref h_this_sizes, .ref h_this_rules, .ref h_this_tagged, .int n_this_poolSize, .ref h_this_pool, .int n_this_whole, .ref h_this_placed, .int n_this_bias])), (h_this_text, .inl (cI, 48, .inl f_this_text)), (h_this_result, .inl (cI, 2000, .inl f_this_result)), (h_this_row, .inl (cI, 200, .inl f_this_row)), (h_this_other, .inl (cI, 200, .inl f_this_other)), (h_this_starts, .inl (cI, 50, .inl f_this_starts)), (h_this_sizes, .inl (cI, 50, .inl f_this_sizes)), (h_this_rules, .inl (cI, 50, .inl f_this_rules)), (h_this_tagged, .inl (cZ, 50, .inl f_this_tagged)), (h_this_pool, .inl (cI, 300, .inl f_this_pool)), (h_this_placed, .inl (cZ, 200, .inl f_this_placed))] sz [(h_this, .inr (6, [.int n_this_textSize, .ref h_this_text, .int o.1, .ref h_this_result, .int n_this_rowSize, .ref h_this_row, .ref h_this_other, .int n_this_count, .ref h_this_starts, .ref h_this_sizes, .ref h_this_rules, .ref h_this_tagged, .int n_this_poolSize, .ref h_this_pool, .int n_this_whole, .ref h_this_placed, .int n_this_bias])), (h_this_text, .inl (cI, 48, .inl f_this_text)), (h_this_result, .inl (cI, 2000, .inl o.2)), (h_this_row, .inl (cI, 200, .inl f_this_row)), (h_this_other, .inl (cI, 200, .inl f_this_other)), (h_this_starts, .inl (cI, 50, .inl f_this_starts)), (h_this_sizes, .inl (cI, 50, .inl f_this_sizes)), (h_this_rules, .inl (cI, 50, .inl f_this_rules)), (h_this_tagged, .inl (cZ, 50, .inl f_this_tagged)), (h_this_pool, .inl (cI, 300, .inl f_this_pool)), (h_this_placed, .inl (cZ, 200, .inl f_this_placed))]) 0 0 (va_A [(h_this, .inr (6, [.int n_this_textSize, .ref h_this_text, .int n_this_size, .ref h_this_result, .int n_this_rowSize, .ref h_this_row, .ref h_this_other, .int n_this_count, .ref h_this_starts, .ref h_this_sizes, .ref h_this_rules, .ref h_this_tagged, .int n_this_poolSize, .ref h_this_pool, .int n_this_whole, .ref h_this_placed, .int n_this_bias])), (h_this_text, .inl (cI, 48, .inl f_this_text)), (h_this_result, .inl (cI, 2000, .inl f_this_result)), (h_this_row, .inl (cI, 200, .inl f_this_row)), (h_this_other, .inl (cI, 200, .inl f_this_other)), (h_this_starts, .inl (cI, 50, .inl f_this_starts)), (h_this_sizes, .inl (cI, 50, .inl f_this_sizes)), (h_this_rules, .inl (cI, 50, .inl f_this_rules)), (h_this_tagged, .inl (cZ, 50, .inl f_this_tagged)), (h_this_pool, .inl (cI, 300, .inl f_this_pool)), (h_this_placed, .inl (cZ, 200, .inl f_this_placed))] sz) := by
  refine hn_ofWv (own := R_Mod) (by decide) rfl (Nat.le_of_ble_eq_true rfl) ?_
  intro p e s m args below meth c A H locs ls Q S hE hl hret
  have hx := S.1
  have hb := S.2.1
  have hown := S.2.2.2.1
  have hl : lv_has ls 5 [(0, .ref h_this), (1, .int a1)] := hl
  have hL12 : ∀ (kf : Nat) (v2 : Int32) (v3 : Int32) (v4 : Int32) (n_this_size : Int32) (f_this_result : Nat → Int32) (H : Heap) (locs : List Loc) (ls : Array Slot), hn_E D (TY cI cZ) tt A s H locs [(h_this, .inr (6, [.int n_this_textSize, .ref h_this_text, .int n_this_size, .ref h_this_result, .int n_this_rowSize, .ref h_this_row, .ref h_this_other, .int n_this_count, .ref h_this_starts, .ref h_this_sizes, .ref h_this_rules, .ref h_this_tagged, .int n_this_poolSize, .ref h_this_pool, .int n_this_whole, .ref h_this_placed, .int n_this_bias])), (h_this_text, .inl (cI, 48, .inl f_this_text)), (h_this_result, .inl (cI, 2000, .inl f_this_result)), (h_this_row, .inl (cI, 200, .inl f_this_row)), (h_this_other, .inl (cI, 200, .inl f_this_other)), (h_this_starts, .inl (cI, 50, .inl f_this_starts)), (h_this_sizes, .inl (cI, 50, .inl f_this_sizes)), (h_this_rules, .inl (cI, 50, .inl f_this_rules)), (h_this_tagged, .inl (cZ, 50, .inl f_this_tagged)), (h_this_pool, .inl (cI, 300, .inl f_this_pool)), (h_this_placed, .inl (cZ, 200, .inl f_this_placed))] → lv_has ls 5 [(0, .ref h_this), (2, .int v2), (3, .int v3), (4, .int v4)] → fl5 (P_Mod_outNumber_12 n_this_bias) kf v2 v3 v4 n_this_size f_this_result = some o → W p l e rm_Mod_outNumber s m args below meth c H locs 0 0 Q (F0 m 12 ls []) := by
    intro kf
    induction kf with
    | zero => intro v2 v3 v4 n_this_size f_this_result H locs ls hE hl h; exact no_s h
    | succ kf ih =>
      intro v2 v3 v4 n_this_size f_this_result H locs ls hE hl h
      have h : P_Mod_outNumber_12 n_this_bias (fl5 (P_Mod_outNumber_12 n_this_bias) kf) v2 v3 v4 n_this_size f_this_result = some o := h
      generalize fl5 (P_Mod_outNumber_12 n_this_bias) kf = k12 at ih h
      have hk12 := ih
      unfold P_Mod_outNumber_12 at h
      refine lv_iload_n hx hb d_Mod_outNumber_12 rfl (lv_at hl 1 rfl) ?_
      refine lv_iload hx hb d_Mod_outNumber_13 (lv_at hl 3 rfl) ?_
      refine lv_icmp_lt (tgt := 61) hx hb d_Mod_outNumber_15 (by decide) (fun hc => ?_) (fun hc => ?_)
      · have h := ite_t hc h
        refine lv_aload_n hx hb d_Mod_outNumber_61 rfl (lv_at hl 0 rfl) ?_
        refine lv_iload_n hx hb d_Mod_outNumber_62 rfl (lv_at hl 1 rfl) ?_
        obtain ⟨x63, hc63, h⟩ := bd_s h
        have hM := (c_Mod_outDigit l D cI cZ tt h_this h_this_text h_this_result h_this_row h_this_other h_this_starts h_this_sizes h_this_rules h_this_tagged h_this_pool h_this_placed H.size n_this_textSize n_this_size n_this_rowSize n_this_count n_this_poolSize n_this_whole n_this_bias f_this_text f_this_result f_this_row f_this_other f_this_starts f_this_sizes f_this_rules f_this_tagged f_this_pool f_this_placed v2 x63 hc63)
        refine hn_cv hE (hn_runV (As := [.int v2]) (rest := []) S hE hM cf_Mod_outDigit mw_707 mw_709 ms_44 ⟨rfl, rfl⟩ ⟨Nat.le_of_ble_eq_true rfl, Nat.le_of_ble_eq_true rfl⟩ [0, 1, 2, 3, 4, 5, 6, 7, 8, 9, 10] rfl rfl rfl rfl rfl rfl hl.1 (lv_room (Nat.le_of_ble_eq_true rfl)) d_Mod_outNumber_63 ⟨Nat.zero_le _, Nat.zero_le _⟩) [0, 1, 2, 3, 4, 5, 6, 7, 8, 9, 10] rfl rfl (fun H locs hE => ?_)
        have hE : hn_E D (TY cI cZ) tt A s H locs [(h_this, .inr (6, [.int n_this_textSize, .ref h_this_text, .int x63.1, .ref h_this_result, .int n_this_rowSize, .ref h_this_row, .ref h_this_other, .int n_this_count, .ref h_this_starts, .ref h_this_sizes, .ref h_this_rules, .ref h_this_tagged, .int n_this_poolSize, .ref h_this_pool, .int n_this_whole, .ref h_this_placed, .int n_this_bias])), (h_this_text, .inl (cI, 48, .inl f_this_text)), (h_this_result, .inl (cI, 2000, .inl x63.2)), (h_this_row, .inl (cI, 200, .inl f_this_row)), (h_this_other, .inl (cI, 200, .inl f_this_other)), (h_this_starts, .inl (cI, 50, .inl f_this_starts)), (h_this_sizes, .inl (cI, 50, .inl f_this_sizes)), (h_this_rules, .inl (cI, 50, .inl f_this_rules)), (h_this_tagged, .inl (cZ, 50, .inl f_this_tagged)), (h_this_pool, .inl (cI, 300, .inl f_this_pool)), (h_this_placed, .inl (cZ, 200, .inl f_this_placed))] := hE
        obtain rfl := Option.some.inj h
        exact hret H locs ls 66 d_Mod_outNumber_66 hE
      · have h := ite_f hc h
        refine lv_aload_n hx hb d_Mod_outNumber_18 rfl (lv_at hl 0 rfl) ?_
        refine lv_iload hx hb d_Mod_outNumber_19 (lv_at hl 3 rfl) ?_
        refine lv_iload_n hx hb d_Mod_outNumber_21 rfl (lv_at hl 1 rfl) ?_
        refine lv_iload hx hb d_Mod_outNumber_22 (lv_at hl 3 rfl) ?_
        refine lv_isub hx hb d_Mod_outNumber_24 ?_
        refine lv_bipush (v := 36) hx hb d_Mod_outNumber_25 (by decide) ?_
        refine lv_iload hx hb d_Mod_outNumber_27 (lv_at hl 3 rfl) ?_
        refine lv_isub hx hb d_Mod_outNumber_29 ?_
        obtain ⟨hz30, h⟩ := gz_s h
        refine lv_irem hx hb d_Mod_outNumber_30 hz30 ?_
        refine lv_iadd hx hb d_Mod_outNumber_31 ?_
        obtain ⟨x32, hc32, h⟩ := bd_s h
        have hM := (c_Mod_outDigit l D cI cZ tt h_this h_this_text h_this_result h_this_row h_this_other h_this_starts h_this_sizes h_this_rules h_this_tagged h_this_pool h_this_placed H.size n_this_textSize n_this_size n_this_rowSize n_this_count n_this_poolSize n_this_whole n_this_bias f_this_text f_this_result f_this_row f_this_other f_this_starts f_this_sizes f_this_rules f_this_tagged f_this_pool f_this_placed (v4 + ((v2 - v4) - (v2 - v4) / ((36 : Int32) - v4) * ((36 : Int32) - v4))) x32 hc32)
        refine hn_cv hE (hn_runV (As := [.int (v4 + ((v2 - v4) - (v2 - v4) / ((36 : Int32) - v4) * ((36 : Int32) - v4)))]) (rest := []) S hE hM cf_Mod_outDigit mw_707 mw_709 ms_44 ⟨rfl, rfl⟩ ⟨Nat.le_of_ble_eq_true rfl, Nat.le_of_ble_eq_true rfl⟩ [0, 1, 2, 3, 4, 5, 6, 7, 8, 9, 10] rfl rfl rfl rfl rfl rfl hl.1 (lv_room (Nat.le_of_ble_eq_true rfl)) d_Mod_outNumber_32 ⟨Nat.zero_le _, Nat.zero_le _⟩) [0, 1, 2, 3, 4, 5, 6, 7, 8, 9, 10] rfl rfl (fun H locs hE => ?_)
        have hE : hn_E D (TY cI cZ) tt A s H locs [(h_this, .inr (6, [.int n_this_textSize, .ref h_this_text, .int x32.1, .ref h_this_result, .int n_this_rowSize, .ref h_this_row, .ref h_this_other, .int n_this_count, .ref h_this_starts, .ref h_this_sizes, .ref h_this_rules, .ref h_this_tagged, .int n_this_poolSize, .ref h_this_pool, .int n_this_whole, .ref h_this_placed, .int n_this_bias])), (h_this_text, .inl (cI, 48, .inl f_this_text)), (h_this_result, .inl (cI, 2000, .inl x32.2)), (h_this_row, .inl (cI, 200, .inl f_this_row)), (h_this_other, .inl (cI, 200, .inl f_this_other)), (h_this_starts, .inl (cI, 50, .inl f_this_starts)), (h_this_sizes, .inl (cI, 50, .inl f_this_sizes)), (h_this_rules, .inl (cI, 50, .inl f_this_rules)), (h_this_tagged, .inl (cZ, 50, .inl f_this_tagged)), (h_this_pool, .inl (cI, 300, .inl f_this_pool)), (h_this_placed, .inl (cZ, 200, .inl f_this_placed))] := hE
        refine lv_iload_n hx hb d_Mod_outNumber_35 rfl (lv_at hl 1 rfl) ?_
        refine lv_iload hx hb d_Mod_outNumber_36 (lv_at hl 3 rfl) ?_
        refine lv_isub hx hb d_Mod_outNumber_38 ?_
        refine lv_bipush (v := 36) hx hb d_Mod_outNumber_39 (by decide) ?_
        refine lv_iload hx hb d_Mod_outNumber_41 (lv_at hl 3 rfl) ?_
        refine lv_isub hx hb d_Mod_outNumber_43 ?_
        obtain ⟨hz44, h⟩ := gz_s h
        refine lv_idiv hx hb d_Mod_outNumber_44 hz44 ?_
        refine lv_istore_n (lv' := [(2, .int ((v2 - v4) / ((36 : Int32) - v4))), (0, .ref h_this), (3, .int v3), (4, .int v4)]) hx hb d_Mod_outNumber_45 rfl hl (by decide) rfl (fun ls hl => ?_)
        refine lv_iload_n hx hb d_Mod_outNumber_46 rfl (lv_at hl 2 rfl) ?_
        refine lv_bipush (v := 36) hx hb d_Mod_outNumber_47 (by decide) ?_
        refine lv_iadd hx hb d_Mod_outNumber_49 ?_
        refine lv_istore_n (lv' := [(3, .int (v3 + (36 : Int32))), (2, .int ((v2 - v4) / ((36 : Int32) - v4))), (0, .ref h_this), (4, .int v4)]) hx hb d_Mod_outNumber_50 rfl hl (by decide) rfl (fun ls hl => ?_)
        refine lv_aload_n hx hb d_Mod_outNumber_51 rfl (lv_at hl 2 rfl) ?_
        refine lv_iload_n hx hb d_Mod_outNumber_52 rfl (lv_at hl 0 rfl) ?_
        obtain ⟨x53, hc53, h⟩ := bd_s h
        have hM := (c_Mod_threshold l D cI cZ tt h_this h_this_text h_this_result h_this_row h_this_other h_this_starts h_this_sizes h_this_rules h_this_tagged h_this_pool h_this_placed H.size n_this_textSize x32.1 n_this_rowSize n_this_count n_this_poolSize n_this_whole n_this_bias f_this_text x32.2 f_this_row f_this_other f_this_starts f_this_sizes f_this_rules f_this_tagged f_this_pool f_this_placed (v3 + (36 : Int32)) x53 hc53)
        refine hn_ci hE (hn_runV (As := [.int (v3 + (36 : Int32))]) (rest := []) S hE hM cf_Mod_threshold mw_631 mw_633 ms_27 ⟨rfl, rfl⟩ ⟨Nat.le_of_ble_eq_true rfl, Nat.le_of_ble_eq_true rfl⟩ [0, 1, 2, 3, 4, 5, 6, 7, 8, 9, 10] rfl rfl rfl rfl rfl rfl hl.1 (lv_room (Nat.le_of_ble_eq_true rfl)) d_Mod_outNumber_53 ⟨Nat.zero_le _, Nat.zero_le _⟩) [0, 1, 2, 3, 4, 5, 6, 7, 8, 9, 10] rfl rfl (fun H locs hE => ?_)
        have hE : hn_E D (TY cI cZ) tt A s H locs [(h_this, .inr (6, [.int n_this_textSize, .ref h_this_text, .int x32.1, .ref h_this_result, .int n_this_rowSize, .ref h_this_row, .ref h_this_other, .int n_this_count, .ref h_this_starts, .ref h_this_sizes, .ref h_this_rules, .ref h_this_tagged, .int n_this_poolSize, .ref h_this_pool, .int n_this_whole, .ref h_this_placed, .int n_this_bias])), (h_this_text, .inl (cI, 48, .inl f_this_text)), (h_this_result, .inl (cI, 2000, .inl x32.2)), (h_this_row, .inl (cI, 200, .inl f_this_row)), (h_this_other, .inl (cI, 200, .inl f_this_other)), (h_this_starts, .inl (cI, 50, .inl f_this_starts)), (h_this_sizes, .inl (cI, 50, .inl f_this_sizes)), (h_this_rules, .inl (cI, 50, .inl f_this_rules)), (h_this_tagged, .inl (cZ, 50, .inl f_this_tagged)), (h_this_pool, .inl (cI, 300, .inl f_this_pool)), (h_this_placed, .inl (cZ, 200, .inl f_this_placed))] := hE
        refine lv_istore (lv' := [(4, .int x53), (3, .int (v3 + (36 : Int32))), (2, .int ((v2 - v4) / ((36 : Int32) - v4))), (0, .ref h_this)]) hx hb d_Mod_outNumber_56 hl (by decide) rfl (fun ls hl => ?_)
        refine lv_goto (tgt := 12) hx hb d_Mod_outNumber_58 (by decide) ?_
        exact hk12 ((v2 - v4) / ((36 : Int32) - v4)) (v3 + (36 : Int32)) x53 x32.1 x32.2 H locs ls hE (lv_sub hl [3, 2, 1, 0] rfl) h
  unfold P_Mod_outNumber at h
  refine lv_iload_n hx hb d_Mod_outNumber_0 rfl (lv_at hl 1 rfl) ?_
  refine lv_istore_n (lv' := [(2, .int a1), (0, .ref h_this), (1, .int a1)]) hx hb d_Mod_outNumber_1 rfl hl (by decide) rfl (fun ls hl => ?_)
  refine lv_bipush (v := 36) hx hb d_Mod_outNumber_2 (by decide) ?_
  refine lv_istore_n (lv' := [(3, .int (36 : Int32)), (2, .int a1), (0, .ref h_this), (1, .int a1)]) hx hb d_Mod_outNumber_4 rfl hl (by decide) rfl (fun ls hl => ?_)
  refine lv_aload_n hx hb d_Mod_outNumber_5 rfl (lv_at hl 2 rfl) ?_
  refine lv_iload_n hx hb d_Mod_outNumber_6 rfl (lv_at hl 0 rfl) ?_
  obtain ⟨x7, hc7, h⟩ := bd_s h
  have hM := (c_Mod_threshold l D cI cZ tt h_this h_this_text h_this_result h_this_row h_this_other h_this_starts h_this_sizes h_this_rules h_this_tagged h_this_pool h_this_placed H.size n_this_textSize n_this_size n_this_rowSize n_this_count n_this_poolSize n_this_whole n_this_bias f_this_text f_this_result f_this_row f_this_other f_this_starts f_this_sizes f_this_rules f_this_tagged f_this_pool f_this_placed (36 : Int32) x7 hc7)
  refine hn_ci hE (hn_runV (As := [.int (36 : Int32)]) (rest := []) S hE hM cf_Mod_threshold mw_631 mw_633 ms_27 ⟨rfl, rfl⟩ ⟨Nat.le_of_ble_eq_true rfl, Nat.le_of_ble_eq_true rfl⟩ [0, 1, 2, 3, 4, 5, 6, 7, 8, 9, 10] rfl rfl rfl rfl rfl rfl hl.1 (lv_room (Nat.le_of_ble_eq_true rfl)) d_Mod_outNumber_7 ⟨Nat.zero_le _, Nat.zero_le _⟩) [0, 1, 2, 3, 4, 5, 6, 7, 8, 9, 10] rfl rfl (fun H locs hE => ?_)
  have hE : hn_E D (TY cI cZ) tt A s H locs [(h_this, .inr (6, [.int n_this_textSize, .ref h_this_text, .int n_this_size, .ref h_this_result, .int n_this_rowSize, .ref h_this_row, .ref h_this_other, .int n_this_count, .ref h_this_starts, .ref h_this_sizes, .ref h_this_rules, .ref h_this_tagged, .int n_this_poolSize, .ref h_this_pool, .int n_this_whole, .ref h_this_placed, .int n_this_bias])), (h_this_text, .inl (cI, 48, .inl f_this_text)), (h_this_result, .inl (cI, 2000, .inl f_this_result)), (h_this_row, .inl (cI, 200, .inl f_this_row)), (h_this_other, .inl (cI, 200, .inl f_this_other)), (h_this_starts, .inl (cI, 50, .inl f_this_starts)), (h_this_sizes, .inl (cI, 50, .inl f_this_sizes)), (h_this_rules, .inl (cI, 50, .inl f_this_rules)), (h_this_tagged, .inl (cZ, 50, .inl f_this_tagged)), (h_this_pool, .inl (cI, 300, .inl f_this_pool)), (h_this_placed, .inl (cZ, 200, .inl f_this_placed))] := hE
  refine lv_istore (lv' := [(4, .int x7), (3, .int (36 : Int32)), (2, .int a1), (0, .ref h_this), (1, .int a1)]) hx hb d_Mod_outNumber_10 hl (by decide) rfl (fun ls hl => ?_)
  exact hL12 fu a1 (36 : Int32) x7 n_this_size f_this_result H locs ls hE (lv_sub hl [3, 2, 1, 0] rfl) h
abbrev rm_Mod_leastLeft : Room := { frames := 0, cells := 0, slots := 0, locals := 0 }
theorem cf_Mod_leastLeft : hn_CF y_Mod_leastLeft b_Mod_leastLeft 3 (some .int) 0 := ⟨mw_702, mw_7, by decide, by decide, by decide +kernel⟩
set_option maxHeartbeats 4000000 in
set_option maxRecDepth 100000 in
theorem c_Mod_leastLeft (l : Launch) (D : va_G) (cI cZ : ClassId) (tt : Nat → Nat) (h_this h_this_text h_this_result h_this_row h_this_other h_this_starts h_this_sizes h_this_rules h_this_tagged h_this_pool h_this_placed : Nat) (sz : Nat) (n_this_textSize : Int32) (n_this_size : Int32) (n_this_rowSize : Int32) (n_this_count : Int32) (n_this_poolSize : Int32) (n_this_whole : Int32) (n_this_bias : Int32) (f_this_text : Nat → Int32) (f_this_result : Nat → Int32) (f_this_row : Nat → Int32) (f_this_other : Nat → Int32) (f_this_starts : Nat → Int32) (f_this_sizes : Nat → Int32) (f_this_rules : Nat → Int32) (f_this_tagged : Nat → Int32) (f_this_pool : Nat → Int32) (f_this_placed : Nat → Int32) (o : Int32) (h : P_Mod_leastLeft n_this_rowSize f_this_row f_this_placed = some o) : Met l y_Mod_leastLeft (hn_w y_Mod_leastLeft b_Mod_leastLeft 3 (some .int)) rm_Mod_leastLeft (hn_Pc D (TY cI cZ) tt [.ref h_this] sz [(h_this, .inr (6, [.int n_this_textSize, .ref h_this_text, .int n_this_size, .ref h_this_result, .int n_this_rowSize, .ref h_this_row, .ref h_this_other, .int n_this_count, .ref h_this_starts, .ref h_this_sizes, .ref h_this_rules, .ref h_this_tagged, .int n_this_poolSize, .ref h_this_pool, .int n_this_whole, .ref h_this_placed, .int n_this_bias])), (h_this_text, .inl (cI, 48, .inl f_this_text)), (h_this_result, .inl (cI, 2000, .inl f_this_result)), (h_this_row, .inl (cI, 200, .inl f_this_row)), (h_this_other, .inl (cI, 200, .inl f_this_other)), (h_this_starts, .inl (cI, 50, .inl f_this_starts)), (h_this_sizes, .inl (cI, 50, .inl f_this_sizes)), (h_this_rules, .inl (cI, 50, .inl f_this_rules)), (h_this_tagged, .inl (cZ, 50, .inl f_this_tagged)), (h_this_pool, .inl (cI, 300, .inl f_this_pool)), (h_this_placed, .inl (cZ, 200, .inl f_this_placed))]) (hn_Qi D [(h_this, .inr (6, [.int n_this_textSize, .ref h_this_text, .int n_this_size, .ref h_this_result, .int n_this_rowSize, .ref h_this_row, .ref h_this_other, .int n_this_count, .ref h_this_starts, .ref h_this_sizes, .ref h_this_rules, .ref h_this_tagged, .int n_this_poolSize, .ref h_this_pool, .int n_this_whole, .ref h_this_placed, .int n_this_bias])), (h_this_text, .inl (cI, 48, .inl f_this_text)), (h_this_result, .inl (cI, 2000, .inl f_this_result)), (h_this_row, .inl (cI, 200, .inl f_this_row)), (h_this_other, .inl (cI, 200, .inl f_this_other)), (h_this_starts, .inl (cI, 50, .inl f_this_starts)), (h_this_sizes, .inl (cI, 50, .inl f_this_sizes)), (h_this_rules, .inl (cI, 50, .inl f_this_rules)), (h_this_tagged, .inl (cZ, 50, .inl f_this_tagged)), (h_this_pool, .inl (cI, 300, .inl f_this_pool)), (h_this_placed, .inl (cZ, 200, .inl f_this_placed))] sz [(h_this, .inr (6, [.int n_this_textSize, .ref h_this_text, .int n_this_size, .ref h_this_result, .int n_this_rowSize, .ref h_this_row, .ref h_this_other, .int n_this_count, .ref h_this_starts, .ref h_this_sizes, .ref h_this_rules, .ref h_this_tagged, .int n_this_poolSize, .ref h_this_pool, .int n_this_whole, .ref h_this_placed, .int n_this_bias])), (h_this_text, .inl (cI, 48, .inl f_this_text)), (h_this_result, .inl (cI, 2000, .inl f_this_result)), (h_this_row, .inl (cI, 200, .inl f_this_row)), (h_this_other, .inl (cI, 200, .inl f_this_other)), (h_this_starts, .inl (cI, 50, .inl f_this_starts)), (h_this_sizes, .inl (cI, 50, .inl f_this_sizes)), (h_this_rules, .inl (cI, 50, .inl f_this_rules)), (h_this_tagged, .inl (cZ, 50, .inl f_this_tagged)), (h_this_pool, .inl (cI, 300, .inl f_this_pool)), (h_this_placed, .inl (cZ, 200, .inl f_this_placed))] o) 0 0 (va_A [(h_this, .inr (6, [.int n_this_textSize, .ref h_this_text, .int n_this_size, .ref h_this_result, .int n_this_rowSize, .ref h_this_row, .ref h_this_other, .int n_this_count, .ref h_this_starts, .ref h_this_sizes, .ref h_this_rules, .ref h_this_tagged, .int n_this_poolSize, .ref h_this_pool, .int n_this_whole, .ref h_this_placed, .int n_this_bias])), (h_this_text, .inl (cI, 48, .inl f_this_text)), (h_this_result, .inl (cI, 2000, .inl f_this_result)), (h_this_row, .inl (cI, 200, .inl f_this_row)), (h_this_other, .inl (cI, 200, .inl f_this_other)), (h_this_starts, .inl (cI, 50, .inl f_this_starts)), (h_this_sizes, .inl (cI, 50, .inl f_this_sizes)), (h_this_rules, .inl (cI, 50, .inl f_this_rules)), (h_this_tagged, .inl (cZ, 50, .inl f_this_tagged)), (h_this_pool, .inl (cI, 300, .inl f_this_pool)), (h_this_placed, .inl (cZ, 200, .inl f_this_placed))] sz) := by
  refine hn_ofWi (own := R_Mod) (by decide) rfl (Nat.le_of_ble_eq_true rfl) ?_
  intro p e s m args below meth c A H locs ls Q S hE hl hret
  have hx := S.1
  have hb := S.2.1
  have hown := S.2.2.2.1
  have hl : lv_has ls 3 [(0, .ref h_this)] := hl
  have hL9 : ∀ (kf : Nat) (v1 : Int32) (v2 : Int32) (H : Heap) (locs : List Loc) (ls : Array Slot), hn_E D (TY cI cZ) tt A s H locs [(h_this, .inr (6, [.int n_this_textSize, .ref h_this_text, .int n_this_size, .ref h_this_result, .int n_this_rowSize, .ref h_this_row, .ref h_this_other, .int n_this_count, .ref h_this_starts, .ref h_this_sizes, .ref h_this_rules, .ref h_this_tagged, .int n_this_poolSize, .ref h_this_pool, .int n_this_whole, .ref h_this_placed, .int n_this_bias])), (h_this_text, .inl (cI, 48, .inl f_this_text)), (h_this_result, .inl (cI, 2000, .inl f_this_result)), (h_this_row, .inl (cI, 200, .inl f_this_row)), (h_this_other, .inl (cI, 200, .inl f_this_other)), (h_this_starts, .inl (cI, 50, .inl f_this_starts)), (h_this_sizes, .inl (cI, 50, .inl f_this_sizes)), (h_this_rules, .inl (cI, 50, .inl f_this_rules)), (h_this_tagged, .inl (cZ, 50, .inl f_this_tagged)), (h_this_pool, .inl (cI, 300, .inl f_this_pool)), (h_this_placed, .inl (cZ, 200, .inl f_this_placed))] → lv_has ls 3 [(0, .ref h_this), (1, .int v1), (2, .int v2)] → fl2 (P_Mod_leastLeft_9 f_this_row f_this_placed) kf v1 v2 = some o → W p l e rm_Mod_leastLeft s m args below meth c H locs 0 0 Q (F0 m 9 ls []) := by
    intro kf
    induction kf with
    | zero => intro v1 v2 H locs ls hE hl h; exact no_s h
    | succ kf ih =>
      intro v1 v2 H locs ls hE hl h
      have h : P_Mod_leastLeft_9 f_this_row f_this_placed (fl2 (P_Mod_leastLeft_9 f_this_row f_this_placed) kf) v1 v2 = some o := h
      generalize fl2 (P_Mod_leastLeft_9 f_this_row f_this_placed) kf = k9 at ih h
      have hk9 := ih
      unfold P_Mod_leastLeft_9 at h
      refine lv_iload_n hx hb d_Mod_leastLeft_9 rfl (lv_at hl 2 rfl) ?_
      refine lv_if_lt (tgt := 53) hx hb d_Mod_leastLeft_10 (by decide) (fun hc => ?_) (fun hc => ?_)
      · have h := ite_t hc h
        refine lv_iload_n hx hb d_Mod_leastLeft_53 rfl (lv_at hl 1 rfl) ?_
        obtain rfl := Option.some.inj h
        exact hret H locs ls 54 d_Mod_leastLeft_54 hE
      · have h := ite_f hc h
        refine lv_aload_n hx hb d_Mod_leastLeft_13 rfl (lv_at hl 0 rfl) ?_
        refine hn_get S hE kc_Mod 0 rfl rfl 15 (by decide) mw_501 rfl d_Mod_leastLeft_14 ?_
        refine lv_iload_n hx hb d_Mod_leastLeft_17 rfl (lv_at hl 2 rfl) ?_
        obtain ⟨hi18, h⟩ := gi_s h
        refine hn_zald S hE 10 1 rfl rfl hi18 d_Mod_leastLeft_18 ?_
        refine lv_if_ne (tgt := 45) hx hb d_Mod_leastLeft_19 (by decide) (fun hc => ?_) (fun hc => ?_)
        · have h := ite_f hc h
          refine lv_iload_n hx hb d_Mod_leastLeft_45 rfl (lv_at hl 1 rfl) ?_
          refine lv_istore_n (lv' := [(1, .int v1), (0, .ref h_this), (2, .int v2)]) hx hb d_Mod_leastLeft_46 rfl hl (by decide) rfl (fun ls hl => ?_)
          refine lv_iinc (v := (v2 + (-1 : Int32))) (lv' := [(2, .int (v2 + (-1 : Int32))), (1, .int v1), (0, .ref h_this)]) hx hb d_Mod_leastLeft_47 hl (k := 2) rfl rfl (by decide) rfl (fun ls hl => ?_)
          refine lv_goto (tgt := 9) hx hb d_Mod_leastLeft_50 (by decide) ?_
          exact hk9 v1 (v2 + (-1 : Int32)) H locs ls hE (lv_sub hl [2, 1, 0] rfl) h
        · have h := ite_t hc h
          refine lv_iload_n hx hb d_Mod_leastLeft_22 rfl (lv_at hl 1 rfl) ?_
          refine lv_if_lt (tgt := 41) hx hb d_Mod_leastLeft_23 (by decide) (fun hc => ?_) (fun hc => ?_)
          · have h := ite_t hc h
            refine lv_iload_n hx hb d_Mod_leastLeft_41 rfl (lv_at hl 2 rfl) ?_
            refine lv_goto (tgt := 46) hx hb d_Mod_leastLeft_42 (by decide) ?_
            refine lv_istore_n (lv' := [(1, .int v2), (0, .ref h_this), (2, .int v2)]) hx hb d_Mod_leastLeft_46 rfl hl (by decide) rfl (fun ls hl => ?_)
            refine lv_iinc (v := (v2 + (-1 : Int32))) (lv' := [(2, .int (v2 + (-1 : Int32))), (1, .int v2), (0, .ref h_this)]) hx hb d_Mod_leastLeft_47 hl (k := 2) rfl rfl (by decide) rfl (fun ls hl => ?_)
            refine lv_goto (tgt := 9) hx hb d_Mod_leastLeft_50 (by decide) ?_
            exact hk9 v2 (v2 + (-1 : Int32)) H locs ls hE (lv_sub hl [2, 1, 0] rfl) h
          · have h := ite_f hc h
            refine lv_aload_n hx hb d_Mod_leastLeft_26 rfl (lv_at hl 0 rfl) ?_
            refine hn_get S hE kc_Mod 0 rfl rfl 5 (by decide) mw_491 rfl d_Mod_leastLeft_27 ?_
            refine lv_iload_n hx hb d_Mod_leastLeft_30 rfl (lv_at hl 2 rfl) ?_
            obtain ⟨hi31, h⟩ := gi_s h
            refine hn_iald S hE 3 0 rfl rfl hi31 d_Mod_leastLeft_31 ?_
            refine lv_aload_n hx hb d_Mod_leastLeft_32 rfl (lv_at hl 0 rfl) ?_
            refine hn_get S hE kc_Mod 0 rfl rfl 5 (by decide) mw_491 rfl d_Mod_leastLeft_33 ?_
            refine lv_iload_n hx hb d_Mod_leastLeft_36 rfl (lv_at hl 1 rfl) ?_
            obtain ⟨hi37, h⟩ := gi_s h
            refine hn_iald S hE 3 0 rfl rfl hi37 d_Mod_leastLeft_37 ?_
            refine lv_icmp_gt (tgt := 45) hx hb d_Mod_leastLeft_38 (by decide) (fun hc => ?_) (fun hc => ?_)
            · have h := ite_t hc h
              refine lv_iload_n hx hb d_Mod_leastLeft_45 rfl (lv_at hl 1 rfl) ?_
              refine lv_istore_n (lv' := [(1, .int v1), (0, .ref h_this), (2, .int v2)]) hx hb d_Mod_leastLeft_46 rfl hl (by decide) rfl (fun ls hl => ?_)
              refine lv_iinc (v := (v2 + (-1 : Int32))) (lv' := [(2, .int (v2 + (-1 : Int32))), (1, .int v1), (0, .ref h_this)]) hx hb d_Mod_leastLeft_47 hl (k := 2) rfl rfl (by decide) rfl (fun ls hl => ?_)
              refine lv_goto (tgt := 9) hx hb d_Mod_leastLeft_50 (by decide) ?_
              exact hk9 v1 (v2 + (-1 : Int32)) H locs ls hE (lv_sub hl [2, 1, 0] rfl) h
            · have h := ite_f hc h
              refine lv_iload_n hx hb d_Mod_leastLeft_41 rfl (lv_at hl 2 rfl) ?_
              refine lv_goto (tgt := 46) hx hb d_Mod_leastLeft_42 (by decide) ?_
              refine lv_istore_n (lv' := [(1, .int v2), (0, .ref h_this), (2, .int v2)]) hx hb d_Mod_leastLeft_46 rfl hl (by decide) rfl (fun ls hl => ?_)
              refine lv_iinc (v := (v2 + (-1 : Int32))) (lv' := [(2, .int (v2 + (-1 : Int32))), (1, .int v2), (0, .ref h_this)]) hx hb d_Mod_leastLeft_47 hl (k := 2) rfl rfl (by decide) rfl (fun ls hl => ?_)
              refine lv_goto (tgt := 9) hx hb d_Mod_leastLeft_50 (by decide) ?_
              exact hk9 v2 (v2 + (-1 : Int32)) H locs ls hE (lv_sub hl [2, 1, 0] rfl) h
  unfold P_Mod_leastLeft at h
  refine lv_iconst (v := -1) hx hb d_Mod_leastLeft_0 (by decide) ?_
  refine lv_istore_n (lv' := [(1, .int (-1 : Int32)), (0, .ref h_this)]) hx hb d_Mod_leastLeft_1 rfl hl (by decide) rfl (fun ls hl => ?_)
  refine lv_aload_n hx hb d_Mod_leastLeft_2 rfl (lv_at hl 1 rfl) ?_
  refine hn_get S hE kc_Mod 0 rfl rfl 4 (by decide) mw_490 rfl d_Mod_leastLeft_3 ?_
  refine lv_iconst (v := 1) hx hb d_Mod_leastLeft_6 (by decide) ?_
  refine lv_isub hx hb d_Mod_leastLeft_7 ?_
  refine lv_istore_n (lv' := [(2, .int (n_this_rowSize - (1 : Int32))), (1, .int (-1 : Int32)), (0, .ref h_this)]) hx hb d_Mod_leastLeft_8 rfl hl (by decide) rfl (fun ls hl => ?_)
  exact hL9 fu (-1 : Int32) (n_this_rowSize - (1 : Int32)) H locs ls hE (lv_sub hl [2, 1, 0] rfl) h
abbrev rm_Mod_packRow : Room := { frames := 3, cells := 0, slots := 0, locals := 66 }
theorem cf_Mod_packRow : hn_CF y_Mod_packRow b_Mod_packRow 8 none 0 := ⟨mw_698, mw_7, by decide, by decide, by decide +kernel⟩
set_option maxHeartbeats 4000000 in
set_option maxRecDepth 100000 in
theorem c_Mod_packRow (l : Launch) (D : va_G) (cI cZ : ClassId) (tt : Nat → Nat) (h_this h_this_text h_this_result h_this_row h_this_other h_this_starts h_this_sizes h_this_rules h_this_tagged h_this_pool h_this_placed : Nat) (sz : Nat) (n_this_textSize : Int32) (n_this_size : Int32) (n_this_rowSize : Int32) (n_this_count : Int32) (n_this_poolSize : Int32) (n_this_whole : Int32) (n_this_bias : Int32) (f_this_text : Nat → Int32) (f_this_result : Nat → Int32) (f_this_row : Nat → Int32) (f_this_other : Nat → Int32) (f_this_starts : Nat → Int32) (f_this_sizes : Nat → Int32) (f_this_rules : Nat → Int32) (f_this_tagged : Nat → Int32) (f_this_pool : Nat → Int32) (f_this_placed : Nat → Int32) (o : Int32 × Int32 × (Nat → Int32) × (Nat → Int32)) (h : P_Mod_packRow n_this_size n_this_rowSize f_this_result f_this_row f_this_placed = some o) : Met l y_Mod_packRow (hn_w y_Mod_packRow b_Mod_packRow 8 none) rm_Mod_packRow (hn_Pc D (TY cI cZ) tt [.ref h_this] sz [(h_this, .inr (6, [.int n_this_textSize, .ref h_this_text, .int n_this_size, .ref h_this_result, .int n_this_rowSize, .ref h_this_row, .ref h_this_other, .int n_this_count, .ref h_this_starts, .ref h_this_sizes, .ref h_this_rules, .ref h_this_tagged, .int n_this_poolSize, .ref h_this_pool, .int n_this_whole, .ref h_this_placed, .int n_this_bias])), (h_this_text, .inl (cI, 48, .inl f_this_text)), (h_this_result, .inl (cI, 2000, .inl f_this_result)), (h_this_row, .inl (cI, 200, .inl f_this_row)), (h_this_other, .inl (cI, 200, .inl f_this_other)), (h_this_starts, .inl (cI, 50, .inl f_this_starts)), (h_this_sizes, .inl (cI, 50, .inl f_this_sizes)), (h_this_rules, .inl (cI, 50, .inl f_this_rules)), (h_this_tagged, .inl (cZ, 50, .inl f_this_tagged)), (h_this_pool, .inl (cI, 300, .inl f_this_pool)), (h_this_placed, .inl (cZ, 200, .inl f_this_placed))]) (hn_Qv D [(h_this, .inr (6, [.int n_this_textSize, .ref h_this_text, .int n_this_size, .ref h_this_result, .int n_this_rowSize, .ref h_this_row, .ref h_this_other, .int n_this_count, .ref h_this_starts, .ref h_this_sizes, .ref h_this_rules, .ref h_this_tagged, .int n_this_poolSize, .ref h_this_pool, .int n_this_whole, .ref h_this_placed, .int n_this_bias])), (h_this_text, .inl (cI, 48, .inl f_this_text)), (h_this_result, .inl (cI, 2000, .inl f_this_result)), (h_this_row, .inl (cI, 200, .inl f_this_row)), (h_this_other, .inl (cI, 200, .inl f_this_other)), (h_this_starts, .inl (cI, 50, .inl f_this_starts)), (h_this_sizes, .inl (cI, 50, .inl f_this_sizes)), (h_this_rules, .inl (cI, 50, .inl f_this_rules)), (h_this_tagged, .inl (cZ, 50, .inl f_this_tagged)), (h_this_pool, .inl (cI, 300, .inl f_this_pool)), (h_this_placed, .inl (cZ, 200, .inl f_this_placed))] sz [(h_this, .inr (6, [.int n_this_textSize, .ref h_this_text, .int o.1, .ref h_this_result, .int n_this_rowSize, .ref h_this_row, .ref h_this_other, .int n_this_count, .ref h_this_starts, .ref h_this_sizes, .ref h_this_rules, .ref h_this_tagged, .int n_this_poolSize, .ref h_this_pool, .int n_this_whole, .ref h_this_placed, .int o.2.1])), (h_this_text, .inl (cI, 48, .inl f_this_text)), (h_this_result, .inl (cI, 2000, .inl o.2.2.1)), (h_this_row, .inl (cI, 200, .inl f_this_row)), (h_this_other, .inl (cI, 200, .inl f_this_other)), (h_this_starts, .inl (cI, 50, .inl f_this_starts)), (h_this_sizes, .inl (cI, 50, .inl f_this_sizes)), (h_this_rules, .inl (cI, 50, .inl f_this_rules)), (h_this_tagged, .inl (cZ, 50, .inl f_this_tagged)), (h_this_pool, .inl (cI, 300, .inl f_this_pool)), (h_this_placed, .inl (cZ, 200, .inl o.2.2.2))]) 0 0 (va_A [(h_this, .inr (6, [.int n_this_textSize, .ref h_this_text, .int n_this_size, .ref h_this_result, .int n_this_rowSize, .ref h_this_row, .ref h_this_other, .int n_this_count, .ref h_this_starts, .ref h_this_sizes, .ref h_this_rules, .ref h_this_tagged, .int n_this_poolSize, .ref h_this_pool, .int n_this_whole, .ref h_this_placed, .int n_this_bias])), (h_this_text, .inl (cI, 48, .inl f_this_text)), (h_this_result, .inl (cI, 2000, .inl f_this_result)), (h_this_row, .inl (cI, 200, .inl f_this_row)), (h_this_other, .inl (cI, 200, .inl f_this_other)), (h_this_starts, .inl (cI, 50, .inl f_this_starts)), (h_this_sizes, .inl (cI, 50, .inl f_this_sizes)), (h_this_rules, .inl (cI, 50, .inl f_this_rules)), (h_this_tagged, .inl (cZ, 50, .inl f_this_tagged)), (h_this_pool, .inl (cI, 300, .inl f_this_pool)), (h_this_placed, .inl (cZ, 200, .inl f_this_placed))] sz) := by
  refine hn_ofWv (own := R_Mod) (by decide) rfl (Nat.le_of_ble_eq_true rfl) ?_
  intro p e s m args below meth c A H locs ls Q S hE hl hret
  have hx := S.1
  have hb := S.2.1
  have hown := S.2.2.2.1
  have hl : lv_has ls 8 [(0, .ref h_this)] := hl
  have hL94 : ∀ (kf : Nat) (v1 : Int32) (v2 : Int32) (v3 : Int32) (v4 : Int32) (v5 : Int32) (n_this_size : Int32) (n_this_bias : Int32) (f_this_result : Nat → Int32) (f_this_placed : Nat → Int32) (H : Heap) (locs : List Loc) (ls : Array Slot), hn_E D (TY cI cZ) tt A s H locs [(h_this, .inr (6, [.int n_this_textSize, .ref h_this_text, .int n_this_size, .ref h_this_result, .int n_this_rowSize, .ref h_this_row, .ref h_this_other, .int n_this_count, .ref h_this_starts, .ref h_this_sizes, .ref h_this_rules, .ref h_this_tagged, .int n_this_poolSize, .ref h_this_pool, .int n_this_whole, .ref h_this_placed, .int n_this_bias])), (h_this_text, .inl (cI, 48, .inl f_this_text)), (h_this_result, .inl (cI, 2000, .inl f_this_result)), (h_this_row, .inl (cI, 200, .inl f_this_row)), (h_this_other, .inl (cI, 200, .inl f_this_other)), (h_this_starts, .inl (cI, 50, .inl f_this_starts)), (h_this_sizes, .inl (cI, 50, .inl f_this_sizes)), (h_this_rules, .inl (cI, 50, .inl f_this_rules)), (h_this_tagged, .inl (cZ, 50, .inl f_this_tagged)), (h_this_pool, .inl (cI, 300, .inl f_this_pool)), (h_this_placed, .inl (cZ, 200, .inl f_this_placed))] → lv_has ls 8 [(0, .ref h_this), (1, .int v1), (2, .int v2), (3, .int v3), (4, .int v4), (5, .int v5)] → fl9 (P_Mod_packRow_94 n_this_rowSize f_this_row) kf v1 v2 v3 v4 v5 n_this_size n_this_bias f_this_result f_this_placed = some o → W p l e rm_Mod_packRow s m args below meth c H locs 0 0 Q (F0 m 94 ls []) := by
    intro kf
    induction kf with
    | zero => intro v1 v2 v3 v4 v5 n_this_size n_this_bias f_this_result f_this_placed H locs ls hE hl h; exact no_s h
    | succ kf ih =>
      intro v1 v2 v3 v4 v5 n_this_size n_this_bias f_this_result f_this_placed H locs ls hE hl h
      have h : P_Mod_packRow_94 n_this_rowSize f_this_row (fl9 (P_Mod_packRow_94 n_this_rowSize f_this_row) kf) v1 v2 v3 v4 v5 n_this_size n_this_bias f_this_result f_this_placed = some o := h
      generalize fl9 (P_Mod_packRow_94 n_this_rowSize f_this_row) kf = k94 at ih h
      have hk94 := ih
      have hL105 : ∀ (v1 : Int32) (v2 : Int32) (v3 : Int32) (v4 : Int32) (v5 : Int32) (n_this_size : Int32) (n_this_bias : Int32) (f_this_result : Nat → Int32) (f_this_placed : Nat → Int32) (kf : Nat) (v6 : Int32) (v7 : Int32) (H : Heap) (locs : List Loc) (ls : Array Slot), hn_E D (TY cI cZ) tt A s H locs [(h_this, .inr (6, [.int n_this_textSize, .ref h_this_text, .int n_this_size, .ref h_this_result, .int n_this_rowSize, .ref h_this_row, .ref h_this_other, .int n_this_count, .ref h_this_starts, .ref h_this_sizes, .ref h_this_rules, .ref h_this_tagged, .int n_this_poolSize, .ref h_this_pool, .int n_this_whole, .ref h_this_placed, .int n_this_bias])), (h_this_text, .inl (cI, 48, .inl f_this_text)), (h_this_result, .inl (cI, 2000, .inl f_this_result)), (h_this_row, .inl (cI, 200, .inl f_this_row)), (h_this_other, .inl (cI, 200, .inl f_this_other)), (h_this_starts, .inl (cI, 50, .inl f_this_starts)), (h_this_sizes, .inl (cI, 50, .inl f_this_sizes)), (h_this_rules, .inl (cI, 50, .inl f_this_rules)), (h_this_tagged, .inl (cZ, 50, .inl f_this_tagged)), (h_this_pool, .inl (cI, 300, .inl f_this_pool)), (h_this_placed, .inl (cZ, 200, .inl f_this_placed))] → lv_has ls 8 [(0, .ref h_this), (1, .int v1), (2, .int v2), (3, .int v3), (4, .int v4), (5, .int v5), (6, .int v6), (7, .int v7)] → fl2 (P_Mod_packRow_105 n_this_rowSize f_this_row k94 v1 v2 v3 v4 v5 n_this_size n_this_bias f_this_result f_this_placed) kf v6 v7 = some o → W p l e rm_Mod_packRow s m args below meth c H locs 0 0 Q (F0 m 105 ls []) := by
        intro v1 v2 v3 v4 v5 n_this_size n_this_bias f_this_result f_this_placed kf
        induction kf with
        | zero => intro v6 v7 H locs ls hE hl h; exact no_s h
        | succ kf ih =>
          intro v6 v7 H locs ls hE hl h
          have h : P_Mod_packRow_105 n_this_rowSize f_this_row k94 v1 v2 v3 v4 v5 n_this_size n_this_bias f_this_result f_this_placed (fl2 (P_Mod_packRow_105 n_this_rowSize f_this_row k94 v1 v2 v3 v4 v5 n_this_size n_this_bias f_this_result f_this_placed) kf) v6 v7 = some o := h
          generalize fl2 (P_Mod_packRow_105 n_this_rowSize f_this_row k94 v1 v2 v3 v4 v5 n_this_size n_this_bias f_this_result f_this_placed) kf = k105 at ih h
          have hk105 := ih
          unfold P_Mod_packRow_105 at h
          refine lv_iload hx hb d_Mod_packRow_105 (lv_at hl 7 rfl) ?_
          refine lv_iload hx hb d_Mod_packRow_107 (lv_at hl 5 rfl) ?_
          refine lv_icmp_ge (tgt := 139) hx hb d_Mod_packRow_109 (by decide) (fun hc => ?_) (fun hc => ?_)
          · have h := ite_t hc h
            refine lv_aload_n hx hb d_Mod_packRow_139 rfl (lv_at hl 0 rfl) ?_
            refine hn_get S hE kc_Mod 0 rfl rfl 5 (by decide) mw_491 rfl d_Mod_packRow_140 ?_
            refine lv_iload hx hb d_Mod_packRow_143 (lv_at hl 5 rfl) ?_
            obtain ⟨hi145, h⟩ := gi_s h
            refine hn_iald S hE 3 0 rfl rfl hi145 d_Mod_packRow_145 ?_
            refine lv_iload_n hx hb d_Mod_packRow_146 rfl (lv_at hl 2 rfl) ?_
            refine lv_isub hx hb d_Mod_packRow_147 ?_
            refine lv_iload_n hx hb d_Mod_packRow_148 rfl (lv_at hl 1 rfl) ?_
            refine lv_iconst (v := 1) hx hb d_Mod_packRow_149 (by decide) ?_
            refine lv_iadd hx hb d_Mod_packRow_150 ?_
            refine lv_imul hx hb d_Mod_packRow_151 ?_
            refine lv_iload hx hb d_Mod_packRow_152 (lv_at hl 6 rfl) ?_
            refine lv_iadd hx hb d_Mod_packRow_154 ?_
            refine lv_iload_n hx hb d_Mod_packRow_155 rfl (lv_at hl 3 rfl) ?_
            refine lv_isub hx hb d_Mod_packRow_156 ?_
            refine lv_istore (lv' := [(7, .int (((((f_this_row (v5).toNatClampNeg) - v2) * (v1 + (1 : Int32))) + v6) - v3)), (0, .ref h_this), (1, .int v1), (2, .int v2), (3, .int v3), (4, .int v4), (5, .int v5), (6, .int v6)]) hx hb d_Mod_packRow_157 hl (by decide) rfl (fun ls hl => ?_)
            refine lv_aload_n hx hb d_Mod_packRow_159 rfl (lv_at hl 1 rfl) ?_
            refine lv_iload hx hb d_Mod_packRow_160 (lv_at hl 0 rfl) ?_
            obtain ⟨x162, hc162, h⟩ := bd_s h
            have hM := (c_Mod_outNumber l D cI cZ tt h_this h_this_text h_this_result h_this_row h_this_other h_this_starts h_this_sizes h_this_rules h_this_tagged h_this_pool h_this_placed H.size n_this_textSize n_this_size n_this_rowSize n_this_count n_this_poolSize n_this_whole n_this_bias f_this_text f_this_result f_this_row f_this_other f_this_starts f_this_sizes f_this_rules f_this_tagged f_this_pool f_this_placed (((((f_this_row (v5).toNatClampNeg) - v2) * (v1 + (1 : Int32))) + v6) - v3) x162 hc162)
            refine hn_cv hE (hn_runV (As := [.int (((((f_this_row (v5).toNatClampNeg) - v2) * (v1 + (1 : Int32))) + v6) - v3)]) (rest := []) S hE hM cf_Mod_outNumber mw_703 mw_705 ms_43 ⟨rfl, rfl⟩ ⟨Nat.le_of_ble_eq_true rfl, Nat.le_of_ble_eq_true rfl⟩ [0, 1, 2, 3, 4, 5, 6, 7, 8, 9, 10] rfl rfl rfl rfl rfl rfl hl.1 (lv_room (Nat.le_of_ble_eq_true rfl)) d_Mod_packRow_162 ⟨Nat.zero_le _, Nat.zero_le _⟩) [0, 1, 2, 3, 4, 5, 6, 7, 8, 9, 10] rfl rfl (fun H locs hE => ?_)
            have hE : hn_E D (TY cI cZ) tt A s H locs [(h_this, .inr (6, [.int n_this_textSize, .ref h_this_text, .int x162.1, .ref h_this_result, .int n_this_rowSize, .ref h_this_row, .ref h_this_other, .int n_this_count, .ref h_this_starts, .ref h_this_sizes, .ref h_this_rules, .ref h_this_tagged, .int n_this_poolSize, .ref h_this_pool, .int n_this_whole, .ref h_this_placed, .int n_this_bias])), (h_this_text, .inl (cI, 48, .inl f_this_text)), (h_this_result, .inl (cI, 2000, .inl x162.2)), (h_this_row, .inl (cI, 200, .inl f_this_row)), (h_this_other, .inl (cI, 200, .inl f_this_other)), (h_this_starts, .inl (cI, 50, .inl f_this_starts)), (h_this_sizes, .inl (cI, 50, .inl f_this_sizes)), (h_this_rules, .inl (cI, 50, .inl f_this_rules)), (h_this_tagged, .inl (cZ, 50, .inl f_this_tagged)), (h_this_pool, .inl (cI, 300, .inl f_this_pool)), (h_this_placed, .inl (cZ, 200, .inl f_this_placed))] := hE
            refine lv_aload_n hx hb d_Mod_packRow_165 rfl (lv_at hl 1 rfl) ?_
            refine lv_iload hx hb d_Mod_packRow_166 (lv_at hl 0 rfl) ?_
            refine lv_iload_n hx hb d_Mod_packRow_168 rfl (lv_at hl 2 rfl) ?_
            refine lv_iconst (v := 1) hx hb d_Mod_packRow_169 (by decide) ?_
            refine lv_iadd hx hb d_Mod_packRow_170 ?_
            refine lv_iload hx hb d_Mod_packRow_171 (lv_at hl 5 rfl) ?_
            obtain ⟨x173, hc173, h⟩ := bd_s h
            have hM := (c_Mod_adapt l D cI cZ tt h_this h_this_text h_this_result h_this_row h_this_other h_this_starts h_this_sizes h_this_rules h_this_tagged h_this_pool h_this_placed H.size n_this_textSize x162.1 n_this_rowSize n_this_count n_this_poolSize n_this_whole n_this_bias f_this_text x162.2 f_this_row f_this_other f_this_starts f_this_sizes f_this_rules f_this_tagged f_this_pool f_this_placed (((((f_this_row (v5).toNatClampNeg) - v2) * (v1 + (1 : Int32))) + v6) - v3) (v1 + (1 : Int32)) v4 x173 hc173)
            refine hn_cv hE (hn_runV (As := [.int (((((f_this_row (v5).toNatClampNeg) - v2) * (v1 + (1 : Int32))) + v6) - v3), .int (v1 + (1 : Int32)), .int v4]) (rest := []) S hE hM cf_Mod_adapt mw_636 mw_638 ms_28 ⟨rfl, rfl⟩ ⟨Nat.le_of_ble_eq_true rfl, Nat.le_of_ble_eq_true rfl⟩ [0, 1, 2, 3, 4, 5, 6, 7, 8, 9, 10] rfl rfl rfl rfl rfl rfl hl.1 (lv_room (Nat.le_of_ble_eq_true rfl)) d_Mod_packRow_173 ⟨Nat.zero_le _, Nat.zero_le _⟩) [0, 1, 2, 3, 4, 5, 6, 7, 8, 9, 10] rfl rfl (fun H locs hE => ?_)
            have hE : hn_E D (TY cI cZ) tt A s H locs [(h_this, .inr (6, [.int n_this_textSize, .ref h_this_text, .int x162.1, .ref h_this_result, .int n_this_rowSize, .ref h_this_row, .ref h_this_other, .int n_this_count, .ref h_this_starts, .ref h_this_sizes, .ref h_this_rules, .ref h_this_tagged, .int n_this_poolSize, .ref h_this_pool, .int n_this_whole, .ref h_this_placed, .int x173])), (h_this_text, .inl (cI, 48, .inl f_this_text)), (h_this_result, .inl (cI, 2000, .inl x162.2)), (h_this_row, .inl (cI, 200, .inl f_this_row)), (h_this_other, .inl (cI, 200, .inl f_this_other)), (h_this_starts, .inl (cI, 50, .inl f_this_starts)), (h_this_sizes, .inl (cI, 50, .inl f_this_sizes)), (h_this_rules, .inl (cI, 50, .inl f_this_rules)), (h_this_tagged, .inl (cZ, 50, .inl f_this_tagged)), (h_this_pool, .inl (cI, 300, .inl f_this_pool)), (h_this_placed, .inl (cZ, 200, .inl f_this_placed))] := hE
            refine lv_aload_n hx hb d_Mod_packRow_176 rfl (lv_at hl 1 rfl) ?_
            refine hn_get S hE kc_Mod 0 rfl rfl 15 (by decide) mw_501 rfl d_Mod_packRow_177 ?_
            refine lv_iload hx hb d_Mod_packRow_180 (lv_at hl 6 rfl) ?_
            refine lv_iconst (v := 1) hx hb d_Mod_packRow_182 (by decide) ?_
            obtain ⟨hi183, h⟩ := gi_s h
            refine hn_zast S hE 10 1 rfl rfl hi183 d_Mod_packRow_183 (fun H locs hE => ?_)
            have hE : hn_E D (TY cI cZ) tt A s H locs [(h_this, .inr (6, [.int n_this_textSize, .ref h_this_text, .int x162.1, .ref h_this_result, .int n_this_rowSize, .ref h_this_row, .ref h_this_other, .int n_this_count, .ref h_this_starts, .ref h_this_sizes, .ref h_this_rules, .ref h_this_tagged, .int n_this_poolSize, .ref h_this_pool, .int n_this_whole, .ref h_this_placed, .int x173])), (h_this_text, .inl (cI, 48, .inl f_this_text)), (h_this_result, .inl (cI, 2000, .inl x162.2)), (h_this_row, .inl (cI, 200, .inl f_this_row)), (h_this_other, .inl (cI, 200, .inl f_this_other)), (h_this_starts, .inl (cI, 50, .inl f_this_starts)), (h_this_sizes, .inl (cI, 50, .inl f_this_sizes)), (h_this_rules, .inl (cI, 50, .inl f_this_rules)), (h_this_tagged, .inl (cZ, 50, .inl f_this_tagged)), (h_this_pool, .inl (cI, 300, .inl f_this_pool)), (h_this_placed, .inl (cZ, 200, .inl (upd f_this_placed (v5).toNatClampNeg (vp_nar .boolean (1 : Int32)))))] := hE
            refine lv_iconst (v := 0) hx hb d_Mod_packRow_184 (by decide) ?_
            refine lv_istore (lv' := [(4, .int (0 : Int32)), (7, .int (((((f_this_row (v5).toNatClampNeg) - v2) * (v1 + (1 : Int32))) + v6) - v3)), (0, .ref h_this), (1, .int v1), (2, .int v2), (3, .int v3), (5, .int v5), (6, .int v6)]) hx hb d_Mod_packRow_185 hl (by decide) rfl (fun ls hl => ?_)
            refine lv_iinc (v := (v1 + (1 : Int32))) (lv' := [(1, .int (v1 + (1 : Int32))), (4, .int (0 : Int32)), (7, .int (((((f_this_row (v5).toNatClampNeg) - v2) * (v1 + (1 : Int32))) + v6) - v3)), (0, .ref h_this), (2, .int v2), (3, .int v3), (5, .int v5), (6, .int v6)]) hx hb d_Mod_packRow_187 hl (k := 3) rfl rfl (by decide) rfl (fun ls hl => ?_)
            refine lv_aload_n hx hb d_Mod_packRow_190 rfl (lv_at hl 3 rfl) ?_
            refine hn_get S hE kc_Mod 0 rfl rfl 5 (by decide) mw_491 rfl d_Mod_packRow_191 ?_
            refine lv_iload hx hb d_Mod_packRow_194 (lv_at hl 6 rfl) ?_
            obtain ⟨hi196, h⟩ := gi_s h
            refine hn_iald S hE 3 0 rfl rfl hi196 d_Mod_packRow_196 ?_
            refine lv_istore_n (lv' := [(2, .int (f_this_row (v5).toNatClampNeg)), (1, .int (v1 + (1 : Int32))), (4, .int (0 : Int32)), (7, .int (((((f_this_row (v5).toNatClampNeg) - v2) * (v1 + (1 : Int32))) + v6) - v3)), (0, .ref h_this), (3, .int v3), (5, .int v5), (6, .int v6)]) hx hb d_Mod_packRow_197 rfl hl (by decide) rfl (fun ls hl => ?_)
            refine lv_iload hx hb d_Mod_packRow_198 (lv_at hl 7 rfl) ?_
            refine lv_iconst (v := 1) hx hb d_Mod_packRow_200 (by decide) ?_
            refine lv_iadd hx hb d_Mod_packRow_201 ?_
            refine lv_istore_n (lv' := [(3, .int (v6 + (1 : Int32))), (2, .int (f_this_row (v5).toNatClampNeg)), (1, .int (v1 + (1 : Int32))), (4, .int (0 : Int32)), (7, .int (((((f_this_row (v5).toNatClampNeg) - v2) * (v1 + (1 : Int32))) + v6) - v3)), (0, .ref h_this), (5, .int v5), (6, .int v6)]) hx hb d_Mod_packRow_202 rfl hl (by decide) rfl (fun ls hl => ?_)
            refine lv_aload_n hx hb d_Mod_packRow_203 rfl (lv_at hl 5 rfl) ?_
            obtain ⟨x204, hc204, h⟩ := bd_s h
            have hM := (c_Mod_leastLeft l D cI cZ tt h_this h_this_text h_this_result h_this_row h_this_other h_this_starts h_this_sizes h_this_rules h_this_tagged h_this_pool h_this_placed H.size n_this_textSize x162.1 n_this_rowSize n_this_count n_this_poolSize n_this_whole x173 f_this_text x162.2 f_this_row f_this_other f_this_starts f_this_sizes f_this_rules f_this_tagged f_this_pool (upd f_this_placed (v5).toNatClampNeg (vp_nar .boolean (1 : Int32))) x204 hc204)
            refine hn_ci hE (hn_runV (As := []) (rest := []) S hE hM cf_Mod_leastLeft mw_699 mw_701 ms_42 ⟨rfl, rfl⟩ ⟨Nat.le_of_ble_eq_true rfl, Nat.le_of_ble_eq_true rfl⟩ [0, 1, 2, 3, 4, 5, 6, 7, 8, 9, 10] rfl rfl rfl rfl rfl rfl hl.1 (lv_room (Nat.le_of_ble_eq_true rfl)) d_Mod_packRow_204 ⟨Nat.zero_le _, Nat.zero_le _⟩) [0, 1, 2, 3, 4, 5, 6, 7, 8, 9, 10] rfl rfl (fun H locs hE => ?_)
            have hE : hn_E D (TY cI cZ) tt A s H locs [(h_this, .inr (6, [.int n_this_textSize, .ref h_this_text, .int x162.1, .ref h_this_result, .int n_this_rowSize, .ref h_this_row, .ref h_this_other, .int n_this_count, .ref h_this_starts, .ref h_this_sizes, .ref h_this_rules, .ref h_this_tagged, .int n_this_poolSize, .ref h_this_pool, .int n_this_whole, .ref h_this_placed, .int x173])), (h_this_text, .inl (cI, 48, .inl f_this_text)), (h_this_result, .inl (cI, 2000, .inl x162.2)), (h_this_row, .inl (cI, 200, .inl f_this_row)), (h_this_other, .inl (cI, 200, .inl f_this_other)), (h_this_starts, .inl (cI, 50, .inl f_this_starts)), (h_this_sizes, .inl (cI, 50, .inl f_this_sizes)), (h_this_rules, .inl (cI, 50, .inl f_this_rules)), (h_this_tagged, .inl (cZ, 50, .inl f_this_tagged)), (h_this_pool, .inl (cI, 300, .inl f_this_pool)), (h_this_placed, .inl (cZ, 200, .inl (upd f_this_placed (v5).toNatClampNeg (vp_nar .boolean (1 : Int32)))))] := hE
            refine lv_istore (lv' := [(5, .int x204), (3, .int (v6 + (1 : Int32))), (2, .int (f_this_row (v5).toNatClampNeg)), (1, .int (v1 + (1 : Int32))), (4, .int (0 : Int32)), (7, .int (((((f_this_row (v5).toNatClampNeg) - v2) * (v1 + (1 : Int32))) + v6) - v3)), (0, .ref h_this), (6, .int v6)]) hx hb d_Mod_packRow_207 hl (by decide) rfl (fun ls hl => ?_)
            refine lv_goto (tgt := 94) hx hb d_Mod_packRow_209 (by decide) ?_
            exact hk94 (v1 + (1 : Int32)) (f_this_row (v5).toNatClampNeg) (v6 + (1 : Int32)) (0 : Int32) x204 x162.1 x173 x162.2 (upd f_this_placed (v5).toNatClampNeg (vp_nar .boolean (1 : Int32))) H locs ls hE (lv_sub hl [6, 3, 2, 1, 4, 0] rfl) h
          · have h := ite_f hc h
            refine lv_aload_n hx hb d_Mod_packRow_112 rfl (lv_at hl 0 rfl) ?_
            refine hn_get S hE kc_Mod 0 rfl rfl 15 (by decide) mw_501 rfl d_Mod_packRow_113 ?_
            refine lv_iload hx hb d_Mod_packRow_116 (lv_at hl 7 rfl) ?_
            obtain ⟨hi118, h⟩ := gi_s h
            refine hn_zald S hE 10 1 rfl rfl hi118 d_Mod_packRow_118 ?_
            refine lv_if_eq (tgt := 129) hx hb d_Mod_packRow_119 (by decide) (fun hc => ?_) (fun hc => ?_)
            · have h := ite_t hc h
              refine lv_iload hx hb d_Mod_packRow_129 (lv_at hl 6 rfl) ?_
              refine lv_istore (lv' := [(6, .int v6), (0, .ref h_this), (1, .int v1), (2, .int v2), (3, .int v3), (4, .int v4), (5, .int v5), (7, .int v7)]) hx hb d_Mod_packRow_131 hl (by decide) rfl (fun ls hl => ?_)
              refine lv_iinc (v := (v7 + (1 : Int32))) (lv' := [(7, .int (v7 + (1 : Int32))), (6, .int v6), (0, .ref h_this), (1, .int v1), (2, .int v2), (3, .int v3), (4, .int v4), (5, .int v5)]) hx hb d_Mod_packRow_133 hl (k := 7) rfl rfl (by decide) rfl (fun ls hl => ?_)
              refine lv_goto (tgt := 105) hx hb d_Mod_packRow_136 (by decide) ?_
              exact hk105 v6 (v7 + (1 : Int32)) H locs ls hE (lv_sub hl [2, 3, 4, 5, 6, 7, 1, 0] rfl) h
            · have h := ite_f hc h
              refine lv_iload hx hb d_Mod_packRow_122 (lv_at hl 6 rfl) ?_
              refine lv_iconst (v := 1) hx hb d_Mod_packRow_124 (by decide) ?_
              refine lv_iadd hx hb d_Mod_packRow_125 ?_
              refine lv_goto (tgt := 131) hx hb d_Mod_packRow_126 (by decide) ?_
              refine lv_istore (lv' := [(6, .int (v6 + (1 : Int32))), (0, .ref h_this), (1, .int v1), (2, .int v2), (3, .int v3), (4, .int v4), (5, .int v5), (7, .int v7)]) hx hb d_Mod_packRow_131 hl (by decide) rfl (fun ls hl => ?_)
              refine lv_iinc (v := (v7 + (1 : Int32))) (lv' := [(7, .int (v7 + (1 : Int32))), (6, .int (v6 + (1 : Int32))), (0, .ref h_this), (1, .int v1), (2, .int v2), (3, .int v3), (4, .int v4), (5, .int v5)]) hx hb d_Mod_packRow_133 hl (k := 7) rfl rfl (by decide) rfl (fun ls hl => ?_)
              refine lv_goto (tgt := 105) hx hb d_Mod_packRow_136 (by decide) ?_
              exact hk105 (v6 + (1 : Int32)) (v7 + (1 : Int32)) H locs ls hE (lv_sub hl [2, 3, 4, 5, 6, 7, 1, 0] rfl) h
      unfold P_Mod_packRow_94 at h
      refine lv_iload hx hb d_Mod_packRow_94 (lv_at hl 5 rfl) ?_
      refine lv_if_lt (tgt := 212) hx hb d_Mod_packRow_96 (by decide) (fun hc => ?_) (fun hc => ?_)
      · have h := ite_t hc h
        obtain rfl := Option.some.inj h
        exact hret H locs ls 212 d_Mod_packRow_212 hE
      · have h := ite_f hc h
        refine lv_iconst (v := 0) hx hb d_Mod_packRow_99 (by decide) ?_
        refine lv_istore (lv' := [(6, .int (0 : Int32)), (0, .ref h_this), (1, .int v1), (2, .int v2), (3, .int v3), (4, .int v4), (5, .int v5)]) hx hb d_Mod_packRow_100 hl (by decide) rfl (fun ls hl => ?_)
        refine lv_iconst (v := 0) hx hb d_Mod_packRow_102 (by decide) ?_
        refine lv_istore (lv' := [(7, .int (0 : Int32)), (6, .int (0 : Int32)), (0, .ref h_this), (1, .int v1), (2, .int v2), (3, .int v3), (4, .int v4), (5, .int v5)]) hx hb d_Mod_packRow_103 hl (by decide) rfl (fun ls hl => ?_)
        exact hL105 v1 v2 v3 v4 v5 n_this_size n_this_bias f_this_result f_this_placed fu (0 : Int32) (0 : Int32) H locs ls hE (lv_sub hl [2, 3, 4, 5, 6, 7, 1, 0] rfl) h
  have hj73 : ∀ (v1 : Int32) (n_this_size : Int32) (n_this_bias : Int32) (f_this_result : Nat → Int32) (f_this_placed : Nat → Int32) (H : Heap) (locs : List Loc) (ls : Array Slot), hn_E D (TY cI cZ) tt A s H locs [(h_this, .inr (6, [.int n_this_textSize, .ref h_this_text, .int n_this_size, .ref h_this_result, .int n_this_rowSize, .ref h_this_row, .ref h_this_other, .int n_this_count, .ref h_this_starts, .ref h_this_sizes, .ref h_this_rules, .ref h_this_tagged, .int n_this_poolSize, .ref h_this_pool, .int n_this_whole, .ref h_this_placed, .int n_this_bias])), (h_this_text, .inl (cI, 48, .inl f_this_text)), (h_this_result, .inl (cI, 2000, .inl f_this_result)), (h_this_row, .inl (cI, 200, .inl f_this_row)), (h_this_other, .inl (cI, 200, .inl f_this_other)), (h_this_starts, .inl (cI, 50, .inl f_this_starts)), (h_this_sizes, .inl (cI, 50, .inl f_this_sizes)), (h_this_rules, .inl (cI, 50, .inl f_this_rules)), (h_this_tagged, .inl (cZ, 50, .inl f_this_tagged)), (h_this_pool, .inl (cI, 300, .inl f_this_pool)), (h_this_placed, .inl (cZ, 200, .inl f_this_placed))] → lv_has ls 8 [(0, .ref h_this), (1, .int v1)] → P_Mod_packRow_73 n_this_rowSize f_this_row v1 n_this_size f_this_result f_this_placed = some o → W p l e rm_Mod_packRow s m args below meth c H locs 0 0 Q (F0 m 73 ls []) := by
    intro v1 n_this_size n_this_bias f_this_result f_this_placed H locs ls hE hl h
    unfold P_Mod_packRow_73 at h
    refine lv_aload_n hx hb d_Mod_packRow_73 rfl (lv_at hl 0 rfl) ?_
    refine lv_bipush (v := 72) hx hb d_Mod_packRow_74 (by decide) ?_
    refine hn_put (tv := .int) S hE kc_Mod t_Mod_ok n_Mod 0 rfl rfl 16 (by decide) mw_502 rfl (by decide +kernel) rfl rfl (Nat.le_of_ble_eq_true rfl) d_Mod_packRow_76 (fun H locs hE => ?_)
    have hE : hn_E D (TY cI cZ) tt A s H locs [(h_this, .inr (6, [.int n_this_textSize, .ref h_this_text, .int n_this_size, .ref h_this_result, .int n_this_rowSize, .ref h_this_row, .ref h_this_other, .int n_this_count, .ref h_this_starts, .ref h_this_sizes, .ref h_this_rules, .ref h_this_tagged, .int n_this_poolSize, .ref h_this_pool, .int n_this_whole, .ref h_this_placed, .int (72 : Int32)])), (h_this_text, .inl (cI, 48, .inl f_this_text)), (h_this_result, .inl (cI, 2000, .inl f_this_result)), (h_this_row, .inl (cI, 200, .inl f_this_row)), (h_this_other, .inl (cI, 200, .inl f_this_other)), (h_this_starts, .inl (cI, 50, .inl f_this_starts)), (h_this_sizes, .inl (cI, 50, .inl f_this_sizes)), (h_this_rules, .inl (cI, 50, .inl f_this_rules)), (h_this_tagged, .inl (cZ, 50, .inl f_this_tagged)), (h_this_pool, .inl (cI, 300, .inl f_this_pool)), (h_this_placed, .inl (cZ, 200, .inl f_this_placed))] := hE
    refine lv_sipush (v := 128) hx hb d_Mod_packRow_79 (by decide) ?_
    refine lv_istore_n (lv' := [(2, .int (128 : Int32)), (0, .ref h_this), (1, .int v1)]) hx hb d_Mod_packRow_82 rfl hl (by decide) rfl (fun ls hl => ?_)
    refine lv_iconst (v := 0) hx hb d_Mod_packRow_83 (by decide) ?_
    refine lv_istore_n (lv' := [(3, .int (0 : Int32)), (2, .int (128 : Int32)), (0, .ref h_this), (1, .int v1)]) hx hb d_Mod_packRow_84 rfl hl (by decide) rfl (fun ls hl => ?_)
    refine lv_iconst (v := 1) hx hb d_Mod_packRow_85 (by decide) ?_
    refine lv_istore (lv' := [(4, .int (1 : Int32)), (3, .int (0 : Int32)), (2, .int (128 : Int32)), (0, .ref h_this), (1, .int v1)]) hx hb d_Mod_packRow_86 hl (by decide) rfl (fun ls hl => ?_)
    refine lv_aload_n hx hb d_Mod_packRow_88 rfl (lv_at hl 3 rfl) ?_
    obtain ⟨x89, hc89, h⟩ := bd_s h
    have hM := (c_Mod_leastLeft l D cI cZ tt h_this h_this_text h_this_result h_this_row h_this_other h_this_starts h_this_sizes h_this_rules h_this_tagged h_this_pool h_this_placed H.size n_this_textSize n_this_size n_this_rowSize n_this_count n_this_poolSize n_this_whole (72 : Int32) f_this_text f_this_result f_this_row f_this_other f_this_starts f_this_sizes f_this_rules f_this_tagged f_this_pool f_this_placed x89 hc89)
    refine hn_ci hE (hn_runV (As := []) (rest := []) S hE hM cf_Mod_leastLeft mw_699 mw_701 ms_42 ⟨rfl, rfl⟩ ⟨Nat.le_of_ble_eq_true rfl, Nat.le_of_ble_eq_true rfl⟩ [0, 1, 2, 3, 4, 5, 6, 7, 8, 9, 10] rfl rfl rfl rfl rfl rfl hl.1 (lv_room (Nat.le_of_ble_eq_true rfl)) d_Mod_packRow_89 ⟨Nat.zero_le _, Nat.zero_le _⟩) [0, 1, 2, 3, 4, 5, 6, 7, 8, 9, 10] rfl rfl (fun H locs hE => ?_)
    have hE : hn_E D (TY cI cZ) tt A s H locs [(h_this, .inr (6, [.int n_this_textSize, .ref h_this_text, .int n_this_size, .ref h_this_result, .int n_this_rowSize, .ref h_this_row, .ref h_this_other, .int n_this_count, .ref h_this_starts, .ref h_this_sizes, .ref h_this_rules, .ref h_this_tagged, .int n_this_poolSize, .ref h_this_pool, .int n_this_whole, .ref h_this_placed, .int (72 : Int32)])), (h_this_text, .inl (cI, 48, .inl f_this_text)), (h_this_result, .inl (cI, 2000, .inl f_this_result)), (h_this_row, .inl (cI, 200, .inl f_this_row)), (h_this_other, .inl (cI, 200, .inl f_this_other)), (h_this_starts, .inl (cI, 50, .inl f_this_starts)), (h_this_sizes, .inl (cI, 50, .inl f_this_sizes)), (h_this_rules, .inl (cI, 50, .inl f_this_rules)), (h_this_tagged, .inl (cZ, 50, .inl f_this_tagged)), (h_this_pool, .inl (cI, 300, .inl f_this_pool)), (h_this_placed, .inl (cZ, 200, .inl f_this_placed))] := hE
    refine lv_istore (lv' := [(5, .int x89), (4, .int (1 : Int32)), (3, .int (0 : Int32)), (2, .int (128 : Int32)), (0, .ref h_this), (1, .int v1)]) hx hb d_Mod_packRow_92 hl (by decide) rfl (fun ls hl => ?_)
    exact hL94 fu v1 (128 : Int32) (0 : Int32) (1 : Int32) x89 n_this_size (72 : Int32) f_this_result f_this_placed H locs ls hE (lv_sub hl [4, 5, 3, 2, 1, 0] rfl) h
  have hL4 : ∀ (n_this_bias : Int32) (kf : Nat) (v1 : Int32) (v2 : Int32) (n_this_size : Int32) (f_this_result : Nat → Int32) (f_this_placed : Nat → Int32) (H : Heap) (locs : List Loc) (ls : Array Slot), hn_E D (TY cI cZ) tt A s H locs [(h_this, .inr (6, [.int n_this_textSize, .ref h_this_text, .int n_this_size, .ref h_this_result, .int n_this_rowSize, .ref h_this_row, .ref h_this_other, .int n_this_count, .ref h_this_starts, .ref h_this_sizes, .ref h_this_rules, .ref h_this_tagged, .int n_this_poolSize, .ref h_this_pool, .int n_this_whole, .ref h_this_placed, .int n_this_bias])), (h_this_text, .inl (cI, 48, .inl f_this_text)), (h_this_result, .inl (cI, 2000, .inl f_this_result)), (h_this_row, .inl (cI, 200, .inl f_this_row)), (h_this_other, .inl (cI, 200, .inl f_this_other)), (h_this_starts, .inl (cI, 50, .inl f_this_starts)), (h_this_sizes, .inl (cI, 50, .inl f_this_sizes)), (h_this_rules, .inl (cI, 50, .inl f_this_rules)), (h_this_tagged, .inl (cZ, 50, .inl f_this_tagged)), (h_this_pool, .inl (cI, 300, .inl f_this_pool)), (h_this_placed, .inl (cZ, 200, .inl f_this_placed))] → lv_has ls 8 [(0, .ref h_this), (1, .int v1), (2, .int v2)] → fl5 (P_Mod_packRow_4 n_this_rowSize f_this_row) kf v1 v2 n_this_size f_this_result f_this_placed = some o → W p l e rm_Mod_packRow s m args below meth c H locs 0 0 Q (F0 m 4 ls []) := by
    intro n_this_bias kf
    induction kf with
    | zero => intro v1 v2 n_this_size f_this_result f_this_placed H locs ls hE hl h; exact no_s h
    | succ kf ih =>
      intro v1 v2 n_this_size f_this_result f_this_placed H locs ls hE hl h
      have h : P_Mod_packRow_4 n_this_rowSize f_this_row (fl5 (P_Mod_packRow_4 n_this_rowSize f_this_row) kf) v1 v2 n_this_size f_this_result f_this_placed = some o := h
      generalize fl5 (P_Mod_packRow_4 n_this_rowSize f_this_row) kf = k4 at ih h
      have hk4 := ih
      have hj34 : ∀ (v1 : Int32) (v2 : Int32) (s0 : Int32) (s1 : Int32) (n_this_size : Int32) (f_this_result : Nat → Int32) (f_this_placed : Nat → Int32) (H : Heap) (locs : List Loc) (ls : Array Slot), hn_E D (TY cI cZ) tt A s H locs [(h_this, .inr (6, [.int n_this_textSize, .ref h_this_text, .int n_this_size, .ref h_this_result, .int n_this_rowSize, .ref h_this_row, .ref h_this_other, .int n_this_count, .ref h_this_starts, .ref h_this_sizes, .ref h_this_rules, .ref h_this_tagged, .int n_this_poolSize, .ref h_this_pool, .int n_this_whole, .ref h_this_placed, .int n_this_bias])), (h_this_text, .inl (cI, 48, .inl f_this_text)), (h_this_result, .inl (cI, 2000, .inl f_this_result)), (h_this_row, .inl (cI, 200, .inl f_this_row)), (h_this_other, .inl (cI, 200, .inl f_this_other)), (h_this_starts, .inl (cI, 50, .inl f_this_starts)), (h_this_sizes, .inl (cI, 50, .inl f_this_sizes)), (h_this_rules, .inl (cI, 50, .inl f_this_rules)), (h_this_tagged, .inl (cZ, 50, .inl f_this_tagged)), (h_this_pool, .inl (cI, 300, .inl f_this_pool)), (h_this_placed, .inl (cZ, 200, .inl f_this_placed))] → lv_has ls 8 [(0, .ref h_this), (1, .int v1), (2, .int v2)] → P_Mod_packRow_34 f_this_row k4 v1 v2 s0 s1 n_this_size f_this_result f_this_placed = some o → W p l e rm_Mod_packRow s m args below meth c H locs 0 0 Q (F0 m 34 ls [.int s0, .int s1, .ref h_this_placed]) := by
        intro v1 v2 s0 s1 n_this_size f_this_result f_this_placed H locs ls hE hl h
        unfold P_Mod_packRow_34 at h
        obtain ⟨hi34, h⟩ := gi_s h
        refine hn_zast S hE 10 1 rfl rfl hi34 d_Mod_packRow_34 (fun H locs hE => ?_)
        have hE : hn_E D (TY cI cZ) tt A s H locs [(h_this, .inr (6, [.int n_this_textSize, .ref h_this_text, .int n_this_size, .ref h_this_result, .int n_this_rowSize, .ref h_this_row, .ref h_this_other, .int n_this_count, .ref h_this_starts, .ref h_this_sizes, .ref h_this_rules, .ref h_this_tagged, .int n_this_poolSize, .ref h_this_pool, .int n_this_whole, .ref h_this_placed, .int n_this_bias])), (h_this_text, .inl (cI, 48, .inl f_this_text)), (h_this_result, .inl (cI, 2000, .inl f_this_result)), (h_this_row, .inl (cI, 200, .inl f_this_row)), (h_this_other, .inl (cI, 200, .inl f_this_other)), (h_this_starts, .inl (cI, 50, .inl f_this_starts)), (h_this_sizes, .inl (cI, 50, .inl f_this_sizes)), (h_this_rules, .inl (cI, 50, .inl f_this_rules)), (h_this_tagged, .inl (cZ, 50, .inl f_this_tagged)), (h_this_pool, .inl (cI, 300, .inl f_this_pool)), (h_this_placed, .inl (cZ, 200, .inl (upd f_this_placed (s1).toNatClampNeg (vp_nar .boolean s0))))] := hE
        refine lv_aload_n hx hb d_Mod_packRow_35 rfl (lv_at hl 0 rfl) ?_
        refine hn_get S hE kc_Mod 0 rfl rfl 15 (by decide) mw_501 rfl d_Mod_packRow_36 ?_
        refine lv_iload_n hx hb d_Mod_packRow_39 rfl (lv_at hl 2 rfl) ?_
        obtain ⟨hi40, h⟩ := gi_s h
        refine hn_zald S hE 10 1 rfl rfl hi40 d_Mod_packRow_40 ?_
        refine lv_if_eq (tgt := 57) hx hb d_Mod_packRow_41 (by decide) (fun hc => ?_) (fun hc => ?_)
        · have h := ite_t hc h
          refine lv_iinc (v := (v2 + (1 : Int32))) (lv' := [(2, .int (v2 + (1 : Int32))), (0, .ref h_this), (1, .int v1)]) hx hb d_Mod_packRow_57 hl (k := 2) rfl rfl (by decide) rfl (fun ls hl => ?_)
          refine lv_goto (tgt := 4) hx hb d_Mod_packRow_60 (by decide) ?_
          exact hk4 v1 (v2 + (1 : Int32)) n_this_size f_this_result (upd f_this_placed (s1).toNatClampNeg (vp_nar .boolean s0)) H locs ls hE (lv_sub hl [1, 2, 0] rfl) h
        · have h := ite_f hc h
          refine lv_aload_n hx hb d_Mod_packRow_44 rfl (lv_at hl 0 rfl) ?_
          refine lv_aload_n hx hb d_Mod_packRow_45 rfl (lv_at hl 0 rfl) ?_
          refine hn_get S hE kc_Mod 0 rfl rfl 5 (by decide) mw_491 rfl d_Mod_packRow_46 ?_
          refine lv_iload_n hx hb d_Mod_packRow_49 rfl (lv_at hl 2 rfl) ?_
          obtain ⟨hi50, h⟩ := gi_s h
          refine hn_iald S hE 3 0 rfl rfl hi50 d_Mod_packRow_50 ?_
          obtain ⟨x51, hc51, h⟩ := bd_s h
          have hM := (c_Mod_out l D cI cZ tt h_this h_this_text h_this_result h_this_row h_this_other h_this_starts h_this_sizes h_this_rules h_this_tagged h_this_pool h_this_placed H.size n_this_textSize n_this_size n_this_rowSize n_this_count n_this_poolSize n_this_whole n_this_bias f_this_text f_this_result f_this_row f_this_other f_this_starts f_this_sizes f_this_rules f_this_tagged f_this_pool (upd f_this_placed (s1).toNatClampNeg (vp_nar .boolean s0)) (f_this_row (v2).toNatClampNeg) x51 hc51)
          refine hn_cv hE (hn_runV (As := [.int (f_this_row (v2).toNatClampNeg)]) (rest := []) S hE hM cf_Mod_out mw_691 mw_693 ms_40 ⟨rfl, rfl⟩ ⟨Nat.le_of_ble_eq_true rfl, Nat.le_of_ble_eq_true rfl⟩ [0, 1, 2, 3, 4, 5, 6, 7, 8, 9, 10] rfl rfl rfl rfl rfl rfl hl.1 (lv_room (Nat.le_of_ble_eq_true rfl)) d_Mod_packRow_51 ⟨Nat.zero_le _, Nat.zero_le _⟩) [0, 1, 2, 3, 4, 5, 6, 7, 8, 9, 10] rfl rfl (fun H locs hE => ?_)
          have hE : hn_E D (TY cI cZ) tt A s H locs [(h_this, .inr (6, [.int n_this_textSize, .ref h_this_text, .int x51.1, .ref h_this_result, .int n_this_rowSize, .ref h_this_row, .ref h_this_other, .int n_this_count, .ref h_this_starts, .ref h_this_sizes, .ref h_this_rules, .ref h_this_tagged, .int n_this_poolSize, .ref h_this_pool, .int n_this_whole, .ref h_this_placed, .int n_this_bias])), (h_this_text, .inl (cI, 48, .inl f_this_text)), (h_this_result, .inl (cI, 2000, .inl x51.2)), (h_this_row, .inl (cI, 200, .inl f_this_row)), (h_this_other, .inl (cI, 200, .inl f_this_other)), (h_this_starts, .inl (cI, 50, .inl f_this_starts)), (h_this_sizes, .inl (cI, 50, .inl f_this_sizes)), (h_this_rules, .inl (cI, 50, .inl f_this_rules)), (h_this_tagged, .inl (cZ, 50, .inl f_this_tagged)), (h_this_pool, .inl (cI, 300, .inl f_this_pool)), (h_this_placed, .inl (cZ, 200, .inl (upd f_this_placed (s1).toNatClampNeg (vp_nar .boolean s0))))] := hE
          refine lv_iinc (v := (v1 + (1 : Int32))) (lv' := [(1, .int (v1 + (1 : Int32))), (0, .ref h_this), (2, .int v2)]) hx hb d_Mod_packRow_54 hl (k := 1) rfl rfl (by decide) rfl (fun ls hl => ?_)
          refine lv_iinc (v := (v2 + (1 : Int32))) (lv' := [(2, .int (v2 + (1 : Int32))), (1, .int (v1 + (1 : Int32))), (0, .ref h_this)]) hx hb d_Mod_packRow_57 hl (k := 2) rfl rfl (by decide) rfl (fun ls hl => ?_)
          refine lv_goto (tgt := 4) hx hb d_Mod_packRow_60 (by decide) ?_
          exact hk4 (v1 + (1 : Int32)) (v2 + (1 : Int32)) x51.1 x51.2 (upd f_this_placed (s1).toNatClampNeg (vp_nar .boolean s0)) H locs ls hE (lv_sub hl [2, 1, 0] rfl) h
      unfold P_Mod_packRow_4 at h
      refine lv_iload_n hx hb d_Mod_packRow_4 rfl (lv_at hl 2 rfl) ?_
      refine lv_aload_n hx hb d_Mod_packRow_5 rfl (lv_at hl 0 rfl) ?_
      refine hn_get S hE kc_Mod 0 rfl rfl 4 (by decide) mw_490 rfl d_Mod_packRow_6 ?_
      refine lv_icmp_ge (tgt := 63) hx hb d_Mod_packRow_9 (by decide) (fun hc => ?_) (fun hc => ?_)
      · have h := ite_t hc h
        refine lv_iload_n hx hb d_Mod_packRow_63 rfl (lv_at hl 1 rfl) ?_
        refine lv_if_le (tgt := 73) hx hb d_Mod_packRow_64 (by decide) (fun hc => ?_) (fun hc => ?_)
        · have h := ite_t hc h
          exact hj73 v1 n_this_size n_this_bias f_this_result f_this_placed H locs ls hE (lv_sub hl [0, 1] rfl) h
        · have h := ite_f hc h
          refine lv_aload_n hx hb d_Mod_packRow_67 rfl (lv_at hl 0 rfl) ?_
          refine lv_bipush (v := 45) hx hb d_Mod_packRow_68 (by decide) ?_
          obtain ⟨x70, hc70, h⟩ := bd_s h
          have hM := (c_Mod_out l D cI cZ tt h_this h_this_text h_this_result h_this_row h_this_other h_this_starts h_this_sizes h_this_rules h_this_tagged h_this_pool h_this_placed H.size n_this_textSize n_this_size n_this_rowSize n_this_count n_this_poolSize n_this_whole n_this_bias f_this_text f_this_result f_this_row f_this_other f_this_starts f_this_sizes f_this_rules f_this_tagged f_this_pool f_this_placed (45 : Int32) x70 hc70)
          refine hn_cv hE (hn_runV (As := [.int (45 : Int32)]) (rest := []) S hE hM cf_Mod_out mw_691 mw_693 ms_40 ⟨rfl, rfl⟩ ⟨Nat.le_of_ble_eq_true rfl, Nat.le_of_ble_eq_true rfl⟩ [0, 1, 2, 3, 4, 5, 6, 7, 8, 9, 10] rfl rfl rfl rfl rfl rfl hl.1 (lv_room (Nat.le_of_ble_eq_true rfl)) d_Mod_packRow_70 ⟨Nat.zero_le _, Nat.zero_le _⟩) [0, 1, 2, 3, 4, 5, 6, 7, 8, 9, 10] rfl rfl (fun H locs hE => ?_)
          have hE : hn_E D (TY cI cZ) tt A s H locs [(h_this, .inr (6, [.int n_this_textSize, .ref h_this_text, .int x70.1, .ref h_this_result, .int n_this_rowSize, .ref h_this_row, .ref h_this_other, .int n_this_count, .ref h_this_starts, .ref h_this_sizes, .ref h_this_rules, .ref h_this_tagged, .int n_this_poolSize, .ref h_this_pool, .int n_this_whole, .ref h_this_placed, .int n_this_bias])), (h_this_text, .inl (cI, 48, .inl f_this_text)), (h_this_result, .inl (cI, 2000, .inl x70.2)), (h_this_row, .inl (cI, 200, .inl f_this_row)), (h_this_other, .inl (cI, 200, .inl f_this_other)), (h_this_starts, .inl (cI, 50, .inl f_this_starts)), (h_this_sizes, .inl (cI, 50, .inl f_this_sizes)), (h_this_rules, .inl (cI, 50, .inl f_this_rules)), (h_this_tagged, .inl (cZ, 50, .inl f_this_tagged)), (h_this_pool, .inl (cI, 300, .inl f_this_pool)), (h_this_placed, .inl (cZ, 200, .inl f_this_placed))] := hE
          exact hj73 v1 x70.1 n_this_bias x70.2 f_this_placed H locs ls hE (lv_sub hl [0, 1] rfl) h
      · have h := ite_f hc h
        refine lv_aload_n hx hb d_Mod_packRow_12 rfl (lv_at hl 0 rfl) ?_
        refine hn_get S hE kc_Mod 0 rfl rfl 15 (by decide) mw_501 rfl d_Mod_packRow_13 ?_
        refine lv_iload_n hx hb d_Mod_packRow_16 rfl (lv_at hl 2 rfl) ?_
        refine lv_aload_n hx hb d_Mod_packRow_17 rfl (lv_at hl 0 rfl) ?_
        refine hn_get S hE kc_Mod 0 rfl rfl 5 (by decide) mw_491 rfl d_Mod_packRow_18 ?_
        refine lv_iload_n hx hb d_Mod_packRow_21 rfl (lv_at hl 2 rfl) ?_
        obtain ⟨hi22, h⟩ := gi_s h
        refine hn_iald S hE 3 0 rfl rfl hi22 d_Mod_packRow_22 ?_
        refine lv_sipush (v := 128) hx hb d_Mod_packRow_23 (by decide) ?_
        refine lv_icmp_ge (tgt := 33) hx hb d_Mod_packRow_26 (by decide) (fun hc => ?_) (fun hc => ?_)
        · have h := ite_t hc h
          refine lv_iconst (v := 0) hx hb d_Mod_packRow_33 (by decide) ?_
          exact hj34 v1 v2 (0 : Int32) v2 n_this_size f_this_result f_this_placed H locs ls hE (lv_sub hl [0, 1, 2] rfl) h
        · have h := ite_f hc h
          refine lv_iconst (v := 1) hx hb d_Mod_packRow_29 (by decide) ?_
          refine lv_goto (tgt := 34) hx hb d_Mod_packRow_30 (by decide) ?_
          exact hj34 v1 v2 (1 : Int32) v2 n_this_size f_this_result f_this_placed H locs ls hE (lv_sub hl [0, 1, 2] rfl) h
  unfold P_Mod_packRow at h
  refine lv_iconst (v := 0) hx hb d_Mod_packRow_0 (by decide) ?_
  refine lv_istore_n (lv' := [(1, .int (0 : Int32)), (0, .ref h_this)]) hx hb d_Mod_packRow_1 rfl hl (by decide) rfl (fun ls hl => ?_)
  refine lv_iconst (v := 0) hx hb d_Mod_packRow_2 (by decide) ?_
  refine lv_istore_n (lv' := [(2, .int (0 : Int32)), (1, .int (0 : Int32)), (0, .ref h_this)]) hx hb d_Mod_packRow_3 rfl hl (by decide) rfl (fun ls hl => ?_)
  exact hL4 n_this_bias fu (0 : Int32) (0 : Int32) n_this_size f_this_result f_this_placed H locs ls hE (lv_sub hl [2, 1, 0] rfl) h
