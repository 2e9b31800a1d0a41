abbrev rm_Composer_pairOfCode : Room := { frames := 0, cells := 0, slots := 0, locals := 0 }
theorem cf_Composer_pairOfCode : hn_CF y_Composer_pairOfCode b_Composer_pairOfCode 2 (some .int) 1 := ⟨mw_221, mw_4, by decide, by decide, by decide +kernel⟩
set_option maxHeartbeats 4000000 in
set_option maxRecDepth 100000 in
theorem c_Composer_pairOfCode (l : Launch) (D : va_G) (cI cZ : ClassId) (tt : Nat → Nat) (sz : Nat) (a1 : Int32) (o : Int32) (h : P_Composer_pairOfCode a1 = some o) : Met l y_Composer_pairOfCode (hn_w y_Composer_pairOfCode b_Composer_pairOfCode 2 (some .int)) rm_Composer_pairOfCode (hn_Pc D (TY cI cZ) tt [.int a1] sz []) (hn_Qi D [] sz [] o) 0 0 (va_A [] sz) := by
  refine hn_ofWi (own := R_Composer) (by decide) rfl (Nat.le_of_ble_eq_true rfl) ?_
  intro p e s m args below meth c A H locs ls Q S hE hl hret
  have hx := S.1
  have hb := S.2.1
  have hown := S.2.2.2.1
  have hl : lv_has ls 2 [(0, .int a1)] := hl
  have hL2 : ∀ (kf : Nat) (v1 : Int32) (H : Heap) (locs : List Loc) (ls : Array Slot), hn_E D (TY cI cZ) tt A s H locs [] → lv_has ls 2 [(0, .int a1), (1, .int v1)] → fl1 (P_Composer_pairOfCode_2 a1) kf v1 = some o → W p l e rm_Composer_pairOfCode s m args below meth c H locs 0 0 Q (F0 m 2 ls []) := by
    intro kf
    induction kf with
    | zero => intro v1 H locs ls hE hl h; exact no_s h
    | succ kf ih =>
      intro v1 H locs ls hE hl h
      have h : P_Composer_pairOfCode_2 a1 (fl1 (P_Composer_pairOfCode_2 a1) kf) v1 = some o := h
      generalize fl1 (P_Composer_pairOfCode_2 a1) kf = k2 at ih h
      have hk2 := ih
      unfold P_Composer_pairOfCode_2 at h
      refine lv_iload_n hx hb d_Composer_pairOfCode_2 rfl (lv_at hl 1 rfl) ?_
      refine hn_gets S hE st_z1 mw_222 d_Composer_pairOfCode_3 ?_
      refine hn_tlen S hE st_t1 (v := 18) (by decide) d_Composer_pairOfCode_6 ?_
      refine lv_icmp_ge (tgt := 27) hx hb d_Composer_pairOfCode_7 (by decide) (fun hc => ?_) (fun hc => ?_)
      · have h := ite_t hc h
        refine lv_iconst (v := -1) hx hb d_Composer_pairOfCode_27 (by decide) ?_
        obtain rfl := Option.some.inj h
        exact hret H locs ls 28 d_Composer_pairOfCode_28 hE
      · have h := ite_f hc h
        refine hn_gets S hE st_z1 mw_222 d_Composer_pairOfCode_10 ?_
        refine lv_iload_n hx hb d_Composer_pairOfCode_13 rfl (lv_at hl 1 rfl) ?_
        obtain ⟨hi14, h⟩ := gi_s h
        refine hn_ti S hE st_t1 hi14 rfl d_Composer_pairOfCode_14 ?_
        refine lv_iload_n hx hb d_Composer_pairOfCode_15 rfl (lv_at hl 0 rfl) ?_
        refine lv_icmp_ne (tgt := 21) hx hb d_Composer_pairOfCode_16 (by decide) (fun hc => ?_) (fun hc => ?_)
        · have h := ite_f hc h
          refine lv_iinc (v := (v1 + (1 : Int32))) (lv' := [(1, .int (v1 + (1 : Int32))), (0, .int a1)]) hx hb d_Composer_pairOfCode_21 hl (k := 1) rfl rfl (by decide) rfl (fun ls hl => ?_)
          refine lv_goto (tgt := 2) hx hb d_Composer_pairOfCode_24 (by decide) ?_
          exact hk2 (v1 + (1 : Int32)) H locs ls hE (lv_sub hl [1, 0] rfl) h
        · have h := ite_t hc h
          refine lv_iload_n hx hb d_Composer_pairOfCode_19 rfl (lv_at hl 1 rfl) ?_
          obtain rfl := Option.some.inj h
          exact hret H locs ls 20 d_Composer_pairOfCode_20 hE
  unfold P_Composer_pairOfCode at h
  refine lv_iconst (v := 0) hx hb d_Composer_pairOfCode_0 (by decide) ?_
  refine lv_istore_n (lv' := [(1, .int (0 : Int32)), (0, .int a1)]) hx hb d_Composer_pairOfCode_1 rfl hl (by decide) rfl (fun ls hl => ?_)
  exact hL2 fu (0 : Int32) H locs ls hE (lv_sub hl [1, 0] rfl) h
abbrev rm_Composer_takeApart : Room := { frames := 1, cells := 0, slots := 0, locals := 21 }
theorem cf_Composer_takeApart : hn_CF y_Composer_takeApart b_Composer_takeApart 5 none 1 := ⟨mw_215, mw_4, by decide, by decide, by decide +kernel⟩
set_option maxHeartbeats 4000000 in
set_option maxRecDepth 100000 in
theorem c_Composer_takeApart (l : Launch) (D : va_G) (cI cZ : ClassId) (tt : Nat → Nat) (h_this h_this_parts h_this_parts_codes h_a1 h_a1_codes : Nat) (sz : Nat) (N_a1_codes : Nat) (n_this_parts_size : Int32) (f_this_parts_codes : Nat → Int32) (n_a1_size : Int32) (f_a1_codes : Nat → Int32) (o : Int32 × (Nat → Int32)) (h : P_Composer_takeApart N_a1_codes f_this_parts_codes n_a1_size f_a1_codes = some o) : Met l y_Composer_takeApart (hn_w y_Composer_takeApart b_Composer_takeApart 5 none) rm_Composer_takeApart (hn_Pc D (TY cI cZ) tt [.ref h_this, .ref h_a1] sz [(h_this, .inr (2, [.ref h_this_parts])), (h_this_parts, .inr (0, [.ref h_this_parts_codes, .int n_this_parts_size])), (h_this_parts_codes, .inl (cI, 96, .inl f_this_parts_codes)), (h_a1, .inr (0, [.ref h_a1_codes, .int n_a1_size])), (h_a1_codes, .inl (cI, N_a1_codes, .inl f_a1_codes))]) (hn_Qv D [(h_this, .inr (2, [.ref h_this_parts])), (h_this_parts, .inr (0, [.ref h_this_parts_codes, .int n_this_parts_size])), (h_this_parts_codes, .inl (cI, 96, .inl f_this_parts_codes)), (h_a1, .inr (0, [.ref h_a1_codes, .int n_a1_size])), (h_a1_codes, .inl (cI, N_a1_codes, .inl f_a1_codes))] sz [(h_this, .inr (2, [.ref h_this_parts])), (h_this_parts, .inr (0, [.ref h_this_parts_codes, .int o.1])), (h_this_parts_codes, .inl (cI, 96, .inl o.2)), (h_a1, .inr (0, [.ref h_a1_codes, .int n_a1_size])), (h_a1_codes, .inl (cI, N_a1_codes, .inl f_a1_codes))]) 0 0 (va_A [(h_this, .inr (2, [.ref h_this_parts])), (h_this_parts, .inr (0, [.ref h_this_parts_codes, .int n_this_parts_size])), (h_this_parts_codes, .inl (cI, 96, .inl f_this_parts_codes)), (h_a1, .inr (0, [.ref h_a1_codes, .int n_a1_size])), (h_a1_codes, .inl (cI, N_a1_codes, .inl f_a1_codes))] sz) := by
  refine hn_ofWv (own := R_Composer) (by decide) rfl (Nat.le_of_ble_eq_true rfl) ?_
  intro p e s m args below meth c A H locs ls Q S hE hl hret
  have hx := S.1
  have hb := S.2.1
  have hown := S.2.2.2.1
  have hl : lv_has ls 5 [(0, .ref h_this), (1, .ref h_a1)] := hl
  have hL9 : ∀ (kf : Nat) (v2 : Int32) (n_this_parts_size : Int32) (f_this_parts_codes : Nat → Int32) (H : Heap) (locs : List Loc) (ls : Array Slot), hn_E D (TY cI cZ) tt A s H locs [(h_this, .inr (2, [.ref h_this_parts])), (h_this_parts, .inr (0, [.ref h_this_parts_codes, .int n_this_parts_size])), (h_this_parts_codes, .inl (cI, 96, .inl f_this_parts_codes)), (h_a1, .inr (0, [.ref h_a1_codes, .int n_a1_size])), (h_a1_codes, .inl (cI, N_a1_codes, .inl f_a1_codes))] → lv_has ls 5 [(0, .ref h_this), (1, .ref h_a1), (2, .int v2)] → fl3 (P_Composer_takeApart_9 N_a1_codes n_a1_size f_a1_codes) kf v2 n_this_parts_size f_this_parts_codes = some o → W p l e rm_Composer_takeApart s m args below meth c H locs 0 0 Q (F0 m 9 ls []) := by
    intro kf
    induction kf with
    | zero => intro v2 n_this_parts_size f_this_parts_codes H locs ls hE hl h; exact no_s h
    | succ kf ih =>
      intro v2 n_this_parts_size f_this_parts_codes H locs ls hE hl h
      have h : P_Composer_takeApart_9 N_a1_codes n_a1_size f_a1_codes (fl3 (P_Composer_takeApart_9 N_a1_codes n_a1_size f_a1_codes) kf) v2 n_this_parts_size f_this_parts_codes = some o := h
      generalize fl3 (P_Composer_takeApart_9 N_a1_codes n_a1_size f_a1_codes) kf = k9 at ih h
      have hk9 := ih
      unfold P_Composer_takeApart_9 at h
      refine lv_iload_n hx hb d_Composer_takeApart_9 rfl (lv_at hl 2 rfl) ?_
      refine lv_aload_n hx hb d_Composer_takeApart_10 rfl (lv_at hl 1 rfl) ?_
      obtain ⟨x11, hc11, h⟩ := bd_s h
      have hM := (c_Row_size l D cI cZ tt h_a1 h_a1_codes H.size N_a1_codes n_a1_size f_a1_codes x11 hc11)
      refine hn_ci hE (hn_runV (As := []) (rest := [.int v2]) S hE hM cf_Row_size mw_217 mw_149 mw_150 ⟨rfl, rfl⟩ ⟨Nat.le_of_ble_eq_true rfl, Nat.le_of_ble_eq_true rfl⟩ [3, 4] rfl rfl rfl rfl rfl rfl hl.1 (lv_room (Nat.le_of_ble_eq_true rfl)) d_Composer_takeApart_11 ⟨Nat.zero_le _, Nat.zero_le _⟩) [3, 4] rfl rfl (fun H locs hE => ?_)
      have hE : hn_E D (TY cI cZ) tt A s H locs [(h_this, .inr (2, [.ref h_this_parts])), (h_this_parts, .inr (0, [.ref h_this_parts_codes, .int n_this_parts_size])), (h_this_parts_codes, .inl (cI, 96, .inl f_this_parts_codes)), (h_a1, .inr (0, [.ref h_a1_codes, .int n_a1_size])), (h_a1_codes, .inl (cI, N_a1_codes, .inl f_a1_codes))] := hE
      refine lv_icmp_ge (tgt := 81) hx hb d_Composer_takeApart_14 (by decide) (fun hc => ?_) (fun hc => ?_)
      · have h := ite_t hc h
        obtain rfl := Option.some.inj h
        exact hret H locs ls 81 d_Composer_takeApart_81 hE
      · have h := ite_f hc h
        refine lv_aload_n hx hb d_Composer_takeApart_17 rfl (lv_at hl 1 rfl) ?_
        refine lv_iload_n hx hb d_Composer_takeApart_18 rfl (lv_at hl 2 rfl) ?_
        obtain ⟨x19, hc19, h⟩ := bd_s h
        have hM := (c_Row_get l D cI cZ tt h_a1 h_a1_codes H.size N_a1_codes n_a1_size f_a1_codes v2 x19 hc19)
        refine hn_ci hE (hn_runV (As := [.int v2]) (rest := []) S hE hM cf_Row_get mw_218 mw_169 mw_170 ⟨rfl, rfl⟩ ⟨Nat.le_of_ble_eq_true rfl, Nat.le_of_ble_eq_true rfl⟩ [3, 4] rfl rfl rfl rfl rfl rfl hl.1 (lv_room (Nat.le_of_ble_eq_true rfl)) d_Composer_takeApart_19 ⟨Nat.zero_le _, Nat.zero_le _⟩) [3, 4] rfl rfl (fun H locs hE => ?_)
        have hE : hn_E D (TY cI cZ) tt A s H locs [(h_this, .inr (2, [.ref h_this_parts])), (h_this_parts, .inr (0, [.ref h_this_parts_codes, .int n_this_parts_size])), (h_this_parts_codes, .inl (cI, 96, .inl f_this_parts_codes)), (h_a1, .inr (0, [.ref h_a1_codes, .int n_a1_size])), (h_a1_codes, .inl (cI, N_a1_codes, .inl f_a1_codes))] := hE
        refine lv_istore_n (lv' := [(3, .int x19), (0, .ref h_this), (1, .ref h_a1), (2, .int v2)]) hx hb d_Composer_takeApart_22 rfl hl (by decide) rfl (fun ls hl => ?_)
        refine lv_iload_n hx hb d_Composer_takeApart_23 rfl (lv_at hl 0 rfl) ?_
        obtain ⟨x24, hc24, h⟩ := bd_s h
        have hM := (c_Composer_pairOfCode l D cI cZ tt H.size x19 x24 hc24)
        refine hn_ci hE (hn_runS (As := [.int x19]) (rest := []) S hE hM cf_Composer_pairOfCode mw_219 mw_220 ⟨rfl, rfl⟩ ⟨Nat.le_of_ble_eq_true rfl, Nat.le_of_ble_eq_true rfl⟩ [] rfl rfl rfl rfl hl.1 (lv_room (Nat.le_of_ble_eq_true rfl)) d_Composer_takeApart_24 ⟨Nat.zero_le _, Nat.zero_le _⟩) [] rfl rfl (fun H locs hE => ?_)
        have hE : hn_E D (TY cI cZ) tt A s H locs [(h_this, .inr (2, [.ref h_this_parts])), (h_this_parts, .inr (0, [.ref h_this_parts_codes, .int n_this_parts_size])), (h_this_parts_codes, .inl (cI, 96, .inl f_this_parts_codes)), (h_a1, .inr (0, [.ref h_a1_codes, .int n_a1_size])), (h_a1_codes, .inl (cI, N_a1_codes, .inl f_a1_codes))] := hE
        refine lv_istore (lv' := [(4, .int x24), (3, .int x19), (0, .ref h_this), (1, .ref h_a1), (2, .int v2)]) hx hb d_Composer_takeApart_27 hl (by decide) rfl (fun ls hl => ?_)
        refine lv_iload hx hb d_Composer_takeApart_29 (lv_at hl 0 rfl) ?_
        refine lv_iconst (v := -1) hx hb d_Composer_takeApart_31 (by decide) ?_
        refine lv_icmp_ne (tgt := 47) hx hb d_Composer_takeApart_32 (by decide) (fun hc => ?_) (fun hc => ?_)
        · have h := ite_f hc h
          refine lv_aload_n hx hb d_Composer_takeApart_47 rfl (lv_at hl 2 rfl) ?_
          refine hn_get S hE kc_Composer 0 rfl rfl 0 (by decide) mw_65 rfl d_Composer_takeApart_48 ?_
          refine hn_gets S hE st_z2 mw_225 d_Composer_takeApart_51 ?_
          refine lv_iload hx hb d_Composer_takeApart_54 (lv_at hl 0 rfl) ?_
          obtain ⟨hi56, h⟩ := gi_s h
          refine hn_ti S hE st_t2 hi56 rfl d_Composer_takeApart_56 ?_
          obtain ⟨x57, hc57, h⟩ := bd_s h
          have hM := (c_Row_add l D cI cZ tt h_this_parts h_this_parts_codes H.size 96 n_this_parts_size f_this_parts_codes (tb_pl (x24).toNatClampNeg) x57 hc57)
          refine hn_cz hE (hn_runV (As := [.int (tb_pl (x24).toNatClampNeg)]) (rest := []) S hE hM cf_Row_add mw_224 mw_141 mw_142 ⟨rfl, rfl⟩ ⟨Nat.le_of_ble_eq_true rfl, Nat.le_of_ble_eq_true rfl⟩ [1, 2] rfl rfl rfl rfl rfl rfl hl.1 (lv_room (Nat.le_of_ble_eq_true rfl)) d_Composer_takeApart_57 ⟨Nat.zero_le _, Nat.zero_le _⟩) [1, 2] rfl rfl (fun H locs hz57 hE => ?_)
          have hE : hn_E D (TY cI cZ) tt A s H locs [(h_this, .inr (2, [.ref h_this_parts])), (h_this_parts, .inr (0, [.ref h_this_parts_codes, .int x57.2.1])), (h_this_parts_codes, .inl (cI, 96, .inl x57.2.2)), (h_a1, .inr (0, [.ref h_a1_codes, .int n_a1_size])), (h_a1_codes, .inl (cI, N_a1_codes, .inl f_a1_codes))] := hE
          refine lv_pop hx hb d_Composer_takeApart_60 rfl ?_
          refine lv_aload_n hx hb d_Composer_takeApart_61 rfl (lv_at hl 2 rfl) ?_
          refine hn_get S hE kc_Composer 0 rfl rfl 0 (by decide) mw_65 rfl d_Composer_takeApart_62 ?_
          refine hn_gets S hE st_z3 mw_227 d_Composer_takeApart_65 ?_
          refine lv_iload hx hb d_Composer_takeApart_68 (lv_at hl 0 rfl) ?_
          obtain ⟨hi70, h⟩ := gi_s h
          refine hn_ti S hE st_t3 hi70 rfl d_Composer_takeApart_70 ?_
          obtain ⟨x71, hc71, h⟩ := bd_s h
          have hM := (c_Row_add l D cI cZ tt h_this_parts h_this_parts_codes H.size 96 x57.2.1 x57.2.2 (tb_pm (x24).toNatClampNeg) x71 hc71)
          refine hn_cz hE (hn_runV (As := [.int (tb_pm (x24).toNatClampNeg)]) (rest := []) S hE hM cf_Row_add mw_224 mw_141 mw_142 ⟨rfl, rfl⟩ ⟨Nat.le_of_ble_eq_true rfl, Nat.le_of_ble_eq_true rfl⟩ [1, 2] rfl rfl rfl rfl rfl rfl hl.1 (lv_room (Nat.le_of_ble_eq_true rfl)) d_Composer_takeApart_71 ⟨Nat.zero_le _, Nat.zero_le _⟩) [1, 2] rfl rfl (fun H locs hz71 hE => ?_)
          have hE : hn_E D (TY cI cZ) tt A s H locs [(h_this, .inr (2, [.ref h_this_parts])), (h_this_parts, .inr (0, [.ref h_this_parts_codes, .int x71.2.1])), (h_this_parts_codes, .inl (cI, 96, .inl x71.2.2)), (h_a1, .inr (0, [.ref h_a1_codes, .int n_a1_size])), (h_a1_codes, .inl (cI, N_a1_codes, .inl f_a1_codes))] := hE
          refine lv_pop hx hb d_Composer_takeApart_74 rfl ?_
          refine lv_iinc (v := (v2 + (1 : Int32))) (lv' := [(2, .int (v2 + (1 : Int32))), (4, .int x24), (3, .int x19), (0, .ref h_this), (1, .ref h_a1)]) hx hb d_Composer_takeApart_75 hl (k := 4) rfl rfl (by decide) rfl (fun ls hl => ?_)
          refine lv_goto (tgt := 9) hx hb d_Composer_takeApart_78 (by decide) ?_
          exact hk9 (v2 + (1 : Int32)) x71.2.1 x71.2.2 H locs ls hE (lv_sub hl [3, 4, 0] rfl) h
        · have h := ite_t hc h
          refine lv_aload_n hx hb d_Composer_takeApart_35 rfl (lv_at hl 2 rfl) ?_
          refine hn_get S hE kc_Composer 0 rfl rfl 0 (by decide) mw_65 rfl d_Composer_takeApart_36 ?_
          refine lv_iload_n hx hb d_Composer_takeApart_39 rfl (lv_at hl 1 rfl) ?_
          obtain ⟨x40, hc40, h⟩ := bd_s h
          have hM := (c_Row_add l D cI cZ tt h_this_parts h_this_parts_codes H.size 96 n_this_parts_size f_this_parts_codes x19 x40 hc40)
          refine hn_cz hE (hn_runV (As := [.int x19]) (rest := []) S hE hM cf_Row_add mw_224 mw_141 mw_142 ⟨rfl, rfl⟩ ⟨Nat.le_of_ble_eq_true rfl, Nat.le_of_ble_eq_true rfl⟩ [1, 2] rfl rfl rfl rfl rfl rfl hl.1 (lv_room (Nat.le_of_ble_eq_true rfl)) d_Composer_takeApart_40 ⟨Nat.zero_le _, Nat.zero_le _⟩) [1, 2] rfl rfl (fun H locs hz40 hE => ?_)
          have hE : hn_E D (TY cI cZ) tt A s H locs [(h_this, .inr (2, [.ref h_this_parts])), (h_this_parts, .inr (0, [.ref h_this_parts_codes, .int x40.2.1])), (h_this_parts_codes, .inl (cI, 96, .inl x40.2.2)), (h_a1, .inr (0, [.ref h_a1_codes, .int n_a1_size])), (h_a1_codes, .inl (cI, N_a1_codes, .inl f_a1_codes))] := hE
          refine lv_pop hx hb d_Composer_takeApart_43 rfl ?_
          refine lv_goto (tgt := 75) hx hb d_Composer_takeApart_44 (by decide) ?_
          refine lv_iinc (v := (v2 + (1 : Int32))) (lv' := [(2, .int (v2 + (1 : Int32))), (4, .int x24), (3, .int x19), (0, .ref h_this), (1, .ref h_a1)]) hx hb d_Composer_takeApart_75 hl (k := 4) rfl rfl (by decide) rfl (fun ls hl => ?_)
          refine lv_goto (tgt := 9) hx hb d_Composer_takeApart_78 (by decide) ?_
          exact hk9 (v2 + (1 : Int32)) x40.2.1 x40.2.2 H locs ls hE (lv_sub hl [3, 4, 0] rfl) h
  unfold P_Composer_takeApart at h
  refine lv_aload_n hx hb d_Composer_takeApart_0 rfl (lv_at hl 0 rfl) ?_
  refine hn_get S hE kc_Composer 0 rfl rfl 0 (by decide) mw_65 rfl d_Composer_takeApart_1 ?_
  obtain ⟨x4, hc4, h⟩ := bd_s h
  have hM := (c_Row_empty l D cI cZ tt h_this_parts h_this_parts_codes H.size 96 n_this_parts_size f_this_parts_codes x4 hc4)
  refine hn_cv hE (hn_runV (As := []) (rest := []) S hE hM cf_Row_empty mw_216 mw_157 mw_158 ⟨rfl, rfl⟩ ⟨Nat.le_of_ble_eq_true rfl, Nat.le_of_ble_eq_true rfl⟩ [1, 2] rfl rfl rfl rfl rfl rfl hl.1 (lv_room (Nat.le_of_ble_eq_true rfl)) d_Composer_takeApart_4 ⟨Nat.zero_le _, Nat.zero_le _⟩) [1, 2] rfl rfl (fun H locs hE => ?_)
  have hE : hn_E D (TY cI cZ) tt A s H locs [(h_this, .inr (2, [.ref h_this_parts])), (h_this_parts, .inr (0, [.ref h_this_parts_codes, .int x4])), (h_this_parts_codes, .inl (cI, 96, .inl f_this_parts_codes)), (h_a1, .inr (0, [.ref h_a1_codes, .int n_a1_size])), (h_a1_codes, .inl (cI, N_a1_codes, .inl f_a1_codes))] := hE
  refine lv_iconst (v := 0) hx hb d_Composer_takeApart_7 (by decide) ?_
  refine lv_istore_n (lv' := [(2, .int (0 : Int32)), (0, .ref h_this), (1, .ref h_a1)]) hx hb d_Composer_takeApart_8 rfl hl (by decide) rfl (fun ls hl => ?_)
  exact hL9 fu (0 : Int32) x4 f_this_parts_codes H locs ls hE (lv_sub hl [1, 2, 0] rfl) h
abbrev rm_Composer_sortMarks : Room := { frames := 1, cells := 0, slots := 0, locals := 22 }
theorem cf_Composer_sortMarks : hn_CF y_Composer_sortMarks b_Composer_sortMarks 6 none 0 := ⟨mw_232, mw_4, by decide, by decide, by decide +kernel⟩
set_option maxHeartbeats 4000000 in
set_option maxRecDepth 100000 in
theorem c_Composer_sortMarks (l : Launch) (D : va_G) (cI cZ : ClassId) (tt : Nat → Nat) (h_this h_this_parts h_this_parts_codes : Nat) (sz : Nat) (n_this_parts_size : Int32) (f_this_parts_codes : Nat → Int32) (o : (Nat → Int32)) (h : P_Composer_sortMarks n_this_parts_size f_this_parts_codes = some o) : Met l y_Composer_sortMarks (hn_w y_Composer_sortMarks b_Composer_sortMarks 6 none) rm_Composer_sortMarks (hn_Pc D (TY cI cZ) tt [.ref h_this] sz [(h_this, .inr (2, [.ref h_this_parts])), (h_this_parts, .inr (0, [.ref h_this_parts_codes, .int n_this_parts_size])), (h_this_parts_codes, .inl (cI, 96, .inl f_this_parts_codes))]) (hn_Qv D [(h_this, .inr (2, [.ref h_this_parts])), (h_this_parts, .inr (0, [.ref h_this_parts_codes, .int n_this_parts_size])), (h_this_parts_codes, .inl (cI, 96, .inl f_this_parts_codes))] sz [(h_this, .inr (2, [.ref h_this_parts])), (h_this_parts, .inr (0, [.ref h_this_parts_codes, .int n_this_parts_size])), (h_this_parts_codes, .inl (cI, 96, .inl o))]) 0 0 (va_A [(h_this, .inr (2, [.ref h_this_parts])), (h_this_parts, .inr (0, [.ref h_this_parts_codes, .int n_this_parts_size])), (h_this_parts_codes, .inl (cI, 96, .inl f_this_parts_codes))] sz) := by
  refine hn_ofWv (own := R_Composer) (by decide) rfl (Nat.le_of_ble_eq_true rfl) ?_
  intro p e s m args below meth c A H locs ls Q S hE hl hret
  have hx := S.1
  have hb := S.2.1
  have hown := S.2.2.2.1
  have hl : lv_has ls 6 [(0, .ref h_this)] := hl
  have hL2 : ∀ (kf : Nat) (v1 : Int32) (f_this_parts_codes : Nat → Int32) (H : Heap) (locs : List Loc) (ls : Array Slot), hn_E D (TY cI cZ) tt A s H locs [(h_this, .inr (2, [.ref h_this_parts])), (h_this_parts, .inr (0, [.ref h_this_parts_codes, .int n_this_parts_size])), (h_this_parts_codes, .inl (cI, 96, .inl f_this_parts_codes))] → lv_has ls 6 [(0, .ref h_this), (1, .int v1)] → fl2 (P_Composer_sortMarks_2 n_this_parts_size) kf v1 f_this_parts_codes = some o → W p l e rm_Composer_sortMarks s m args below meth c H locs 0 0 Q (F0 m 2 ls []) := by
    intro kf
    induction kf with
    | zero => intro v1 f_this_parts_codes H locs ls hE hl h; exact no_s h
    | succ kf ih =>
      intro v1 f_this_parts_codes H locs ls hE hl h
      have h : P_Composer_sortMarks_2 n_this_parts_size (fl2 (P_Composer_sortMarks_2 n_this_parts_size) kf) v1 f_this_parts_codes = some o := h
      generalize fl2 (P_Composer_sortMarks_2 n_this_parts_size) kf = k2 at ih h
      have hk2 := ih
      have hj90 : ∀ (v1 : Int32) (v2 : Int32) (v4 : Int32) (f_this_parts_codes : Nat → Int32) (H : Heap) (locs : List Loc) (ls : Array Slot), hn_E D (TY cI cZ) tt A s H locs [(h_this, .inr (2, [.ref h_this_parts])), (h_this_parts, .inr (0, [.ref h_this_parts_codes, .int n_this_parts_size])), (h_this_parts_codes, .inl (cI, 96, .inl f_this_parts_codes))] → lv_has ls 6 [(0, .ref h_this), (1, .int v1), (2, .int v2), (4, .int v4)] → P_Composer_sortMarks_90 n_this_parts_size k2 v1 v2 v4 f_this_parts_codes = some o → W p l e rm_Composer_sortMarks s m args below meth c H locs 0 0 Q (F0 m 90 ls []) := by
        intro v1 v2 v4 f_this_parts_codes H locs ls hE hl h
        unfold P_Composer_sortMarks_90 at h
        refine lv_aload_n hx hb d_Composer_sortMarks_90 rfl (lv_at hl 0 rfl) ?_
        refine hn_get S hE kc_Composer 0 rfl rfl 0 (by decide) mw_65 rfl d_Composer_sortMarks_91 ?_
        refine lv_iload hx hb d_Composer_sortMarks_94 (lv_at hl 3 rfl) ?_
        refine lv_iload_n hx hb d_Composer_sortMarks_96 rfl (lv_at hl 2 rfl) ?_
        obtain ⟨x97, hc97, h⟩ := bd_s h
        have hM := (c_Row_set l D cI cZ tt h_this_parts h_this_parts_codes H.size 96 n_this_parts_size f_this_parts_codes v4 v2 x97 hc97)
        refine hn_cv hE (hn_runV (As := [.int v4, .int v2]) (rest := []) S hE hM cf_Row_set mw_236 mw_237 mw_238 ⟨rfl, rfl⟩ ⟨Nat.le_of_ble_eq_true rfl, Nat.le_of_ble_eq_true rfl⟩ [1, 2] rfl rfl rfl rfl rfl rfl hl.1 (lv_room (Nat.le_of_ble_eq_true rfl)) d_Composer_sortMarks_97 ⟨Nat.zero_le _, Nat.zero_le _⟩) [1, 2] rfl rfl (fun H locs hE => ?_)
        have hE : hn_E D (TY cI cZ) tt A s H locs [(h_this, .inr (2, [.ref h_this_parts])), (h_this_parts, .inr (0, [.ref h_this_parts_codes, .int n_this_parts_size])), (h_this_parts_codes, .inl (cI, 96, .inl x97))] := hE
        refine lv_iinc (v := (v1 + (1 : Int32))) (lv' := [(1, .int (v1 + (1 : Int32))), (0, .ref h_this), (2, .int v2), (4, .int v4)]) hx hb d_Composer_sortMarks_100 hl (k := 1) rfl rfl (by decide) rfl (fun ls hl => ?_)
        refine lv_goto (tgt := 2) hx hb d_Composer_sortMarks_103 (by decide) ?_
        exact hk2 (v1 + (1 : Int32)) x97 H locs ls hE (lv_sub hl [1, 0] rfl) h
      have hL35 : ∀ (v1 : Int32) (v2 : Int32) (v3 : Int32) (kf : Nat) (v4 : Int32) (v5 : Int32) (f_this_parts_codes : Nat → Int32) (H : Heap) (locs : List Loc) (ls : Array Slot), hn_E D (TY cI cZ) tt A s H locs [(h_this, .inr (2, [.ref h_this_parts])), (h_this_parts, .inr (0, [.ref h_this_parts_codes, .int n_this_parts_size])), (h_this_parts_codes, .inl (cI, 96, .inl f_this_parts_codes))] → lv_has ls 6 [(0, .ref h_this), (1, .int v1), (2, .int v2), (3, .int v3), (4, .int v4), (5, .int v5)] → fl3 (P_Composer_sortMarks_35 n_this_parts_size k2 v1 v2 v3) kf v4 v5 f_this_parts_codes = some o → W p l e rm_Composer_sortMarks s m args below meth c H locs 0 0 Q (F0 m 35 ls []) := by
        intro v1 v2 v3 kf
        induction kf with
        | zero => intro v4 v5 f_this_parts_codes H locs ls hE hl h; exact no_s h
        | succ kf ih =>
          intro v4 v5 f_this_parts_codes H locs ls hE hl h
          have h : P_Composer_sortMarks_35 n_this_parts_size k2 v1 v2 v3 (fl3 (P_Composer_sortMarks_35 n_this_parts_size k2 v1 v2 v3) kf) v4 v5 f_this_parts_codes = some o := h
          generalize fl3 (P_Composer_sortMarks_35 n_this_parts_size k2 v1 v2 v3) kf = k35 at ih h
          have hk35 := ih
          unfold P_Composer_sortMarks_35 at h
          refine lv_iload hx hb d_Composer_sortMarks_35 (lv_at hl 5 rfl) ?_
          refine lv_if_lt (tgt := 90) hx hb d_Composer_sortMarks_37 (by decide) (fun hc => ?_) (fun hc => ?_)
          · have h := ite_t hc h
            exact hj90 v1 v2 v4 f_this_parts_codes H locs ls hE (lv_sub hl [0, 1, 2, 4] rfl) h
          · have h := ite_f hc h
            refine lv_iload_n hx hb d_Composer_sortMarks_40 rfl (lv_at hl 3 rfl) ?_
            refine lv_if_le (tgt := 90) hx hb d_Composer_sortMarks_41 (by decide) (fun hc => ?_) (fun hc => ?_)
            · have h := ite_t hc h
              exact hj90 v1 v2 v4 f_this_parts_codes H locs ls hE (lv_sub hl [0, 1, 2, 4] rfl) h
            · have h := ite_f hc h
              refine lv_aload_n hx hb d_Composer_sortMarks_44 rfl (lv_at hl 0 rfl) ?_
              refine hn_get S hE kc_Composer 0 rfl rfl 0 (by decide) mw_65 rfl d_Composer_sortMarks_45 ?_
              refine lv_iload hx hb d_Composer_sortMarks_48 (lv_at hl 5 rfl) ?_
              obtain ⟨x50, hc50, h⟩ := bd_s h
              have hM := (c_Row_get l D cI cZ tt h_this_parts h_this_parts_codes H.size 96 n_this_parts_size f_this_parts_codes v5 x50 hc50)
              refine hn_ci hE (hn_runV (As := [.int v5]) (rest := []) S hE hM cf_Row_get mw_218 mw_169 mw_170 ⟨rfl, rfl⟩ ⟨Nat.le_of_ble_eq_true rfl, Nat.le_of_ble_eq_true rfl⟩ [1, 2] rfl rfl rfl rfl rfl rfl hl.1 (lv_room (Nat.le_of_ble_eq_true rfl)) d_Composer_sortMarks_50 ⟨Nat.zero_le _, Nat.zero_le _⟩) [1, 2] rfl rfl (fun H locs hE => ?_)
              have hE : hn_E D (TY cI cZ) tt A s H locs [(h_this, .inr (2, [.ref h_this_parts])), (h_this_parts, .inr (0, [.ref h_this_parts_codes, .int n_this_parts_size])), (h_this_parts_codes, .inl (cI, 96, .inl f_this_parts_codes))] := hE
              obtain ⟨x53, hc53, h⟩ := bd_s h
              have hM := (c_Codes_order l D cI cZ tt H.size x50 x53 hc53)
              refine hn_ci hE (hn_runS (As := [.int x50]) (rest := []) S hE hM cf_Codes_order mw_233 mw_234 ⟨rfl, rfl⟩ ⟨Nat.le_of_ble_eq_true rfl, Nat.le_of_ble_eq_true rfl⟩ [] rfl rfl rfl rfl hl.1 (lv_room (Nat.le_of_ble_eq_true rfl)) d_Composer_sortMarks_53 ⟨Nat.zero_le _, Nat.zero_le _⟩) [] rfl rfl (fun H locs hE => ?_)
              have hE : hn_E D (TY cI cZ) tt A s H locs [(h_this, .inr (2, [.ref h_this_parts])), (h_this_parts, .inr (0, [.ref h_this_parts_codes, .int n_this_parts_size])), (h_this_parts_codes, .inl (cI, 96, .inl f_this_parts_codes))] := hE
              refine lv_iload_n hx hb d_Composer_sortMarks_56 rfl (lv_at hl 3 rfl) ?_
              refine lv_icmp_le (tgt := 90) hx hb d_Composer_sortMarks_57 (by decide) (fun hc => ?_) (fun hc => ?_)
              · have h := ite_t hc h
                exact hj90 v1 v2 v4 f_this_parts_codes H locs ls hE (lv_sub hl [0, 1, 2, 4] rfl) h
              · have h := ite_f hc h
                refine lv_aload_n hx hb d_Composer_sortMarks_60 rfl (lv_at hl 0 rfl) ?_
                refine hn_get S hE kc_Composer 0 rfl rfl 0 (by decide) mw_65 rfl d_Composer_sortMarks_61 ?_
                refine lv_iload hx hb d_Composer_sortMarks_64 (lv_at hl 5 rfl) ?_
                refine lv_iconst (v := 1) hx hb d_Composer_sortMarks_66 (by decide) ?_
                refine lv_iadd hx hb d_Composer_sortMarks_67 ?_
                refine lv_aload_n hx hb d_Composer_sortMarks_68 rfl (lv_at hl 0 rfl) ?_
                refine hn_get S hE kc_Composer 0 rfl rfl 0 (by decide) mw_65 rfl d_Composer_sortMarks_69 ?_
                refine lv_iload hx hb d_Composer_sortMarks_72 (lv_at hl 5 rfl) ?_
                obtain ⟨x74, hc74, h⟩ := bd_s h
                have hM := (c_Row_get l D cI cZ tt h_this_parts h_this_parts_codes H.size 96 n_this_parts_size f_this_parts_codes v5 x74 hc74)
                refine hn_ci hE (hn_runV (As := [.int v5]) (rest := [.int (v5 + (1 : Int32)), .ref h_this_parts]) S hE hM cf_Row_get mw_218 mw_169 mw_170 ⟨rfl, rfl⟩ ⟨Nat.le_of_ble_eq_true rfl, Nat.le_of_ble_eq_true rfl⟩ [1, 2] rfl rfl rfl rfl rfl rfl hl.1 (lv_room (Nat.le_of_ble_eq_true rfl)) d_Composer_sortMarks_74 ⟨Nat.zero_le _, Nat.zero_le _⟩) [1, 2] rfl rfl (fun H locs hE => ?_)
                have hE : hn_E D (TY cI cZ) tt A s H locs [(h_this, .inr (2, [.ref h_this_parts])), (h_this_parts, .inr (0, [.ref h_this_parts_codes, .int n_this_parts_size])), (h_this_parts_codes, .inl (cI, 96, .inl f_this_parts_codes))] := hE
                obtain ⟨x77, hc77, h⟩ := bd_s h
                have hM := (c_Row_set l D cI cZ tt h_this_parts h_this_parts_codes H.size 96 n_this_parts_size f_this_parts_codes (v5 + (1 : Int32)) x74 x77 hc77)
                refine hn_cv hE (hn_runV (As := [.int (v5 + (1 : Int32)), .int x74]) (rest := []) S hE hM cf_Row_set mw_236 mw_237 mw_238 ⟨rfl, rfl⟩ ⟨Nat.le_of_ble_eq_true rfl, Nat.le_of_ble_eq_true rfl⟩ [1, 2] rfl rfl rfl rfl rfl rfl hl.1 (lv_room (Nat.le_of_ble_eq_true rfl)) d_Composer_sortMarks_77 ⟨Nat.zero_le _, Nat.zero_le _⟩) [1, 2] rfl rfl (fun H locs hE => ?_)
                have hE : hn_E D (TY cI cZ) tt A s H locs [(h_this, .inr (2, [.ref h_this_parts])), (h_this_parts, .inr (0, [.ref h_this_parts_codes, .int n_this_parts_size])), (h_this_parts_codes, .inl (cI, 96, .inl x77))] := hE
                refine lv_iload hx hb d_Composer_sortMarks_80 (lv_at hl 5 rfl) ?_
                refine lv_istore (lv' := [(4, .int v5), (0, .ref h_this), (1, .int v1), (2, .int v2), (3, .int v3), (5, .int v5)]) hx hb d_Composer_sortMarks_82 hl (by decide) rfl (fun ls hl => ?_)
                refine lv_iinc (v := (v5 + (-1 : Int32))) (lv' := [(5, .int (v5 + (-1 : Int32))), (4, .int v5), (0, .ref h_this), (1, .int v1), (2, .int v2), (3, .int v3)]) hx hb d_Composer_sortMarks_84 hl (k := 5) rfl rfl (by decide) rfl (fun ls hl => ?_)
                refine lv_goto (tgt := 35) hx hb d_Composer_sortMarks_87 (by decide) ?_
                exact hk35 v5 (v5 + (-1 : Int32)) x77 H locs ls hE (lv_sub hl [2, 3, 4, 5, 1, 0] rfl) h
      unfold P_Composer_sortMarks_2 at h
      refine lv_iload_n hx hb d_Composer_sortMarks_2 rfl (lv_at hl 1 rfl) ?_
      refine lv_aload_n hx hb d_Composer_sortMarks_3 rfl (lv_at hl 0 rfl) ?_
      refine hn_get S hE kc_Composer 0 rfl rfl 0 (by decide) mw_65 rfl d_Composer_sortMarks_4 ?_
      obtain ⟨x7, hc7, h⟩ := bd_s h
      have hM := (c_Row_size l D cI cZ tt h_this_parts h_this_parts_codes H.size 96 n_this_parts_size f_this_parts_codes x7 hc7)
      refine hn_ci hE (hn_runV (As := []) (rest := [.int v1]) S hE hM cf_Row_size mw_217 mw_149 mw_150 ⟨rfl, rfl⟩ ⟨Nat.le_of_ble_eq_true rfl, Nat.le_of_ble_eq_true rfl⟩ [1, 2] rfl rfl rfl rfl rfl rfl hl.1 (lv_room (Nat.le_of_ble_eq_true rfl)) d_Composer_sortMarks_7 ⟨Nat.zero_le _, Nat.zero_le _⟩) [1, 2] rfl rfl (fun H locs hE => ?_)
      have hE : hn_E D (TY cI cZ) tt A s H locs [(h_this, .inr (2, [.ref h_this_parts])), (h_this_parts, .inr (0, [.ref h_this_parts_codes, .int n_this_parts_size])), (h_this_parts_codes, .inl (cI, 96, .inl f_this_parts_codes))] := hE
      refine lv_icmp_ge (tgt := 106) hx hb d_Composer_sortMarks_10 (by decide) (fun hc => ?_) (fun hc => ?_)
      · have h := ite_t hc h
        obtain rfl := Option.some.inj h
        exact hret H locs ls 106 d_Composer_sortMarks_106 hE
      · have h := ite_f hc h
        refine lv_aload_n hx hb d_Composer_sortMarks_13 rfl (lv_at hl 0 rfl) ?_
        refine hn_get S hE kc_Composer 0 rfl rfl 0 (by decide) mw_65 rfl d_Composer_sortMarks_14 ?_
        refine lv_iload_n hx hb d_Composer_sortMarks_17 rfl (lv_at hl 1 rfl) ?_
        obtain ⟨x18, hc18, h⟩ := bd_s h
        have hM := (c_Row_get l D cI cZ tt h_this_parts h_this_parts_codes H.size 96 n_this_parts_size f_this_parts_codes v1 x18 hc18)
        refine hn_ci hE (hn_runV (As := [.int v1]) (rest := []) S hE hM cf_Row_get mw_218 mw_169 mw_170 ⟨rfl, rfl⟩ ⟨Nat.le_of_ble_eq_true rfl, Nat.le_of_ble_eq_true rfl⟩ [1, 2] rfl rfl rfl rfl rfl rfl hl.1 (lv_room (Nat.le_of_ble_eq_true rfl)) d_Composer_sortMarks_18 ⟨Nat.zero_le _, Nat.zero_le _⟩) [1, 2] rfl rfl (fun H locs hE => ?_)
        have hE : hn_E D (TY cI cZ) tt A s H locs [(h_this, .inr (2, [.ref h_this_parts])), (h_this_parts, .inr (0, [.ref h_this_parts_codes, .int n_this_parts_size])), (h_this_parts_codes, .inl (cI, 96, .inl f_this_parts_codes))] := hE
        refine lv_istore_n (lv' := [(2, .int x18), (0, .ref h_this), (1, .int v1)]) hx hb d_Composer_sortMarks_21 rfl hl (by decide) rfl (fun ls hl => ?_)
        refine lv_iload_n hx hb d_Composer_sortMarks_22 rfl (lv_at hl 0 rfl) ?_
        obtain ⟨x23, hc23, h⟩ := bd_s h
        have hM := (c_Codes_order l D cI cZ tt H.size x18 x23 hc23)
        refine hn_ci hE (hn_runS (As := [.int x18]) (rest := []) S hE hM cf_Codes_order mw_233 mw_234 ⟨rfl, rfl⟩ ⟨Nat.le_of_ble_eq_true rfl, Nat.le_of_ble_eq_true rfl⟩ [] rfl rfl rfl rfl hl.1 (lv_room (Nat.le_of_ble_eq_true rfl)) d_Composer_sortMarks_23 ⟨Nat.zero_le _, Nat.zero_le _⟩) [] rfl rfl (fun H locs hE => ?_)
        have hE : hn_E D (TY cI cZ) tt A s H locs [(h_this, .inr (2, [.ref h_this_parts])), (h_this_parts, .inr (0, [.ref h_this_parts_codes, .int n_this_parts_size])), (h_this_parts_codes, .inl (cI, 96, .inl f_this_parts_codes))] := hE
        refine lv_istore_n (lv' := [(3, .int x23), (2, .int x18), (0, .ref h_this), (1, .int v1)]) hx hb d_Composer_sortMarks_26 rfl hl (by decide) rfl (fun ls hl => ?_)
        refine lv_iload_n hx hb d_Composer_sortMarks_27 rfl (lv_at hl 3 rfl) ?_
        refine lv_istore (lv' := [(4, .int v1), (3, .int x23), (2, .int x18), (0, .ref h_this), (1, .int v1)]) hx hb d_Composer_sortMarks_28 hl (by decide) rfl (fun ls hl => ?_)
        refine lv_iload_n hx hb d_Composer_sortMarks_30 rfl (lv_at hl 4 rfl) ?_
        refine lv_iconst (v := 1) hx hb d_Composer_sortMarks_31 (by decide) ?_
        refine lv_isub hx hb d_Composer_sortMarks_32 ?_
        refine lv_istore (lv' := [(5, .int (v1 - (1 : Int32))), (4, .int v1), (3, .int x23), (2, .int x18), (0, .ref h_this), (1, .int v1)]) hx hb d_Composer_sortMarks_33 hl (by decide) rfl (fun ls hl => ?_)
        exact hL35 v1 x18 x23 fu v1 (v1 - (1 : Int32)) f_this_parts_codes H locs ls hE (lv_sub hl [4, 5, 3, 2, 1, 0] rfl) h
  unfold P_Composer_sortMarks at h
  refine lv_iconst (v := 1) hx hb d_Composer_sortMarks_0 (by decide) ?_
  refine lv_istore_n (lv' := [(1, .int (1 : Int32)), (0, .ref h_this)]) hx hb d_Composer_sortMarks_1 rfl hl (by decide) rfl (fun ls hl => ?_)
  exact hL2 fu (1 : Int32) f_this_parts_codes H locs ls hE (lv_sub hl [1, 0] rfl) h
abbrev rm_Composer_pairOfParts : Room := { frames := 0, cells := 0, slots := 0, locals := 0 }
theorem cf_Composer_pairOfParts : hn_CF y_Composer_pairOfParts b_Composer_pairOfParts 3 (some .int) 2 := ⟨mw_246, mw_4, by decide, by decide, by decide +kernel⟩
set_option maxHeartbeats 4000000 in
set_option maxRecDepth 100000 in
theorem c_Composer_pairOfParts (l : Launch) (D : va_G) (cI cZ : ClassId) (tt : Nat → Nat) (sz : Nat) (a1 : Int32) (a2 : Int32) (o : Int32) (h : P_Composer_pairOfParts a1 a2 = some o) : Met l y_Composer_pairOfParts (hn_w y_Composer_pairOfParts b_Composer_pairOfParts 3 (some .int)) rm_Composer_pairOfParts (hn_Pc D (TY cI cZ) tt [.int a1, .int a2] sz []) (hn_Qi D [] sz [] o) 0 0 (va_A [] sz) := by
  refine hn_ofWi (own := R_Composer) (by decide) rfl (Nat.le_of_ble_eq_true rfl) ?_
  intro p e s m args below meth c A H locs ls Q S hE hl hret
  have hx := S.1
  have hb := S.2.1
  have hown := S.2.2.2.1
  have hl : lv_has ls 3 [(0, .int a1), (1, .int a2)] := hl
  have hL2 : ∀ (kf : Nat) (v2 : Int32) (H : Heap) (locs : List Loc) (ls : Array Slot), hn_E D (TY cI cZ) tt A s H locs [] → lv_has ls 3 [(0, .int a1), (1, .int a2), (2, .int v2)] → fl1 (P_Composer_pairOfParts_2 a1 a2) kf v2 = some o → W p l e rm_Composer_pairOfParts s m args below meth c H locs 0 0 Q (F0 m 2 ls []) := by
    intro kf
    induction kf with
    | zero => intro v2 H locs ls hE hl h; exact no_s h
    | succ kf ih =>
      intro v2 H locs ls hE hl h
      have h : P_Composer_pairOfParts_2 a1 a2 (fl1 (P_Composer_pairOfParts_2 a1 a2) kf) v2 = some o := h
      generalize fl1 (P_Composer_pairOfParts_2 a1 a2) kf = k2 at ih h
      have hk2 := ih
      unfold P_Composer_pairOfParts_2 at h
      refine lv_iload_n hx hb d_Composer_pairOfParts_2 rfl (lv_at hl 2 rfl) ?_
      refine hn_gets S hE st_z1 mw_222 d_Composer_pairOfParts_3 ?_
      refine hn_tlen S hE st_t1 (v := 18) (by decide) d_Composer_pairOfParts_6 ?_
      refine lv_icmp_ge (tgt := 36) hx hb d_Composer_pairOfParts_7 (by decide) (fun hc => ?_) (fun hc => ?_)
      · have h := ite_t hc h
        refine lv_iconst (v := -1) hx hb d_Composer_pairOfParts_36 (by decide) ?_
        obtain rfl := Option.some.inj h
        exact hret H locs ls 37 d_Composer_pairOfParts_37 hE
      · have h := ite_f hc h
        refine hn_gets S hE st_z2 mw_225 d_Composer_pairOfParts_10 ?_
        refine lv_iload_n hx hb d_Composer_pairOfParts_13 rfl (lv_at hl 2 rfl) ?_
        obtain ⟨hi14, h⟩ := gi_s h
        refine hn_ti S hE st_t2 hi14 rfl d_Composer_pairOfParts_14 ?_
        refine lv_iload_n hx hb d_Composer_pairOfParts_15 rfl (lv_at hl 0 rfl) ?_
        refine lv_icmp_ne (tgt := 30) hx hb d_Composer_pairOfParts_16 (by decide) (fun hc => ?_) (fun hc => ?_)
        · have h := ite_f hc h
          refine lv_iinc (v := (v2 + (1 : Int32))) (lv' := [(2, .int (v2 + (1 : Int32))), (0, .int a1), (1, .int a2)]) hx hb d_Composer_pairOfParts_30 hl (k := 2) rfl rfl (by decide) rfl (fun ls hl => ?_)
          refine lv_goto (tgt := 2) hx hb d_Composer_pairOfParts_33 (by decide) ?_
          exact hk2 (v2 + (1 : Int32)) H locs ls hE (lv_sub hl [1, 2, 0] rfl) h
        · have h := ite_t hc h
          refine hn_gets S hE st_z3 mw_227 d_Composer_pairOfParts_19 ?_
          refine lv_iload_n hx hb d_Composer_pairOfParts_22 rfl (lv_at hl 2 rfl) ?_
          obtain ⟨hi23, h⟩ := gi_s h
          refine hn_ti S hE st_t3 hi23 rfl d_Composer_pairOfParts_23 ?_
          refine lv_iload_n hx hb d_Composer_pairOfParts_24 rfl (lv_at hl 1 rfl) ?_
          refine lv_icmp_ne (tgt := 30) hx hb d_Composer_pairOfParts_25 (by decide) (fun hc => ?_) (fun hc => ?_)
          · have h := ite_f hc h
            refine lv_iinc (v := (v2 + (1 : Int32))) (lv' := [(2, .int (v2 + (1 : Int32))), (0, .int a1), (1, .int a2)]) hx hb d_Composer_pairOfParts_30 hl (k := 2) rfl rfl (by decide) rfl (fun ls hl => ?_)
            refine lv_goto (tgt := 2) hx hb d_Composer_pairOfParts_33 (by decide) ?_
            exact hk2 (v2 + (1 : Int32)) H locs ls hE (lv_sub hl [1, 2, 0] rfl) h
          · have h := ite_t hc h
            refine lv_iload_n hx hb d_Composer_pairOfParts_28 rfl (lv_at hl 2 rfl) ?_
            obtain rfl := Option.some.inj h
            exact hret H locs ls 29 d_Composer_pairOfParts_29 hE
  unfold P_Composer_pairOfParts at h
  refine lv_iconst (v := 0) hx hb d_Composer_pairOfParts_0 (by decide) ?_
  refine lv_istore_n (lv' := [(2, .int (0 : Int32)), (0, .int a1), (1, .int a2)]) hx hb d_Composer_pairOfParts_1 rfl hl (by decide) rfl (fun ls hl => ?_)
  exact hL2 fu (0 : Int32) H locs ls hE (lv_sub hl [1, 2, 0] rfl) h
abbrev rm_Composer_join : Room := { frames := 1, cells := 0, slots := 0, locals := 22 }
theorem cf_Composer_join : hn_CF y_Composer_join b_Composer_join 8 none 1 := ⟨mw_243, mw_4, by decide, by decide, by decide +kernel⟩
set_option maxHeartbeats 4000000 in
set_option maxRecDepth 100000 in
theorem c_Composer_join (l : Launch) (D : va_G) (cI cZ : ClassId) (tt : Nat → Nat) (h_this h_this_parts h_this_parts_codes h_a1 h_a1_codes : Nat) (sz : Nat) (N_a1_codes : Nat) (n_this_parts_size : Int32) (f_this_parts_codes : Nat → Int32) (n_a1_size : Int32) (f_a1_codes : Nat → Int32) (o : Int32 × (Nat → Int32)) (h : P_Composer_join N_a1_codes n_this_parts_size f_this_parts_codes f_a1_codes = some o) : Met l y_Composer_join (hn_w y_Composer_join b_Composer_join 8 none) rm_Composer_join (hn_Pc D (TY cI cZ) tt [.ref h_this, .ref h_a1] sz [(h_this, .inr (2, [.ref h_this_parts])), (h_this_parts, .inr (0, [.ref h_this_parts_codes, .int n_this_parts_size])), (h_this_parts_codes, .inl (cI, 96, .inl f_this_parts_codes)), (h_a1, .inr (0, [.ref h_a1_codes, .int n_a1_size])), (h_a1_codes, .inl (cI, N_a1_codes, .inl f_a1_codes))]) (hn_Qv D [(h_this, .inr (2, [.ref h_this_parts])), (h_this_parts, .inr (0, [.ref h_this_parts_codes, .int n_this_parts_size])), (h_this_parts_codes, .inl (cI, 96, .inl f_this_parts_codes)), (h_a1, .inr (0, [.ref h_a1_codes, .int n_a1_size])), (h_a1_codes, .inl (cI, N_a1_codes, .inl f_a1_codes))] sz [(h_this, .inr (2, [.ref h_this_parts])), (h_this_parts, .inr (0, [.ref h_this_parts_codes, .int n_this_parts_size])), (h_this_parts_codes, .inl (cI, 96, .inl f_this_parts_codes)), (h_a1, .inr (0, [.ref h_a1_codes, .int o.1])), (h_a1_codes, .inl (cI, N_a1_codes, .inl o.2))]) 0 0 (va_A [(h_this, .inr (2, [.ref h_this_parts])), (h_this_parts, .inr (0, [.ref h_this_parts_codes, .int n_this_parts_size])), (h_this_parts_codes, .inl (cI, 96, .inl f_this_parts_codes)), (h_a1, .inr (0, [.ref h_a1_codes, .int n_a1_size])), (h_a1_codes, .inl (cI, N_a1_codes, .inl f_a1_codes))] sz) := by
  refine hn_ofWv (own := R_Composer) (by decide) rfl (Nat.le_of_ble_eq_true rfl) ?_
  intro p e s m args below meth c A H locs ls Q S hE hl hret
  have hx := S.1
  have hb := S.2.1
  have hown := S.2.2.2.1
  have hl : lv_has ls 8 [(0, .ref h_this), (1, .ref h_a1)] := hl
  have hL8 : ∀ (kf : Nat) (v2 : Int32) (v3 : Int32) (n_a1_size : Int32) (f_a1_codes : Nat → Int32) (H : Heap) (locs : List Loc) (ls : Array Slot), hn_E D (TY cI cZ) tt A s H locs [(h_this, .inr (2, [.ref h_this_parts])), (h_this_parts, .inr (0, [.ref h_this_parts_codes, .int n_this_parts_size])), (h_this_parts_codes, .inl (cI, 96, .inl f_this_parts_codes)), (h_a1, .inr (0, [.ref h_a1_codes, .int n_a1_size])), (h_a1_codes, .inl (cI, N_a1_codes, .inl f_a1_codes))] → lv_has ls 8 [(0, .ref h_this), (1, .ref h_a1), (2, .int v2), (3, .int v3)] → fl4 (P_Composer_join_8 N_a1_codes n_this_parts_size f_this_parts_codes) kf v2 v3 n_a1_size f_a1_codes = some o → W p l e rm_Composer_join s m args below meth c H locs 0 0 Q (F0 m 8 ls []) := by
    intro kf
    induction kf with
    | zero => intro v2 v3 n_a1_size f_a1_codes H locs ls hE hl h; exact no_s h
    | succ kf ih =>
      intro v2 v3 n_a1_size f_a1_codes H locs ls hE hl h
      have h : P_Composer_join_8 N_a1_codes n_this_parts_size f_this_parts_codes (fl4 (P_Composer_join_8 N_a1_codes n_this_parts_size f_this_parts_codes) kf) v2 v3 n_a1_size f_a1_codes = some o := h
      generalize fl4 (P_Composer_join_8 N_a1_codes n_this_parts_size f_this_parts_codes) kf = k8 at ih h
      have hk8 := ih
      have hj86 : ∀ (v2 : Int32) (v3 : Int32) (v4 : Int32) (v5 : Int32) (s0 : Int32) (n_a1_size : Int32) (f_a1_codes : Nat → Int32) (H : Heap) (locs : List Loc) (ls : Array Slot), hn_E D (TY cI cZ) tt A s H locs [(h_this, .inr (2, [.ref h_this_parts])), (h_this_parts, .inr (0, [.ref h_this_parts_codes, .int n_this_parts_size])), (h_this_parts_codes, .inl (cI, 96, .inl f_this_parts_codes)), (h_a1, .inr (0, [.ref h_a1_codes, .int n_a1_size])), (h_a1_codes, .inl (cI, N_a1_codes, .inl f_a1_codes))] → lv_has ls 8 [(0, .ref h_this), (1, .ref h_a1), (2, .int v2), (3, .int v3), (4, .int v4), (5, .int v5)] → P_Composer_join_86 N_a1_codes k8 v2 v3 v4 v5 s0 n_a1_size f_a1_codes = some o → W p l e rm_Composer_join s m args below meth c H locs 0 0 Q (F0 m 86 ls [.int s0]) := by
        intro v2 v3 v4 v5 s0 n_a1_size f_a1_codes H locs ls hE hl h
        unfold P_Composer_join_86 at h
        refine lv_istore (lv' := [(7, .int s0), (0, .ref h_this), (1, .ref h_a1), (2, .int v2), (3, .int v3), (4, .int v4), (5, .int v5)]) hx hb d_Composer_join_86 hl (by decide) rfl (fun ls hl => ?_)
        refine lv_iload hx hb d_Composer_join_88 (lv_at hl 0 rfl) ?_
        refine lv_iconst (v := -1) hx hb d_Composer_join_90 (by decide) ?_
        refine lv_icmp_eq (tgt := 108) hx hb d_Composer_join_91 (by decide) (fun hc => ?_) (fun hc => ?_)
        · have h := ite_t hc h
          refine lv_aload_n hx hb d_Composer_join_108 rfl (lv_at hl 2 rfl) ?_
          refine lv_iload hx hb d_Composer_join_109 (lv_at hl 5 rfl) ?_
          obtain ⟨x111, hc111, h⟩ := bd_s h
          have hM := (c_Row_add l D cI cZ tt h_a1 h_a1_codes H.size N_a1_codes n_a1_size f_a1_codes v4 x111 hc111)
          refine hn_cz hE (hn_runV (As := [.int v4]) (rest := []) S hE hM cf_Row_add mw_224 mw_141 mw_142 ⟨rfl, rfl⟩ ⟨Nat.le_of_ble_eq_true rfl, Nat.le_of_ble_eq_true rfl⟩ [3, 4] rfl rfl rfl rfl rfl rfl hl.1 (lv_room (Nat.le_of_ble_eq_true rfl)) d_Composer_join_111 ⟨Nat.zero_le _, Nat.zero_le _⟩) [3, 4] rfl rfl (fun H locs hz111 hE => ?_)
          have hE : hn_E D (TY cI cZ) tt A s H locs [(h_this, .inr (2, [.ref h_this_parts])), (h_this_parts, .inr (0, [.ref h_this_parts_codes, .int n_this_parts_size])), (h_this_parts_codes, .inl (cI, 96, .inl f_this_parts_codes)), (h_a1, .inr (0, [.ref h_a1_codes, .int x111.2.1])), (h_a1_codes, .inl (cI, N_a1_codes, .inl x111.2.2))] := hE
          refine lv_pop hx hb d_Composer_join_114 rfl ?_
          refine lv_iload hx hb d_Composer_join_115 (lv_at hl 6 rfl) ?_
          refine lv_if_le (tgt := 124) hx hb d_Composer_join_117 (by decide) (fun hc => ?_) (fun hc => ?_)
          · have h := ite_t hc h
            refine lv_aload_n hx hb d_Composer_join_124 rfl (lv_at hl 2 rfl) ?_
            obtain ⟨x125, hc125, h⟩ := bd_s h
            have hM := (c_Row_size l D cI cZ tt h_a1 h_a1_codes H.size N_a1_codes x111.2.1 x111.2.2 x125 hc125)
            refine hn_ci hE (hn_runV (As := []) (rest := []) S hE hM cf_Row_size mw_217 mw_149 mw_150 ⟨rfl, rfl⟩ ⟨Nat.le_of_ble_eq_true rfl, Nat.le_of_ble_eq_true rfl⟩ [3, 4] rfl rfl rfl rfl rfl rfl hl.1 (lv_room (Nat.le_of_ble_eq_true rfl)) d_Composer_join_125 ⟨Nat.zero_le _, Nat.zero_le _⟩) [3, 4] rfl rfl (fun H locs hE => ?_)
            have hE : hn_E D (TY cI cZ) tt A s H locs [(h_this, .inr (2, [.ref h_this_parts])), (h_this_parts, .inr (0, [.ref h_this_parts_codes, .int n_this_parts_size])), (h_this_parts_codes, .inl (cI, 96, .inl f_this_parts_codes)), (h_a1, .inr (0, [.ref h_a1_codes, .int x111.2.1])), (h_a1_codes, .inl (cI, N_a1_codes, .inl x111.2.2))] := hE
            refine lv_iconst (v := 1) hx hb d_Composer_join_128 (by decide) ?_
            refine lv_isub hx hb d_Composer_join_129 ?_
            refine lv_istore_n (lv' := [(2, .int (x125 - (1 : Int32))), (7, .int s0), (0, .ref h_this), (1, .ref h_a1), (3, .int v3), (4, .int v4), (5, .int v5)]) hx hb d_Composer_join_130 rfl hl (by decide) rfl (fun ls hl => ?_)
            refine lv_iinc (v := (v3 + (1 : Int32))) (lv' := [(3, .int (v3 + (1 : Int32))), (2, .int (x125 - (1 : Int32))), (7, .int s0), (0, .ref h_this), (1, .ref h_a1), (4, .int v4), (5, .int v5)]) hx hb d_Composer_join_131 hl (k := 4) rfl rfl (by decide) rfl (fun ls hl => ?_)
            refine lv_goto (tgt := 8) hx hb d_Composer_join_134 (by decide) ?_
            exact hk8 (x125 - (1 : Int32)) (v3 + (1 : Int32)) x111.2.1 x111.2.2 H locs ls hE (lv_sub hl [3, 4, 1, 0] rfl) h
          · have h := ite_f hc h
            refine lv_iload_n hx hb d_Composer_join_120 rfl (lv_at hl 3 rfl) ?_
            refine lv_goto (tgt := 130) hx hb d_Composer_join_121 (by decide) ?_
            refine lv_istore_n (lv' := [(2, .int v2), (7, .int s0), (0, .ref h_this), (1, .ref h_a1), (3, .int v3), (4, .int v4), (5, .int v5)]) hx hb d_Composer_join_130 rfl hl (by decide) rfl (fun ls hl => ?_)
            refine lv_iinc (v := (v3 + (1 : Int32))) (lv' := [(3, .int (v3 + (1 : Int32))), (2, .int v2), (7, .int s0), (0, .ref h_this), (1, .ref h_a1), (4, .int v4), (5, .int v5)]) hx hb d_Composer_join_131 hl (k := 4) rfl rfl (by decide) rfl (fun ls hl => ?_)
            refine lv_goto (tgt := 8) hx hb d_Composer_join_134 (by decide) ?_
            exact hk8 v2 (v3 + (1 : Int32)) x111.2.1 x111.2.2 H locs ls hE (lv_sub hl [3, 4, 1, 0] rfl) h
        · have h := ite_f hc h
          refine lv_aload_n hx hb d_Composer_join_94 rfl (lv_at hl 2 rfl) ?_
          refine lv_iload_n hx hb d_Composer_join_95 rfl (lv_at hl 3 rfl) ?_
          refine hn_gets S hE st_z1 mw_222 d_Composer_join_96 ?_
          refine lv_iload hx hb d_Composer_join_99 (lv_at hl 0 rfl) ?_
          obtain ⟨hi101, h⟩ := gi_s h
          refine hn_ti S hE st_t1 hi101 rfl d_Composer_join_101 ?_
          obtain ⟨x102, hc102, h⟩ := bd_s h
          have hM := (c_Row_set l D cI cZ tt h_a1 h_a1_codes H.size N_a1_codes n_a1_size f_a1_codes v2 (tb_pc (s0).toNatClampNeg) x102 hc102)
          refine hn_cv hE (hn_runV (As := [.int v2, .int (tb_pc (s0).toNatClampNeg)]) (rest := []) S hE hM cf_Row_set mw_236 mw_237 mw_238 ⟨rfl, rfl⟩ ⟨Nat.le_of_ble_eq_true rfl, Nat.le_of_ble_eq_true rfl⟩ [3, 4] rfl rfl rfl rfl rfl rfl hl.1 (lv_room (Nat.le_of_ble_eq_true rfl)) d_Composer_join_102 ⟨Nat.zero_le _, Nat.zero_le _⟩) [3, 4] rfl rfl (fun H locs hE => ?_)
          have hE : hn_E D (TY cI cZ) tt A s H locs [(h_this, .inr (2, [.ref h_this_parts])), (h_this_parts, .inr (0, [.ref h_this_parts_codes, .int n_this_parts_size])), (h_this_parts_codes, .inl (cI, 96, .inl f_this_parts_codes)), (h_a1, .inr (0, [.ref h_a1_codes, .int n_a1_size])), (h_a1_codes, .inl (cI, N_a1_codes, .inl x102))] := hE
          refine lv_goto (tgt := 131) hx hb d_Composer_join_105 (by decide) ?_
          refine lv_iinc (v := (v3 + (1 : Int32))) (lv' := [(3, .int (v3 + (1 : Int32))), (7, .int s0), (0, .ref h_this), (1, .ref h_a1), (2, .int v2), (4, .int v4), (5, .int v5)]) hx hb d_Composer_join_131 hl (k := 4) rfl rfl (by decide) rfl (fun ls hl => ?_)
          refine lv_goto (tgt := 8) hx hb d_Composer_join_134 (by decide) ?_
          exact hk8 v2 (v3 + (1 : Int32)) n_a1_size x102 H locs ls hE (lv_sub hl [2, 3, 4, 0] rfl) h
      have hj63 : ∀ (v2 : Int32) (v3 : Int32) (v4 : Int32) (v5 : Int32) (s0 : Int32) (n_a1_size : Int32) (f_a1_codes : Nat → Int32) (H : Heap) (locs : List Loc) (ls : Array Slot), hn_E D (TY cI cZ) tt A s H locs [(h_this, .inr (2, [.ref h_this_parts])), (h_this_parts, .inr (0, [.ref h_this_parts_codes, .int n_this_parts_size])), (h_this_parts_codes, .inl (cI, 96, .inl f_this_parts_codes)), (h_a1, .inr (0, [.ref h_a1_codes, .int n_a1_size])), (h_a1_codes, .inl (cI, N_a1_codes, .inl f_a1_codes))] → lv_has ls 8 [(0, .ref h_this), (1, .ref h_a1), (2, .int v2), (3, .int v3), (4, .int v4), (5, .int v5)] → P_Composer_join_63 N_a1_codes k8 v2 v3 v4 v5 s0 n_a1_size f_a1_codes = some o → W p l e rm_Composer_join s m args below meth c H locs 0 0 Q (F0 m 63 ls [.int s0]) := by
        intro v2 v3 v4 v5 s0 n_a1_size f_a1_codes H locs ls hE hl h
        unfold P_Composer_join_63 at h
        refine lv_istore (lv' := [(6, .int s0), (0, .ref h_this), (1, .ref h_a1), (2, .int v2), (3, .int v3), (4, .int v4), (5, .int v5)]) hx hb d_Composer_join_63 hl (by decide) rfl (fun ls hl => ?_)
        refine lv_iload hx hb d_Composer_join_65 (lv_at hl 0 rfl) ?_
        refine lv_iload hx hb d_Composer_join_67 (lv_at hl 6 rfl) ?_
        refine lv_icmp_ge (tgt := 85) hx hb d_Composer_join_69 (by decide) (fun hc => ?_) (fun hc => ?_)
        · have h := ite_t hc h
          refine lv_iconst (v := -1) hx hb d_Composer_join_85 (by decide) ?_
          exact hj86 v2 v3 v4 v5 (-1 : Int32) n_a1_size f_a1_codes H locs ls hE (lv_sub hl [1, 2, 3, 4, 5, 6] rfl) h
        · have h := ite_f hc h
          refine lv_aload_n hx hb d_Composer_join_72 rfl (lv_at hl 2 rfl) ?_
          refine lv_iload_n hx hb d_Composer_join_73 rfl (lv_at hl 3 rfl) ?_
          obtain ⟨x74, hc74, h⟩ := bd_s h
          have hM := (c_Row_get l D cI cZ tt h_a1 h_a1_codes H.size N_a1_codes n_a1_size f_a1_codes v2 x74 hc74)
          refine hn_ci hE (hn_runV (As := [.int v2]) (rest := []) S hE hM cf_Row_get mw_218 mw_169 mw_170 ⟨rfl, rfl⟩ ⟨Nat.le_of_ble_eq_true rfl, Nat.le_of_ble_eq_true rfl⟩ [3, 4] rfl rfl rfl rfl rfl rfl hl.1 (lv_room (Nat.le_of_ble_eq_true rfl)) d_Composer_join_74 ⟨Nat.zero_le _, Nat.zero_le _⟩) [3, 4] rfl rfl (fun H locs hE => ?_)
          have hE : hn_E D (TY cI cZ) tt A s H locs [(h_this, .inr (2, [.ref h_this_parts])), (h_this_parts, .inr (0, [.ref h_this_parts_codes, .int n_this_parts_size])), (h_this_parts_codes, .inl (cI, 96, .inl f_this_parts_codes)), (h_a1, .inr (0, [.ref h_a1_codes, .int n_a1_size])), (h_a1_codes, .inl (cI, N_a1_codes, .inl f_a1_codes))] := hE
          refine lv_iload hx hb d_Composer_join_77 (lv_at hl 5 rfl) ?_
          obtain ⟨x79, hc79, h⟩ := bd_s h
          have hM := (c_Composer_pairOfParts l D cI cZ tt H.size x74 v4 x79 hc79)
          refine hn_ci hE (hn_runS (As := [.int x74, .int v4]) (rest := []) S hE hM cf_Composer_pairOfParts mw_244 mw_245 ⟨rfl, rfl⟩ ⟨Nat.le_of_ble_eq_true rfl, Nat.le_of_ble_eq_true rfl⟩ [] rfl rfl rfl rfl hl.1 (lv_room (Nat.le_of_ble_eq_true rfl)) d_Composer_join_79 ⟨Nat.zero_le _, Nat.zero_le _⟩) [] rfl rfl (fun H locs hE => ?_)
          have hE : hn_E D (TY cI cZ) tt A s H locs [(h_this, .inr (2, [.ref h_this_parts])), (h_this_parts, .inr (0, [.ref h_this_parts_codes, .int n_this_parts_size])), (h_this_parts_codes, .inl (cI, 96, .inl f_this_parts_codes)), (h_a1, .inr (0, [.ref h_a1_codes, .int n_a1_size])), (h_a1_codes, .inl (cI, N_a1_codes, .inl f_a1_codes))] := hE
          refine lv_goto (tgt := 86) hx hb d_Composer_join_82 (by decide) ?_
          exact hj86 v2 v3 v4 v5 x79 n_a1_size f_a1_codes H locs ls hE (lv_sub hl [1, 2, 3, 4, 5, 6] rfl) h
      unfold P_Composer_join_8 at h
      refine lv_iload_n hx hb d_Composer_join_8 rfl (lv_at hl 3 rfl) ?_
      refine lv_aload_n hx hb d_Composer_join_9 rfl (lv_at hl 0 rfl) ?_
      refine hn_get S hE kc_Composer 0 rfl rfl 0 (by decide) mw_65 rfl d_Composer_join_10 ?_
      obtain ⟨x13, hc13, h⟩ := bd_s h
      have hM := (c_Row_size l D cI cZ tt h_this_parts h_this_parts_codes H.size 96 n_this_parts_size f_this_parts_codes x13 hc13)
      refine hn_ci hE (hn_runV (As := []) (rest := [.int v3]) S hE hM cf_Row_size mw_217 mw_149 mw_150 ⟨rfl, rfl⟩ ⟨Nat.le_of_ble_eq_true rfl, Nat.le_of_ble_eq_true rfl⟩ [1, 2] rfl rfl rfl rfl rfl rfl hl.1 (lv_room (Nat.le_of_ble_eq_true rfl)) d_Composer_join_13 ⟨Nat.zero_le _, Nat.zero_le _⟩) [1, 2] rfl rfl (fun H locs hE => ?_)
      have hE : hn_E D (TY cI cZ) tt A s H locs [(h_this, .inr (2, [.ref h_this_parts])), (h_this_parts, .inr (0, [.ref h_this_parts_codes, .int n_this_parts_size])), (h_this_parts_codes, .inl (cI, 96, .inl f_this_parts_codes)), (h_a1, .inr (0, [.ref h_a1_codes, .int n_a1_size])), (h_a1_codes, .inl (cI, N_a1_codes, .inl f_a1_codes))] := hE
      refine lv_icmp_ge (tgt := 137) hx hb d_Composer_join_16 (by decide) (fun hc => ?_) (fun hc => ?_)
      · have h := ite_t hc h
        obtain rfl := Option.some.inj h
        exact hret H locs ls 137 d_Composer_join_137 hE
      · have h := ite_f hc h
        refine lv_aload_n hx hb d_Composer_join_19 rfl (lv_at hl 0 rfl) ?_
        refine hn_get S hE kc_Composer 0 rfl rfl 0 (by decide) mw_65 rfl d_Composer_join_20 ?_
        refine lv_iload_n hx hb d_Composer_join_23 rfl (lv_at hl 3 rfl) ?_
        obtain ⟨x24, hc24, h⟩ := bd_s h
        have hM := (c_Row_get l D cI cZ tt h_this_parts h_this_parts_codes H.size 96 n_this_parts_size f_this_parts_codes v3 x24 hc24)
        refine hn_ci hE (hn_runV (As := [.int v3]) (rest := []) S hE hM cf_Row_get mw_218 mw_169 mw_170 ⟨rfl, rfl⟩ ⟨Nat.le_of_ble_eq_true rfl, Nat.le_of_ble_eq_true rfl⟩ [1, 2] rfl rfl rfl rfl rfl rfl hl.1 (lv_room (Nat.le_of_ble_eq_true rfl)) d_Composer_join_24 ⟨Nat.zero_le _, Nat.zero_le _⟩) [1, 2] rfl rfl (fun H locs hE => ?_)
        have hE : hn_E D (TY cI cZ) tt A s H locs [(h_this, .inr (2, [.ref h_this_parts])), (h_this_parts, .inr (0, [.ref h_this_parts_codes, .int n_this_parts_size])), (h_this_parts_codes, .inl (cI, 96, .inl f_this_parts_codes)), (h_a1, .inr (0, [.ref h_a1_codes, .int n_a1_size])), (h_a1_codes, .inl (cI, N_a1_codes, .inl f_a1_codes))] := hE
        refine lv_istore (lv' := [(4, .int x24), (0, .ref h_this), (1, .ref h_a1), (2, .int v2), (3, .int v3)]) hx hb d_Composer_join_27 hl (by decide) rfl (fun ls hl => ?_)
        refine lv_iload hx hb d_Composer_join_29 (lv_at hl 0 rfl) ?_
        obtain ⟨x31, hc31, h⟩ := bd_s h
        have hM := (c_Codes_order l D cI cZ tt H.size x24 x31 hc31)
        refine hn_ci hE (hn_runS (As := [.int x24]) (rest := []) S hE hM cf_Codes_order mw_233 mw_234 ⟨rfl, rfl⟩ ⟨Nat.le_of_ble_eq_true rfl, Nat.le_of_ble_eq_true rfl⟩ [] rfl rfl rfl rfl hl.1 (lv_room (Nat.le_of_ble_eq_true rfl)) d_Composer_join_31 ⟨Nat.zero_le _, Nat.zero_le _⟩) [] rfl rfl (fun H locs hE => ?_)
        have hE : hn_E D (TY cI cZ) tt A s H locs [(h_this, .inr (2, [.ref h_this_parts])), (h_this_parts, .inr (0, [.ref h_this_parts_codes, .int n_this_parts_size])), (h_this_parts_codes, .inl (cI, 96, .inl f_this_parts_codes)), (h_a1, .inr (0, [.ref h_a1_codes, .int n_a1_size])), (h_a1_codes, .inl (cI, N_a1_codes, .inl f_a1_codes))] := hE
        refine lv_istore (lv' := [(5, .int x31), (4, .int x24), (0, .ref h_this), (1, .ref h_a1), (2, .int v2), (3, .int v3)]) hx hb d_Composer_join_34 hl (by decide) rfl (fun ls hl => ?_)
        refine lv_aload_n hx hb d_Composer_join_36 rfl (lv_at hl 3 rfl) ?_
        obtain ⟨x37, hc37, h⟩ := bd_s h
        have hM := (c_Row_size l D cI cZ tt h_a1 h_a1_codes H.size N_a1_codes n_a1_size f_a1_codes x37 hc37)
        refine hn_ci hE (hn_runV (As := []) (rest := []) S hE hM cf_Row_size mw_217 mw_149 mw_150 ⟨rfl, rfl⟩ ⟨Nat.le_of_ble_eq_true rfl, Nat.le_of_ble_eq_true rfl⟩ [3, 4] rfl rfl rfl rfl rfl rfl hl.1 (lv_room (Nat.le_of_ble_eq_true rfl)) d_Composer_join_37 ⟨Nat.zero_le _, Nat.zero_le _⟩) [3, 4] rfl rfl (fun H locs hE => ?_)
        have hE : hn_E D (TY cI cZ) tt A s H locs [(h_this, .inr (2, [.ref h_this_parts])), (h_this_parts, .inr (0, [.ref h_this_parts_codes, .int n_this_parts_size])), (h_this_parts_codes, .inl (cI, 96, .inl f_this_parts_codes)), (h_a1, .inr (0, [.ref h_a1_codes, .int n_a1_size])), (h_a1_codes, .inl (cI, N_a1_codes, .inl f_a1_codes))] := hE
        refine lv_iconst (v := 1) hx hb d_Composer_join_40 (by decide) ?_
        refine lv_isub hx hb d_Composer_join_41 ?_
        refine lv_iload_n hx hb d_Composer_join_42 rfl (lv_at hl 4 rfl) ?_
        refine lv_icmp_ne (tgt := 50) hx hb d_Composer_join_43 (by decide) (fun hc => ?_) (fun hc => ?_)
        · have h := ite_f hc h
          refine lv_aload_n hx hb d_Composer_join_50 rfl (lv_at hl 3 rfl) ?_
          refine lv_aload_n hx hb d_Composer_join_51 rfl (lv_at hl 3 rfl) ?_
          obtain ⟨x52, hc52, h⟩ := bd_s h
          have hM := (c_Row_size l D cI cZ tt h_a1 h_a1_codes H.size N_a1_codes n_a1_size f_a1_codes x52 hc52)
          refine hn_ci hE (hn_runV (As := []) (rest := [.ref h_a1]) S hE hM cf_Row_size mw_217 mw_149 mw_150 ⟨rfl, rfl⟩ ⟨Nat.le_of_ble_eq_true rfl, Nat.le_of_ble_eq_true rfl⟩ [3, 4] rfl rfl rfl rfl rfl rfl hl.1 (lv_room (Nat.le_of_ble_eq_true rfl)) d_Composer_join_52 ⟨Nat.zero_le _, Nat.zero_le _⟩) [3, 4] rfl rfl (fun H locs hE => ?_)
          have hE : hn_E D (TY cI cZ) tt A s H locs [(h_this, .inr (2, [.ref h_this_parts])), (h_this_parts, .inr (0, [.ref h_this_parts_codes, .int n_this_parts_size])), (h_this_parts_codes, .inl (cI, 96, .inl f_this_parts_codes)), (h_a1, .inr (0, [.ref h_a1_codes, .int n_a1_size])), (h_a1_codes, .inl (cI, N_a1_codes, .inl f_a1_codes))] := hE
          refine lv_iconst (v := 1) hx hb d_Composer_join_55 (by decide) ?_
          refine lv_isub hx hb d_Composer_join_56 ?_
          obtain ⟨x57, hc57, h⟩ := bd_s h
          have hM := (c_Row_get l D cI cZ tt h_a1 h_a1_codes H.size N_a1_codes n_a1_size f_a1_codes (x52 - (1 : Int32)) x57 hc57)
          refine hn_ci hE (hn_runV (As := [.int (x52 - (1 : Int32))]) (rest := []) S hE hM cf_Row_get mw_218 mw_169 mw_170 ⟨rfl, rfl⟩ ⟨Nat.le_of_ble_eq_true rfl, Nat.le_of_ble_eq_true rfl⟩ [3, 4] rfl rfl rfl rfl rfl rfl hl.1 (lv_room (Nat.le_of_ble_eq_true rfl)) d_Composer_join_57 ⟨Nat.zero_le _, Nat.zero_le _⟩) [3, 4] rfl rfl (fun H locs hE => ?_)
          have hE : hn_E D (TY cI cZ) tt A s H locs [(h_this, .inr (2, [.ref h_this_parts])), (h_this_parts, .inr (0, [.ref h_this_parts_codes, .int n_this_parts_size])), (h_this_parts_codes, .inl (cI, 96, .inl f_this_parts_codes)), (h_a1, .inr (0, [.ref h_a1_codes, .int n_a1_size])), (h_a1_codes, .inl (cI, N_a1_codes, .inl f_a1_codes))] := hE
          obtain ⟨x60, hc60, h⟩ := bd_s h
          have hM := (c_Codes_order l D cI cZ tt H.size x57 x60 hc60)
          refine hn_ci hE (hn_runS (As := [.int x57]) (rest := []) S hE hM cf_Codes_order mw_233 mw_234 ⟨rfl, rfl⟩ ⟨Nat.le_of_ble_eq_true rfl, Nat.le_of_ble_eq_true rfl⟩ [] rfl rfl rfl rfl hl.1 (lv_room (Nat.le_of_ble_eq_true rfl)) d_Composer_join_60 ⟨Nat.zero_le _, Nat.zero_le _⟩) [] rfl rfl (fun H locs hE => ?_)
          have hE : hn_E D (TY cI cZ) tt A s H locs [(h_this, .inr (2, [.ref h_this_parts])), (h_this_parts, .inr (0, [.ref h_this_parts_codes, .int n_this_parts_size])), (h_this_parts_codes, .inl (cI, 96, .inl f_this_parts_codes)), (h_a1, .inr (0, [.ref h_a1_codes, .int n_a1_size])), (h_a1_codes, .inl (cI, N_a1_codes, .inl f_a1_codes))] := hE
          exact hj63 v2 v3 x24 x31 x60 n_a1_size f_a1_codes H locs ls hE (lv_sub hl [2, 3, 4, 5, 1, 0] rfl) h
        · have h := ite_t hc h
          refine lv_iconst (v := 0) hx hb d_Composer_join_46 (by decide) ?_
          refine lv_goto (tgt := 63) hx hb d_Composer_join_47 (by decide) ?_
          exact hj63 v2 v3 x24 x31 (0 : Int32) n_a1_size f_a1_codes H locs ls hE (lv_sub hl [2, 3, 4, 5, 1, 0] rfl) h
  unfold P_Composer_join at h
  refine lv_aload_n hx hb d_Composer_join_0 rfl (lv_at hl 1 rfl) ?_
  obtain ⟨x1, hc1, h⟩ := bd_s h
  have hM := (c_Row_empty l D cI cZ tt h_a1 h_a1_codes H.size N_a1_codes n_a1_size f_a1_codes x1 hc1)
  refine hn_cv hE (hn_runV (As := []) (rest := []) S hE hM cf_Row_empty mw_216 mw_157 mw_158 ⟨rfl, rfl⟩ ⟨Nat.le_of_ble_eq_true rfl, Nat.le_of_ble_eq_true rfl⟩ [3, 4] rfl rfl rfl rfl rfl rfl hl.1 (lv_room (Nat.le_of_ble_eq_true rfl)) d_Composer_join_1 ⟨Nat.zero_le _, Nat.zero_le _⟩) [3, 4] rfl rfl (fun H locs hE => ?_)
  have hE : hn_E D (TY cI cZ) tt A s H locs [(h_this, .inr (2, [.ref h_this_parts])), (h_this_parts, .inr (0, [.ref h_this_parts_codes, .int n_this_parts_size])), (h_this_parts_codes, .inl (cI, 96, .inl f_this_parts_codes)), (h_a1, .inr (0, [.ref h_a1_codes, .int x1])), (h_a1_codes, .inl (cI, N_a1_codes, .inl f_a1_codes))] := hE
  refine lv_iconst (v := -1) hx hb d_Composer_join_4 (by decide) ?_
  refine lv_istore_n (lv' := [(2, .int (-1 : Int32)), (0, .ref h_this), (1, .ref h_a1)]) hx hb d_Composer_join_5 rfl hl (by decide) rfl (fun ls hl => ?_)
  refine lv_iconst (v := 0) hx hb d_Composer_join_6 (by decide) ?_
  refine lv_istore_n (lv' := [(3, .int (0 : Int32)), (2, .int (-1 : Int32)), (0, .ref h_this), (1, .ref h_a1)]) hx hb d_Composer_join_7 rfl hl (by decide) rfl (fun ls hl => ?_)
  exact hL8 fu (-1 : Int32) (0 : Int32) x1 f_a1_codes H locs ls hE (lv_sub hl [2, 3, 1, 0] rfl) h
abbrev rm_Composer_form : Room := { frames := 2, cells := 0, slots := 0, locals := 49 }
theorem cf_Composer_form : hn_CF y_Composer_form b_Composer_form 3 none 2 := ⟨mw_211, mw_4, by decide, by decide, by decide +kernel⟩
set_option maxHeartbeats 4000000 in
set_option maxRecDepth 100000 in
theorem c_Composer_form (l : Launch) (D : va_G) (cI cZ : ClassId) (tt : Nat → Nat) (h_this h_this_parts h_this_parts_codes h_a1 h_a1_codes h_a2 h_a2_codes : Nat) (sz : Nat) (N_a1_codes : Nat) (N_a2_codes : Nat) (n_this_parts_size : Int32) (f_this_parts_codes : Nat → Int32) (n_a1_size : Int32) (f_a1_codes : Nat → Int32) (n_a2_size : Int32) (f_a2_codes : Nat → Int32) (o : Int32 × (Nat → Int32) × Int32 × (Nat → Int32)) (h : P_Composer_form N_a1_codes N_a2_codes f_this_parts_codes n_a1_size f_a1_codes f_a2_codes = some o) : Met l y_Composer_form (hn_w y_Composer_form b_Composer_form 3 none) rm_Composer_form (hn_Pc D (TY cI cZ) tt [.ref h_this, .ref h_a1, .ref h_a2] sz [(h_this, .inr (2, [.ref h_this_parts])), (h_this_parts, .inr (0, [.ref h_this_parts_codes, .int n_this_parts_size])), (h_this_parts_codes, .inl (cI, 96, .inl f_this_parts_codes)), (h_a1, .inr (0, [.ref h_a1_codes, .int n_a1_size])), (h_a1_codes, .inl (cI, N_a1_codes, .inl f_a1_codes)), (h_a2, .inr (0, [.ref h_a2_codes, .int n_a2_size])), (h_a2_codes, .inl (cI, N_a2_codes, .inl f_a2_codes))]) (hn_Qv D [(h_this, .inr (2, [.ref h_this_parts])), (h_this_parts, .inr (0, [.ref h_this_parts_codes, .int n_this_parts_size])), (h_this_parts_codes, .inl (cI, 96, .inl f_this_parts_codes)), (h_a1, .inr (0, [.ref h_a1_codes, .int n_a1_size])), (h_a1_codes, .inl (cI, N_a1_codes, .inl f_a1_codes)), (h_a2, .inr (0, [.ref h_a2_codes, .int n_a2_size])), (h_a2_codes, .inl (cI, N_a2_codes, .inl f_a2_codes))] sz [(h_this, .inr (2, [.ref h_this_parts])), (h_this_parts, .inr (0, [.ref h_this_parts_codes, .int o.1])), (h_this_parts_codes, .inl (cI, 96, .inl o.2.1)), (h_a1, .inr (0, [.ref h_a1_codes, .int n_a1_size])), (h_a1_codes, .inl (cI, N_a1_codes, .inl f_a1_codes)), (h_a2, .inr (0, [.ref h_a2_codes, .int o.2.2.1])), (h_a2_codes, .inl (cI, N_a2_codes, .inl o.2.2.2))]) 0 0 (va_A [(h_this, .inr (2, [.ref h_this_parts])), (h_this_parts, .inr (0, [.ref h_this_parts_codes, .int n_this_parts_size])), (h_this_parts_codes, .inl (cI, 96, .inl f_this_parts_codes)), (h_a1, .inr (0, [.ref h_a1_codes, .int n_a1_size])), (h_a1_codes, .inl (cI, N_a1_codes, .inl f_a1_codes)), (h_a2, .inr (0, [.ref h_a2_codes, .int n_a2_size])), (h_a2_codes, .inl (cI, N_a2_codes, .inl f_a2_codes))] sz) := by
  refine hn_ofWv (own := R_Composer) (by decide) rfl (Nat.le_of_ble_eq_true rfl) ?_
  intro p e s m args below meth c A H locs ls Q S hE hl hret
  have hx := S.1
  have hb := S.2.1
  have hown := S.2.2.2.1
  have hl : lv_has ls 3 [(0, .ref h_this), (1, .ref h_a1), (2, .ref h_a2)] := hl
  unfold P_Composer_form at h
  refine lv_aload_n hx hb d_Composer_form_0 rfl (lv_at hl 0 rfl) ?_
  refine lv_aload_n hx hb d_Composer_form_1 rfl (lv_at hl 1 rfl) ?_
  obtain ⟨x2, hc2, h⟩ := bd_s h
  have hM := (c_Composer_takeApart l D cI cZ tt h_this h_this_parts h_this_parts_codes h_a1 h_a1_codes H.size N_a1_codes n_this_parts_size f_this_parts_codes n_a1_size f_a1_codes x2 hc2)
  refine hn_cv hE (hn_runV (As := [.ref h_a1]) (rest := []) S hE hM cf_Composer_takeApart mw_212 mw_214 ms_3 ⟨rfl, rfl⟩ ⟨Nat.le_of_ble_eq_true rfl, Nat.le_of_ble_eq_true rfl⟩ [0, 1, 2, 3, 4] rfl rfl rfl rfl rfl rfl hl.1 (lv_room (Nat.le_of_ble_eq_true rfl)) d_Composer_form_2 ⟨Nat.zero_le _, Nat.zero_le _⟩) [0, 1, 2, 3, 4] rfl rfl (fun H locs hE => ?_)
  have hE : hn_E D (TY cI cZ) tt A s H locs [(h_this, .inr (2, [.ref h_this_parts])), (h_this_parts, .inr (0, [.ref h_this_parts_codes, .int x2.1])), (h_this_parts_codes, .inl (cI, 96, .inl x2.2)), (h_a1, .inr (0, [.ref h_a1_codes, .int n_a1_size])), (h_a1_codes, .inl (cI, N_a1_codes, .inl f_a1_codes)), (h_a2, .inr (0, [.ref h_a2_codes, .int n_a2_size])), (h_a2_codes, .inl (cI, N_a2_codes, .inl f_a2_codes))] := hE
  refine lv_aload_n hx hb d_Composer_form_5 rfl (lv_at hl 0 rfl) ?_
  obtain ⟨x6, hc6, h⟩ := bd_s h
  have hM := (c_Composer_sortMarks l D cI cZ tt h_this h_this_parts h_this_parts_codes H.size x2.1 x2.2 x6 hc6)
  refine hn_cv hE (hn_runV (As := []) (rest := []) S hE hM cf_Composer_sortMarks mw_229 mw_231 ms_4 ⟨rfl, rfl⟩ ⟨Nat.le_of_ble_eq_true rfl, Nat.le_of_ble_eq_true rfl⟩ [0, 1, 2] rfl rfl rfl rfl rfl rfl hl.1 (lv_room (Nat.le_of_ble_eq_true rfl)) d_Composer_form_6 ⟨Nat.zero_le _, Nat.zero_le _⟩) [0, 1, 2] rfl rfl (fun H locs hE => ?_)
  have hE : hn_E D (TY cI cZ) tt A s H locs [(h_this, .inr (2, [.ref h_this_parts])), (h_this_parts, .inr (0, [.ref h_this_parts_codes, .int x2.1])), (h_this_parts_codes, .inl (cI, 96, .inl x6)), (h_a1, .inr (0, [.ref h_a1_codes, .int n_a1_size])), (h_a1_codes, .inl (cI, N_a1_codes, .inl f_a1_codes)), (h_a2, .inr (0, [.ref h_a2_codes, .int n_a2_size])), (h_a2_codes, .inl (cI, N_a2_codes, .inl f_a2_codes))] := hE
  refine lv_aload_n hx hb d_Composer_form_9 rfl (lv_at hl 0 rfl) ?_
  refine lv_aload_n hx hb d_Composer_form_10 rfl (lv_at hl 2 rfl) ?_
  obtain ⟨x11, hc11, h⟩ := bd_s h
  have hM := (c_Composer_join l D cI cZ tt h_this h_this_parts h_this_parts_codes h_a2 h_a2_codes H.size N_a2_codes x2.1 x6 n_a2_size f_a2_codes x11 hc11)
  refine hn_cv hE (hn_runV (As := [.ref h_a2]) (rest := []) S hE hM cf_Composer_join mw_240 mw_242 ms_5 ⟨rfl, rfl⟩ ⟨Nat.le_of_ble_eq_true rfl, Nat.le_of_ble_eq_true rfl⟩ [0, 1, 2, 5, 6] rfl rfl rfl rfl rfl rfl hl.1 (lv_room (Nat.le_of_ble_eq_true rfl)) d_Composer_form_11 ⟨Nat.zero_le _, Nat.zero_le _⟩) [0, 1, 2, 5, 6] rfl rfl (fun H locs hE => ?_)
  have hE : hn_E D (TY cI cZ) tt A s H locs [(h_this, .inr (2, [.ref h_this_parts])), (h_this_parts, .inr (0, [.ref h_this_parts_codes, .int x2.1])), (h_this_parts_codes, .inl (cI, 96, .inl x6)), (h_a1, .inr (0, [.ref h_a1_codes, .int n_a1_size])), (h_a1_codes, .inl (cI, N_a1_codes, .inl f_a1_codes)), (h_a2, .inr (0, [.ref h_a2_codes, .int x11.1])), (h_a2_codes, .inl (cI, N_a2_codes, .inl x11.2))] := hE
  obtain rfl := Option.some.inj h
  exact hret H locs ls 14 d_Composer_form_14 hE
