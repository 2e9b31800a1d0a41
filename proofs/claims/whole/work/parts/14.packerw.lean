abbrev rm_Packer_readBasic : Room := { frames := 1, cells := 0, slots := 0, locals := 21 }
theorem cf_Packer_readBasic : hn_CF y_Packer_readBasic b_Packer_readBasic 6 (some .boolean) 3 := ⟨mw_286, mw_5, by decide, by decide, by decide +kernel⟩
set_option maxHeartbeats 4000000 in
set_option maxRecDepth 100000 in
theorem c_Packer_readBasic (l : Launch) (D : va_G) (cI cZ : ClassId) (tt : Nat → Nat) (h_this h_a1 h_a1_codes h_a3 h_a3_codes : Nat) (sz : Nat) (N_a1_codes : Nat) (N_a3_codes : Nat) (n_this_bias : Int32) (n_this_next : Int32) (n_a1_size : Int32) (f_a1_codes : Nat → Int32) (n_a3_size : Int32) (f_a3_codes : Nat → Int32) (a2 : Int32) (o : Int32 × Int32 × Int32 × (Nat → Int32)) (h : P_Packer_readBasic N_a1_codes N_a3_codes n_a1_size f_a1_codes n_a3_size f_a3_codes a2 = some o) : Met l y_Packer_readBasic (hn_w y_Packer_readBasic b_Packer_readBasic 6 (some .boolean)) rm_Packer_readBasic (hn_Pc D (TY cI cZ) tt [.ref h_this, .ref h_a1, .int a2, .ref h_a3] sz [(h_this, .inr (3, [.int n_this_bias, .int n_this_next])), (h_a1, .inr (0, [.ref h_a1_codes, .int n_a1_size])), (h_a1_codes, .inl (cI, N_a1_codes, .inl f_a1_codes)), (h_a3, .inr (0, [.ref h_a3_codes, .int n_a3_size])), (h_a3_codes, .inl (cI, N_a3_codes, .inl f_a3_codes))]) (hn_Qz D [(h_this, .inr (3, [.int n_this_bias, .int n_this_next])), (h_a1, .inr (0, [.ref h_a1_codes, .int n_a1_size])), (h_a1_codes, .inl (cI, N_a1_codes, .inl f_a1_codes)), (h_a3, .inr (0, [.ref h_a3_codes, .int n_a3_size])), (h_a3_codes, .inl (cI, N_a3_codes, .inl f_a3_codes))] sz [(h_this, .inr (3, [.int n_this_bias, .int o.2.1])), (h_a1, .inr (0, [.ref h_a1_codes, .int n_a1_size])), (h_a1_codes, .inl (cI, N_a1_codes, .inl f_a1_codes)), (h_a3, .inr (0, [.ref h_a3_codes, .int o.2.2.1])), (h_a3_codes, .inl (cI, N_a3_codes, .inl o.2.2.2))] o.1) 0 0 (va_A [(h_this, .inr (3, [.int n_this_bias, .int n_this_next])), (h_a1, .inr (0, [.ref h_a1_codes, .int n_a1_size])), (h_a1_codes, .inl (cI, N_a1_codes, .inl f_a1_codes)), (h_a3, .inr (0, [.ref h_a3_codes, .int n_a3_size])), (h_a3_codes, .inl (cI, N_a3_codes, .inl f_a3_codes))] sz) := by
  refine hn_ofWz (own := R_Packer) (by decide) rfl (Nat.le_of_ble_eq_true rfl) ?_
  intro p e s m args below meth c A H locs ls Q S hE hl hret
  have hx := S.1
  have hb := S.2.1
  have hown := S.2.2.2.1
  have hl : lv_has ls 6 [(0, .ref h_this), (1, .ref h_a1), (2, .int a2), (3, .ref h_a3)] := hl
  have hL52 : ∀ (v4 : Int32) (n_this_next : Int32) (kf : Nat) (v5 : Int32) (n_a3_size : Int32) (f_a3_codes : Nat → Int32) (H : Heap) (locs : List Loc) (ls : Array Slot), hn_E D (TY cI cZ) tt A s H locs [(h_this, .inr (3, [.int n_this_bias, .int n_this_next])), (h_a1, .inr (0, [.ref h_a1_codes, .int n_a1_size])), (h_a1_codes, .inl (cI, N_a1_codes, .inl f_a1_codes)), (h_a3, .inr (0, [.ref h_a3_codes, .int n_a3_size])), (h_a3_codes, .inl (cI, N_a3_codes, .inl f_a3_codes))] → lv_has ls 6 [(1, .ref h_a1), (3, .ref h_a3), (4, .int v4), (5, .int v5)] → fl3 (P_Packer_readBasic_52 N_a1_codes N_a3_codes n_a1_size f_a1_codes v4 n_this_next) kf v5 n_a3_size f_a3_codes = some o → W p l e rm_Packer_readBasic s m args below meth c H locs 0 0 Q (F0 m 52 ls []) := by
    intro v4 n_this_next kf
    induction kf with
    | zero => intro v5 n_a3_size f_a3_codes H locs ls hE hl h; exact no_s h
    | succ kf ih =>
      intro v5 n_a3_size f_a3_codes H locs ls hE hl h
      have h : P_Packer_readBasic_52 N_a1_codes N_a3_codes n_a1_size f_a1_codes v4 n_this_next (fl3 (P_Packer_readBasic_52 N_a1_codes N_a3_codes n_a1_size f_a1_codes v4 n_this_next) kf) v5 n_a3_size f_a3_codes = some o := h
      generalize fl3 (P_Packer_readBasic_52 N_a1_codes N_a3_codes n_a1_size f_a1_codes v4 n_this_next) kf = k52 at ih h
      have hk52 := ih
      unfold P_Packer_readBasic_52 at h
      refine lv_iload hx hb d_Packer_readBasic_52 (lv_at hl 3 rfl) ?_
      refine lv_iload hx hb d_Packer_readBasic_54 (lv_at hl 2 rfl) ?_
      refine lv_icmp_ge (tgt := 99) hx hb d_Packer_readBasic_56 (by decide) (fun hc => ?_) (fun hc => ?_)
      · have h := ite_t hc h
        refine lv_iconst (v := 1) hx hb d_Packer_readBasic_99 (by decide) ?_
        obtain rfl := Option.some.inj h
        exact hret H locs ls 100 d_Packer_readBasic_100 narrow_b1 hE
      · have h := ite_f hc h
        refine lv_aload_n hx hb d_Packer_readBasic_59 rfl (lv_at hl 0 rfl) ?_
        refine lv_iload hx hb d_Packer_readBasic_60 (lv_at hl 3 rfl) ?_
        obtain ⟨x62, hc62, h⟩ := bd_s h
        have hM := (c_Row_get l D cI cZ tt h_a1 h_a1_codes H.size N_a1_codes n_a1_size f_a1_codes v5 x62 hc62)
        refine hn_ci hE (hn_runV (As := [.int v5]) (rest := []) S hE hM cf_Row_get mw_288 mw_169 mw_170 ⟨rfl, rfl⟩ ⟨Nat.le_of_ble_eq_true rfl, Nat.le_of_ble_eq_true rfl⟩ [1, 2] rfl rfl rfl rfl rfl rfl hl.1 (lv_room (Nat.le_of_ble_eq_true rfl)) d_Packer_readBasic_62 ⟨Nat.zero_le _, Nat.zero_le _⟩) [1, 2] rfl rfl (fun H locs hE => ?_)
        have hE : hn_E D (TY cI cZ) tt A s H locs [(h_this, .inr (3, [.int n_this_bias, .int n_this_next])), (h_a1, .inr (0, [.ref h_a1_codes, .int n_a1_size])), (h_a1_codes, .inl (cI, N_a1_codes, .inl f_a1_codes)), (h_a3, .inr (0, [.ref h_a3_codes, .int n_a3_size])), (h_a3_codes, .inl (cI, N_a3_codes, .inl f_a3_codes))] := hE
        refine lv_sipush (v := 128) hx hb d_Packer_readBasic_65 (by decide) ?_
        refine lv_icmp_ge (tgt := 80) hx hb d_Packer_readBasic_68 (by decide) (fun hc => ?_) (fun hc => ?_)
        · have h := ite_t hc h
          refine lv_iconst (v := 0) hx hb d_Packer_readBasic_80 (by decide) ?_
          obtain rfl := Option.some.inj h
          exact hret H locs ls 81 d_Packer_readBasic_81 narrow_b0 hE
        · have h := ite_f hc h
          refine lv_aload_n hx hb d_Packer_readBasic_71 rfl (lv_at hl 1 rfl) ?_
          obtain ⟨x72, hc72, h⟩ := bd_s h
          have hM := (c_Row_size l D cI cZ tt h_a3 h_a3_codes H.size N_a3_codes n_a3_size f_a3_codes x72 hc72)
          refine hn_ci hE (hn_runV (As := []) (rest := []) S hE hM cf_Row_size mw_287 mw_149 mw_150 ⟨rfl, rfl⟩ ⟨Nat.le_of_ble_eq_true rfl, Nat.le_of_ble_eq_true rfl⟩ [3, 4] rfl rfl rfl rfl rfl rfl hl.1 (lv_room (Nat.le_of_ble_eq_true rfl)) d_Packer_readBasic_72 ⟨Nat.zero_le _, Nat.zero_le _⟩) [3, 4] rfl rfl (fun H locs hE => ?_)
          have hE : hn_E D (TY cI cZ) tt A s H locs [(h_this, .inr (3, [.int n_this_bias, .int n_this_next])), (h_a1, .inr (0, [.ref h_a1_codes, .int n_a1_size])), (h_a1_codes, .inl (cI, N_a1_codes, .inl f_a1_codes)), (h_a3, .inr (0, [.ref h_a3_codes, .int n_a3_size])), (h_a3_codes, .inl (cI, N_a3_codes, .inl f_a3_codes))] := hE
          refine lv_bipush (v := 48) hx hb d_Packer_readBasic_75 (by decide) ?_
          refine lv_icmp_lt (tgt := 82) hx hb d_Packer_readBasic_77 (by decide) (fun hc => ?_) (fun hc => ?_)
          · have h := ite_t hc h
            refine lv_aload_n hx hb d_Packer_readBasic_82 rfl (lv_at hl 1 rfl) ?_
            refine lv_aload_n hx hb d_Packer_readBasic_83 rfl (lv_at hl 0 rfl) ?_
            refine lv_iload hx hb d_Packer_readBasic_84 (lv_at hl 3 rfl) ?_
            obtain ⟨x86, hc86, h⟩ := bd_s h
            have hM := (c_Row_get l D cI cZ tt h_a1 h_a1_codes H.size N_a1_codes n_a1_size f_a1_codes v5 x86 hc86)
            refine hn_ci hE (hn_runV (As := [.int v5]) (rest := [.ref h_a3]) S hE hM cf_Row_get mw_288 mw_169 mw_170 ⟨rfl, rfl⟩ ⟨Nat.le_of_ble_eq_true rfl, Nat.le_of_ble_eq_true rfl⟩ [1, 2] rfl rfl rfl rfl rfl rfl hl.1 (lv_room (Nat.le_of_ble_eq_true rfl)) d_Packer_readBasic_86 ⟨Nat.zero_le _, Nat.zero_le _⟩) [1, 2] rfl rfl (fun H locs hE => ?_)
            have hE : hn_E D (TY cI cZ) tt A s H locs [(h_this, .inr (3, [.int n_this_bias, .int n_this_next])), (h_a1, .inr (0, [.ref h_a1_codes, .int n_a1_size])), (h_a1_codes, .inl (cI, N_a1_codes, .inl f_a1_codes)), (h_a3, .inr (0, [.ref h_a3_codes, .int n_a3_size])), (h_a3_codes, .inl (cI, N_a3_codes, .inl f_a3_codes))] := hE
            obtain ⟨x89, hc89, h⟩ := bd_s h
            have hM := (c_Row_add l D cI cZ tt h_a3 h_a3_codes H.size N_a3_codes n_a3_size f_a3_codes x86 x89 hc89)
            refine hn_cz hE (hn_runV (As := [.int x86]) (rest := []) S hE hM cf_Row_add mw_289 mw_141 mw_142 ⟨rfl, rfl⟩ ⟨Nat.le_of_ble_eq_true rfl, Nat.le_of_ble_eq_true rfl⟩ [3, 4] rfl rfl rfl rfl rfl rfl hl.1 (lv_room (Nat.le_of_ble_eq_true rfl)) d_Packer_readBasic_89 ⟨Nat.zero_le _, Nat.zero_le _⟩) [3, 4] rfl rfl (fun H locs hz89 hE => ?_)
            have hE : hn_E D (TY cI cZ) tt A s H locs [(h_this, .inr (3, [.int n_this_bias, .int n_this_next])), (h_a1, .inr (0, [.ref h_a1_codes, .int n_a1_size])), (h_a1_codes, .inl (cI, N_a1_codes, .inl f_a1_codes)), (h_a3, .inr (0, [.ref h_a3_codes, .int x89.2.1])), (h_a3_codes, .inl (cI, N_a3_codes, .inl x89.2.2))] := hE
            refine lv_pop hx hb d_Packer_readBasic_92 rfl ?_
            refine lv_iinc (v := (v5 + (1 : Int32))) (lv' := [(5, .int (v5 + (1 : Int32))), (1, .ref h_a1), (3, .ref h_a3), (4, .int v4)]) hx hb d_Packer_readBasic_93 hl (k := 3) rfl rfl (by decide) rfl (fun ls hl => ?_)
            refine lv_goto (tgt := 52) hx hb d_Packer_readBasic_96 (by decide) ?_
            exact hk52 (v5 + (1 : Int32)) x89.2.1 x89.2.2 H locs ls hE (lv_sub hl [1, 2, 3, 0] rfl) h
          · have h := ite_f hc h
            refine lv_iconst (v := 0) hx hb d_Packer_readBasic_80 (by decide) ?_
            obtain rfl := Option.some.inj h
            exact hret H locs ls 81 d_Packer_readBasic_81 narrow_b0 hE
  have hL11 : ∀ (n_a3_size : Int32) (f_a3_codes : Nat → Int32) (kf : Nat) (v4 : Int32) (v5 : Int32) (n_this_next : Int32) (H : Heap) (locs : List Loc) (ls : Array Slot), hn_E D (TY cI cZ) tt A s H locs [(h_this, .inr (3, [.int n_this_bias, .int n_this_next])), (h_a1, .inr (0, [.ref h_a1_codes, .int n_a1_size])), (h_a1_codes, .inl (cI, N_a1_codes, .inl f_a1_codes)), (h_a3, .inr (0, [.ref h_a3_codes, .int n_a3_size])), (h_a3_codes, .inl (cI, N_a3_codes, .inl f_a3_codes))] → lv_has ls 6 [(0, .ref h_this), (1, .ref h_a1), (2, .int a2), (3, .ref h_a3), (4, .int v4), (5, .int v5)] → fl3 (P_Packer_readBasic_11 N_a1_codes N_a3_codes n_a1_size f_a1_codes a2 n_a3_size f_a3_codes) kf v4 v5 n_this_next = some o → W p l e rm_Packer_readBasic s m args below meth c H locs 0 0 Q (F0 m 11 ls []) := by
    intro n_a3_size f_a3_codes kf
    induction kf with
    | zero => intro v4 v5 n_this_next H locs ls hE hl h; exact no_s h
    | succ kf ih =>
      intro v4 v5 n_this_next H locs ls hE hl h
      have h : P_Packer_readBasic_11 N_a1_codes N_a3_codes n_a1_size f_a1_codes a2 n_a3_size f_a3_codes (fl3 (P_Packer_readBasic_11 N_a1_codes N_a3_codes n_a1_size f_a1_codes a2 n_a3_size f_a3_codes) kf) v4 v5 n_this_next = some o := h
      generalize fl3 (P_Packer_readBasic_11 N_a1_codes N_a3_codes n_a1_size f_a1_codes a2 n_a3_size f_a3_codes) kf = k11 at ih h
      have hk11 := ih
      unfold P_Packer_readBasic_11 at h
      refine lv_iload hx hb d_Packer_readBasic_11 (lv_at hl 5 rfl) ?_
      refine lv_aload_n hx hb d_Packer_readBasic_13 rfl (lv_at hl 1 rfl) ?_
      obtain ⟨x14, hc14, h⟩ := bd_s h
      have hM := (c_Row_size l D cI cZ tt h_a1 h_a1_codes H.size N_a1_codes n_a1_size f_a1_codes x14 hc14)
      refine hn_ci hE (hn_runV (As := []) (rest := [.int v5]) S hE hM cf_Row_size mw_287 mw_149 mw_150 ⟨rfl, rfl⟩ ⟨Nat.le_of_ble_eq_true rfl, Nat.le_of_ble_eq_true rfl⟩ [1, 2] rfl rfl rfl rfl rfl rfl hl.1 (lv_room (Nat.le_of_ble_eq_true rfl)) d_Packer_readBasic_14 ⟨Nat.zero_le _, Nat.zero_le _⟩) [1, 2] rfl rfl (fun H locs hE => ?_)
      have hE : hn_E D (TY cI cZ) tt A s H locs [(h_this, .inr (3, [.int n_this_bias, .int n_this_next])), (h_a1, .inr (0, [.ref h_a1_codes, .int n_a1_size])), (h_a1_codes, .inl (cI, N_a1_codes, .inl f_a1_codes)), (h_a3, .inr (0, [.ref h_a3_codes, .int n_a3_size])), (h_a3_codes, .inl (cI, N_a3_codes, .inl f_a3_codes))] := hE
      refine lv_icmp_ge (tgt := 49) hx hb d_Packer_readBasic_17 (by decide) (fun hc => ?_) (fun hc => ?_)
      · have h := ite_t hc h
        refine lv_iload_n hx hb d_Packer_readBasic_49 rfl (lv_at hl 2 rfl) ?_
        refine lv_istore (lv' := [(5, .int a2), (0, .ref h_this), (1, .ref h_a1), (2, .int a2), (3, .ref h_a3), (4, .int v4)]) hx hb d_Packer_readBasic_50 hl (by decide) rfl (fun ls hl => ?_)
        exact hL52 v4 n_this_next fu a2 n_a3_size f_a3_codes H locs ls hE (lv_sub hl [2, 4, 5, 0] rfl) h
      · have h := ite_f hc h
        refine lv_aload_n hx hb d_Packer_readBasic_20 rfl (lv_at hl 1 rfl) ?_
        refine lv_iload hx hb d_Packer_readBasic_21 (lv_at hl 5 rfl) ?_
        obtain ⟨x23, hc23, h⟩ := bd_s h
        have hM := (c_Row_get l D cI cZ tt h_a1 h_a1_codes H.size N_a1_codes n_a1_size f_a1_codes v5 x23 hc23)
        refine hn_ci hE (hn_runV (As := [.int v5]) (rest := []) S hE hM cf_Row_get mw_288 mw_169 mw_170 ⟨rfl, rfl⟩ ⟨Nat.le_of_ble_eq_true rfl, Nat.le_of_ble_eq_true rfl⟩ [1, 2] rfl rfl rfl rfl rfl rfl hl.1 (lv_room (Nat.le_of_ble_eq_true rfl)) d_Packer_readBasic_23 ⟨Nat.zero_le _, Nat.zero_le _⟩) [1, 2] rfl rfl (fun H locs hE => ?_)
        have hE : hn_E D (TY cI cZ) tt A s H locs [(h_this, .inr (3, [.int n_this_bias, .int n_this_next])), (h_a1, .inr (0, [.ref h_a1_codes, .int n_a1_size])), (h_a1_codes, .inl (cI, N_a1_codes, .inl f_a1_codes)), (h_a3, .inr (0, [.ref h_a3_codes, .int n_a3_size])), (h_a3_codes, .inl (cI, N_a3_codes, .inl f_a3_codes))] := hE
        refine lv_bipush (v := 45) hx hb d_Packer_readBasic_26 (by decide) ?_
        refine lv_icmp_ne (tgt := 43) hx hb d_Packer_readBasic_28 (by decide) (fun hc => ?_) (fun hc => ?_)
        · have h := ite_f hc h
          refine lv_iinc (v := (v5 + (1 : Int32))) (lv' := [(5, .int (v5 + (1 : Int32))), (0, .ref h_this), (1, .ref h_a1), (2, .int a2), (3, .ref h_a3), (4, .int v4)]) hx hb d_Packer_readBasic_43 hl (k := 5) rfl rfl (by decide) rfl (fun ls hl => ?_)
          refine lv_goto (tgt := 11) hx hb d_Packer_readBasic_46 (by decide) ?_
          exact hk11 v4 (v5 + (1 : Int32)) n_this_next H locs ls hE (lv_sub hl [1, 2, 3, 4, 5, 0] rfl) h
        · have h := ite_t hc h
          refine lv_iload hx hb d_Packer_readBasic_31 (lv_at hl 5 rfl) ?_
          refine lv_istore (lv' := [(4, .int v5), (0, .ref h_this), (1, .ref h_a1), (2, .int a2), (3, .ref h_a3), (5, .int v5)]) hx hb d_Packer_readBasic_33 hl (by decide) rfl (fun ls hl => ?_)
          refine lv_aload_n hx hb d_Packer_readBasic_35 rfl (lv_at hl 1 rfl) ?_
          refine lv_iload hx hb d_Packer_readBasic_36 (lv_at hl 5 rfl) ?_
          refine lv_iconst (v := 1) hx hb d_Packer_readBasic_38 (by decide) ?_
          refine lv_iadd hx hb d_Packer_readBasic_39 ?_
          refine hn_put (tv := .int) S hE kc_Packer t_Packer_ok n_Packer 0 rfl rfl 1 (by decide) mw_76 rfl (by decide +kernel) rfl rfl (Nat.le_of_ble_eq_true rfl) d_Packer_readBasic_40 (fun H locs hE => ?_)
          have hE : hn_E D (TY cI cZ) tt A s H locs [(h_this, .inr (3, [.int n_this_bias, .int (v5 + (1 : Int32))])), (h_a1, .inr (0, [.ref h_a1_codes, .int n_a1_size])), (h_a1_codes, .inl (cI, N_a1_codes, .inl f_a1_codes)), (h_a3, .inr (0, [.ref h_a3_codes, .int n_a3_size])), (h_a3_codes, .inl (cI, N_a3_codes, .inl f_a3_codes))] := hE
          refine lv_iinc (v := (v5 + (1 : Int32))) (lv' := [(5, .int (v5 + (1 : Int32))), (4, .int v5), (0, .ref h_this), (1, .ref h_a1), (2, .int a2), (3, .ref h_a3)]) hx hb d_Packer_readBasic_43 hl (k := 5) rfl rfl (by decide) rfl (fun ls hl => ?_)
          refine lv_goto (tgt := 11) hx hb d_Packer_readBasic_46 (by decide) ?_
          exact hk11 v5 (v5 + (1 : Int32)) (v5 + (1 : Int32)) H locs ls hE (lv_sub hl [2, 3, 4, 5, 1, 0] rfl) h
  unfold P_Packer_readBasic at h
  refine lv_aload_n hx hb d_Packer_readBasic_0 rfl (lv_at hl 0 rfl) ?_
  refine lv_iload_n hx hb d_Packer_readBasic_1 rfl (lv_at hl 2 rfl) ?_
  refine hn_put (tv := .int) S hE kc_Packer t_Packer_ok n_Packer 0 rfl rfl 1 (by decide) mw_76 rfl (by decide +kernel) rfl rfl (Nat.le_of_ble_eq_true rfl) d_Packer_readBasic_2 (fun H locs hE => ?_)
  have hE : hn_E D (TY cI cZ) tt A s H locs [(h_this, .inr (3, [.int n_this_bias, .int a2])), (h_a1, .inr (0, [.ref h_a1_codes, .int n_a1_size])), (h_a1_codes, .inl (cI, N_a1_codes, .inl f_a1_codes)), (h_a3, .inr (0, [.ref h_a3_codes, .int n_a3_size])), (h_a3_codes, .inl (cI, N_a3_codes, .inl f_a3_codes))] := hE
  refine lv_iload_n hx hb d_Packer_readBasic_5 rfl (lv_at hl 2 rfl) ?_
  refine lv_istore (lv' := [(4, .int a2), (0, .ref h_this), (1, .ref h_a1), (2, .int a2), (3, .ref h_a3)]) hx hb d_Packer_readBasic_6 hl (by decide) rfl (fun ls hl => ?_)
  refine lv_iload_n hx hb d_Packer_readBasic_8 rfl (lv_at hl 3 rfl) ?_
  refine lv_istore (lv' := [(5, .int a2), (4, .int a2), (0, .ref h_this), (1, .ref h_a1), (2, .int a2), (3, .ref h_a3)]) hx hb d_Packer_readBasic_9 hl (by decide) rfl (fun ls hl => ?_)
  exact hL11 n_a3_size f_a3_codes fu a2 a2 a2 H locs ls hE (lv_sub hl [2, 3, 4, 5, 1, 0] rfl) h
abbrev rm_Packer_digitOfCode : Room := { frames := 1, cells := 0, slots := 0, locals := 22 }
theorem cf_Packer_digitOfCode : hn_CF y_Packer_digitOfCode b_Packer_digitOfCode 1 (some .int) 1 := ⟨mw_297, mw_5, by decide, by decide, by decide +kernel⟩
set_option maxHeartbeats 4000000 in
set_option maxRecDepth 100000 in
theorem c_Packer_digitOfCode (l : Launch) (D : va_G) (cI cZ : ClassId) (tt : Nat → Nat) (sz : Nat) (a1 : Int32) (o : Int32) (h : P_Packer_digitOfCode a1 = some o) : Met l y_Packer_digitOfCode (hn_w y_Packer_digitOfCode b_Packer_digitOfCode 1 (some .int)) rm_Packer_digitOfCode (hn_Pc D (TY cI cZ) tt [.int a1] sz []) (hn_Qi D [] sz [] o) 0 0 (va_A [] sz) := by
  refine hn_ofWi (own := R_Packer) (by decide) rfl (Nat.le_of_ble_eq_true rfl) ?_
  intro p e s m args below meth c A H locs ls Q S hE hl hret
  have hx := S.1
  have hb := S.2.1
  have hown := S.2.2.2.1
  have hl : lv_has ls 1 [(0, .int a1)] := hl
  unfold P_Packer_digitOfCode at h
  refine lv_iload_n hx hb d_Packer_digitOfCode_0 rfl (lv_at hl 0 rfl) ?_
  refine lv_bipush (v := 97) hx hb d_Packer_digitOfCode_1 (by decide) ?_
  refine lv_bipush (v := 122) hx hb d_Packer_digitOfCode_3 (by decide) ?_
  obtain ⟨x5, hc5, h⟩ := bd_s h
  have hM := (c_Codes_isWithin l D cI cZ tt H.size a1 (97 : Int32) (122 : Int32) x5 hc5)
  refine hn_cz hE (hn_runS (As := [.int a1, .int (97 : Int32), .int (122 : Int32)]) (rest := []) S hE hM cf_Codes_isWithin mw_298 mw_137 ⟨rfl, rfl⟩ ⟨Nat.le_of_ble_eq_true rfl, Nat.le_of_ble_eq_true rfl⟩ [] rfl rfl rfl rfl hl.1 (lv_room (Nat.le_of_ble_eq_true rfl)) d_Packer_digitOfCode_5 ⟨Nat.zero_le _, Nat.zero_le _⟩) [] rfl rfl (fun H locs hz5 hE => ?_)
  have hE : hn_E D (TY cI cZ) tt A s H locs [] := hE
  refine lv_if_eq (tgt := 16) hx hb d_Packer_digitOfCode_8 (by decide) (fun hc => ?_) (fun hc => ?_)
  · have h := ite_t hc h
    refine lv_iload_n hx hb d_Packer_digitOfCode_16 rfl (lv_at hl 0 rfl) ?_
    obtain ⟨x17, hc17, h⟩ := bd_s h
    have hM := (c_Codes_isCapital l D cI cZ tt H.size a1 x17 hc17)
    refine hn_cz hE (hn_runS (As := [.int a1]) (rest := []) S hE hM cf_Codes_isCapital mw_299 mw_191 ⟨rfl, rfl⟩ ⟨Nat.le_of_ble_eq_true rfl, Nat.le_of_ble_eq_true rfl⟩ [] rfl rfl rfl rfl hl.1 (lv_room (Nat.le_of_ble_eq_true rfl)) d_Packer_digitOfCode_17 ⟨Nat.zero_le _, Nat.zero_le _⟩) [] rfl rfl (fun H locs hz17 hE => ?_)
    have hE : hn_E D (TY cI cZ) tt A s H locs [] := hE
    refine lv_if_eq (tgt := 28) hx hb d_Packer_digitOfCode_20 (by decide) (fun hc => ?_) (fun hc => ?_)
    · have h := ite_t hc h
      refine lv_iload_n hx hb d_Packer_digitOfCode_28 rfl (lv_at hl 0 rfl) ?_
      refine lv_bipush (v := 48) hx hb d_Packer_digitOfCode_29 (by decide) ?_
      refine lv_bipush (v := 57) hx hb d_Packer_digitOfCode_31 (by decide) ?_
      obtain ⟨x33, hc33, h⟩ := bd_s h
      have hM := (c_Codes_isWithin l D cI cZ tt H.size a1 (48 : Int32) (57 : Int32) x33 hc33)
      refine hn_cz hE (hn_runS (As := [.int a1, .int (48 : Int32), .int (57 : Int32)]) (rest := []) S hE hM cf_Codes_isWithin mw_298 mw_137 ⟨rfl, rfl⟩ ⟨Nat.le_of_ble_eq_true rfl, Nat.le_of_ble_eq_true rfl⟩ [] rfl rfl rfl rfl hl.1 (lv_room (Nat.le_of_ble_eq_true rfl)) d_Packer_digitOfCode_33 ⟨Nat.zero_le _, Nat.zero_le _⟩) [] rfl rfl (fun H locs hz33 hE => ?_)
      have hE : hn_E D (TY cI cZ) tt A s H locs [] := hE
      refine lv_if_eq (tgt := 49) hx hb d_Packer_digitOfCode_36 (by decide) (fun hc => ?_) (fun hc => ?_)
      · have h := ite_t hc h
        refine lv_iconst (v := -1) hx hb d_Packer_digitOfCode_49 (by decide) ?_
        obtain rfl := Option.some.inj h
        exact hret H locs ls 50 d_Packer_digitOfCode_50 hE
      · have h := ite_f hc h
        refine lv_iload_n hx hb d_Packer_digitOfCode_39 rfl (lv_at hl 0 rfl) ?_
        refine lv_bipush (v := 48) hx hb d_Packer_digitOfCode_40 (by decide) ?_
        refine lv_isub hx hb d_Packer_digitOfCode_42 ?_
        refine lv_bipush (v := 26) hx hb d_Packer_digitOfCode_43 (by decide) ?_
        refine lv_iadd hx hb d_Packer_digitOfCode_45 ?_
        refine lv_goto (tgt := 50) hx hb d_Packer_digitOfCode_46 (by decide) ?_
        obtain rfl := Option.some.inj h
        exact hret H locs ls 50 d_Packer_digitOfCode_50 hE
    · have h := ite_f hc h
      refine lv_iload_n hx hb d_Packer_digitOfCode_23 rfl (lv_at hl 0 rfl) ?_
      refine lv_bipush (v := 65) hx hb d_Packer_digitOfCode_24 (by decide) ?_
      refine lv_isub hx hb d_Packer_digitOfCode_26 ?_
      obtain rfl := Option.some.inj h
      exact hret H locs ls 27 d_Packer_digitOfCode_27 hE
  · have h := ite_f hc h
    refine lv_iload_n hx hb d_Packer_digitOfCode_11 rfl (lv_at hl 0 rfl) ?_
    refine lv_bipush (v := 97) hx hb d_Packer_digitOfCode_12 (by decide) ?_
    refine lv_isub hx hb d_Packer_digitOfCode_14 ?_
    obtain rfl := Option.some.inj h
    exact hret H locs ls 15 d_Packer_digitOfCode_15 hE
abbrev rm_Packer_threshold : Room := { frames := 1, cells := 0, slots := 0, locals := 21 }
theorem cf_Packer_threshold : hn_CF y_Packer_threshold b_Packer_threshold 2 (some .int) 1 := ⟨mw_304, mw_5, by decide, by decide, by decide +kernel⟩
set_option maxHeartbeats 4000000 in
set_option maxRecDepth 100000 in
theorem c_Packer_threshold (l : Launch) (D : va_G) (cI cZ : ClassId) (tt : Nat → Nat) (h_this : Nat) (sz : Nat) (n_this_bias : Int32) (n_this_next : Int32) (a1 : Int32) (o : Int32) (h : P_Packer_threshold n_this_bias a1 = some o) : Met l y_Packer_threshold (hn_w y_Packer_threshold b_Packer_threshold 2 (some .int)) rm_Packer_threshold (hn_Pc D (TY cI cZ) tt [.ref h_this, .int a1] sz [(h_this, .inr (3, [.int n_this_bias, .int n_this_next]))]) (hn_Qi D [(h_this, .inr (3, [.int n_this_bias, .int n_this_next]))] sz [(h_this, .inr (3, [.int n_this_bias, .int n_this_next]))] o) 0 0 (va_A [(h_this, .inr (3, [.int n_this_bias, .int n_this_next]))] sz) := by
  refine hn_ofWi (own := R_Packer) (by decide) rfl (Nat.le_of_ble_eq_true rfl) ?_
  intro p e s m args below meth c A H locs ls Q S hE hl hret
  have hx := S.1
  have hb := S.2.1
  have hown := S.2.2.2.1
  have hl : lv_has ls 2 [(0, .ref h_this), (1, .int a1)] := hl
  unfold P_Packer_threshold at h
  refine lv_iconst (v := 1) hx hb d_Packer_threshold_0 (by decide) ?_
  refine lv_bipush (v := 26) hx hb d_Packer_threshold_1 (by decide) ?_
  refine lv_bipush (v := 36) hx hb d_Packer_threshold_3 (by decide) ?_
  refine lv_iload_n hx hb d_Packer_threshold_5 rfl (lv_at hl 1 rfl) ?_
  refine lv_iconst (v := 1) hx hb d_Packer_threshold_6 (by decide) ?_
  refine lv_iadd hx hb d_Packer_threshold_7 ?_
  refine lv_imul hx hb d_Packer_threshold_8 ?_
  refine lv_aload_n hx hb d_Packer_threshold_9 rfl (lv_at hl 0 rfl) ?_
  refine hn_get S hE kc_Packer 0 rfl rfl 0 (by decide) mw_75 rfl d_Packer_threshold_10 ?_
  refine lv_isub hx hb d_Packer_threshold_13 ?_
  refine hn_Mmin S hl.1 mw_305 (Nat.le_of_ble_eq_true rfl) (Nat.le_of_ble_eq_true rfl) ⟨Nat.zero_le _, Nat.zero_le _⟩ d_Packer_threshold_14 ?_
  refine hn_Mmax S hl.1 mw_308 (Nat.le_of_ble_eq_true rfl) (Nat.le_of_ble_eq_true rfl) ⟨Nat.zero_le _, Nat.zero_le _⟩ d_Packer_threshold_17 ?_
  obtain rfl := Option.some.inj h
  exact hret H locs ls 20 d_Packer_threshold_20 hE
abbrev rm_Packer_readNumber : Room := { frames := 2, cells := 0, slots := 0, locals := 42 }
theorem cf_Packer_readNumber : hn_CF y_Packer_readNumber b_Packer_readNumber 11 (some .long) 2 := ⟨mw_294, mw_5, by decide, by decide, by decide +kernel⟩
set_option maxHeartbeats 4000000 in
set_option maxRecDepth 100000 in
theorem c_Packer_readNumber (l : Launch) (D : va_G) (cI cZ : ClassId) (tt : Nat → Nat) (h_this h_a1 h_a1_codes : Nat) (sz : Nat) (N_a1_codes : Nat) (n_this_bias : Int32) (n_this_next : Int32) (n_a1_size : Int32) (f_a1_codes : Nat → Int32) (a2 : Int64) (o : Int64 × Int32) (h : P_Packer_readNumber N_a1_codes n_this_bias n_this_next n_a1_size f_a1_codes a2 = some o) : Met l y_Packer_readNumber (hn_w y_Packer_readNumber b_Packer_readNumber 11 (some .long)) rm_Packer_readNumber (hn_Pc D (TY cI cZ) tt [.ref h_this, .ref h_a1, .long a2] sz [(h_this, .inr (3, [.int n_this_bias, .int n_this_next])), (h_a1, .inr (0, [.ref h_a1_codes, .int n_a1_size])), (h_a1_codes, .inl (cI, N_a1_codes, .inl f_a1_codes))]) (hn_Ql D [(h_this, .inr (3, [.int n_this_bias, .int n_this_next])), (h_a1, .inr (0, [.ref h_a1_codes, .int n_a1_size])), (h_a1_codes, .inl (cI, N_a1_codes, .inl f_a1_codes))] sz [(h_this, .inr (3, [.int n_this_bias, .int o.2])), (h_a1, .inr (0, [.ref h_a1_codes, .int n_a1_size])), (h_a1_codes, .inl (cI, N_a1_codes, .inl f_a1_codes))] o.1) 0 0 (va_A [(h_this, .inr (3, [.int n_this_bias, .int n_this_next])), (h_a1, .inr (0, [.ref h_a1_codes, .int n_a1_size])), (h_a1_codes, .inl (cI, N_a1_codes, .inl f_a1_codes))] sz) := by
  refine hn_ofWl (own := R_Packer) (by decide) rfl (Nat.le_of_ble_eq_true rfl) ?_
  intro p e s m args below meth c A H locs ls Q S hE hl hret
  have hx := S.1
  have hb := S.2.1
  have hown := S.2.2.2.1
  have hl : lv_has ls 11 [(0, .ref h_this), (1, .ref h_a1), (2, .long a2)] := hl
  have hL9 : ∀ (kf : Nat) (v4 : Int64) (v6 : Int64) (v8 : Int32) (n_this_next : Int32) (H : Heap) (locs : List Loc) (ls : Array Slot), hn_E D (TY cI cZ) tt A s H locs [(h_this, .inr (3, [.int n_this_bias, .int n_this_next])), (h_a1, .inr (0, [.ref h_a1_codes, .int n_a1_size])), (h_a1_codes, .inl (cI, N_a1_codes, .inl f_a1_codes))] → lv_has ls 11 [(0, .ref h_this), (1, .ref h_a1), (4, .long v4), (6, .long v6), (8, .int v8)] → fl4 (P_Packer_readNumber_9 N_a1_codes n_this_bias n_a1_size f_a1_codes) kf v4 v6 v8 n_this_next = some o → W p l e rm_Packer_readNumber s m args below meth c H locs 0 0 Q (F0 m 9 ls []) := by
    intro kf
    induction kf with
    | zero => intro v4 v6 v8 n_this_next H locs ls hE hl h; exact no_s h
    | succ kf ih =>
      intro v4 v6 v8 n_this_next H locs ls hE hl h
      have h : P_Packer_readNumber_9 N_a1_codes n_this_bias n_a1_size f_a1_codes (fl4 (P_Packer_readNumber_9 N_a1_codes n_this_bias n_a1_size f_a1_codes) kf) v4 v6 v8 n_this_next = some o := h
      generalize fl4 (P_Packer_readNumber_9 N_a1_codes n_this_bias n_a1_size f_a1_codes) kf = k9 at ih h
      have hk9 := ih
      unfold P_Packer_readNumber_9 at h
      refine lv_iload hx hb d_Packer_readNumber_9 (lv_at hl 4 rfl) ?_
      refine lv_bipush (v := 100) hx hb d_Packer_readNumber_11 (by decide) ?_
      refine lv_icmp_ge (tgt := 132) hx hb d_Packer_readNumber_13 (by decide) (fun hc => ?_) (fun hc => ?_)
      · have h := ite_t hc h
        refine lv_ldc2 (v := -1) hx hb hown (S.2.2.2.2 _ mw_300) d_Packer_readNumber_132 ?_
        obtain rfl := Option.some.inj h
        exact hret H locs ls 135 d_Packer_readNumber_135 hE
      · have h := ite_f hc h
        refine lv_aload_n hx hb d_Packer_readNumber_16 rfl (lv_at hl 0 rfl) ?_
        refine hn_get S hE kc_Packer 0 rfl rfl 1 (by decide) mw_76 rfl d_Packer_readNumber_17 ?_
        refine lv_aload_n hx hb d_Packer_readNumber_20 rfl (lv_at hl 1 rfl) ?_
        obtain ⟨x21, hc21, h⟩ := bd_s h
        have hM := (c_Row_size l D cI cZ tt h_a1 h_a1_codes H.size N_a1_codes n_a1_size f_a1_codes x21 hc21)
        refine hn_ci hE (hn_runV (As := []) (rest := [.int n_this_next]) S hE hM cf_Row_size mw_287 mw_149 mw_150 ⟨rfl, rfl⟩ ⟨Nat.le_of_ble_eq_true rfl, Nat.le_of_ble_eq_true rfl⟩ [1, 2] rfl rfl rfl rfl rfl rfl hl.1 (lv_room (Nat.le_of_ble_eq_true rfl)) d_Packer_readNumber_21 ⟨Nat.zero_le _, Nat.zero_le _⟩) [1, 2] rfl rfl (fun H locs hE => ?_)
        have hE : hn_E D (TY cI cZ) tt A s H locs [(h_this, .inr (3, [.int n_this_bias, .int n_this_next])), (h_a1, .inr (0, [.ref h_a1_codes, .int n_a1_size])), (h_a1_codes, .inl (cI, N_a1_codes, .inl f_a1_codes))] := hE
        refine lv_icmp_ge (tgt := 132) hx hb d_Packer_readNumber_24 (by decide) (fun hc => ?_) (fun hc => ?_)
        · have h := ite_t hc h
          refine lv_ldc2 (v := -1) hx hb hown (S.2.2.2.2 _ mw_300) d_Packer_readNumber_132 ?_
          obtain rfl := Option.some.inj h
          exact hret H locs ls 135 d_Packer_readNumber_135 hE
        · have h := ite_f hc h
          refine lv_aload_n hx hb d_Packer_readNumber_27 rfl (lv_at hl 1 rfl) ?_
          refine lv_aload_n hx hb d_Packer_readNumber_28 rfl (lv_at hl 0 rfl) ?_
          refine hn_get S hE kc_Packer 0 rfl rfl 1 (by decide) mw_76 rfl d_Packer_readNumber_29 ?_
          obtain ⟨x32, hc32, h⟩ := bd_s h
          have hM := (c_Row_get l D cI cZ tt h_a1 h_a1_codes H.size N_a1_codes n_a1_size f_a1_codes n_this_next x32 hc32)
          refine hn_ci hE (hn_runV (As := [.int n_this_next]) (rest := []) S hE hM cf_Row_get mw_288 mw_169 mw_170 ⟨rfl, rfl⟩ ⟨Nat.le_of_ble_eq_true rfl, Nat.le_of_ble_eq_true rfl⟩ [1, 2] rfl rfl rfl rfl rfl rfl hl.1 (lv_room (Nat.le_of_ble_eq_true rfl)) d_Packer_readNumber_32 ⟨Nat.zero_le _, Nat.zero_le _⟩) [1, 2] rfl rfl (fun H locs hE => ?_)
          have hE : hn_E D (TY cI cZ) tt A s H locs [(h_this, .inr (3, [.int n_this_bias, .int n_this_next])), (h_a1, .inr (0, [.ref h_a1_codes, .int n_a1_size])), (h_a1_codes, .inl (cI, N_a1_codes, .inl f_a1_codes))] := hE
          obtain ⟨x35, hc35, h⟩ := bd_s h
          have hM := (c_Packer_digitOfCode l D cI cZ tt H.size x32 x35 hc35)
          refine hn_ci hE (hn_runS (As := [.int x32]) (rest := []) S hE hM cf_Packer_digitOfCode mw_295 mw_296 ⟨rfl, rfl⟩ ⟨Nat.le_of_ble_eq_true rfl, Nat.le_of_ble_eq_true rfl⟩ [] rfl rfl rfl rfl hl.1 (lv_room (Nat.le_of_ble_eq_true rfl)) d_Packer_readNumber_35 ⟨Nat.zero_le _, Nat.zero_le _⟩) [] rfl rfl (fun H locs hE => ?_)
          have hE : hn_E D (TY cI cZ) tt A s H locs [(h_this, .inr (3, [.int n_this_bias, .int n_this_next])), (h_a1, .inr (0, [.ref h_a1_codes, .int n_a1_size])), (h_a1_codes, .inl (cI, N_a1_codes, .inl f_a1_codes))] := hE
          refine lv_istore (lv' := [(9, .int x35), (0, .ref h_this), (1, .ref h_a1), (4, .long v4), (6, .long v6), (8, .int v8)]) hx hb d_Packer_readNumber_38 hl (by decide) rfl (fun ls hl => ?_)
          refine lv_aload_n hx hb d_Packer_readNumber_40 rfl (lv_at hl 1 rfl) ?_
          refine lv_dup hx hb d_Packer_readNumber_41 rfl ?_
          refine hn_get S hE kc_Packer 0 rfl rfl 1 (by decide) mw_76 rfl d_Packer_readNumber_42 ?_
          refine lv_iconst (v := 1) hx hb d_Packer_readNumber_45 (by decide) ?_
          refine lv_iadd hx hb d_Packer_readNumber_46 ?_
          refine hn_put (tv := .int) S hE kc_Packer t_Packer_ok n_Packer 0 rfl rfl 1 (by decide) mw_76 rfl (by decide +kernel) rfl rfl (Nat.le_of_ble_eq_true rfl) d_Packer_readNumber_47 (fun H locs hE => ?_)
          have hE : hn_E D (TY cI cZ) tt A s H locs [(h_this, .inr (3, [.int n_this_bias, .int (n_this_next + (1 : Int32))])), (h_a1, .inr (0, [.ref h_a1_codes, .int n_a1_size])), (h_a1_codes, .inl (cI, N_a1_codes, .inl f_a1_codes))] := hE
          refine lv_iload hx hb d_Packer_readNumber_50 (lv_at hl 0 rfl) ?_
          refine lv_iconst (v := -1) hx hb d_Packer_readNumber_52 (by decide) ?_
          refine lv_icmp_ne (tgt := 60) hx hb d_Packer_readNumber_53 (by decide) (fun hc => ?_) (fun hc => ?_)
          · have h := ite_f hc h
            refine lv_lload hx hb d_Packer_readNumber_60 (lv_at hl 3 rfl) ?_
            refine lv_iload hx hb d_Packer_readNumber_62 (lv_at hl 0 rfl) ?_
            refine lv_i2l hx hb d_Packer_readNumber_64 rfl ?_
            refine lv_lload hx hb d_Packer_readNumber_65 (lv_at hl 4 rfl) ?_
            refine lv_lmul hx hb d_Packer_readNumber_67 ?_
            refine lv_ladd hx hb d_Packer_readNumber_68 ?_
            refine lv_lstore (lv' := [(4, .long (v4 + ((x35).toInt64 * v6))), (9, .int x35), (0, .ref h_this), (1, .ref h_a1), (6, .long v6), (8, .int v8)]) hx hb d_Packer_readNumber_69 hl (by decide) rfl (fun ls hl => ?_)
            refine lv_aload_n hx hb d_Packer_readNumber_71 rfl (lv_at hl 2 rfl) ?_
            refine lv_iload hx hb d_Packer_readNumber_72 (lv_at hl 5 rfl) ?_
            obtain ⟨x74, hc74, h⟩ := bd_s h
            have hM := (c_Packer_threshold l D cI cZ tt h_this H.size n_this_bias (n_this_next + (1 : Int32)) v8 x74 hc74)
            refine hn_ci hE (hn_runV (As := [.int v8]) (rest := []) S hE hM cf_Packer_threshold mw_301 mw_303 ms_10 ⟨rfl, rfl⟩ ⟨Nat.le_of_ble_eq_true rfl, Nat.le_of_ble_eq_true rfl⟩ [0] rfl rfl rfl rfl rfl rfl hl.1 (lv_room (Nat.le_of_ble_eq_true rfl)) d_Packer_readNumber_74 ⟨Nat.zero_le _, Nat.zero_le _⟩) [0] rfl rfl (fun H locs hE => ?_)
            have hE : hn_E D (TY cI cZ) tt A s H locs [(h_this, .inr (3, [.int n_this_bias, .int (n_this_next + (1 : Int32))])), (h_a1, .inr (0, [.ref h_a1_codes, .int n_a1_size])), (h_a1_codes, .inl (cI, N_a1_codes, .inl f_a1_codes))] := hE
            refine lv_istore (lv' := [(10, .int x74), (4, .long (v4 + ((x35).toInt64 * v6))), (9, .int x35), (0, .ref h_this), (1, .ref h_a1), (6, .long v6), (8, .int v8)]) hx hb d_Packer_readNumber_77 hl (by decide) rfl (fun ls hl => ?_)
            refine lv_lload hx hb d_Packer_readNumber_79 (lv_at hl 1 rfl) ?_
            refine lv_ldc2 (v := 2147483647) hx hb hown (S.2.2.2.2 _ mw_311) d_Packer_readNumber_81 ?_
            refine W.lcmp hx hb d_Packer_readNumber_84 ?_
            refine lv_if_le (tgt := 92) hx hb d_Packer_readNumber_85 (by decide) (fun hc => ?_) (fun hc => ?_)
            · have h := ite_t hc h
              refine lv_iload hx hb d_Packer_readNumber_92 (lv_at hl 2 rfl) ?_
              refine lv_iload hx hb d_Packer_readNumber_94 (lv_at hl 0 rfl) ?_
              refine lv_icmp_ge (tgt := 102) hx hb d_Packer_readNumber_96 (by decide) (fun hc => ?_) (fun hc => ?_)
              · have h := ite_t hc h
                refine lv_lload hx hb d_Packer_readNumber_102 (lv_at hl 5 rfl) ?_
                refine lv_bipush (v := 36) hx hb d_Packer_readNumber_104 (by decide) ?_
                refine lv_iload hx hb d_Packer_readNumber_106 (lv_at hl 0 rfl) ?_
                refine lv_isub hx hb d_Packer_readNumber_108 ?_
                refine lv_i2l hx hb d_Packer_readNumber_109 rfl ?_
                refine lv_lmul hx hb d_Packer_readNumber_110 ?_
                refine lv_lstore (lv' := [(6, .long (v6 * (((36 : Int32) - x74)).toInt64)), (10, .int x74), (4, .long (v4 + ((x35).toInt64 * v6))), (9, .int x35), (0, .ref h_this), (1, .ref h_a1), (8, .int v8)]) hx hb d_Packer_readNumber_111 hl (by decide) rfl (fun ls hl => ?_)
                refine lv_lload hx hb d_Packer_readNumber_113 (lv_at hl 0 rfl) ?_
                refine lv_ldc2 (v := 2147483647) hx hb hown (S.2.2.2.2 _ mw_311) d_Packer_readNumber_115 ?_
                refine W.lcmp hx hb d_Packer_readNumber_118 ?_
                refine lv_if_le (tgt := 126) hx hb d_Packer_readNumber_119 (by decide) (fun hc => ?_) (fun hc => ?_)
                · have h := ite_t hc h
                  refine lv_iinc (v := (v8 + (1 : Int32))) (lv' := [(8, .int (v8 + (1 : Int32))), (6, .long (v6 * (((36 : Int32) - x74)).toInt64)), (10, .int x74), (4, .long (v4 + ((x35).toInt64 * v6))), (9, .int x35), (0, .ref h_this), (1, .ref h_a1)]) hx hb d_Packer_readNumber_126 hl (k := 6) rfl rfl (by decide) rfl (fun ls hl => ?_)
                  refine lv_goto (tgt := 9) hx hb d_Packer_readNumber_129 (by decide) ?_
                  exact hk9 (v4 + ((x35).toInt64 * v6)) (v6 * (((36 : Int32) - x74)).toInt64) (v8 + (1 : Int32)) (n_this_next + (1 : Int32)) H locs ls hE (lv_sub hl [5, 6, 3, 1, 0] rfl) h
                · have h := ite_f hc h
                  refine lv_ldc2 (v := -1) hx hb hown (S.2.2.2.2 _ mw_300) d_Packer_readNumber_122 ?_
                  obtain rfl := Option.some.inj h
                  exact hret H locs ls 125 d_Packer_readNumber_125 hE
              · have h := ite_f hc h
                refine lv_lload hx hb d_Packer_readNumber_99 (lv_at hl 1 rfl) ?_
                obtain rfl := Option.some.inj h
                exact hret H locs ls 101 d_Packer_readNumber_101 hE
            · have h := ite_f hc h
              refine lv_ldc2 (v := -1) hx hb hown (S.2.2.2.2 _ mw_300) d_Packer_readNumber_88 ?_
              obtain rfl := Option.some.inj h
              exact hret H locs ls 91 d_Packer_readNumber_91 hE
          · have h := ite_t hc h
            refine lv_ldc2 (v := -1) hx hb hown (S.2.2.2.2 _ mw_300) d_Packer_readNumber_56 ?_
            obtain rfl := Option.some.inj h
            exact hret H locs ls 59 d_Packer_readNumber_59 hE
  unfold P_Packer_readNumber at h
  refine lv_lload_n hx hb d_Packer_readNumber_0 rfl (lv_at hl 2 rfl) ?_
  refine lv_lstore (lv' := [(4, .long a2), (0, .ref h_this), (1, .ref h_a1), (2, .long a2)]) hx hb d_Packer_readNumber_1 hl (by decide) rfl (fun ls hl => ?_)
  refine lv_lconst (v := 1) hx hb d_Packer_readNumber_3 (by decide) ?_
  refine lv_lstore (lv' := [(6, .long (1 : Int64)), (4, .long a2), (0, .ref h_this), (1, .ref h_a1), (2, .long a2)]) hx hb d_Packer_readNumber_4 hl (by decide) rfl (fun ls hl => ?_)
  refine lv_iconst (v := 0) hx hb d_Packer_readNumber_6 (by decide) ?_
  refine lv_istore (lv' := [(8, .int (0 : Int32)), (6, .long (1 : Int64)), (4, .long a2), (0, .ref h_this), (1, .ref h_a1), (2, .long a2)]) hx hb d_Packer_readNumber_7 hl (by decide) rfl (fun ls hl => ?_)
  exact hL9 fu a2 (1 : Int64) (0 : Int32) n_this_next H locs ls hE (lv_sub hl [3, 4, 2, 1, 0] rfl) h
abbrev rm_Packer_adapt : Room := { frames := 1, cells := 0, slots := 0, locals := 21 }
theorem cf_Packer_adapt : hn_CF y_Packer_adapt b_Packer_adapt 7 none 3 := ⟨mw_315, mw_5, by decide, by decide, by decide +kernel⟩
set_option maxHeartbeats 4000000 in
set_option maxRecDepth 100000 in
theorem c_Packer_adapt (l : Launch) (D : va_G) (cI cZ : ClassId) (tt : Nat → Nat) (h_this : Nat) (sz : Nat) (n_this_bias : Int32) (n_this_next : Int32) (a1 : Int32) (a2 : Int32) (a3 : Int32) (o : Int32) (h : P_Packer_adapt a1 a2 a3 = some o) : Met l y_Packer_adapt (hn_w y_Packer_adapt b_Packer_adapt 7 none) rm_Packer_adapt (hn_Pc D (TY cI cZ) tt [.ref h_this, .int a1, .int a2, .int a3] sz [(h_this, .inr (3, [.int n_this_bias, .int n_this_next]))]) (hn_Qv D [(h_this, .inr (3, [.int n_this_bias, .int n_this_next]))] sz [(h_this, .inr (3, [.int o, .int n_this_next]))]) 0 0 (va_A [(h_this, .inr (3, [.int n_this_bias, .int n_this_next]))] sz) := by
  refine hn_ofWv (own := R_Packer) (by decide) rfl (Nat.le_of_ble_eq_true rfl) ?_
  intro p e s m args below meth c A H locs ls Q S hE hl hret
  have hx := S.1
  have hb := S.2.1
  have hown := S.2.2.2.1
  have hl : lv_has ls 7 [(0, .ref h_this), (1, .int a1), (2, .int a2), (3, .int a3)] := hl
  have hj67 : ∀ (v4 : Int32) (v5 : Int32) (n_this_bias : Int32) (H : Heap) (locs : List Loc) (ls : Array Slot), hn_E D (TY cI cZ) tt A s H locs [(h_this, .inr (3, [.int n_this_bias, .int n_this_next]))] → lv_has ls 7 [(0, .ref h_this), (4, .int v4), (5, .int v5)] → P_Packer_adapt_67 v4 v5 = some o → W p l e rm_Packer_adapt s m args below meth c H locs 0 0 Q (F0 m 67 ls []) := by
    intro v4 v5 n_this_bias H locs ls hE hl h
    unfold P_Packer_adapt_67 at h
    refine lv_aload_n hx hb d_Packer_adapt_67 rfl (lv_at hl 0 rfl) ?_
    refine lv_iload hx hb d_Packer_adapt_68 (lv_at hl 2 rfl) ?_
    refine lv_bipush (v := 36) hx hb d_Packer_adapt_70 (by decide) ?_
    refine lv_iload hx hb d_Packer_adapt_72 (lv_at hl 1 rfl) ?_
    refine lv_imul hx hb d_Packer_adapt_74 ?_
    refine lv_iload hx hb d_Packer_adapt_75 (lv_at hl 1 rfl) ?_
    refine lv_bipush (v := 38) hx hb d_Packer_adapt_77 (by decide) ?_
    refine lv_iadd hx hb d_Packer_adapt_79 ?_
    obtain ⟨hz80, h⟩ := gz_s h
    refine lv_idiv hx hb d_Packer_adapt_80 hz80 ?_
    refine lv_iadd hx hb d_Packer_adapt_81 ?_
    refine hn_put (tv := .int) S hE kc_Packer t_Packer_ok n_Packer 0 rfl rfl 0 (by decide) mw_75 rfl (by decide +kernel) rfl rfl (Nat.le_of_ble_eq_true rfl) d_Packer_adapt_82 (fun H locs hE => ?_)
    have hE : hn_E D (TY cI cZ) tt A s H locs [(h_this, .inr (3, [.int (v5 + (((36 : Int32) * v4) / (v4 + (38 : Int32)))), .int n_this_next]))] := hE
    obtain rfl := Option.some.inj h
    exact hret H locs ls 85 d_Packer_adapt_85 hE
  have hL36 : ∀ (n_this_bias : Int32) (kf : Nat) (v4 : Int32) (v5 : Int32) (v6 : Int32) (H : Heap) (locs : List Loc) (ls : Array Slot), hn_E D (TY cI cZ) tt A s H locs [(h_this, .inr (3, [.int n_this_bias, .int n_this_next]))] → lv_has ls 7 [(0, .ref h_this), (4, .int v4), (5, .int v5), (6, .int v6)] → fl3 (P_Packer_adapt_36) kf v4 v5 v6 = some o → W p l e rm_Packer_adapt s m args below meth c H locs 0 0 Q (F0 m 36 ls []) := by
    intro n_this_bias kf
    induction kf with
    | zero => intro v4 v5 v6 H locs ls hE hl h; exact no_s h
    | succ kf ih =>
      intro v4 v5 v6 H locs ls hE hl h
      have h : P_Packer_adapt_36 (fl3 (P_Packer_adapt_36) kf) v4 v5 v6 = some o := h
      generalize fl3 (P_Packer_adapt_36) kf = k36 at ih h
      have hk36 := ih
      unfold P_Packer_adapt_36 at h
      refine lv_iload hx hb d_Packer_adapt_36 (lv_at hl 3 rfl) ?_
      refine lv_bipush (v := 100) hx hb d_Packer_adapt_38 (by decide) ?_
      refine lv_icmp_ge (tgt := 67) hx hb d_Packer_adapt_40 (by decide) (fun hc => ?_) (fun hc => ?_)
      · have h := ite_t hc h
        exact hj67 v4 v5 n_this_bias H locs ls hE (lv_sub hl [0, 1, 2] rfl) h
      · have h := ite_f hc h
        refine lv_iload hx hb d_Packer_adapt_43 (lv_at hl 1 rfl) ?_
        refine lv_sipush (v := 455) hx hb d_Packer_adapt_45 (by decide) ?_
        refine lv_icmp_le (tgt := 67) hx hb d_Packer_adapt_48 (by decide) (fun hc => ?_) (fun hc => ?_)
        · have h := ite_t hc h
          exact hj67 v4 v5 n_this_bias H locs ls hE (lv_sub hl [0, 1, 2] rfl) h
        · have h := ite_f hc h
          refine lv_iload hx hb d_Packer_adapt_51 (lv_at hl 1 rfl) ?_
          refine lv_bipush (v := 35) hx hb d_Packer_adapt_53 (by decide) ?_
          refine lv_idiv hx hb d_Packer_adapt_55 (by decide) ?_
          refine lv_istore (lv' := [(4, .int (v4 / (35 : Int32))), (0, .ref h_this), (5, .int v5), (6, .int v6)]) hx hb d_Packer_adapt_56 hl (by decide) rfl (fun ls hl => ?_)
          refine lv_iinc (v := (v5 + (36 : Int32))) (lv' := [(5, .int (v5 + (36 : Int32))), (4, .int (v4 / (35 : Int32))), (0, .ref h_this), (6, .int v6)]) hx hb d_Packer_adapt_58 hl (k := 2) rfl rfl (by decide) rfl (fun ls hl => ?_)
          refine lv_iinc (v := (v6 + (1 : Int32))) (lv' := [(6, .int (v6 + (1 : Int32))), (5, .int (v5 + (36 : Int32))), (4, .int (v4 / (35 : Int32))), (0, .ref h_this)]) hx hb d_Packer_adapt_61 hl (k := 3) rfl rfl (by decide) rfl (fun ls hl => ?_)
          refine lv_goto (tgt := 36) hx hb d_Packer_adapt_64 (by decide) ?_
          exact hk36 (v4 / (35 : Int32)) (v5 + (36 : Int32)) (v6 + (1 : Int32)) H locs ls hE (lv_sub hl [3, 2, 1, 0] rfl) h
  have hj15 : ∀ (s0 : Int32) (n_this_bias : Int32) (H : Heap) (locs : List Loc) (ls : Array Slot), hn_E D (TY cI cZ) tt A s H locs [(h_this, .inr (3, [.int n_this_bias, .int n_this_next]))] → lv_has ls 7 [(0, .ref h_this), (2, .int a2)] → P_Packer_adapt_15 a2 s0 = some o → W p l e rm_Packer_adapt s m args below meth c H locs 0 0 Q (F0 m 15 ls [.int s0]) := by
    intro s0 n_this_bias H locs ls hE hl h
    unfold P_Packer_adapt_15 at h
    refine lv_istore (lv' := [(4, .int s0), (0, .ref h_this), (2, .int a2)]) hx hb d_Packer_adapt_15 hl (by decide) rfl (fun ls hl => ?_)
    refine lv_iload hx hb d_Packer_adapt_17 (lv_at hl 0 rfl) ?_
    refine lv_iload hx hb d_Packer_adapt_19 (lv_at hl 0 rfl) ?_
    refine lv_iconst (v := 1) hx hb d_Packer_adapt_21 (by decide) ?_
    refine lv_iload_n hx hb d_Packer_adapt_22 rfl (lv_at hl 2 rfl) ?_
    refine hn_Mmax S hl.1 mw_308 (Nat.le_of_ble_eq_true rfl) (Nat.le_of_ble_eq_true rfl) ⟨Nat.zero_le _, Nat.zero_le _⟩ d_Packer_adapt_23 ?_
    obtain ⟨hz26, h⟩ := gz_s h
    refine lv_idiv hx hb d_Packer_adapt_26 hz26 ?_
    refine lv_iadd hx hb d_Packer_adapt_27 ?_
    refine lv_istore (lv' := [(4, .int (s0 + (s0 / (jmax (1 : Int32) a2)))), (0, .ref h_this), (2, .int a2)]) hx hb d_Packer_adapt_28 hl (by decide) rfl (fun ls hl => ?_)
    refine lv_iconst (v := 0) hx hb d_Packer_adapt_30 (by decide) ?_
    refine lv_istore (lv' := [(5, .int (0 : Int32)), (4, .int (s0 + (s0 / (jmax (1 : Int32) a2)))), (0, .ref h_this), (2, .int a2)]) hx hb d_Packer_adapt_31 hl (by decide) rfl (fun ls hl => ?_)
    refine lv_iconst (v := 0) hx hb d_Packer_adapt_33 (by decide) ?_
    refine lv_istore (lv' := [(6, .int (0 : Int32)), (5, .int (0 : Int32)), (4, .int (s0 + (s0 / (jmax (1 : Int32) a2)))), (0, .ref h_this), (2, .int a2)]) hx hb d_Packer_adapt_34 hl (by decide) rfl (fun ls hl => ?_)
    exact hL36 n_this_bias fu (s0 + (s0 / (jmax (1 : Int32) a2))) (0 : Int32) (0 : Int32) H locs ls hE (lv_sub hl [3, 2, 1, 0] rfl) h
  unfold P_Packer_adapt at h
  refine lv_iload_n hx hb d_Packer_adapt_0 rfl (lv_at hl 3 rfl) ?_
  refine lv_if_eq (tgt := 12) hx hb d_Packer_adapt_1 (by decide) (fun hc => ?_) (fun hc => ?_)
  · have h := ite_t hc h
    refine lv_iload_n hx hb d_Packer_adapt_12 rfl (lv_at hl 1 rfl) ?_
    refine lv_iconst (v := 2) hx hb d_Packer_adapt_13 (by decide) ?_
    refine lv_idiv hx hb d_Packer_adapt_14 (by decide) ?_
    exact hj15 (a1 / (2 : Int32)) n_this_bias H locs ls hE (lv_sub hl [0, 2] rfl) h
  · have h := ite_f hc h
    refine lv_iload_n hx hb d_Packer_adapt_4 rfl (lv_at hl 1 rfl) ?_
    refine lv_sipush (v := 700) hx hb d_Packer_adapt_5 (by decide) ?_
    refine lv_idiv hx hb d_Packer_adapt_8 (by decide) ?_
    refine lv_goto (tgt := 15) hx hb d_Packer_adapt_9 (by decide) ?_
    exact hj15 (a1 / (700 : Int32)) n_this_bias H locs ls hE (lv_sub hl [0, 2] rfl) h
abbrev rm_Packer_read : Room := { frames := 3, cells := 0, slots := 0, locals := 72 }
theorem cf_Packer_read : hn_CF y_Packer_read b_Packer_read 12 (some .boolean) 3 := ⟨mw_281, mw_5, by decide, by decide, by decide +kernel⟩
set_option maxHeartbeats 4000000 in
set_option maxRecDepth 100000 in
theorem c_Packer_read (l : Launch) (D : va_G) (cI cZ : ClassId) (tt : Nat → Nat) (h_this h_a1 h_a1_codes h_a3 h_a3_codes : Nat) (sz : Nat) (N_a1_codes : Nat) (N_a3_codes : Nat) (n_this_bias : Int32) (n_this_next : Int32) (n_a1_size : Int32) (f_a1_codes : Nat → Int32) (n_a3_size : Int32) (f_a3_codes : Nat → Int32) (a2 : Int32) (o : Int32 × Int32 × Int32 × Int32 × (Nat → Int32)) (h : P_Packer_read N_a1_codes N_a3_codes n_this_bias n_a1_size f_a1_codes f_a3_codes a2 = some o) : Met l y_Packer_read (hn_w y_Packer_read b_Packer_read 12 (some .boolean)) rm_Packer_read (hn_Pc D (TY cI cZ) tt [.ref h_this, .ref h_a1, .int a2, .ref h_a3] sz [(h_this, .inr (3, [.int n_this_bias, .int n_this_next])), (h_a1, .inr (0, [.ref h_a1_codes, .int n_a1_size])), (h_a1_codes, .inl (cI, N_a1_codes, .inl f_a1_codes)), (h_a3, .inr (0, [.ref h_a3_codes, .int n_a3_size])), (h_a3_codes, .inl (cI, N_a3_codes, .inl f_a3_codes))]) (hn_Qz D [(h_this, .inr (3, [.int n_this_bias, .int n_this_next])), (h_a1, .inr (0, [.ref h_a1_codes, .int n_a1_size])), (h_a1_codes, .inl (cI, N_a1_codes, .inl f_a1_codes)), (h_a3, .inr (0, [.ref h_a3_codes, .int n_a3_size])), (h_a3_codes, .inl (cI, N_a3_codes, .inl f_a3_codes))] sz [(h_this, .inr (3, [.int o.2.1, .int o.2.2.1])), (h_a1, .inr (0, [.ref h_a1_codes, .int n_a1_size])), (h_a1_codes, .inl (cI, N_a1_codes, .inl f_a1_codes)), (h_a3, .inr (0, [.ref h_a3_codes, .int o.2.2.2.1])), (h_a3_codes, .inl (cI, N_a3_codes, .inl o.2.2.2.2))] o.1) 0 0 (va_A [(h_this, .inr (3, [.int n_this_bias, .int n_this_next])), (h_a1, .inr (0, [.ref h_a1_codes, .int n_a1_size])), (h_a1_codes, .inl (cI, N_a1_codes, .inl f_a1_codes)), (h_a3, .inr (0, [.ref h_a3_codes, .int n_a3_size])), (h_a3_codes, .inl (cI, N_a3_codes, .inl f_a3_codes))] sz) := by
  refine hn_ofWz (own := R_Packer) (by decide) rfl (Nat.le_of_ble_eq_true rfl) ?_
  intro p e s m args below meth c A H locs ls Q S hE hl hret
  have hx := S.1
  have hb := S.2.1
  have hown := S.2.2.2.1
  have hl : lv_has ls 12 [(0, .ref h_this), (1, .ref h_a1), (2, .int a2), (3, .ref h_a3)] := hl
  have hL33 : ∀ (kf : Nat) (v4 : Int64) (v6 : Int64) (v8 : Int32) (n_this_bias : Int32) (n_this_next : Int32) (n_a3_size : Int32) (f_a3_codes : Nat → Int32) (H : Heap) (locs : List Loc) (ls : Array Slot), hn_E D (TY cI cZ) tt A s H locs [(h_this, .inr (3, [.int n_this_bias, .int n_this_next])), (h_a1, .inr (0, [.ref h_a1_codes, .int n_a1_size])), (h_a1_codes, .inl (cI, N_a1_codes, .inl f_a1_codes)), (h_a3, .inr (0, [.ref h_a3_codes, .int n_a3_size])), (h_a3_codes, .inl (cI, N_a3_codes, .inl f_a3_codes))] → lv_has ls 12 [(0, .ref h_this), (1, .ref h_a1), (3, .ref h_a3), (4, .long v4), (6, .long v6), (8, .int v8)] → fl7 (P_Packer_read_33 N_a1_codes N_a3_codes n_a1_size f_a1_codes) kf v4 v6 v8 n_this_bias n_this_next n_a3_size f_a3_codes = some o → W p l e rm_Packer_read s m args below meth c H locs 0 0 Q (F0 m 33 ls []) := by
    intro kf
    induction kf with
    | zero => intro v4 v6 v8 n_this_bias n_this_next n_a3_size f_a3_codes H locs ls hE hl h; exact no_s h
    | succ kf ih =>
      intro v4 v6 v8 n_this_bias n_this_next n_a3_size f_a3_codes H locs ls hE hl h
      have h : P_Packer_read_33 N_a1_codes N_a3_codes n_a1_size f_a1_codes (fl7 (P_Packer_read_33 N_a1_codes N_a3_codes n_a1_size f_a1_codes) kf) v4 v6 v8 n_this_bias n_this_next n_a3_size f_a3_codes = some o := h
      generalize fl7 (P_Packer_read_33 N_a1_codes N_a3_codes n_a1_size f_a1_codes) kf = k33 at ih h
      have hk33 := ih
      have hj106 : ∀ (v4 : Int64) (v6 : Int64) (v8 : Int32) (v11 : Int32) (s0 : Int32) (s1 : Int32) (s2 : Int32) (n_this_bias : Int32) (n_this_next : Int32) (n_a3_size : Int32) (f_a3_codes : Nat → Int32) (H : Heap) (locs : List Loc) (ls : Array Slot), hn_E D (TY cI cZ) tt A s H locs [(h_this, .inr (3, [.int n_this_bias, .int n_this_next])), (h_a1, .inr (0, [.ref h_a1_codes, .int n_a1_size])), (h_a1_codes, .inl (cI, N_a1_codes, .inl f_a1_codes)), (h_a3, .inr (0, [.ref h_a3_codes, .int n_a3_size])), (h_a3_codes, .inl (cI, N_a3_codes, .inl f_a3_codes))] → lv_has ls 12 [(0, .ref h_this), (1, .ref h_a1), (3, .ref h_a3), (4, .long v4), (6, .long v6), (8, .int v8), (11, .int v11)] → P_Packer_read_106 N_a3_codes k33 v4 v6 v8 v11 s0 s1 s2 n_this_next n_a3_size f_a3_codes = some o → W p l e rm_Packer_read s m args below meth c H locs 0 0 Q (F0 m 106 ls [.int s0, .int s1, .int s2, .ref h_this]) := by
        intro v4 v6 v8 v11 s0 s1 s2 n_this_bias n_this_next n_a3_size f_a3_codes H locs ls hE hl h
        unfold P_Packer_read_106 at h
        obtain ⟨x106, hc106, h⟩ := bd_s h
        have hM := (c_Packer_adapt l D cI cZ tt h_this H.size n_this_bias n_this_next s2 s1 s0 x106 hc106)
        refine hn_cv hE (hn_runV (As := [.int s2, .int s1, .int s0]) (rest := []) S hE hM cf_Packer_adapt mw_312 mw_314 ms_11 ⟨rfl, rfl⟩ ⟨Nat.le_of_ble_eq_true rfl, Nat.le_of_ble_eq_true rfl⟩ [0] rfl rfl rfl rfl rfl rfl hl.1 (lv_room (Nat.le_of_ble_eq_true rfl)) d_Packer_read_106 ⟨Nat.zero_le _, Nat.zero_le _⟩) [0] rfl rfl (fun H locs hE => ?_)
        have hE : hn_E D (TY cI cZ) tt A s H locs [(h_this, .inr (3, [.int x106, .int n_this_next])), (h_a1, .inr (0, [.ref h_a1_codes, .int n_a1_size])), (h_a1_codes, .inl (cI, N_a1_codes, .inl f_a1_codes)), (h_a3, .inr (0, [.ref h_a3_codes, .int n_a3_size])), (h_a3_codes, .inl (cI, N_a3_codes, .inl f_a3_codes))] := hE
        refine lv_lload hx hb d_Packer_read_109 (lv_at hl 4 rfl) ?_
        refine lv_lload hx hb d_Packer_read_111 (lv_at hl 3 rfl) ?_
        refine lv_iload hx hb d_Packer_read_113 (lv_at hl 6 rfl) ?_
        refine lv_i2l hx hb d_Packer_read_115 rfl ?_
        obtain ⟨hz116, h⟩ := gzl_s h
        refine lv_ldiv hx hb d_Packer_read_116 hz116 ?_
        refine lv_ladd hx hb d_Packer_read_117 ?_
        refine lv_lstore (lv' := [(6, .long (v6 + (v4 / (v11).toInt64))), (0, .ref h_this), (1, .ref h_a1), (3, .ref h_a3), (4, .long v4), (8, .int v8), (11, .int v11)]) hx hb d_Packer_read_118 hl (by decide) rfl (fun ls hl => ?_)
        refine lv_lload hx hb d_Packer_read_120 (lv_at hl 4 rfl) ?_
        refine lv_iload hx hb d_Packer_read_122 (lv_at hl 6 rfl) ?_
        refine lv_i2l hx hb d_Packer_read_124 rfl ?_
        obtain ⟨hz125, h⟩ := gzl_s h
        refine lv_lrem hx hb d_Packer_read_125 hz125 ?_
        refine lv_lstore (lv' := [(4, .long (v4 - v4 / (v11).toInt64 * (v11).toInt64)), (6, .long (v6 + (v4 / (v11).toInt64))), (0, .ref h_this), (1, .ref h_a1), (3, .ref h_a3), (8, .int v8), (11, .int v11)]) hx hb d_Packer_read_126 hl (by decide) rfl (fun ls hl => ?_)
        refine lv_lload hx hb d_Packer_read_128 (lv_at hl 1 rfl) ?_
        refine lv_ldc2 (v := 1114111) hx hb hown (S.2.2.2.2 _ mw_316) d_Packer_read_130 ?_
        refine W.lcmp hx hb d_Packer_read_133 ?_
        refine lv_if_gt (tgt := 144) hx hb d_Packer_read_134 (by decide) (fun hc => ?_) (fun hc => ?_)
        · have h := ite_t hc h
          refine lv_iconst (v := 0) hx hb d_Packer_read_144 (by decide) ?_
          obtain rfl := Option.some.inj h
          exact hret H locs ls 145 d_Packer_read_145 narrow_b0 hE
        · have h := ite_f hc h
          refine lv_iload hx hb d_Packer_read_137 (lv_at hl 6 rfl) ?_
          refine lv_bipush (v := 48) hx hb d_Packer_read_139 (by decide) ?_
          refine lv_icmp_le (tgt := 146) hx hb d_Packer_read_141 (by decide) (fun hc => ?_) (fun hc => ?_)
          · have h := ite_t hc h
            refine lv_aload_n hx hb d_Packer_read_146 rfl (lv_at hl 4 rfl) ?_
            refine lv_lload hx hb d_Packer_read_147 (lv_at hl 0 rfl) ?_
            refine lv_l2i hx hb d_Packer_read_149 rfl ?_
            refine lv_lload hx hb d_Packer_read_150 (lv_at hl 1 rfl) ?_
            refine lv_l2i hx hb d_Packer_read_152 rfl ?_
            obtain ⟨x153, hc153, h⟩ := bd_s h
            have hM := (c_Row_insert l D cI cZ tt h_a3 h_a3_codes H.size N_a3_codes n_a3_size f_a3_codes ((v4 - v4 / (v11).toInt64 * (v11).toInt64)).toInt32 ((v6 + (v4 / (v11).toInt64))).toInt32 x153 hc153)
            refine hn_cz hE (hn_runV (As := [.int ((v4 - v4 / (v11).toInt64 * (v11).toInt64)).toInt32, .int ((v6 + (v4 / (v11).toInt64))).toInt32]) (rest := []) S hE hM cf_Row_insert mw_317 mw_318 mw_319 ⟨rfl, rfl⟩ ⟨Nat.le_of_ble_eq_true rfl, Nat.le_of_ble_eq_true rfl⟩ [3, 4] rfl rfl rfl rfl rfl rfl hl.1 (lv_room (Nat.le_of_ble_eq_true rfl)) d_Packer_read_153 ⟨Nat.zero_le _, Nat.zero_le _⟩) [3, 4] rfl rfl (fun H locs hz153 hE => ?_)
            have hE : hn_E D (TY cI cZ) tt A s H locs [(h_this, .inr (3, [.int x106, .int n_this_next])), (h_a1, .inr (0, [.ref h_a1_codes, .int n_a1_size])), (h_a1_codes, .inl (cI, N_a1_codes, .inl f_a1_codes)), (h_a3, .inr (0, [.ref h_a3_codes, .int x153.2.1])), (h_a3_codes, .inl (cI, N_a3_codes, .inl x153.2.2))] := hE
            refine lv_pop hx hb d_Packer_read_156 rfl ?_
            refine lv_lload hx hb d_Packer_read_157 (lv_at hl 0 rfl) ?_
            refine lv_lconst (v := 1) hx hb d_Packer_read_159 (by decide) ?_
            refine lv_ladd hx hb d_Packer_read_160 ?_
            refine lv_lstore (lv' := [(4, .long ((v4 - v4 / (v11).toInt64 * (v11).toInt64) + (1 : Int64))), (6, .long (v6 + (v4 / (v11).toInt64))), (0, .ref h_this), (1, .ref h_a1), (3, .ref h_a3), (8, .int v8), (11, .int v11)]) hx hb d_Packer_read_161 hl (by decide) rfl (fun ls hl => ?_)
            refine lv_iinc (v := (v8 + (1 : Int32))) (lv' := [(8, .int (v8 + (1 : Int32))), (4, .long ((v4 - v4 / (v11).toInt64 * (v11).toInt64) + (1 : Int64))), (6, .long (v6 + (v4 / (v11).toInt64))), (0, .ref h_this), (1, .ref h_a1), (3, .ref h_a3), (11, .int v11)]) hx hb d_Packer_read_163 hl (k := 5) rfl rfl (by decide) rfl (fun ls hl => ?_)
            refine lv_goto (tgt := 33) hx hb d_Packer_read_166 (by decide) ?_
            exact hk33 ((v4 - v4 / (v11).toInt64 * (v11).toInt64) + (1 : Int64)) (v6 + (v4 / (v11).toInt64)) (v8 + (1 : Int32)) x106 n_this_next x153.2.1 x153.2.2 H locs ls hE (lv_sub hl [3, 4, 5, 1, 2, 0] rfl) h
          · have h := ite_f hc h
            refine lv_iconst (v := 0) hx hb d_Packer_read_144 (by decide) ?_
            obtain rfl := Option.some.inj h
            exact hret H locs ls 145 d_Packer_read_145 narrow_b0 hE
      unfold P_Packer_read_33 at h
      refine lv_iload hx hb d_Packer_read_33 (lv_at hl 5 rfl) ?_
      refine lv_aload_n hx hb d_Packer_read_35 rfl (lv_at hl 1 rfl) ?_
      obtain ⟨x36, hc36, h⟩ := bd_s h
      have hM := (c_Row_size l D cI cZ tt h_a1 h_a1_codes H.size N_a1_codes n_a1_size f_a1_codes x36 hc36)
      refine hn_ci hE (hn_runV (As := []) (rest := [.int v8]) S hE hM cf_Row_size mw_287 mw_149 mw_150 ⟨rfl, rfl⟩ ⟨Nat.le_of_ble_eq_true rfl, Nat.le_of_ble_eq_true rfl⟩ [1, 2] rfl rfl rfl rfl rfl rfl hl.1 (lv_room (Nat.le_of_ble_eq_true rfl)) d_Packer_read_36 ⟨Nat.zero_le _, Nat.zero_le _⟩) [1, 2] rfl rfl (fun H locs hE => ?_)
      have hE : hn_E D (TY cI cZ) tt A s H locs [(h_this, .inr (3, [.int n_this_bias, .int n_this_next])), (h_a1, .inr (0, [.ref h_a1_codes, .int n_a1_size])), (h_a1_codes, .inl (cI, N_a1_codes, .inl f_a1_codes)), (h_a3, .inr (0, [.ref h_a3_codes, .int n_a3_size])), (h_a3_codes, .inl (cI, N_a3_codes, .inl f_a3_codes))] := hE
      refine lv_icmp_ge (tgt := 169) hx hb d_Packer_read_39 (by decide) (fun hc => ?_) (fun hc => ?_)
      · have h := ite_t hc h
        refine lv_iconst (v := 1) hx hb d_Packer_read_169 (by decide) ?_
        obtain rfl := Option.some.inj h
        exact hret H locs ls 170 d_Packer_read_170 narrow_b1 hE
      · have h := ite_f hc h
        refine lv_aload_n hx hb d_Packer_read_42 rfl (lv_at hl 0 rfl) ?_
        refine hn_get S hE kc_Packer 0 rfl rfl 1 (by decide) mw_76 rfl d_Packer_read_43 ?_
        refine lv_aload_n hx hb d_Packer_read_46 rfl (lv_at hl 1 rfl) ?_
        obtain ⟨x47, hc47, h⟩ := bd_s h
        have hM := (c_Row_size l D cI cZ tt h_a1 h_a1_codes H.size N_a1_codes n_a1_size f_a1_codes x47 hc47)
        refine hn_ci hE (hn_runV (As := []) (rest := [.int n_this_next]) S hE hM cf_Row_size mw_287 mw_149 mw_150 ⟨rfl, rfl⟩ ⟨Nat.le_of_ble_eq_true rfl, Nat.le_of_ble_eq_true rfl⟩ [1, 2] rfl rfl rfl rfl rfl rfl hl.1 (lv_room (Nat.le_of_ble_eq_true rfl)) d_Packer_read_47 ⟨Nat.zero_le _, Nat.zero_le _⟩) [1, 2] rfl rfl (fun H locs hE => ?_)
        have hE : hn_E D (TY cI cZ) tt A s H locs [(h_this, .inr (3, [.int n_this_bias, .int n_this_next])), (h_a1, .inr (0, [.ref h_a1_codes, .int n_a1_size])), (h_a1_codes, .inl (cI, N_a1_codes, .inl f_a1_codes)), (h_a3, .inr (0, [.ref h_a3_codes, .int n_a3_size])), (h_a3_codes, .inl (cI, N_a3_codes, .inl f_a3_codes))] := hE
        refine lv_icmp_ge (tgt := 169) hx hb d_Packer_read_50 (by decide) (fun hc => ?_) (fun hc => ?_)
        · have h := ite_t hc h
          refine lv_iconst (v := 1) hx hb d_Packer_read_169 (by decide) ?_
          obtain rfl := Option.some.inj h
          exact hret H locs ls 170 d_Packer_read_170 narrow_b1 hE
        · have h := ite_f hc h
          refine lv_lload hx hb d_Packer_read_53 (lv_at hl 3 rfl) ?_
          refine lv_lstore (lv' := [(9, .long v4), (0, .ref h_this), (1, .ref h_a1), (3, .ref h_a3), (4, .long v4), (6, .long v6), (8, .int v8)]) hx hb d_Packer_read_55 hl (by decide) rfl (fun ls hl => ?_)
          refine lv_aload_n hx hb d_Packer_read_57 rfl (lv_at hl 1 rfl) ?_
          refine lv_aload_n hx hb d_Packer_read_58 rfl (lv_at hl 2 rfl) ?_
          refine lv_lload hx hb d_Packer_read_59 (lv_at hl 0 rfl) ?_
          obtain ⟨x61, hc61, h⟩ := bd_s h
          have hM := (c_Packer_readNumber l D cI cZ tt h_this h_a1 h_a1_codes H.size N_a1_codes n_this_bias n_this_next n_a1_size f_a1_codes v4 x61 hc61)
          refine hn_cl hE (hn_runV (As := [.ref h_a1, .long v4]) (rest := []) S hE hM cf_Packer_readNumber mw_291 mw_293 ms_9 ⟨rfl, rfl⟩ ⟨Nat.le_of_ble_eq_true rfl, Nat.le_of_ble_eq_true rfl⟩ [0, 1, 2] rfl rfl rfl rfl rfl rfl hl.1 (lv_room (Nat.le_of_ble_eq_true rfl)) d_Packer_read_61 ⟨Nat.zero_le _, Nat.zero_le _⟩) [0, 1, 2] rfl rfl (fun H locs hE => ?_)
          have hE : hn_E D (TY cI cZ) tt A s H locs [(h_this, .inr (3, [.int n_this_bias, .int x61.2])), (h_a1, .inr (0, [.ref h_a1_codes, .int n_a1_size])), (h_a1_codes, .inl (cI, N_a1_codes, .inl f_a1_codes)), (h_a3, .inr (0, [.ref h_a3_codes, .int n_a3_size])), (h_a3_codes, .inl (cI, N_a3_codes, .inl f_a3_codes))] := hE
          refine lv_lstore (lv' := [(4, .long x61.1), (9, .long v4), (0, .ref h_this), (1, .ref h_a1), (3, .ref h_a3), (6, .long v6), (8, .int v8)]) hx hb d_Packer_read_64 hl (by decide) rfl (fun ls hl => ?_)
          refine lv_lload hx hb d_Packer_read_66 (lv_at hl 0 rfl) ?_
          refine lv_ldc2 (v := -1) hx hb hown (S.2.2.2.2 _ mw_300) d_Packer_read_68 ?_
          refine W.lcmp hx hb d_Packer_read_71 ?_
          refine lv_if_ne (tgt := 77) hx hb d_Packer_read_72 (by decide) (fun hc => ?_) (fun hc => ?_)
          · have h := ite_f hc h
            refine lv_aload_n hx hb d_Packer_read_77 rfl (lv_at hl 4 rfl) ?_
            obtain ⟨x78, hc78, h⟩ := bd_s h
            have hM := (c_Row_size l D cI cZ tt h_a3 h_a3_codes H.size N_a3_codes n_a3_size f_a3_codes x78 hc78)
            refine hn_ci hE (hn_runV (As := []) (rest := []) S hE hM cf_Row_size mw_287 mw_149 mw_150 ⟨rfl, rfl⟩ ⟨Nat.le_of_ble_eq_true rfl, Nat.le_of_ble_eq_true rfl⟩ [3, 4] rfl rfl rfl rfl rfl rfl hl.1 (lv_room (Nat.le_of_ble_eq_true rfl)) d_Packer_read_78 ⟨Nat.zero_le _, Nat.zero_le _⟩) [3, 4] rfl rfl (fun H locs hE => ?_)
            have hE : hn_E D (TY cI cZ) tt A s H locs [(h_this, .inr (3, [.int n_this_bias, .int x61.2])), (h_a1, .inr (0, [.ref h_a1_codes, .int n_a1_size])), (h_a1_codes, .inl (cI, N_a1_codes, .inl f_a1_codes)), (h_a3, .inr (0, [.ref h_a3_codes, .int n_a3_size])), (h_a3_codes, .inl (cI, N_a3_codes, .inl f_a3_codes))] := hE
            refine lv_iconst (v := 1) hx hb d_Packer_read_81 (by decide) ?_
            refine lv_iadd hx hb d_Packer_read_82 ?_
            refine lv_istore (lv' := [(11, .int (x78 + (1 : Int32))), (4, .long x61.1), (9, .long v4), (0, .ref h_this), (1, .ref h_a1), (3, .ref h_a3), (6, .long v6), (8, .int v8)]) hx hb d_Packer_read_83 hl (by decide) rfl (fun ls hl => ?_)
            refine lv_aload_n hx hb d_Packer_read_85 rfl (lv_at hl 3 rfl) ?_
            refine lv_lload hx hb d_Packer_read_86 (lv_at hl 1 rfl) ?_
            refine lv_lload hx hb d_Packer_read_88 (lv_at hl 2 rfl) ?_
            refine lv_lsub hx hb d_Packer_read_90 ?_
            refine lv_l2i hx hb d_Packer_read_91 rfl ?_
            refine lv_iload hx hb d_Packer_read_92 (lv_at hl 0 rfl) ?_
            refine lv_lload hx hb d_Packer_read_94 (lv_at hl 2 rfl) ?_
            refine lv_lconst (v := 0) hx hb d_Packer_read_96 (by decide) ?_
            refine W.lcmp hx hb d_Packer_read_97 ?_
            refine lv_if_ne (tgt := 105) hx hb d_Packer_read_98 (by decide) (fun hc => ?_) (fun hc => ?_)
            · have h := ite_f hc h
              refine lv_iconst (v := 0) hx hb d_Packer_read_105 (by decide) ?_
              exact hj106 x61.1 v6 v8 (x78 + (1 : Int32)) (0 : Int32) (x78 + (1 : Int32)) ((x61.1 - v4)).toInt32 n_this_bias x61.2 n_a3_size f_a3_codes H locs ls hE (lv_sub hl [3, 4, 5, 1, 6, 7, 0] rfl) h
            · have h := ite_t hc h
              refine lv_iconst (v := 1) hx hb d_Packer_read_101 (by decide) ?_
              refine lv_goto (tgt := 106) hx hb d_Packer_read_102 (by decide) ?_
              exact hj106 x61.1 v6 v8 (x78 + (1 : Int32)) (1 : Int32) (x78 + (1 : Int32)) ((x61.1 - v4)).toInt32 n_this_bias x61.2 n_a3_size f_a3_codes H locs ls hE (lv_sub hl [3, 4, 5, 1, 6, 7, 0] rfl) h
          · have h := ite_t hc h
            refine lv_iconst (v := 0) hx hb d_Packer_read_75 (by decide) ?_
            obtain rfl := Option.some.inj h
            exact hret H locs ls 76 d_Packer_read_76 narrow_b0 hE
  unfold P_Packer_read at h
  refine lv_aload_n hx hb d_Packer_read_0 rfl (lv_at hl 3 rfl) ?_
  obtain ⟨x1, hc1, h⟩ := bd_s h
  have hM := (c_Row_empty l D cI cZ tt h_a3 h_a3_codes H.size N_a3_codes n_a3_size f_a3_codes x1 hc1)
  refine hn_cv hE (hn_runV (As := []) (rest := []) S hE hM cf_Row_empty mw_282 mw_157 mw_158 ⟨rfl, rfl⟩ ⟨Nat.le_of_ble_eq_true rfl, Nat.le_of_ble_eq_true rfl⟩ [3, 4] rfl rfl rfl rfl rfl rfl hl.1 (lv_room (Nat.le_of_ble_eq_true rfl)) d_Packer_read_1 ⟨Nat.zero_le _, Nat.zero_le _⟩) [3, 4] rfl rfl (fun H locs hE => ?_)
  have hE : hn_E D (TY cI cZ) tt A s H locs [(h_this, .inr (3, [.int n_this_bias, .int n_this_next])), (h_a1, .inr (0, [.ref h_a1_codes, .int n_a1_size])), (h_a1_codes, .inl (cI, N_a1_codes, .inl f_a1_codes)), (h_a3, .inr (0, [.ref h_a3_codes, .int x1])), (h_a3_codes, .inl (cI, N_a3_codes, .inl f_a3_codes))] := hE
  refine lv_aload_n hx hb d_Packer_read_4 rfl (lv_at hl 0 rfl) ?_
  refine lv_aload_n hx hb d_Packer_read_5 rfl (lv_at hl 1 rfl) ?_
  refine lv_iload_n hx hb d_Packer_read_6 rfl (lv_at hl 2 rfl) ?_
  refine lv_aload_n hx hb d_Packer_read_7 rfl (lv_at hl 3 rfl) ?_
  obtain ⟨x8, hc8, h⟩ := bd_s h
  have hM := (c_Packer_readBasic l D cI cZ tt h_this h_a1 h_a1_codes h_a3 h_a3_codes H.size N_a1_codes N_a3_codes n_this_bias n_this_next n_a1_size f_a1_codes x1 f_a3_codes a2 x8 hc8)
  refine hn_cz hE (hn_runV (As := [.ref h_a1, .int a2, .ref h_a3]) (rest := []) S hE hM cf_Packer_readBasic mw_283 mw_285 ms_8 ⟨rfl, rfl⟩ ⟨Nat.le_of_ble_eq_true rfl, Nat.le_of_ble_eq_true rfl⟩ [0, 1, 2, 3, 4] rfl rfl rfl rfl rfl rfl hl.1 (lv_room (Nat.le_of_ble_eq_true rfl)) d_Packer_read_8 ⟨Nat.zero_le _, Nat.zero_le _⟩) [0, 1, 2, 3, 4] rfl rfl (fun H locs hz8 hE => ?_)
  have hE : hn_E D (TY cI cZ) tt A s H locs [(h_this, .inr (3, [.int n_this_bias, .int x8.2.1])), (h_a1, .inr (0, [.ref h_a1_codes, .int n_a1_size])), (h_a1_codes, .inl (cI, N_a1_codes, .inl f_a1_codes)), (h_a3, .inr (0, [.ref h_a3_codes, .int x8.2.2.1])), (h_a3_codes, .inl (cI, N_a3_codes, .inl x8.2.2.2))] := hE
  refine lv_if_ne (tgt := 16) hx hb d_Packer_read_11 (by decide) (fun hc => ?_) (fun hc => ?_)
  · have h := ite_f hc h
    refine lv_lconst (v := 0) hx hb d_Packer_read_16 (by decide) ?_
    refine lv_lstore (lv' := [(4, .long (0 : Int64)), (0, .ref h_this), (1, .ref h_a1), (2, .int a2), (3, .ref h_a3)]) hx hb d_Packer_read_17 hl (by decide) rfl (fun ls hl => ?_)
    refine lv_ldc2 (v := 128) hx hb hown (S.2.2.2.2 _ mw_290) d_Packer_read_19 ?_
    refine lv_lstore (lv' := [(6, .long (128 : Int64)), (4, .long (0 : Int64)), (0, .ref h_this), (1, .ref h_a1), (2, .int a2), (3, .ref h_a3)]) hx hb d_Packer_read_22 hl (by decide) rfl (fun ls hl => ?_)
    refine lv_aload_n hx hb d_Packer_read_24 rfl (lv_at hl 2 rfl) ?_
    refine lv_bipush (v := 72) hx hb d_Packer_read_25 (by decide) ?_
    refine hn_put (tv := .int) S hE kc_Packer t_Packer_ok n_Packer 0 rfl rfl 0 (by decide) mw_75 rfl (by decide +kernel) rfl rfl (Nat.le_of_ble_eq_true rfl) d_Packer_read_27 (fun H locs hE => ?_)
    have hE : hn_E D (TY cI cZ) tt A s H locs [(h_this, .inr (3, [.int (72 : Int32), .int x8.2.1])), (h_a1, .inr (0, [.ref h_a1_codes, .int n_a1_size])), (h_a1_codes, .inl (cI, N_a1_codes, .inl f_a1_codes)), (h_a3, .inr (0, [.ref h_a3_codes, .int x8.2.2.1])), (h_a3_codes, .inl (cI, N_a3_codes, .inl x8.2.2.2))] := hE
    refine lv_iconst (v := 0) hx hb d_Packer_read_30 (by decide) ?_
    refine lv_istore (lv' := [(8, .int (0 : Int32)), (6, .long (128 : Int64)), (4, .long (0 : Int64)), (0, .ref h_this), (1, .ref h_a1), (2, .int a2), (3, .ref h_a3)]) hx hb d_Packer_read_31 hl (by decide) rfl (fun ls hl => ?_)
    exact hL33 fu (0 : Int64) (128 : Int64) (0 : Int32) (72 : Int32) x8.2.1 x8.2.2.1 x8.2.2.2 H locs ls hE (lv_sub hl [3, 4, 6, 2, 1, 0] rfl) h
  · have h := ite_t hc h
    refine lv_iconst (v := 0) hx hb d_Packer_read_14 (by decide) ?_
    obtain rfl := Option.some.inj h
    exact hret H locs ls 15 d_Packer_read_15 narrow_b0 hE
abbrev rm_Packer_writeBasic : Room := { frames := 1, cells := 0, slots := 0, locals := 21 }
theorem cf_Packer_writeBasic : hn_CF y_Packer_writeBasic b_Packer_writeBasic 4 (some .int) 2 := ⟨mw_428, mw_5, by decide, by decide, by decide +kernel⟩
set_option maxHeartbeats 4000000 in
set_option maxRecDepth 100000 in
theorem c_Packer_writeBasic (l : Launch) (D : va_G) (cI cZ : ClassId) (tt : Nat → Nat) (h_a1 h_a1_codes h_a2 h_a2_codes : Nat) (sz : Nat) (N_a1_codes : Nat) (N_a2_codes : Nat) (n_a1_size : Int32) (f_a1_codes : Nat → Int32) (n_a2_size : Int32) (f_a2_codes : Nat → Int32) (o : Int32 × Int32 × (Nat → Int32)) (h : P_Packer_writeBasic N_a1_codes N_a2_codes n_a1_size f_a1_codes n_a2_size f_a2_codes = some o) : Met l y_Packer_writeBasic (hn_w y_Packer_writeBasic b_Packer_writeBasic 4 (some .int)) rm_Packer_writeBasic (hn_Pc D (TY cI cZ) tt [.ref h_a1, .ref h_a2] sz [(h_a1, .inr (0, [.ref h_a1_codes, .int n_a1_size])), (h_a1_codes, .inl (cI, N_a1_codes, .inl f_a1_codes)), (h_a2, .inr (0, [.ref h_a2_codes, .int n_a2_size])), (h_a2_codes, .inl (cI, N_a2_codes, .inl f_a2_codes))]) (hn_Qi D [(h_a1, .inr (0, [.ref h_a1_codes, .int n_a1_size])), (h_a1_codes, .inl (cI, N_a1_codes, .inl f_a1_codes)), (h_a2, .inr (0, [.ref h_a2_codes, .int n_a2_size])), (h_a2_codes, .inl (cI, N_a2_codes, .inl f_a2_codes))] sz [(h_a1, .inr (0, [.ref h_a1_codes, .int n_a1_size])), (h_a1_codes, .inl (cI, N_a1_codes, .inl f_a1_codes)), (h_a2, .inr (0, [.ref h_a2_codes, .int o.2.1])), (h_a2_codes, .inl (cI, N_a2_codes, .inl o.2.2))] o.1) 0 0 (va_A [(h_a1, .inr (0, [.ref h_a1_codes, .int n_a1_size])), (h_a1_codes, .inl (cI, N_a1_codes, .inl f_a1_codes)), (h_a2, .inr (0, [.ref h_a2_codes, .int n_a2_size])), (h_a2_codes, .inl (cI, N_a2_codes, .inl f_a2_codes))] sz) := by
  refine hn_ofWi (own := R_Packer) (by decide) rfl (Nat.le_of_ble_eq_true rfl) ?_
  intro p e s m args below meth c A H locs ls Q S hE hl hret
  have hx := S.1
  have hb := S.2.1
  have hown := S.2.2.2.1
  have hl : lv_has ls 4 [(0, .ref h_a1), (1, .ref h_a2)] := hl
  have hL4 : ∀ (kf : Nat) (v2 : Int32) (v3 : Int32) (n_a2_size : Int32) (f_a2_codes : Nat → Int32) (H : Heap) (locs : List Loc) (ls : Array Slot), hn_E D (TY cI cZ) tt A s H locs [(h_a1, .inr (0, [.ref h_a1_codes, .int n_a1_size])), (h_a1_codes, .inl (cI, N_a1_codes, .inl f_a1_codes)), (h_a2, .inr (0, [.ref h_a2_codes, .int n_a2_size])), (h_a2_codes, .inl (cI, N_a2_codes, .inl f_a2_codes))] → lv_has ls 4 [(0, .ref h_a1), (1, .ref h_a2), (2, .int v2), (3, .int v3)] → fl4 (P_Packer_writeBasic_4 N_a1_codes N_a2_codes n_a1_size f_a1_codes) kf v2 v3 n_a2_size f_a2_codes = some o → W p l e rm_Packer_writeBasic s m args below meth c H locs 0 0 Q (F0 m 4 ls []) := by
    intro kf
    induction kf with
    | zero => intro v2 v3 n_a2_size f_a2_codes H locs ls hE hl h; exact no_s h
    | succ kf ih =>
      intro v2 v3 n_a2_size f_a2_codes H locs ls hE hl h
      have h : P_Packer_writeBasic_4 N_a1_codes N_a2_codes n_a1_size f_a1_codes (fl4 (P_Packer_writeBasic_4 N_a1_codes N_a2_codes n_a1_size f_a1_codes) kf) v2 v3 n_a2_size f_a2_codes = some o := h
      generalize fl4 (P_Packer_writeBasic_4 N_a1_codes N_a2_codes n_a1_size f_a1_codes) kf = k4 at ih h
      have hk4 := ih
      unfold P_Packer_writeBasic_4 at h
      refine lv_iload_n hx hb d_Packer_writeBasic_4 rfl (lv_at hl 3 rfl) ?_
      refine lv_aload_n hx hb d_Packer_writeBasic_5 rfl (lv_at hl 0 rfl) ?_
      obtain ⟨x6, hc6, h⟩ := bd_s h
      have hM := (c_Row_size l D cI cZ tt h_a1 h_a1_codes H.size N_a1_codes n_a1_size f_a1_codes x6 hc6)
      refine hn_ci hE (hn_runV (As := []) (rest := [.int v3]) S hE hM cf_Row_size mw_287 mw_149 mw_150 ⟨rfl, rfl⟩ ⟨Nat.le_of_ble_eq_true rfl, Nat.le_of_ble_eq_true rfl⟩ [0, 1] rfl rfl rfl rfl rfl rfl hl.1 (lv_room (Nat.le_of_ble_eq_true rfl)) d_Packer_writeBasic_6 ⟨Nat.zero_le _, Nat.zero_le _⟩) [0, 1] rfl rfl (fun H locs hE => ?_)
      have hE : hn_E D (TY cI cZ) tt A s H locs [(h_a1, .inr (0, [.ref h_a1_codes, .int n_a1_size])), (h_a1_codes, .inl (cI, N_a1_codes, .inl f_a1_codes)), (h_a2, .inr (0, [.ref h_a2_codes, .int n_a2_size])), (h_a2_codes, .inl (cI, N_a2_codes, .inl f_a2_codes))] := hE
      refine lv_icmp_ge (tgt := 42) hx hb d_Packer_writeBasic_9 (by decide) (fun hc => ?_) (fun hc => ?_)
      · have h := ite_t hc h
        refine lv_iload_n hx hb d_Packer_writeBasic_42 rfl (lv_at hl 2 rfl) ?_
        refine lv_if_le (tgt := 53) hx hb d_Packer_writeBasic_43 (by decide) (fun hc => ?_) (fun hc => ?_)
        · have h := ite_t hc h
          refine lv_iload_n hx hb d_Packer_writeBasic_53 rfl (lv_at hl 2 rfl) ?_
          obtain rfl := Option.some.inj h
          exact hret H locs ls 54 d_Packer_writeBasic_54 hE
        · have h := ite_f hc h
          refine lv_aload_n hx hb d_Packer_writeBasic_46 rfl (lv_at hl 1 rfl) ?_
          refine lv_bipush (v := 45) hx hb d_Packer_writeBasic_47 (by decide) ?_
          obtain ⟨x49, hc49, h⟩ := bd_s h
          have hM := (c_Row_add l D cI cZ tt h_a2 h_a2_codes H.size N_a2_codes n_a2_size f_a2_codes (45 : Int32) x49 hc49)
          refine hn_cz hE (hn_runV (As := [.int (45 : Int32)]) (rest := []) S hE hM cf_Row_add mw_289 mw_141 mw_142 ⟨rfl, rfl⟩ ⟨Nat.le_of_ble_eq_true rfl, Nat.le_of_ble_eq_true rfl⟩ [2, 3] rfl rfl rfl rfl rfl rfl hl.1 (lv_room (Nat.le_of_ble_eq_true rfl)) d_Packer_writeBasic_49 ⟨Nat.zero_le _, Nat.zero_le _⟩) [2, 3] rfl rfl (fun H locs hz49 hE => ?_)
          have hE : hn_E D (TY cI cZ) tt A s H locs [(h_a1, .inr (0, [.ref h_a1_codes, .int n_a1_size])), (h_a1_codes, .inl (cI, N_a1_codes, .inl f_a1_codes)), (h_a2, .inr (0, [.ref h_a2_codes, .int x49.2.1])), (h_a2_codes, .inl (cI, N_a2_codes, .inl x49.2.2))] := hE
          refine lv_pop hx hb d_Packer_writeBasic_52 rfl ?_
          refine lv_iload_n hx hb d_Packer_writeBasic_53 rfl (lv_at hl 2 rfl) ?_
          obtain rfl := Option.some.inj h
          exact hret H locs ls 54 d_Packer_writeBasic_54 hE
      · have h := ite_f hc h
        refine lv_aload_n hx hb d_Packer_writeBasic_12 rfl (lv_at hl 0 rfl) ?_
        refine lv_iload_n hx hb d_Packer_writeBasic_13 rfl (lv_at hl 3 rfl) ?_
        obtain ⟨x14, hc14, h⟩ := bd_s h
        have hM := (c_Row_get l D cI cZ tt h_a1 h_a1_codes H.size N_a1_codes n_a1_size f_a1_codes v3 x14 hc14)
        refine hn_ci hE (hn_runV (As := [.int v3]) (rest := []) S hE hM cf_Row_get mw_288 mw_169 mw_170 ⟨rfl, rfl⟩ ⟨Nat.le_of_ble_eq_true rfl, Nat.le_of_ble_eq_true rfl⟩ [0, 1] rfl rfl rfl rfl rfl rfl hl.1 (lv_room (Nat.le_of_ble_eq_true rfl)) d_Packer_writeBasic_14 ⟨Nat.zero_le _, Nat.zero_le _⟩) [0, 1] rfl rfl (fun H locs hE => ?_)
        have hE : hn_E D (TY cI cZ) tt A s H locs [(h_a1, .inr (0, [.ref h_a1_codes, .int n_a1_size])), (h_a1_codes, .inl (cI, N_a1_codes, .inl f_a1_codes)), (h_a2, .inr (0, [.ref h_a2_codes, .int n_a2_size])), (h_a2_codes, .inl (cI, N_a2_codes, .inl f_a2_codes))] := hE
        refine lv_sipush (v := 128) hx hb d_Packer_writeBasic_17 (by decide) ?_
        refine lv_icmp_ge (tgt := 36) hx hb d_Packer_writeBasic_20 (by decide) (fun hc => ?_) (fun hc => ?_)
        · have h := ite_t hc h
          refine lv_iinc (v := (v3 + (1 : Int32))) (lv' := [(3, .int (v3 + (1 : Int32))), (0, .ref h_a1), (1, .ref h_a2), (2, .int v2)]) hx hb d_Packer_writeBasic_36 hl (k := 3) rfl rfl (by decide) rfl (fun ls hl => ?_)
          refine lv_goto (tgt := 4) hx hb d_Packer_writeBasic_39 (by decide) ?_
          exact hk4 v2 (v3 + (1 : Int32)) n_a2_size f_a2_codes H locs ls hE (lv_sub hl [1, 2, 3, 0] rfl) h
        · have h := ite_f hc h
          refine lv_aload_n hx hb d_Packer_writeBasic_23 rfl (lv_at hl 1 rfl) ?_
          refine lv_aload_n hx hb d_Packer_writeBasic_24 rfl (lv_at hl 0 rfl) ?_
          refine lv_iload_n hx hb d_Packer_writeBasic_25 rfl (lv_at hl 3 rfl) ?_
          obtain ⟨x26, hc26, h⟩ := bd_s h
          have hM := (c_Row_get l D cI cZ tt h_a1 h_a1_codes H.size N_a1_codes n_a1_size f_a1_codes v3 x26 hc26)
          refine hn_ci hE (hn_runV (As := [.int v3]) (rest := [.ref h_a2]) S hE hM cf_Row_get mw_288 mw_169 mw_170 ⟨rfl, rfl⟩ ⟨Nat.le_of_ble_eq_true rfl, Nat.le_of_ble_eq_true rfl⟩ [0, 1] rfl rfl rfl rfl rfl rfl hl.1 (lv_room (Nat.le_of_ble_eq_true rfl)) d_Packer_writeBasic_26 ⟨Nat.zero_le _, Nat.zero_le _⟩) [0, 1] rfl rfl (fun H locs hE => ?_)
          have hE : hn_E D (TY cI cZ) tt A s H locs [(h_a1, .inr (0, [.ref h_a1_codes, .int n_a1_size])), (h_a1_codes, .inl (cI, N_a1_codes, .inl f_a1_codes)), (h_a2, .inr (0, [.ref h_a2_codes, .int n_a2_size])), (h_a2_codes, .inl (cI, N_a2_codes, .inl f_a2_codes))] := hE
          obtain ⟨x29, hc29, h⟩ := bd_s h
          have hM := (c_Row_add l D cI cZ tt h_a2 h_a2_codes H.size N_a2_codes n_a2_size f_a2_codes x26 x29 hc29)
          refine hn_cz hE (hn_runV (As := [.int x26]) (rest := []) S hE hM cf_Row_add mw_289 mw_141 mw_142 ⟨rfl, rfl⟩ ⟨Nat.le_of_ble_eq_true rfl, Nat.le_of_ble_eq_true rfl⟩ [2, 3] rfl rfl rfl rfl rfl rfl hl.1 (lv_room (Nat.le_of_ble_eq_true rfl)) d_Packer_writeBasic_29 ⟨Nat.zero_le _, Nat.zero_le _⟩) [2, 3] rfl rfl (fun H locs hz29 hE => ?_)
          have hE : hn_E D (TY cI cZ) tt A s H locs [(h_a1, .inr (0, [.ref h_a1_codes, .int n_a1_size])), (h_a1_codes, .inl (cI, N_a1_codes, .inl f_a1_codes)), (h_a2, .inr (0, [.ref h_a2_codes, .int x29.2.1])), (h_a2_codes, .inl (cI, N_a2_codes, .inl x29.2.2))] := hE
          refine lv_pop hx hb d_Packer_writeBasic_32 rfl ?_
          refine lv_iinc (v := (v2 + (1 : Int32))) (lv' := [(2, .int (v2 + (1 : Int32))), (0, .ref h_a1), (1, .ref h_a2), (3, .int v3)]) hx hb d_Packer_writeBasic_33 hl (k := 2) rfl rfl (by decide) rfl (fun ls hl => ?_)
          refine lv_iinc (v := (v3 + (1 : Int32))) (lv' := [(3, .int (v3 + (1 : Int32))), (2, .int (v2 + (1 : Int32))), (0, .ref h_a1), (1, .ref h_a2)]) hx hb d_Packer_writeBasic_36 hl (k := 3) rfl rfl (by decide) rfl (fun ls hl => ?_)
          refine lv_goto (tgt := 4) hx hb d_Packer_writeBasic_39 (by decide) ?_
          exact hk4 (v2 + (1 : Int32)) (v3 + (1 : Int32)) x29.2.1 x29.2.2 H locs ls hE (lv_sub hl [2, 3, 1, 0] rfl) h
  unfold P_Packer_writeBasic at h
  refine lv_iconst (v := 0) hx hb d_Packer_writeBasic_0 (by decide) ?_
  refine lv_istore_n (lv' := [(2, .int (0 : Int32)), (0, .ref h_a1), (1, .ref h_a2)]) hx hb d_Packer_writeBasic_1 rfl hl (by decide) rfl (fun ls hl => ?_)
  refine lv_iconst (v := 0) hx hb d_Packer_writeBasic_2 (by decide) ?_
  refine lv_istore_n (lv' := [(3, .int (0 : Int32)), (2, .int (0 : Int32)), (0, .ref h_a1), (1, .ref h_a2)]) hx hb d_Packer_writeBasic_3 rfl hl (by decide) rfl (fun ls hl => ?_)
  exact hL4 fu (0 : Int32) (0 : Int32) n_a2_size f_a2_codes H locs ls hE (lv_sub hl [2, 3, 1, 0] rfl) h
abbrev rm_Packer_leastFrom : Room := { frames := 1, cells := 0, slots := 0, locals := 21 }
theorem cf_Packer_leastFrom : hn_CF y_Packer_leastFrom b_Packer_leastFrom 4 (some .int) 2 := ⟨mw_431, mw_5, by decide, by decide, by decide +kernel⟩
set_option maxHeartbeats 4000000 in
set_option maxRecDepth 100000 in
theorem c_Packer_leastFrom (l : Launch) (D : va_G) (cI cZ : ClassId) (tt : Nat → Nat) (h_a1 h_a1_codes : Nat) (sz : Nat) (N_a1_codes : Nat) (n_a1_size : Int32) (f_a1_codes : Nat → Int32) (a2 : Int32) (o : Int32) (h : P_Packer_leastFrom N_a1_codes n_a1_size f_a1_codes a2 = some o) : Met l y_Packer_leastFrom (hn_w y_Packer_leastFrom b_Packer_leastFrom 4 (some .int)) rm_Packer_leastFrom (hn_Pc D (TY cI cZ) tt [.ref h_a1, .int a2] sz [(h_a1, .inr (0, [.ref h_a1_codes, .int n_a1_size])), (h_a1_codes, .inl (cI, N_a1_codes, .inl f_a1_codes))]) (hn_Qi D [(h_a1, .inr (0, [.ref h_a1_codes, .int n_a1_size])), (h_a1_codes, .inl (cI, N_a1_codes, .inl f_a1_codes))] sz [(h_a1, .inr (0, [.ref h_a1_codes, .int n_a1_size])), (h_a1_codes, .inl (cI, N_a1_codes, .inl f_a1_codes))] o) 0 0 (va_A [(h_a1, .inr (0, [.ref h_a1_codes, .int n_a1_size])), (h_a1_codes, .inl (cI, N_a1_codes, .inl f_a1_codes))] sz) := by
  refine hn_ofWi (own := R_Packer) (by decide) rfl (Nat.le_of_ble_eq_true rfl) ?_
  intro p e s m args below meth c A H locs ls Q S hE hl hret
  have hx := S.1
  have hb := S.2.1
  have hown := S.2.2.2.1
  have hl : lv_has ls 4 [(0, .ref h_a1), (1, .int a2)] := hl
  have hL5 : ∀ (kf : Nat) (v2 : Int32) (v3 : Int32) (H : Heap) (locs : List Loc) (ls : Array Slot), hn_E D (TY cI cZ) tt A s H locs [(h_a1, .inr (0, [.ref h_a1_codes, .int n_a1_size])), (h_a1_codes, .inl (cI, N_a1_codes, .inl f_a1_codes))] → lv_has ls 4 [(0, .ref h_a1), (1, .int a2), (2, .int v2), (3, .int v3)] → fl2 (P_Packer_leastFrom_5 N_a1_codes n_a1_size f_a1_codes a2) kf v2 v3 = some o → W p l e rm_Packer_leastFrom s m args below meth c H locs 0 0 Q (F0 m 5 ls []) := by
    intro kf
    induction kf with
    | zero => intro v2 v3 H locs ls hE hl h; exact no_s h
    | succ kf ih =>
      intro v2 v3 H locs ls hE hl h
      have h : P_Packer_leastFrom_5 N_a1_codes n_a1_size f_a1_codes a2 (fl2 (P_Packer_leastFrom_5 N_a1_codes n_a1_size f_a1_codes a2) kf) v2 v3 = some o := h
      generalize fl2 (P_Packer_leastFrom_5 N_a1_codes n_a1_size f_a1_codes a2) kf = k5 at ih h
      have hk5 := ih
      unfold P_Packer_leastFrom_5 at h
      refine lv_iload_n hx hb d_Packer_leastFrom_5 rfl (lv_at hl 3 rfl) ?_
      refine lv_aload_n hx hb d_Packer_leastFrom_6 rfl (lv_at hl 0 rfl) ?_
      obtain ⟨x7, hc7, h⟩ := bd_s h
      have hM := (c_Row_size l D cI cZ tt h_a1 h_a1_codes H.size N_a1_codes n_a1_size f_a1_codes x7 hc7)
      refine hn_ci hE (hn_runV (As := []) (rest := [.int v3]) S hE hM cf_Row_size mw_287 mw_149 mw_150 ⟨rfl, rfl⟩ ⟨Nat.le_of_ble_eq_true rfl, Nat.le_of_ble_eq_true rfl⟩ [0, 1] rfl rfl rfl rfl rfl rfl hl.1 (lv_room (Nat.le_of_ble_eq_true rfl)) d_Packer_leastFrom_7 ⟨Nat.zero_le _, Nat.zero_le _⟩) [0, 1] rfl rfl (fun H locs hE => ?_)
      have hE : hn_E D (TY cI cZ) tt A s H locs [(h_a1, .inr (0, [.ref h_a1_codes, .int n_a1_size])), (h_a1_codes, .inl (cI, N_a1_codes, .inl f_a1_codes))] := hE
      refine lv_icmp_ge (tgt := 43) hx hb d_Packer_leastFrom_10 (by decide) (fun hc => ?_) (fun hc => ?_)
      · have h := ite_t hc h
        refine lv_iload_n hx hb d_Packer_leastFrom_43 rfl (lv_at hl 2 rfl) ?_
        obtain rfl := Option.some.inj h
        exact hret H locs ls 44 d_Packer_leastFrom_44 hE
      · have h := ite_f hc h
        refine lv_aload_n hx hb d_Packer_leastFrom_13 rfl (lv_at hl 0 rfl) ?_
        refine lv_iload_n hx hb d_Packer_leastFrom_14 rfl (lv_at hl 3 rfl) ?_
        obtain ⟨x15, hc15, h⟩ := bd_s h
        have hM := (c_Row_get l D cI cZ tt h_a1 h_a1_codes H.size N_a1_codes n_a1_size f_a1_codes v3 x15 hc15)
        refine hn_ci hE (hn_runV (As := [.int v3]) (rest := []) S hE hM cf_Row_get mw_288 mw_169 mw_170 ⟨rfl, rfl⟩ ⟨Nat.le_of_ble_eq_true rfl, Nat.le_of_ble_eq_true rfl⟩ [0, 1] rfl rfl rfl rfl rfl rfl hl.1 (lv_room (Nat.le_of_ble_eq_true rfl)) d_Packer_leastFrom_15 ⟨Nat.zero_le _, Nat.zero_le _⟩) [0, 1] rfl rfl (fun H locs hE => ?_)
        have hE : hn_E D (TY cI cZ) tt A s H locs [(h_a1, .inr (0, [.ref h_a1_codes, .int n_a1_size])), (h_a1_codes, .inl (cI, N_a1_codes, .inl f_a1_codes))] := hE
        refine lv_iload_n hx hb d_Packer_leastFrom_18 rfl (lv_at hl 1 rfl) ?_
        refine lv_icmp_lt (tgt := 37) hx hb d_Packer_leastFrom_19 (by decide) (fun hc => ?_) (fun hc => ?_)
        · have h := ite_t hc h
          refine lv_iinc (v := (v3 + (1 : Int32))) (lv' := [(3, .int (v3 + (1 : Int32))), (0, .ref h_a1), (1, .int a2), (2, .int v2)]) hx hb d_Packer_leastFrom_37 hl (k := 3) rfl rfl (by decide) rfl (fun ls hl => ?_)
          refine lv_goto (tgt := 5) hx hb d_Packer_leastFrom_40 (by decide) ?_
          exact hk5 v2 (v3 + (1 : Int32)) H locs ls hE (lv_sub hl [1, 2, 3, 0] rfl) h
        · have h := ite_f hc h
          refine lv_aload_n hx hb d_Packer_leastFrom_22 rfl (lv_at hl 0 rfl) ?_
          refine lv_iload_n hx hb d_Packer_leastFrom_23 rfl (lv_at hl 3 rfl) ?_
          obtain ⟨x24, hc24, h⟩ := bd_s h
          have hM := (c_Row_get l D cI cZ tt h_a1 h_a1_codes H.size N_a1_codes n_a1_size f_a1_codes v3 x24 hc24)
          refine hn_ci hE (hn_runV (As := [.int v3]) (rest := []) S hE hM cf_Row_get mw_288 mw_169 mw_170 ⟨rfl, rfl⟩ ⟨Nat.le_of_ble_eq_true rfl, Nat.le_of_ble_eq_true rfl⟩ [0, 1] rfl rfl rfl rfl rfl rfl hl.1 (lv_room (Nat.le_of_ble_eq_true rfl)) d_Packer_leastFrom_24 ⟨Nat.zero_le _, Nat.zero_le _⟩) [0, 1] rfl rfl (fun H locs hE => ?_)
          have hE : hn_E D (TY cI cZ) tt A s H locs [(h_a1, .inr (0, [.ref h_a1_codes, .int n_a1_size])), (h_a1_codes, .inl (cI, N_a1_codes, .inl f_a1_codes))] := hE
          refine lv_iload_n hx hb d_Packer_leastFrom_27 rfl (lv_at hl 2 rfl) ?_
          refine lv_icmp_ge (tgt := 37) hx hb d_Packer_leastFrom_28 (by decide) (fun hc => ?_) (fun hc => ?_)
          · have h := ite_t hc h
            refine lv_iinc (v := (v3 + (1 : Int32))) (lv' := [(3, .int (v3 + (1 : Int32))), (0, .ref h_a1), (1, .int a2), (2, .int v2)]) hx hb d_Packer_leastFrom_37 hl (k := 3) rfl rfl (by decide) rfl (fun ls hl => ?_)
            refine lv_goto (tgt := 5) hx hb d_Packer_leastFrom_40 (by decide) ?_
            exact hk5 v2 (v3 + (1 : Int32)) H locs ls hE (lv_sub hl [1, 2, 3, 0] rfl) h
          · have h := ite_f hc h
            refine lv_aload_n hx hb d_Packer_leastFrom_31 rfl (lv_at hl 0 rfl) ?_
            refine lv_iload_n hx hb d_Packer_leastFrom_32 rfl (lv_at hl 3 rfl) ?_
            obtain ⟨x33, hc33, h⟩ := bd_s h
            have hM := (c_Row_get l D cI cZ tt h_a1 h_a1_codes H.size N_a1_codes n_a1_size f_a1_codes v3 x33 hc33)
            refine hn_ci hE (hn_runV (As := [.int v3]) (rest := []) S hE hM cf_Row_get mw_288 mw_169 mw_170 ⟨rfl, rfl⟩ ⟨Nat.le_of_ble_eq_true rfl, Nat.le_of_ble_eq_true rfl⟩ [0, 1] rfl rfl rfl rfl rfl rfl hl.1 (lv_room (Nat.le_of_ble_eq_true rfl)) d_Packer_leastFrom_33 ⟨Nat.zero_le _, Nat.zero_le _⟩) [0, 1] rfl rfl (fun H locs hE => ?_)
            have hE : hn_E D (TY cI cZ) tt A s H locs [(h_a1, .inr (0, [.ref h_a1_codes, .int n_a1_size])), (h_a1_codes, .inl (cI, N_a1_codes, .inl f_a1_codes))] := hE
            refine lv_istore_n (lv' := [(2, .int x33), (0, .ref h_a1), (1, .int a2), (3, .int v3)]) hx hb d_Packer_leastFrom_36 rfl hl (by decide) rfl (fun ls hl => ?_)
            refine lv_iinc (v := (v3 + (1 : Int32))) (lv' := [(3, .int (v3 + (1 : Int32))), (2, .int x33), (0, .ref h_a1), (1, .int a2)]) hx hb d_Packer_leastFrom_37 hl (k := 3) rfl rfl (by decide) rfl (fun ls hl => ?_)
            refine lv_goto (tgt := 5) hx hb d_Packer_leastFrom_40 (by decide) ?_
            exact hk5 x33 (v3 + (1 : Int32)) H locs ls hE (lv_sub hl [2, 3, 1, 0] rfl) h
  unfold P_Packer_leastFrom at h
  refine lv_ldc (v := 1114111) hx hb hown (S.2.2.2.2 _ mw_432) d_Packer_leastFrom_0 ?_
  refine lv_istore_n (lv' := [(2, .int (1114111 : Int32)), (0, .ref h_a1), (1, .int a2)]) hx hb d_Packer_leastFrom_2 rfl hl (by decide) rfl (fun ls hl => ?_)
  refine lv_iconst (v := 0) hx hb d_Packer_leastFrom_3 (by decide) ?_
  refine lv_istore_n (lv' := [(3, .int (0 : Int32)), (2, .int (1114111 : Int32)), (0, .ref h_a1), (1, .int a2)]) hx hb d_Packer_leastFrom_4 rfl hl (by decide) rfl (fun ls hl => ?_)
  exact hL5 fu (1114111 : Int32) (0 : Int32) H locs ls hE (lv_sub hl [2, 3, 1, 0] rfl) h
abbrev rm_Packer_codeOfDigit : Room := { frames := 0, cells := 0, slots := 0, locals := 0 }
theorem cf_Packer_codeOfDigit : hn_CF y_Packer_codeOfDigit b_Packer_codeOfDigit 1 (some .int) 1 := ⟨mw_439, mw_5, by decide, by decide, by decide +kernel⟩
set_option maxHeartbeats 4000000 in
set_option maxRecDepth 100000 in
theorem c_Packer_codeOfDigit (l : Launch) (D : va_G) (cI cZ : ClassId) (tt : Nat → Nat) (sz : Nat) (a1 : Int32) (o : Int32) (h : P_Packer_codeOfDigit a1 = some o) : Met l y_Packer_codeOfDigit (hn_w y_Packer_codeOfDigit b_Packer_codeOfDigit 1 (some .int)) rm_Packer_codeOfDigit (hn_Pc D (TY cI cZ) tt [.int a1] sz []) (hn_Qi D [] sz [] o) 0 0 (va_A [] sz) := by
  refine hn_ofWi (own := R_Packer) (by decide) rfl (Nat.le_of_ble_eq_true rfl) ?_
  intro p e s m args below meth c A H locs ls Q S hE hl hret
  have hx := S.1
  have hb := S.2.1
  have hown := S.2.2.2.1
  have hl : lv_has ls 1 [(0, .int a1)] := hl
  unfold P_Packer_codeOfDigit at h
  refine lv_iload_n hx hb d_Packer_codeOfDigit_0 rfl (lv_at hl 0 rfl) ?_
  refine lv_bipush (v := 26) hx hb d_Packer_codeOfDigit_1 (by decide) ?_
  refine lv_icmp_ge (tgt := 13) hx hb d_Packer_codeOfDigit_3 (by decide) (fun hc => ?_) (fun hc => ?_)
  · have h := ite_t hc h
    refine lv_bipush (v := 48) hx hb d_Packer_codeOfDigit_13 (by decide) ?_
    refine lv_iload_n hx hb d_Packer_codeOfDigit_15 rfl (lv_at hl 0 rfl) ?_
    refine lv_iadd hx hb d_Packer_codeOfDigit_16 ?_
    refine lv_bipush (v := 26) hx hb d_Packer_codeOfDigit_17 (by decide) ?_
    refine lv_isub hx hb d_Packer_codeOfDigit_19 ?_
    obtain rfl := Option.some.inj h
    exact hret H locs ls 20 d_Packer_codeOfDigit_20 hE
  · have h := ite_f hc h
    refine lv_bipush (v := 97) hx hb d_Packer_codeOfDigit_6 (by decide) ?_
    refine lv_iload_n hx hb d_Packer_codeOfDigit_8 rfl (lv_at hl 0 rfl) ?_
    refine lv_iadd hx hb d_Packer_codeOfDigit_9 ?_
    refine lv_goto (tgt := 20) hx hb d_Packer_codeOfDigit_10 (by decide) ?_
    obtain rfl := Option.some.inj h
    exact hret H locs ls 20 d_Packer_codeOfDigit_20 hE
abbrev rm_Packer_writeNumber : Room := { frames := 2, cells := 0, slots := 0, locals := 42 }
theorem cf_Packer_writeNumber : hn_CF y_Packer_writeNumber b_Packer_writeNumber 6 none 2 := ⟨mw_436, mw_5, by decide, by decide, by decide +kernel⟩
set_option maxHeartbeats 4000000 in
set_option maxRecDepth 100000 in
theorem c_Packer_writeNumber (l : Launch) (D : va_G) (cI cZ : ClassId) (tt : Nat → Nat) (h_this h_a2 h_a2_codes : Nat) (sz : Nat) (N_a2_codes : Nat) (n_this_bias : Int32) (n_this_next : Int32) (n_a2_size : Int32) (f_a2_codes : Nat → Int32) (a1 : Int32) (o : Int32 × (Nat → Int32)) (h : P_Packer_writeNumber N_a2_codes n_this_bias n_a2_size f_a2_codes a1 = some o) : Met l y_Packer_writeNumber (hn_w y_Packer_writeNumber b_Packer_writeNumber 6 none) rm_Packer_writeNumber (hn_Pc D (TY cI cZ) tt [.ref h_this, .int a1, .ref h_a2] sz [(h_this, .inr (3, [.int n_this_bias, .int n_this_next])), (h_a2, .inr (0, [.ref h_a2_codes, .int n_a2_size])), (h_a2_codes, .inl (cI, N_a2_codes, .inl f_a2_codes))]) (hn_Qv D [(h_this, .inr (3, [.int n_this_bias, .int n_this_next])), (h_a2, .inr (0, [.ref h_a2_codes, .int n_a2_size])), (h_a2_codes, .inl (cI, N_a2_codes, .inl f_a2_codes))] sz [(h_this, .inr (3, [.int n_this_bias, .int n_this_next])), (h_a2, .inr (0, [.ref h_a2_codes, .int o.1])), (h_a2_codes, .inl (cI, N_a2_codes, .inl o.2))]) 0 0 (va_A [(h_this, .inr (3, [.int n_this_bias, .int n_this_next])), (h_a2, .inr (0, [.ref h_a2_codes, .int n_a2_size])), (h_a2_codes, .inl (cI, N_a2_codes, .inl f_a2_codes))] sz) := by
  refine hn_ofWv (own := R_Packer) (by decide) rfl (Nat.le_of_ble_eq_true rfl) ?_
  intro p e s m args below meth c A H locs ls Q S hE hl hret
  have hx := S.1
  have hb := S.2.1
  have hown := S.2.2.2.1
  have hl : lv_has ls 6 [(0, .ref h_this), (1, .int a1), (2, .ref h_a2)] := hl
  have hj67 : ∀ (v3 : Int32) (n_a2_size : Int32) (f_a2_codes : Nat → Int32) (H : Heap) (locs : List Loc) (ls : Array Slot), hn_E D (TY cI cZ) tt A s H locs [(h_this, .inr (3, [.int n_this_bias, .int n_this_next])), (h_a2, .inr (0, [.ref h_a2_codes, .int n_a2_size])), (h_a2_codes, .inl (cI, N_a2_codes, .inl f_a2_codes))] → lv_has ls 6 [(2, .ref h_a2), (3, .int v3)] → P_Packer_writeNumber_67 N_a2_codes v3 n_a2_size f_a2_codes = some o → W p l e rm_Packer_writeNumber s m args below meth c H locs 0 0 Q (F0 m 67 ls []) := by
    intro v3 n_a2_size f_a2_codes H locs ls hE hl h
    unfold P_Packer_writeNumber_67 at h
    refine lv_aload_n hx hb d_Packer_writeNumber_67 rfl (lv_at hl 0 rfl) ?_
    refine lv_iload_n hx hb d_Packer_writeNumber_68 rfl (lv_at hl 1 rfl) ?_
    obtain ⟨x69, hc69, h⟩ := bd_s h
    have hM := (c_Packer_codeOfDigit l D cI cZ tt H.size v3 x69 hc69)
    refine hn_ci hE (hn_runS (As := [.int v3]) (rest := [.ref h_a2]) S hE hM cf_Packer_codeOfDigit mw_437 mw_438 ⟨rfl, rfl⟩ ⟨Nat.le_of_ble_eq_true rfl, Nat.le_of_ble_eq_true rfl⟩ [] rfl rfl rfl rfl hl.1 (lv_room (Nat.le_of_ble_eq_true rfl)) d_Packer_writeNumber_69 ⟨Nat.zero_le _, Nat.zero_le _⟩) [] rfl rfl (fun H locs hE => ?_)
    have hE : hn_E D (TY cI cZ) tt A s H locs [(h_this, .inr (3, [.int n_this_bias, .int n_this_next])), (h_a2, .inr (0, [.ref h_a2_codes, .int n_a2_size])), (h_a2_codes, .inl (cI, N_a2_codes, .inl f_a2_codes))] := hE
    obtain ⟨x72, hc72, h⟩ := bd_s h
    have hM := (c_Row_add l D cI cZ tt h_a2 h_a2_codes H.size N_a2_codes n_a2_size f_a2_codes x69 x72 hc72)
    refine hn_cz hE (hn_runV (As := [.int x69]) (rest := []) S hE hM cf_Row_add mw_289 mw_141 mw_142 ⟨rfl, rfl⟩ ⟨Nat.le_of_ble_eq_true rfl, Nat.le_of_ble_eq_true rfl⟩ [1, 2] rfl rfl rfl rfl rfl rfl hl.1 (lv_room (Nat.le_of_ble_eq_true rfl)) d_Packer_writeNumber_72 ⟨Nat.zero_le _, Nat.zero_le _⟩) [1, 2] rfl rfl (fun H locs hz72 hE => ?_)
    have hE : hn_E D (TY cI cZ) tt A s H locs [(h_this, .inr (3, [.int n_this_bias, .int n_this_next])), (h_a2, .inr (0, [.ref h_a2_codes, .int x72.2.1])), (h_a2_codes, .inl (cI, N_a2_codes, .inl x72.2.2))] := hE
    refine lv_pop hx hb d_Packer_writeNumber_75 rfl ?_
    obtain rfl := Option.some.inj h
    exact hret H locs ls 76 d_Packer_writeNumber_76 hE
  have hL5 : ∀ (kf : Nat) (v3 : Int32) (v4 : Int32) (n_a2_size : Int32) (f_a2_codes : Nat → Int32) (H : Heap) (locs : List Loc) (ls : Array Slot), hn_E D (TY cI cZ) tt A s H locs [(h_this, .inr (3, [.int n_this_bias, .int n_this_next])), (h_a2, .inr (0, [.ref h_a2_codes, .int n_a2_size])), (h_a2_codes, .inl (cI, N_a2_codes, .inl f_a2_codes))] → lv_has ls 6 [(0, .ref h_this), (2, .ref h_a2), (3, .int v3), (4, .int v4)] → fl4 (P_Packer_writeNumber_5 N_a2_codes n_this_bias) kf v3 v4 n_a2_size f_a2_codes = some o → W p l e rm_Packer_writeNumber s m args below meth c H locs 0 0 Q (F0 m 5 ls []) := by
    intro kf
    induction kf with
    | zero => intro v3 v4 n_a2_size f_a2_codes H locs ls hE hl h; exact no_s h
    | succ kf ih =>
      intro v3 v4 n_a2_size f_a2_codes H locs ls hE hl h
      have h : P_Packer_writeNumber_5 N_a2_codes n_this_bias (fl4 (P_Packer_writeNumber_5 N_a2_codes n_this_bias) kf) v3 v4 n_a2_size f_a2_codes = some o := h
      generalize fl4 (P_Packer_writeNumber_5 N_a2_codes n_this_bias) kf = k5 at ih h
      have hk5 := ih
      unfold P_Packer_writeNumber_5 at h
      refine lv_iload hx hb d_Packer_writeNumber_5 (lv_at hl 3 rfl) ?_
      refine lv_bipush (v := 100) hx hb d_Packer_writeNumber_7 (by decide) ?_
      refine lv_icmp_ge (tgt := 67) hx hb d_Packer_writeNumber_9 (by decide) (fun hc => ?_) (fun hc => ?_)
      · have h := ite_t hc h
        exact hj67 v3 n_a2_size f_a2_codes H locs ls hE (lv_sub hl [1, 2] rfl) h
      · have h := ite_f hc h
        refine lv_aload_n hx hb d_Packer_writeNumber_12 rfl (lv_at hl 0 rfl) ?_
        refine lv_iload hx hb d_Packer_writeNumber_13 (lv_at hl 3 rfl) ?_
        obtain ⟨x15, hc15, h⟩ := bd_s h
        have hM := (c_Packer_threshold l D cI cZ tt h_this H.size n_this_bias n_this_next v4 x15 hc15)
        refine hn_ci hE (hn_runV (As := [.int v4]) (rest := []) S hE hM cf_Packer_threshold mw_301 mw_303 ms_10 ⟨rfl, rfl⟩ ⟨Nat.le_of_ble_eq_true rfl, Nat.le_of_ble_eq_true rfl⟩ [0] rfl rfl rfl rfl rfl rfl hl.1 (lv_room (Nat.le_of_ble_eq_true rfl)) d_Packer_writeNumber_15 ⟨Nat.zero_le _, Nat.zero_le _⟩) [0] rfl rfl (fun H locs hE => ?_)
        have hE : hn_E D (TY cI cZ) tt A s H locs [(h_this, .inr (3, [.int n_this_bias, .int n_this_next])), (h_a2, .inr (0, [.ref h_a2_codes, .int n_a2_size])), (h_a2_codes, .inl (cI, N_a2_codes, .inl f_a2_codes))] := hE
        refine lv_istore (lv' := [(5, .int x15), (0, .ref h_this), (2, .ref h_a2), (3, .int v3), (4, .int v4)]) hx hb d_Packer_writeNumber_18 hl (by decide) rfl (fun ls hl => ?_)
        refine lv_iload_n hx hb d_Packer_writeNumber_20 rfl (lv_at hl 3 rfl) ?_
        refine lv_iload hx hb d_Packer_writeNumber_21 (lv_at hl 0 rfl) ?_
        refine lv_icmp_ge (tgt := 29) hx hb d_Packer_writeNumber_23 (by decide) (fun hc => ?_) (fun hc => ?_)
        · have h := ite_t hc h
          refine lv_aload_n hx hb d_Packer_writeNumber_29 rfl (lv_at hl 2 rfl) ?_
          refine lv_iload hx hb d_Packer_writeNumber_30 (lv_at hl 0 rfl) ?_
          refine lv_iload_n hx hb d_Packer_writeNumber_32 rfl (lv_at hl 3 rfl) ?_
          refine lv_iload hx hb d_Packer_writeNumber_33 (lv_at hl 0 rfl) ?_
          refine lv_isub hx hb d_Packer_writeNumber_35 ?_
          refine lv_bipush (v := 36) hx hb d_Packer_writeNumber_36 (by decide) ?_
          refine lv_iload hx hb d_Packer_writeNumber_38 (lv_at hl 0 rfl) ?_
          refine lv_isub hx hb d_Packer_writeNumber_40 ?_
          obtain ⟨hz41, h⟩ := gz_s h
          refine lv_irem hx hb d_Packer_writeNumber_41 hz41 ?_
          refine lv_iadd hx hb d_Packer_writeNumber_42 ?_
          obtain ⟨x43, hc43, h⟩ := bd_s h
          have hM := (c_Packer_codeOfDigit l D cI cZ tt H.size (x15 + ((v3 - x15) - (v3 - x15) / ((36 : Int32) - x15) * ((36 : Int32) - x15))) x43 hc43)
          refine hn_ci hE (hn_runS (As := [.int (x15 + ((v3 - x15) - (v3 - x15) / ((36 : Int32) - x15) * ((36 : Int32) - x15)))]) (rest := [.ref h_a2]) S hE hM cf_Packer_codeOfDigit mw_437 mw_438 ⟨rfl, rfl⟩ ⟨Nat.le_of_ble_eq_true rfl, Nat.le_of_ble_eq_true rfl⟩ [] rfl rfl rfl rfl hl.1 (lv_room (Nat.le_of_ble_eq_true rfl)) d_Packer_writeNumber_43 ⟨Nat.zero_le _, Nat.zero_le _⟩) [] rfl rfl (fun H locs hE => ?_)
          have hE : hn_E D (TY cI cZ) tt A s H locs [(h_this, .inr (3, [.int n_this_bias, .int n_this_next])), (h_a2, .inr (0, [.ref h_a2_codes, .int n_a2_size])), (h_a2_codes, .inl (cI, N_a2_codes, .inl f_a2_codes))] := hE
          obtain ⟨x46, hc46, h⟩ := bd_s h
          have hM := (c_Row_add l D cI cZ tt h_a2 h_a2_codes H.size N_a2_codes n_a2_size f_a2_codes x43 x46 hc46)
          refine hn_cz hE (hn_runV (As := [.int x43]) (rest := []) S hE hM cf_Row_add mw_289 mw_141 mw_142 ⟨rfl, rfl⟩ ⟨Nat.le_of_ble_eq_true rfl, Nat.le_of_ble_eq_true rfl⟩ [1, 2] rfl rfl rfl rfl rfl rfl hl.1 (lv_room (Nat.le_of_ble_eq_true rfl)) d_Packer_writeNumber_46 ⟨Nat.zero_le _, Nat.zero_le _⟩) [1, 2] rfl rfl (fun H locs hz46 hE => ?_)
          have hE : hn_E D (TY cI cZ) tt A s H locs [(h_this, .inr (3, [.int n_this_bias, .int n_this_next])), (h_a2, .inr (0, [.ref h_a2_codes, .int x46.2.1])), (h_a2_codes, .inl (cI, N_a2_codes, .inl x46.2.2))] := hE
          refine lv_pop hx hb d_Packer_writeNumber_49 rfl ?_
          refine lv_iload_n hx hb d_Packer_writeNumber_50 rfl (lv_at hl 3 rfl) ?_
          refine lv_iload hx hb d_Packer_writeNumber_51 (lv_at hl 0 rfl) ?_
          refine lv_isub hx hb d_Packer_writeNumber_53 ?_
          refine lv_bipush (v := 36) hx hb d_Packer_writeNumber_54 (by decide) ?_
          refine lv_iload hx hb d_Packer_writeNumber_56 (lv_at hl 0 rfl) ?_
          refine lv_isub hx hb d_Packer_writeNumber_58 ?_
          obtain ⟨hz59, h⟩ := gz_s h
          refine lv_idiv hx hb d_Packer_writeNumber_59 hz59 ?_
          refine lv_istore_n (lv' := [(3, .int ((v3 - x15) / ((36 : Int32) - x15))), (5, .int x15), (0, .ref h_this), (2, .ref h_a2), (4, .int v4)]) hx hb d_Packer_writeNumber_60 rfl hl (by decide) rfl (fun ls hl => ?_)
          refine lv_iinc (v := (v4 + (1 : Int32))) (lv' := [(4, .int (v4 + (1 : Int32))), (3, .int ((v3 - x15) / ((36 : Int32) - x15))), (5, .int x15), (0, .ref h_this), (2, .ref h_a2)]) hx hb d_Packer_writeNumber_61 hl (k := 4) rfl rfl (by decide) rfl (fun ls hl => ?_)
          refine lv_goto (tgt := 5) hx hb d_Packer_writeNumber_64 (by decide) ?_
          exact hk5 ((v3 - x15) / ((36 : Int32) - x15)) (v4 + (1 : Int32)) x46.2.1 x46.2.2 H locs ls hE (lv_sub hl [3, 4, 1, 0] rfl) h
        · have h := ite_f hc h
          refine lv_goto (tgt := 67) hx hb d_Packer_writeNumber_26 (by decide) ?_
          exact hj67 v3 n_a2_size f_a2_codes H locs ls hE (lv_sub hl [2, 3] rfl) h
  unfold P_Packer_writeNumber at h
  refine lv_iload_n hx hb d_Packer_writeNumber_0 rfl (lv_at hl 1 rfl) ?_
  refine lv_istore_n (lv' := [(3, .int a1), (0, .ref h_this), (1, .int a1), (2, .ref h_a2)]) hx hb d_Packer_writeNumber_1 rfl hl (by decide) rfl (fun ls hl => ?_)
  refine lv_iconst (v := 0) hx hb d_Packer_writeNumber_2 (by decide) ?_
  refine lv_istore (lv' := [(4, .int (0 : Int32)), (3, .int a1), (0, .ref h_this), (1, .int a1), (2, .ref h_a2)]) hx hb d_Packer_writeNumber_3 hl (by decide) rfl (fun ls hl => ?_)
  exact hL5 fu a1 (0 : Int32) n_a2_size f_a2_codes H locs ls hE (lv_sub hl [2, 4, 1, 0] rfl) h
abbrev rm_Packer_write : Room := { frames := 3, cells := 0, slots := 0, locals := 67 }
theorem cf_Packer_write : hn_CF y_Packer_write b_Packer_write 11 none 2 := ⟨mw_425, mw_5, by decide, by decide, by decide +kernel⟩
set_option maxHeartbeats 4000000 in
set_option maxRecDepth 100000 in
theorem c_Packer_write (l : Launch) (D : va_G) (cI cZ : ClassId) (tt : Nat → Nat) (h_this h_a1 h_a1_codes h_a2 h_a2_codes : Nat) (sz : Nat) (N_a1_codes : Nat) (N_a2_codes : Nat) (n_this_bias : Int32) (n_this_next : Int32) (n_a1_size : Int32) (f_a1_codes : Nat → Int32) (n_a2_size : Int32) (f_a2_codes : Nat → Int32) (o : Int32 × Int32 × (Nat → Int32)) (h : P_Packer_write N_a1_codes N_a2_codes n_a1_size f_a1_codes n_a2_size f_a2_codes = some o) : Met l y_Packer_write (hn_w y_Packer_write b_Packer_write 11 none) rm_Packer_write (hn_Pc D (TY cI cZ) tt [.ref h_this, .ref h_a1, .ref h_a2] sz [(h_this, .inr (3, [.int n_this_bias, .int n_this_next])), (h_a1, .inr (0, [.ref h_a1_codes, .int n_a1_size])), (h_a1_codes, .inl (cI, N_a1_codes, .inl f_a1_codes)), (h_a2, .inr (0, [.ref h_a2_codes, .int n_a2_size])), (h_a2_codes, .inl (cI, N_a2_codes, .inl f_a2_codes))]) (hn_Qv D [(h_this, .inr (3, [.int n_this_bias, .int n_this_next])), (h_a1, .inr (0, [.ref h_a1_codes, .int n_a1_size])), (h_a1_codes, .inl (cI, N_a1_codes, .inl f_a1_codes)), (h_a2, .inr (0, [.ref h_a2_codes, .int n_a2_size])), (h_a2_codes, .inl (cI, N_a2_codes, .inl f_a2_codes))] sz [(h_this, .inr (3, [.int o.1, .int n_this_next])), (h_a1, .inr (0, [.ref h_a1_codes, .int n_a1_size])), (h_a1_codes, .inl (cI, N_a1_codes, .inl f_a1_codes)), (h_a2, .inr (0, [.ref h_a2_codes, .int o.2.1])), (h_a2_codes, .inl (cI, N_a2_codes, .inl o.2.2))]) 0 0 (va_A [(h_this, .inr (3, [.int n_this_bias, .int n_this_next])), (h_a1, .inr (0, [.ref h_a1_codes, .int n_a1_size])), (h_a1_codes, .inl (cI, N_a1_codes, .inl f_a1_codes)), (h_a2, .inr (0, [.ref h_a2_codes, .int n_a2_size])), (h_a2_codes, .inl (cI, N_a2_codes, .inl f_a2_codes))] sz) := by
  refine hn_ofWv (own := R_Packer) (by decide) rfl (Nat.le_of_ble_eq_true rfl) ?_
  intro p e s m args below meth c A H locs ls Q S hE hl hret
  have hx := S.1
  have hb := S.2.1
  have hown := S.2.2.2.1
  have hl : lv_has ls 11 [(0, .ref h_this), (1, .ref h_a1), (2, .ref h_a2)] := hl
  have hL26 : ∀ (v3 : Int32) (kf : Nat) (v4 : Int32) (v5 : Int32) (v6 : Int32) (v7 : Int32) (n_this_bias : Int32) (n_a2_size : Int32) (f_a2_codes : Nat → Int32) (H : Heap) (locs : List Loc) (ls : Array Slot), hn_E D (TY cI cZ) tt A s H locs [(h_this, .inr (3, [.int n_this_bias, .int n_this_next])), (h_a1, .inr (0, [.ref h_a1_codes, .int n_a1_size])), (h_a1_codes, .inl (cI, N_a1_codes, .inl f_a1_codes)), (h_a2, .inr (0, [.ref h_a2_codes, .int n_a2_size])), (h_a2_codes, .inl (cI, N_a2_codes, .inl f_a2_codes))] → lv_has ls 11 [(0, .ref h_this), (1, .ref h_a1), (2, .ref h_a2), (3, .int v3), (4, .int v4), (5, .int v5), (6, .int v6), (7, .int v7)] → fl7 (P_Packer_write_26 N_a1_codes N_a2_codes n_a1_size f_a1_codes v3) kf v4 v5 v6 v7 n_this_bias n_a2_size f_a2_codes = some o → W p l e rm_Packer_write s m args below meth c H locs 0 0 Q (F0 m 26 ls []) := by
    intro v3 kf
    induction kf with
    | zero => intro v4 v5 v6 v7 n_this_bias n_a2_size f_a2_codes H locs ls hE hl h; exact no_s h
    | succ kf ih =>
      intro v4 v5 v6 v7 n_this_bias n_a2_size f_a2_codes H locs ls hE hl h
      have h : P_Packer_write_26 N_a1_codes N_a2_codes n_a1_size f_a1_codes v3 (fl7 (P_Packer_write_26 N_a1_codes N_a2_codes n_a1_size f_a1_codes v3) kf) v4 v5 v6 v7 n_this_bias n_a2_size f_a2_codes = some o := h
      generalize fl7 (P_Packer_write_26 N_a1_codes N_a2_codes n_a1_size f_a1_codes v3) kf = k26 at ih h
      have hk26 := ih
      have hL74 : ∀ (v5 : Int32) (v7 : Int32) (kf : Nat) (v4 : Int32) (v6 : Int32) (v9 : Int32) (n_this_bias : Int32) (n_a2_size : Int32) (f_a2_codes : Nat → Int32) (H : Heap) (locs : List Loc) (ls : Array Slot), hn_E D (TY cI cZ) tt A s H locs [(h_this, .inr (3, [.int n_this_bias, .int n_this_next])), (h_a1, .inr (0, [.ref h_a1_codes, .int n_a1_size])), (h_a1_codes, .inl (cI, N_a1_codes, .inl f_a1_codes)), (h_a2, .inr (0, [.ref h_a2_codes, .int n_a2_size])), (h_a2_codes, .inl (cI, N_a2_codes, .inl f_a2_codes))] → lv_has ls 11 [(0, .ref h_this), (1, .ref h_a1), (2, .ref h_a2), (3, .int v3), (4, .int v4), (5, .int v5), (6, .int v6), (7, .int v7), (9, .int v9)] → fl6 (P_Packer_write_74 N_a1_codes N_a2_codes n_a1_size f_a1_codes v3 k26 v5 v7) kf v4 v6 v9 n_this_bias n_a2_size f_a2_codes = some o → W p l e rm_Packer_write s m args below meth c H locs 0 0 Q (F0 m 74 ls []) := by
        intro v5 v7 kf
        induction kf with
        | zero => intro v4 v6 v9 n_this_bias n_a2_size f_a2_codes H locs ls hE hl h; exact no_s h
        | succ kf ih =>
          intro v4 v6 v9 n_this_bias n_a2_size f_a2_codes H locs ls hE hl h
          have h : P_Packer_write_74 N_a1_codes N_a2_codes n_a1_size f_a1_codes v3 k26 v5 v7 (fl6 (P_Packer_write_74 N_a1_codes N_a2_codes n_a1_size f_a1_codes v3 k26 v5 v7) kf) v4 v6 v9 n_this_bias n_a2_size f_a2_codes = some o := h
          generalize fl6 (P_Packer_write_74 N_a1_codes N_a2_codes n_a1_size f_a1_codes v3 k26 v5 v7) kf = k74 at ih h
          have hk74 := ih
          have hj136 : ∀ (v4 : Int32) (v9 : Int32) (s0 : Int32) (s1 : Int32) (s2 : Int32) (n_this_bias : Int32) (n_a2_size : Int32) (f_a2_codes : Nat → Int32) (H : Heap) (locs : List Loc) (ls : Array Slot), hn_E D (TY cI cZ) tt A s H locs [(h_this, .inr (3, [.int n_this_bias, .int n_this_next])), (h_a1, .inr (0, [.ref h_a1_codes, .int n_a1_size])), (h_a1_codes, .inl (cI, N_a1_codes, .inl f_a1_codes)), (h_a2, .inr (0, [.ref h_a2_codes, .int n_a2_size])), (h_a2_codes, .inl (cI, N_a2_codes, .inl f_a2_codes))] → lv_has ls 11 [(0, .ref h_this), (1, .ref h_a1), (2, .ref h_a2), (3, .int v3), (4, .int v4), (5, .int v5), (7, .int v7), (9, .int v9)] → P_Packer_write_136 k74 v4 v9 s0 s1 s2 n_a2_size f_a2_codes = some o → W p l e rm_Packer_write s m args below meth c H locs 0 0 Q (F0 m 136 ls [.int s0, .int s1, .int s2, .ref h_this]) := by
            intro v4 v9 s0 s1 s2 n_this_bias n_a2_size f_a2_codes H locs ls hE hl h
            unfold P_Packer_write_136 at h
            obtain ⟨x136, hc136, h⟩ := bd_s h
            have hM := (c_Packer_adapt l D cI cZ tt h_this H.size n_this_bias n_this_next s2 s1 s0 x136 hc136)
            refine hn_cv hE (hn_runV (As := [.int s2, .int s1, .int s0]) (rest := []) S hE hM cf_Packer_adapt mw_312 mw_314 ms_11 ⟨rfl, rfl⟩ ⟨Nat.le_of_ble_eq_true rfl, Nat.le_of_ble_eq_true rfl⟩ [0] rfl rfl rfl rfl rfl rfl hl.1 (lv_room (Nat.le_of_ble_eq_true rfl)) d_Packer_write_136 ⟨Nat.zero_le _, Nat.zero_le _⟩) [0] rfl rfl (fun H locs hE => ?_)
            have hE : hn_E D (TY cI cZ) tt A s H locs [(h_this, .inr (3, [.int x136, .int n_this_next])), (h_a1, .inr (0, [.ref h_a1_codes, .int n_a1_size])), (h_a1_codes, .inl (cI, N_a1_codes, .inl f_a1_codes)), (h_a2, .inr (0, [.ref h_a2_codes, .int n_a2_size])), (h_a2_codes, .inl (cI, N_a2_codes, .inl f_a2_codes))] := hE
            refine lv_iconst (v := 0) hx hb d_Packer_write_139 (by decide) ?_
            refine lv_istore (lv' := [(6, .int (0 : Int32)), (0, .ref h_this), (1, .ref h_a1), (2, .ref h_a2), (3, .int v3), (4, .int v4), (5, .int v5), (7, .int v7), (9, .int v9)]) hx hb d_Packer_write_140 hl (by decide) rfl (fun ls hl => ?_)
            refine lv_iinc (v := (v4 + (1 : Int32))) (lv' := [(4, .int (v4 + (1 : Int32))), (6, .int (0 : Int32)), (0, .ref h_this), (1, .ref h_a1), (2, .ref h_a2), (3, .int v3), (5, .int v5), (7, .int v7), (9, .int v9)]) hx hb d_Packer_write_142 hl (k := 5) rfl rfl (by decide) rfl (fun ls hl => ?_)
            refine lv_iinc (v := (v9 + (1 : Int32))) (lv' := [(9, .int (v9 + (1 : Int32))), (4, .int (v4 + (1 : Int32))), (6, .int (0 : Int32)), (0, .ref h_this), (1, .ref h_a1), (2, .ref h_a2), (3, .int v3), (5, .int v5), (7, .int v7)]) hx hb d_Packer_write_145 hl (k := 8) rfl rfl (by decide) rfl (fun ls hl => ?_)
            refine lv_goto (tgt := 74) hx hb d_Packer_write_148 (by decide) ?_
            exact hk74 (v4 + (1 : Int32)) (0 : Int32) (v9 + (1 : Int32)) x136 n_a2_size f_a2_codes H locs ls hE (lv_sub hl [3, 4, 5, 6, 1, 7, 2, 8, 0] rfl) h
          unfold P_Packer_write_74 at h
          refine lv_iload hx hb d_Packer_write_74 (lv_at hl 8 rfl) ?_
          refine lv_aload_n hx hb d_Packer_write_76 rfl (lv_at hl 1 rfl) ?_
          obtain ⟨x77, hc77, h⟩ := bd_s h
          have hM := (c_Row_size l D cI cZ tt h_a1 h_a1_codes H.size N_a1_codes n_a1_size f_a1_codes x77 hc77)
          refine hn_ci hE (hn_runV (As := []) (rest := [.int v9]) S hE hM cf_Row_size mw_287 mw_149 mw_150 ⟨rfl, rfl⟩ ⟨Nat.le_of_ble_eq_true rfl, Nat.le_of_ble_eq_true rfl⟩ [1, 2] rfl rfl rfl rfl rfl rfl hl.1 (lv_room (Nat.le_of_ble_eq_true rfl)) d_Packer_write_77 ⟨Nat.zero_le _, Nat.zero_le _⟩) [1, 2] rfl rfl (fun H locs hE => ?_)
          have hE : hn_E D (TY cI cZ) tt A s H locs [(h_this, .inr (3, [.int n_this_bias, .int n_this_next])), (h_a1, .inr (0, [.ref h_a1_codes, .int n_a1_size])), (h_a1_codes, .inl (cI, N_a1_codes, .inl f_a1_codes)), (h_a2, .inr (0, [.ref h_a2_codes, .int n_a2_size])), (h_a2_codes, .inl (cI, N_a2_codes, .inl f_a2_codes))] := hE
          refine lv_icmp_ge (tgt := 151) hx hb d_Packer_write_80 (by decide) (fun hc => ?_) (fun hc => ?_)
          · have h := ite_t hc h
            refine lv_iinc (v := (v6 + (1 : Int32))) (lv' := [(6, .int (v6 + (1 : Int32))), (0, .ref h_this), (1, .ref h_a1), (2, .ref h_a2), (3, .int v3), (4, .int v4), (5, .int v5), (7, .int v7), (9, .int v9)]) hx hb d_Packer_write_151 hl (k := 6) rfl rfl (by decide) rfl (fun ls hl => ?_)
            refine lv_iinc (v := (v5 + (1 : Int32))) (lv' := [(5, .int (v5 + (1 : Int32))), (6, .int (v6 + (1 : Int32))), (0, .ref h_this), (1, .ref h_a1), (2, .ref h_a2), (3, .int v3), (4, .int v4), (7, .int v7), (9, .int v9)]) hx hb d_Packer_write_154 hl (k := 6) rfl rfl (by decide) rfl (fun ls hl => ?_)
            refine lv_iinc (v := (v7 + (1 : Int32))) (lv' := [(7, .int (v7 + (1 : Int32))), (5, .int (v5 + (1 : Int32))), (6, .int (v6 + (1 : Int32))), (0, .ref h_this), (1, .ref h_a1), (2, .ref h_a2), (3, .int v3), (4, .int v4), (9, .int v9)]) hx hb d_Packer_write_157 hl (k := 7) rfl rfl (by decide) rfl (fun ls hl => ?_)
            refine lv_goto (tgt := 26) hx hb d_Packer_write_160 (by decide) ?_
            exact hk26 v4 (v5 + (1 : Int32)) (v6 + (1 : Int32)) (v7 + (1 : Int32)) n_this_bias n_a2_size f_a2_codes H locs ls hE (lv_sub hl [3, 4, 5, 6, 7, 1, 2, 0] rfl) h
          · have h := ite_f hc h
            refine lv_aload_n hx hb d_Packer_write_83 rfl (lv_at hl 1 rfl) ?_
            refine lv_iload hx hb d_Packer_write_84 (lv_at hl 8 rfl) ?_
            obtain ⟨x86, hc86, h⟩ := bd_s h
            have hM := (c_Row_get l D cI cZ tt h_a1 h_a1_codes H.size N_a1_codes n_a1_size f_a1_codes v9 x86 hc86)
            refine hn_ci hE (hn_runV (As := [.int v9]) (rest := []) S hE hM cf_Row_get mw_288 mw_169 mw_170 ⟨rfl, rfl⟩ ⟨Nat.le_of_ble_eq_true rfl, Nat.le_of_ble_eq_true rfl⟩ [1, 2] rfl rfl rfl rfl rfl rfl hl.1 (lv_room (Nat.le_of_ble_eq_true rfl)) d_Packer_write_86 ⟨Nat.zero_le _, Nat.zero_le _⟩) [1, 2] rfl rfl (fun H locs hE => ?_)
            have hE : hn_E D (TY cI cZ) tt A s H locs [(h_this, .inr (3, [.int n_this_bias, .int n_this_next])), (h_a1, .inr (0, [.ref h_a1_codes, .int n_a1_size])), (h_a1_codes, .inl (cI, N_a1_codes, .inl f_a1_codes)), (h_a2, .inr (0, [.ref h_a2_codes, .int n_a2_size])), (h_a2_codes, .inl (cI, N_a2_codes, .inl f_a2_codes))] := hE
            refine lv_istore (lv' := [(10, .int x86), (0, .ref h_this), (1, .ref h_a1), (2, .ref h_a2), (3, .int v3), (4, .int v4), (5, .int v5), (6, .int v6), (7, .int v7), (9, .int v9)]) hx hb d_Packer_write_89 hl (by decide) rfl (fun ls hl => ?_)
            refine lv_iload hx hb d_Packer_write_91 (lv_at hl 0 rfl) ?_
            refine lv_iload hx hb d_Packer_write_93 (lv_at hl 6 rfl) ?_
            refine lv_icmp_ge (tgt := 104) hx hb d_Packer_write_95 (by decide) (fun hc => ?_) (fun hc => ?_)
            · have h := ite_t hc h
              refine lv_iload hx hb d_Packer_write_104 (lv_at hl 0 rfl) ?_
              refine lv_iload hx hb d_Packer_write_106 (lv_at hl 6 rfl) ?_
              refine lv_icmp_ne (tgt := 145) hx hb d_Packer_write_108 (by decide) (fun hc => ?_) (fun hc => ?_)
              · have h := ite_f hc h
                refine lv_iinc (v := (v9 + (1 : Int32))) (lv' := [(9, .int (v9 + (1 : Int32))), (10, .int x86), (0, .ref h_this), (1, .ref h_a1), (2, .ref h_a2), (3, .int v3), (4, .int v4), (5, .int v5), (6, .int v6), (7, .int v7)]) hx hb d_Packer_write_145 hl (k := 9) rfl rfl (by decide) rfl (fun ls hl => ?_)
                refine lv_goto (tgt := 74) hx hb d_Packer_write_148 (by decide) ?_
                exact hk74 v4 v6 (v9 + (1 : Int32)) n_this_bias n_a2_size f_a2_codes H locs ls hE (lv_sub hl [2, 3, 4, 5, 6, 7, 8, 9, 0] rfl) h
              · have h := ite_t hc h
                refine lv_aload_n hx hb d_Packer_write_111 rfl (lv_at hl 1 rfl) ?_
                refine lv_iload hx hb d_Packer_write_112 (lv_at hl 7 rfl) ?_
                refine lv_aload_n hx hb d_Packer_write_114 rfl (lv_at hl 3 rfl) ?_
                obtain ⟨x115, hc115, h⟩ := bd_s h
                have hM := (c_Packer_writeNumber l D cI cZ tt h_this h_a2 h_a2_codes H.size N_a2_codes n_this_bias n_this_next n_a2_size f_a2_codes v6 x115 hc115)
                refine hn_cv hE (hn_runV (As := [.int v6, .ref h_a2]) (rest := []) S hE hM cf_Packer_writeNumber mw_433 mw_435 ms_15 ⟨rfl, rfl⟩ ⟨Nat.le_of_ble_eq_true rfl, Nat.le_of_ble_eq_true rfl⟩ [0, 3, 4] rfl rfl rfl rfl rfl rfl hl.1 (lv_room (Nat.le_of_ble_eq_true rfl)) d_Packer_write_115 ⟨Nat.zero_le _, Nat.zero_le _⟩) [0, 3, 4] rfl rfl (fun H locs hE => ?_)
                have hE : hn_E D (TY cI cZ) tt A s H locs [(h_this, .inr (3, [.int n_this_bias, .int n_this_next])), (h_a1, .inr (0, [.ref h_a1_codes, .int n_a1_size])), (h_a1_codes, .inl (cI, N_a1_codes, .inl f_a1_codes)), (h_a2, .inr (0, [.ref h_a2_codes, .int x115.1])), (h_a2_codes, .inl (cI, N_a2_codes, .inl x115.2))] := hE
                refine lv_aload_n hx hb d_Packer_write_118 rfl (lv_at hl 1 rfl) ?_
                refine lv_iload hx hb d_Packer_write_119 (lv_at hl 7 rfl) ?_
                refine lv_iload hx hb d_Packer_write_121 (lv_at hl 5 rfl) ?_
                refine lv_iconst (v := 1) hx hb d_Packer_write_123 (by decide) ?_
                refine lv_iadd hx hb d_Packer_write_124 ?_
                refine lv_iload hx hb d_Packer_write_125 (lv_at hl 5 rfl) ?_
                refine lv_iload_n hx hb d_Packer_write_127 rfl (lv_at hl 4 rfl) ?_
                refine lv_icmp_ne (tgt := 135) hx hb d_Packer_write_128 (by decide) (fun hc => ?_) (fun hc => ?_)
                · have h := ite_f hc h
                  refine lv_iconst (v := 0) hx hb d_Packer_write_135 (by decide) ?_
                  exact hj136 v4 v9 (0 : Int32) (v4 + (1 : Int32)) v6 n_this_bias x115.1 x115.2 H locs ls hE (lv_sub hl [1, 2, 3, 4, 5, 6, 8, 9] rfl) h
                · have h := ite_t hc h
                  refine lv_iconst (v := 1) hx hb d_Packer_write_131 (by decide) ?_
                  refine lv_goto (tgt := 136) hx hb d_Packer_write_132 (by decide) ?_
                  exact hj136 v4 v9 (1 : Int32) (v4 + (1 : Int32)) v6 n_this_bias x115.1 x115.2 H locs ls hE (lv_sub hl [1, 2, 3, 4, 5, 6, 8, 9] rfl) h
            · have h := ite_f hc h
              refine lv_iinc (v := (v6 + (1 : Int32))) (lv' := [(6, .int (v6 + (1 : Int32))), (10, .int x86), (0, .ref h_this), (1, .ref h_a1), (2, .ref h_a2), (3, .int v3), (4, .int v4), (5, .int v5), (7, .int v7), (9, .int v9)]) hx hb d_Packer_write_98 hl (k := 7) rfl rfl (by decide) rfl (fun ls hl => ?_)
              refine lv_goto (tgt := 145) hx hb d_Packer_write_101 (by decide) ?_
              refine lv_iinc (v := (v9 + (1 : Int32))) (lv' := [(9, .int (v9 + (1 : Int32))), (6, .int (v6 + (1 : Int32))), (10, .int x86), (0, .ref h_this), (1, .ref h_a1), (2, .ref h_a2), (3, .int v3), (4, .int v4), (5, .int v5), (7, .int v7)]) hx hb d_Packer_write_145 hl (k := 9) rfl rfl (by decide) rfl (fun ls hl => ?_)
              refine lv_goto (tgt := 74) hx hb d_Packer_write_148 (by decide) ?_
              exact hk74 v4 (v6 + (1 : Int32)) (v9 + (1 : Int32)) n_this_bias n_a2_size f_a2_codes H locs ls hE (lv_sub hl [3, 4, 5, 6, 7, 8, 1, 9, 0] rfl) h
      unfold P_Packer_write_26 at h
      refine lv_iload hx hb d_Packer_write_26 (lv_at hl 7 rfl) ?_
      refine lv_aload_n hx hb d_Packer_write_28 rfl (lv_at hl 1 rfl) ?_
      obtain ⟨x29, hc29, h⟩ := bd_s h
      have hM := (c_Row_size l D cI cZ tt h_a1 h_a1_codes H.size N_a1_codes n_a1_size f_a1_codes x29 hc29)
      refine hn_ci hE (hn_runV (As := []) (rest := [.int v7]) S hE hM cf_Row_size mw_287 mw_149 mw_150 ⟨rfl, rfl⟩ ⟨Nat.le_of_ble_eq_true rfl, Nat.le_of_ble_eq_true rfl⟩ [1, 2] rfl rfl rfl rfl rfl rfl hl.1 (lv_room (Nat.le_of_ble_eq_true rfl)) d_Packer_write_29 ⟨Nat.zero_le _, Nat.zero_le _⟩) [1, 2] rfl rfl (fun H locs hE => ?_)
      have hE : hn_E D (TY cI cZ) tt A s H locs [(h_this, .inr (3, [.int n_this_bias, .int n_this_next])), (h_a1, .inr (0, [.ref h_a1_codes, .int n_a1_size])), (h_a1_codes, .inl (cI, N_a1_codes, .inl f_a1_codes)), (h_a2, .inr (0, [.ref h_a2_codes, .int n_a2_size])), (h_a2_codes, .inl (cI, N_a2_codes, .inl f_a2_codes))] := hE
      refine lv_icmp_ge (tgt := 163) hx hb d_Packer_write_32 (by decide) (fun hc => ?_) (fun hc => ?_)
      · have h := ite_t hc h
        obtain rfl := Option.some.inj h
        exact hret H locs ls 163 d_Packer_write_163 hE
      · have h := ite_f hc h
        refine lv_iload hx hb d_Packer_write_35 (lv_at hl 4 rfl) ?_
        refine lv_aload_n hx hb d_Packer_write_37 rfl (lv_at hl 1 rfl) ?_
        obtain ⟨x38, hc38, h⟩ := bd_s h
        have hM := (c_Row_size l D cI cZ tt h_a1 h_a1_codes H.size N_a1_codes n_a1_size f_a1_codes x38 hc38)
        refine hn_ci hE (hn_runV (As := []) (rest := [.int v4]) S hE hM cf_Row_size mw_287 mw_149 mw_150 ⟨rfl, rfl⟩ ⟨Nat.le_of_ble_eq_true rfl, Nat.le_of_ble_eq_true rfl⟩ [1, 2] rfl rfl rfl rfl rfl rfl hl.1 (lv_room (Nat.le_of_ble_eq_true rfl)) d_Packer_write_38 ⟨Nat.zero_le _, Nat.zero_le _⟩) [1, 2] rfl rfl (fun H locs hE => ?_)
        have hE : hn_E D (TY cI cZ) tt A s H locs [(h_this, .inr (3, [.int n_this_bias, .int n_this_next])), (h_a1, .inr (0, [.ref h_a1_codes, .int n_a1_size])), (h_a1_codes, .inl (cI, N_a1_codes, .inl f_a1_codes)), (h_a2, .inr (0, [.ref h_a2_codes, .int n_a2_size])), (h_a2_codes, .inl (cI, N_a2_codes, .inl f_a2_codes))] := hE
        refine lv_icmp_ge (tgt := 163) hx hb d_Packer_write_41 (by decide) (fun hc => ?_) (fun hc => ?_)
        · have h := ite_t hc h
          obtain rfl := Option.some.inj h
          exact hret H locs ls 163 d_Packer_write_163 hE
        · have h := ite_f hc h
          refine lv_aload_n hx hb d_Packer_write_44 rfl (lv_at hl 1 rfl) ?_
          refine lv_iload hx hb d_Packer_write_45 (lv_at hl 5 rfl) ?_
          obtain ⟨x47, hc47, h⟩ := bd_s h
          have hM := (c_Packer_leastFrom l D cI cZ tt h_a1 h_a1_codes H.size N_a1_codes n_a1_size f_a1_codes v5 x47 hc47)
          refine hn_ci hE (hn_runS (As := [.ref h_a1, .int v5]) (rest := []) S hE hM cf_Packer_leastFrom mw_429 mw_430 ⟨rfl, rfl⟩ ⟨Nat.le_of_ble_eq_true rfl, Nat.le_of_ble_eq_true rfl⟩ [1, 2] rfl rfl rfl rfl hl.1 (lv_room (Nat.le_of_ble_eq_true rfl)) d_Packer_write_47 ⟨Nat.zero_le _, Nat.zero_le _⟩) [1, 2] rfl rfl (fun H locs hE => ?_)
          have hE : hn_E D (TY cI cZ) tt A s H locs [(h_this, .inr (3, [.int n_this_bias, .int n_this_next])), (h_a1, .inr (0, [.ref h_a1_codes, .int n_a1_size])), (h_a1_codes, .inl (cI, N_a1_codes, .inl f_a1_codes)), (h_a2, .inr (0, [.ref h_a2_codes, .int n_a2_size])), (h_a2_codes, .inl (cI, N_a2_codes, .inl f_a2_codes))] := hE
          refine lv_istore (lv' := [(8, .int x47), (0, .ref h_this), (1, .ref h_a1), (2, .ref h_a2), (3, .int v3), (4, .int v4), (5, .int v5), (6, .int v6), (7, .int v7)]) hx hb d_Packer_write_50 hl (by decide) rfl (fun ls hl => ?_)
          refine lv_iload hx hb d_Packer_write_52 (lv_at hl 7 rfl) ?_
          refine lv_iload hx hb d_Packer_write_54 (lv_at hl 0 rfl) ?_
          refine lv_iload hx hb d_Packer_write_56 (lv_at hl 6 rfl) ?_
          refine lv_isub hx hb d_Packer_write_58 ?_
          refine lv_iload hx hb d_Packer_write_59 (lv_at hl 5 rfl) ?_
          refine lv_iconst (v := 1) hx hb d_Packer_write_61 (by decide) ?_
          refine lv_iadd hx hb d_Packer_write_62 ?_
          refine lv_imul hx hb d_Packer_write_63 ?_
          refine lv_iadd hx hb d_Packer_write_64 ?_
          refine lv_istore (lv' := [(6, .int (v6 + ((x47 - v5) * (v4 + (1 : Int32))))), (8, .int x47), (0, .ref h_this), (1, .ref h_a1), (2, .ref h_a2), (3, .int v3), (4, .int v4), (5, .int v5), (7, .int v7)]) hx hb d_Packer_write_65 hl (by decide) rfl (fun ls hl => ?_)
          refine lv_iload hx hb d_Packer_write_67 (lv_at hl 1 rfl) ?_
          refine lv_istore (lv' := [(5, .int x47), (6, .int (v6 + ((x47 - v5) * (v4 + (1 : Int32))))), (8, .int x47), (0, .ref h_this), (1, .ref h_a1), (2, .ref h_a2), (3, .int v3), (4, .int v4), (7, .int v7)]) hx hb d_Packer_write_69 hl (by decide) rfl (fun ls hl => ?_)
          refine lv_iconst (v := 0) hx hb d_Packer_write_71 (by decide) ?_
          refine lv_istore (lv' := [(9, .int (0 : Int32)), (5, .int x47), (6, .int (v6 + ((x47 - v5) * (v4 + (1 : Int32))))), (8, .int x47), (0, .ref h_this), (1, .ref h_a1), (2, .ref h_a2), (3, .int v3), (4, .int v4), (7, .int v7)]) hx hb d_Packer_write_72 hl (by decide) rfl (fun ls hl => ?_)
          exact hL74 x47 v7 fu v4 (v6 + ((x47 - v5) * (v4 + (1 : Int32)))) (0 : Int32) n_this_bias n_a2_size f_a2_codes H locs ls hE (lv_sub hl [4, 5, 6, 7, 8, 1, 2, 9, 0] rfl) h
  unfold P_Packer_write at h
  refine lv_aload_n hx hb d_Packer_write_0 rfl (lv_at hl 1 rfl) ?_
  refine lv_aload_n hx hb d_Packer_write_1 rfl (lv_at hl 2 rfl) ?_
  obtain ⟨x2, hc2, h⟩ := bd_s h
  have hM := (c_Packer_writeBasic l D cI cZ tt h_a1 h_a1_codes h_a2 h_a2_codes H.size N_a1_codes N_a2_codes n_a1_size f_a1_codes n_a2_size f_a2_codes x2 hc2)
  refine hn_ci hE (hn_runS (As := [.ref h_a1, .ref h_a2]) (rest := []) S hE hM cf_Packer_writeBasic mw_426 mw_427 ⟨rfl, rfl⟩ ⟨Nat.le_of_ble_eq_true rfl, Nat.le_of_ble_eq_true rfl⟩ [1, 2, 3, 4] rfl rfl rfl rfl hl.1 (lv_room (Nat.le_of_ble_eq_true rfl)) d_Packer_write_2 ⟨Nat.zero_le _, Nat.zero_le _⟩) [1, 2, 3, 4] rfl rfl (fun H locs hE => ?_)
  have hE : hn_E D (TY cI cZ) tt A s H locs [(h_this, .inr (3, [.int n_this_bias, .int n_this_next])), (h_a1, .inr (0, [.ref h_a1_codes, .int n_a1_size])), (h_a1_codes, .inl (cI, N_a1_codes, .inl f_a1_codes)), (h_a2, .inr (0, [.ref h_a2_codes, .int x2.2.1])), (h_a2_codes, .inl (cI, N_a2_codes, .inl x2.2.2))] := hE
  refine lv_istore_n (lv' := [(3, .int x2.1), (0, .ref h_this), (1, .ref h_a1), (2, .ref h_a2)]) hx hb d_Packer_write_5 rfl hl (by decide) rfl (fun ls hl => ?_)
  refine lv_iload_n hx hb d_Packer_write_6 rfl (lv_at hl 0 rfl) ?_
  refine lv_istore (lv' := [(4, .int x2.1), (3, .int x2.1), (0, .ref h_this), (1, .ref h_a1), (2, .ref h_a2)]) hx hb d_Packer_write_7 hl (by decide) rfl (fun ls hl => ?_)
  refine lv_sipush (v := 128) hx hb d_Packer_write_9 (by decide) ?_
  refine lv_istore (lv' := [(5, .int (128 : Int32)), (4, .int x2.1), (3, .int x2.1), (0, .ref h_this), (1, .ref h_a1), (2, .ref h_a2)]) hx hb d_Packer_write_12 hl (by decide) rfl (fun ls hl => ?_)
  refine lv_iconst (v := 0) hx hb d_Packer_write_14 (by decide) ?_
  refine lv_istore (lv' := [(6, .int (0 : Int32)), (5, .int (128 : Int32)), (4, .int x2.1), (3, .int x2.1), (0, .ref h_this), (1, .ref h_a1), (2, .ref h_a2)]) hx hb d_Packer_write_15 hl (by decide) rfl (fun ls hl => ?_)
  refine lv_aload_n hx hb d_Packer_write_17 rfl (lv_at hl 4 rfl) ?_
  refine lv_bipush (v := 72) hx hb d_Packer_write_18 (by decide) ?_
  refine hn_put (tv := .int) S hE kc_Packer t_Packer_ok n_Packer 0 rfl rfl 0 (by decide) mw_75 rfl (by decide +kernel) rfl rfl (Nat.le_of_ble_eq_true rfl) d_Packer_write_20 (fun H locs hE => ?_)
  have hE : hn_E D (TY cI cZ) tt A s H locs [(h_this, .inr (3, [.int (72 : Int32), .int n_this_next])), (h_a1, .inr (0, [.ref h_a1_codes, .int n_a1_size])), (h_a1_codes, .inl (cI, N_a1_codes, .inl f_a1_codes)), (h_a2, .inr (0, [.ref h_a2_codes, .int x2.2.1])), (h_a2_codes, .inl (cI, N_a2_codes, .inl x2.2.2))] := hE
  refine lv_iconst (v := 0) hx hb d_Packer_write_23 (by decide) ?_
  refine lv_istore (lv' := [(7, .int (0 : Int32)), (6, .int (0 : Int32)), (5, .int (128 : Int32)), (4, .int x2.1), (3, .int x2.1), (0, .ref h_this), (1, .ref h_a1), (2, .ref h_a2)]) hx hb d_Packer_write_24 hl (by decide) rfl (fun ls hl => ?_)
  exact hL26 x2.1 fu x2.1 (128 : Int32) (0 : Int32) (0 : Int32) (72 : Int32) x2.2.1 x2.2.2 H locs ls hE (lv_sub hl [5, 6, 7, 4, 3, 2, 1, 0] rfl) h
