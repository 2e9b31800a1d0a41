abbrev rm_Host_bit : Room := { frames := 0, cells := 0, slots := 0, locals := 0 }
theorem cf_Host_bit : hn_CF y_Host_bit b_Host_bit 1 (some .int) 1 := ⟨mw_207, mw_1, by decide, by decide, by decide +kernel⟩
set_option maxHeartbeats 4000000 in
set_option maxRecDepth 100000 in
theorem c_Host_bit (l : Launch) (D : va_G) (cI cZ : ClassId) (tt : Nat → Nat) (sz : Nat) (a1 : Int32) (o : Int32) (h : P_Host_bit a1 = some o) : Met l y_Host_bit (hn_w y_Host_bit b_Host_bit 1 (some .int)) rm_Host_bit (hn_Pc D (TY cI cZ) tt [.int a1] sz []) (hn_Qi D [] sz [] o) 0 0 (va_A [] sz) := by
  refine hn_ofWi (own := R_Host) (by decide) rfl (Nat.le_of_ble_eq_true rfl) ?_
  intro p e s m args below meth c A H locs ls Q S hE hl hret
  have hx := S.1
  have hb := S.2.1
  have hown := S.2.2.2.1
  have hl : lv_has ls 1 [(0, .int a1)] := hl
  unfold P_Host_bit at h
  refine lv_iconst (v := 1) hx hb d_Host_bit_0 (by decide) ?_
  refine lv_iload_n hx hb d_Host_bit_1 rfl (lv_at hl 0 rfl) ?_
  refine lv_iconst (v := 1) hx hb d_Host_bit_2 (by decide) ?_
  refine lv_isub hx hb d_Host_bit_3 ?_
  refine lv_ishl hx hb d_Host_bit_4 ?_
  obtain rfl := Option.some.inj h
  exact hret H locs ls 5 d_Host_bit_5 hE
abbrev rm_Checker_isTagged : Room := { frames := 1, cells := 0, slots := 0, locals := 21 }
theorem cf_Checker_isTagged : hn_CF y_Checker_isTagged b_Checker_isTagged 2 (some .boolean) 1 := ⟨mw_268, mw_6, by decide, by decide, by decide +kernel⟩
set_option maxHeartbeats 4000000 in
set_option maxRecDepth 100000 in
theorem c_Checker_isTagged (l : Launch) (D : va_G) (cI cZ : ClassId) (tt : Nat → Nat) (h_a1 h_a1_codes : Nat) (sz : Nat) (N_a1_codes : Nat) (n_a1_size : Int32) (f_a1_codes : Nat → Int32) (o : Int32) (h : P_Checker_isTagged N_a1_codes n_a1_size f_a1_codes = some o) : Met l y_Checker_isTagged (hn_w y_Checker_isTagged b_Checker_isTagged 2 (some .boolean)) rm_Checker_isTagged (hn_Pc D (TY cI cZ) tt [.ref h_a1] sz [(h_a1, .inr (0, [.ref h_a1_codes, .int n_a1_size])), (h_a1_codes, .inl (cI, N_a1_codes, .inl f_a1_codes))]) (hn_Qz D [(h_a1, .inr (0, [.ref h_a1_codes, .int n_a1_size])), (h_a1_codes, .inl (cI, N_a1_codes, .inl f_a1_codes))] sz [(h_a1, .inr (0, [.ref h_a1_codes, .int n_a1_size])), (h_a1_codes, .inl (cI, N_a1_codes, .inl f_a1_codes))] o) 0 0 (va_A [(h_a1, .inr (0, [.ref h_a1_codes, .int n_a1_size])), (h_a1_codes, .inl (cI, N_a1_codes, .inl f_a1_codes))] sz) := by
  refine hn_ofWz (own := R_Checker) (by decide) rfl (Nat.le_of_ble_eq_true rfl) ?_
  intro p e s m args below meth c A H locs ls Q S hE hl hret
  have hx := S.1
  have hb := S.2.1
  have hown := S.2.2.2.1
  have hl : lv_has ls 2 [(0, .ref h_a1)] := hl
  have hL2 : ∀ (kf : Nat) (v1 : Int32) (H : Heap) (locs : List Loc) (ls : Array Slot), hn_E D (TY cI cZ) tt A s H locs [(h_a1, .inr (0, [.ref h_a1_codes, .int n_a1_size])), (h_a1_codes, .inl (cI, N_a1_codes, .inl f_a1_codes))] → lv_has ls 2 [(0, .ref h_a1), (1, .int v1)] → fl1 (P_Checker_isTagged_2 N_a1_codes n_a1_size f_a1_codes) kf v1 = some o → W p l e rm_Checker_isTagged s m args below meth c H locs 0 0 Q (F0 m 2 ls []) := by
    intro kf
    induction kf with
    | zero => intro v1 H locs ls hE hl h; exact no_s h
    | succ kf ih =>
      intro v1 H locs ls hE hl h
      have h : P_Checker_isTagged_2 N_a1_codes n_a1_size f_a1_codes (fl1 (P_Checker_isTagged_2 N_a1_codes n_a1_size f_a1_codes) kf) v1 = some o := h
      generalize fl1 (P_Checker_isTagged_2 N_a1_codes n_a1_size f_a1_codes) kf = k2 at ih h
      have hk2 := ih
      unfold P_Checker_isTagged_2 at h
      refine lv_iload_n hx hb d_Checker_isTagged_2 rfl (lv_at hl 1 rfl) ?_
      refine hn_gets S hE st_z4 mw_269 d_Checker_isTagged_3 ?_
      refine hn_tlen S hE st_t4 (v := 4) (by decide) d_Checker_isTagged_6 ?_
      refine lv_icmp_ge (tgt := 31) hx hb d_Checker_isTagged_7 (by decide) (fun hc => ?_) (fun hc => ?_)
      · have h := ite_t hc h
        refine lv_iconst (v := 1) hx hb d_Checker_isTagged_31 (by decide) ?_
        obtain rfl := Option.some.inj h
        exact hret H locs ls 32 d_Checker_isTagged_32 narrow_b1 hE
      · have h := ite_f hc h
        refine lv_aload_n hx hb d_Checker_isTagged_10 rfl (lv_at hl 0 rfl) ?_
        refine lv_iload_n hx hb d_Checker_isTagged_11 rfl (lv_at hl 1 rfl) ?_
        obtain ⟨x12, hc12, h⟩ := bd_s h
        have hM := (c_Row_get l D cI cZ tt h_a1 h_a1_codes H.size N_a1_codes n_a1_size f_a1_codes v1 x12 hc12)
        refine hn_ci hE (hn_runV (As := [.int v1]) (rest := []) S hE hM cf_Row_get mw_271 mw_169 mw_170 ⟨rfl, rfl⟩ ⟨Nat.le_of_ble_eq_true rfl, Nat.le_of_ble_eq_true rfl⟩ [0, 1] rfl rfl rfl rfl rfl rfl hl.1 (lv_room (Nat.le_of_ble_eq_true rfl)) d_Checker_isTagged_12 ⟨Nat.zero_le _, Nat.zero_le _⟩) [0, 1] rfl rfl (fun H locs hE => ?_)
        have hE : hn_E D (TY cI cZ) tt A s H locs [(h_a1, .inr (0, [.ref h_a1_codes, .int n_a1_size])), (h_a1_codes, .inl (cI, N_a1_codes, .inl f_a1_codes))] := hE
        refine hn_gets S hE st_z4 mw_269 d_Checker_isTagged_15 ?_
        refine lv_iload_n hx hb d_Checker_isTagged_18 rfl (lv_at hl 1 rfl) ?_
        obtain ⟨hi19, h⟩ := gi_s h
        refine hn_ti S hE st_t4 hi19 rfl d_Checker_isTagged_19 ?_
        refine lv_icmp_eq (tgt := 25) hx hb d_Checker_isTagged_20 (by decide) (fun hc => ?_) (fun hc => ?_)
        · have h := ite_t hc h
          refine lv_iinc (v := (v1 + (1 : Int32))) (lv' := [(1, .int (v1 + (1 : Int32))), (0, .ref h_a1)]) hx hb d_Checker_isTagged_25 hl (k := 1) rfl rfl (by decide) rfl (fun ls hl => ?_)
          refine lv_goto (tgt := 2) hx hb d_Checker_isTagged_28 (by decide) ?_
          exact hk2 (v1 + (1 : Int32)) H locs ls hE (lv_sub hl [1, 0] rfl) h
        · have h := ite_f hc h
          refine lv_iconst (v := 0) hx hb d_Checker_isTagged_23 (by decide) ?_
          obtain rfl := Option.some.inj h
          exact hret H locs ls 24 d_Checker_isTagged_24 narrow_b0 hE
  unfold P_Checker_isTagged at h
  refine lv_iconst (v := 0) hx hb d_Checker_isTagged_0 (by decide) ?_
  refine lv_istore_n (lv' := [(1, .int (0 : Int32)), (0, .ref h_a1)]) hx hb d_Checker_isTagged_1 rfl hl (by decide) rfl (fun ls hl => ?_)
  exact hL2 fu (0 : Int32) H locs ls hE (lv_sub hl [1, 0] rfl) h
abbrev rm_Checker_brokenHyphenRules : Room := { frames := 1, cells := 0, slots := 0, locals := 21 }
theorem cf_Checker_brokenHyphenRules : hn_CF y_Checker_brokenHyphenRules b_Checker_brokenHyphenRules 2 (some .int) 1 := ⟨mw_381, mw_6, by decide, by decide, by decide +kernel⟩
set_option maxHeartbeats 4000000 in
set_option maxRecDepth 100000 in
theorem c_Checker_brokenHyphenRules (l : Launch) (D : va_G) (cI cZ : ClassId) (tt : Nat → Nat) (h_a1 h_a1_codes : Nat) (sz : Nat) (N_a1_codes : Nat) (n_a1_size : Int32) (f_a1_codes : Nat → Int32) (o : Int32) (h : P_Checker_brokenHyphenRules N_a1_codes n_a1_size f_a1_codes = some o) : Met l y_Checker_brokenHyphenRules (hn_w y_Checker_brokenHyphenRules b_Checker_brokenHyphenRules 2 (some .int)) rm_Checker_brokenHyphenRules (hn_Pc D (TY cI cZ) tt [.ref h_a1] sz [(h_a1, .inr (0, [.ref h_a1_codes, .int n_a1_size])), (h_a1_codes, .inl (cI, N_a1_codes, .inl f_a1_codes))]) (hn_Qi D [(h_a1, .inr (0, [.ref h_a1_codes, .int n_a1_size])), (h_a1_codes, .inl (cI, N_a1_codes, .inl f_a1_codes))] sz [(h_a1, .inr (0, [.ref h_a1_codes, .int n_a1_size])), (h_a1_codes, .inl (cI, N_a1_codes, .inl f_a1_codes))] o) 0 0 (va_A [(h_a1, .inr (0, [.ref h_a1_codes, .int n_a1_size])), (h_a1_codes, .inl (cI, N_a1_codes, .inl f_a1_codes))] sz) := by
  refine hn_ofWi (own := R_Checker) (by decide) rfl (Nat.le_of_ble_eq_true rfl) ?_
  intro p e s m args below meth c A H locs ls Q S hE hl hret
  have hx := S.1
  have hb := S.2.1
  have hown := S.2.2.2.1
  have hl : lv_has ls 2 [(0, .ref h_a1)] := hl
  have hj54 : ∀ (v1 : Int32) (H : Heap) (locs : List Loc) (ls : Array Slot), hn_E D (TY cI cZ) tt A s H locs [(h_a1, .inr (0, [.ref h_a1_codes, .int n_a1_size])), (h_a1_codes, .inl (cI, N_a1_codes, .inl f_a1_codes))] → lv_has ls 2 [(1, .int v1)] → P_Checker_brokenHyphenRules_54 v1 = some o → W p l e rm_Checker_brokenHyphenRules s m args below meth c H locs 0 0 Q (F0 m 54 ls []) := by
    intro v1 H locs ls hE hl h
    unfold P_Checker_brokenHyphenRules_54 at h
    refine lv_iload_n hx hb d_Checker_brokenHyphenRules_54 rfl (lv_at hl 0 rfl) ?_
    refine lv_iconst (v := 5) hx hb d_Checker_brokenHyphenRules_55 (by decide) ?_
    obtain ⟨x56, hc56, h⟩ := bd_s h
    have hM := (c_Host_bit l D cI cZ tt H.size (5 : Int32) x56 hc56)
    refine hn_ci hE (hn_runN (As := [.int (5 : Int32)]) (rest := [.int v1]) S hE hM cf_Host_bit st_n mw_206 ⟨rfl, rfl⟩ ⟨Nat.le_of_ble_eq_true rfl, Nat.le_of_ble_eq_true rfl⟩ [] rfl rfl rfl rfl hl.1 (lv_room (Nat.le_of_ble_eq_true rfl)) d_Checker_brokenHyphenRules_56 ⟨Nat.zero_le _, Nat.zero_le _⟩) [] rfl rfl (fun H locs hE => ?_)
    have hE : hn_E D (TY cI cZ) tt A s H locs [(h_a1, .inr (0, [.ref h_a1_codes, .int n_a1_size])), (h_a1_codes, .inl (cI, N_a1_codes, .inl f_a1_codes))] := hE
    refine lv_ior hx hb d_Checker_brokenHyphenRules_59 ?_
    refine lv_istore_n (lv' := [(1, .int (v1 ||| x56))]) hx hb d_Checker_brokenHyphenRules_60 rfl hl (by decide) rfl (fun ls hl => ?_)
    refine lv_iload_n hx hb d_Checker_brokenHyphenRules_61 rfl (lv_at hl 0 rfl) ?_
    obtain rfl := Option.some.inj h
    exact hret H locs ls 62 d_Checker_brokenHyphenRules_62 hE
  have hj29 : ∀ (v1 : Int32) (H : Heap) (locs : List Loc) (ls : Array Slot), hn_E D (TY cI cZ) tt A s H locs [(h_a1, .inr (0, [.ref h_a1_codes, .int n_a1_size])), (h_a1_codes, .inl (cI, N_a1_codes, .inl f_a1_codes))] → lv_has ls 2 [(0, .ref h_a1), (1, .int v1)] → P_Checker_brokenHyphenRules_29 N_a1_codes n_a1_size f_a1_codes v1 = some o → W p l e rm_Checker_brokenHyphenRules s m args below meth c H locs 0 0 Q (F0 m 29 ls []) := by
    intro v1 H locs ls hE hl h
    unfold P_Checker_brokenHyphenRules_29 at h
    refine lv_aload_n hx hb d_Checker_brokenHyphenRules_29 rfl (lv_at hl 0 rfl) ?_
    refine lv_iconst (v := 0) hx hb d_Checker_brokenHyphenRules_30 (by decide) ?_
    obtain ⟨x31, hc31, h⟩ := bd_s h
    have hM := (c_Row_get l D cI cZ tt h_a1 h_a1_codes H.size N_a1_codes n_a1_size f_a1_codes (0 : Int32) x31 hc31)
    refine hn_ci hE (hn_runV (As := [.int (0 : Int32)]) (rest := []) S hE hM cf_Row_get mw_271 mw_169 mw_170 ⟨rfl, rfl⟩ ⟨Nat.le_of_ble_eq_true rfl, Nat.le_of_ble_eq_true rfl⟩ [0, 1] rfl rfl rfl rfl rfl rfl hl.1 (lv_room (Nat.le_of_ble_eq_true rfl)) d_Checker_brokenHyphenRules_31 ⟨Nat.zero_le _, Nat.zero_le _⟩) [0, 1] rfl rfl (fun H locs hE => ?_)
    have hE : hn_E D (TY cI cZ) tt A s H locs [(h_a1, .inr (0, [.ref h_a1_codes, .int n_a1_size])), (h_a1_codes, .inl (cI, N_a1_codes, .inl f_a1_codes))] := hE
    refine lv_bipush (v := 45) hx hb d_Checker_brokenHyphenRules_34 (by decide) ?_
    refine lv_icmp_eq (tgt := 54) hx hb d_Checker_brokenHyphenRules_36 (by decide) (fun hc => ?_) (fun hc => ?_)
    · have h := ite_t hc h
      exact hj54 v1 H locs ls hE (lv_sub hl [1] rfl) h
    · have h := ite_f hc h
      refine lv_aload_n hx hb d_Checker_brokenHyphenRules_39 rfl (lv_at hl 0 rfl) ?_
      refine lv_aload_n hx hb d_Checker_brokenHyphenRules_40 rfl (lv_at hl 0 rfl) ?_
      obtain ⟨x41, hc41, h⟩ := bd_s h
      have hM := (c_Row_size l D cI cZ tt h_a1 h_a1_codes H.size N_a1_codes n_a1_size f_a1_codes x41 hc41)
      refine hn_ci hE (hn_runV (As := []) (rest := [.ref h_a1]) S hE hM cf_Row_size mw_382 mw_149 mw_150 ⟨rfl, rfl⟩ ⟨Nat.le_of_ble_eq_true rfl, Nat.le_of_ble_eq_true rfl⟩ [0, 1] rfl rfl rfl rfl rfl rfl hl.1 (lv_room (Nat.le_of_ble_eq_true rfl)) d_Checker_brokenHyphenRules_41 ⟨Nat.zero_le _, Nat.zero_le _⟩) [0, 1] rfl rfl (fun H locs hE => ?_)
      have hE : hn_E D (TY cI cZ) tt A s H locs [(h_a1, .inr (0, [.ref h_a1_codes, .int n_a1_size])), (h_a1_codes, .inl (cI, N_a1_codes, .inl f_a1_codes))] := hE
      refine lv_iconst (v := 1) hx hb d_Checker_brokenHyphenRules_44 (by decide) ?_
      refine lv_isub hx hb d_Checker_brokenHyphenRules_45 ?_
      obtain ⟨x46, hc46, h⟩ := bd_s h
      have hM := (c_Row_get l D cI cZ tt h_a1 h_a1_codes H.size N_a1_codes n_a1_size f_a1_codes (x41 - (1 : Int32)) x46 hc46)
      refine hn_ci hE (hn_runV (As := [.int (x41 - (1 : Int32))]) (rest := []) S hE hM cf_Row_get mw_271 mw_169 mw_170 ⟨rfl, rfl⟩ ⟨Nat.le_of_ble_eq_true rfl, Nat.le_of_ble_eq_true rfl⟩ [0, 1] rfl rfl rfl rfl rfl rfl hl.1 (lv_room (Nat.le_of_ble_eq_true rfl)) d_Checker_brokenHyphenRules_46 ⟨Nat.zero_le _, Nat.zero_le _⟩) [0, 1] rfl rfl (fun H locs hE => ?_)
      have hE : hn_E D (TY cI cZ) tt A s H locs [(h_a1, .inr (0, [.ref h_a1_codes, .int n_a1_size])), (h_a1_codes, .inl (cI, N_a1_codes, .inl f_a1_codes))] := hE
      refine lv_bipush (v := 45) hx hb d_Checker_brokenHyphenRules_49 (by decide) ?_
      refine lv_icmp_ne (tgt := 61) hx hb d_Checker_brokenHyphenRules_51 (by decide) (fun hc => ?_) (fun hc => ?_)
      · have h := ite_f hc h
        refine lv_iload_n hx hb d_Checker_brokenHyphenRules_61 rfl (lv_at hl 1 rfl) ?_
        obtain rfl := Option.some.inj h
        exact hret H locs ls 62 d_Checker_brokenHyphenRules_62 hE
      · have h := ite_t hc h
        exact hj54 v1 H locs ls hE (lv_sub hl [1] rfl) h
  unfold P_Checker_brokenHyphenRules at h
  refine lv_iconst (v := 0) hx hb d_Checker_brokenHyphenRules_0 (by decide) ?_
  refine lv_istore_n (lv' := [(1, .int (0 : Int32)), (0, .ref h_a1)]) hx hb d_Checker_brokenHyphenRules_1 rfl hl (by decide) rfl (fun ls hl => ?_)
  refine lv_aload_n hx hb d_Checker_brokenHyphenRules_2 rfl (lv_at hl 1 rfl) ?_
  refine lv_iconst (v := 2) hx hb d_Checker_brokenHyphenRules_3 (by decide) ?_
  obtain ⟨x4, hc4, h⟩ := bd_s h
  have hM := (c_Row_get l D cI cZ tt h_a1 h_a1_codes H.size N_a1_codes n_a1_size f_a1_codes (2 : Int32) x4 hc4)
  refine hn_ci hE (hn_runV (As := [.int (2 : Int32)]) (rest := []) S hE hM cf_Row_get mw_271 mw_169 mw_170 ⟨rfl, rfl⟩ ⟨Nat.le_of_ble_eq_true rfl, Nat.le_of_ble_eq_true rfl⟩ [0, 1] rfl rfl rfl rfl rfl rfl hl.1 (lv_room (Nat.le_of_ble_eq_true rfl)) d_Checker_brokenHyphenRules_4 ⟨Nat.zero_le _, Nat.zero_le _⟩) [0, 1] rfl rfl (fun H locs hE => ?_)
  have hE : hn_E D (TY cI cZ) tt A s H locs [(h_a1, .inr (0, [.ref h_a1_codes, .int n_a1_size])), (h_a1_codes, .inl (cI, N_a1_codes, .inl f_a1_codes))] := hE
  refine lv_bipush (v := 45) hx hb d_Checker_brokenHyphenRules_7 (by decide) ?_
  refine lv_icmp_ne (tgt := 29) hx hb d_Checker_brokenHyphenRules_9 (by decide) (fun hc => ?_) (fun hc => ?_)
  · have h := ite_f hc h
    exact hj29 (0 : Int32) H locs ls hE (lv_sub hl [1, 0] rfl) h
  · have h := ite_t hc h
    refine lv_aload_n hx hb d_Checker_brokenHyphenRules_12 rfl (lv_at hl 1 rfl) ?_
    refine lv_iconst (v := 3) hx hb d_Checker_brokenHyphenRules_13 (by decide) ?_
    obtain ⟨x14, hc14, h⟩ := bd_s h
    have hM := (c_Row_get l D cI cZ tt h_a1 h_a1_codes H.size N_a1_codes n_a1_size f_a1_codes (3 : Int32) x14 hc14)
    refine hn_ci hE (hn_runV (As := [.int (3 : Int32)]) (rest := []) S hE hM cf_Row_get mw_271 mw_169 mw_170 ⟨rfl, rfl⟩ ⟨Nat.le_of_ble_eq_true rfl, Nat.le_of_ble_eq_true rfl⟩ [0, 1] rfl rfl rfl rfl rfl rfl hl.1 (lv_room (Nat.le_of_ble_eq_true rfl)) d_Checker_brokenHyphenRules_14 ⟨Nat.zero_le _, Nat.zero_le _⟩) [0, 1] rfl rfl (fun H locs hE => ?_)
    have hE : hn_E D (TY cI cZ) tt A s H locs [(h_a1, .inr (0, [.ref h_a1_codes, .int n_a1_size])), (h_a1_codes, .inl (cI, N_a1_codes, .inl f_a1_codes))] := hE
    refine lv_bipush (v := 45) hx hb d_Checker_brokenHyphenRules_17 (by decide) ?_
    refine lv_icmp_ne (tgt := 29) hx hb d_Checker_brokenHyphenRules_19 (by decide) (fun hc => ?_) (fun hc => ?_)
    · have h := ite_f hc h
      exact hj29 (0 : Int32) H locs ls hE (lv_sub hl [1, 0] rfl) h
    · have h := ite_t hc h
      refine lv_iload_n hx hb d_Checker_brokenHyphenRules_22 rfl (lv_at hl 0 rfl) ?_
      refine lv_iconst (v := 4) hx hb d_Checker_brokenHyphenRules_23 (by decide) ?_
      obtain ⟨x24, hc24, h⟩ := bd_s h
      have hM := (c_Host_bit l D cI cZ tt H.size (4 : Int32) x24 hc24)
      refine hn_ci hE (hn_runN (As := [.int (4 : Int32)]) (rest := [.int (0 : Int32)]) S hE hM cf_Host_bit st_n mw_206 ⟨rfl, rfl⟩ ⟨Nat.le_of_ble_eq_true rfl, Nat.le_of_ble_eq_true rfl⟩ [] rfl rfl rfl rfl hl.1 (lv_room (Nat.le_of_ble_eq_true rfl)) d_Checker_brokenHyphenRules_24 ⟨Nat.zero_le _, Nat.zero_le _⟩) [] rfl rfl (fun H locs hE => ?_)
      have hE : hn_E D (TY cI cZ) tt A s H locs [(h_a1, .inr (0, [.ref h_a1_codes, .int n_a1_size])), (h_a1_codes, .inl (cI, N_a1_codes, .inl f_a1_codes))] := hE
      refine lv_ior hx hb d_Checker_brokenHyphenRules_27 ?_
      refine lv_istore_n (lv' := [(1, .int ((0 : Int32) ||| x24)), (0, .ref h_a1)]) hx hb d_Checker_brokenHyphenRules_28 rfl hl (by decide) rfl (fun ls hl => ?_)
      exact hj29 ((0 : Int32) ||| x24) H locs ls hE (lv_sub hl [1, 0] rfl) h
abbrev rm_Checker_isAllGood : Room := { frames := 3, cells := 0, slots := 0, locals := 64 }
theorem cf_Checker_isAllGood : hn_CF y_Checker_isAllGood b_Checker_isAllGood 4 (some .boolean) 3 := ⟨mw_387, mw_6, by decide, by decide, by decide +kernel⟩
set_option maxHeartbeats 4000000 in
set_option maxRecDepth 100000 in
theorem c_Checker_isAllGood (l : Launch) (D : va_G) (cI cZ : ClassId) (tt : Nat → Nat) (h_a1 h_a1_codes : Nat) (sz : Nat) (N_a1_codes : Nat) (n_a1_size : Int32) (f_a1_codes : Nat → Int32) (a2 : Int32) (a3 : Int32) (o : Int32) (h : P_Checker_isAllGood N_a1_codes n_a1_size f_a1_codes a2 a3 = some o) : Met l y_Checker_isAllGood (hn_w y_Checker_isAllGood b_Checker_isAllGood 4 (some .boolean)) rm_Checker_isAllGood (hn_Pc D (TY cI cZ) tt [.ref h_a1, .int a2, .int a3] sz [(h_a1, .inr (0, [.ref h_a1_codes, .int n_a1_size])), (h_a1_codes, .inl (cI, N_a1_codes, .inl f_a1_codes))]) (hn_Qz D [(h_a1, .inr (0, [.ref h_a1_codes, .int n_a1_size])), (h_a1_codes, .inl (cI, N_a1_codes, .inl f_a1_codes))] sz [(h_a1, .inr (0, [.ref h_a1_codes, .int n_a1_size])), (h_a1_codes, .inl (cI, N_a1_codes, .inl f_a1_codes))] o) 0 0 (va_A [(h_a1, .inr (0, [.ref h_a1_codes, .int n_a1_size])), (h_a1_codes, .inl (cI, N_a1_codes, .inl f_a1_codes))] sz) := by
  refine hn_ofWz (own := R_Checker) (by decide) rfl (Nat.le_of_ble_eq_true rfl) ?_
  intro p e s m args below meth c A H locs ls Q S hE hl hret
  have hx := S.1
  have hb := S.2.1
  have hown := S.2.2.2.1
  have hl : lv_has ls 4 [(0, .ref h_a1), (1, .int a2), (2, .int a3)] := hl
  have hL2 : ∀ (kf : Nat) (v3 : Int32) (H : Heap) (locs : List Loc) (ls : Array Slot), hn_E D (TY cI cZ) tt A s H locs [(h_a1, .inr (0, [.ref h_a1_codes, .int n_a1_size])), (h_a1_codes, .inl (cI, N_a1_codes, .inl f_a1_codes))] → lv_has ls 4 [(0, .ref h_a1), (1, .int a2), (2, .int a3), (3, .int v3)] → fl1 (P_Checker_isAllGood_2 N_a1_codes n_a1_size f_a1_codes a2 a3) kf v3 = some o → W p l e rm_Checker_isAllGood s m args below meth c H locs 0 0 Q (F0 m 2 ls []) := by
    intro kf
    induction kf with
    | zero => intro v3 H locs ls hE hl h; exact no_s h
    | succ kf ih =>
      intro v3 H locs ls hE hl h
      have h : P_Checker_isAllGood_2 N_a1_codes n_a1_size f_a1_codes a2 a3 (fl1 (P_Checker_isAllGood_2 N_a1_codes n_a1_size f_a1_codes a2 a3) kf) v3 = some o := h
      generalize fl1 (P_Checker_isAllGood_2 N_a1_codes n_a1_size f_a1_codes a2 a3) kf = k2 at ih h
      have hk2 := ih
      unfold P_Checker_isAllGood_2 at h
      refine lv_iload_n hx hb d_Checker_isAllGood_2 rfl (lv_at hl 3 rfl) ?_
      refine lv_aload_n hx hb d_Checker_isAllGood_3 rfl (lv_at hl 0 rfl) ?_
      obtain ⟨x4, hc4, h⟩ := bd_s h
      have hM := (c_Row_size l D cI cZ tt h_a1 h_a1_codes H.size N_a1_codes n_a1_size f_a1_codes x4 hc4)
      refine hn_ci hE (hn_runV (As := []) (rest := [.int v3]) S hE hM cf_Row_size mw_382 mw_149 mw_150 ⟨rfl, rfl⟩ ⟨Nat.le_of_ble_eq_true rfl, Nat.le_of_ble_eq_true rfl⟩ [0, 1] rfl rfl rfl rfl rfl rfl hl.1 (lv_room (Nat.le_of_ble_eq_true rfl)) d_Checker_isAllGood_4 ⟨Nat.zero_le _, Nat.zero_le _⟩) [0, 1] rfl rfl (fun H locs hE => ?_)
      have hE : hn_E D (TY cI cZ) tt A s H locs [(h_a1, .inr (0, [.ref h_a1_codes, .int n_a1_size])), (h_a1_codes, .inl (cI, N_a1_codes, .inl f_a1_codes))] := hE
      refine lv_icmp_ge (tgt := 31) hx hb d_Checker_isAllGood_7 (by decide) (fun hc => ?_) (fun hc => ?_)
      · have h := ite_t hc h
        refine lv_iconst (v := 1) hx hb d_Checker_isAllGood_31 (by decide) ?_
        obtain rfl := Option.some.inj h
        exact hret H locs ls 32 d_Checker_isAllGood_32 narrow_b1 hE
      · have h := ite_f hc h
        refine lv_aload_n hx hb d_Checker_isAllGood_10 rfl (lv_at hl 0 rfl) ?_
        refine lv_iload_n hx hb d_Checker_isAllGood_11 rfl (lv_at hl 3 rfl) ?_
        obtain ⟨x12, hc12, h⟩ := bd_s h
        have hM := (c_Row_get l D cI cZ tt h_a1 h_a1_codes H.size N_a1_codes n_a1_size f_a1_codes v3 x12 hc12)
        refine hn_ci hE (hn_runV (As := [.int v3]) (rest := []) S hE hM cf_Row_get mw_271 mw_169 mw_170 ⟨rfl, rfl⟩ ⟨Nat.le_of_ble_eq_true rfl, Nat.le_of_ble_eq_true rfl⟩ [0, 1] rfl rfl rfl rfl rfl rfl hl.1 (lv_room (Nat.le_of_ble_eq_true rfl)) d_Checker_isAllGood_12 ⟨Nat.zero_le _, Nat.zero_le _⟩) [0, 1] rfl rfl (fun H locs hE => ?_)
        have hE : hn_E D (TY cI cZ) tt A s H locs [(h_a1, .inr (0, [.ref h_a1_codes, .int n_a1_size])), (h_a1_codes, .inl (cI, N_a1_codes, .inl f_a1_codes))] := hE
        refine lv_iload_n hx hb d_Checker_isAllGood_15 rfl (lv_at hl 1 rfl) ?_
        refine lv_iload_n hx hb d_Checker_isAllGood_16 rfl (lv_at hl 2 rfl) ?_
        obtain ⟨x17, hc17, h⟩ := bd_s h
        have hM := (c_Codes_isGood l D cI cZ tt H.size x12 a2 a3 x17 hc17)
        refine hn_cz hE (hn_runS (As := [.int x12, .int a2, .int a3]) (rest := []) S hE hM cf_Codes_isGood mw_388 mw_194 ⟨rfl, rfl⟩ ⟨Nat.le_of_ble_eq_true rfl, Nat.le_of_ble_eq_true rfl⟩ [] rfl rfl rfl rfl hl.1 (lv_room (Nat.le_of_ble_eq_true rfl)) d_Checker_isAllGood_17 ⟨Nat.zero_le _, Nat.zero_le _⟩) [] rfl rfl (fun H locs hz17 hE => ?_)
        have hE : hn_E D (TY cI cZ) tt A s H locs [(h_a1, .inr (0, [.ref h_a1_codes, .int n_a1_size])), (h_a1_codes, .inl (cI, N_a1_codes, .inl f_a1_codes))] := hE
        refine lv_if_ne (tgt := 25) hx hb d_Checker_isAllGood_20 (by decide) (fun hc => ?_) (fun hc => ?_)
        · have h := ite_f hc h
          refine lv_iinc (v := (v3 + (1 : Int32))) (lv' := [(3, .int (v3 + (1 : Int32))), (0, .ref h_a1), (1, .int a2), (2, .int a3)]) hx hb d_Checker_isAllGood_25 hl (k := 3) rfl rfl (by decide) rfl (fun ls hl => ?_)
          refine lv_goto (tgt := 2) hx hb d_Checker_isAllGood_28 (by decide) ?_
          exact hk2 (v3 + (1 : Int32)) H locs ls hE (lv_sub hl [1, 2, 3, 0] rfl) h
        · have h := ite_t hc h
          refine lv_iconst (v := 0) hx hb d_Checker_isAllGood_23 (by decide) ?_
          obtain rfl := Option.some.inj h
          exact hret H locs ls 24 d_Checker_isAllGood_24 narrow_b0 hE
  unfold P_Checker_isAllGood at h
  refine lv_iconst (v := 0) hx hb d_Checker_isAllGood_0 (by decide) ?_
  refine lv_istore_n (lv' := [(3, .int (0 : Int32)), (0, .ref h_a1), (1, .int a2), (2, .int a3)]) hx hb d_Checker_isAllGood_1 rfl hl (by decide) rfl (fun ls hl => ?_)
  exact hL2 fu (0 : Int32) H locs ls hE (lv_sub hl [1, 2, 3, 0] rfl) h
abbrev rm_Checker_joiningBeyond : Room := { frames := 1, cells := 0, slots := 0, locals := 21 }
theorem cf_Checker_joiningBeyond : hn_CF y_Checker_joiningBeyond b_Checker_joiningBeyond 5 (some .int) 3 := ⟨mw_398, mw_6, by decide, by decide, by decide +kernel⟩
set_option maxHeartbeats 4000000 in
set_option maxRecDepth 100000 in
theorem c_Checker_joiningBeyond (l : Launch) (D : va_G) (cI cZ : ClassId) (tt : Nat → Nat) (h_a1 h_a1_codes : Nat) (sz : Nat) (N_a1_codes : Nat) (n_a1_size : Int32) (f_a1_codes : Nat → Int32) (a2 : Int32) (a3 : Int32) (o : Int32) (h : P_Checker_joiningBeyond N_a1_codes n_a1_size f_a1_codes a2 a3 = some o) : Met l y_Checker_joiningBeyond (hn_w y_Checker_joiningBeyond b_Checker_joiningBeyond 5 (some .int)) rm_Checker_joiningBeyond (hn_Pc D (TY cI cZ) tt [.ref h_a1, .int a2, .int a3] sz [(h_a1, .inr (0, [.ref h_a1_codes, .int n_a1_size])), (h_a1_codes, .inl (cI, N_a1_codes, .inl f_a1_codes))]) (hn_Qi D [(h_a1, .inr (0, [.ref h_a1_codes, .int n_a1_size])), (h_a1_codes, .inl (cI, N_a1_codes, .inl f_a1_codes))] sz [(h_a1, .inr (0, [.ref h_a1_codes, .int n_a1_size])), (h_a1_codes, .inl (cI, N_a1_codes, .inl f_a1_codes))] o) 0 0 (va_A [(h_a1, .inr (0, [.ref h_a1_codes, .int n_a1_size])), (h_a1_codes, .inl (cI, N_a1_codes, .inl f_a1_codes))] sz) := by
  refine hn_ofWi (own := R_Checker) (by decide) rfl (Nat.le_of_ble_eq_true rfl) ?_
  intro p e s m args below meth c A H locs ls Q S hE hl hret
  have hx := S.1
  have hb := S.2.1
  have hown := S.2.2.2.1
  have hl : lv_has ls 5 [(0, .ref h_a1), (1, .int a2), (2, .int a3)] := hl
  have hL2 : ∀ (kf : Nat) (v3 : Int32) (H : Heap) (locs : List Loc) (ls : Array Slot), hn_E D (TY cI cZ) tt A s H locs [(h_a1, .inr (0, [.ref h_a1_codes, .int n_a1_size])), (h_a1_codes, .inl (cI, N_a1_codes, .inl f_a1_codes))] → lv_has ls 5 [(0, .ref h_a1), (1, .int a2), (2, .int a3), (3, .int v3)] → fl1 (P_Checker_joiningBeyond_2 N_a1_codes n_a1_size f_a1_codes a2 a3) kf v3 = some o → W p l e rm_Checker_joiningBeyond s m args below meth c H locs 0 0 Q (F0 m 2 ls []) := by
    intro kf
    induction kf with
    | zero => intro v3 H locs ls hE hl h; exact no_s h
    | succ kf ih =>
      intro v3 H locs ls hE hl h
      have h : P_Checker_joiningBeyond_2 N_a1_codes n_a1_size f_a1_codes a2 a3 (fl1 (P_Checker_joiningBeyond_2 N_a1_codes n_a1_size f_a1_codes a2 a3) kf) v3 = some o := h
      generalize fl1 (P_Checker_joiningBeyond_2 N_a1_codes n_a1_size f_a1_codes a2 a3) kf = k2 at ih h
      have hk2 := ih
      unfold P_Checker_joiningBeyond_2 at h
      refine lv_iload_n hx hb d_Checker_joiningBeyond_2 rfl (lv_at hl 3 rfl) ?_
      refine lv_aload_n hx hb d_Checker_joiningBeyond_3 rfl (lv_at hl 0 rfl) ?_
      obtain ⟨x4, hc4, h⟩ := bd_s h
      have hM := (c_Row_size l D cI cZ tt h_a1 h_a1_codes H.size N_a1_codes n_a1_size f_a1_codes x4 hc4)
      refine hn_ci hE (hn_runV (As := []) (rest := [.int v3]) S hE hM cf_Row_size mw_382 mw_149 mw_150 ⟨rfl, rfl⟩ ⟨Nat.le_of_ble_eq_true rfl, Nat.le_of_ble_eq_true rfl⟩ [0, 1] rfl rfl rfl rfl rfl rfl hl.1 (lv_room (Nat.le_of_ble_eq_true rfl)) d_Checker_joiningBeyond_4 ⟨Nat.zero_le _, Nat.zero_le _⟩) [0, 1] rfl rfl (fun H locs hE => ?_)
      have hE : hn_E D (TY cI cZ) tt A s H locs [(h_a1, .inr (0, [.ref h_a1_codes, .int n_a1_size])), (h_a1_codes, .inl (cI, N_a1_codes, .inl f_a1_codes))] := hE
      refine lv_icmp_gt (tgt := 39) hx hb d_Checker_joiningBeyond_7 (by decide) (fun hc => ?_) (fun hc => ?_)
      · have h := ite_t hc h
        refine lv_iconst (v := 0) hx hb d_Checker_joiningBeyond_39 (by decide) ?_
        obtain rfl := Option.some.inj h
        exact hret H locs ls 40 d_Checker_joiningBeyond_40 hE
      · have h := ite_f hc h
        refine lv_aload_n hx hb d_Checker_joiningBeyond_10 rfl (lv_at hl 0 rfl) ?_
        refine lv_iload_n hx hb d_Checker_joiningBeyond_11 rfl (lv_at hl 1 rfl) ?_
        refine lv_iload_n hx hb d_Checker_joiningBeyond_12 rfl (lv_at hl 3 rfl) ?_
        refine lv_iload_n hx hb d_Checker_joiningBeyond_13 rfl (lv_at hl 2 rfl) ?_
        refine lv_imul hx hb d_Checker_joiningBeyond_14 ?_
        refine lv_iadd hx hb d_Checker_joiningBeyond_15 ?_
        obtain ⟨x16, hc16, h⟩ := bd_s h
        have hM := (c_Row_get l D cI cZ tt h_a1 h_a1_codes H.size N_a1_codes n_a1_size f_a1_codes (a2 + (v3 * a3)) x16 hc16)
        refine hn_ci hE (hn_runV (As := [.int (a2 + (v3 * a3))]) (rest := []) S hE hM cf_Row_get mw_271 mw_169 mw_170 ⟨rfl, rfl⟩ ⟨Nat.le_of_ble_eq_true rfl, Nat.le_of_ble_eq_true rfl⟩ [0, 1] rfl rfl rfl rfl rfl rfl hl.1 (lv_room (Nat.le_of_ble_eq_true rfl)) d_Checker_joiningBeyond_16 ⟨Nat.zero_le _, Nat.zero_le _⟩) [0, 1] rfl rfl (fun H locs hE => ?_)
        have hE : hn_E D (TY cI cZ) tt A s H locs [(h_a1, .inr (0, [.ref h_a1_codes, .int n_a1_size])), (h_a1_codes, .inl (cI, N_a1_codes, .inl f_a1_codes))] := hE
        obtain ⟨x19, hc19, h⟩ := bd_s h
        have hM := (c_Codes_joining l D cI cZ tt H.size x16 x19 hc19)
        refine hn_ci hE (hn_runS (As := [.int x16]) (rest := []) S hE hM cf_Codes_joining mw_399 mw_400 ⟨rfl, rfl⟩ ⟨Nat.le_of_ble_eq_true rfl, Nat.le_of_ble_eq_true rfl⟩ [] rfl rfl rfl rfl hl.1 (lv_room (Nat.le_of_ble_eq_true rfl)) d_Checker_joiningBeyond_19 ⟨Nat.zero_le _, Nat.zero_le _⟩) [] rfl rfl (fun H locs hE => ?_)
        have hE : hn_E D (TY cI cZ) tt A s H locs [(h_a1, .inr (0, [.ref h_a1_codes, .int n_a1_size])), (h_a1_codes, .inl (cI, N_a1_codes, .inl f_a1_codes))] := hE
        refine lv_istore (lv' := [(4, .int x19), (0, .ref h_a1), (1, .int a2), (2, .int a3), (3, .int v3)]) hx hb d_Checker_joiningBeyond_22 hl (by decide) rfl (fun ls hl => ?_)
        refine lv_iload hx hb d_Checker_joiningBeyond_24 (lv_at hl 0 rfl) ?_
        refine lv_iconst (v := 3) hx hb d_Checker_joiningBeyond_26 (by decide) ?_
        refine lv_icmp_eq (tgt := 33) hx hb d_Checker_joiningBeyond_27 (by decide) (fun hc => ?_) (fun hc => ?_)
        · have h := ite_t hc h
          refine lv_iinc (v := (v3 + (1 : Int32))) (lv' := [(3, .int (v3 + (1 : Int32))), (4, .int x19), (0, .ref h_a1), (1, .int a2), (2, .int a3)]) hx hb d_Checker_joiningBeyond_33 hl (k := 4) rfl rfl (by decide) rfl (fun ls hl => ?_)
          refine lv_goto (tgt := 2) hx hb d_Checker_joiningBeyond_36 (by decide) ?_
          exact hk2 (v3 + (1 : Int32)) H locs ls hE (lv_sub hl [2, 3, 4, 0] rfl) h
        · have h := ite_f hc h
          refine lv_iload hx hb d_Checker_joiningBeyond_30 (lv_at hl 0 rfl) ?_
          obtain rfl := Option.some.inj h
          exact hret H locs ls 32 d_Checker_joiningBeyond_32 hE
  unfold P_Checker_joiningBeyond at h
  refine lv_iconst (v := 1) hx hb d_Checker_joiningBeyond_0 (by decide) ?_
  refine lv_istore_n (lv' := [(3, .int (1 : Int32)), (0, .ref h_a1), (1, .int a2), (2, .int a3)]) hx hb d_Checker_joiningBeyond_1 rfl hl (by decide) rfl (fun ls hl => ?_)
  exact hL2 fu (1 : Int32) H locs ls hE (lv_sub hl [1, 2, 3, 0] rfl) h
abbrev rm_Checker_isBetweenJoining : Room := { frames := 2, cells := 0, slots := 0, locals := 45 }
theorem cf_Checker_isBetweenJoining : hn_CF y_Checker_isBetweenJoining b_Checker_isBetweenJoining 5 (some .boolean) 2 := ⟨mw_395, mw_6, by decide, by decide, by decide +kernel⟩
set_option maxHeartbeats 4000000 in
set_option maxRecDepth 100000 in
theorem c_Checker_isBetweenJoining (l : Launch) (D : va_G) (cI cZ : ClassId) (tt : Nat → Nat) (h_a1 h_a1_codes : Nat) (sz : Nat) (N_a1_codes : Nat) (n_a1_size : Int32) (f_a1_codes : Nat → Int32) (a2 : Int32) (o : Int32) (h : P_Checker_isBetweenJoining N_a1_codes n_a1_size f_a1_codes a2 = some o) : Met l y_Checker_isBetweenJoining (hn_w y_Checker_isBetweenJoining b_Checker_isBetweenJoining 5 (some .boolean)) rm_Checker_isBetweenJoining (hn_Pc D (TY cI cZ) tt [.ref h_a1, .int a2] sz [(h_a1, .inr (0, [.ref h_a1_codes, .int n_a1_size])), (h_a1_codes, .inl (cI, N_a1_codes, .inl f_a1_codes))]) (hn_Qz D [(h_a1, .inr (0, [.ref h_a1_codes, .int n_a1_size])), (h_a1_codes, .inl (cI, N_a1_codes, .inl f_a1_codes))] sz [(h_a1, .inr (0, [.ref h_a1_codes, .int n_a1_size])), (h_a1_codes, .inl (cI, N_a1_codes, .inl f_a1_codes))] o) 0 0 (va_A [(h_a1, .inr (0, [.ref h_a1_codes, .int n_a1_size])), (h_a1_codes, .inl (cI, N_a1_codes, .inl f_a1_codes))] sz) := by
  refine hn_ofWz (own := R_Checker) (by decide) rfl (Nat.le_of_ble_eq_true rfl) ?_
  intro p e s m args below meth c A H locs ls Q S hE hl hret
  have hx := S.1
  have hb := S.2.1
  have hown := S.2.2.2.1
  have hl : lv_has ls 5 [(0, .ref h_a1), (1, .int a2)] := hl
  have hj29 : ∀ (v2 : Int32) (s0 : Int32) (H : Heap) (locs : List Loc) (ls : Array Slot), hn_E D (TY cI cZ) tt A s H locs [(h_a1, .inr (0, [.ref h_a1_codes, .int n_a1_size])), (h_a1_codes, .inl (cI, N_a1_codes, .inl f_a1_codes))] → lv_has ls 5 [(2, .int v2)] → P_Checker_isBetweenJoining_29 v2 s0 = some o → W p l e rm_Checker_isBetweenJoining s m args below meth c H locs 0 0 Q (F0 m 29 ls [.int s0]) := by
    intro v2 s0 H locs ls hE hl h
    unfold P_Checker_isBetweenJoining_29 at h
    refine lv_istore (lv' := [(4, .int s0), (2, .int v2)]) hx hb d_Checker_isBetweenJoining_29 hl (by decide) rfl (fun ls hl => ?_)
    refine lv_iload_n hx hb d_Checker_isBetweenJoining_31 rfl (lv_at hl 1 rfl) ?_
    refine lv_iconst (v := 2) hx hb d_Checker_isBetweenJoining_32 (by decide) ?_
    refine lv_icmp_ne (tgt := 45) hx hb d_Checker_isBetweenJoining_33 (by decide) (fun hc => ?_) (fun hc => ?_)
    · have h := ite_f hc h
      refine lv_iconst (v := 0) hx hb d_Checker_isBetweenJoining_45 (by decide) ?_
      obtain rfl := Option.some.inj h
      exact hret H locs ls 46 d_Checker_isBetweenJoining_46 narrow_b0 hE
    · have h := ite_t hc h
      refine lv_iload hx hb d_Checker_isBetweenJoining_36 (lv_at hl 0 rfl) ?_
      refine lv_if_eq (tgt := 45) hx hb d_Checker_isBetweenJoining_38 (by decide) (fun hc => ?_) (fun hc => ?_)
      · have h := ite_t hc h
        refine lv_iconst (v := 0) hx hb d_Checker_isBetweenJoining_45 (by decide) ?_
        obtain rfl := Option.some.inj h
        exact hret H locs ls 46 d_Checker_isBetweenJoining_46 narrow_b0 hE
      · have h := ite_f hc h
        refine lv_iconst (v := 1) hx hb d_Checker_isBetweenJoining_41 (by decide) ?_
        refine lv_goto (tgt := 46) hx hb d_Checker_isBetweenJoining_42 (by decide) ?_
        obtain rfl := Option.some.inj h
        exact hret H locs ls 46 d_Checker_isBetweenJoining_46 narrow_b1 hE
  unfold P_Checker_isBetweenJoining at h
  refine lv_aload_n hx hb d_Checker_isBetweenJoining_0 rfl (lv_at hl 0 rfl) ?_
  refine lv_iload_n hx hb d_Checker_isBetweenJoining_1 rfl (lv_at hl 1 rfl) ?_
  refine lv_iconst (v := -1) hx hb d_Checker_isBetweenJoining_2 (by decide) ?_
  obtain ⟨x3, hc3, h⟩ := bd_s h
  have hM := (c_Checker_joiningBeyond l D cI cZ tt h_a1 h_a1_codes H.size N_a1_codes n_a1_size f_a1_codes a2 (-1 : Int32) x3 hc3)
  refine hn_ci hE (hn_runS (As := [.ref h_a1, .int a2, .int (-1 : Int32)]) (rest := []) S hE hM cf_Checker_joiningBeyond mw_396 mw_397 ⟨rfl, rfl⟩ ⟨Nat.le_of_ble_eq_true rfl, Nat.le_of_ble_eq_true rfl⟩ [0, 1] rfl rfl rfl rfl hl.1 (lv_room (Nat.le_of_ble_eq_true rfl)) d_Checker_isBetweenJoining_3 ⟨Nat.zero_le _, Nat.zero_le _⟩) [0, 1] rfl rfl (fun H locs hE => ?_)
  have hE : hn_E D (TY cI cZ) tt A s H locs [(h_a1, .inr (0, [.ref h_a1_codes, .int n_a1_size])), (h_a1_codes, .inl (cI, N_a1_codes, .inl f_a1_codes))] := hE
  refine lv_istore_n (lv' := [(2, .int x3), (0, .ref h_a1), (1, .int a2)]) hx hb d_Checker_isBetweenJoining_6 rfl hl (by decide) rfl (fun ls hl => ?_)
  refine lv_aload_n hx hb d_Checker_isBetweenJoining_7 rfl (lv_at hl 1 rfl) ?_
  refine lv_iload_n hx hb d_Checker_isBetweenJoining_8 rfl (lv_at hl 2 rfl) ?_
  refine lv_iconst (v := 1) hx hb d_Checker_isBetweenJoining_9 (by decide) ?_
  obtain ⟨x10, hc10, h⟩ := bd_s h
  have hM := (c_Checker_joiningBeyond l D cI cZ tt h_a1 h_a1_codes H.size N_a1_codes n_a1_size f_a1_codes a2 (1 : Int32) x10 hc10)
  refine hn_ci hE (hn_runS (As := [.ref h_a1, .int a2, .int (1 : Int32)]) (rest := []) S hE hM cf_Checker_joiningBeyond mw_396 mw_397 ⟨rfl, rfl⟩ ⟨Nat.le_of_ble_eq_true rfl, Nat.le_of_ble_eq_true rfl⟩ [0, 1] rfl rfl rfl rfl hl.1 (lv_room (Nat.le_of_ble_eq_true rfl)) d_Checker_isBetweenJoining_10 ⟨Nat.zero_le _, Nat.zero_le _⟩) [0, 1] rfl rfl (fun H locs hE => ?_)
  have hE : hn_E D (TY cI cZ) tt A s H locs [(h_a1, .inr (0, [.ref h_a1_codes, .int n_a1_size])), (h_a1_codes, .inl (cI, N_a1_codes, .inl f_a1_codes))] := hE
  refine lv_istore_n (lv' := [(3, .int x10), (2, .int x3), (0, .ref h_a1), (1, .int a2)]) hx hb d_Checker_isBetweenJoining_13 rfl hl (by decide) rfl (fun ls hl => ?_)
  refine lv_iload_n hx hb d_Checker_isBetweenJoining_14 rfl (lv_at hl 0 rfl) ?_
  refine lv_iconst (v := 1) hx hb d_Checker_isBetweenJoining_15 (by decide) ?_
  refine lv_icmp_eq (tgt := 24) hx hb d_Checker_isBetweenJoining_16 (by decide) (fun hc => ?_) (fun hc => ?_)
  · have h := ite_t hc h
    refine lv_iconst (v := 1) hx hb d_Checker_isBetweenJoining_24 (by decide) ?_
    refine lv_goto (tgt := 29) hx hb d_Checker_isBetweenJoining_25 (by decide) ?_
    exact hj29 x3 (1 : Int32) H locs ls hE (lv_sub hl [1] rfl) h
  · have h := ite_f hc h
    refine lv_iload_n hx hb d_Checker_isBetweenJoining_19 rfl (lv_at hl 0 rfl) ?_
    refine lv_iconst (v := 2) hx hb d_Checker_isBetweenJoining_20 (by decide) ?_
    refine lv_icmp_ne (tgt := 28) hx hb d_Checker_isBetweenJoining_21 (by decide) (fun hc => ?_) (fun hc => ?_)
    · have h := ite_f hc h
      refine lv_iconst (v := 0) hx hb d_Checker_isBetweenJoining_28 (by decide) ?_
      exact hj29 x3 (0 : Int32) H locs ls hE (lv_sub hl [1] rfl) h
    · have h := ite_t hc h
      refine lv_iconst (v := 1) hx hb d_Checker_isBetweenJoining_24 (by decide) ?_
      refine lv_goto (tgt := 29) hx hb d_Checker_isBetweenJoining_25 (by decide) ?_
      exact hj29 x3 (1 : Int32) H locs ls hE (lv_sub hl [1] rfl) h
abbrev rm_Checker_areJoinersRight : Room := { frames := 3, cells := 0, slots := 0, locals := 69 }
theorem cf_Checker_areJoinersRight : hn_CF y_Checker_areJoinersRight b_Checker_areJoinersRight 4 (some .boolean) 1 := ⟨mw_391, mw_6, by decide, by decide, by decide +kernel⟩
set_option maxHeartbeats 4000000 in
set_option maxRecDepth 100000 in
theorem c_Checker_areJoinersRight (l : Launch) (D : va_G) (cI cZ : ClassId) (tt : Nat → Nat) (h_a1 h_a1_codes : Nat) (sz : Nat) (N_a1_codes : Nat) (n_a1_size : Int32) (f_a1_codes : Nat → Int32) (o : Int32) (h : P_Checker_areJoinersRight N_a1_codes n_a1_size f_a1_codes = some o) : Met l y_Checker_areJoinersRight (hn_w y_Checker_areJoinersRight b_Checker_areJoinersRight 4 (some .boolean)) rm_Checker_areJoinersRight (hn_Pc D (TY cI cZ) tt [.ref h_a1] sz [(h_a1, .inr (0, [.ref h_a1_codes, .int n_a1_size])), (h_a1_codes, .inl (cI, N_a1_codes, .inl f_a1_codes))]) (hn_Qz D [(h_a1, .inr (0, [.ref h_a1_codes, .int n_a1_size])), (h_a1_codes, .inl (cI, N_a1_codes, .inl f_a1_codes))] sz [(h_a1, .inr (0, [.ref h_a1_codes, .int n_a1_size])), (h_a1_codes, .inl (cI, N_a1_codes, .inl f_a1_codes))] o) 0 0 (va_A [(h_a1, .inr (0, [.ref h_a1_codes, .int n_a1_size])), (h_a1_codes, .inl (cI, N_a1_codes, .inl f_a1_codes))] sz) := by
  refine hn_ofWz (own := R_Checker) (by decide) rfl (Nat.le_of_ble_eq_true rfl) ?_
  intro p e s m args below meth c A H locs ls Q S hE hl hret
  have hx := S.1
  have hb := S.2.1
  have hown := S.2.2.2.1
  have hl : lv_has ls 4 [(0, .ref h_a1)] := hl
  have hL2 : ∀ (kf : Nat) (v1 : Int32) (H : Heap) (locs : List Loc) (ls : Array Slot), hn_E D (TY cI cZ) tt A s H locs [(h_a1, .inr (0, [.ref h_a1_codes, .int n_a1_size])), (h_a1_codes, .inl (cI, N_a1_codes, .inl f_a1_codes))] → lv_has ls 4 [(0, .ref h_a1), (1, .int v1)] → fl1 (P_Checker_areJoinersRight_2 N_a1_codes n_a1_size f_a1_codes) kf v1 = some o → W p l e rm_Checker_areJoinersRight s m args below meth c H locs 0 0 Q (F0 m 2 ls []) := by
    intro kf
    induction kf with
    | zero => intro v1 H locs ls hE hl h; exact no_s h
    | succ kf ih =>
      intro v1 H locs ls hE hl h
      have h : P_Checker_areJoinersRight_2 N_a1_codes n_a1_size f_a1_codes (fl1 (P_Checker_areJoinersRight_2 N_a1_codes n_a1_size f_a1_codes) kf) v1 = some o := h
      generalize fl1 (P_Checker_areJoinersRight_2 N_a1_codes n_a1_size f_a1_codes) kf = k2 at ih h
      have hk2 := ih
      have hj50 : ∀ (v1 : Int32) (v2 : Int32) (v3 : Int32) (H : Heap) (locs : List Loc) (ls : Array Slot), hn_E D (TY cI cZ) tt A s H locs [(h_a1, .inr (0, [.ref h_a1_codes, .int n_a1_size])), (h_a1_codes, .inl (cI, N_a1_codes, .inl f_a1_codes))] → lv_has ls 4 [(0, .ref h_a1), (1, .int v1), (2, .int v2), (3, .int v3)] → P_Checker_areJoinersRight_50 N_a1_codes n_a1_size f_a1_codes k2 v1 v2 v3 = some o → W p l e rm_Checker_areJoinersRight s m args below meth c H locs 0 0 Q (F0 m 50 ls []) := by
        intro v1 v2 v3 H locs ls hE hl h
        unfold P_Checker_areJoinersRight_50 at h
        refine lv_iload_n hx hb d_Checker_areJoinersRight_50 rfl (lv_at hl 2 rfl) ?_
        refine lv_sipush (v := 8204) hx hb d_Checker_areJoinersRight_51 (by decide) ?_
        refine lv_icmp_ne (tgt := 71) hx hb d_Checker_areJoinersRight_54 (by decide) (fun hc => ?_) (fun hc => ?_)
        · have h := ite_f hc h
          refine lv_iinc (v := (v1 + (1 : Int32))) (lv' := [(1, .int (v1 + (1 : Int32))), (0, .ref h_a1), (2, .int v2), (3, .int v3)]) hx hb d_Checker_areJoinersRight_71 hl (k := 1) rfl rfl (by decide) rfl (fun ls hl => ?_)
          refine lv_goto (tgt := 2) hx hb d_Checker_areJoinersRight_74 (by decide) ?_
          exact hk2 (v1 + (1 : Int32)) H locs ls hE (lv_sub hl [1, 0] rfl) h
        · have h := ite_t hc h
          refine lv_iload_n hx hb d_Checker_areJoinersRight_57 rfl (lv_at hl 3 rfl) ?_
          refine lv_if_ne (tgt := 71) hx hb d_Checker_areJoinersRight_58 (by decide) (fun hc => ?_) (fun hc => ?_)
          · have h := ite_f hc h
            refine lv_iinc (v := (v1 + (1 : Int32))) (lv' := [(1, .int (v1 + (1 : Int32))), (0, .ref h_a1), (2, .int v2), (3, .int v3)]) hx hb d_Checker_areJoinersRight_71 hl (k := 1) rfl rfl (by decide) rfl (fun ls hl => ?_)
            refine lv_goto (tgt := 2) hx hb d_Checker_areJoinersRight_74 (by decide) ?_
            exact hk2 (v1 + (1 : Int32)) H locs ls hE (lv_sub hl [1, 0] rfl) h
          · have h := ite_t hc h
            refine lv_aload_n hx hb d_Checker_areJoinersRight_61 rfl (lv_at hl 0 rfl) ?_
            refine lv_iload_n hx hb d_Checker_areJoinersRight_62 rfl (lv_at hl 1 rfl) ?_
            obtain ⟨x63, hc63, h⟩ := bd_s h
            have hM := (c_Checker_isBetweenJoining l D cI cZ tt h_a1 h_a1_codes H.size N_a1_codes n_a1_size f_a1_codes v1 x63 hc63)
            refine hn_cz hE (hn_runS (As := [.ref h_a1, .int v1]) (rest := []) S hE hM cf_Checker_isBetweenJoining mw_393 mw_394 ⟨rfl, rfl⟩ ⟨Nat.le_of_ble_eq_true rfl, Nat.le_of_ble_eq_true rfl⟩ [0, 1] rfl rfl rfl rfl hl.1 (lv_room (Nat.le_of_ble_eq_true rfl)) d_Checker_areJoinersRight_63 ⟨Nat.zero_le _, Nat.zero_le _⟩) [0, 1] rfl rfl (fun H locs hz63 hE => ?_)
            have hE : hn_E D (TY cI cZ) tt A s H locs [(h_a1, .inr (0, [.ref h_a1_codes, .int n_a1_size])), (h_a1_codes, .inl (cI, N_a1_codes, .inl f_a1_codes))] := hE
            refine lv_if_ne (tgt := 71) hx hb d_Checker_areJoinersRight_66 (by decide) (fun hc => ?_) (fun hc => ?_)
            · have h := ite_f hc h
              refine lv_iinc (v := (v1 + (1 : Int32))) (lv' := [(1, .int (v1 + (1 : Int32))), (0, .ref h_a1), (2, .int v2), (3, .int v3)]) hx hb d_Checker_areJoinersRight_71 hl (k := 1) rfl rfl (by decide) rfl (fun ls hl => ?_)
              refine lv_goto (tgt := 2) hx hb d_Checker_areJoinersRight_74 (by decide) ?_
              exact hk2 (v1 + (1 : Int32)) H locs ls hE (lv_sub hl [1, 0] rfl) h
            · have h := ite_t hc h
              refine lv_iconst (v := 0) hx hb d_Checker_areJoinersRight_69 (by decide) ?_
              obtain rfl := Option.some.inj h
              exact hret H locs ls 70 d_Checker_areJoinersRight_70 narrow_b0 hE
      have hj36 : ∀ (v1 : Int32) (v2 : Int32) (s0 : Int32) (H : Heap) (locs : List Loc) (ls : Array Slot), hn_E D (TY cI cZ) tt A s H locs [(h_a1, .inr (0, [.ref h_a1_codes, .int n_a1_size])), (h_a1_codes, .inl (cI, N_a1_codes, .inl f_a1_codes))] → lv_has ls 4 [(0, .ref h_a1), (1, .int v1), (2, .int v2)] → P_Checker_areJoinersRight_36 N_a1_codes n_a1_size f_a1_codes k2 v1 v2 s0 = some o → W p l e rm_Checker_areJoinersRight s m args below meth c H locs 0 0 Q (F0 m 36 ls [.int s0]) := by
        intro v1 v2 s0 H locs ls hE hl h
        unfold P_Checker_areJoinersRight_36 at h
        refine lv_istore_n (lv' := [(3, .int s0), (0, .ref h_a1), (1, .int v1), (2, .int v2)]) hx hb d_Checker_areJoinersRight_36 rfl hl (by decide) rfl (fun ls hl => ?_)
        refine lv_iload_n hx hb d_Checker_areJoinersRight_37 rfl (lv_at hl 3 rfl) ?_
        refine lv_sipush (v := 8205) hx hb d_Checker_areJoinersRight_38 (by decide) ?_
        refine lv_icmp_ne (tgt := 50) hx hb d_Checker_areJoinersRight_41 (by decide) (fun hc => ?_) (fun hc => ?_)
        · have h := ite_f hc h
          exact hj50 v1 v2 s0 H locs ls hE (lv_sub hl [1, 2, 3, 0] rfl) h
        · have h := ite_t hc h
          refine lv_iload_n hx hb d_Checker_areJoinersRight_44 rfl (lv_at hl 0 rfl) ?_
          refine lv_if_ne (tgt := 50) hx hb d_Checker_areJoinersRight_45 (by decide) (fun hc => ?_) (fun hc => ?_)
          · have h := ite_f hc h
            exact hj50 v1 v2 s0 H locs ls hE (lv_sub hl [1, 2, 3, 0] rfl) h
          · have h := ite_t hc h
            refine lv_iconst (v := 0) hx hb d_Checker_areJoinersRight_48 (by decide) ?_
            obtain rfl := Option.some.inj h
            exact hret H locs ls 49 d_Checker_areJoinersRight_49 narrow_b0 hE
      unfold P_Checker_areJoinersRight_2 at h
      refine lv_iload_n hx hb d_Checker_areJoinersRight_2 rfl (lv_at hl 1 rfl) ?_
      refine lv_aload_n hx hb d_Checker_areJoinersRight_3 rfl (lv_at hl 0 rfl) ?_
      obtain ⟨x4, hc4, h⟩ := bd_s h
      have hM := (c_Row_size l D cI cZ tt h_a1 h_a1_codes H.size N_a1_codes n_a1_size f_a1_codes x4 hc4)
      refine hn_ci hE (hn_runV (As := []) (rest := [.int v1]) S hE hM cf_Row_size mw_382 mw_149 mw_150 ⟨rfl, rfl⟩ ⟨Nat.le_of_ble_eq_true rfl, Nat.le_of_ble_eq_true rfl⟩ [0, 1] rfl rfl rfl rfl rfl rfl hl.1 (lv_room (Nat.le_of_ble_eq_true rfl)) d_Checker_areJoinersRight_4 ⟨Nat.zero_le _, Nat.zero_le _⟩) [0, 1] rfl rfl (fun H locs hE => ?_)
      have hE : hn_E D (TY cI cZ) tt A s H locs [(h_a1, .inr (0, [.ref h_a1_codes, .int n_a1_size])), (h_a1_codes, .inl (cI, N_a1_codes, .inl f_a1_codes))] := hE
      refine lv_icmp_ge (tgt := 77) hx hb d_Checker_areJoinersRight_7 (by decide) (fun hc => ?_) (fun hc => ?_)
      · have h := ite_t hc h
        refine lv_iconst (v := 1) hx hb d_Checker_areJoinersRight_77 (by decide) ?_
        obtain rfl := Option.some.inj h
        exact hret H locs ls 78 d_Checker_areJoinersRight_78 narrow_b1 hE
      · have h := ite_f hc h
        refine lv_aload_n hx hb d_Checker_areJoinersRight_10 rfl (lv_at hl 0 rfl) ?_
        refine lv_iload_n hx hb d_Checker_areJoinersRight_11 rfl (lv_at hl 1 rfl) ?_
        obtain ⟨x12, hc12, h⟩ := bd_s h
        have hM := (c_Row_get l D cI cZ tt h_a1 h_a1_codes H.size N_a1_codes n_a1_size f_a1_codes v1 x12 hc12)
        refine hn_ci hE (hn_runV (As := [.int v1]) (rest := []) S hE hM cf_Row_get mw_271 mw_169 mw_170 ⟨rfl, rfl⟩ ⟨Nat.le_of_ble_eq_true rfl, Nat.le_of_ble_eq_true rfl⟩ [0, 1] rfl rfl rfl rfl rfl rfl hl.1 (lv_room (Nat.le_of_ble_eq_true rfl)) d_Checker_areJoinersRight_12 ⟨Nat.zero_le _, Nat.zero_le _⟩) [0, 1] rfl rfl (fun H locs hE => ?_)
        have hE : hn_E D (TY cI cZ) tt A s H locs [(h_a1, .inr (0, [.ref h_a1_codes, .int n_a1_size])), (h_a1_codes, .inl (cI, N_a1_codes, .inl f_a1_codes))] := hE
        refine lv_istore_n (lv' := [(2, .int x12), (0, .ref h_a1), (1, .int v1)]) hx hb d_Checker_areJoinersRight_15 rfl hl (by decide) rfl (fun ls hl => ?_)
        refine lv_aload_n hx hb d_Checker_areJoinersRight_16 rfl (lv_at hl 1 rfl) ?_
        refine lv_iload_n hx hb d_Checker_areJoinersRight_17 rfl (lv_at hl 2 rfl) ?_
        refine lv_iconst (v := 1) hx hb d_Checker_areJoinersRight_18 (by decide) ?_
        refine lv_isub hx hb d_Checker_areJoinersRight_19 ?_
        obtain ⟨x20, hc20, h⟩ := bd_s h
        have hM := (c_Row_get l D cI cZ tt h_a1 h_a1_codes H.size N_a1_codes n_a1_size f_a1_codes (v1 - (1 : Int32)) x20 hc20)
        refine hn_ci hE (hn_runV (As := [.int (v1 - (1 : Int32))]) (rest := []) S hE hM cf_Row_get mw_271 mw_169 mw_170 ⟨rfl, rfl⟩ ⟨Nat.le_of_ble_eq_true rfl, Nat.le_of_ble_eq_true rfl⟩ [0, 1] rfl rfl rfl rfl rfl rfl hl.1 (lv_room (Nat.le_of_ble_eq_true rfl)) d_Checker_areJoinersRight_20 ⟨Nat.zero_le _, Nat.zero_le _⟩) [0, 1] rfl rfl (fun H locs hE => ?_)
        have hE : hn_E D (TY cI cZ) tt A s H locs [(h_a1, .inr (0, [.ref h_a1_codes, .int n_a1_size])), (h_a1_codes, .inl (cI, N_a1_codes, .inl f_a1_codes))] := hE
        obtain ⟨x23, hc23, h⟩ := bd_s h
        have hM := (c_Codes_order l D cI cZ tt H.size x20 x23 hc23)
        refine hn_ci hE (hn_runS (As := [.int x20]) (rest := []) S hE hM cf_Codes_order mw_392 mw_234 ⟨rfl, rfl⟩ ⟨Nat.le_of_ble_eq_true rfl, Nat.le_of_ble_eq_true rfl⟩ [] rfl rfl rfl rfl hl.1 (lv_room (Nat.le_of_ble_eq_true rfl)) d_Checker_areJoinersRight_23 ⟨Nat.zero_le _, Nat.zero_le _⟩) [] rfl rfl (fun H locs hE => ?_)
        have hE : hn_E D (TY cI cZ) tt A s H locs [(h_a1, .inr (0, [.ref h_a1_codes, .int n_a1_size])), (h_a1_codes, .inl (cI, N_a1_codes, .inl f_a1_codes))] := hE
        refine lv_bipush (v := 9) hx hb d_Checker_areJoinersRight_26 (by decide) ?_
        refine lv_icmp_ne (tgt := 35) hx hb d_Checker_areJoinersRight_28 (by decide) (fun hc => ?_) (fun hc => ?_)
        · have h := ite_f hc h
          refine lv_iconst (v := 0) hx hb d_Checker_areJoinersRight_35 (by decide) ?_
          exact hj36 v1 x12 (0 : Int32) H locs ls hE (lv_sub hl [1, 2, 0] rfl) h
        · have h := ite_t hc h
          refine lv_iconst (v := 1) hx hb d_Checker_areJoinersRight_31 (by decide) ?_
          refine lv_goto (tgt := 36) hx hb d_Checker_areJoinersRight_32 (by decide) ?_
          exact hj36 v1 x12 (1 : Int32) H locs ls hE (lv_sub hl [1, 2, 0] rfl) h
  unfold P_Checker_areJoinersRight at h
  refine lv_iconst (v := 0) hx hb d_Checker_areJoinersRight_0 (by decide) ?_
  refine lv_istore_n (lv' := [(1, .int (0 : Int32)), (0, .ref h_a1)]) hx hb d_Checker_areJoinersRight_1 rfl hl (by decide) rfl (fun ls hl => ?_)
  exact hL2 fu (0 : Int32) H locs ls hE (lv_sub hl [1, 0] rfl) h
abbrev rm_Checker_isDirectionRight : Room := { frames := 3, cells := 0, slots := 0, locals := 62 }
theorem cf_Checker_isDirectionRight : hn_CF y_Checker_isDirectionRight b_Checker_isDirectionRight 6 (some .boolean) 1 := ⟨mw_404, mw_6, by decide, by decide, by decide +kernel⟩
set_option maxHeartbeats 4000000 in
set_option maxRecDepth 100000 in
theorem c_Checker_isDirectionRight (l : Launch) (D : va_G) (cI cZ : ClassId) (tt : Nat → Nat) (h_a1 h_a1_codes : Nat) (sz : Nat) (N_a1_codes : Nat) (n_a1_size : Int32) (f_a1_codes : Nat → Int32) (o : Int32) (h : P_Checker_isDirectionRight N_a1_codes n_a1_size f_a1_codes = some o) : Met l y_Checker_isDirectionRight (hn_w y_Checker_isDirectionRight b_Checker_isDirectionRight 6 (some .boolean)) rm_Checker_isDirectionRight (hn_Pc D (TY cI cZ) tt [.ref h_a1] sz [(h_a1, .inr (0, [.ref h_a1_codes, .int n_a1_size])), (h_a1_codes, .inl (cI, N_a1_codes, .inl f_a1_codes))]) (hn_Qz D [(h_a1, .inr (0, [.ref h_a1_codes, .int n_a1_size])), (h_a1_codes, .inl (cI, N_a1_codes, .inl f_a1_codes))] sz [(h_a1, .inr (0, [.ref h_a1_codes, .int n_a1_size])), (h_a1_codes, .inl (cI, N_a1_codes, .inl f_a1_codes))] o) 0 0 (va_A [(h_a1, .inr (0, [.ref h_a1_codes, .int n_a1_size])), (h_a1_codes, .inl (cI, N_a1_codes, .inl f_a1_codes))] sz) := by
  refine hn_ofWz (own := R_Checker) (by decide) rfl (Nat.le_of_ble_eq_true rfl) ?_
  intro p e s m args below meth c A H locs ls Q S hE hl hret
  have hx := S.1
  have hb := S.2.1
  have hown := S.2.2.2.1
  have hl : lv_has ls 6 [(0, .ref h_a1)] := hl
  have hj143 : ∀ (v2 : Int32) (v4 : Int32) (s0 : Int32) (H : Heap) (locs : List Loc) (ls : Array Slot), hn_E D (TY cI cZ) tt A s H locs [(h_a1, .inr (0, [.ref h_a1_codes, .int n_a1_size])), (h_a1_codes, .inl (cI, N_a1_codes, .inl f_a1_codes))] → lv_has ls 6 [(2, .int v2), (4, .int v4)] → P_Checker_isDirectionRight_143 v2 v4 s0 = some o → W p l e rm_Checker_isDirectionRight s m args below meth c H locs 0 0 Q (F0 m 143 ls [.int s0]) := by
    intro v2 v4 s0 H locs ls hE hl h
    unfold P_Checker_isDirectionRight_143 at h
    refine lv_istore (lv' := [(5, .int s0), (2, .int v2), (4, .int v4)]) hx hb d_Checker_isDirectionRight_143 hl (by decide) rfl (fun ls hl => ?_)
    refine lv_iload_n hx hb d_Checker_isDirectionRight_145 rfl (lv_at hl 1 rfl) ?_
    refine lv_iconst (v := 1) hx hb d_Checker_isDirectionRight_146 (by decide) ?_
    refine lv_iand hx hb d_Checker_isDirectionRight_147 ?_
    refine lv_if_ne (tgt := 165) hx hb d_Checker_isDirectionRight_148 (by decide) (fun hc => ?_) (fun hc => ?_)
    · have h := ite_f hc h
      refine lv_iconst (v := 0) hx hb d_Checker_isDirectionRight_165 (by decide) ?_
      obtain rfl := Option.some.inj h
      exact hret H locs ls 166 d_Checker_isDirectionRight_166 narrow_b0 hE
    · have h := ite_t hc h
      refine lv_iload hx hb d_Checker_isDirectionRight_151 (lv_at hl 2 rfl) ?_
      refine lv_if_ne (tgt := 165) hx hb d_Checker_isDirectionRight_153 (by decide) (fun hc => ?_) (fun hc => ?_)
      · have h := ite_f hc h
        refine lv_iconst (v := 0) hx hb d_Checker_isDirectionRight_165 (by decide) ?_
        obtain rfl := Option.some.inj h
        exact hret H locs ls 166 d_Checker_isDirectionRight_166 narrow_b0 hE
      · have h := ite_t hc h
        refine lv_iload hx hb d_Checker_isDirectionRight_156 (lv_at hl 0 rfl) ?_
        refine lv_if_eq (tgt := 165) hx hb d_Checker_isDirectionRight_158 (by decide) (fun hc => ?_) (fun hc => ?_)
        · have h := ite_t hc h
          refine lv_iconst (v := 0) hx hb d_Checker_isDirectionRight_165 (by decide) ?_
          obtain rfl := Option.some.inj h
          exact hret H locs ls 166 d_Checker_isDirectionRight_166 narrow_b0 hE
        · have h := ite_f hc h
          refine lv_iconst (v := 1) hx hb d_Checker_isDirectionRight_161 (by decide) ?_
          refine lv_goto (tgt := 166) hx hb d_Checker_isDirectionRight_162 (by decide) ?_
          obtain rfl := Option.some.inj h
          exact hret H locs ls 166 d_Checker_isDirectionRight_166 narrow_b1 hE
  have hj129 : ∀ (v2 : Int32) (v3 : Int32) (s0 : Int32) (H : Heap) (locs : List Loc) (ls : Array Slot), hn_E D (TY cI cZ) tt A s H locs [(h_a1, .inr (0, [.ref h_a1_codes, .int n_a1_size])), (h_a1_codes, .inl (cI, N_a1_codes, .inl f_a1_codes))] → lv_has ls 6 [(2, .int v2), (3, .int v3)] → P_Checker_isDirectionRight_129 v2 v3 s0 = some o → W p l e rm_Checker_isDirectionRight s m args below meth c H locs 0 0 Q (F0 m 129 ls [.int s0]) := by
    intro v2 v3 s0 H locs ls hE hl h
    unfold P_Checker_isDirectionRight_129 at h
    refine lv_istore (lv' := [(4, .int s0), (2, .int v2), (3, .int v3)]) hx hb d_Checker_isDirectionRight_129 hl (by decide) rfl (fun ls hl => ?_)
    refine lv_iload_n hx hb d_Checker_isDirectionRight_131 rfl (lv_at hl 2 rfl) ?_
    refine lv_bipush (v := 30) hx hb d_Checker_isDirectionRight_132 (by decide) ?_
    refine lv_iand hx hb d_Checker_isDirectionRight_134 ?_
    refine lv_if_eq (tgt := 142) hx hb d_Checker_isDirectionRight_135 (by decide) (fun hc => ?_) (fun hc => ?_)
    · have h := ite_t hc h
      refine lv_iconst (v := 0) hx hb d_Checker_isDirectionRight_142 (by decide) ?_
      exact hj143 v2 s0 (0 : Int32) H locs ls hE (lv_sub hl [1, 0] rfl) h
    · have h := ite_f hc h
      refine lv_iconst (v := 1) hx hb d_Checker_isDirectionRight_138 (by decide) ?_
      refine lv_goto (tgt := 143) hx hb d_Checker_isDirectionRight_139 (by decide) ?_
      exact hj143 v2 s0 (1 : Int32) H locs ls hE (lv_sub hl [1, 0] rfl) h
  have hj110 : ∀ (v2 : Int32) (v3 : Int32) (H : Heap) (locs : List Loc) (ls : Array Slot), hn_E D (TY cI cZ) tt A s H locs [(h_a1, .inr (0, [.ref h_a1_codes, .int n_a1_size])), (h_a1_codes, .inl (cI, N_a1_codes, .inl f_a1_codes))] → lv_has ls 6 [(2, .int v2), (3, .int v3)] → P_Checker_isDirectionRight_110 v2 v3 = some o → W p l e rm_Checker_isDirectionRight s m args below meth c H locs 0 0 Q (F0 m 110 ls []) := by
    intro v2 v3 H locs ls hE hl h
    unfold P_Checker_isDirectionRight_110 at h
    refine lv_iload_n hx hb d_Checker_isDirectionRight_110 rfl (lv_at hl 0 rfl) ?_
    refine lv_bipush (v := 16) hx hb d_Checker_isDirectionRight_111 (by decide) ?_
    refine lv_iand hx hb d_Checker_isDirectionRight_113 ?_
    refine lv_if_eq (tgt := 128) hx hb d_Checker_isDirectionRight_114 (by decide) (fun hc => ?_) (fun hc => ?_)
    · have h := ite_t hc h
      refine lv_iconst (v := 0) hx hb d_Checker_isDirectionRight_128 (by decide) ?_
      exact hj129 v2 v3 (0 : Int32) H locs ls hE (lv_sub hl [0, 1] rfl) h
    · have h := ite_f hc h
      refine lv_iload_n hx hb d_Checker_isDirectionRight_117 rfl (lv_at hl 0 rfl) ?_
      refine lv_bipush (v := 8) hx hb d_Checker_isDirectionRight_118 (by decide) ?_
      refine lv_iand hx hb d_Checker_isDirectionRight_120 ?_
      refine lv_if_eq (tgt := 128) hx hb d_Checker_isDirectionRight_121 (by decide) (fun hc => ?_) (fun hc => ?_)
      · have h := ite_t hc h
        refine lv_iconst (v := 0) hx hb d_Checker_isDirectionRight_128 (by decide) ?_
        exact hj129 v2 v3 (0 : Int32) H locs ls hE (lv_sub hl [0, 1] rfl) h
      · have h := ite_f hc h
        refine lv_iconst (v := 1) hx hb d_Checker_isDirectionRight_124 (by decide) ?_
        refine lv_goto (tgt := 129) hx hb d_Checker_isDirectionRight_125 (by decide) ?_
        exact hj129 v2 v3 (1 : Int32) H locs ls hE (lv_sub hl [0, 1] rfl) h
  have hj78 : ∀ (v3 : Int32) (s0 : Int32) (H : Heap) (locs : List Loc) (ls : Array Slot), hn_E D (TY cI cZ) tt A s H locs [(h_a1, .inr (0, [.ref h_a1_codes, .int n_a1_size])), (h_a1_codes, .inl (cI, N_a1_codes, .inl f_a1_codes))] → lv_has ls 6 [(3, .int v3)] → P_Checker_isDirectionRight_78 v3 s0 = some o → W p l e rm_Checker_isDirectionRight s m args below meth c H locs 0 0 Q (F0 m 78 ls [.int s0]) := by
    intro v3 s0 H locs ls hE hl h
    unfold P_Checker_isDirectionRight_78 at h
    refine lv_istore (lv' := [(4, .int s0), (3, .int v3)]) hx hb d_Checker_isDirectionRight_78 hl (by decide) rfl (fun ls hl => ?_)
    refine lv_iload hx hb d_Checker_isDirectionRight_80 (lv_at hl 0 rfl) ?_
    refine lv_if_ne (tgt := 96) hx hb d_Checker_isDirectionRight_82 (by decide) (fun hc => ?_) (fun hc => ?_)
    · have h := ite_f hc h
      refine lv_iconst (v := 0) hx hb d_Checker_isDirectionRight_96 (by decide) ?_
      obtain rfl := Option.some.inj h
      exact hret H locs ls 97 d_Checker_isDirectionRight_97 narrow_b0 hE
    · have h := ite_t hc h
      refine lv_iload_n hx hb d_Checker_isDirectionRight_85 rfl (lv_at hl 1 rfl) ?_
      refine lv_bipush (v := 17) hx hb d_Checker_isDirectionRight_86 (by decide) ?_
      refine lv_iand hx hb d_Checker_isDirectionRight_88 ?_
      refine lv_if_eq (tgt := 96) hx hb d_Checker_isDirectionRight_89 (by decide) (fun hc => ?_) (fun hc => ?_)
      · have h := ite_t hc h
        refine lv_iconst (v := 0) hx hb d_Checker_isDirectionRight_96 (by decide) ?_
        obtain rfl := Option.some.inj h
        exact hret H locs ls 97 d_Checker_isDirectionRight_97 narrow_b0 hE
      · have h := ite_f hc h
        refine lv_iconst (v := 1) hx hb d_Checker_isDirectionRight_92 (by decide) ?_
        refine lv_goto (tgt := 97) hx hb d_Checker_isDirectionRight_93 (by decide) ?_
        obtain rfl := Option.some.inj h
        exact hret H locs ls 97 d_Checker_isDirectionRight_97 narrow_b1 hE
  have hL16 : ∀ (v1 : Int32) (kf : Nat) (v2 : Int32) (v3 : Int32) (v4 : Int32) (H : Heap) (locs : List Loc) (ls : Array Slot), hn_E D (TY cI cZ) tt A s H locs [(h_a1, .inr (0, [.ref h_a1_codes, .int n_a1_size])), (h_a1_codes, .inl (cI, N_a1_codes, .inl f_a1_codes))] → lv_has ls 6 [(0, .ref h_a1), (1, .int v1), (2, .int v2), (3, .int v3), (4, .int v4)] → fl3 (P_Checker_isDirectionRight_16 N_a1_codes n_a1_size f_a1_codes v1) kf v2 v3 v4 = some o → W p l e rm_Checker_isDirectionRight s m args below meth c H locs 0 0 Q (F0 m 16 ls []) := by
    intro v1 kf
    induction kf with
    | zero => intro v2 v3 v4 H locs ls hE hl h; exact no_s h
    | succ kf ih =>
      intro v2 v3 v4 H locs ls hE hl h
      have h : P_Checker_isDirectionRight_16 N_a1_codes n_a1_size f_a1_codes v1 (fl3 (P_Checker_isDirectionRight_16 N_a1_codes n_a1_size f_a1_codes v1) kf) v2 v3 v4 = some o := h
      generalize fl3 (P_Checker_isDirectionRight_16 N_a1_codes n_a1_size f_a1_codes v1) kf = k16 at ih h
      have hk16 := ih
      unfold P_Checker_isDirectionRight_16 at h
      refine lv_iload hx hb d_Checker_isDirectionRight_16 (lv_at hl 4 rfl) ?_
      refine lv_aload_n hx hb d_Checker_isDirectionRight_18 rfl (lv_at hl 0 rfl) ?_
      obtain ⟨x19, hc19, h⟩ := bd_s h
      have hM := (c_Row_size l D cI cZ tt h_a1 h_a1_codes H.size N_a1_codes n_a1_size f_a1_codes x19 hc19)
      refine hn_ci hE (hn_runV (As := []) (rest := [.int v4]) S hE hM cf_Row_size mw_382 mw_149 mw_150 ⟨rfl, rfl⟩ ⟨Nat.le_of_ble_eq_true rfl, Nat.le_of_ble_eq_true rfl⟩ [0, 1] rfl rfl rfl rfl rfl rfl hl.1 (lv_room (Nat.le_of_ble_eq_true rfl)) d_Checker_isDirectionRight_19 ⟨Nat.zero_le _, Nat.zero_le _⟩) [0, 1] rfl rfl (fun H locs hE => ?_)
      have hE : hn_E D (TY cI cZ) tt A s H locs [(h_a1, .inr (0, [.ref h_a1_codes, .int n_a1_size])), (h_a1_codes, .inl (cI, N_a1_codes, .inl f_a1_codes))] := hE
      refine lv_icmp_ge (tgt := 61) hx hb d_Checker_isDirectionRight_22 (by decide) (fun hc => ?_) (fun hc => ?_)
      · have h := ite_t hc h
        refine lv_iload_n hx hb d_Checker_isDirectionRight_61 rfl (lv_at hl 1 rfl) ?_
        refine lv_iconst (v := 1) hx hb d_Checker_isDirectionRight_62 (by decide) ?_
        refine lv_icmp_ne (tgt := 98) hx hb d_Checker_isDirectionRight_63 (by decide) (fun hc => ?_) (fun hc => ?_)
        · have h := ite_f hc h
          refine lv_iload_n hx hb d_Checker_isDirectionRight_98 rfl (lv_at hl 1 rfl) ?_
          refine lv_iconst (v := 2) hx hb d_Checker_isDirectionRight_99 (by decide) ?_
          refine lv_icmp_eq (tgt := 110) hx hb d_Checker_isDirectionRight_100 (by decide) (fun hc => ?_) (fun hc => ?_)
          · have h := ite_t hc h
            exact hj110 v2 v3 H locs ls hE (lv_sub hl [2, 3] rfl) h
          · have h := ite_f hc h
            refine lv_iload_n hx hb d_Checker_isDirectionRight_103 rfl (lv_at hl 1 rfl) ?_
            refine lv_iconst (v := 4) hx hb d_Checker_isDirectionRight_104 (by decide) ?_
            refine lv_icmp_eq (tgt := 110) hx hb d_Checker_isDirectionRight_105 (by decide) (fun hc => ?_) (fun hc => ?_)
            · have h := ite_t hc h
              exact hj110 v2 v3 H locs ls hE (lv_sub hl [2, 3] rfl) h
            · have h := ite_f hc h
              refine lv_iconst (v := 0) hx hb d_Checker_isDirectionRight_108 (by decide) ?_
              obtain rfl := Option.some.inj h
              exact hret H locs ls 109 d_Checker_isDirectionRight_109 narrow_b0 hE
        · have h := ite_t hc h
          refine lv_iload_n hx hb d_Checker_isDirectionRight_66 rfl (lv_at hl 2 rfl) ?_
          refine lv_bipush (v := 14) hx hb d_Checker_isDirectionRight_67 (by decide) ?_
          refine lv_iand hx hb d_Checker_isDirectionRight_69 ?_
          refine lv_if_eq (tgt := 77) hx hb d_Checker_isDirectionRight_70 (by decide) (fun hc => ?_) (fun hc => ?_)
          · have h := ite_t hc h
            refine lv_iconst (v := 0) hx hb d_Checker_isDirectionRight_77 (by decide) ?_
            exact hj78 v3 (0 : Int32) H locs ls hE (lv_sub hl [3] rfl) h
          · have h := ite_f hc h
            refine lv_iconst (v := 1) hx hb d_Checker_isDirectionRight_73 (by decide) ?_
            refine lv_goto (tgt := 78) hx hb d_Checker_isDirectionRight_74 (by decide) ?_
            exact hj78 v3 (1 : Int32) H locs ls hE (lv_sub hl [3] rfl) h
      · have h := ite_f hc h
        refine lv_aload_n hx hb d_Checker_isDirectionRight_25 rfl (lv_at hl 0 rfl) ?_
        refine lv_iload hx hb d_Checker_isDirectionRight_26 (lv_at hl 4 rfl) ?_
        obtain ⟨x28, hc28, h⟩ := bd_s h
        have hM := (c_Row_get l D cI cZ tt h_a1 h_a1_codes H.size N_a1_codes n_a1_size f_a1_codes v4 x28 hc28)
        refine hn_ci hE (hn_runV (As := [.int v4]) (rest := []) S hE hM cf_Row_get mw_271 mw_169 mw_170 ⟨rfl, rfl⟩ ⟨Nat.le_of_ble_eq_true rfl, Nat.le_of_ble_eq_true rfl⟩ [0, 1] rfl rfl rfl rfl rfl rfl hl.1 (lv_room (Nat.le_of_ble_eq_true rfl)) d_Checker_isDirectionRight_28 ⟨Nat.zero_le _, Nat.zero_le _⟩) [0, 1] rfl rfl (fun H locs hE => ?_)
        have hE : hn_E D (TY cI cZ) tt A s H locs [(h_a1, .inr (0, [.ref h_a1_codes, .int n_a1_size])), (h_a1_codes, .inl (cI, N_a1_codes, .inl f_a1_codes))] := hE
        obtain ⟨x31, hc31, h⟩ := bd_s h
        have hM := (c_Codes_direction l D cI cZ tt H.size x28 x31 hc31)
        refine hn_ci hE (hn_runS (As := [.int x28]) (rest := []) S hE hM cf_Codes_direction mw_405 mw_339 ⟨rfl, rfl⟩ ⟨Nat.le_of_ble_eq_true rfl, Nat.le_of_ble_eq_true rfl⟩ [] rfl rfl rfl rfl hl.1 (lv_room (Nat.le_of_ble_eq_true rfl)) d_Checker_isDirectionRight_31 ⟨Nat.zero_le _, Nat.zero_le _⟩) [] rfl rfl (fun H locs hE => ?_)
        have hE : hn_E D (TY cI cZ) tt A s H locs [(h_a1, .inr (0, [.ref h_a1_codes, .int n_a1_size])), (h_a1_codes, .inl (cI, N_a1_codes, .inl f_a1_codes))] := hE
        refine lv_istore (lv' := [(5, .int x31), (0, .ref h_a1), (1, .int v1), (2, .int v2), (3, .int v3), (4, .int v4)]) hx hb d_Checker_isDirectionRight_34 hl (by decide) rfl (fun ls hl => ?_)
        refine lv_iload_n hx hb d_Checker_isDirectionRight_36 rfl (lv_at hl 3 rfl) ?_
        refine lv_iload hx hb d_Checker_isDirectionRight_37 (lv_at hl 0 rfl) ?_
        refine lv_ior hx hb d_Checker_isDirectionRight_39 ?_
        refine lv_istore_n (lv' := [(2, .int (v2 ||| x31)), (5, .int x31), (0, .ref h_a1), (1, .int v1), (3, .int v3), (4, .int v4)]) hx hb d_Checker_isDirectionRight_40 rfl hl (by decide) rfl (fun ls hl => ?_)
        refine lv_iload hx hb d_Checker_isDirectionRight_41 (lv_at hl 1 rfl) ?_
        refine lv_bipush (v := 64) hx hb d_Checker_isDirectionRight_43 (by decide) ?_
        refine lv_icmp_ne (tgt := 52) hx hb d_Checker_isDirectionRight_45 (by decide) (fun hc => ?_) (fun hc => ?_)
        · have h := ite_f hc h
          refine lv_iload hx hb d_Checker_isDirectionRight_52 (lv_at hl 1 rfl) ?_
          refine lv_istore_n (lv' := [(3, .int x31), (2, .int (v2 ||| x31)), (5, .int x31), (0, .ref h_a1), (1, .int v1), (4, .int v4)]) hx hb d_Checker_isDirectionRight_54 rfl hl (by decide) rfl (fun ls hl => ?_)
          refine lv_iinc (v := (v4 + (1 : Int32))) (lv' := [(4, .int (v4 + (1 : Int32))), (3, .int x31), (2, .int (v2 ||| x31)), (5, .int x31), (0, .ref h_a1), (1, .int v1)]) hx hb d_Checker_isDirectionRight_55 hl (k := 5) rfl rfl (by decide) rfl (fun ls hl => ?_)
          refine lv_goto (tgt := 16) hx hb d_Checker_isDirectionRight_58 (by decide) ?_
          exact hk16 (v2 ||| x31) x31 (v4 + (1 : Int32)) H locs ls hE (lv_sub hl [4, 5, 2, 1, 0] rfl) h
        · have h := ite_t hc h
          refine lv_iload_n hx hb d_Checker_isDirectionRight_48 rfl (lv_at hl 4 rfl) ?_
          refine lv_goto (tgt := 54) hx hb d_Checker_isDirectionRight_49 (by decide) ?_
          refine lv_istore_n (lv' := [(3, .int v3), (2, .int (v2 ||| x31)), (5, .int x31), (0, .ref h_a1), (1, .int v1), (4, .int v4)]) hx hb d_Checker_isDirectionRight_54 rfl hl (by decide) rfl (fun ls hl => ?_)
          refine lv_iinc (v := (v4 + (1 : Int32))) (lv' := [(4, .int (v4 + (1 : Int32))), (3, .int v3), (2, .int (v2 ||| x31)), (5, .int x31), (0, .ref h_a1), (1, .int v1)]) hx hb d_Checker_isDirectionRight_55 hl (k := 5) rfl rfl (by decide) rfl (fun ls hl => ?_)
          refine lv_goto (tgt := 16) hx hb d_Checker_isDirectionRight_58 (by decide) ?_
          exact hk16 (v2 ||| x31) v3 (v4 + (1 : Int32)) H locs ls hE (lv_sub hl [4, 5, 2, 1, 0] rfl) h
  unfold P_Checker_isDirectionRight at h
  refine lv_aload_n hx hb d_Checker_isDirectionRight_0 rfl (lv_at hl 0 rfl) ?_
  refine lv_iconst (v := 0) hx hb d_Checker_isDirectionRight_1 (by decide) ?_
  obtain ⟨x2, hc2, h⟩ := bd_s h
  have hM := (c_Row_get l D cI cZ tt h_a1 h_a1_codes H.size N_a1_codes n_a1_size f_a1_codes (0 : Int32) x2 hc2)
  refine hn_ci hE (hn_runV (As := [.int (0 : Int32)]) (rest := []) S hE hM cf_Row_get mw_271 mw_169 mw_170 ⟨rfl, rfl⟩ ⟨Nat.le_of_ble_eq_true rfl, Nat.le_of_ble_eq_true rfl⟩ [0, 1] rfl rfl rfl rfl rfl rfl hl.1 (lv_room (Nat.le_of_ble_eq_true rfl)) d_Checker_isDirectionRight_2 ⟨Nat.zero_le _, Nat.zero_le _⟩) [0, 1] rfl rfl (fun H locs hE => ?_)
  have hE : hn_E D (TY cI cZ) tt A s H locs [(h_a1, .inr (0, [.ref h_a1_codes, .int n_a1_size])), (h_a1_codes, .inl (cI, N_a1_codes, .inl f_a1_codes))] := hE
  obtain ⟨x5, hc5, h⟩ := bd_s h
  have hM := (c_Codes_direction l D cI cZ tt H.size x2 x5 hc5)
  refine hn_ci hE (hn_runS (As := [.int x2]) (rest := []) S hE hM cf_Codes_direction mw_405 mw_339 ⟨rfl, rfl⟩ ⟨Nat.le_of_ble_eq_true rfl, Nat.le_of_ble_eq_true rfl⟩ [] rfl rfl rfl rfl hl.1 (lv_room (Nat.le_of_ble_eq_true rfl)) d_Checker_isDirectionRight_5 ⟨Nat.zero_le _, Nat.zero_le _⟩) [] rfl rfl (fun H locs hE => ?_)
  have hE : hn_E D (TY cI cZ) tt A s H locs [(h_a1, .inr (0, [.ref h_a1_codes, .int n_a1_size])), (h_a1_codes, .inl (cI, N_a1_codes, .inl f_a1_codes))] := hE
  refine lv_istore_n (lv' := [(1, .int x5), (0, .ref h_a1)]) hx hb d_Checker_isDirectionRight_8 rfl hl (by decide) rfl (fun ls hl => ?_)
  refine lv_iconst (v := 0) hx hb d_Checker_isDirectionRight_9 (by decide) ?_
  refine lv_istore_n (lv' := [(2, .int (0 : Int32)), (1, .int x5), (0, .ref h_a1)]) hx hb d_Checker_isDirectionRight_10 rfl hl (by decide) rfl (fun ls hl => ?_)
  refine lv_iload_n hx hb d_Checker_isDirectionRight_11 rfl (lv_at hl 1 rfl) ?_
  refine lv_istore_n (lv' := [(3, .int x5), (2, .int (0 : Int32)), (1, .int x5), (0, .ref h_a1)]) hx hb d_Checker_isDirectionRight_12 rfl hl (by decide) rfl (fun ls hl => ?_)
  refine lv_iconst (v := 0) hx hb d_Checker_isDirectionRight_13 (by decide) ?_
  refine lv_istore (lv' := [(4, .int (0 : Int32)), (3, .int x5), (2, .int (0 : Int32)), (1, .int x5), (0, .ref h_a1)]) hx hb d_Checker_isDirectionRight_14 hl (by decide) rfl (fun ls hl => ?_)
  exact hL16 x5 fu (0 : Int32) x5 (0 : Int32) H locs ls hE (lv_sub hl [4, 3, 2, 1, 0] rfl) h
abbrev rm_Checker_brokenRules : Room := { frames := 4, cells := 0, slots := 0, locals := 92 }
theorem cf_Checker_brokenRules : hn_CF y_Checker_brokenRules b_Checker_brokenRules 5 (some .int) 3 := ⟨mw_371, mw_6, by decide, by decide, by decide +kernel⟩
set_option maxHeartbeats 4000000 in
set_option maxRecDepth 100000 in
theorem c_Checker_brokenRules (l : Launch) (D : va_G) (cI cZ : ClassId) (tt : Nat → Nat) (h_this h_this_composer h_this_composer_parts h_this_composer_parts_codes h_this_form h_this_form_codes h_a1 h_a1_codes : Nat) (sz : Nat) (N_a1_codes : Nat) (n_this_composer_parts_size : Int32) (f_this_composer_parts_codes : Nat → Int32) (n_this_form_size : Int32) (f_this_form_codes : Nat → Int32) (n_a1_size : Int32) (f_a1_codes : Nat → Int32) (a2 : Int32) (a3 : Int32) (o : Int32 × Int32 × (Nat → Int32) × Int32 × (Nat → Int32)) (h : P_Checker_brokenRules N_a1_codes f_this_composer_parts_codes f_this_form_codes n_a1_size f_a1_codes a2 a3 = some o) : Met l y_Checker_brokenRules (hn_w y_Checker_brokenRules b_Checker_brokenRules 5 (some .int)) rm_Checker_brokenRules (hn_Pc D (TY cI cZ) tt [.ref h_this, .ref h_a1, .int a2, .int a3] sz [(h_this, .inr (4, [.ref h_this_composer, .ref h_this_form])), (h_this_composer, .inr (2, [.ref h_this_composer_parts])), (h_this_composer_parts, .inr (0, [.ref h_this_composer_parts_codes, .int n_this_composer_parts_size])), (h_this_composer_parts_codes, .inl (cI, 96, .inl f_this_composer_parts_codes)), (h_this_form, .inr (0, [.ref h_this_form_codes, .int n_this_form_size])), (h_this_form_codes, .inl (cI, 96, .inl f_this_form_codes)), (h_a1, .inr (0, [.ref h_a1_codes, .int n_a1_size])), (h_a1_codes, .inl (cI, N_a1_codes, .inl f_a1_codes))]) (hn_Qi D [(h_this, .inr (4, [.ref h_this_composer, .ref h_this_form])), (h_this_composer, .inr (2, [.ref h_this_composer_parts])), (h_this_composer_parts, .inr (0, [.ref h_this_composer_parts_codes, .int n_this_composer_parts_size])), (h_this_composer_parts_codes, .inl (cI, 96, .inl f_this_composer_parts_codes)), (h_this_form, .inr (0, [.ref h_this_form_codes, .int n_this_form_size])), (h_this_form_codes, .inl (cI, 96, .inl f_this_form_codes)), (h_a1, .inr (0, [.ref h_a1_codes, .int n_a1_size])), (h_a1_codes, .inl (cI, N_a1_codes, .inl f_a1_codes))] sz [(h_this, .inr (4, [.ref h_this_composer, .ref h_this_form])), (h_this_composer, .inr (2, [.ref h_this_composer_parts])), (h_this_composer_parts, .inr (0, [.ref h_this_composer_parts_codes, .int o.2.1])), (h_this_composer_parts_codes, .inl (cI, 96, .inl o.2.2.1)), (h_this_form, .inr (0, [.ref h_this_form_codes, .int o.2.2.2.1])), (h_this_form_codes, .inl (cI, 96, .inl o.2.2.2.2)), (h_a1, .inr (0, [.ref h_a1_codes, .int n_a1_size])), (h_a1_codes, .inl (cI, N_a1_codes, .inl f_a1_codes))] o.1) 0 0 (va_A [(h_this, .inr (4, [.ref h_this_composer, .ref h_this_form])), (h_this_composer, .inr (2, [.ref h_this_composer_parts])), (h_this_composer_parts, .inr (0, [.ref h_this_composer_parts_codes, .int n_this_composer_parts_size])), (h_this_composer_parts_codes, .inl (cI, 96, .inl f_this_composer_parts_codes)), (h_this_form, .inr (0, [.ref h_this_form_codes, .int n_this_form_size])), (h_this_form_codes, .inl (cI, 96, .inl f_this_form_codes)), (h_a1, .inr (0, [.ref h_a1_codes, .int n_a1_size])), (h_a1_codes, .inl (cI, N_a1_codes, .inl f_a1_codes))] sz) := by
  refine hn_ofWi (own := R_Checker) (by decide) rfl (Nat.le_of_ble_eq_true rfl) ?_
  intro p e s m args below meth c A H locs ls Q S hE hl hret
  have hx := S.1
  have hb := S.2.1
  have hown := S.2.2.2.1
  have hl : lv_has ls 5 [(0, .ref h_this), (1, .ref h_a1), (2, .int a2), (3, .int a3)] := hl
  have hj149 : ∀ (v4 : Int32) (n_this_composer_parts_size : Int32) (f_this_composer_parts_codes : Nat → Int32) (n_this_form_size : Int32) (f_this_form_codes : Nat → Int32) (H : Heap) (locs : List Loc) (ls : Array Slot), hn_E D (TY cI cZ) tt A s H locs [(h_this, .inr (4, [.ref h_this_composer, .ref h_this_form])), (h_this_composer, .inr (2, [.ref h_this_composer_parts])), (h_this_composer_parts, .inr (0, [.ref h_this_composer_parts_codes, .int n_this_composer_parts_size])), (h_this_composer_parts_codes, .inl (cI, 96, .inl f_this_composer_parts_codes)), (h_this_form, .inr (0, [.ref h_this_form_codes, .int n_this_form_size])), (h_this_form_codes, .inl (cI, 96, .inl f_this_form_codes)), (h_a1, .inr (0, [.ref h_a1_codes, .int n_a1_size])), (h_a1_codes, .inl (cI, N_a1_codes, .inl f_a1_codes))] → lv_has ls 5 [(1, .ref h_a1), (3, .int a3), (4, .int v4)] → P_Checker_brokenRules_149 N_a1_codes n_a1_size f_a1_codes a3 v4 n_this_composer_parts_size f_this_composer_parts_codes n_this_form_size f_this_form_codes = some o → W p l e rm_Checker_brokenRules s m args below meth c H locs 0 0 Q (F0 m 149 ls []) := by
    intro v4 n_this_composer_parts_size f_this_composer_parts_codes n_this_form_size f_this_form_codes H locs ls hE hl h
    unfold P_Checker_brokenRules_149 at h
    refine lv_iload_n hx hb d_Checker_brokenRules_149 rfl (lv_at hl 1 rfl) ?_
    refine lv_if_eq (tgt := 170) hx hb d_Checker_brokenRules_150 (by decide) (fun hc => ?_) (fun hc => ?_)
    · have h := ite_t hc h
      refine lv_iload hx hb d_Checker_brokenRules_170 (lv_at hl 2 rfl) ?_
      obtain rfl := Option.some.inj h
      exact hret H locs ls 172 d_Checker_brokenRules_172 hE
    · have h := ite_f hc h
      refine lv_aload_n hx hb d_Checker_brokenRules_153 rfl (lv_at hl 0 rfl) ?_
      obtain ⟨x154, hc154, h⟩ := bd_s h
      have hM := (c_Checker_isDirectionRight l D cI cZ tt h_a1 h_a1_codes H.size N_a1_codes n_a1_size f_a1_codes x154 hc154)
      refine hn_cz hE (hn_runS (As := [.ref h_a1]) (rest := []) S hE hM cf_Checker_isDirectionRight mw_402 mw_403 ⟨rfl, rfl⟩ ⟨Nat.le_of_ble_eq_true rfl, Nat.le_of_ble_eq_true rfl⟩ [6, 7] rfl rfl rfl rfl hl.1 (lv_room (Nat.le_of_ble_eq_true rfl)) d_Checker_brokenRules_154 ⟨Nat.zero_le _, Nat.zero_le _⟩) [6, 7] rfl rfl (fun H locs hz154 hE => ?_)
      have hE : hn_E D (TY cI cZ) tt A s H locs [(h_this, .inr (4, [.ref h_this_composer, .ref h_this_form])), (h_this_composer, .inr (2, [.ref h_this_composer_parts])), (h_this_composer_parts, .inr (0, [.ref h_this_composer_parts_codes, .int n_this_composer_parts_size])), (h_this_composer_parts_codes, .inl (cI, 96, .inl f_this_composer_parts_codes)), (h_this_form, .inr (0, [.ref h_this_form_codes, .int n_this_form_size])), (h_this_form_codes, .inl (cI, 96, .inl f_this_form_codes)), (h_a1, .inr (0, [.ref h_a1_codes, .int n_a1_size])), (h_a1_codes, .inl (cI, N_a1_codes, .inl f_a1_codes))] := hE
      refine lv_if_ne (tgt := 170) hx hb d_Checker_brokenRules_157 (by decide) (fun hc => ?_) (fun hc => ?_)
      · have h := ite_f hc h
        refine lv_iload hx hb d_Checker_brokenRules_170 (lv_at hl 2 rfl) ?_
        obtain rfl := Option.some.inj h
        exact hret H locs ls 172 d_Checker_brokenRules_172 hE
      · have h := ite_t hc h
        refine lv_iload hx hb d_Checker_brokenRules_160 (lv_at hl 2 rfl) ?_
        refine lv_bipush (v := 10) hx hb d_Checker_brokenRules_162 (by decide) ?_
        obtain ⟨x164, hc164, h⟩ := bd_s h
        have hM := (c_Host_bit l D cI cZ tt H.size (10 : Int32) x164 hc164)
        refine hn_ci hE (hn_runN (As := [.int (10 : Int32)]) (rest := [.int v4]) S hE hM cf_Host_bit st_n mw_206 ⟨rfl, rfl⟩ ⟨Nat.le_of_ble_eq_true rfl, Nat.le_of_ble_eq_true rfl⟩ [] rfl rfl rfl rfl hl.1 (lv_room (Nat.le_of_ble_eq_true rfl)) d_Checker_brokenRules_164 ⟨Nat.zero_le _, Nat.zero_le _⟩) [] rfl rfl (fun H locs hE => ?_)
        have hE : hn_E D (TY cI cZ) tt A s H locs [(h_this, .inr (4, [.ref h_this_composer, .ref h_this_form])), (h_this_composer, .inr (2, [.ref h_this_composer_parts])), (h_this_composer_parts, .inr (0, [.ref h_this_composer_parts_codes, .int n_this_composer_parts_size])), (h_this_composer_parts_codes, .inl (cI, 96, .inl f_this_composer_parts_codes)), (h_this_form, .inr (0, [.ref h_this_form_codes, .int n_this_form_size])), (h_this_form_codes, .inl (cI, 96, .inl f_this_form_codes)), (h_a1, .inr (0, [.ref h_a1_codes, .int n_a1_size])), (h_a1_codes, .inl (cI, N_a1_codes, .inl f_a1_codes))] := hE
        refine lv_ior hx hb d_Checker_brokenRules_167 ?_
        refine lv_istore (lv' := [(4, .int (v4 ||| x164)), (1, .ref h_a1), (3, .int a3)]) hx hb d_Checker_brokenRules_168 hl (by decide) rfl (fun ls hl => ?_)
        refine lv_iload hx hb d_Checker_brokenRules_170 (lv_at hl 0 rfl) ?_
        obtain rfl := Option.some.inj h
        exact hret H locs ls 172 d_Checker_brokenRules_172 hE
  have hj125 : ∀ (v4 : Int32) (n_this_composer_parts_size : Int32) (f_this_composer_parts_codes : Nat → Int32) (n_this_form_size : Int32) (f_this_form_codes : Nat → Int32) (H : Heap) (locs : List Loc) (ls : Array Slot), hn_E D (TY cI cZ) tt A s H locs [(h_this, .inr (4, [.ref h_this_composer, .ref h_this_form])), (h_this_composer, .inr (2, [.ref h_this_composer_parts])), (h_this_composer_parts, .inr (0, [.ref h_this_composer_parts_codes, .int n_this_composer_parts_size])), (h_this_composer_parts_codes, .inl (cI, 96, .inl f_this_composer_parts_codes)), (h_this_form, .inr (0, [.ref h_this_form_codes, .int n_this_form_size])), (h_this_form_codes, .inl (cI, 96, .inl f_this_form_codes)), (h_a1, .inr (0, [.ref h_a1_codes, .int n_a1_size])), (h_a1_codes, .inl (cI, N_a1_codes, .inl f_a1_codes))] → lv_has ls 5 [(1, .ref h_a1), (2, .int a2), (3, .int a3), (4, .int v4)] → P_Checker_brokenRules_125 N_a1_codes n_a1_size f_a1_codes a2 a3 v4 n_this_composer_parts_size f_this_composer_parts_codes n_this_form_size f_this_form_codes = some o → W p l e rm_Checker_brokenRules s m args below meth c H locs 0 0 Q (F0 m 125 ls []) := by
    intro v4 n_this_composer_parts_size f_this_composer_parts_codes n_this_form_size f_this_form_codes H locs ls hE hl h
    unfold P_Checker_brokenRules_125 at h
    refine lv_iload_n hx hb d_Checker_brokenRules_125 rfl (lv_at hl 1 rfl) ?_
    refine lv_bipush (v := 8) hx hb d_Checker_brokenRules_126 (by decide) ?_
    refine lv_iand hx hb d_Checker_brokenRules_128 ?_
    refine lv_if_eq (tgt := 149) hx hb d_Checker_brokenRules_129 (by decide) (fun hc => ?_) (fun hc => ?_)
    · have h := ite_t hc h
      exact hj149 v4 n_this_composer_parts_size f_this_composer_parts_codes n_this_form_size f_this_form_codes H locs ls hE (lv_sub hl [0, 2, 3] rfl) h
    · have h := ite_f hc h
      refine lv_aload_n hx hb d_Checker_brokenRules_132 rfl (lv_at hl 0 rfl) ?_
      obtain ⟨x133, hc133, h⟩ := bd_s h
      have hM := (c_Checker_areJoinersRight l D cI cZ tt h_a1 h_a1_codes H.size N_a1_codes n_a1_size f_a1_codes x133 hc133)
      refine hn_cz hE (hn_runS (As := [.ref h_a1]) (rest := []) S hE hM cf_Checker_areJoinersRight mw_389 mw_390 ⟨rfl, rfl⟩ ⟨Nat.le_of_ble_eq_true rfl, Nat.le_of_ble_eq_true rfl⟩ [6, 7] rfl rfl rfl rfl hl.1 (lv_room (Nat.le_of_ble_eq_true rfl)) d_Checker_brokenRules_133 ⟨Nat.zero_le _, Nat.zero_le _⟩) [6, 7] rfl rfl (fun H locs hz133 hE => ?_)
      have hE : hn_E D (TY cI cZ) tt A s H locs [(h_this, .inr (4, [.ref h_this_composer, .ref h_this_form])), (h_this_composer, .inr (2, [.ref h_this_composer_parts])), (h_this_composer_parts, .inr (0, [.ref h_this_composer_parts_codes, .int n_this_composer_parts_size])), (h_this_composer_parts_codes, .inl (cI, 96, .inl f_this_composer_parts_codes)), (h_this_form, .inr (0, [.ref h_this_form_codes, .int n_this_form_size])), (h_this_form_codes, .inl (cI, 96, .inl f_this_form_codes)), (h_a1, .inr (0, [.ref h_a1_codes, .int n_a1_size])), (h_a1_codes, .inl (cI, N_a1_codes, .inl f_a1_codes))] := hE
      refine lv_if_ne (tgt := 149) hx hb d_Checker_brokenRules_136 (by decide) (fun hc => ?_) (fun hc => ?_)
      · have h := ite_f hc h
        exact hj149 v4 n_this_composer_parts_size f_this_composer_parts_codes n_this_form_size f_this_form_codes H locs ls hE (lv_sub hl [0, 2, 3] rfl) h
      · have h := ite_t hc h
        refine lv_iload hx hb d_Checker_brokenRules_139 (lv_at hl 3 rfl) ?_
        refine lv_bipush (v := 9) hx hb d_Checker_brokenRules_141 (by decide) ?_
        obtain ⟨x143, hc143, h⟩ := bd_s h
        have hM := (c_Host_bit l D cI cZ tt H.size (9 : Int32) x143 hc143)
        refine hn_ci hE (hn_runN (As := [.int (9 : Int32)]) (rest := [.int v4]) S hE hM cf_Host_bit st_n mw_206 ⟨rfl, rfl⟩ ⟨Nat.le_of_ble_eq_true rfl, Nat.le_of_ble_eq_true rfl⟩ [] rfl rfl rfl rfl hl.1 (lv_room (Nat.le_of_ble_eq_true rfl)) d_Checker_brokenRules_143 ⟨Nat.zero_le _, Nat.zero_le _⟩) [] rfl rfl (fun H locs hE => ?_)
        have hE : hn_E D (TY cI cZ) tt A s H locs [(h_this, .inr (4, [.ref h_this_composer, .ref h_this_form])), (h_this_composer, .inr (2, [.ref h_this_composer_parts])), (h_this_composer_parts, .inr (0, [.ref h_this_composer_parts_codes, .int n_this_composer_parts_size])), (h_this_composer_parts_codes, .inl (cI, 96, .inl f_this_composer_parts_codes)), (h_this_form, .inr (0, [.ref h_this_form_codes, .int n_this_form_size])), (h_this_form_codes, .inl (cI, 96, .inl f_this_form_codes)), (h_a1, .inr (0, [.ref h_a1_codes, .int n_a1_size])), (h_a1_codes, .inl (cI, N_a1_codes, .inl f_a1_codes))] := hE
        refine lv_ior hx hb d_Checker_brokenRules_146 ?_
        refine lv_istore (lv' := [(4, .int (v4 ||| x143)), (1, .ref h_a1), (2, .int a2), (3, .int a3)]) hx hb d_Checker_brokenRules_147 hl (by decide) rfl (fun ls hl => ?_)
        exact hj149 (v4 ||| x143) n_this_composer_parts_size f_this_composer_parts_codes n_this_form_size f_this_form_codes H locs ls hE (lv_sub hl [1, 3, 0] rfl) h
  have hj109 : ∀ (v4 : Int32) (s0 : Int32) (s1 : Int32) (n_this_composer_parts_size : Int32) (f_this_composer_parts_codes : Nat → Int32) (n_this_form_size : Int32) (f_this_form_codes : Nat → Int32) (H : Heap) (locs : List Loc) (ls : Array Slot), hn_E D (TY cI cZ) tt A s H locs [(h_this, .inr (4, [.ref h_this_composer, .ref h_this_form])), (h_this_composer, .inr (2, [.ref h_this_composer_parts])), (h_this_composer_parts, .inr (0, [.ref h_this_composer_parts_codes, .int n_this_composer_parts_size])), (h_this_composer_parts_codes, .inl (cI, 96, .inl f_this_composer_parts_codes)), (h_this_form, .inr (0, [.ref h_this_form_codes, .int n_this_form_size])), (h_this_form_codes, .inl (cI, 96, .inl f_this_form_codes)), (h_a1, .inr (0, [.ref h_a1_codes, .int n_a1_size])), (h_a1_codes, .inl (cI, N_a1_codes, .inl f_a1_codes))] → lv_has ls 5 [(1, .ref h_a1), (2, .int a2), (3, .int a3), (4, .int v4)] → P_Checker_brokenRules_109 N_a1_codes n_a1_size f_a1_codes a2 a3 v4 s0 s1 n_this_composer_parts_size f_this_composer_parts_codes n_this_form_size f_this_form_codes = some o → W p l e rm_Checker_brokenRules s m args below meth c H locs 0 0 Q (F0 m 109 ls [.int s0, .int s1, .ref h_a1]) := by
    intro v4 s0 s1 n_this_composer_parts_size f_this_composer_parts_codes n_this_form_size f_this_form_codes H locs ls hE hl h
    unfold P_Checker_brokenRules_109 at h
    obtain ⟨x109, hc109, h⟩ := bd_s h
    have hM := (c_Checker_isAllGood l D cI cZ tt h_a1 h_a1_codes H.size N_a1_codes n_a1_size f_a1_codes s1 s0 x109 hc109)
    refine hn_cz hE (hn_runS (As := [.ref h_a1, .int s1, .int s0]) (rest := []) S hE hM cf_Checker_isAllGood mw_385 mw_386 ⟨rfl, rfl⟩ ⟨Nat.le_of_ble_eq_true rfl, Nat.le_of_ble_eq_true rfl⟩ [6, 7] rfl rfl rfl rfl hl.1 (lv_room (Nat.le_of_ble_eq_true rfl)) d_Checker_brokenRules_109 ⟨Nat.zero_le _, Nat.zero_le _⟩) [6, 7] rfl rfl (fun H locs hz109 hE => ?_)
    have hE : hn_E D (TY cI cZ) tt A s H locs [(h_this, .inr (4, [.ref h_this_composer, .ref h_this_form])), (h_this_composer, .inr (2, [.ref h_this_composer_parts])), (h_this_composer_parts, .inr (0, [.ref h_this_composer_parts_codes, .int n_this_composer_parts_size])), (h_this_composer_parts_codes, .inl (cI, 96, .inl f_this_composer_parts_codes)), (h_this_form, .inr (0, [.ref h_this_form_codes, .int n_this_form_size])), (h_this_form_codes, .inl (cI, 96, .inl f_this_form_codes)), (h_a1, .inr (0, [.ref h_a1_codes, .int n_a1_size])), (h_a1_codes, .inl (cI, N_a1_codes, .inl f_a1_codes))] := hE
    refine lv_if_ne (tgt := 125) hx hb d_Checker_brokenRules_112 (by decide) (fun hc => ?_) (fun hc => ?_)
    · have h := ite_f hc h
      exact hj125 v4 n_this_composer_parts_size f_this_composer_parts_codes n_this_form_size f_this_form_codes H locs ls hE (lv_sub hl [0, 1, 2, 3] rfl) h
    · have h := ite_t hc h
      refine lv_iload hx hb d_Checker_brokenRules_115 (lv_at hl 3 rfl) ?_
      refine lv_bipush (v := 8) hx hb d_Checker_brokenRules_117 (by decide) ?_
      obtain ⟨x119, hc119, h⟩ := bd_s h
      have hM := (c_Host_bit l D cI cZ tt H.size (8 : Int32) x119 hc119)
      refine hn_ci hE (hn_runN (As := [.int (8 : Int32)]) (rest := [.int v4]) S hE hM cf_Host_bit st_n mw_206 ⟨rfl, rfl⟩ ⟨Nat.le_of_ble_eq_true rfl, Nat.le_of_ble_eq_true rfl⟩ [] rfl rfl rfl rfl hl.1 (lv_room (Nat.le_of_ble_eq_true rfl)) d_Checker_brokenRules_119 ⟨Nat.zero_le _, Nat.zero_le _⟩) [] rfl rfl (fun H locs hE => ?_)
      have hE : hn_E D (TY cI cZ) tt A s H locs [(h_this, .inr (4, [.ref h_this_composer, .ref h_this_form])), (h_this_composer, .inr (2, [.ref h_this_composer_parts])), (h_this_composer_parts, .inr (0, [.ref h_this_composer_parts_codes, .int n_this_composer_parts_size])), (h_this_composer_parts_codes, .inl (cI, 96, .inl f_this_composer_parts_codes)), (h_this_form, .inr (0, [.ref h_this_form_codes, .int n_this_form_size])), (h_this_form_codes, .inl (cI, 96, .inl f_this_form_codes)), (h_a1, .inr (0, [.ref h_a1_codes, .int n_a1_size])), (h_a1_codes, .inl (cI, N_a1_codes, .inl f_a1_codes))] := hE
      refine lv_ior hx hb d_Checker_brokenRules_122 ?_
      refine lv_istore (lv' := [(4, .int (v4 ||| x119)), (1, .ref h_a1), (2, .int a2), (3, .int a3)]) hx hb d_Checker_brokenRules_123 hl (by decide) rfl (fun ls hl => ?_)
      exact hj125 (v4 ||| x119) n_this_composer_parts_size f_this_composer_parts_codes n_this_form_size f_this_form_codes H locs ls hE (lv_sub hl [1, 2, 3, 0] rfl) h
  have hj98 : ∀ (v4 : Int32) (s0 : Int32) (n_this_composer_parts_size : Int32) (f_this_composer_parts_codes : Nat → Int32) (n_this_form_size : Int32) (f_this_form_codes : Nat → Int32) (H : Heap) (locs : List Loc) (ls : Array Slot), hn_E D (TY cI cZ) tt A s H locs [(h_this, .inr (4, [.ref h_this_composer, .ref h_this_form])), (h_this_composer, .inr (2, [.ref h_this_composer_parts])), (h_this_composer_parts, .inr (0, [.ref h_this_composer_parts_codes, .int n_this_composer_parts_size])), (h_this_composer_parts_codes, .inl (cI, 96, .inl f_this_composer_parts_codes)), (h_this_form, .inr (0, [.ref h_this_form_codes, .int n_this_form_size])), (h_this_form_codes, .inl (cI, 96, .inl f_this_form_codes)), (h_a1, .inr (0, [.ref h_a1_codes, .int n_a1_size])), (h_a1_codes, .inl (cI, N_a1_codes, .inl f_a1_codes))] → lv_has ls 5 [(1, .ref h_a1), (2, .int a2), (3, .int a3), (4, .int v4)] → P_Checker_brokenRules_98 N_a1_codes n_a1_size f_a1_codes a2 a3 v4 s0 n_this_composer_parts_size f_this_composer_parts_codes n_this_form_size f_this_form_codes = some o → W p l e rm_Checker_brokenRules s m args below meth c H locs 0 0 Q (F0 m 98 ls [.int s0, .ref h_a1]) := by
    intro v4 s0 n_this_composer_parts_size f_this_composer_parts_codes n_this_form_size f_this_form_codes H locs ls hE hl h
    unfold P_Checker_brokenRules_98 at h
    refine lv_iload_n hx hb d_Checker_brokenRules_98 rfl (lv_at hl 1 rfl) ?_
    refine lv_iconst (v := 2) hx hb d_Checker_brokenRules_99 (by decide) ?_
    refine lv_iand hx hb d_Checker_brokenRules_100 ?_
    refine lv_if_eq (tgt := 108) hx hb d_Checker_brokenRules_101 (by decide) (fun hc => ?_) (fun hc => ?_)
    · have h := ite_t hc h
      refine lv_iconst (v := 0) hx hb d_Checker_brokenRules_108 (by decide) ?_
      exact hj109 v4 (0 : Int32) s0 n_this_composer_parts_size f_this_composer_parts_codes n_this_form_size f_this_form_codes H locs ls hE (lv_sub hl [0, 1, 2, 3] rfl) h
    · have h := ite_f hc h
      refine lv_iconst (v := 1) hx hb d_Checker_brokenRules_104 (by decide) ?_
      refine lv_goto (tgt := 109) hx hb d_Checker_brokenRules_105 (by decide) ?_
      exact hj109 v4 (1 : Int32) s0 n_this_composer_parts_size f_this_composer_parts_codes n_this_form_size f_this_form_codes H locs ls hE (lv_sub hl [0, 1, 2, 3] rfl) h
  have hj86 : ∀ (v4 : Int32) (n_this_composer_parts_size : Int32) (f_this_composer_parts_codes : Nat → Int32) (n_this_form_size : Int32) (f_this_form_codes : Nat → Int32) (H : Heap) (locs : List Loc) (ls : Array Slot), hn_E D (TY cI cZ) tt A s H locs [(h_this, .inr (4, [.ref h_this_composer, .ref h_this_form])), (h_this_composer, .inr (2, [.ref h_this_composer_parts])), (h_this_composer_parts, .inr (0, [.ref h_this_composer_parts_codes, .int n_this_composer_parts_size])), (h_this_composer_parts_codes, .inl (cI, 96, .inl f_this_composer_parts_codes)), (h_this_form, .inr (0, [.ref h_this_form_codes, .int n_this_form_size])), (h_this_form_codes, .inl (cI, 96, .inl f_this_form_codes)), (h_a1, .inr (0, [.ref h_a1_codes, .int n_a1_size])), (h_a1_codes, .inl (cI, N_a1_codes, .inl f_a1_codes))] → lv_has ls 5 [(1, .ref h_a1), (2, .int a2), (3, .int a3), (4, .int v4)] → P_Checker_brokenRules_86 N_a1_codes n_a1_size f_a1_codes a2 a3 v4 n_this_composer_parts_size f_this_composer_parts_codes n_this_form_size f_this_form_codes = some o → W p l e rm_Checker_brokenRules s m args below meth c H locs 0 0 Q (F0 m 86 ls []) := by
    intro v4 n_this_composer_parts_size f_this_composer_parts_codes n_this_form_size f_this_form_codes H locs ls hE hl h
    unfold P_Checker_brokenRules_86 at h
    refine lv_aload_n hx hb d_Checker_brokenRules_86 rfl (lv_at hl 0 rfl) ?_
    refine lv_iload_n hx hb d_Checker_brokenRules_87 rfl (lv_at hl 1 rfl) ?_
    refine lv_iconst (v := 1) hx hb d_Checker_brokenRules_88 (by decide) ?_
    refine lv_iand hx hb d_Checker_brokenRules_89 ?_
    refine lv_if_eq (tgt := 97) hx hb d_Checker_brokenRules_90 (by decide) (fun hc => ?_) (fun hc => ?_)
    · have h := ite_t hc h
      refine lv_iconst (v := 0) hx hb d_Checker_brokenRules_97 (by decide) ?_
      exact hj98 v4 (0 : Int32) n_this_composer_parts_size f_this_composer_parts_codes n_this_form_size f_this_form_codes H locs ls hE (lv_sub hl [0, 1, 2, 3] rfl) h
    · have h := ite_f hc h
      refine lv_iconst (v := 1) hx hb d_Checker_brokenRules_93 (by decide) ?_
      refine lv_goto (tgt := 98) hx hb d_Checker_brokenRules_94 (by decide) ?_
      exact hj98 v4 (1 : Int32) n_this_composer_parts_size f_this_composer_parts_codes n_this_form_size f_this_form_codes H locs ls hE (lv_sub hl [0, 1, 2, 3] rfl) h
  have hj65 : ∀ (v4 : Int32) (n_this_composer_parts_size : Int32) (f_this_composer_parts_codes : Nat → Int32) (n_this_form_size : Int32) (f_this_form_codes : Nat → Int32) (H : Heap) (locs : List Loc) (ls : Array Slot), hn_E D (TY cI cZ) tt A s H locs [(h_this, .inr (4, [.ref h_this_composer, .ref h_this_form])), (h_this_composer, .inr (2, [.ref h_this_composer_parts])), (h_this_composer_parts, .inr (0, [.ref h_this_composer_parts_codes, .int n_this_composer_parts_size])), (h_this_composer_parts_codes, .inl (cI, 96, .inl f_this_composer_parts_codes)), (h_this_form, .inr (0, [.ref h_this_form_codes, .int n_this_form_size])), (h_this_form_codes, .inl (cI, 96, .inl f_this_form_codes)), (h_a1, .inr (0, [.ref h_a1_codes, .int n_a1_size])), (h_a1_codes, .inl (cI, N_a1_codes, .inl f_a1_codes))] → lv_has ls 5 [(1, .ref h_a1), (2, .int a2), (3, .int a3), (4, .int v4)] → P_Checker_brokenRules_65 N_a1_codes n_a1_size f_a1_codes a2 a3 v4 n_this_composer_parts_size f_this_composer_parts_codes n_this_form_size f_this_form_codes = some o → W p l e rm_Checker_brokenRules s m args below meth c H locs 0 0 Q (F0 m 65 ls []) := by
    intro v4 n_this_composer_parts_size f_this_composer_parts_codes n_this_form_size f_this_form_codes H locs ls hE hl h
    unfold P_Checker_brokenRules_65 at h
    refine lv_aload_n hx hb d_Checker_brokenRules_65 rfl (lv_at hl 0 rfl) ?_
    refine lv_iconst (v := 0) hx hb d_Checker_brokenRules_66 (by decide) ?_
    obtain ⟨x67, hc67, h⟩ := bd_s h
    have hM := (c_Row_get l D cI cZ tt h_a1 h_a1_codes H.size N_a1_codes n_a1_size f_a1_codes (0 : Int32) x67 hc67)
    refine hn_ci hE (hn_runV (As := [.int (0 : Int32)]) (rest := []) S hE hM cf_Row_get mw_271 mw_169 mw_170 ⟨rfl, rfl⟩ ⟨Nat.le_of_ble_eq_true rfl, Nat.le_of_ble_eq_true rfl⟩ [6, 7] rfl rfl rfl rfl rfl rfl hl.1 (lv_room (Nat.le_of_ble_eq_true rfl)) d_Checker_brokenRules_67 ⟨Nat.zero_le _, Nat.zero_le _⟩) [6, 7] rfl rfl (fun H locs hE => ?_)
    have hE : hn_E D (TY cI cZ) tt A s H locs [(h_this, .inr (4, [.ref h_this_composer, .ref h_this_form])), (h_this_composer, .inr (2, [.ref h_this_composer_parts])), (h_this_composer_parts, .inr (0, [.ref h_this_composer_parts_codes, .int n_this_composer_parts_size])), (h_this_composer_parts_codes, .inl (cI, 96, .inl f_this_composer_parts_codes)), (h_this_form, .inr (0, [.ref h_this_form_codes, .int n_this_form_size])), (h_this_form_codes, .inl (cI, 96, .inl f_this_form_codes)), (h_a1, .inr (0, [.ref h_a1_codes, .int n_a1_size])), (h_a1_codes, .inl (cI, N_a1_codes, .inl f_a1_codes))] := hE
    obtain ⟨x70, hc70, h⟩ := bd_s h
    have hM := (c_Codes_isMark l D cI cZ tt H.size x67 x70 hc70)
    refine hn_cz hE (hn_runS (As := [.int x67]) (rest := []) S hE hM cf_Codes_isMark mw_384 mw_342 ⟨rfl, rfl⟩ ⟨Nat.le_of_ble_eq_true rfl, Nat.le_of_ble_eq_true rfl⟩ [] rfl rfl rfl rfl hl.1 (lv_room (Nat.le_of_ble_eq_true rfl)) d_Checker_brokenRules_70 ⟨Nat.zero_le _, Nat.zero_le _⟩) [] rfl rfl (fun H locs hz70 hE => ?_)
    have hE : hn_E D (TY cI cZ) tt A s H locs [(h_this, .inr (4, [.ref h_this_composer, .ref h_this_form])), (h_this_composer, .inr (2, [.ref h_this_composer_parts])), (h_this_composer_parts, .inr (0, [.ref h_this_composer_parts_codes, .int n_this_composer_parts_size])), (h_this_composer_parts_codes, .inl (cI, 96, .inl f_this_composer_parts_codes)), (h_this_form, .inr (0, [.ref h_this_form_codes, .int n_this_form_size])), (h_this_form_codes, .inl (cI, 96, .inl f_this_form_codes)), (h_a1, .inr (0, [.ref h_a1_codes, .int n_a1_size])), (h_a1_codes, .inl (cI, N_a1_codes, .inl f_a1_codes))] := hE
    refine lv_if_eq (tgt := 86) hx hb d_Checker_brokenRules_73 (by decide) (fun hc => ?_) (fun hc => ?_)
    · have h := ite_t hc h
      exact hj86 v4 n_this_composer_parts_size f_this_composer_parts_codes n_this_form_size f_this_form_codes H locs ls hE (lv_sub hl [0, 1, 2, 3] rfl) h
    · have h := ite_f hc h
      refine lv_iload hx hb d_Checker_brokenRules_76 (lv_at hl 3 rfl) ?_
      refine lv_bipush (v := 7) hx hb d_Checker_brokenRules_78 (by decide) ?_
      obtain ⟨x80, hc80, h⟩ := bd_s h
      have hM := (c_Host_bit l D cI cZ tt H.size (7 : Int32) x80 hc80)
      refine hn_ci hE (hn_runN (As := [.int (7 : Int32)]) (rest := [.int v4]) S hE hM cf_Host_bit st_n mw_206 ⟨rfl, rfl⟩ ⟨Nat.le_of_ble_eq_true rfl, Nat.le_of_ble_eq_true rfl⟩ [] rfl rfl rfl rfl hl.1 (lv_room (Nat.le_of_ble_eq_true rfl)) d_Checker_brokenRules_80 ⟨Nat.zero_le _, Nat.zero_le _⟩) [] rfl rfl (fun H locs hE => ?_)
      have hE : hn_E D (TY cI cZ) tt A s H locs [(h_this, .inr (4, [.ref h_this_composer, .ref h_this_form])), (h_this_composer, .inr (2, [.ref h_this_composer_parts])), (h_this_composer_parts, .inr (0, [.ref h_this_composer_parts_codes, .int n_this_composer_parts_size])), (h_this_composer_parts_codes, .inl (cI, 96, .inl f_this_composer_parts_codes)), (h_this_form, .inr (0, [.ref h_this_form_codes, .int n_this_form_size])), (h_this_form_codes, .inl (cI, 96, .inl f_this_form_codes)), (h_a1, .inr (0, [.ref h_a1_codes, .int n_a1_size])), (h_a1_codes, .inl (cI, N_a1_codes, .inl f_a1_codes))] := hE
      refine lv_ior hx hb d_Checker_brokenRules_83 ?_
      refine lv_istore (lv' := [(4, .int (v4 ||| x80)), (1, .ref h_a1), (2, .int a2), (3, .int a3)]) hx hb d_Checker_brokenRules_84 hl (by decide) rfl (fun ls hl => ?_)
      exact hj86 (v4 ||| x80) n_this_composer_parts_size f_this_composer_parts_codes n_this_form_size f_this_form_codes H locs ls hE (lv_sub hl [1, 2, 3, 0] rfl) h
  have hj48 : ∀ (v4 : Int32) (n_this_composer_parts_size : Int32) (f_this_composer_parts_codes : Nat → Int32) (n_this_form_size : Int32) (f_this_form_codes : Nat → Int32) (H : Heap) (locs : List Loc) (ls : Array Slot), hn_E D (TY cI cZ) tt A s H locs [(h_this, .inr (4, [.ref h_this_composer, .ref h_this_form])), (h_this_composer, .inr (2, [.ref h_this_composer_parts])), (h_this_composer_parts, .inr (0, [.ref h_this_composer_parts_codes, .int n_this_composer_parts_size])), (h_this_composer_parts_codes, .inl (cI, 96, .inl f_this_composer_parts_codes)), (h_this_form, .inr (0, [.ref h_this_form_codes, .int n_this_form_size])), (h_this_form_codes, .inl (cI, 96, .inl f_this_form_codes)), (h_a1, .inr (0, [.ref h_a1_codes, .int n_a1_size])), (h_a1_codes, .inl (cI, N_a1_codes, .inl f_a1_codes))] → lv_has ls 5 [(1, .ref h_a1), (2, .int a2), (3, .int a3), (4, .int v4)] → P_Checker_brokenRules_48 N_a1_codes n_a1_size f_a1_codes a2 a3 v4 n_this_composer_parts_size f_this_composer_parts_codes n_this_form_size f_this_form_codes = some o → W p l e rm_Checker_brokenRules s m args below meth c H locs 0 0 Q (F0 m 48 ls []) := by
    intro v4 n_this_composer_parts_size f_this_composer_parts_codes n_this_form_size f_this_form_codes H locs ls hE hl h
    unfold P_Checker_brokenRules_48 at h
    refine lv_aload_n hx hb d_Checker_brokenRules_48 rfl (lv_at hl 0 rfl) ?_
    obtain ⟨x49, hc49, h⟩ := bd_s h
    have hM := (c_Checker_isTagged l D cI cZ tt h_a1 h_a1_codes H.size N_a1_codes n_a1_size f_a1_codes x49 hc49)
    refine hn_cz hE (hn_runS (As := [.ref h_a1]) (rest := []) S hE hM cf_Checker_isTagged mw_383 mw_267 ⟨rfl, rfl⟩ ⟨Nat.le_of_ble_eq_true rfl, Nat.le_of_ble_eq_true rfl⟩ [6, 7] rfl rfl rfl rfl hl.1 (lv_room (Nat.le_of_ble_eq_true rfl)) d_Checker_brokenRules_49 ⟨Nat.zero_le _, Nat.zero_le _⟩) [6, 7] rfl rfl (fun H locs hz49 hE => ?_)
    have hE : hn_E D (TY cI cZ) tt A s H locs [(h_this, .inr (4, [.ref h_this_composer, .ref h_this_form])), (h_this_composer, .inr (2, [.ref h_this_composer_parts])), (h_this_composer_parts, .inr (0, [.ref h_this_composer_parts_codes, .int n_this_composer_parts_size])), (h_this_composer_parts_codes, .inl (cI, 96, .inl f_this_composer_parts_codes)), (h_this_form, .inr (0, [.ref h_this_form_codes, .int n_this_form_size])), (h_this_form_codes, .inl (cI, 96, .inl f_this_form_codes)), (h_a1, .inr (0, [.ref h_a1_codes, .int n_a1_size])), (h_a1_codes, .inl (cI, N_a1_codes, .inl f_a1_codes))] := hE
    refine lv_if_eq (tgt := 65) hx hb d_Checker_brokenRules_52 (by decide) (fun hc => ?_) (fun hc => ?_)
    · have h := ite_t hc h
      exact hj65 v4 n_this_composer_parts_size f_this_composer_parts_codes n_this_form_size f_this_form_codes H locs ls hE (lv_sub hl [0, 1, 2, 3] rfl) h
    · have h := ite_f hc h
      refine lv_iload hx hb d_Checker_brokenRules_55 (lv_at hl 3 rfl) ?_
      refine lv_bipush (v := 6) hx hb d_Checker_brokenRules_57 (by decide) ?_
      obtain ⟨x59, hc59, h⟩ := bd_s h
      have hM := (c_Host_bit l D cI cZ tt H.size (6 : Int32) x59 hc59)
      refine hn_ci hE (hn_runN (As := [.int (6 : Int32)]) (rest := [.int v4]) S hE hM cf_Host_bit st_n mw_206 ⟨rfl, rfl⟩ ⟨Nat.le_of_ble_eq_true rfl, Nat.le_of_ble_eq_true rfl⟩ [] rfl rfl rfl rfl hl.1 (lv_room (Nat.le_of_ble_eq_true rfl)) d_Checker_brokenRules_59 ⟨Nat.zero_le _, Nat.zero_le _⟩) [] rfl rfl (fun H locs hE => ?_)
      have hE : hn_E D (TY cI cZ) tt A s H locs [(h_this, .inr (4, [.ref h_this_composer, .ref h_this_form])), (h_this_composer, .inr (2, [.ref h_this_composer_parts])), (h_this_composer_parts, .inr (0, [.ref h_this_composer_parts_codes, .int n_this_composer_parts_size])), (h_this_composer_parts_codes, .inl (cI, 96, .inl f_this_composer_parts_codes)), (h_this_form, .inr (0, [.ref h_this_form_codes, .int n_this_form_size])), (h_this_form_codes, .inl (cI, 96, .inl f_this_form_codes)), (h_a1, .inr (0, [.ref h_a1_codes, .int n_a1_size])), (h_a1_codes, .inl (cI, N_a1_codes, .inl f_a1_codes))] := hE
      refine lv_ior hx hb d_Checker_brokenRules_62 ?_
      refine lv_istore (lv' := [(4, .int (v4 ||| x59)), (1, .ref h_a1), (2, .int a2), (3, .int a3)]) hx hb d_Checker_brokenRules_63 hl (by decide) rfl (fun ls hl => ?_)
      exact hj65 (v4 ||| x59) n_this_composer_parts_size f_this_composer_parts_codes n_this_form_size f_this_form_codes H locs ls hE (lv_sub hl [1, 2, 3, 0] rfl) h
  have hj31 : ∀ (s0 : Int32) (n_this_composer_parts_size : Int32) (f_this_composer_parts_codes : Nat → Int32) (n_this_form_size : Int32) (f_this_form_codes : Nat → Int32) (H : Heap) (locs : List Loc) (ls : Array Slot), hn_E D (TY cI cZ) tt A s H locs [(h_this, .inr (4, [.ref h_this_composer, .ref h_this_form])), (h_this_composer, .inr (2, [.ref h_this_composer_parts])), (h_this_composer_parts, .inr (0, [.ref h_this_composer_parts_codes, .int n_this_composer_parts_size])), (h_this_composer_parts_codes, .inl (cI, 96, .inl f_this_composer_parts_codes)), (h_this_form, .inr (0, [.ref h_this_form_codes, .int n_this_form_size])), (h_this_form_codes, .inl (cI, 96, .inl f_this_form_codes)), (h_a1, .inr (0, [.ref h_a1_codes, .int n_a1_size])), (h_a1_codes, .inl (cI, N_a1_codes, .inl f_a1_codes))] → lv_has ls 5 [(1, .ref h_a1), (2, .int a2), (3, .int a3)] → P_Checker_brokenRules_31 N_a1_codes n_a1_size f_a1_codes a2 a3 s0 n_this_composer_parts_size f_this_composer_parts_codes n_this_form_size f_this_form_codes = some o → W p l e rm_Checker_brokenRules s m args below meth c H locs 0 0 Q (F0 m 31 ls [.int s0]) := by
    intro s0 n_this_composer_parts_size f_this_composer_parts_codes n_this_form_size f_this_form_codes H locs ls hE hl h
    unfold P_Checker_brokenRules_31 at h
    refine lv_istore (lv' := [(4, .int s0), (1, .ref h_a1), (2, .int a2), (3, .int a3)]) hx hb d_Checker_brokenRules_31 hl (by decide) rfl (fun ls hl => ?_)
    refine lv_iload_n hx hb d_Checker_brokenRules_33 rfl (lv_at hl 2 rfl) ?_
    refine lv_iconst (v := 4) hx hb d_Checker_brokenRules_34 (by decide) ?_
    refine lv_iand hx hb d_Checker_brokenRules_35 ?_
    refine lv_if_eq (tgt := 48) hx hb d_Checker_brokenRules_36 (by decide) (fun hc => ?_) (fun hc => ?_)
    · have h := ite_t hc h
      exact hj48 s0 n_this_composer_parts_size f_this_composer_parts_codes n_this_form_size f_this_form_codes H locs ls hE (lv_sub hl [1, 2, 3, 0] rfl) h
    · have h := ite_f hc h
      refine lv_iload hx hb d_Checker_brokenRules_39 (lv_at hl 0 rfl) ?_
      refine lv_aload_n hx hb d_Checker_brokenRules_41 rfl (lv_at hl 1 rfl) ?_
      obtain ⟨x42, hc42, h⟩ := bd_s h
      have hM := (c_Checker_brokenHyphenRules l D cI cZ tt h_a1 h_a1_codes H.size N_a1_codes n_a1_size f_a1_codes x42 hc42)
      refine hn_ci hE (hn_runS (As := [.ref h_a1]) (rest := [.int s0]) S hE hM cf_Checker_brokenHyphenRules mw_379 mw_380 ⟨rfl, rfl⟩ ⟨Nat.le_of_ble_eq_true rfl, Nat.le_of_ble_eq_true rfl⟩ [6, 7] rfl rfl rfl rfl hl.1 (lv_room (Nat.le_of_ble_eq_true rfl)) d_Checker_brokenRules_42 ⟨Nat.zero_le _, Nat.zero_le _⟩) [6, 7] rfl rfl (fun H locs hE => ?_)
      have hE : hn_E D (TY cI cZ) tt A s H locs [(h_this, .inr (4, [.ref h_this_composer, .ref h_this_form])), (h_this_composer, .inr (2, [.ref h_this_composer_parts])), (h_this_composer_parts, .inr (0, [.ref h_this_composer_parts_codes, .int n_this_composer_parts_size])), (h_this_composer_parts_codes, .inl (cI, 96, .inl f_this_composer_parts_codes)), (h_this_form, .inr (0, [.ref h_this_form_codes, .int n_this_form_size])), (h_this_form_codes, .inl (cI, 96, .inl f_this_form_codes)), (h_a1, .inr (0, [.ref h_a1_codes, .int n_a1_size])), (h_a1_codes, .inl (cI, N_a1_codes, .inl f_a1_codes))] := hE
      refine lv_ior hx hb d_Checker_brokenRules_45 ?_
      refine lv_istore (lv' := [(4, .int (s0 ||| x42)), (1, .ref h_a1), (2, .int a2), (3, .int a3)]) hx hb d_Checker_brokenRules_46 hl (by decide) rfl (fun ls hl => ?_)
      exact hj48 (s0 ||| x42) n_this_composer_parts_size f_this_composer_parts_codes n_this_form_size f_this_form_codes H locs ls hE (lv_sub hl [1, 2, 3, 0] rfl) h
  unfold P_Checker_brokenRules at h
  refine lv_aload_n hx hb d_Checker_brokenRules_0 rfl (lv_at hl 0 rfl) ?_
  refine hn_get S hE kc_Checker 0 rfl rfl 0 (by decide) mw_92 rfl d_Checker_brokenRules_1 ?_
  refine lv_aload_n hx hb d_Checker_brokenRules_4 rfl (lv_at hl 1 rfl) ?_
  refine lv_aload_n hx hb d_Checker_brokenRules_5 rfl (lv_at hl 0 rfl) ?_
  refine hn_get S hE kc_Checker 0 rfl rfl 1 (by decide) mw_93 rfl d_Checker_brokenRules_6 ?_
  obtain ⟨x9, hc9, h⟩ := bd_s h
  have hM := (c_Composer_form l D cI cZ tt h_this_composer h_this_composer_parts h_this_composer_parts_codes h_a1 h_a1_codes h_this_form h_this_form_codes H.size N_a1_codes 96 n_this_composer_parts_size f_this_composer_parts_codes n_a1_size f_a1_codes n_this_form_size f_this_form_codes x9 hc9)
  refine hn_cv hE (hn_runV (As := [.ref h_a1, .ref h_this_form]) (rest := []) S hE hM cf_Composer_form mw_372 mw_209 mw_210 ⟨rfl, rfl⟩ ⟨Nat.le_of_ble_eq_true rfl, Nat.le_of_ble_eq_true rfl⟩ [1, 2, 3, 6, 7, 4, 5] rfl rfl rfl rfl rfl rfl hl.1 (lv_room (Nat.le_of_ble_eq_true rfl)) d_Checker_brokenRules_9 ⟨Nat.zero_le _, Nat.zero_le _⟩) [1, 2, 3, 6, 7, 4, 5] rfl rfl (fun H locs hE => ?_)
  have hE : hn_E D (TY cI cZ) tt A s H locs [(h_this, .inr (4, [.ref h_this_composer, .ref h_this_form])), (h_this_composer, .inr (2, [.ref h_this_composer_parts])), (h_this_composer_parts, .inr (0, [.ref h_this_composer_parts_codes, .int x9.1])), (h_this_composer_parts_codes, .inl (cI, 96, .inl x9.2.1)), (h_this_form, .inr (0, [.ref h_this_form_codes, .int x9.2.2.1])), (h_this_form_codes, .inl (cI, 96, .inl x9.2.2.2)), (h_a1, .inr (0, [.ref h_a1_codes, .int n_a1_size])), (h_a1_codes, .inl (cI, N_a1_codes, .inl f_a1_codes))] := hE
  refine lv_aload_n hx hb d_Checker_brokenRules_12 rfl (lv_at hl 0 rfl) ?_
  refine hn_get S hE kc_Checker 0 rfl rfl 1 (by decide) mw_93 rfl d_Checker_brokenRules_13 ?_
  refine lv_aload_n hx hb d_Checker_brokenRules_16 rfl (lv_at hl 1 rfl) ?_
  obtain ⟨x17, hc17, h⟩ := bd_s h
  have hM := (c_Row_isSameAs l D cI cZ tt h_this_form h_this_form_codes h_a1 h_a1_codes H.size 96 N_a1_codes x9.2.2.1 x9.2.2.2 n_a1_size f_a1_codes x17 hc17)
  refine hn_cz hE (hn_runV (As := [.ref h_a1]) (rest := []) S hE hM cf_Row_isSameAs mw_373 mw_374 mw_375 ⟨rfl, rfl⟩ ⟨Nat.le_of_ble_eq_true rfl, Nat.le_of_ble_eq_true rfl⟩ [4, 5, 6, 7] rfl rfl rfl rfl rfl rfl hl.1 (lv_room (Nat.le_of_ble_eq_true rfl)) d_Checker_brokenRules_17 ⟨Nat.zero_le _, Nat.zero_le _⟩) [4, 5, 6, 7] rfl rfl (fun H locs hz17 hE => ?_)
  have hE : hn_E D (TY cI cZ) tt A s H locs [(h_this, .inr (4, [.ref h_this_composer, .ref h_this_form])), (h_this_composer, .inr (2, [.ref h_this_composer_parts])), (h_this_composer_parts, .inr (0, [.ref h_this_composer_parts_codes, .int x9.1])), (h_this_composer_parts_codes, .inl (cI, 96, .inl x9.2.1)), (h_this_form, .inr (0, [.ref h_this_form_codes, .int x9.2.2.1])), (h_this_form_codes, .inl (cI, 96, .inl x9.2.2.2)), (h_a1, .inr (0, [.ref h_a1_codes, .int n_a1_size])), (h_a1_codes, .inl (cI, N_a1_codes, .inl f_a1_codes))] := hE
  refine lv_if_eq (tgt := 27) hx hb d_Checker_brokenRules_20 (by decide) (fun hc => ?_) (fun hc => ?_)
  · have h := ite_t hc h
    refine lv_iconst (v := 3) hx hb d_Checker_brokenRules_27 (by decide) ?_
    obtain ⟨x28, hc28, h⟩ := bd_s h
    have hM := (c_Host_bit l D cI cZ tt H.size (3 : Int32) x28 hc28)
    refine hn_ci hE (hn_runN (As := [.int (3 : Int32)]) (rest := []) S hE hM cf_Host_bit st_n mw_206 ⟨rfl, rfl⟩ ⟨Nat.le_of_ble_eq_true rfl, Nat.le_of_ble_eq_true rfl⟩ [] rfl rfl rfl rfl hl.1 (lv_room (Nat.le_of_ble_eq_true rfl)) d_Checker_brokenRules_28 ⟨Nat.zero_le _, Nat.zero_le _⟩) [] rfl rfl (fun H locs hE => ?_)
    have hE : hn_E D (TY cI cZ) tt A s H locs [(h_this, .inr (4, [.ref h_this_composer, .ref h_this_form])), (h_this_composer, .inr (2, [.ref h_this_composer_parts])), (h_this_composer_parts, .inr (0, [.ref h_this_composer_parts_codes, .int x9.1])), (h_this_composer_parts_codes, .inl (cI, 96, .inl x9.2.1)), (h_this_form, .inr (0, [.ref h_this_form_codes, .int x9.2.2.1])), (h_this_form_codes, .inl (cI, 96, .inl x9.2.2.2)), (h_a1, .inr (0, [.ref h_a1_codes, .int n_a1_size])), (h_a1_codes, .inl (cI, N_a1_codes, .inl f_a1_codes))] := hE
    exact hj31 x28 x9.1 x9.2.1 x9.2.2.1 x9.2.2.2 H locs ls hE (lv_sub hl [1, 2, 3] rfl) h
  · have h := ite_f hc h
    refine lv_iconst (v := 0) hx hb d_Checker_brokenRules_23 (by decide) ?_
    refine lv_goto (tgt := 31) hx hb d_Checker_brokenRules_24 (by decide) ?_
    exact hj31 (0 : Int32) x9.1 x9.2.1 x9.2.2.1 x9.2.2.2 H locs ls hE (lv_sub hl [1, 2, 3] rfl) h
abbrev rm_Checker_addTag : Room := { frames := 1, cells := 0, slots := 0, locals := 21 }
theorem cf_Checker_addTag : hn_CF y_Checker_addTag b_Checker_addTag 2 none 1 := ⟨mw_420, mw_6, by decide, by decide, by decide +kernel⟩
set_option maxHeartbeats 4000000 in
set_option maxRecDepth 100000 in
theorem c_Checker_addTag (l : Launch) (D : va_G) (cI cZ : ClassId) (tt : Nat → Nat) (h_a1 h_a1_codes : Nat) (sz : Nat) (N_a1_codes : Nat) (n_a1_size : Int32) (f_a1_codes : Nat → Int32) (o : Int32 × (Nat → Int32)) (h : P_Checker_addTag N_a1_codes n_a1_size f_a1_codes = some o) : Met l y_Checker_addTag (hn_w y_Checker_addTag b_Checker_addTag 2 none) rm_Checker_addTag (hn_Pc D (TY cI cZ) tt [.ref h_a1] sz [(h_a1, .inr (0, [.ref h_a1_codes, .int n_a1_size])), (h_a1_codes, .inl (cI, N_a1_codes, .inl f_a1_codes))]) (hn_Qv D [(h_a1, .inr (0, [.ref h_a1_codes, .int n_a1_size])), (h_a1_codes, .inl (cI, N_a1_codes, .inl f_a1_codes))] sz [(h_a1, .inr (0, [.ref h_a1_codes, .int o.1])), (h_a1_codes, .inl (cI, N_a1_codes, .inl o.2))]) 0 0 (va_A [(h_a1, .inr (0, [.ref h_a1_codes, .int n_a1_size])), (h_a1_codes, .inl (cI, N_a1_codes, .inl f_a1_codes))] sz) := by
  refine hn_ofWv (own := R_Checker) (by decide) rfl (Nat.le_of_ble_eq_true rfl) ?_
  intro p e s m args below meth c A H locs ls Q S hE hl hret
  have hx := S.1
  have hb := S.2.1
  have hown := S.2.2.2.1
  have hl : lv_has ls 2 [(0, .ref h_a1)] := hl
  have hL2 : ∀ (kf : Nat) (v1 : Int32) (n_a1_size : Int32) (f_a1_codes : Nat → Int32) (H : Heap) (locs : List Loc) (ls : Array Slot), hn_E D (TY cI cZ) tt A s H locs [(h_a1, .inr (0, [.ref h_a1_codes, .int n_a1_size])), (h_a1_codes, .inl (cI, N_a1_codes, .inl f_a1_codes))] → lv_has ls 2 [(0, .ref h_a1), (1, .int v1)] → fl3 (P_Checker_addTag_2 N_a1_codes) kf v1 n_a1_size f_a1_codes = some o → W p l e rm_Checker_addTag s m args below meth c H locs 0 0 Q (F0 m 2 ls []) := by
    intro kf
    induction kf with
    | zero => intro v1 n_a1_size f_a1_codes H locs ls hE hl h; exact no_s h
    | succ kf ih =>
      intro v1 n_a1_size f_a1_codes H locs ls hE hl h
      have h : P_Checker_addTag_2 N_a1_codes (fl3 (P_Checker_addTag_2 N_a1_codes) kf) v1 n_a1_size f_a1_codes = some o := h
      generalize fl3 (P_Checker_addTag_2 N_a1_codes) kf = k2 at ih h
      have hk2 := ih
      unfold P_Checker_addTag_2 at h
      refine lv_iload_n hx hb d_Checker_addTag_2 rfl (lv_at hl 1 rfl) ?_
      refine hn_gets S hE st_z4 mw_269 d_Checker_addTag_3 ?_
      refine hn_tlen S hE st_t4 (v := 4) (by decide) d_Checker_addTag_6 ?_
      refine lv_icmp_ge (tgt := 26) hx hb d_Checker_addTag_7 (by decide) (fun hc => ?_) (fun hc => ?_)
      · have h := ite_t hc h
        obtain rfl := Option.some.inj h
        exact hret H locs ls 26 d_Checker_addTag_26 hE
      · have h := ite_f hc h
        refine lv_aload_n hx hb d_Checker_addTag_10 rfl (lv_at hl 0 rfl) ?_
        refine hn_gets S hE st_z4 mw_269 d_Checker_addTag_11 ?_
        refine lv_iload_n hx hb d_Checker_addTag_14 rfl (lv_at hl 1 rfl) ?_
        obtain ⟨hi15, h⟩ := gi_s h
        refine hn_ti S hE st_t4 hi15 rfl d_Checker_addTag_15 ?_
        obtain ⟨x16, hc16, h⟩ := bd_s h
        have hM := (c_Row_add l D cI cZ tt h_a1 h_a1_codes H.size N_a1_codes n_a1_size f_a1_codes (tb_tag (v1).toNatClampNeg) x16 hc16)
        refine hn_cz hE (hn_runV (As := [.int (tb_tag (v1).toNatClampNeg)]) (rest := []) S hE hM cf_Row_add mw_421 mw_141 mw_142 ⟨rfl, rfl⟩ ⟨Nat.le_of_ble_eq_true rfl, Nat.le_of_ble_eq_true rfl⟩ [0, 1] rfl rfl rfl rfl rfl rfl hl.1 (lv_room (Nat.le_of_ble_eq_true rfl)) d_Checker_addTag_16 ⟨Nat.zero_le _, Nat.zero_le _⟩) [0, 1] rfl rfl (fun H locs hz16 hE => ?_)
        have hE : hn_E D (TY cI cZ) tt A s H locs [(h_a1, .inr (0, [.ref h_a1_codes, .int x16.2.1])), (h_a1_codes, .inl (cI, N_a1_codes, .inl x16.2.2))] := hE
        refine lv_pop hx hb d_Checker_addTag_19 rfl ?_
        refine lv_iinc (v := (v1 + (1 : Int32))) (lv' := [(1, .int (v1 + (1 : Int32))), (0, .ref h_a1)]) hx hb d_Checker_addTag_20 hl (k := 1) rfl rfl (by decide) rfl (fun ls hl => ?_)
        refine lv_goto (tgt := 2) hx hb d_Checker_addTag_23 (by decide) ?_
        exact hk2 (v1 + (1 : Int32)) x16.2.1 x16.2.2 H locs ls hE (lv_sub hl [1, 0] rfl) h
  unfold P_Checker_addTag at h
  refine lv_iconst (v := 0) hx hb d_Checker_addTag_0 (by decide) ?_
  refine lv_istore_n (lv' := [(1, .int (0 : Int32)), (0, .ref h_a1)]) hx hb d_Checker_addTag_1 rfl hl (by decide) rfl (fun ls hl => ?_)
  exact hL2 fu (0 : Int32) n_a1_size f_a1_codes H locs ls hE (lv_sub hl [1, 0] rfl) h
