abbrev rm_Mod_within : Room := { frames := 0, cells := 0, slots := 0, locals := 0 }
theorem cf_Mod_within : hn_CF y_Mod_within b_Mod_within 3 (some .boolean) 3 := ⟨mw_545, mw_7, by decide, by decide, by decide +kernel⟩
set_option maxHeartbeats 4000000 in
set_option maxRecDepth 100000 in
theorem c_Mod_within (l : Launch) (D : va_G) (cI cZ : ClassId) (tt : Nat → Nat) (sz : Nat) (a1 : Int32) (a2 : Int32) (a3 : Int32) (o : Int32) (h : P_Mod_within a1 a2 a3 = some o) : Met l y_Mod_within (hn_w y_Mod_within b_Mod_within 3 (some .boolean)) rm_Mod_within (hn_Pc D (TY cI cZ) tt [.int a1, .int a2, .int a3] sz []) (hn_Qz D [] sz [] o) 0 0 (va_A [] sz) := by
  refine hn_ofWz (own := R_Mod) (by decide) rfl (Nat.le_of_ble_eq_true rfl) ?_
  intro p e s m args below meth c A H locs ls Q S hE hl hret
  have hx := S.1
  have hb := S.2.1
  have hown := S.2.2.2.1
  have hl : lv_has ls 3 [(0, .int a1), (1, .int a2), (2, .int a3)] := hl
  unfold P_Mod_within at h
  refine lv_iload_n hx hb d_Mod_within_0 rfl (lv_at hl 0 rfl) ?_
  refine lv_iload_n hx hb d_Mod_within_1 rfl (lv_at hl 1 rfl) ?_
  refine lv_icmp_lt (tgt := 14) hx hb d_Mod_within_2 (by decide) (fun hc => ?_) (fun hc => ?_)
  · have h := ite_t hc h
    refine lv_iconst (v := 0) hx hb d_Mod_within_14 (by decide) ?_
    obtain rfl := Option.some.inj h
    exact hret H locs ls 15 d_Mod_within_15 narrow_b0 hE
  · have h := ite_f hc h
    refine lv_iload_n hx hb d_Mod_within_5 rfl (lv_at hl 0 rfl) ?_
    refine lv_iload_n hx hb d_Mod_within_6 rfl (lv_at hl 2 rfl) ?_
    refine lv_icmp_gt (tgt := 14) hx hb d_Mod_within_7 (by decide) (fun hc => ?_) (fun hc => ?_)
    · have h := ite_t hc h
      refine lv_iconst (v := 0) hx hb d_Mod_within_14 (by decide) ?_
      obtain rfl := Option.some.inj h
      exact hret H locs ls 15 d_Mod_within_15 narrow_b0 hE
    · have h := ite_f hc h
      refine lv_iconst (v := 1) hx hb d_Mod_within_10 (by decide) ?_
      refine lv_goto (tgt := 15) hx hb d_Mod_within_11 (by decide) ?_
      obtain rfl := Option.some.inj h
      exact hret H locs ls 15 d_Mod_within_15 narrow_b1 hE
abbrev rm_Mod_order : Room := { frames := 0, cells := 0, slots := 0, locals := 0 }
theorem cf_Mod_order : hn_CF y_Mod_order b_Mod_order 1 (some .int) 1 := ⟨mw_588, mw_7, by decide, by decide, by decide +kernel⟩
set_option maxHeartbeats 4000000 in
set_option maxRecDepth 100000 in
theorem c_Mod_order (l : Launch) (D : va_G) (cI cZ : ClassId) (tt : Nat → Nat) (sz : Nat) (a1 : Int32) (o : Int32) (h : P_Mod_order a1 = some o) : Met l y_Mod_order (hn_w y_Mod_order b_Mod_order 1 (some .int)) rm_Mod_order (hn_Pc D (TY cI cZ) tt [.int a1] sz []) (hn_Qi D [] sz [] o) 0 0 (va_A [] sz) := by
  refine hn_ofWi (own := R_Mod) (by decide) rfl (Nat.le_of_ble_eq_true rfl) ?_
  intro p e s m args below meth c A H locs ls Q S hE hl hret
  have hx := S.1
  have hb := S.2.1
  have hown := S.2.2.2.1
  have hl : lv_has ls 1 [(0, .int a1)] := hl
  unfold P_Mod_order at h
  refine lv_iload_n hx hb d_Mod_order_0 rfl (lv_at hl 0 rfl) ?_
  by_cases hs768 : a1 = (768 : Int32)
  · have h := ite_t hs768 h
    refine lv_lookup (tgt := 60) (off := 59) hx hb d_Mod_order_1 (by decide) (by rw [hs768]; decide) (by decide) ?_
    refine lv_sipush (v := 230) hx hb d_Mod_order_60 (by decide) ?_
    obtain rfl := Option.some.inj h
    exact hret H locs ls 63 d_Mod_order_63 hE
  have h := ite_f hs768 h
  by_cases hs769 : a1 = (769 : Int32)
  · have h := ite_t hs769 h
    refine lv_lookup (tgt := 60) (off := 59) hx hb d_Mod_order_1 (by decide) (by rw [hs769]; decide) (by decide) ?_
    refine lv_sipush (v := 230) hx hb d_Mod_order_60 (by decide) ?_
    obtain rfl := Option.some.inj h
    exact hret H locs ls 63 d_Mod_order_63 hE
  have h := ite_f hs769 h
  by_cases hs776 : a1 = (776 : Int32)
  · have h := ite_t hs776 h
    refine lv_lookup (tgt := 60) (off := 59) hx hb d_Mod_order_1 (by decide) (by rw [hs776]; decide) (by decide) ?_
    refine lv_sipush (v := 230) hx hb d_Mod_order_60 (by decide) ?_
    obtain rfl := Option.some.inj h
    exact hret H locs ls 63 d_Mod_order_63 hE
  have h := ite_f hs776 h
  by_cases hs807 : a1 = (807 : Int32)
  · have h := ite_t hs807 h
    refine lv_lookup (tgt := 64) (off := 63) hx hb d_Mod_order_1 (by decide) (by rw [hs807]; decide) (by decide) ?_
    refine lv_sipush (v := 202) hx hb d_Mod_order_64 (by decide) ?_
    obtain rfl := Option.some.inj h
    exact hret H locs ls 67 d_Mod_order_67 hE
  have h := ite_f hs807 h
  by_cases hs1614 : a1 = (1614 : Int32)
  · have h := ite_t hs1614 h
    refine lv_lookup (tgt := 68) (off := 67) hx hb d_Mod_order_1 (by decide) (by rw [hs1614]; decide) (by decide) ?_
    refine lv_bipush (v := 30) hx hb d_Mod_order_68 (by decide) ?_
    obtain rfl := Option.some.inj h
    exact hret H locs ls 70 d_Mod_order_70 hE
  have h := ite_f hs1614 h
  by_cases hs2381 : a1 = (2381 : Int32)
  · have h := ite_t hs2381 h
    refine lv_lookup (tgt := 71) (off := 70) hx hb d_Mod_order_1 (by decide) (by rw [hs2381]; decide) (by decide) ?_
    refine lv_bipush (v := 9) hx hb d_Mod_order_71 (by decide) ?_
    obtain rfl := Option.some.inj h
    exact hret H locs ls 73 d_Mod_order_73 hE
  have h := ite_f hs2381 h
  refine lv_lookup (tgt := 74) (off := 73) hx hb d_Mod_order_1 (by decide) (by rw [lv_osw hs768 (by decide)]; rw [lv_osw hs769 (by decide)]; rw [lv_osw hs776 (by decide)]; rw [lv_osw hs807 (by decide)]; rw [lv_osw hs1614 (by decide)]; rw [lv_osw hs2381 (by decide)]; rfl) (by decide) ?_
  refine lv_iconst (v := 0) hx hb d_Mod_order_74 (by decide) ?_
  obtain rfl := Option.some.inj h
  exact hret H locs ls 75 d_Mod_order_75 hE
abbrev rm_Mod_isGood : Room := { frames := 1, cells := 0, slots := 0, locals := 22 }
theorem cf_Mod_isGood : hn_CF y_Mod_isGood b_Mod_isGood 3 (some .boolean) 1 := ⟨mw_585, mw_7, by decide, by decide, by decide +kernel⟩
set_option maxHeartbeats 4000000 in
set_option maxRecDepth 100000 in
theorem c_Mod_isGood (l : Launch) (D : va_G) (cI cZ : ClassId) (tt : Nat → Nat) (sz : Nat) (a1 : Int32) (o : Int32) (h : P_Mod_isGood a1 = some o) : Met l y_Mod_isGood (hn_w y_Mod_isGood b_Mod_isGood 3 (some .boolean)) rm_Mod_isGood (hn_Pc D (TY cI cZ) tt [.int a1] sz []) (hn_Qz D [] sz [] o) 0 0 (va_A [] sz) := by
  refine hn_ofWz (own := R_Mod) (by decide) rfl (Nat.le_of_ble_eq_true rfl) ?_
  intro p e s m args below meth c A H locs ls Q S hE hl hret
  have hx := S.1
  have hb := S.2.1
  have hown := S.2.2.2.1
  have hl : lv_has ls 3 [(0, .int a1)] := hl
  have hj119 : ∀ (v1 : Int32) (s0 : Int32) (H : Heap) (locs : List Loc) (ls : Array Slot), hn_E D (TY cI cZ) tt A s H locs [] → lv_has ls 3 [(0, .int a1), (1, .int v1)] → P_Mod_isGood_119 a1 v1 s0 = some o → W p l e rm_Mod_isGood s m args below meth c H locs 0 0 Q (F0 m 119 ls [.int s0]) := by
    intro v1 s0 H locs ls hE hl h
    unfold P_Mod_isGood_119 at h
    refine lv_istore_n (lv' := [(2, .int s0), (0, .int a1), (1, .int v1)]) hx hb d_Mod_isGood_119 rfl hl (by decide) rfl (fun ls hl => ?_)
    refine lv_iload_n hx hb d_Mod_isGood_120 rfl (lv_at hl 2 rfl) ?_
    refine lv_if_ne (tgt := 179) hx hb d_Mod_isGood_121 (by decide) (fun hc => ?_) (fun hc => ?_)
    · have h := ite_f hc h
      refine lv_iconst (v := 1) hx hb d_Mod_isGood_179 (by decide) ?_
      refine lv_goto (tgt := 184) hx hb d_Mod_isGood_180 (by decide) ?_
      obtain rfl := Option.some.inj h
      exact hret H locs ls 184 d_Mod_isGood_184 narrow_b1 hE
    · have h := ite_t hc h
      refine lv_iload_n hx hb d_Mod_isGood_124 rfl (lv_at hl 0 rfl) ?_
      refine lv_if_ne (tgt := 179) hx hb d_Mod_isGood_125 (by decide) (fun hc => ?_) (fun hc => ?_)
      · have h := ite_f hc h
        refine lv_iconst (v := 1) hx hb d_Mod_isGood_179 (by decide) ?_
        refine lv_goto (tgt := 184) hx hb d_Mod_isGood_180 (by decide) ?_
        obtain rfl := Option.some.inj h
        exact hret H locs ls 184 d_Mod_isGood_184 narrow_b1 hE
      · have h := ite_t hc h
        refine lv_iload_n hx hb d_Mod_isGood_128 rfl (lv_at hl 1 rfl) ?_
        refine lv_sipush (v := 1632) hx hb d_Mod_isGood_129 (by decide) ?_
        refine lv_sipush (v := 1641) hx hb d_Mod_isGood_132 (by decide) ?_
        obtain ⟨x135, hc135, h⟩ := bd_s h
        have hM := (c_Mod_within l D cI cZ tt H.size a1 (1632 : Int32) (1641 : Int32) x135 hc135)
        refine hn_cz hE (hn_runS (As := [.int a1, .int (1632 : Int32), .int (1641 : Int32)]) (rest := []) S hE hM cf_Mod_within mw_543 mw_544 ⟨rfl, rfl⟩ ⟨Nat.le_of_ble_eq_true rfl, Nat.le_of_ble_eq_true rfl⟩ [] rfl rfl rfl rfl hl.1 (lv_room (Nat.le_of_ble_eq_true rfl)) d_Mod_isGood_135 ⟨Nat.zero_le _, Nat.zero_le _⟩) [] rfl rfl (fun H locs hz135 hE => ?_)
        have hE : hn_E D (TY cI cZ) tt A s H locs [] := hE
        refine lv_if_ne (tgt := 179) hx hb d_Mod_isGood_138 (by decide) (fun hc => ?_) (fun hc => ?_)
        · have h := ite_f hc h
          refine lv_iconst (v := 1) hx hb d_Mod_isGood_179 (by decide) ?_
          refine lv_goto (tgt := 184) hx hb d_Mod_isGood_180 (by decide) ?_
          obtain rfl := Option.some.inj h
          exact hret H locs ls 184 d_Mod_isGood_184 narrow_b1 hE
        · have h := ite_t hc h
          refine lv_iload_n hx hb d_Mod_isGood_141 rfl (lv_at hl 1 rfl) ?_
          refine lv_sipush (v := 1776) hx hb d_Mod_isGood_142 (by decide) ?_
          refine lv_sipush (v := 1785) hx hb d_Mod_isGood_145 (by decide) ?_
          obtain ⟨x148, hc148, h⟩ := bd_s h
          have hM := (c_Mod_within l D cI cZ tt H.size a1 (1776 : Int32) (1785 : Int32) x148 hc148)
          refine hn_cz hE (hn_runS (As := [.int a1, .int (1776 : Int32), .int (1785 : Int32)]) (rest := []) S hE hM cf_Mod_within mw_543 mw_544 ⟨rfl, rfl⟩ ⟨Nat.le_of_ble_eq_true rfl, Nat.le_of_ble_eq_true rfl⟩ [] rfl rfl rfl rfl hl.1 (lv_room (Nat.le_of_ble_eq_true rfl)) d_Mod_isGood_148 ⟨Nat.zero_le _, Nat.zero_le _⟩) [] rfl rfl (fun H locs hz148 hE => ?_)
          have hE : hn_E D (TY cI cZ) tt A s H locs [] := hE
          refine lv_if_ne (tgt := 179) hx hb d_Mod_isGood_151 (by decide) (fun hc => ?_) (fun hc => ?_)
          · have h := ite_f hc h
            refine lv_iconst (v := 1) hx hb d_Mod_isGood_179 (by decide) ?_
            refine lv_goto (tgt := 184) hx hb d_Mod_isGood_180 (by decide) ?_
            obtain rfl := Option.some.inj h
            exact hret H locs ls 184 d_Mod_isGood_184 narrow_b1 hE
          · have h := ite_t hc h
            refine lv_iload_n hx hb d_Mod_isGood_154 rfl (lv_at hl 1 rfl) ?_
            refine lv_sipush (v := 2325) hx hb d_Mod_isGood_155 (by decide) ?_
            refine lv_sipush (v := 2361) hx hb d_Mod_isGood_158 (by decide) ?_
            obtain ⟨x161, hc161, h⟩ := bd_s h
            have hM := (c_Mod_within l D cI cZ tt H.size a1 (2325 : Int32) (2361 : Int32) x161 hc161)
            refine hn_cz hE (hn_runS (As := [.int a1, .int (2325 : Int32), .int (2361 : Int32)]) (rest := []) S hE hM cf_Mod_within mw_543 mw_544 ⟨rfl, rfl⟩ ⟨Nat.le_of_ble_eq_true rfl, Nat.le_of_ble_eq_true rfl⟩ [] rfl rfl rfl rfl hl.1 (lv_room (Nat.le_of_ble_eq_true rfl)) d_Mod_isGood_161 ⟨Nat.zero_le _, Nat.zero_le _⟩) [] rfl rfl (fun H locs hz161 hE => ?_)
            have hE : hn_E D (TY cI cZ) tt A s H locs [] := hE
            refine lv_if_ne (tgt := 179) hx hb d_Mod_isGood_164 (by decide) (fun hc => ?_) (fun hc => ?_)
            · have h := ite_f hc h
              refine lv_iconst (v := 1) hx hb d_Mod_isGood_179 (by decide) ?_
              refine lv_goto (tgt := 184) hx hb d_Mod_isGood_180 (by decide) ?_
              obtain rfl := Option.some.inj h
              exact hret H locs ls 184 d_Mod_isGood_184 narrow_b1 hE
            · have h := ite_t hc h
              refine lv_iload_n hx hb d_Mod_isGood_167 rfl (lv_at hl 1 rfl) ?_
              refine lv_sipush (v := 19968) hx hb d_Mod_isGood_168 (by decide) ?_
              refine lv_ldc (v := 40959) hx hb hown (S.2.2.2.2 _ mw_589) d_Mod_isGood_171 ?_
              obtain ⟨x173, hc173, h⟩ := bd_s h
              have hM := (c_Mod_within l D cI cZ tt H.size a1 (19968 : Int32) (40959 : Int32) x173 hc173)
              refine hn_cz hE (hn_runS (As := [.int a1, .int (19968 : Int32), .int (40959 : Int32)]) (rest := []) S hE hM cf_Mod_within mw_543 mw_544 ⟨rfl, rfl⟩ ⟨Nat.le_of_ble_eq_true rfl, Nat.le_of_ble_eq_true rfl⟩ [] rfl rfl rfl rfl hl.1 (lv_room (Nat.le_of_ble_eq_true rfl)) d_Mod_isGood_173 ⟨Nat.zero_le _, Nat.zero_le _⟩) [] rfl rfl (fun H locs hz173 hE => ?_)
              have hE : hn_E D (TY cI cZ) tt A s H locs [] := hE
              refine lv_if_eq (tgt := 183) hx hb d_Mod_isGood_176 (by decide) (fun hc => ?_) (fun hc => ?_)
              · have h := ite_t hc h
                refine lv_iconst (v := 0) hx hb d_Mod_isGood_183 (by decide) ?_
                obtain rfl := Option.some.inj h
                exact hret H locs ls 184 d_Mod_isGood_184 narrow_b0 hE
              · have h := ite_f hc h
                refine lv_iconst (v := 1) hx hb d_Mod_isGood_179 (by decide) ?_
                refine lv_goto (tgt := 184) hx hb d_Mod_isGood_180 (by decide) ?_
                obtain rfl := Option.some.inj h
                exact hret H locs ls 184 d_Mod_isGood_184 narrow_b1 hE
  have hj87 : ∀ (v1 : Int32) (H : Heap) (locs : List Loc) (ls : Array Slot), hn_E D (TY cI cZ) tt A s H locs [] → lv_has ls 3 [(0, .int a1), (1, .int v1)] → P_Mod_isGood_87 a1 v1 = some o → W p l e rm_Mod_isGood s m args below meth c H locs 0 0 Q (F0 m 87 ls []) := by
    intro v1 H locs ls hE hl h
    unfold P_Mod_isGood_87 at h
    refine lv_iload_n hx hb d_Mod_isGood_87 rfl (lv_at hl 0 rfl) ?_
    refine lv_sipush (v := 1488) hx hb d_Mod_isGood_88 (by decide) ?_
    refine lv_sipush (v := 1514) hx hb d_Mod_isGood_91 (by decide) ?_
    obtain ⟨x94, hc94, h⟩ := bd_s h
    have hM := (c_Mod_within l D cI cZ tt H.size a1 (1488 : Int32) (1514 : Int32) x94 hc94)
    refine hn_cz hE (hn_runS (As := [.int a1, .int (1488 : Int32), .int (1514 : Int32)]) (rest := []) S hE hM cf_Mod_within mw_543 mw_544 ⟨rfl, rfl⟩ ⟨Nat.le_of_ble_eq_true rfl, Nat.le_of_ble_eq_true rfl⟩ [] rfl rfl rfl rfl hl.1 (lv_room (Nat.le_of_ble_eq_true rfl)) d_Mod_isGood_94 ⟨Nat.zero_le _, Nat.zero_le _⟩) [] rfl rfl (fun H locs hz94 hE => ?_)
    have hE : hn_E D (TY cI cZ) tt A s H locs [] := hE
    refine lv_if_ne (tgt := 114) hx hb d_Mod_isGood_97 (by decide) (fun hc => ?_) (fun hc => ?_)
    · have h := ite_f hc h
      refine lv_iconst (v := 1) hx hb d_Mod_isGood_114 (by decide) ?_
      refine lv_goto (tgt := 119) hx hb d_Mod_isGood_115 (by decide) ?_
      exact hj119 v1 (1 : Int32) H locs ls hE (lv_sub hl [0, 1] rfl) h
    · have h := ite_t hc h
      refine lv_iload_n hx hb d_Mod_isGood_100 rfl (lv_at hl 0 rfl) ?_
      refine lv_sipush (v := 1575) hx hb d_Mod_isGood_101 (by decide) ?_
      refine lv_icmp_eq (tgt := 114) hx hb d_Mod_isGood_104 (by decide) (fun hc => ?_) (fun hc => ?_)
      · have h := ite_t hc h
        refine lv_iconst (v := 1) hx hb d_Mod_isGood_114 (by decide) ?_
        refine lv_goto (tgt := 119) hx hb d_Mod_isGood_115 (by decide) ?_
        exact hj119 v1 (1 : Int32) H locs ls hE (lv_sub hl [0, 1] rfl) h
      · have h := ite_f hc h
        refine lv_iload_n hx hb d_Mod_isGood_107 rfl (lv_at hl 0 rfl) ?_
        refine lv_sipush (v := 1576) hx hb d_Mod_isGood_108 (by decide) ?_
        refine lv_icmp_ne (tgt := 118) hx hb d_Mod_isGood_111 (by decide) (fun hc => ?_) (fun hc => ?_)
        · have h := ite_f hc h
          refine lv_iconst (v := 0) hx hb d_Mod_isGood_118 (by decide) ?_
          exact hj119 v1 (0 : Int32) H locs ls hE (lv_sub hl [0, 1] rfl) h
        · have h := ite_t hc h
          refine lv_iconst (v := 1) hx hb d_Mod_isGood_114 (by decide) ?_
          refine lv_goto (tgt := 119) hx hb d_Mod_isGood_115 (by decide) ?_
          exact hj119 v1 (1 : Int32) H locs ls hE (lv_sub hl [0, 1] rfl) h
  have hj59 : ∀ (s0 : Int32) (H : Heap) (locs : List Loc) (ls : Array Slot), hn_E D (TY cI cZ) tt A s H locs [] → lv_has ls 3 [(0, .int a1)] → P_Mod_isGood_59 a1 s0 = some o → W p l e rm_Mod_isGood s m args below meth c H locs 0 0 Q (F0 m 59 ls [.int s0]) := by
    intro s0 H locs ls hE hl h
    unfold P_Mod_isGood_59 at h
    refine lv_istore_n (lv' := [(1, .int s0), (0, .int a1)]) hx hb d_Mod_isGood_59 rfl hl (by decide) rfl (fun ls hl => ?_)
    refine lv_iload_n hx hb d_Mod_isGood_60 rfl (lv_at hl 1 rfl) ?_
    obtain ⟨x61, hc61, h⟩ := bd_s h
    have hM := (c_Mod_order l D cI cZ tt H.size a1 x61 hc61)
    refine hn_ci hE (hn_runS (As := [.int a1]) (rest := []) S hE hM cf_Mod_order mw_586 mw_587 ⟨rfl, rfl⟩ ⟨Nat.le_of_ble_eq_true rfl, Nat.le_of_ble_eq_true rfl⟩ [] rfl rfl rfl rfl hl.1 (lv_room (Nat.le_of_ble_eq_true rfl)) d_Mod_isGood_61 ⟨Nat.zero_le _, Nat.zero_le _⟩) [] rfl rfl (fun H locs hE => ?_)
    have hE : hn_E D (TY cI cZ) tt A s H locs [] := hE
    refine lv_if_gt (tgt := 114) hx hb d_Mod_isGood_64 (by decide) (fun hc => ?_) (fun hc => ?_)
    · have h := ite_t hc h
      refine lv_iconst (v := 1) hx hb d_Mod_isGood_114 (by decide) ?_
      refine lv_goto (tgt := 119) hx hb d_Mod_isGood_115 (by decide) ?_
      exact hj119 s0 (1 : Int32) H locs ls hE (lv_sub hl [1, 0] rfl) h
    · have h := ite_f hc h
      refine lv_iload_n hx hb d_Mod_isGood_67 rfl (lv_at hl 1 rfl) ?_
      refine lv_sipush (v := 945) hx hb d_Mod_isGood_68 (by decide) ?_
      refine lv_sipush (v := 969) hx hb d_Mod_isGood_71 (by decide) ?_
      obtain ⟨x74, hc74, h⟩ := bd_s h
      have hM := (c_Mod_within l D cI cZ tt H.size a1 (945 : Int32) (969 : Int32) x74 hc74)
      refine hn_cz hE (hn_runS (As := [.int a1, .int (945 : Int32), .int (969 : Int32)]) (rest := []) S hE hM cf_Mod_within mw_543 mw_544 ⟨rfl, rfl⟩ ⟨Nat.le_of_ble_eq_true rfl, Nat.le_of_ble_eq_true rfl⟩ [] rfl rfl rfl rfl hl.1 (lv_room (Nat.le_of_ble_eq_true rfl)) d_Mod_isGood_74 ⟨Nat.zero_le _, Nat.zero_le _⟩) [] rfl rfl (fun H locs hz74 hE => ?_)
      have hE : hn_E D (TY cI cZ) tt A s H locs [] := hE
      refine lv_if_eq (tgt := 87) hx hb d_Mod_isGood_77 (by decide) (fun hc => ?_) (fun hc => ?_)
      · have h := ite_t hc h
        exact hj87 s0 H locs ls hE (lv_sub hl [1, 0] rfl) h
      · have h := ite_f hc h
        refine lv_iload_n hx hb d_Mod_isGood_80 rfl (lv_at hl 1 rfl) ?_
        refine lv_sipush (v := 962) hx hb d_Mod_isGood_81 (by decide) ?_
        refine lv_icmp_ne (tgt := 114) hx hb d_Mod_isGood_84 (by decide) (fun hc => ?_) (fun hc => ?_)
        · have h := ite_f hc h
          refine lv_iconst (v := 1) hx hb d_Mod_isGood_114 (by decide) ?_
          refine lv_goto (tgt := 119) hx hb d_Mod_isGood_115 (by decide) ?_
          exact hj119 s0 (1 : Int32) H locs ls hE (lv_sub hl [1, 0] rfl) h
        · have h := ite_t hc h
          exact hj87 s0 H locs ls hE (lv_sub hl [1, 0] rfl) h
  unfold P_Mod_isGood at h
  refine lv_iload_n hx hb d_Mod_isGood_0 rfl (lv_at hl 0 rfl) ?_
  refine lv_bipush (v := 45) hx hb d_Mod_isGood_1 (by decide) ?_
  refine lv_icmp_eq (tgt := 54) hx hb d_Mod_isGood_3 (by decide) (fun hc => ?_) (fun hc => ?_)
  · have h := ite_t hc h
    refine lv_iconst (v := 1) hx hb d_Mod_isGood_54 (by decide) ?_
    refine lv_goto (tgt := 59) hx hb d_Mod_isGood_55 (by decide) ?_
    exact hj59 (1 : Int32) H locs ls hE (lv_sub hl [0] rfl) h
  · have h := ite_f hc h
    refine lv_iload_n hx hb d_Mod_isGood_6 rfl (lv_at hl 0 rfl) ?_
    refine lv_bipush (v := 46) hx hb d_Mod_isGood_7 (by decide) ?_
    refine lv_icmp_eq (tgt := 54) hx hb d_Mod_isGood_9 (by decide) (fun hc => ?_) (fun hc => ?_)
    · have h := ite_t hc h
      refine lv_iconst (v := 1) hx hb d_Mod_isGood_54 (by decide) ?_
      refine lv_goto (tgt := 59) hx hb d_Mod_isGood_55 (by decide) ?_
      exact hj59 (1 : Int32) H locs ls hE (lv_sub hl [0] rfl) h
    · have h := ite_f hc h
      refine lv_iload_n hx hb d_Mod_isGood_12 rfl (lv_at hl 0 rfl) ?_
      refine lv_bipush (v := 48) hx hb d_Mod_isGood_13 (by decide) ?_
      refine lv_bipush (v := 57) hx hb d_Mod_isGood_15 (by decide) ?_
      obtain ⟨x17, hc17, h⟩ := bd_s h
      have hM := (c_Mod_within l D cI cZ tt H.size a1 (48 : Int32) (57 : Int32) x17 hc17)
      refine hn_cz hE (hn_runS (As := [.int a1, .int (48 : Int32), .int (57 : Int32)]) (rest := []) S hE hM cf_Mod_within mw_543 mw_544 ⟨rfl, rfl⟩ ⟨Nat.le_of_ble_eq_true rfl, Nat.le_of_ble_eq_true rfl⟩ [] rfl rfl rfl rfl hl.1 (lv_room (Nat.le_of_ble_eq_true rfl)) d_Mod_isGood_17 ⟨Nat.zero_le _, Nat.zero_le _⟩) [] rfl rfl (fun H locs hz17 hE => ?_)
      have hE : hn_E D (TY cI cZ) tt A s H locs [] := hE
      refine lv_if_ne (tgt := 54) hx hb d_Mod_isGood_20 (by decide) (fun hc => ?_) (fun hc => ?_)
      · have h := ite_f hc h
        refine lv_iconst (v := 1) hx hb d_Mod_isGood_54 (by decide) ?_
        refine lv_goto (tgt := 59) hx hb d_Mod_isGood_55 (by decide) ?_
        exact hj59 (1 : Int32) H locs ls hE (lv_sub hl [0] rfl) h
      · have h := ite_t hc h
        refine lv_iload_n hx hb d_Mod_isGood_23 rfl (lv_at hl 0 rfl) ?_
        refine lv_bipush (v := 97) hx hb d_Mod_isGood_24 (by decide) ?_
        refine lv_bipush (v := 122) hx hb d_Mod_isGood_26 (by decide) ?_
        obtain ⟨x28, hc28, h⟩ := bd_s h
        have hM := (c_Mod_within l D cI cZ tt H.size a1 (97 : Int32) (122 : Int32) x28 hc28)
        refine hn_cz hE (hn_runS (As := [.int a1, .int (97 : Int32), .int (122 : Int32)]) (rest := []) S hE hM cf_Mod_within mw_543 mw_544 ⟨rfl, rfl⟩ ⟨Nat.le_of_ble_eq_true rfl, Nat.le_of_ble_eq_true rfl⟩ [] rfl rfl rfl rfl hl.1 (lv_room (Nat.le_of_ble_eq_true rfl)) d_Mod_isGood_28 ⟨Nat.zero_le _, Nat.zero_le _⟩) [] rfl rfl (fun H locs hz28 hE => ?_)
        have hE : hn_E D (TY cI cZ) tt A s H locs [] := hE
        refine lv_if_ne (tgt := 54) hx hb d_Mod_isGood_31 (by decide) (fun hc => ?_) (fun hc => ?_)
        · have h := ite_f hc h
          refine lv_iconst (v := 1) hx hb d_Mod_isGood_54 (by decide) ?_
          refine lv_goto (tgt := 59) hx hb d_Mod_isGood_55 (by decide) ?_
          exact hj59 (1 : Int32) H locs ls hE (lv_sub hl [0] rfl) h
        · have h := ite_t hc h
          refine lv_iload_n hx hb d_Mod_isGood_34 rfl (lv_at hl 0 rfl) ?_
          refine lv_sipush (v := 224) hx hb d_Mod_isGood_35 (by decide) ?_
          refine lv_sipush (v := 255) hx hb d_Mod_isGood_38 (by decide) ?_
          obtain ⟨x41, hc41, h⟩ := bd_s h
          have hM := (c_Mod_within l D cI cZ tt H.size a1 (224 : Int32) (255 : Int32) x41 hc41)
          refine hn_cz hE (hn_runS (As := [.int a1, .int (224 : Int32), .int (255 : Int32)]) (rest := []) S hE hM cf_Mod_within mw_543 mw_544 ⟨rfl, rfl⟩ ⟨Nat.le_of_ble_eq_true rfl, Nat.le_of_ble_eq_true rfl⟩ [] rfl rfl rfl rfl hl.1 (lv_room (Nat.le_of_ble_eq_true rfl)) d_Mod_isGood_41 ⟨Nat.zero_le _, Nat.zero_le _⟩) [] rfl rfl (fun H locs hz41 hE => ?_)
          have hE : hn_E D (TY cI cZ) tt A s H locs [] := hE
          refine lv_if_eq (tgt := 58) hx hb d_Mod_isGood_44 (by decide) (fun hc => ?_) (fun hc => ?_)
          · have h := ite_t hc h
            refine lv_iconst (v := 0) hx hb d_Mod_isGood_58 (by decide) ?_
            exact hj59 (0 : Int32) H locs ls hE (lv_sub hl [0] rfl) h
          · have h := ite_f hc h
            refine lv_iload_n hx hb d_Mod_isGood_47 rfl (lv_at hl 0 rfl) ?_
            refine lv_sipush (v := 247) hx hb d_Mod_isGood_48 (by decide) ?_
            refine lv_icmp_eq (tgt := 58) hx hb d_Mod_isGood_51 (by decide) (fun hc => ?_) (fun hc => ?_)
            · have h := ite_t hc h
              refine lv_iconst (v := 0) hx hb d_Mod_isGood_58 (by decide) ?_
              exact hj59 (0 : Int32) H locs ls hE (lv_sub hl [0] rfl) h
            · have h := ite_f hc h
              refine lv_iconst (v := 1) hx hb d_Mod_isGood_54 (by decide) ?_
              refine lv_goto (tgt := 59) hx hb d_Mod_isGood_55 (by decide) ?_
              exact hj59 (1 : Int32) H locs ls hE (lv_sub hl [0] rfl) h
abbrev rm_Mod_isPlain : Room := { frames := 2, cells := 0, slots := 0, locals := 44 }
theorem cf_Mod_isPlain : hn_CF y_Mod_isPlain b_Mod_isPlain 1 (some .boolean) 1 := ⟨mw_582, mw_7, by decide, by decide, by decide +kernel⟩
set_option maxHeartbeats 4000000 in
set_option maxRecDepth 100000 in
theorem c_Mod_isPlain (l : Launch) (D : va_G) (cI cZ : ClassId) (tt : Nat → Nat) (sz : Nat) (a1 : Int32) (o : Int32) (h : P_Mod_isPlain a1 = some o) : Met l y_Mod_isPlain (hn_w y_Mod_isPlain b_Mod_isPlain 1 (some .boolean)) rm_Mod_isPlain (hn_Pc D (TY cI cZ) tt [.int a1] sz []) (hn_Qz D [] sz [] o) 0 0 (va_A [] sz) := by
  refine hn_ofWz (own := R_Mod) (by decide) rfl (Nat.le_of_ble_eq_true rfl) ?_
  intro p e s m args below meth c A H locs ls Q S hE hl hret
  have hx := S.1
  have hb := S.2.1
  have hown := S.2.2.2.1
  have hl : lv_has ls 1 [(0, .int a1)] := hl
  unfold P_Mod_isPlain at h
  refine lv_iload_n hx hb d_Mod_isPlain_0 rfl (lv_at hl 0 rfl) ?_
  refine lv_iconst (v := 0) hx hb d_Mod_isPlain_1 (by decide) ?_
  refine lv_bipush (v := 127) hx hb d_Mod_isPlain_2 (by decide) ?_
  obtain ⟨x4, hc4, h⟩ := bd_s h
  have hM := (c_Mod_within l D cI cZ tt H.size a1 (0 : Int32) (127 : Int32) x4 hc4)
  refine hn_cz hE (hn_runS (As := [.int a1, .int (0 : Int32), .int (127 : Int32)]) (rest := []) S hE hM cf_Mod_within mw_543 mw_544 ⟨rfl, rfl⟩ ⟨Nat.le_of_ble_eq_true rfl, Nat.le_of_ble_eq_true rfl⟩ [] rfl rfl rfl rfl hl.1 (lv_room (Nat.le_of_ble_eq_true rfl)) d_Mod_isPlain_4 ⟨Nat.zero_le _, Nat.zero_le _⟩) [] rfl rfl (fun H locs hz4 hE => ?_)
  have hE : hn_E D (TY cI cZ) tt A s H locs [] := hE
  refine lv_if_eq (tgt := 32) hx hb d_Mod_isPlain_7 (by decide) (fun hc => ?_) (fun hc => ?_)
  · have h := ite_t hc h
    refine lv_iconst (v := 0) hx hb d_Mod_isPlain_32 (by decide) ?_
    obtain rfl := Option.some.inj h
    exact hret H locs ls 33 d_Mod_isPlain_33 narrow_b0 hE
  · have h := ite_f hc h
    refine lv_iload_n hx hb d_Mod_isPlain_10 rfl (lv_at hl 0 rfl) ?_
    obtain ⟨x11, hc11, h⟩ := bd_s h
    have hM := (c_Mod_isGood l D cI cZ tt H.size a1 x11 hc11)
    refine hn_cz hE (hn_runS (As := [.int a1]) (rest := []) S hE hM cf_Mod_isGood mw_583 mw_584 ⟨rfl, rfl⟩ ⟨Nat.le_of_ble_eq_true rfl, Nat.le_of_ble_eq_true rfl⟩ [] rfl rfl rfl rfl hl.1 (lv_room (Nat.le_of_ble_eq_true rfl)) d_Mod_isPlain_11 ⟨Nat.zero_le _, Nat.zero_le _⟩) [] rfl rfl (fun H locs hz11 hE => ?_)
    have hE : hn_E D (TY cI cZ) tt A s H locs [] := hE
    refine lv_if_ne (tgt := 32) hx hb d_Mod_isPlain_14 (by decide) (fun hc => ?_) (fun hc => ?_)
    · have h := ite_f hc h
      refine lv_iconst (v := 0) hx hb d_Mod_isPlain_32 (by decide) ?_
      obtain rfl := Option.some.inj h
      exact hret H locs ls 33 d_Mod_isPlain_33 narrow_b0 hE
    · have h := ite_t hc h
      refine lv_iload_n hx hb d_Mod_isPlain_17 rfl (lv_at hl 0 rfl) ?_
      refine lv_bipush (v := 65) hx hb d_Mod_isPlain_18 (by decide) ?_
      refine lv_bipush (v := 90) hx hb d_Mod_isPlain_20 (by decide) ?_
      obtain ⟨x22, hc22, h⟩ := bd_s h
      have hM := (c_Mod_within l D cI cZ tt H.size a1 (65 : Int32) (90 : Int32) x22 hc22)
      refine hn_cz hE (hn_runS (As := [.int a1, .int (65 : Int32), .int (90 : Int32)]) (rest := []) S hE hM cf_Mod_within mw_543 mw_544 ⟨rfl, rfl⟩ ⟨Nat.le_of_ble_eq_true rfl, Nat.le_of_ble_eq_true rfl⟩ [] rfl rfl rfl rfl hl.1 (lv_room (Nat.le_of_ble_eq_true rfl)) d_Mod_isPlain_22 ⟨Nat.zero_le _, Nat.zero_le _⟩) [] rfl rfl (fun H locs hz22 hE => ?_)
      have hE : hn_E D (TY cI cZ) tt A s H locs [] := hE
      refine lv_if_ne (tgt := 32) hx hb d_Mod_isPlain_25 (by decide) (fun hc => ?_) (fun hc => ?_)
      · have h := ite_f hc h
        refine lv_iconst (v := 0) hx hb d_Mod_isPlain_32 (by decide) ?_
        obtain rfl := Option.some.inj h
        exact hret H locs ls 33 d_Mod_isPlain_33 narrow_b0 hE
      · have h := ite_t hc h
        refine lv_iconst (v := 1) hx hb d_Mod_isPlain_28 (by decide) ?_
        refine lv_goto (tgt := 33) hx hb d_Mod_isPlain_29 (by decide) ?_
        obtain rfl := Option.some.inj h
        exact hret H locs ls 33 d_Mod_isPlain_33 narrow_b1 hE
abbrev rm_Mod_image : Room := { frames := 1, cells := 0, slots := 0, locals := 22 }
theorem cf_Mod_image : hn_CF y_Mod_image b_Mod_image 2 (some .int) 1 := ⟨mw_572, mw_7, by decide, by decide, by decide +kernel⟩
set_option maxHeartbeats 4000000 in
set_option maxRecDepth 100000 in
theorem c_Mod_image (l : Launch) (D : va_G) (cI cZ : ClassId) (tt : Nat → Nat) (sz : Nat) (a1 : Int32) (o : Int32) (h : P_Mod_image a1 = some o) : Met l y_Mod_image (hn_w y_Mod_image b_Mod_image 2 (some .int)) rm_Mod_image (hn_Pc D (TY cI cZ) tt [.int a1] sz []) (hn_Qi D [] sz [] o) 0 0 (va_A [] sz) := by
  refine hn_ofWi (own := R_Mod) (by decide) rfl (Nat.le_of_ble_eq_true rfl) ?_
  intro p e s m args below meth c A H locs ls Q S hE hl hret
  have hx := S.1
  have hb := S.2.1
  have hown := S.2.2.2.1
  have hl : lv_has ls 2 [(0, .int a1)] := hl
  have hj56 : ∀ (H : Heap) (locs : List Loc) (ls : Array Slot), hn_E D (TY cI cZ) tt A s H locs [] → lv_has ls 2 [(0, .int a1)] → P_Mod_image_56 a1 = some o → W p l e rm_Mod_image s m args below meth c H locs 0 0 Q (F0 m 56 ls []) := by
    intro H locs ls hE hl h
    unfold P_Mod_image_56 at h
    refine lv_iload_n hx hb d_Mod_image_56 rfl (lv_at hl 0 rfl) ?_
    refine lv_sipush (v := 12290) hx hb d_Mod_image_57 (by decide) ?_
    refine lv_icmp_ne (tgt := 66) hx hb d_Mod_image_60 (by decide) (fun hc => ?_) (fun hc => ?_)
    · have h := ite_f hc h
      refine lv_iload_n hx hb d_Mod_image_66 rfl (lv_at hl 0 rfl) ?_
      refine lv_ldc (v := 65281) hx hb hown (S.2.2.2.2 _ mw_573) d_Mod_image_67 ?_
      refine lv_ldc (v := 65374) hx hb hown (S.2.2.2.2 _ mw_574) d_Mod_image_69 ?_
      obtain ⟨x71, hc71, h⟩ := bd_s h
      have hM := (c_Mod_within l D cI cZ tt H.size a1 (65281 : Int32) (65374 : Int32) x71 hc71)
      refine hn_cz hE (hn_runS (As := [.int a1, .int (65281 : Int32), .int (65374 : Int32)]) (rest := []) S hE hM cf_Mod_within mw_543 mw_544 ⟨rfl, rfl⟩ ⟨Nat.le_of_ble_eq_true rfl, Nat.le_of_ble_eq_true rfl⟩ [] rfl rfl rfl rfl hl.1 (lv_room (Nat.le_of_ble_eq_true rfl)) d_Mod_image_71 ⟨Nat.zero_le _, Nat.zero_le _⟩) [] rfl rfl (fun H locs hz71 hE => ?_)
      have hE : hn_E D (TY cI cZ) tt A s H locs [] := hE
      refine lv_if_eq (tgt := 102) hx hb d_Mod_image_74 (by decide) (fun hc => ?_) (fun hc => ?_)
      · have h := ite_t hc h
        refine lv_iconst (v := -1) hx hb d_Mod_image_102 (by decide) ?_
        obtain rfl := Option.some.inj h
        exact hret H locs ls 103 d_Mod_image_103 hE
      · have h := ite_f hc h
        refine lv_iload_n hx hb d_Mod_image_77 rfl (lv_at hl 0 rfl) ?_
        refine lv_ldc (v := 65248) hx hb hown (S.2.2.2.2 _ mw_575) d_Mod_image_78 ?_
        refine lv_isub hx hb d_Mod_image_80 ?_
        refine lv_istore_n (lv' := [(1, .int (a1 - (65248 : Int32))), (0, .int a1)]) hx hb d_Mod_image_81 rfl hl (by decide) rfl (fun ls hl => ?_)
        refine lv_iload_n hx hb d_Mod_image_82 rfl (lv_at hl 0 rfl) ?_
        refine lv_bipush (v := 65) hx hb d_Mod_image_83 (by decide) ?_
        refine lv_bipush (v := 90) hx hb d_Mod_image_85 (by decide) ?_
        obtain ⟨x87, hc87, h⟩ := bd_s h
        have hM := (c_Mod_within l D cI cZ tt H.size (a1 - (65248 : Int32)) (65 : Int32) (90 : Int32) x87 hc87)
        refine hn_cz hE (hn_runS (As := [.int (a1 - (65248 : Int32)), .int (65 : Int32), .int (90 : Int32)]) (rest := []) S hE hM cf_Mod_within mw_543 mw_544 ⟨rfl, rfl⟩ ⟨Nat.le_of_ble_eq_true rfl, Nat.le_of_ble_eq_true rfl⟩ [] rfl rfl rfl rfl hl.1 (lv_room (Nat.le_of_ble_eq_true rfl)) d_Mod_image_87 ⟨Nat.zero_le _, Nat.zero_le _⟩) [] rfl rfl (fun H locs hz87 hE => ?_)
        have hE : hn_E D (TY cI cZ) tt A s H locs [] := hE
        refine lv_if_eq (tgt := 100) hx hb d_Mod_image_90 (by decide) (fun hc => ?_) (fun hc => ?_)
        · have h := ite_t hc h
          refine lv_iload_n hx hb d_Mod_image_100 rfl (lv_at hl 0 rfl) ?_
          obtain rfl := Option.some.inj h
          exact hret H locs ls 101 d_Mod_image_101 hE
        · have h := ite_f hc h
          refine lv_iload_n hx hb d_Mod_image_93 rfl (lv_at hl 0 rfl) ?_
          refine lv_bipush (v := 32) hx hb d_Mod_image_94 (by decide) ?_
          refine lv_iadd hx hb d_Mod_image_96 ?_
          refine lv_goto (tgt := 101) hx hb d_Mod_image_97 (by decide) ?_
          obtain rfl := Option.some.inj h
          exact hret H locs ls 101 d_Mod_image_101 hE
    · have h := ite_t hc h
      refine lv_bipush (v := 46) hx hb d_Mod_image_63 (by decide) ?_
      obtain rfl := Option.some.inj h
      exact hret H locs ls 65 d_Mod_image_65 hE
  have hj31 : ∀ (H : Heap) (locs : List Loc) (ls : Array Slot), hn_E D (TY cI cZ) tt A s H locs [] → lv_has ls 2 [(0, .int a1)] → P_Mod_image_31 a1 = some o → W p l e rm_Mod_image s m args below meth c H locs 0 0 Q (F0 m 31 ls []) := by
    intro H locs ls hE hl h
    unfold P_Mod_image_31 at h
    refine lv_iload_n hx hb d_Mod_image_31 rfl (lv_at hl 0 rfl) ?_
    refine lv_sipush (v := 913) hx hb d_Mod_image_32 (by decide) ?_
    refine lv_sipush (v := 937) hx hb d_Mod_image_35 (by decide) ?_
    obtain ⟨x38, hc38, h⟩ := bd_s h
    have hM := (c_Mod_within l D cI cZ tt H.size a1 (913 : Int32) (937 : Int32) x38 hc38)
    refine hn_cz hE (hn_runS (As := [.int a1, .int (913 : Int32), .int (937 : Int32)]) (rest := []) S hE hM cf_Mod_within mw_543 mw_544 ⟨rfl, rfl⟩ ⟨Nat.le_of_ble_eq_true rfl, Nat.le_of_ble_eq_true rfl⟩ [] rfl rfl rfl rfl hl.1 (lv_room (Nat.le_of_ble_eq_true rfl)) d_Mod_image_38 ⟨Nat.zero_le _, Nat.zero_le _⟩) [] rfl rfl (fun H locs hz38 hE => ?_)
    have hE : hn_E D (TY cI cZ) tt A s H locs [] := hE
    refine lv_if_eq (tgt := 56) hx hb d_Mod_image_41 (by decide) (fun hc => ?_) (fun hc => ?_)
    · have h := ite_t hc h
      exact hj56 H locs ls hE (lv_sub hl [0] rfl) h
    · have h := ite_f hc h
      refine lv_iload_n hx hb d_Mod_image_44 rfl (lv_at hl 0 rfl) ?_
      refine lv_sipush (v := 930) hx hb d_Mod_image_45 (by decide) ?_
      refine lv_icmp_eq (tgt := 56) hx hb d_Mod_image_48 (by decide) (fun hc => ?_) (fun hc => ?_)
      · have h := ite_t hc h
        exact hj56 H locs ls hE (lv_sub hl [0] rfl) h
      · have h := ite_f hc h
        refine lv_iload_n hx hb d_Mod_image_51 rfl (lv_at hl 0 rfl) ?_
        refine lv_bipush (v := 32) hx hb d_Mod_image_52 (by decide) ?_
        refine lv_iadd hx hb d_Mod_image_54 ?_
        obtain rfl := Option.some.inj h
        exact hret H locs ls 55 d_Mod_image_55 hE
  unfold P_Mod_image at h
  refine lv_iload_n hx hb d_Mod_image_0 rfl (lv_at hl 0 rfl) ?_
  refine lv_bipush (v := 65) hx hb d_Mod_image_1 (by decide) ?_
  refine lv_bipush (v := 90) hx hb d_Mod_image_3 (by decide) ?_
  obtain ⟨x5, hc5, h⟩ := bd_s h
  have hM := (c_Mod_within l D cI cZ tt H.size a1 (65 : Int32) (90 : Int32) x5 hc5)
  refine hn_cz hE (hn_runS (As := [.int a1, .int (65 : Int32), .int (90 : Int32)]) (rest := []) S hE hM cf_Mod_within mw_543 mw_544 ⟨rfl, rfl⟩ ⟨Nat.le_of_ble_eq_true rfl, Nat.le_of_ble_eq_true rfl⟩ [] rfl rfl rfl rfl hl.1 (lv_room (Nat.le_of_ble_eq_true rfl)) d_Mod_image_5 ⟨Nat.zero_le _, Nat.zero_le _⟩) [] rfl rfl (fun H locs hz5 hE => ?_)
  have hE : hn_E D (TY cI cZ) tt A s H locs [] := hE
  refine lv_if_ne (tgt := 51) hx hb d_Mod_image_8 (by decide) (fun hc => ?_) (fun hc => ?_)
  · have h := ite_f hc h
    refine lv_iload_n hx hb d_Mod_image_51 rfl (lv_at hl 0 rfl) ?_
    refine lv_bipush (v := 32) hx hb d_Mod_image_52 (by decide) ?_
    refine lv_iadd hx hb d_Mod_image_54 ?_
    obtain rfl := Option.some.inj h
    exact hret H locs ls 55 d_Mod_image_55 hE
  · have h := ite_t hc h
    refine lv_iload_n hx hb d_Mod_image_11 rfl (lv_at hl 0 rfl) ?_
    refine lv_sipush (v := 192) hx hb d_Mod_image_12 (by decide) ?_
    refine lv_sipush (v := 222) hx hb d_Mod_image_15 (by decide) ?_
    obtain ⟨x18, hc18, h⟩ := bd_s h
    have hM := (c_Mod_within l D cI cZ tt H.size a1 (192 : Int32) (222 : Int32) x18 hc18)
    refine hn_cz hE (hn_runS (As := [.int a1, .int (192 : Int32), .int (222 : Int32)]) (rest := []) S hE hM cf_Mod_within mw_543 mw_544 ⟨rfl, rfl⟩ ⟨Nat.le_of_ble_eq_true rfl, Nat.le_of_ble_eq_true rfl⟩ [] rfl rfl rfl rfl hl.1 (lv_room (Nat.le_of_ble_eq_true rfl)) d_Mod_image_18 ⟨Nat.zero_le _, Nat.zero_le _⟩) [] rfl rfl (fun H locs hz18 hE => ?_)
    have hE : hn_E D (TY cI cZ) tt A s H locs [] := hE
    refine lv_if_eq (tgt := 31) hx hb d_Mod_image_21 (by decide) (fun hc => ?_) (fun hc => ?_)
    · have h := ite_t hc h
      exact hj31 H locs ls hE (lv_sub hl [0] rfl) h
    · have h := ite_f hc h
      refine lv_iload_n hx hb d_Mod_image_24 rfl (lv_at hl 0 rfl) ?_
      refine lv_sipush (v := 215) hx hb d_Mod_image_25 (by decide) ?_
      refine lv_icmp_ne (tgt := 51) hx hb d_Mod_image_28 (by decide) (fun hc => ?_) (fun hc => ?_)
      · have h := ite_f hc h
        refine lv_iload_n hx hb d_Mod_image_51 rfl (lv_at hl 0 rfl) ?_
        refine lv_bipush (v := 32) hx hb d_Mod_image_52 (by decide) ?_
        refine lv_iadd hx hb d_Mod_image_54 ?_
        obtain rfl := Option.some.inj h
        exact hret H locs ls 55 d_Mod_image_55 hE
      · have h := ite_t hc h
        exact hj31 H locs ls hE (lv_sub hl [0] rfl) h
abbrev rm_Mod_isOdd : Room := { frames := 0, cells := 0, slots := 0, locals := 0 }
theorem cf_Mod_isOdd : hn_CF y_Mod_isOdd b_Mod_isOdd 1 (some .boolean) 1 := ⟨mw_566, mw_7, by decide, by decide, by decide +kernel⟩
set_option maxHeartbeats 4000000 in
set_option maxRecDepth 100000 in
theorem c_Mod_isOdd (l : Launch) (D : va_G) (cI cZ : ClassId) (tt : Nat → Nat) (sz : Nat) (a1 : Int32) (o : Int32) (h : P_Mod_isOdd a1 = some o) : Met l y_Mod_isOdd (hn_w y_Mod_isOdd b_Mod_isOdd 1 (some .boolean)) rm_Mod_isOdd (hn_Pc D (TY cI cZ) tt [.int a1] sz []) (hn_Qz D [] sz [] o) 0 0 (va_A [] sz) := by
  refine hn_ofWz (own := R_Mod) (by decide) rfl (Nat.le_of_ble_eq_true rfl) ?_
  intro p e s m args below meth c A H locs ls Q S hE hl hret
  have hx := S.1
  have hb := S.2.1
  have hown := S.2.2.2.1
  have hl : lv_has ls 1 [(0, .int a1)] := hl
  unfold P_Mod_isOdd at h
  refine lv_iload_n hx hb d_Mod_isOdd_0 rfl (lv_at hl 0 rfl) ?_
  refine lv_sipush (v := 223) hx hb d_Mod_isOdd_1 (by decide) ?_
  refine lv_icmp_eq (tgt := 28) hx hb d_Mod_isOdd_4 (by decide) (fun hc => ?_) (fun hc => ?_)
  · have h := ite_t hc h
    refine lv_iconst (v := 1) hx hb d_Mod_isOdd_28 (by decide) ?_
    refine lv_goto (tgt := 33) hx hb d_Mod_isOdd_29 (by decide) ?_
    obtain rfl := Option.some.inj h
    exact hret H locs ls 33 d_Mod_isOdd_33 narrow_b1 hE
  · have h := ite_f hc h
    refine lv_iload_n hx hb d_Mod_isOdd_7 rfl (lv_at hl 0 rfl) ?_
    refine lv_sipush (v := 962) hx hb d_Mod_isOdd_8 (by decide) ?_
    refine lv_icmp_eq (tgt := 28) hx hb d_Mod_isOdd_11 (by decide) (fun hc => ?_) (fun hc => ?_)
    · have h := ite_t hc h
      refine lv_iconst (v := 1) hx hb d_Mod_isOdd_28 (by decide) ?_
      refine lv_goto (tgt := 33) hx hb d_Mod_isOdd_29 (by decide) ?_
      obtain rfl := Option.some.inj h
      exact hret H locs ls 33 d_Mod_isOdd_33 narrow_b1 hE
    · have h := ite_f hc h
      refine lv_iload_n hx hb d_Mod_isOdd_14 rfl (lv_at hl 0 rfl) ?_
      refine lv_sipush (v := 8204) hx hb d_Mod_isOdd_15 (by decide) ?_
      refine lv_icmp_eq (tgt := 28) hx hb d_Mod_isOdd_18 (by decide) (fun hc => ?_) (fun hc => ?_)
      · have h := ite_t hc h
        refine lv_iconst (v := 1) hx hb d_Mod_isOdd_28 (by decide) ?_
        refine lv_goto (tgt := 33) hx hb d_Mod_isOdd_29 (by decide) ?_
        obtain rfl := Option.some.inj h
        exact hret H locs ls 33 d_Mod_isOdd_33 narrow_b1 hE
      · have h := ite_f hc h
        refine lv_iload_n hx hb d_Mod_isOdd_21 rfl (lv_at hl 0 rfl) ?_
        refine lv_sipush (v := 8205) hx hb d_Mod_isOdd_22 (by decide) ?_
        refine lv_icmp_ne (tgt := 32) hx hb d_Mod_isOdd_25 (by decide) (fun hc => ?_) (fun hc => ?_)
        · have h := ite_f hc h
          refine lv_iconst (v := 0) hx hb d_Mod_isOdd_32 (by decide) ?_
          obtain rfl := Option.some.inj h
          exact hret H locs ls 33 d_Mod_isOdd_33 narrow_b0 hE
        · have h := ite_t hc h
          refine lv_iconst (v := 1) hx hb d_Mod_isOdd_28 (by decide) ?_
          refine lv_goto (tgt := 33) hx hb d_Mod_isOdd_29 (by decide) ?_
          obtain rfl := Option.some.inj h
          exact hret H locs ls 33 d_Mod_isOdd_33 narrow_b1 hE
abbrev rm_Mod_direction : Room := { frames := 1, cells := 0, slots := 0, locals := 22 }
theorem cf_Mod_direction : hn_CF y_Mod_direction b_Mod_direction 1 (some .int) 1 := ⟨mw_655, mw_7, by decide, by decide, by decide +kernel⟩
set_option maxHeartbeats 4000000 in
set_option maxRecDepth 100000 in
theorem c_Mod_direction (l : Launch) (D : va_G) (cI cZ : ClassId) (tt : Nat → Nat) (sz : Nat) (a1 : Int32) (o : Int32) (h : P_Mod_direction a1 = some o) : Met l y_Mod_direction (hn_w y_Mod_direction b_Mod_direction 1 (some .int)) rm_Mod_direction (hn_Pc D (TY cI cZ) tt [.int a1] sz []) (hn_Qi D [] sz [] o) 0 0 (va_A [] sz) := by
  refine hn_ofWi (own := R_Mod) (by decide) rfl (Nat.le_of_ble_eq_true rfl) ?_
  intro p e s m args below meth c A H locs ls Q S hE hl hret
  have hx := S.1
  have hb := S.2.1
  have hown := S.2.2.2.1
  have hl : lv_has ls 1 [(0, .int a1)] := hl
  unfold P_Mod_direction at h
  refine lv_iload_n hx hb d_Mod_direction_0 rfl (lv_at hl 0 rfl) ?_
  refine lv_sipush (v := 1488) hx hb d_Mod_direction_1 (by decide) ?_
  refine lv_sipush (v := 1514) hx hb d_Mod_direction_4 (by decide) ?_
  obtain ⟨x7, hc7, h⟩ := bd_s h
  have hM := (c_Mod_within l D cI cZ tt H.size a1 (1488 : Int32) (1514 : Int32) x7 hc7)
  refine hn_cz hE (hn_runS (As := [.int a1, .int (1488 : Int32), .int (1514 : Int32)]) (rest := []) S hE hM cf_Mod_within mw_543 mw_544 ⟨rfl, rfl⟩ ⟨Nat.le_of_ble_eq_true rfl, Nat.le_of_ble_eq_true rfl⟩ [] rfl rfl rfl rfl hl.1 (lv_room (Nat.le_of_ble_eq_true rfl)) d_Mod_direction_7 ⟨Nat.zero_le _, Nat.zero_le _⟩) [] rfl rfl (fun H locs hz7 hE => ?_)
  have hE : hn_E D (TY cI cZ) tt A s H locs [] := hE
  refine lv_if_eq (tgt := 15) hx hb d_Mod_direction_10 (by decide) (fun hc => ?_) (fun hc => ?_)
  · have h := ite_t hc h
    refine lv_iload_n hx hb d_Mod_direction_15 rfl (lv_at hl 0 rfl) ?_
    refine lv_sipush (v := 1575) hx hb d_Mod_direction_16 (by decide) ?_
    refine lv_icmp_eq (tgt := 29) hx hb d_Mod_direction_19 (by decide) (fun hc => ?_) (fun hc => ?_)
    · have h := ite_t hc h
      refine lv_iconst (v := 2) hx hb d_Mod_direction_29 (by decide) ?_
      obtain rfl := Option.some.inj h
      exact hret H locs ls 30 d_Mod_direction_30 hE
    · have h := ite_f hc h
      refine lv_iload_n hx hb d_Mod_direction_22 rfl (lv_at hl 0 rfl) ?_
      refine lv_sipush (v := 1576) hx hb d_Mod_direction_23 (by decide) ?_
      refine lv_icmp_ne (tgt := 31) hx hb d_Mod_direction_26 (by decide) (fun hc => ?_) (fun hc => ?_)
      · have h := ite_f hc h
        refine lv_iload_n hx hb d_Mod_direction_31 rfl (lv_at hl 0 rfl) ?_
        refine lv_sipush (v := 1632) hx hb d_Mod_direction_32 (by decide) ?_
        refine lv_sipush (v := 1641) hx hb d_Mod_direction_35 (by decide) ?_
        obtain ⟨x38, hc38, h⟩ := bd_s h
        have hM := (c_Mod_within l D cI cZ tt H.size a1 (1632 : Int32) (1641 : Int32) x38 hc38)
        refine hn_cz hE (hn_runS (As := [.int a1, .int (1632 : Int32), .int (1641 : Int32)]) (rest := []) S hE hM cf_Mod_within mw_543 mw_544 ⟨rfl, rfl⟩ ⟨Nat.le_of_ble_eq_true rfl, Nat.le_of_ble_eq_true rfl⟩ [] rfl rfl rfl rfl hl.1 (lv_room (Nat.le_of_ble_eq_true rfl)) d_Mod_direction_38 ⟨Nat.zero_le _, Nat.zero_le _⟩) [] rfl rfl (fun H locs hz38 hE => ?_)
        have hE : hn_E D (TY cI cZ) tt A s H locs [] := hE
        refine lv_if_eq (tgt := 46) hx hb d_Mod_direction_41 (by decide) (fun hc => ?_) (fun hc => ?_)
        · have h := ite_t hc h
          refine lv_iload_n hx hb d_Mod_direction_46 rfl (lv_at hl 0 rfl) ?_
          refine lv_bipush (v := 48) hx hb d_Mod_direction_47 (by decide) ?_
          refine lv_bipush (v := 57) hx hb d_Mod_direction_49 (by decide) ?_
          obtain ⟨x51, hc51, h⟩ := bd_s h
          have hM := (c_Mod_within l D cI cZ tt H.size a1 (48 : Int32) (57 : Int32) x51 hc51)
          refine hn_cz hE (hn_runS (As := [.int a1, .int (48 : Int32), .int (57 : Int32)]) (rest := []) S hE hM cf_Mod_within mw_543 mw_544 ⟨rfl, rfl⟩ ⟨Nat.le_of_ble_eq_true rfl, Nat.le_of_ble_eq_true rfl⟩ [] rfl rfl rfl rfl hl.1 (lv_room (Nat.le_of_ble_eq_true rfl)) d_Mod_direction_51 ⟨Nat.zero_le _, Nat.zero_le _⟩) [] rfl rfl (fun H locs hz51 hE => ?_)
          have hE : hn_E D (TY cI cZ) tt A s H locs [] := hE
          refine lv_if_ne (tgt := 70) hx hb d_Mod_direction_54 (by decide) (fun hc => ?_) (fun hc => ?_)
          · have h := ite_f hc h
            refine lv_iconst (v := 4) hx hb d_Mod_direction_70 (by decide) ?_
            obtain rfl := Option.some.inj h
            exact hret H locs ls 71 d_Mod_direction_71 hE
          · have h := ite_t hc h
            refine lv_iload_n hx hb d_Mod_direction_57 rfl (lv_at hl 0 rfl) ?_
            refine lv_sipush (v := 1776) hx hb d_Mod_direction_58 (by decide) ?_
            refine lv_sipush (v := 1785) hx hb d_Mod_direction_61 (by decide) ?_
            obtain ⟨x64, hc64, h⟩ := bd_s h
            have hM := (c_Mod_within l D cI cZ tt H.size a1 (1776 : Int32) (1785 : Int32) x64 hc64)
            refine hn_cz hE (hn_runS (As := [.int a1, .int (1776 : Int32), .int (1785 : Int32)]) (rest := []) S hE hM cf_Mod_within mw_543 mw_544 ⟨rfl, rfl⟩ ⟨Nat.le_of_ble_eq_true rfl, Nat.le_of_ble_eq_true rfl⟩ [] rfl rfl rfl rfl hl.1 (lv_room (Nat.le_of_ble_eq_true rfl)) d_Mod_direction_64 ⟨Nat.zero_le _, Nat.zero_le _⟩) [] rfl rfl (fun H locs hz64 hE => ?_)
            have hE : hn_E D (TY cI cZ) tt A s H locs [] := hE
            refine lv_if_eq (tgt := 72) hx hb d_Mod_direction_67 (by decide) (fun hc => ?_) (fun hc => ?_)
            · have h := ite_t hc h
              refine lv_iload_n hx hb d_Mod_direction_72 rfl (lv_at hl 0 rfl) ?_
              refine lv_bipush (v := 45) hx hb d_Mod_direction_73 (by decide) ?_
              refine lv_icmp_ne (tgt := 80) hx hb d_Mod_direction_75 (by decide) (fun hc => ?_) (fun hc => ?_)
              · have h := ite_f hc h
                refine lv_iload_n hx hb d_Mod_direction_80 rfl (lv_at hl 0 rfl) ?_
                obtain ⟨x81, hc81, h⟩ := bd_s h
                have hM := (c_Mod_order l D cI cZ tt H.size a1 x81 hc81)
                refine hn_ci hE (hn_runS (As := [.int a1]) (rest := []) S hE hM cf_Mod_order mw_586 mw_587 ⟨rfl, rfl⟩ ⟨Nat.le_of_ble_eq_true rfl, Nat.le_of_ble_eq_true rfl⟩ [] rfl rfl rfl rfl hl.1 (lv_room (Nat.le_of_ble_eq_true rfl)) d_Mod_direction_81 ⟨Nat.zero_le _, Nat.zero_le _⟩) [] rfl rfl (fun H locs hE => ?_)
                have hE : hn_E D (TY cI cZ) tt A s H locs [] := hE
                refine lv_if_le (tgt := 90) hx hb d_Mod_direction_84 (by decide) (fun hc => ?_) (fun hc => ?_)
                · have h := ite_t hc h
                  refine lv_iload_n hx hb d_Mod_direction_90 rfl (lv_at hl 0 rfl) ?_
                  refine lv_sipush (v := 8204) hx hb d_Mod_direction_91 (by decide) ?_
                  refine lv_icmp_eq (tgt := 104) hx hb d_Mod_direction_94 (by decide) (fun hc => ?_) (fun hc => ?_)
                  · have h := ite_t hc h
                    refine lv_bipush (v := 7) hx hb d_Mod_direction_104 (by decide) ?_
                    obtain rfl := Option.some.inj h
                    exact hret H locs ls 106 d_Mod_direction_106 hE
                  · have h := ite_f hc h
                    refine lv_iload_n hx hb d_Mod_direction_97 rfl (lv_at hl 0 rfl) ?_
                    refine lv_sipush (v := 8205) hx hb d_Mod_direction_98 (by decide) ?_
                    refine lv_icmp_ne (tgt := 107) hx hb d_Mod_direction_101 (by decide) (fun hc => ?_) (fun hc => ?_)
                    · have h := ite_f hc h
                      refine lv_iload_n hx hb d_Mod_direction_107 rfl (lv_at hl 0 rfl) ?_
                      refine lv_iconst (v := 0) hx hb d_Mod_direction_108 (by decide) ?_
                      refine lv_bipush (v := 127) hx hb d_Mod_direction_109 (by decide) ?_
                      obtain ⟨x111, hc111, h⟩ := bd_s h
                      have hM := (c_Mod_within l D cI cZ tt H.size a1 (0 : Int32) (127 : Int32) x111 hc111)
                      refine hn_cz hE (hn_runS (As := [.int a1, .int (0 : Int32), .int (127 : Int32)]) (rest := []) S hE hM cf_Mod_within mw_543 mw_544 ⟨rfl, rfl⟩ ⟨Nat.le_of_ble_eq_true rfl, Nat.le_of_ble_eq_true rfl⟩ [] rfl rfl rfl rfl hl.1 (lv_room (Nat.le_of_ble_eq_true rfl)) d_Mod_direction_111 ⟨Nat.zero_le _, Nat.zero_le _⟩) [] rfl rfl (fun H locs hz111 hE => ?_)
                      have hE : hn_E D (TY cI cZ) tt A s H locs [] := hE
                      refine lv_if_eq (tgt := 144) hx hb d_Mod_direction_114 (by decide) (fun hc => ?_) (fun hc => ?_)
                      · have h := ite_t hc h
                        refine lv_bipush (v := 9) hx hb d_Mod_direction_144 (by decide) ?_
                        obtain rfl := Option.some.inj h
                        exact hret H locs ls 146 d_Mod_direction_146 hE
                      · have h := ite_f hc h
                        refine lv_iload_n hx hb d_Mod_direction_117 rfl (lv_at hl 0 rfl) ?_
                        refine lv_bipush (v := 65) hx hb d_Mod_direction_118 (by decide) ?_
                        refine lv_bipush (v := 90) hx hb d_Mod_direction_120 (by decide) ?_
                        obtain ⟨x122, hc122, h⟩ := bd_s h
                        have hM := (c_Mod_within l D cI cZ tt H.size a1 (65 : Int32) (90 : Int32) x122 hc122)
                        refine hn_cz hE (hn_runS (As := [.int a1, .int (65 : Int32), .int (90 : Int32)]) (rest := []) S hE hM cf_Mod_within mw_543 mw_544 ⟨rfl, rfl⟩ ⟨Nat.le_of_ble_eq_true rfl, Nat.le_of_ble_eq_true rfl⟩ [] rfl rfl rfl rfl hl.1 (lv_room (Nat.le_of_ble_eq_true rfl)) d_Mod_direction_122 ⟨Nat.zero_le _, Nat.zero_le _⟩) [] rfl rfl (fun H locs hz122 hE => ?_)
                        have hE : hn_E D (TY cI cZ) tt A s H locs [] := hE
                        refine lv_if_ne (tgt := 144) hx hb d_Mod_direction_125 (by decide) (fun hc => ?_) (fun hc => ?_)
                        · have h := ite_f hc h
                          refine lv_bipush (v := 9) hx hb d_Mod_direction_144 (by decide) ?_
                          obtain rfl := Option.some.inj h
                          exact hret H locs ls 146 d_Mod_direction_146 hE
                        · have h := ite_t hc h
                          refine lv_iload_n hx hb d_Mod_direction_128 rfl (lv_at hl 0 rfl) ?_
                          refine lv_bipush (v := 97) hx hb d_Mod_direction_129 (by decide) ?_
                          refine lv_bipush (v := 122) hx hb d_Mod_direction_131 (by decide) ?_
                          obtain ⟨x133, hc133, h⟩ := bd_s h
                          have hM := (c_Mod_within l D cI cZ tt H.size a1 (97 : Int32) (122 : Int32) x133 hc133)
                          refine hn_cz hE (hn_runS (As := [.int a1, .int (97 : Int32), .int (122 : Int32)]) (rest := []) S hE hM cf_Mod_within mw_543 mw_544 ⟨rfl, rfl⟩ ⟨Nat.le_of_ble_eq_true rfl, Nat.le_of_ble_eq_true rfl⟩ [] rfl rfl rfl rfl hl.1 (lv_room (Nat.le_of_ble_eq_true rfl)) d_Mod_direction_133 ⟨Nat.zero_le _, Nat.zero_le _⟩) [] rfl rfl (fun H locs hz133 hE => ?_)
                          have hE : hn_E D (TY cI cZ) tt A s H locs [] := hE
                          refine lv_if_ne (tgt := 144) hx hb d_Mod_direction_136 (by decide) (fun hc => ?_) (fun hc => ?_)
                          · have h := ite_f hc h
                            refine lv_bipush (v := 9) hx hb d_Mod_direction_144 (by decide) ?_
                            obtain rfl := Option.some.inj h
                            exact hret H locs ls 146 d_Mod_direction_146 hE
                          · have h := ite_t hc h
                            refine lv_bipush (v := 8) hx hb d_Mod_direction_139 (by decide) ?_
                            refine lv_goto (tgt := 146) hx hb d_Mod_direction_141 (by decide) ?_
                            obtain rfl := Option.some.inj h
                            exact hret H locs ls 146 d_Mod_direction_146 hE
                    · have h := ite_t hc h
                      refine lv_bipush (v := 7) hx hb d_Mod_direction_104 (by decide) ?_
                      obtain rfl := Option.some.inj h
                      exact hret H locs ls 106 d_Mod_direction_106 hE
                · have h := ite_f hc h
                  refine lv_bipush (v := 6) hx hb d_Mod_direction_87 (by decide) ?_
                  obtain rfl := Option.some.inj h
                  exact hret H locs ls 89 d_Mod_direction_89 hE
              · have h := ite_t hc h
                refine lv_iconst (v := 5) hx hb d_Mod_direction_78 (by decide) ?_
                obtain rfl := Option.some.inj h
                exact hret H locs ls 79 d_Mod_direction_79 hE
            · have h := ite_f hc h
              refine lv_iconst (v := 4) hx hb d_Mod_direction_70 (by decide) ?_
              obtain rfl := Option.some.inj h
              exact hret H locs ls 71 d_Mod_direction_71 hE
        · have h := ite_f hc h
          refine lv_iconst (v := 3) hx hb d_Mod_direction_44 (by decide) ?_
          obtain rfl := Option.some.inj h
          exact hret H locs ls 45 d_Mod_direction_45 hE
      · have h := ite_t hc h
        refine lv_iconst (v := 2) hx hb d_Mod_direction_29 (by decide) ?_
        obtain rfl := Option.some.inj h
        exact hret H locs ls 30 d_Mod_direction_30 hE
  · have h := ite_f hc h
    refine lv_iconst (v := 1) hx hb d_Mod_direction_13 (by decide) ?_
    obtain rfl := Option.some.inj h
    exact hret H locs ls 14 d_Mod_direction_14 hE
abbrev rm_Mod_pair : Room := { frames := 0, cells := 0, slots := 0, locals := 0 }
theorem cf_Mod_pair : hn_CF y_Mod_pair b_Mod_pair 4 (some .int) 2 := ⟨mw_603, mw_7, by decide, by decide, by decide +kernel⟩
set_option maxHeartbeats 4000000 in
set_option maxRecDepth 100000 in
theorem c_Mod_pair (l : Launch) (D : va_G) (cI cZ : ClassId) (tt : Nat → Nat) (sz : Nat) (a1 : Int32) (a2 : Int32) (o : Int32) (h : P_Mod_pair a1 a2 = some o) : Met l y_Mod_pair (hn_w y_Mod_pair b_Mod_pair 4 (some .int)) rm_Mod_pair (hn_Pc D (TY cI cZ) tt [.int a1, .int a2] sz []) (hn_Qi D [] sz [] o) 0 0 (va_A [] sz) := by
  refine hn_ofWi (own := R_Mod) (by decide) rfl (Nat.le_of_ble_eq_true rfl) ?_
  intro p e s m args below meth c A H locs ls Q S hE hl hret
  have hx := S.1
  have hb := S.2.1
  have hown := S.2.2.2.1
  have hl : lv_has ls 4 [(0, .int a1), (1, .int a2)] := hl
  have hj167 : ∀ (v2 : Int32) (s0 : Int32) (H : Heap) (locs : List Loc) (ls : Array Slot), hn_E D (TY cI cZ) tt A s H locs [] → lv_has ls 4 [(1, .int a2), (2, .int v2)] → P_Mod_pair_167 a2 v2 s0 = some o → W p l e rm_Mod_pair s m args below meth c H locs 0 0 Q (F0 m 167 ls [.int s0]) := by
    intro v2 s0 H locs ls hE hl h
    unfold P_Mod_pair_167 at h
    refine lv_istore_n (lv' := [(3, .int s0), (1, .int a2), (2, .int v2)]) hx hb d_Mod_pair_167 rfl hl (by decide) rfl (fun ls hl => ?_)
    refine lv_iload_n hx hb d_Mod_pair_168 rfl (lv_at hl 1 rfl) ?_
    refine lv_sipush (v := 768) hx hb d_Mod_pair_169 (by decide) ?_
    refine lv_icmp_ne (tgt := 186) hx hb d_Mod_pair_172 (by decide) (fun hc => ?_) (fun hc => ?_)
    · have h := ite_f hc h
      refine lv_iload_n hx hb d_Mod_pair_186 rfl (lv_at hl 1 rfl) ?_
      refine lv_sipush (v := 769) hx hb d_Mod_pair_187 (by decide) ?_
      refine lv_icmp_ne (tgt := 197) hx hb d_Mod_pair_190 (by decide) (fun hc => ?_) (fun hc => ?_)
      · have h := ite_f hc h
        refine lv_iload_n hx hb d_Mod_pair_197 rfl (lv_at hl 2 rfl) ?_
        refine lv_if_ne (tgt := 207) hx hb d_Mod_pair_198 (by decide) (fun hc => ?_) (fun hc => ?_)
        · have h := ite_f hc h
          refine lv_iload_n hx hb d_Mod_pair_207 rfl (lv_at hl 2 rfl) ?_
          refine lv_iconst (v := 1) hx hb d_Mod_pair_208 (by decide) ?_
          refine lv_icmp_ne (tgt := 218) hx hb d_Mod_pair_209 (by decide) (fun hc => ?_) (fun hc => ?_)
          · have h := ite_f hc h
            refine lv_iload_n hx hb d_Mod_pair_218 rfl (lv_at hl 2 rfl) ?_
            refine lv_iconst (v := 2) hx hb d_Mod_pair_219 (by decide) ?_
            refine lv_icmp_ne (tgt := 229) hx hb d_Mod_pair_220 (by decide) (fun hc => ?_) (fun hc => ?_)
            · have h := ite_f hc h
              refine lv_iload_n hx hb d_Mod_pair_229 rfl (lv_at hl 2 rfl) ?_
              refine lv_iconst (v := 3) hx hb d_Mod_pair_230 (by decide) ?_
              refine lv_icmp_ne (tgt := 240) hx hb d_Mod_pair_231 (by decide) (fun hc => ?_) (fun hc => ?_)
              · have h := ite_f hc h
                refine lv_iload_n hx hb d_Mod_pair_240 rfl (lv_at hl 2 rfl) ?_
                refine lv_iconst (v := 4) hx hb d_Mod_pair_241 (by decide) ?_
                refine lv_icmp_ne (tgt := 251) hx hb d_Mod_pair_242 (by decide) (fun hc => ?_) (fun hc => ?_)
                · have h := ite_f hc h
                  refine lv_sipush (v := 255) hx hb d_Mod_pair_251 (by decide) ?_
                  obtain rfl := Option.some.inj h
                  exact hret H locs ls 254 d_Mod_pair_254 hE
                · have h := ite_t hc h
                  refine lv_sipush (v := 252) hx hb d_Mod_pair_245 (by decide) ?_
                  refine lv_goto (tgt := 254) hx hb d_Mod_pair_248 (by decide) ?_
                  obtain rfl := Option.some.inj h
                  exact hret H locs ls 254 d_Mod_pair_254 hE
              · have h := ite_t hc h
                refine lv_sipush (v := 246) hx hb d_Mod_pair_234 (by decide) ?_
                refine lv_goto (tgt := 254) hx hb d_Mod_pair_237 (by decide) ?_
                obtain rfl := Option.some.inj h
                exact hret H locs ls 254 d_Mod_pair_254 hE
            · have h := ite_t hc h
              refine lv_sipush (v := 239) hx hb d_Mod_pair_223 (by decide) ?_
              refine lv_goto (tgt := 254) hx hb d_Mod_pair_226 (by decide) ?_
              obtain rfl := Option.some.inj h
              exact hret H locs ls 254 d_Mod_pair_254 hE
          · have h := ite_t hc h
            refine lv_sipush (v := 235) hx hb d_Mod_pair_212 (by decide) ?_
            refine lv_goto (tgt := 254) hx hb d_Mod_pair_215 (by decide) ?_
            obtain rfl := Option.some.inj h
            exact hret H locs ls 254 d_Mod_pair_254 hE
        · have h := ite_t hc h
          refine lv_sipush (v := 228) hx hb d_Mod_pair_201 (by decide) ?_
          refine lv_goto (tgt := 254) hx hb d_Mod_pair_204 (by decide) ?_
          obtain rfl := Option.some.inj h
          exact hret H locs ls 254 d_Mod_pair_254 hE
      · have h := ite_t hc h
        refine lv_iload_n hx hb d_Mod_pair_193 rfl (lv_at hl 0 rfl) ?_
        refine lv_iconst (v := 1) hx hb d_Mod_pair_194 (by decide) ?_
        refine lv_iadd hx hb d_Mod_pair_195 ?_
        obtain rfl := Option.some.inj h
        exact hret H locs ls 196 d_Mod_pair_196 hE
    · have h := ite_t hc h
      refine lv_iload_n hx hb d_Mod_pair_175 rfl (lv_at hl 2 rfl) ?_
      refine lv_iconst (v := 5) hx hb d_Mod_pair_176 (by decide) ?_
      refine lv_icmp_ne (tgt := 184) hx hb d_Mod_pair_177 (by decide) (fun hc => ?_) (fun hc => ?_)
      · have h := ite_f hc h
        refine lv_iload_n hx hb d_Mod_pair_184 rfl (lv_at hl 0 rfl) ?_
        obtain rfl := Option.some.inj h
        exact hret H locs ls 185 d_Mod_pair_185 hE
      · have h := ite_t hc h
        refine lv_iconst (v := 0) hx hb d_Mod_pair_180 (by decide) ?_
        refine lv_goto (tgt := 185) hx hb d_Mod_pair_181 (by decide) ?_
        obtain rfl := Option.some.inj h
        exact hret H locs ls 185 d_Mod_pair_185 hE
  have hj110 : ∀ (v2 : Int32) (H : Heap) (locs : List Loc) (ls : Array Slot), hn_E D (TY cI cZ) tt A s H locs [] → lv_has ls 4 [(1, .int a2), (2, .int v2)] → P_Mod_pair_110 a2 v2 = some o → W p l e rm_Mod_pair s m args below meth c H locs 0 0 Q (F0 m 110 ls []) := by
    intro v2 H locs ls hE hl h
    unfold P_Mod_pair_110 at h
    refine lv_iload_n hx hb d_Mod_pair_110 rfl (lv_at hl 1 rfl) ?_
    refine lv_if_ne (tgt := 120) hx hb d_Mod_pair_111 (by decide) (fun hc => ?_) (fun hc => ?_)
    · have h := ite_f hc h
      refine lv_iload_n hx hb d_Mod_pair_120 rfl (lv_at hl 1 rfl) ?_
      refine lv_iconst (v := 1) hx hb d_Mod_pair_121 (by decide) ?_
      refine lv_icmp_ne (tgt := 131) hx hb d_Mod_pair_122 (by decide) (fun hc => ?_) (fun hc => ?_)
      · have h := ite_f hc h
        refine lv_iload_n hx hb d_Mod_pair_131 rfl (lv_at hl 1 rfl) ?_
        refine lv_iconst (v := 2) hx hb d_Mod_pair_132 (by decide) ?_
        refine lv_icmp_ne (tgt := 142) hx hb d_Mod_pair_133 (by decide) (fun hc => ?_) (fun hc => ?_)
        · have h := ite_f hc h
          refine lv_iload_n hx hb d_Mod_pair_142 rfl (lv_at hl 1 rfl) ?_
          refine lv_iconst (v := 3) hx hb d_Mod_pair_143 (by decide) ?_
          refine lv_icmp_ne (tgt := 153) hx hb d_Mod_pair_144 (by decide) (fun hc => ?_) (fun hc => ?_)
          · have h := ite_f hc h
            refine lv_iload_n hx hb d_Mod_pair_153 rfl (lv_at hl 1 rfl) ?_
            refine lv_iconst (v := 4) hx hb d_Mod_pair_154 (by decide) ?_
            refine lv_icmp_ne (tgt := 164) hx hb d_Mod_pair_155 (by decide) (fun hc => ?_) (fun hc => ?_)
            · have h := ite_f hc h
              refine lv_sipush (v := 252) hx hb d_Mod_pair_164 (by decide) ?_
              exact hj167 v2 (252 : Int32) H locs ls hE (lv_sub hl [0, 1] rfl) h
            · have h := ite_t hc h
              refine lv_sipush (v := 249) hx hb d_Mod_pair_158 (by decide) ?_
              refine lv_goto (tgt := 167) hx hb d_Mod_pair_161 (by decide) ?_
              exact hj167 v2 (249 : Int32) H locs ls hE (lv_sub hl [0, 1] rfl) h
          · have h := ite_t hc h
            refine lv_sipush (v := 242) hx hb d_Mod_pair_147 (by decide) ?_
            refine lv_goto (tgt := 167) hx hb d_Mod_pair_150 (by decide) ?_
            exact hj167 v2 (242 : Int32) H locs ls hE (lv_sub hl [0, 1] rfl) h
        · have h := ite_t hc h
          refine lv_sipush (v := 236) hx hb d_Mod_pair_136 (by decide) ?_
          refine lv_goto (tgt := 167) hx hb d_Mod_pair_139 (by decide) ?_
          exact hj167 v2 (236 : Int32) H locs ls hE (lv_sub hl [0, 1] rfl) h
      · have h := ite_t hc h
        refine lv_sipush (v := 232) hx hb d_Mod_pair_125 (by decide) ?_
        refine lv_goto (tgt := 167) hx hb d_Mod_pair_128 (by decide) ?_
        exact hj167 v2 (232 : Int32) H locs ls hE (lv_sub hl [0, 1] rfl) h
    · have h := ite_t hc h
      refine lv_sipush (v := 224) hx hb d_Mod_pair_114 (by decide) ?_
      refine lv_goto (tgt := 167) hx hb d_Mod_pair_117 (by decide) ?_
      exact hj167 v2 (224 : Int32) H locs ls hE (lv_sub hl [0, 1] rfl) h
  have hj61 : ∀ (s0 : Int32) (H : Heap) (locs : List Loc) (ls : Array Slot), hn_E D (TY cI cZ) tt A s H locs [] → lv_has ls 4 [(0, .int a1), (1, .int a2)] → P_Mod_pair_61 a1 a2 s0 = some o → W p l e rm_Mod_pair s m args below meth c H locs 0 0 Q (F0 m 61 ls [.int s0]) := by
    intro s0 H locs ls hE hl h
    unfold P_Mod_pair_61 at h
    refine lv_istore_n (lv' := [(2, .int s0), (0, .int a1), (1, .int a2)]) hx hb d_Mod_pair_61 rfl hl (by decide) rfl (fun ls hl => ?_)
    refine lv_iload_n hx hb d_Mod_pair_62 rfl (lv_at hl 2 rfl) ?_
    refine lv_sipush (v := 807) hx hb d_Mod_pair_63 (by decide) ?_
    refine lv_icmp_ne (tgt := 83) hx hb d_Mod_pair_66 (by decide) (fun hc => ?_) (fun hc => ?_)
    · have h := ite_f hc h
      refine lv_iload_n hx hb d_Mod_pair_83 rfl (lv_at hl 0 rfl) ?_
      refine lv_if_lt (tgt := 108) hx hb d_Mod_pair_84 (by decide) (fun hc => ?_) (fun hc => ?_)
      · have h := ite_t hc h
        refine lv_iconst (v := 0) hx hb d_Mod_pair_108 (by decide) ?_
        obtain rfl := Option.some.inj h
        exact hret H locs ls 109 d_Mod_pair_109 hE
      · have h := ite_f hc h
        refine lv_iload_n hx hb d_Mod_pair_87 rfl (lv_at hl 2 rfl) ?_
        refine lv_sipush (v := 768) hx hb d_Mod_pair_88 (by decide) ?_
        refine lv_icmp_eq (tgt := 110) hx hb d_Mod_pair_91 (by decide) (fun hc => ?_) (fun hc => ?_)
        · have h := ite_t hc h
          exact hj110 s0 H locs ls hE (lv_sub hl [2, 0] rfl) h
        · have h := ite_f hc h
          refine lv_iload_n hx hb d_Mod_pair_94 rfl (lv_at hl 2 rfl) ?_
          refine lv_sipush (v := 769) hx hb d_Mod_pair_95 (by decide) ?_
          refine lv_icmp_eq (tgt := 110) hx hb d_Mod_pair_98 (by decide) (fun hc => ?_) (fun hc => ?_)
          · have h := ite_t hc h
            exact hj110 s0 H locs ls hE (lv_sub hl [2, 0] rfl) h
          · have h := ite_f hc h
            refine lv_iload_n hx hb d_Mod_pair_101 rfl (lv_at hl 2 rfl) ?_
            refine lv_sipush (v := 776) hx hb d_Mod_pair_102 (by decide) ?_
            refine lv_icmp_eq (tgt := 110) hx hb d_Mod_pair_105 (by decide) (fun hc => ?_) (fun hc => ?_)
            · have h := ite_t hc h
              exact hj110 s0 H locs ls hE (lv_sub hl [2, 0] rfl) h
            · have h := ite_f hc h
              refine lv_iconst (v := 0) hx hb d_Mod_pair_108 (by decide) ?_
              obtain rfl := Option.some.inj h
              exact hret H locs ls 109 d_Mod_pair_109 hE
    · have h := ite_t hc h
      refine lv_iload_n hx hb d_Mod_pair_69 rfl (lv_at hl 1 rfl) ?_
      refine lv_bipush (v := 99) hx hb d_Mod_pair_70 (by decide) ?_
      refine lv_icmp_ne (tgt := 81) hx hb d_Mod_pair_72 (by decide) (fun hc => ?_) (fun hc => ?_)
      · have h := ite_f hc h
        refine lv_iconst (v := 0) hx hb d_Mod_pair_81 (by decide) ?_
        obtain rfl := Option.some.inj h
        exact hret H locs ls 82 d_Mod_pair_82 hE
      · have h := ite_t hc h
        refine lv_sipush (v := 231) hx hb d_Mod_pair_75 (by decide) ?_
        refine lv_goto (tgt := 82) hx hb d_Mod_pair_78 (by decide) ?_
        obtain rfl := Option.some.inj h
        exact hret H locs ls 82 d_Mod_pair_82 hE
  unfold P_Mod_pair at h
  refine lv_iload_n hx hb d_Mod_pair_0 rfl (lv_at hl 0 rfl) ?_
  refine lv_bipush (v := 97) hx hb d_Mod_pair_1 (by decide) ?_
  refine lv_icmp_ne (tgt := 10) hx hb d_Mod_pair_3 (by decide) (fun hc => ?_) (fun hc => ?_)
  · have h := ite_f hc h
    refine lv_iload_n hx hb d_Mod_pair_10 rfl (lv_at hl 0 rfl) ?_
    refine lv_bipush (v := 101) hx hb d_Mod_pair_11 (by decide) ?_
    refine lv_icmp_ne (tgt := 20) hx hb d_Mod_pair_13 (by decide) (fun hc => ?_) (fun hc => ?_)
    · have h := ite_f hc h
      refine lv_iload_n hx hb d_Mod_pair_20 rfl (lv_at hl 0 rfl) ?_
      refine lv_bipush (v := 105) hx hb d_Mod_pair_21 (by decide) ?_
      refine lv_icmp_ne (tgt := 30) hx hb d_Mod_pair_23 (by decide) (fun hc => ?_) (fun hc => ?_)
      · have h := ite_f hc h
        refine lv_iload_n hx hb d_Mod_pair_30 rfl (lv_at hl 0 rfl) ?_
        refine lv_bipush (v := 111) hx hb d_Mod_pair_31 (by decide) ?_
        refine lv_icmp_ne (tgt := 40) hx hb d_Mod_pair_33 (by decide) (fun hc => ?_) (fun hc => ?_)
        · have h := ite_f hc h
          refine lv_iload_n hx hb d_Mod_pair_40 rfl (lv_at hl 0 rfl) ?_
          refine lv_bipush (v := 117) hx hb d_Mod_pair_41 (by decide) ?_
          refine lv_icmp_ne (tgt := 50) hx hb d_Mod_pair_43 (by decide) (fun hc => ?_) (fun hc => ?_)
          · have h := ite_f hc h
            refine lv_iload_n hx hb d_Mod_pair_50 rfl (lv_at hl 0 rfl) ?_
            refine lv_bipush (v := 121) hx hb d_Mod_pair_51 (by decide) ?_
            refine lv_icmp_ne (tgt := 60) hx hb d_Mod_pair_53 (by decide) (fun hc => ?_) (fun hc => ?_)
            · have h := ite_f hc h
              refine lv_iconst (v := -1) hx hb d_Mod_pair_60 (by decide) ?_
              exact hj61 (-1 : Int32) H locs ls hE (lv_sub hl [0, 1] rfl) h
            · have h := ite_t hc h
              refine lv_iconst (v := 5) hx hb d_Mod_pair_56 (by decide) ?_
              refine lv_goto (tgt := 61) hx hb d_Mod_pair_57 (by decide) ?_
              exact hj61 (5 : Int32) H locs ls hE (lv_sub hl [0, 1] rfl) h
          · have h := ite_t hc h
            refine lv_iconst (v := 4) hx hb d_Mod_pair_46 (by decide) ?_
            refine lv_goto (tgt := 61) hx hb d_Mod_pair_47 (by decide) ?_
            exact hj61 (4 : Int32) H locs ls hE (lv_sub hl [0, 1] rfl) h
        · have h := ite_t hc h
          refine lv_iconst (v := 3) hx hb d_Mod_pair_36 (by decide) ?_
          refine lv_goto (tgt := 61) hx hb d_Mod_pair_37 (by decide) ?_
          exact hj61 (3 : Int32) H locs ls hE (lv_sub hl [0, 1] rfl) h
      · have h := ite_t hc h
        refine lv_iconst (v := 2) hx hb d_Mod_pair_26 (by decide) ?_
        refine lv_goto (tgt := 61) hx hb d_Mod_pair_27 (by decide) ?_
        exact hj61 (2 : Int32) H locs ls hE (lv_sub hl [0, 1] rfl) h
    · have h := ite_t hc h
      refine lv_iconst (v := 1) hx hb d_Mod_pair_16 (by decide) ?_
      refine lv_goto (tgt := 61) hx hb d_Mod_pair_17 (by decide) ?_
      exact hj61 (1 : Int32) H locs ls hE (lv_sub hl [0, 1] rfl) h
  · have h := ite_t hc h
    refine lv_iconst (v := 0) hx hb d_Mod_pair_6 (by decide) ?_
    refine lv_goto (tgt := 61) hx hb d_Mod_pair_7 (by decide) ?_
    exact hj61 (0 : Int32) H locs ls hE (lv_sub hl [0, 1] rfl) h
abbrev rm_Mod_letterOf : Room := { frames := 1, cells := 0, slots := 0, locals := 23 }
theorem cf_Mod_letterOf : hn_CF y_Mod_letterOf b_Mod_letterOf 4 (some .int) 1 := ⟨mw_600, mw_7, by decide, by decide, by decide +kernel⟩
set_option maxHeartbeats 4000000 in
set_option maxRecDepth 100000 in
theorem c_Mod_letterOf (l : Launch) (D : va_G) (cI cZ : ClassId) (tt : Nat → Nat) (sz : Nat) (a1 : Int32) (o : Int32) (h : P_Mod_letterOf a1 = some o) : Met l y_Mod_letterOf (hn_w y_Mod_letterOf b_Mod_letterOf 4 (some .int)) rm_Mod_letterOf (hn_Pc D (TY cI cZ) tt [.int a1] sz []) (hn_Qi D [] sz [] o) 0 0 (va_A [] sz) := by
  refine hn_ofWi (own := R_Mod) (by decide) rfl (Nat.le_of_ble_eq_true rfl) ?_
  intro p e s m args below meth c A H locs ls Q S hE hl hret
  have hx := S.1
  have hb := S.2.1
  have hown := S.2.2.2.1
  have hl : lv_has ls 4 [(0, .int a1)] := hl
  have hL5 : ∀ (kf : Nat) (v1 : Int32) (v2 : Int32) (H : Heap) (locs : List Loc) (ls : Array Slot), hn_E D (TY cI cZ) tt A s H locs [] → lv_has ls 4 [(0, .int a1), (1, .int v1), (2, .int v2)] → fl2 (P_Mod_letterOf_5 a1) kf v1 v2 = some o → W p l e rm_Mod_letterOf s m args below meth c H locs 0 0 Q (F0 m 5 ls []) := by
    intro kf
    induction kf with
    | zero => intro v1 v2 H locs ls hE hl h; exact no_s h
    | succ kf ih =>
      intro v1 v2 H locs ls hE hl h
      have h : P_Mod_letterOf_5 a1 (fl2 (P_Mod_letterOf_5 a1) kf) v1 v2 = some o := h
      generalize fl2 (P_Mod_letterOf_5 a1) kf = k5 at ih h
      have hk5 := ih
      have hj60 : ∀ (v1 : Int32) (v2 : Int32) (s0 : Int32) (H : Heap) (locs : List Loc) (ls : Array Slot), hn_E D (TY cI cZ) tt A s H locs [] → lv_has ls 4 [(0, .int a1), (1, .int v1), (2, .int v2)] → P_Mod_letterOf_60 a1 k5 v1 v2 s0 = some o → W p l e rm_Mod_letterOf s m args below meth c H locs 0 0 Q (F0 m 60 ls [.int s0]) := by
        intro v1 v2 s0 H locs ls hE hl h
        unfold P_Mod_letterOf_60 at h
        refine lv_istore_n (lv' := [(3, .int s0), (0, .int a1), (1, .int v1), (2, .int v2)]) hx hb d_Mod_letterOf_60 rfl hl (by decide) rfl (fun ls hl => ?_)
        refine lv_iload_n hx hb d_Mod_letterOf_61 rfl (lv_at hl 1 rfl) ?_
        refine lv_if_le (tgt := 73) hx hb d_Mod_letterOf_62 (by decide) (fun hc => ?_) (fun hc => ?_)
        · have h := ite_t hc h
          refine lv_iload_n hx hb d_Mod_letterOf_73 rfl (lv_at hl 2 rfl) ?_
          refine lv_istore_n (lv' := [(1, .int v1), (3, .int s0), (0, .int a1), (2, .int v2)]) hx hb d_Mod_letterOf_74 rfl hl (by decide) rfl (fun ls hl => ?_)
          refine lv_iinc (v := (v2 + (1 : Int32))) (lv' := [(2, .int (v2 + (1 : Int32))), (1, .int v1), (3, .int s0), (0, .int a1)]) hx hb d_Mod_letterOf_75 hl (k := 3) rfl rfl (by decide) rfl (fun ls hl => ?_)
          refine lv_goto (tgt := 5) hx hb d_Mod_letterOf_78 (by decide) ?_
          exact hk5 v1 (v2 + (1 : Int32)) H locs ls hE (lv_sub hl [3, 1, 0] rfl) h
        · have h := ite_f hc h
          refine lv_iload_n hx hb d_Mod_letterOf_65 rfl (lv_at hl 0 rfl) ?_
          refine lv_if_eq (tgt := 73) hx hb d_Mod_letterOf_66 (by decide) (fun hc => ?_) (fun hc => ?_)
          · have h := ite_t hc h
            refine lv_iload_n hx hb d_Mod_letterOf_73 rfl (lv_at hl 2 rfl) ?_
            refine lv_istore_n (lv' := [(1, .int v1), (3, .int s0), (0, .int a1), (2, .int v2)]) hx hb d_Mod_letterOf_74 rfl hl (by decide) rfl (fun ls hl => ?_)
            refine lv_iinc (v := (v2 + (1 : Int32))) (lv' := [(2, .int (v2 + (1 : Int32))), (1, .int v1), (3, .int s0), (0, .int a1)]) hx hb d_Mod_letterOf_75 hl (k := 3) rfl rfl (by decide) rfl (fun ls hl => ?_)
            refine lv_goto (tgt := 5) hx hb d_Mod_letterOf_78 (by decide) ?_
            exact hk5 v1 (v2 + (1 : Int32)) H locs ls hE (lv_sub hl [3, 1, 0] rfl) h
          · have h := ite_f hc h
            refine lv_iload_n hx hb d_Mod_letterOf_69 rfl (lv_at hl 3 rfl) ?_
            refine lv_goto (tgt := 74) hx hb d_Mod_letterOf_70 (by decide) ?_
            refine lv_istore_n (lv' := [(1, .int v2), (3, .int s0), (0, .int a1), (2, .int v2)]) hx hb d_Mod_letterOf_74 rfl hl (by decide) rfl (fun ls hl => ?_)
            refine lv_iinc (v := (v2 + (1 : Int32))) (lv' := [(2, .int (v2 + (1 : Int32))), (1, .int v2), (3, .int s0), (0, .int a1)]) hx hb d_Mod_letterOf_75 hl (k := 3) rfl rfl (by decide) rfl (fun ls hl => ?_)
            refine lv_goto (tgt := 5) hx hb d_Mod_letterOf_78 (by decide) ?_
            exact hk5 v2 (v2 + (1 : Int32)) H locs ls hE (lv_sub hl [3, 1, 0] rfl) h
      unfold P_Mod_letterOf_5 at h
      refine lv_iload_n hx hb d_Mod_letterOf_5 rfl (lv_at hl 2 rfl) ?_
      refine lv_bipush (v := 121) hx hb d_Mod_letterOf_6 (by decide) ?_
      refine lv_icmp_gt (tgt := 81) hx hb d_Mod_letterOf_8 (by decide) (fun hc => ?_) (fun hc => ?_)
      · have h := ite_t hc h
        refine lv_iload_n hx hb d_Mod_letterOf_81 rfl (lv_at hl 1 rfl) ?_
        obtain rfl := Option.some.inj h
        exact hret H locs ls 82 d_Mod_letterOf_82 hE
      · have h := ite_f hc h
        refine lv_iload_n hx hb d_Mod_letterOf_11 rfl (lv_at hl 2 rfl) ?_
        refine lv_sipush (v := 768) hx hb d_Mod_letterOf_12 (by decide) ?_
        obtain ⟨x15, hc15, h⟩ := bd_s h
        have hM := (c_Mod_pair l D cI cZ tt H.size v2 (768 : Int32) x15 hc15)
        refine hn_ci hE (hn_runS (As := [.int v2, .int (768 : Int32)]) (rest := []) S hE hM cf_Mod_pair mw_601 mw_602 ⟨rfl, rfl⟩ ⟨Nat.le_of_ble_eq_true rfl, Nat.le_of_ble_eq_true rfl⟩ [] rfl rfl rfl rfl hl.1 (lv_room (Nat.le_of_ble_eq_true rfl)) d_Mod_letterOf_15 ⟨Nat.zero_le _, Nat.zero_le _⟩) [] rfl rfl (fun H locs hE => ?_)
        have hE : hn_E D (TY cI cZ) tt A s H locs [] := hE
        refine lv_iload_n hx hb d_Mod_letterOf_18 rfl (lv_at hl 0 rfl) ?_
        refine lv_icmp_eq (tgt := 55) hx hb d_Mod_letterOf_19 (by decide) (fun hc => ?_) (fun hc => ?_)
        · have h := ite_t hc h
          refine lv_iconst (v := 1) hx hb d_Mod_letterOf_55 (by decide) ?_
          refine lv_goto (tgt := 60) hx hb d_Mod_letterOf_56 (by decide) ?_
          exact hj60 v1 v2 (1 : Int32) H locs ls hE (lv_sub hl [0, 1, 2] rfl) h
        · have h := ite_f hc h
          refine lv_iload_n hx hb d_Mod_letterOf_22 rfl (lv_at hl 2 rfl) ?_
          refine lv_sipush (v := 769) hx hb d_Mod_letterOf_23 (by decide) ?_
          obtain ⟨x26, hc26, h⟩ := bd_s h
          have hM := (c_Mod_pair l D cI cZ tt H.size v2 (769 : Int32) x26 hc26)
          refine hn_ci hE (hn_runS (As := [.int v2, .int (769 : Int32)]) (rest := []) S hE hM cf_Mod_pair mw_601 mw_602 ⟨rfl, rfl⟩ ⟨Nat.le_of_ble_eq_true rfl, Nat.le_of_ble_eq_true rfl⟩ [] rfl rfl rfl rfl hl.1 (lv_room (Nat.le_of_ble_eq_true rfl)) d_Mod_letterOf_26 ⟨Nat.zero_le _, Nat.zero_le _⟩) [] rfl rfl (fun H locs hE => ?_)
          have hE : hn_E D (TY cI cZ) tt A s H locs [] := hE
          refine lv_iload_n hx hb d_Mod_letterOf_29 rfl (lv_at hl 0 rfl) ?_
          refine lv_icmp_eq (tgt := 55) hx hb d_Mod_letterOf_30 (by decide) (fun hc => ?_) (fun hc => ?_)
          · have h := ite_t hc h
            refine lv_iconst (v := 1) hx hb d_Mod_letterOf_55 (by decide) ?_
            refine lv_goto (tgt := 60) hx hb d_Mod_letterOf_56 (by decide) ?_
            exact hj60 v1 v2 (1 : Int32) H locs ls hE (lv_sub hl [0, 1, 2] rfl) h
          · have h := ite_f hc h
            refine lv_iload_n hx hb d_Mod_letterOf_33 rfl (lv_at hl 2 rfl) ?_
            refine lv_sipush (v := 776) hx hb d_Mod_letterOf_34 (by decide) ?_
            obtain ⟨x37, hc37, h⟩ := bd_s h
            have hM := (c_Mod_pair l D cI cZ tt H.size v2 (776 : Int32) x37 hc37)
            refine hn_ci hE (hn_runS (As := [.int v2, .int (776 : Int32)]) (rest := []) S hE hM cf_Mod_pair mw_601 mw_602 ⟨rfl, rfl⟩ ⟨Nat.le_of_ble_eq_true rfl, Nat.le_of_ble_eq_true rfl⟩ [] rfl rfl rfl rfl hl.1 (lv_room (Nat.le_of_ble_eq_true rfl)) d_Mod_letterOf_37 ⟨Nat.zero_le _, Nat.zero_le _⟩) [] rfl rfl (fun H locs hE => ?_)
            have hE : hn_E D (TY cI cZ) tt A s H locs [] := hE
            refine lv_iload_n hx hb d_Mod_letterOf_40 rfl (lv_at hl 0 rfl) ?_
            refine lv_icmp_eq (tgt := 55) hx hb d_Mod_letterOf_41 (by decide) (fun hc => ?_) (fun hc => ?_)
            · have h := ite_t hc h
              refine lv_iconst (v := 1) hx hb d_Mod_letterOf_55 (by decide) ?_
              refine lv_goto (tgt := 60) hx hb d_Mod_letterOf_56 (by decide) ?_
              exact hj60 v1 v2 (1 : Int32) H locs ls hE (lv_sub hl [0, 1, 2] rfl) h
            · have h := ite_f hc h
              refine lv_iload_n hx hb d_Mod_letterOf_44 rfl (lv_at hl 2 rfl) ?_
              refine lv_sipush (v := 807) hx hb d_Mod_letterOf_45 (by decide) ?_
              obtain ⟨x48, hc48, h⟩ := bd_s h
              have hM := (c_Mod_pair l D cI cZ tt H.size v2 (807 : Int32) x48 hc48)
              refine hn_ci hE (hn_runS (As := [.int v2, .int (807 : Int32)]) (rest := []) S hE hM cf_Mod_pair mw_601 mw_602 ⟨rfl, rfl⟩ ⟨Nat.le_of_ble_eq_true rfl, Nat.le_of_ble_eq_true rfl⟩ [] rfl rfl rfl rfl hl.1 (lv_room (Nat.le_of_ble_eq_true rfl)) d_Mod_letterOf_48 ⟨Nat.zero_le _, Nat.zero_le _⟩) [] rfl rfl (fun H locs hE => ?_)
              have hE : hn_E D (TY cI cZ) tt A s H locs [] := hE
              refine lv_iload_n hx hb d_Mod_letterOf_51 rfl (lv_at hl 0 rfl) ?_
              refine lv_icmp_ne (tgt := 59) hx hb d_Mod_letterOf_52 (by decide) (fun hc => ?_) (fun hc => ?_)
              · have h := ite_f hc h
                refine lv_iconst (v := 0) hx hb d_Mod_letterOf_59 (by decide) ?_
                exact hj60 v1 v2 (0 : Int32) H locs ls hE (lv_sub hl [0, 1, 2] rfl) h
              · have h := ite_t hc h
                refine lv_iconst (v := 1) hx hb d_Mod_letterOf_55 (by decide) ?_
                refine lv_goto (tgt := 60) hx hb d_Mod_letterOf_56 (by decide) ?_
                exact hj60 v1 v2 (1 : Int32) H locs ls hE (lv_sub hl [0, 1, 2] rfl) h
  unfold P_Mod_letterOf at h
  refine lv_iconst (v := 0) hx hb d_Mod_letterOf_0 (by decide) ?_
  refine lv_istore_n (lv' := [(1, .int (0 : Int32)), (0, .int a1)]) hx hb d_Mod_letterOf_1 rfl hl (by decide) rfl (fun ls hl => ?_)
  refine lv_bipush (v := 97) hx hb d_Mod_letterOf_2 (by decide) ?_
  refine lv_istore_n (lv' := [(2, .int (97 : Int32)), (1, .int (0 : Int32)), (0, .int a1)]) hx hb d_Mod_letterOf_4 rfl hl (by decide) rfl (fun ls hl => ?_)
  exact hL5 fu (0 : Int32) (97 : Int32) H locs ls hE (lv_sub hl [2, 1, 0] rfl) h
abbrev rm_Mod_markOf : Room := { frames := 2, cells := 0, slots := 0, locals := 46 }
theorem cf_Mod_markOf : hn_CF y_Mod_markOf b_Mod_markOf 2 (some .int) 1 := ⟨mw_606, mw_7, by decide, by decide, by decide +kernel⟩
set_option maxHeartbeats 4000000 in
set_option maxRecDepth 100000 in
theorem c_Mod_markOf (l : Launch) (D : va_G) (cI cZ : ClassId) (tt : Nat → Nat) (sz : Nat) (a1 : Int32) (o : Int32) (h : P_Mod_markOf a1 = some o) : Met l y_Mod_markOf (hn_w y_Mod_markOf b_Mod_markOf 2 (some .int)) rm_Mod_markOf (hn_Pc D (TY cI cZ) tt [.int a1] sz []) (hn_Qi D [] sz [] o) 0 0 (va_A [] sz) := by
  refine hn_ofWi (own := R_Mod) (by decide) rfl (Nat.le_of_ble_eq_true rfl) ?_
  intro p e s m args below meth c A H locs ls Q S hE hl hret
  have hx := S.1
  have hb := S.2.1
  have hown := S.2.2.2.1
  have hl : lv_has ls 2 [(0, .int a1)] := hl
  unfold P_Mod_markOf at h
  refine lv_iload_n hx hb d_Mod_markOf_0 rfl (lv_at hl 0 rfl) ?_
  obtain ⟨x1, hc1, h⟩ := bd_s h
  have hM := (c_Mod_letterOf l D cI cZ tt H.size a1 x1 hc1)
  refine hn_ci hE (hn_runS (As := [.int a1]) (rest := []) S hE hM cf_Mod_letterOf mw_598 mw_599 ⟨rfl, rfl⟩ ⟨Nat.le_of_ble_eq_true rfl, Nat.le_of_ble_eq_true rfl⟩ [] rfl rfl rfl rfl hl.1 (lv_room (Nat.le_of_ble_eq_true rfl)) d_Mod_markOf_1 ⟨Nat.zero_le _, Nat.zero_le _⟩) [] rfl rfl (fun H locs hE => ?_)
  have hE : hn_E D (TY cI cZ) tt A s H locs [] := hE
  refine lv_istore_n (lv' := [(1, .int x1), (0, .int a1)]) hx hb d_Mod_markOf_4 rfl hl (by decide) rfl (fun ls hl => ?_)
  refine lv_iload_n hx hb d_Mod_markOf_5 rfl (lv_at hl 0 rfl) ?_
  refine lv_sipush (v := 768) hx hb d_Mod_markOf_6 (by decide) ?_
  obtain ⟨x9, hc9, h⟩ := bd_s h
  have hM := (c_Mod_pair l D cI cZ tt H.size x1 (768 : Int32) x9 hc9)
  refine hn_ci hE (hn_runS (As := [.int x1, .int (768 : Int32)]) (rest := []) S hE hM cf_Mod_pair mw_601 mw_602 ⟨rfl, rfl⟩ ⟨Nat.le_of_ble_eq_true rfl, Nat.le_of_ble_eq_true rfl⟩ [] rfl rfl rfl rfl hl.1 (lv_room (Nat.le_of_ble_eq_true rfl)) d_Mod_markOf_9 ⟨Nat.zero_le _, Nat.zero_le _⟩) [] rfl rfl (fun H locs hE => ?_)
  have hE : hn_E D (TY cI cZ) tt A s H locs [] := hE
  refine lv_iload_n hx hb d_Mod_markOf_12 rfl (lv_at hl 1 rfl) ?_
  refine lv_icmp_ne (tgt := 22) hx hb d_Mod_markOf_13 (by decide) (fun hc => ?_) (fun hc => ?_)
  · have h := ite_f hc h
    refine lv_iload_n hx hb d_Mod_markOf_22 rfl (lv_at hl 0 rfl) ?_
    refine lv_sipush (v := 769) hx hb d_Mod_markOf_23 (by decide) ?_
    obtain ⟨x26, hc26, h⟩ := bd_s h
    have hM := (c_Mod_pair l D cI cZ tt H.size x1 (769 : Int32) x26 hc26)
    refine hn_ci hE (hn_runS (As := [.int x1, .int (769 : Int32)]) (rest := []) S hE hM cf_Mod_pair mw_601 mw_602 ⟨rfl, rfl⟩ ⟨Nat.le_of_ble_eq_true rfl, Nat.le_of_ble_eq_true rfl⟩ [] rfl rfl rfl rfl hl.1 (lv_room (Nat.le_of_ble_eq_true rfl)) d_Mod_markOf_26 ⟨Nat.zero_le _, Nat.zero_le _⟩) [] rfl rfl (fun H locs hE => ?_)
    have hE : hn_E D (TY cI cZ) tt A s H locs [] := hE
    refine lv_iload_n hx hb d_Mod_markOf_29 rfl (lv_at hl 1 rfl) ?_
    refine lv_icmp_ne (tgt := 39) hx hb d_Mod_markOf_30 (by decide) (fun hc => ?_) (fun hc => ?_)
    · have h := ite_f hc h
      refine lv_iload_n hx hb d_Mod_markOf_39 rfl (lv_at hl 0 rfl) ?_
      refine lv_sipush (v := 776) hx hb d_Mod_markOf_40 (by decide) ?_
      obtain ⟨x43, hc43, h⟩ := bd_s h
      have hM := (c_Mod_pair l D cI cZ tt H.size x1 (776 : Int32) x43 hc43)
      refine hn_ci hE (hn_runS (As := [.int x1, .int (776 : Int32)]) (rest := []) S hE hM cf_Mod_pair mw_601 mw_602 ⟨rfl, rfl⟩ ⟨Nat.le_of_ble_eq_true rfl, Nat.le_of_ble_eq_true rfl⟩ [] rfl rfl rfl rfl hl.1 (lv_room (Nat.le_of_ble_eq_true rfl)) d_Mod_markOf_43 ⟨Nat.zero_le _, Nat.zero_le _⟩) [] rfl rfl (fun H locs hE => ?_)
      have hE : hn_E D (TY cI cZ) tt A s H locs [] := hE
      refine lv_iload_n hx hb d_Mod_markOf_46 rfl (lv_at hl 1 rfl) ?_
      refine lv_icmp_ne (tgt := 56) hx hb d_Mod_markOf_47 (by decide) (fun hc => ?_) (fun hc => ?_)
      · have h := ite_f hc h
        refine lv_sipush (v := 807) hx hb d_Mod_markOf_56 (by decide) ?_
        obtain rfl := Option.some.inj h
        exact hret H locs ls 59 d_Mod_markOf_59 hE
      · have h := ite_t hc h
        refine lv_sipush (v := 776) hx hb d_Mod_markOf_50 (by decide) ?_
        refine lv_goto (tgt := 59) hx hb d_Mod_markOf_53 (by decide) ?_
        obtain rfl := Option.some.inj h
        exact hret H locs ls 59 d_Mod_markOf_59 hE
    · have h := ite_t hc h
      refine lv_sipush (v := 769) hx hb d_Mod_markOf_33 (by decide) ?_
      refine lv_goto (tgt := 59) hx hb d_Mod_markOf_36 (by decide) ?_
      obtain rfl := Option.some.inj h
      exact hret H locs ls 59 d_Mod_markOf_59 hE
  · have h := ite_t hc h
    refine lv_sipush (v := 768) hx hb d_Mod_markOf_16 (by decide) ?_
    refine lv_goto (tgt := 59) hx hb d_Mod_markOf_19 (by decide) ?_
    obtain rfl := Option.some.inj h
    exact hret H locs ls 59 d_Mod_markOf_59 hE
abbrev rm_Mod_adapt : Room := { frames := 0, cells := 0, slots := 0, locals := 0 }
theorem cf_Mod_adapt : hn_CF y_Mod_adapt b_Mod_adapt 6 none 3 := ⟨mw_639, mw_7, by decide, by decide, by decide +kernel⟩
set_option maxHeartbeats 4000000 in
set_option maxRecDepth 100000 in
theorem c_Mod_adapt (l : Launch) (D : va_G) (cI cZ : ClassId) (tt : Nat → Nat) (h_this h_this_text h_this_result h_this_row h_this_other h_this_starts h_this_sizes h_this_rules h_this_tagged h_this_pool h_this_placed : Nat) (sz : Nat) (n_this_textSize : Int32) (n_this_size : Int32) (n_this_rowSize : Int32) (n_this_count : Int32) (n_this_poolSize : Int32) (n_this_whole : Int32) (n_this_bias : Int32) (f_this_text : Nat → Int32) (f_this_result : Nat → Int32) (f_this_row : Nat → Int32) (f_this_other : Nat → Int32) (f_this_starts : Nat → Int32) (f_this_sizes : Nat → Int32) (f_this_rules : Nat → Int32) (f_this_tagged : Nat → Int32) (f_this_pool : Nat → Int32) (f_this_placed : Nat → Int32) (a1 : Int32) (a2 : Int32) (a3 : Int32) (o : Int32) (h : P_Mod_adapt a1 a2 a3 = some o) : Met l y_Mod_adapt (hn_w y_Mod_adapt b_Mod_adapt 6 none) rm_Mod_adapt (hn_Pc D (TY cI cZ) tt [.ref h_this, .int a1, .int a2, .int a3] sz [(h_this, .inr (6, [.int n_this_textSize, .ref h_this_text, .int n_this_size, .ref h_this_result, .int n_this_rowSize, .ref h_this_row, .ref h_this_other, .int n_this_count, .ref h_this_starts, .ref h_this_sizes, .ref h_this_rules, .ref h_this_tagged, .int n_this_poolSize, .ref h_this_pool, .int n_this_whole, .ref h_this_placed, .int n_this_bias])), (h_this_text, .inl (cI, 48, .inl f_this_text)), (h_this_result, .inl (cI, 2000, .inl f_this_result)), (h_this_row, .inl (cI, 200, .inl f_this_row)), (h_this_other, .inl (cI, 200, .inl f_this_other)), (h_this_starts, .inl (cI, 50, .inl f_this_starts)), (h_this_sizes, .inl (cI, 50, .inl f_this_sizes)), (h_this_rules, .inl (cI, 50, .inl f_this_rules)), (h_this_tagged, .inl (cZ, 50, .inl f_this_tagged)), (h_this_pool, .inl (cI, 300, .inl f_this_pool)), (h_this_placed, .inl (cZ, 200, .inl f_this_placed))]) (hn_Qv D [(h_this, .inr (6, [.int n_this_textSize, .ref h_this_text, .int n_this_size, .ref h_this_result, .int n_this_rowSize, .ref h_this_row, .ref h_this_other, .int n_this_count, .ref h_this_starts, .ref h_this_sizes, .ref h_this_rules, .ref h_this_tagged, .int n_this_poolSize, .ref h_this_pool, .int n_this_whole, .ref h_this_placed, .int n_this_bias])), (h_this_text, .inl (cI, 48, .inl f_this_text)), (h_this_result, .inl (cI, 2000, .inl f_this_result)), (h_this_row, .inl (cI, 200, .inl f_this_row)), (h_this_other, .inl (cI, 200, .inl f_this_other)), (h_this_starts, .inl (cI, 50, .inl f_this_starts)), (h_this_sizes, .inl (cI, 50, .inl f_this_sizes)), (h_this_rules, .inl (cI, 50, .inl f_this_rules)), (h_this_tagged, .inl (cZ, 50, .inl f_this_tagged)), (h_this_pool, .inl (cI, 300, .inl f_this_pool)), (h_this_placed, .inl (cZ, 200, .inl f_this_placed))] sz [(h_this, .inr (6, [.int n_this_textSize, .ref h_this_text, .int n_this_size, .ref h_this_result, .int n_this_rowSize, .ref h_this_row, .ref h_this_other, .int n_this_count, .ref h_this_starts, .ref h_this_sizes, .ref h_this_rules, .ref h_this_tagged, .int n_this_poolSize, .ref h_this_pool, .int n_this_whole, .ref h_this_placed, .int o])), (h_this_text, .inl (cI, 48, .inl f_this_text)), (h_this_result, .inl (cI, 2000, .inl f_this_result)), (h_this_row, .inl (cI, 200, .inl f_this_row)), (h_this_other, .inl (cI, 200, .inl f_this_other)), (h_this_starts, .inl (cI, 50, .inl f_this_starts)), (h_this_sizes, .inl (cI, 50, .inl f_this_sizes)), (h_this_rules, .inl (cI, 50, .inl f_this_rules)), (h_this_tagged, .inl (cZ, 50, .inl f_this_tagged)), (h_this_pool, .inl (cI, 300, .inl f_this_pool)), (h_this_placed, .inl (cZ, 200, .inl f_this_placed))]) 0 0 (va_A [(h_this, .inr (6, [.int n_this_textSize, .ref h_this_text, .int n_this_size, .ref h_this_result, .int n_this_rowSize, .ref h_this_row, .ref h_this_other, .int n_this_count, .ref h_this_starts, .ref h_this_sizes, .ref h_this_rules, .ref h_this_tagged, .int n_this_poolSize, .ref h_this_pool, .int n_this_whole, .ref h_this_placed, .int n_this_bias])), (h_this_text, .inl (cI, 48, .inl f_this_text)), (h_this_result, .inl (cI, 2000, .inl f_this_result)), (h_this_row, .inl (cI, 200, .inl f_this_row)), (h_this_other, .inl (cI, 200, .inl f_this_other)), (h_this_starts, .inl (cI, 50, .inl f_this_starts)), (h_this_sizes, .inl (cI, 50, .inl f_this_sizes)), (h_this_rules, .inl (cI, 50, .inl f_this_rules)), (h_this_tagged, .inl (cZ, 50, .inl f_this_tagged)), (h_this_pool, .inl (cI, 300, .inl f_this_pool)), (h_this_placed, .inl (cZ, 200, .inl f_this_placed))] sz) := by
  refine hn_ofWv (own := R_Mod) (by decide) rfl (Nat.le_of_ble_eq_true rfl) ?_
  intro p e s m args below meth c A H locs ls Q S hE hl hret
  have hx := S.1
  have hb := S.2.1
  have hown := S.2.2.2.1
  have hl : lv_has ls 6 [(0, .ref h_this), (1, .int a1), (2, .int a2), (3, .int a3)] := hl
  have hL29 : ∀ (n_this_bias : Int32) (kf : Nat) (v4 : Int32) (v5 : Int32) (H : Heap) (locs : List Loc) (ls : Array Slot), hn_E D (TY cI cZ) tt A s H locs [(h_this, .inr (6, [.int n_this_textSize, .ref h_this_text, .int n_this_size, .ref h_this_result, .int n_this_rowSize, .ref h_this_row, .ref h_this_other, .int n_this_count, .ref h_this_starts, .ref h_this_sizes, .ref h_this_rules, .ref h_this_tagged, .int n_this_poolSize, .ref h_this_pool, .int n_this_whole, .ref h_this_placed, .int n_this_bias])), (h_this_text, .inl (cI, 48, .inl f_this_text)), (h_this_result, .inl (cI, 2000, .inl f_this_result)), (h_this_row, .inl (cI, 200, .inl f_this_row)), (h_this_other, .inl (cI, 200, .inl f_this_other)), (h_this_starts, .inl (cI, 50, .inl f_this_starts)), (h_this_sizes, .inl (cI, 50, .inl f_this_sizes)), (h_this_rules, .inl (cI, 50, .inl f_this_rules)), (h_this_tagged, .inl (cZ, 50, .inl f_this_tagged)), (h_this_pool, .inl (cI, 300, .inl f_this_pool)), (h_this_placed, .inl (cZ, 200, .inl f_this_placed))] → lv_has ls 6 [(0, .ref h_this), (4, .int v4), (5, .int v5)] → fl2 (P_Mod_adapt_29) kf v4 v5 = some o → W p l e rm_Mod_adapt s m args below meth c H locs 0 0 Q (F0 m 29 ls []) := by
    intro n_this_bias kf
    induction kf with
    | zero => intro v4 v5 H locs ls hE hl h; exact no_s h
    | succ kf ih =>
      intro v4 v5 H locs ls hE hl h
      have h : P_Mod_adapt_29 (fl2 (P_Mod_adapt_29) kf) v4 v5 = some o := h
      generalize fl2 (P_Mod_adapt_29) kf = k29 at ih h
      have hk29 := ih
      unfold P_Mod_adapt_29 at h
      refine lv_iload hx hb d_Mod_adapt_29 (lv_at hl 1 rfl) ?_
      refine lv_sipush (v := 455) hx hb d_Mod_adapt_31 (by decide) ?_
      refine lv_icmp_le (tgt := 54) hx hb d_Mod_adapt_34 (by decide) (fun hc => ?_) (fun hc => ?_)
      · have h := ite_t hc h
        refine lv_aload_n hx hb d_Mod_adapt_54 rfl (lv_at hl 0 rfl) ?_
        refine lv_iload hx hb d_Mod_adapt_55 (lv_at hl 2 rfl) ?_
        refine lv_bipush (v := 36) hx hb d_Mod_adapt_57 (by decide) ?_
        refine lv_iload hx hb d_Mod_adapt_59 (lv_at hl 1 rfl) ?_
        refine lv_imul hx hb d_Mod_adapt_61 ?_
        refine lv_iload hx hb d_Mod_adapt_62 (lv_at hl 1 rfl) ?_
        refine lv_bipush (v := 38) hx hb d_Mod_adapt_64 (by decide) ?_
        refine lv_iadd hx hb d_Mod_adapt_66 ?_
        obtain ⟨hz67, h⟩ := gz_s h
        refine lv_idiv hx hb d_Mod_adapt_67 hz67 ?_
        refine lv_iadd hx hb d_Mod_adapt_68 ?_
        refine hn_put (tv := .int) S hE kc_Mod t_Mod_ok n_Mod 0 rfl rfl 16 (by decide) mw_502 rfl (by decide +kernel) rfl rfl (Nat.le_of_ble_eq_true rfl) d_Mod_adapt_69 (fun H locs hE => ?_)
        have hE : hn_E D (TY cI cZ) tt A s H locs [(h_this, .inr (6, [.int n_this_textSize, .ref h_this_text, .int n_this_size, .ref h_this_result, .int n_this_rowSize, .ref h_this_row, .ref h_this_other, .int n_this_count, .ref h_this_starts, .ref h_this_sizes, .ref h_this_rules, .ref h_this_tagged, .int n_this_poolSize, .ref h_this_pool, .int n_this_whole, .ref h_this_placed, .int (v5 + (((36 : Int32) * v4) / (v4 + (38 : Int32))))])), (h_this_text, .inl (cI, 48, .inl f_this_text)), (h_this_result, .inl (cI, 2000, .inl f_this_result)), (h_this_row, .inl (cI, 200, .inl f_this_row)), (h_this_other, .inl (cI, 200, .inl f_this_other)), (h_this_starts, .inl (cI, 50, .inl f_this_starts)), (h_this_sizes, .inl (cI, 50, .inl f_this_sizes)), (h_this_rules, .inl (cI, 50, .inl f_this_rules)), (h_this_tagged, .inl (cZ, 50, .inl f_this_tagged)), (h_this_pool, .inl (cI, 300, .inl f_this_pool)), (h_this_placed, .inl (cZ, 200, .inl f_this_placed))] := hE
        obtain rfl := Option.some.inj h
        exact hret H locs ls 72 d_Mod_adapt_72 hE
      · have h := ite_f hc h
        refine lv_iload hx hb d_Mod_adapt_37 (lv_at hl 1 rfl) ?_
        refine lv_bipush (v := 35) hx hb d_Mod_adapt_39 (by decide) ?_
        refine lv_idiv hx hb d_Mod_adapt_41 (by decide) ?_
        refine lv_istore (lv' := [(4, .int (v4 / (35 : Int32))), (0, .ref h_this), (5, .int v5)]) hx hb d_Mod_adapt_42 hl (by decide) rfl (fun ls hl => ?_)
        refine lv_iload hx hb d_Mod_adapt_44 (lv_at hl 2 rfl) ?_
        refine lv_bipush (v := 36) hx hb d_Mod_adapt_46 (by decide) ?_
        refine lv_iadd hx hb d_Mod_adapt_48 ?_
        refine lv_istore (lv' := [(5, .int (v5 + (36 : Int32))), (4, .int (v4 / (35 : Int32))), (0, .ref h_this)]) hx hb d_Mod_adapt_49 hl (by decide) rfl (fun ls hl => ?_)
        refine lv_goto (tgt := 29) hx hb d_Mod_adapt_51 (by decide) ?_
        exact hk29 (v4 / (35 : Int32)) (v5 + (36 : Int32)) H locs ls hE (lv_sub hl [2, 1, 0] rfl) h
  have hj15 : ∀ (s0 : Int32) (n_this_bias : Int32) (H : Heap) (locs : List Loc) (ls : Array Slot), hn_E D (TY cI cZ) tt A s H locs [(h_this, .inr (6, [.int n_this_textSize, .ref h_this_text, .int n_this_size, .ref h_this_result, .int n_this_rowSize, .ref h_this_row, .ref h_this_other, .int n_this_count, .ref h_this_starts, .ref h_this_sizes, .ref h_this_rules, .ref h_this_tagged, .int n_this_poolSize, .ref h_this_pool, .int n_this_whole, .ref h_this_placed, .int n_this_bias])), (h_this_text, .inl (cI, 48, .inl f_this_text)), (h_this_result, .inl (cI, 2000, .inl f_this_result)), (h_this_row, .inl (cI, 200, .inl f_this_row)), (h_this_other, .inl (cI, 200, .inl f_this_other)), (h_this_starts, .inl (cI, 50, .inl f_this_starts)), (h_this_sizes, .inl (cI, 50, .inl f_this_sizes)), (h_this_rules, .inl (cI, 50, .inl f_this_rules)), (h_this_tagged, .inl (cZ, 50, .inl f_this_tagged)), (h_this_pool, .inl (cI, 300, .inl f_this_pool)), (h_this_placed, .inl (cZ, 200, .inl f_this_placed))] → lv_has ls 6 [(0, .ref h_this), (2, .int a2)] → P_Mod_adapt_15 a2 s0 = some o → W p l e rm_Mod_adapt s m args below meth c H locs 0 0 Q (F0 m 15 ls [.int s0]) := by
    intro s0 n_this_bias H locs ls hE hl h
    unfold P_Mod_adapt_15 at h
    refine lv_istore (lv' := [(4, .int s0), (0, .ref h_this), (2, .int a2)]) hx hb d_Mod_adapt_15 hl (by decide) rfl (fun ls hl => ?_)
    refine lv_iload hx hb d_Mod_adapt_17 (lv_at hl 0 rfl) ?_
    refine lv_iload hx hb d_Mod_adapt_19 (lv_at hl 0 rfl) ?_
    refine lv_iload_n hx hb d_Mod_adapt_21 rfl (lv_at hl 2 rfl) ?_
    obtain ⟨hz22, h⟩ := gz_s h
    refine lv_idiv hx hb d_Mod_adapt_22 hz22 ?_
    refine lv_iadd hx hb d_Mod_adapt_23 ?_
    refine lv_istore (lv' := [(4, .int (s0 + (s0 / a2))), (0, .ref h_this), (2, .int a2)]) hx hb d_Mod_adapt_24 hl (by decide) rfl (fun ls hl => ?_)
    refine lv_iconst (v := 0) hx hb d_Mod_adapt_26 (by decide) ?_
    refine lv_istore (lv' := [(5, .int (0 : Int32)), (4, .int (s0 + (s0 / a2))), (0, .ref h_this), (2, .int a2)]) hx hb d_Mod_adapt_27 hl (by decide) rfl (fun ls hl => ?_)
    exact hL29 n_this_bias fu (s0 + (s0 / a2)) (0 : Int32) H locs ls hE (lv_sub hl [2, 1, 0] rfl) h
  unfold P_Mod_adapt at h
  refine lv_iload_n hx hb d_Mod_adapt_0 rfl (lv_at hl 3 rfl) ?_
  refine lv_if_eq (tgt := 12) hx hb d_Mod_adapt_1 (by decide) (fun hc => ?_) (fun hc => ?_)
  · have h := ite_t hc h
    refine lv_iload_n hx hb d_Mod_adapt_12 rfl (lv_at hl 1 rfl) ?_
    refine lv_iconst (v := 2) hx hb d_Mod_adapt_13 (by decide) ?_
    refine lv_idiv hx hb d_Mod_adapt_14 (by decide) ?_
    exact hj15 (a1 / (2 : Int32)) n_this_bias H locs ls hE (lv_sub hl [0, 2] rfl) h
  · have h := ite_f hc h
    refine lv_iload_n hx hb d_Mod_adapt_4 rfl (lv_at hl 1 rfl) ?_
    refine lv_sipush (v := 700) hx hb d_Mod_adapt_5 (by decide) ?_
    refine lv_idiv hx hb d_Mod_adapt_8 (by decide) ?_
    refine lv_goto (tgt := 15) hx hb d_Mod_adapt_9 (by decide) ?_
    exact hj15 (a1 / (700 : Int32)) n_this_bias H locs ls hE (lv_sub hl [0, 2] rfl) h
abbrev rm_Mod_threshold : Room := { frames := 0, cells := 0, slots := 0, locals := 0 }
theorem cf_Mod_threshold : hn_CF y_Mod_threshold b_Mod_threshold 3 (some .int) 1 := ⟨mw_634, mw_7, by decide, by decide, by decide +kernel⟩
set_option maxHeartbeats 4000000 in
set_option maxRecDepth 100000 in
theorem c_Mod_threshold (l : Launch) (D : va_G) (cI cZ : ClassId) (tt : Nat → Nat) (h_this h_this_text h_this_result h_this_row h_this_other h_this_starts h_this_sizes h_this_rules h_this_tagged h_this_pool h_this_placed : Nat) (sz : Nat) (n_this_textSize : Int32) (n_this_size : Int32) (n_this_rowSize : Int32) (n_this_count : Int32) (n_this_poolSize : Int32) (n_this_whole : Int32) (n_this_bias : Int32) (f_this_text : Nat → Int32) (f_this_result : Nat → Int32) (f_this_row : Nat → Int32) (f_this_other : Nat → Int32) (f_this_starts : Nat → Int32) (f_this_sizes : Nat → Int32) (f_this_rules : Nat → Int32) (f_this_tagged : Nat → Int32) (f_this_pool : Nat → Int32) (f_this_placed : Nat → Int32) (a1 : Int32) (o : Int32) (h : P_Mod_threshold n_this_bias a1 = some o) : Met l y_Mod_threshold (hn_w y_Mod_threshold b_Mod_threshold 3 (some .int)) rm_Mod_threshold (hn_Pc D (TY cI cZ) tt [.ref h_this, .int a1] sz [(h_this, .inr (6, [.int n_this_textSize, .ref h_this_text, .int n_this_size, .ref h_this_result, .int n_this_rowSize, .ref h_this_row, .ref h_this_other, .int n_this_count, .ref h_this_starts, .ref h_this_sizes, .ref h_this_rules, .ref h_this_tagged, .int n_this_poolSize, .ref h_this_pool, .int n_this_whole, .ref h_this_placed, .int n_this_bias])), (h_this_text, .inl (cI, 48, .inl f_this_text)), (h_this_result, .inl (cI, 2000, .inl f_this_result)), (h_this_row, .inl (cI, 200, .inl f_this_row)), (h_this_other, .inl (cI, 200, .inl f_this_other)), (h_this_starts, .inl (cI, 50, .inl f_this_starts)), (h_this_sizes, .inl (cI, 50, .inl f_this_sizes)), (h_this_rules, .inl (cI, 50, .inl f_this_rules)), (h_this_tagged, .inl (cZ, 50, .inl f_this_tagged)), (h_this_pool, .inl (cI, 300, .inl f_this_pool)), (h_this_placed, .inl (cZ, 200, .inl f_this_placed))]) (hn_Qi D [(h_this, .inr (6, [.int n_this_textSize, .ref h_this_text, .int n_this_size, .ref h_this_result, .int n_this_rowSize, .ref h_this_row, .ref h_this_other, .int n_this_count, .ref h_this_starts, .ref h_this_sizes, .ref h_this_rules, .ref h_this_tagged, .int n_this_poolSize, .ref h_this_pool, .int n_this_whole, .ref h_this_placed, .int n_this_bias])), (h_this_text, .inl (cI, 48, .inl f_this_text)), (h_this_result, .inl (cI, 2000, .inl f_this_result)), (h_this_row, .inl (cI, 200, .inl f_this_row)), (h_this_other, .inl (cI, 200, .inl f_this_other)), (h_this_starts, .inl (cI, 50, .inl f_this_starts)), (h_this_sizes, .inl (cI, 50, .inl f_this_sizes)), (h_this_rules, .inl (cI, 50, .inl f_this_rules)), (h_this_tagged, .inl (cZ, 50, .inl f_this_tagged)), (h_this_pool, .inl (cI, 300, .inl f_this_pool)), (h_this_placed, .inl (cZ, 200, .inl f_this_placed))] sz [(h_this, .inr (6, [.int n_this_textSize, .ref h_this_text, .int n_this_size, .ref h_this_result, .int n_this_rowSize, .ref h_this_row, .ref h_this_other, .int n_this_count, .ref h_this_starts, .ref h_this_sizes, .ref h_this_rules, .ref h_this_tagged, .int n_this_poolSize, .ref h_this_pool, .int n_this_whole, .ref h_this_placed, .int n_this_bias])), (h_this_text, .inl (cI, 48, .inl f_this_text)), (h_this_result, .inl (cI, 2000, .inl f_this_result)), (h_this_row, .inl (cI, 200, .inl f_this_row)), (h_this_other, .inl (cI, 200, .inl f_this_other)), (h_this_starts, .inl (cI, 50, .inl f_this_starts)), (h_this_sizes, .inl (cI, 50, .inl f_this_sizes)), (h_this_rules, .inl (cI, 50, .inl f_this_rules)), (h_this_tagged, .inl (cZ, 50, .inl f_this_tagged)), (h_this_pool, .inl (cI, 300, .inl f_this_pool)), (h_this_placed, .inl (cZ, 200, .inl f_this_placed))] o) 0 0 (va_A [(h_this, .inr (6, [.int n_this_textSize, .ref h_this_text, .int n_this_size, .ref h_this_result, .int n_this_rowSize, .ref h_this_row, .ref h_this_other, .int n_this_count, .ref h_this_starts, .ref h_this_sizes, .ref h_this_rules, .ref h_this_tagged, .int n_this_poolSize, .ref h_this_pool, .int n_this_whole, .ref h_this_placed, .int n_this_bias])), (h_this_text, .inl (cI, 48, .inl f_this_text)), (h_this_result, .inl (cI, 2000, .inl f_this_result)), (h_this_row, .inl (cI, 200, .inl f_this_row)), (h_this_other, .inl (cI, 200, .inl f_this_other)), (h_this_starts, .inl (cI, 50, .inl f_this_starts)), (h_this_sizes, .inl (cI, 50, .inl f_this_sizes)), (h_this_rules, .inl (cI, 50, .inl f_this_rules)), (h_this_tagged, .inl (cZ, 50, .inl f_this_tagged)), (h_this_pool, .inl (cI, 300, .inl f_this_pool)), (h_this_placed, .inl (cZ, 200, .inl f_this_placed))] sz) := by
  refine hn_ofWi (own := R_Mod) (by decide) rfl (Nat.le_of_ble_eq_true rfl) ?_
  intro p e s m args below meth c A H locs ls Q S hE hl hret
  have hx := S.1
  have hb := S.2.1
  have hown := S.2.2.2.1
  have hl : lv_has ls 3 [(0, .ref h_this), (1, .int a1)] := hl
  unfold P_Mod_threshold at h
  refine lv_iload_n hx hb d_Mod_threshold_0 rfl (lv_at hl 1 rfl) ?_
  refine lv_aload_n hx hb d_Mod_threshold_1 rfl (lv_at hl 0 rfl) ?_
  refine hn_get S hE kc_Mod 0 rfl rfl 16 (by decide) mw_502 rfl d_Mod_threshold_2 ?_
  refine lv_isub hx hb d_Mod_threshold_5 ?_
  refine lv_istore_n (lv' := [(2, .int (a1 - n_this_bias)), (0, .ref h_this), (1, .int a1)]) hx hb d_Mod_threshold_6 rfl hl (by decide) rfl (fun ls hl => ?_)
  refine lv_iload_n hx hb d_Mod_threshold_7 rfl (lv_at hl 0 rfl) ?_
  refine lv_iconst (v := 1) hx hb d_Mod_threshold_8 (by decide) ?_
  refine lv_icmp_ge (tgt := 16) hx hb d_Mod_threshold_9 (by decide) (fun hc => ?_) (fun hc => ?_)
  · have h := ite_t hc h
    refine lv_iload_n hx hb d_Mod_threshold_16 rfl (lv_at hl 0 rfl) ?_
    refine lv_bipush (v := 26) hx hb d_Mod_threshold_17 (by decide) ?_
    refine lv_icmp_le (tgt := 27) hx hb d_Mod_threshold_19 (by decide) (fun hc => ?_) (fun hc => ?_)
    · have h := ite_t hc h
      refine lv_iload_n hx hb d_Mod_threshold_27 rfl (lv_at hl 0 rfl) ?_
      obtain rfl := Option.some.inj h
      exact hret H locs ls 28 d_Mod_threshold_28 hE
    · have h := ite_f hc h
      refine lv_bipush (v := 26) hx hb d_Mod_threshold_22 (by decide) ?_
      refine lv_goto (tgt := 28) hx hb d_Mod_threshold_24 (by decide) ?_
      obtain rfl := Option.some.inj h
      exact hret H locs ls 28 d_Mod_threshold_28 hE
  · have h := ite_f hc h
    refine lv_iconst (v := 1) hx hb d_Mod_threshold_12 (by decide) ?_
    refine lv_goto (tgt := 28) hx hb d_Mod_threshold_13 (by decide) ?_
    obtain rfl := Option.some.inj h
    exact hret H locs ls 28 d_Mod_threshold_28 hE
abbrev rm_Mod_out : Room := { frames := 0, cells := 0, slots := 0, locals := 0 }
theorem cf_Mod_out : hn_CF y_Mod_out b_Mod_out 2 none 1 := ⟨mw_694, mw_7, by decide, by decide, by decide +kernel⟩
set_option maxHeartbeats 4000000 in
set_option maxRecDepth 100000 in
theorem c_Mod_out (l : Launch) (D : va_G) (cI cZ : ClassId) (tt : Nat → Nat) (h_this h_this_text h_this_result h_this_row h_this_other h_this_starts h_this_sizes h_this_rules h_this_tagged h_this_pool h_this_placed : Nat) (sz : Nat) (n_this_textSize : Int32) (n_this_size : Int32) (n_this_rowSize : Int32) (n_this_count : Int32) (n_this_poolSize : Int32) (n_this_whole : Int32) (n_this_bias : Int32) (f_this_text : Nat → Int32) (f_this_result : Nat → Int32) (f_this_row : Nat → Int32) (f_this_other : Nat → Int32) (f_this_starts : Nat → Int32) (f_this_sizes : Nat → Int32) (f_this_rules : Nat → Int32) (f_this_tagged : Nat → Int32) (f_this_pool : Nat → Int32) (f_this_placed : Nat → Int32) (a1 : Int32) (o : Int32 × (Nat → Int32)) (h : P_Mod_out n_this_size f_this_result a1 = some o) : Met l y_Mod_out (hn_w y_Mod_out b_Mod_out 2 none) rm_Mod_out (hn_Pc D (TY cI cZ) tt [.ref h_this, .int a1] sz [(h_this, .inr (6, [.int n_this_textSize, .ref h_this_text, .int n_this_size, .ref h_this_result, .int n_this_rowSize, .ref h_this_row, .ref h_this_other, .int n_this_count, .ref h_this_starts, .ref h_this_sizes, .ref h_this_rules, .ref h_this_tagged, .int n_this_poolSize, .ref h_this_pool, .int n_this_whole, .ref h_this_placed, .int n_this_bias])), (h_this_text, .inl (cI, 48, .inl f_this_text)), (h_this_result, .inl (cI, 2000, .inl f_this_result)), (h_this_row, .inl (cI, 200, .inl f_this_row)), (h_this_other, .inl (cI, 200, .inl f_this_other)), (h_this_starts, .inl (cI, 50, .inl f_this_starts)), (h_this_sizes, .inl (cI, 50, .inl f_this_sizes)), (h_this_rules, .inl (cI, 50, .inl f_this_rules)), (h_this_tagged, .inl (cZ, 50, .inl f_this_tagged)), (h_this_pool, .inl (cI, 300, .inl f_this_pool)), (h_this_placed, .inl (cZ, 200, .inl f_this_placed))]) (hn_Qv D [(h_this, .inr (6, [.int n_this_textSize, .ref h_this_text, .int n_this_size, .ref h_this_result, .int n_this_rowSize, .ref h_this_row, .ref h_this_other, .int n_this_count, .ref h_this_starts, .ref h_this_sizes, .ref h_this_rules, .ref h_this_tagged, .int n_this_poolSize, .ref h_this_pool, .int n_this_whole, .ref h_this_placed, .int n_this_bias])), (h_this_text, .inl (cI, 48, .inl f_this_text)), (h_this_result, .inl (cI, 2000, .inl f_this_result)), (h_this_row, .inl (cI, 200, .inl f_this_row)), (h_this_other, .inl (cI, 200, .inl f_this_other)), (h_this_starts, .inl (cI, 50, .inl f_this_starts)), (h_this_sizes, .inl (cI, 50, .inl f_this_sizes)), (h_this_rules, .inl (cI, 50, .inl f_this_rules)), (h_this_tagged, .inl (cZ, 50, .inl f_this_tagged)), (h_this_pool, .inl (cI, 300, .inl f_this_pool)), (h_this_placed, .inl (cZ, 200, .inl f_this_placed))] sz [(h_this, .inr (6, [.int n_this_textSize, .ref h_this_text, .int o.1, .ref h_this_result, .int n_this_rowSize, .ref h_this_row, .ref h_this_other, .int n_this_count, .ref h_this_starts, .ref h_this_sizes, .ref h_this_rules, .ref h_this_tagged, .int n_this_poolSize, .ref h_this_pool, .int n_this_whole, .ref h_this_placed, .int n_this_bias])), (h_this_text, .inl (cI, 48, .inl f_this_text)), (h_this_result, .inl (cI, 2000, .inl o.2)), (h_this_row, .inl (cI, 200, .inl f_this_row)), (h_this_other, .inl (cI, 200, .inl f_this_other)), (h_this_starts, .inl (cI, 50, .inl f_this_starts)), (h_this_sizes, .inl (cI, 50, .inl f_this_sizes)), (h_this_rules, .inl (cI, 50, .inl f_this_rules)), (h_this_tagged, .inl (cZ, 50, .inl f_this_tagged)), (h_this_pool, .inl (cI, 300, .inl f_this_pool)), (h_this_placed, .inl (cZ, 200, .inl f_this_placed))]) 0 0 (va_A [(h_this, .inr (6, [.int n_this_textSize, .ref h_this_text, .int n_this_size, .ref h_this_result, .int n_this_rowSize, .ref h_this_row, .ref h_this_other, .int n_this_count, .ref h_this_starts, .ref h_this_sizes, .ref h_this_rules, .ref h_this_tagged, .int n_this_poolSize, .ref h_this_pool, .int n_this_whole, .ref h_this_placed, .int n_this_bias])), (h_this_text, .inl (cI, 48, .inl f_this_text)), (h_this_result, .inl (cI, 2000, .inl f_this_result)), (h_this_row, .inl (cI, 200, .inl f_this_row)), (h_this_other, .inl (cI, 200, .inl f_this_other)), (h_this_starts, .inl (cI, 50, .inl f_this_starts)), (h_this_sizes, .inl (cI, 50, .inl f_this_sizes)), (h_this_rules, .inl (cI, 50, .inl f_this_rules)), (h_this_tagged, .inl (cZ, 50, .inl f_this_tagged)), (h_this_pool, .inl (cI, 300, .inl f_this_pool)), (h_this_placed, .inl (cZ, 200, .inl f_this_placed))] sz) := by
  refine hn_ofWv (own := R_Mod) (by decide) rfl (Nat.le_of_ble_eq_true rfl) ?_
  intro p e s m args below meth c A H locs ls Q S hE hl hret
  have hx := S.1
  have hb := S.2.1
  have hown := S.2.2.2.1
  have hl : lv_has ls 2 [(0, .ref h_this), (1, .int a1)] := hl
  unfold P_Mod_out at h
  refine lv_aload_n hx hb d_Mod_out_0 rfl (lv_at hl 0 rfl) ?_
  refine hn_get S hE kc_Mod 0 rfl rfl 3 (by decide) mw_489 rfl d_Mod_out_1 ?_
  refine lv_aload_n hx hb d_Mod_out_4 rfl (lv_at hl 0 rfl) ?_
  refine hn_get S hE kc_Mod 0 rfl rfl 2 (by decide) mw_488 rfl d_Mod_out_5 ?_
  refine lv_iload_n hx hb d_Mod_out_8 rfl (lv_at hl 1 rfl) ?_
  obtain ⟨hi9, h⟩ := gi_s h
  refine hn_iast S hE 2 0 rfl rfl hi9 d_Mod_out_9 (fun H locs hE => ?_)
  have hE : hn_E D (TY cI cZ) tt A s H locs [(h_this, .inr (6, [.int n_this_textSize, .ref h_this_text, .int n_this_size, .ref h_this_result, .int n_this_rowSize, .ref h_this_row, .ref h_this_other, .int n_this_count, .ref h_this_starts, .ref h_this_sizes, .ref h_this_rules, .ref h_this_tagged, .int n_this_poolSize, .ref h_this_pool, .int n_this_whole, .ref h_this_placed, .int n_this_bias])), (h_this_text, .inl (cI, 48, .inl f_this_text)), (h_this_result, .inl (cI, 2000, .inl (upd f_this_result (n_this_size).toNatClampNeg a1))), (h_this_row, .inl (cI, 200, .inl f_this_row)), (h_this_other, .inl (cI, 200, .inl f_this_other)), (h_this_starts, .inl (cI, 50, .inl f_this_starts)), (h_this_sizes, .inl (cI, 50, .inl f_this_sizes)), (h_this_rules, .inl (cI, 50, .inl f_this_rules)), (h_this_tagged, .inl (cZ, 50, .inl f_this_tagged)), (h_this_pool, .inl (cI, 300, .inl f_this_pool)), (h_this_placed, .inl (cZ, 200, .inl f_this_placed))] := hE
  refine lv_aload_n hx hb d_Mod_out_10 rfl (lv_at hl 0 rfl) ?_
  refine lv_dup hx hb d_Mod_out_11 rfl ?_
  refine hn_get S hE kc_Mod 0 rfl rfl 2 (by decide) mw_488 rfl d_Mod_out_12 ?_
  refine lv_iconst (v := 1) hx hb d_Mod_out_15 (by decide) ?_
  refine lv_iadd hx hb d_Mod_out_16 ?_
  refine hn_put (tv := .int) S hE kc_Mod t_Mod_ok n_Mod 0 rfl rfl 2 (by decide) mw_488 rfl (by decide +kernel) rfl rfl (Nat.le_of_ble_eq_true rfl) d_Mod_out_17 (fun H locs hE => ?_)
  have hE : hn_E D (TY cI cZ) tt A s H locs [(h_this, .inr (6, [.int n_this_textSize, .ref h_this_text, .int (n_this_size + (1 : Int32)), .ref h_this_result, .int n_this_rowSize, .ref h_this_row, .ref h_this_other, .int n_this_count, .ref h_this_starts, .ref h_this_sizes, .ref h_this_rules, .ref h_this_tagged, .int n_this_poolSize, .ref h_this_pool, .int n_this_whole, .ref h_this_placed, .int n_this_bias])), (h_this_text, .inl (cI, 48, .inl f_this_text)), (h_this_result, .inl (cI, 2000, .inl (upd f_this_result (n_this_size).toNatClampNeg a1))), (h_this_row, .inl (cI, 200, .inl f_this_row)), (h_this_other, .inl (cI, 200, .inl f_this_other)), (h_this_starts, .inl (cI, 50, .inl f_this_starts)), (h_this_sizes, .inl (cI, 50, .inl f_this_sizes)), (h_this_rules, .inl (cI, 50, .inl f_this_rules)), (h_this_tagged, .inl (cZ, 50, .inl f_this_tagged)), (h_this_pool, .inl (cI, 300, .inl f_this_pool)), (h_this_placed, .inl (cZ, 200, .inl f_this_placed))] := hE
  obtain rfl := Option.some.inj h
  exact hret H locs ls 20 d_Mod_out_20 hE
abbrev rm_Mod_outDigit : Room := { frames := 1, cells := 0, slots := 0, locals := 21 }
theorem cf_Mod_outDigit : hn_CF y_Mod_outDigit b_Mod_outDigit 2 none 1 := ⟨mw_710, mw_7, by decide, by decide, by decide +kernel⟩
set_option maxHeartbeats 4000000 in
set_option maxRecDepth 100000 in
theorem c_Mod_outDigit (l : Launch) (D : va_G) (cI cZ : ClassId) (tt : Nat → Nat) (h_this h_this_text h_this_result h_this_row h_this_other h_this_starts h_this_sizes h_this_rules h_this_tagged h_this_pool h_this_placed : Nat) (sz : Nat) (n_this_textSize : Int32) (n_this_size : Int32) (n_this_rowSize : Int32) (n_this_count : Int32) (n_this_poolSize : Int32) (n_this_whole : Int32) (n_this_bias : Int32) (f_this_text : Nat → Int32) (f_this_result : Nat → Int32) (f_this_row : Nat → Int32) (f_this_other : Nat → Int32) (f_this_starts : Nat → Int32) (f_this_sizes : Nat → Int32) (f_this_rules : Nat → Int32) (f_this_tagged : Nat → Int32) (f_this_pool : Nat → Int32) (f_this_placed : Nat → Int32) (a1 : Int32) (o : Int32 × (Nat → Int32)) (h : P_Mod_outDigit n_this_size f_this_result a1 = some o) : Met l y_Mod_outDigit (hn_w y_Mod_outDigit b_Mod_outDigit 2 none) rm_Mod_outDigit (hn_Pc D (TY cI cZ) tt [.ref h_this, .int a1] sz [(h_this, .inr (6, [.int n_this_textSize, .ref h_this_text, .int n_this_size, .ref h_this_result, .int n_this_rowSize, .ref h_this_row, .ref h_this_other, .int n_this_count, .ref h_this_starts, .ref h_this_sizes, .ref h_this_rules, .ref h_this_tagged, .int n_this_poolSize, .ref h_this_pool, .int n_this_whole, .ref h_this_placed, .int n_this_bias])), (h_this_text, .inl (cI, 48, .inl f_this_text)), (h_this_result, .inl (cI, 2000, .inl f_this_result)), (h_this_row, .inl (cI, 200, .inl f_this_row)), (h_this_other, .inl (cI, 200, .inl f_this_other)), (h_this_starts, .inl (cI, 50, .inl f_this_starts)), (h_this_sizes, .inl (cI, 50, .inl f_this_sizes)), (h_this_rules, .inl (cI, 50, .inl f_this_rules)), (h_this_tagged, .inl (cZ, 50, .inl f_this_tagged)), (h_this_pool, .inl (cI, 300, .inl f_this_pool)), (h_this_placed, .inl (cZ, 200, .inl f_this_placed))]) (hn_Qv D [(h_this, .inr (6, [.int n_this_textSize, .ref h_this_text, .int n_this_size, .ref h_this_result, .int n_this_rowSize, .ref h_this_row, .ref h_this_other, .int n_this_count, .ref h_this_starts, .ref h_this_sizes, .ref h_this_rules, .ref h_this_tagged, .int n_this_poolSize, .ref h_this_pool, .int n_this_whole, .ref h_this_placed, .int n_this_bias])), (h_this_text, .inl (cI, 48, .inl f_this_text)), (h_this_result, .inl (cI, 2000, .inl f_this_result)), (h_this_row, .inl (cI, 200, .inl f_this_row)), (h_this_other, .inl (cI, 200, .inl f_this_other)), (h_this_starts, .inl (cI, 50, .inl f_this_starts)), (h_this_sizes, .inl (cI, 50, .inl f_this_sizes)), (h_this_rules, .inl (cI, 50, .inl f_this_rules)), (h_this_tagged, .inl (cZ, 50, .inl f_this_tagged)), (h_this_pool, .inl (cI, 300, .inl f_this_pool)), (h_this_placed, .inl (cZ, 200, .inl f_this_placed))] sz [(h_this, .inr (6, [.int n_this_textSize, .ref h_this_text, .int o.1, .ref h_this_result, .int n_this_rowSize, .ref h_this_row, .ref h_this_other, .int n_this_count, .ref h_this_starts, .ref h_this_sizes, .ref h_this_rules, .ref h_this_tagged, .int n_this_poolSize, .ref h_this_pool, .int n_this_whole, .ref h_this_placed, .int n_this_bias])), (h_this_text, .inl (cI, 48, .inl f_this_text)), (h_this_result, .inl (cI, 2000, .inl o.2)), (h_this_row, .inl (cI, 200, .inl f_this_row)), (h_this_other, .inl (cI, 200, .inl f_this_other)), (h_this_starts, .inl (cI, 50, .inl f_this_starts)), (h_this_sizes, .inl (cI, 50, .inl f_this_sizes)), (h_this_rules, .inl (cI, 50, .inl f_this_rules)), (h_this_tagged, .inl (cZ, 50, .inl f_this_tagged)), (h_this_pool, .inl (cI, 300, .inl f_this_pool)), (h_this_placed, .inl (cZ, 200, .inl f_this_placed))]) 0 0 (va_A [(h_this, .inr (6, [.int n_this_textSize, .ref h_this_text, .int n_this_size, .ref h_this_result, .int n_this_rowSize, .ref h_this_row, .ref h_this_other, .int n_this_count, .ref h_this_starts, .ref h_this_sizes, .ref h_this_rules, .ref h_this_tagged, .int n_this_poolSize, .ref h_this_pool, .int n_this_whole, .ref h_this_placed, .int n_this_bias])), (h_this_text, .inl (cI, 48, .inl f_this_text)), (h_this_result, .inl (cI, 2000, .inl f_this_result)), (h_this_row, .inl (cI, 200, .inl f_this_row)), (h_this_other, .inl (cI, 200, .inl f_this_other)), (h_this_starts, .inl (cI, 50, .inl f_this_starts)), (h_this_sizes, .inl (cI, 50, .inl f_this_sizes)), (h_this_rules, .inl (cI, 50, .inl f_this_rules)), (h_this_tagged, .inl (cZ, 50, .inl f_this_tagged)), (h_this_pool, .inl (cI, 300, .inl f_this_pool)), (h_this_placed, .inl (cZ, 200, .inl f_this_placed))] sz) := by
  refine hn_ofWv (own := R_Mod) (by decide) rfl (Nat.le_of_ble_eq_true rfl) ?_
  intro p e s m args below meth c A H locs ls Q S hE hl hret
  have hx := S.1
  have hb := S.2.1
  have hown := S.2.2.2.1
  have hl : lv_has ls 2 [(0, .ref h_this), (1, .int a1)] := hl
  have hj18 : ∀ (s0 : Int32) (n_this_size : Int32) (f_this_result : Nat → Int32) (H : Heap) (locs : List Loc) (ls : Array Slot), hn_E D (TY cI cZ) tt A s H locs [(h_this, .inr (6, [.int n_this_textSize, .ref h_this_text, .int n_this_size, .ref h_this_result, .int n_this_rowSize, .ref h_this_row, .ref h_this_other, .int n_this_count, .ref h_this_starts, .ref h_this_sizes, .ref h_this_rules, .ref h_this_tagged, .int n_this_poolSize, .ref h_this_pool, .int n_this_whole, .ref h_this_placed, .int n_this_bias])), (h_this_text, .inl (cI, 48, .inl f_this_text)), (h_this_result, .inl (cI, 2000, .inl f_this_result)), (h_this_row, .inl (cI, 200, .inl f_this_row)), (h_this_other, .inl (cI, 200, .inl f_this_other)), (h_this_starts, .inl (cI, 50, .inl f_this_starts)), (h_this_sizes, .inl (cI, 50, .inl f_this_sizes)), (h_this_rules, .inl (cI, 50, .inl f_this_rules)), (h_this_tagged, .inl (cZ, 50, .inl f_this_tagged)), (h_this_pool, .inl (cI, 300, .inl f_this_pool)), (h_this_placed, .inl (cZ, 200, .inl f_this_placed))] → lv_has ls 2 [] → P_Mod_outDigit_18 s0 n_this_size f_this_result = some o → W p l e rm_Mod_outDigit s m args below meth c H locs 0 0 Q (F0 m 18 ls [.int s0, .ref h_this]) := by
    intro s0 n_this_size f_this_result H locs ls hE hl h
    unfold P_Mod_outDigit_18 at h
    obtain ⟨x18, hc18, h⟩ := bd_s h
    have hM := (c_Mod_out l D cI cZ tt h_this h_this_text h_this_result h_this_row h_this_other h_this_starts h_this_sizes h_this_rules h_this_tagged h_this_pool h_this_placed H.size n_this_textSize n_this_size n_this_rowSize n_this_count n_this_poolSize n_this_whole n_this_bias f_this_text f_this_result f_this_row f_this_other f_this_starts f_this_sizes f_this_rules f_this_tagged f_this_pool f_this_placed s0 x18 hc18)
    refine hn_cv hE (hn_runV (As := [.int s0]) (rest := []) S hE hM cf_Mod_out mw_691 mw_693 ms_40 ⟨rfl, rfl⟩ ⟨Nat.le_of_ble_eq_true rfl, Nat.le_of_ble_eq_true rfl⟩ [0, 1, 2, 3, 4, 5, 6, 7, 8, 9, 10] rfl rfl rfl rfl rfl rfl hl.1 (lv_room (Nat.le_of_ble_eq_true rfl)) d_Mod_outDigit_18 ⟨Nat.zero_le _, Nat.zero_le _⟩) [0, 1, 2, 3, 4, 5, 6, 7, 8, 9, 10] rfl rfl (fun H locs hE => ?_)
    have hE : hn_E D (TY cI cZ) tt A s H locs [(h_this, .inr (6, [.int n_this_textSize, .ref h_this_text, .int x18.1, .ref h_this_result, .int n_this_rowSize, .ref h_this_row, .ref h_this_other, .int n_this_count, .ref h_this_starts, .ref h_this_sizes, .ref h_this_rules, .ref h_this_tagged, .int n_this_poolSize, .ref h_this_pool, .int n_this_whole, .ref h_this_placed, .int n_this_bias])), (h_this_text, .inl (cI, 48, .inl f_this_text)), (h_this_result, .inl (cI, 2000, .inl x18.2)), (h_this_row, .inl (cI, 200, .inl f_this_row)), (h_this_other, .inl (cI, 200, .inl f_this_other)), (h_this_starts, .inl (cI, 50, .inl f_this_starts)), (h_this_sizes, .inl (cI, 50, .inl f_this_sizes)), (h_this_rules, .inl (cI, 50, .inl f_this_rules)), (h_this_tagged, .inl (cZ, 50, .inl f_this_tagged)), (h_this_pool, .inl (cI, 300, .inl f_this_pool)), (h_this_placed, .inl (cZ, 200, .inl f_this_placed))] := hE
    obtain rfl := Option.some.inj h
    exact hret H locs ls 21 d_Mod_outDigit_21 hE
  unfold P_Mod_outDigit at h
  refine lv_aload_n hx hb d_Mod_outDigit_0 rfl (lv_at hl 0 rfl) ?_
  refine lv_iload_n hx hb d_Mod_outDigit_1 rfl (lv_at hl 1 rfl) ?_
  refine lv_bipush (v := 26) hx hb d_Mod_outDigit_2 (by decide) ?_
  refine lv_icmp_ge (tgt := 14) hx hb d_Mod_outDigit_4 (by decide) (fun hc => ?_) (fun hc => ?_)
  · have h := ite_t hc h
    refine lv_bipush (v := 22) hx hb d_Mod_outDigit_14 (by decide) ?_
    refine lv_iload_n hx hb d_Mod_outDigit_16 rfl (lv_at hl 1 rfl) ?_
    refine lv_iadd hx hb d_Mod_outDigit_17 ?_
    exact hj18 ((22 : Int32) + a1) n_this_size f_this_result H locs ls hE (lv_sub hl [] rfl) h
  · have h := ite_f hc h
    refine lv_bipush (v := 97) hx hb d_Mod_outDigit_7 (by decide) ?_
    refine lv_iload_n hx hb d_Mod_outDigit_9 rfl (lv_at hl 1 rfl) ?_
    refine lv_iadd hx hb d_Mod_outDigit_10 ?_
    refine lv_goto (tgt := 18) hx hb d_Mod_outDigit_11 (by decide) ?_
    exact hj18 ((97 : Int32) + a1) n_this_size f_this_result H locs ls hE (lv_sub hl [] rfl) h
abbrev rm_Mod_digit : Room := { frames := 1, cells := 0, slots := 0, locals := 22 }
theorem cf_Mod_digit : hn_CF y_Mod_digit b_Mod_digit 1 (some .int) 1 := ⟨mw_630, mw_7, by decide, by decide, by decide +kernel⟩
set_option maxHeartbeats 4000000 in
set_option maxRecDepth 100000 in
theorem c_Mod_digit (l : Launch) (D : va_G) (cI cZ : ClassId) (tt : Nat → Nat) (sz : Nat) (a1 : Int32) (o : Int32) (h : P_Mod_digit a1 = some o) : Met l y_Mod_digit (hn_w y_Mod_digit b_Mod_digit 1 (some .int)) rm_Mod_digit (hn_Pc D (TY cI cZ) tt [.int a1] sz []) (hn_Qi D [] sz [] o) 0 0 (va_A [] sz) := by
  refine hn_ofWi (own := R_Mod) (by decide) rfl (Nat.le_of_ble_eq_true rfl) ?_
  intro p e s m args below meth c A H locs ls Q S hE hl hret
  have hx := S.1
  have hb := S.2.1
  have hown := S.2.2.2.1
  have hl : lv_has ls 1 [(0, .int a1)] := hl
  unfold P_Mod_digit at h
  refine lv_iload_n hx hb d_Mod_digit_0 rfl (lv_at hl 0 rfl) ?_
  refine lv_bipush (v := 97) hx hb d_Mod_digit_1 (by decide) ?_
  refine lv_bipush (v := 122) hx hb d_Mod_digit_3 (by decide) ?_
  obtain ⟨x5, hc5, h⟩ := bd_s h
  have hM := (c_Mod_within l D cI cZ tt H.size a1 (97 : Int32) (122 : Int32) x5 hc5)
  refine hn_cz hE (hn_runS (As := [.int a1, .int (97 : Int32), .int (122 : Int32)]) (rest := []) S hE hM cf_Mod_within mw_543 mw_544 ⟨rfl, rfl⟩ ⟨Nat.le_of_ble_eq_true rfl, Nat.le_of_ble_eq_true rfl⟩ [] rfl rfl rfl rfl hl.1 (lv_room (Nat.le_of_ble_eq_true rfl)) d_Mod_digit_5 ⟨Nat.zero_le _, Nat.zero_le _⟩) [] rfl rfl (fun H locs hz5 hE => ?_)
  have hE : hn_E D (TY cI cZ) tt A s H locs [] := hE
  refine lv_if_eq (tgt := 18) hx hb d_Mod_digit_8 (by decide) (fun hc => ?_) (fun hc => ?_)
  · have h := ite_t hc h
    refine lv_iload_n hx hb d_Mod_digit_18 rfl (lv_at hl 0 rfl) ?_
    refine lv_bipush (v := 65) hx hb d_Mod_digit_19 (by decide) ?_
    refine lv_bipush (v := 90) hx hb d_Mod_digit_21 (by decide) ?_
    obtain ⟨x23, hc23, h⟩ := bd_s h
    have hM := (c_Mod_within l D cI cZ tt H.size a1 (65 : Int32) (90 : Int32) x23 hc23)
    refine hn_cz hE (hn_runS (As := [.int a1, .int (65 : Int32), .int (90 : Int32)]) (rest := []) S hE hM cf_Mod_within mw_543 mw_544 ⟨rfl, rfl⟩ ⟨Nat.le_of_ble_eq_true rfl, Nat.le_of_ble_eq_true rfl⟩ [] rfl rfl rfl rfl hl.1 (lv_room (Nat.le_of_ble_eq_true rfl)) d_Mod_digit_23 ⟨Nat.zero_le _, Nat.zero_le _⟩) [] rfl rfl (fun H locs hz23 hE => ?_)
    have hE : hn_E D (TY cI cZ) tt A s H locs [] := hE
    refine lv_if_eq (tgt := 36) hx hb d_Mod_digit_26 (by decide) (fun hc => ?_) (fun hc => ?_)
    · have h := ite_t hc h
      refine lv_iload_n hx hb d_Mod_digit_36 rfl (lv_at hl 0 rfl) ?_
      refine lv_bipush (v := 48) hx hb d_Mod_digit_37 (by decide) ?_
      refine lv_bipush (v := 57) hx hb d_Mod_digit_39 (by decide) ?_
      obtain ⟨x41, hc41, h⟩ := bd_s h
      have hM := (c_Mod_within l D cI cZ tt H.size a1 (48 : Int32) (57 : Int32) x41 hc41)
      refine hn_cz hE (hn_runS (As := [.int a1, .int (48 : Int32), .int (57 : Int32)]) (rest := []) S hE hM cf_Mod_within mw_543 mw_544 ⟨rfl, rfl⟩ ⟨Nat.le_of_ble_eq_true rfl, Nat.le_of_ble_eq_true rfl⟩ [] rfl rfl rfl rfl hl.1 (lv_room (Nat.le_of_ble_eq_true rfl)) d_Mod_digit_41 ⟨Nat.zero_le _, Nat.zero_le _⟩) [] rfl rfl (fun H locs hz41 hE => ?_)
      have hE : hn_E D (TY cI cZ) tt A s H locs [] := hE
      refine lv_if_eq (tgt := 54) hx hb d_Mod_digit_44 (by decide) (fun hc => ?_) (fun hc => ?_)
      · have h := ite_t hc h
        refine lv_iconst (v := -1) hx hb d_Mod_digit_54 (by decide) ?_
        obtain rfl := Option.some.inj h
        exact hret H locs ls 55 d_Mod_digit_55 hE
      · have h := ite_f hc h
        refine lv_iload_n hx hb d_Mod_digit_47 rfl (lv_at hl 0 rfl) ?_
        refine lv_bipush (v := 22) hx hb d_Mod_digit_48 (by decide) ?_
        refine lv_isub hx hb d_Mod_digit_50 ?_
        refine lv_goto (tgt := 55) hx hb d_Mod_digit_51 (by decide) ?_
        obtain rfl := Option.some.inj h
        exact hret H locs ls 55 d_Mod_digit_55 hE
    · have h := ite_f hc h
      refine lv_iload_n hx hb d_Mod_digit_29 rfl (lv_at hl 0 rfl) ?_
      refine lv_bipush (v := 65) hx hb d_Mod_digit_30 (by decide) ?_
      refine lv_isub hx hb d_Mod_digit_32 ?_
      refine lv_goto (tgt := 55) hx hb d_Mod_digit_33 (by decide) ?_
      obtain rfl := Option.some.inj h
      exact hret H locs ls 55 d_Mod_digit_55 hE
  · have h := ite_f hc h
    refine lv_iload_n hx hb d_Mod_digit_11 rfl (lv_at hl 0 rfl) ?_
    refine lv_bipush (v := 97) hx hb d_Mod_digit_12 (by decide) ?_
    refine lv_isub hx hb d_Mod_digit_14 ?_
    refine lv_goto (tgt := 55) hx hb d_Mod_digit_15 (by decide) ?_
    obtain rfl := Option.some.inj h
    exact hret H locs ls 55 d_Mod_digit_55 hE
abbrev rm_Mod_on : Room := { frames := 0, cells := 0, slots := 0, locals := 0 }
theorem cf_Mod_on : hn_CF y_Mod_on b_Mod_on 2 (some .boolean) 2 := ⟨mw_569, mw_7, by decide, by decide, by decide +kernel⟩
set_option maxHeartbeats 4000000 in
set_option maxRecDepth 100000 in
theorem c_Mod_on (l : Launch) (D : va_G) (cI cZ : ClassId) (tt : Nat → Nat) (sz : Nat) (a1 : Int32) (a2 : Int32) (o : Int32) (h : P_Mod_on a1 a2 = some o) : Met l y_Mod_on (hn_w y_Mod_on b_Mod_on 2 (some .boolean)) rm_Mod_on (hn_Pc D (TY cI cZ) tt [.int a1, .int a2] sz []) (hn_Qz D [] sz [] o) 0 0 (va_A [] sz) := by
  refine hn_ofWz (own := R_Mod) (by decide) rfl (Nat.le_of_ble_eq_true rfl) ?_
  intro p e s m args below meth c A H locs ls Q S hE hl hret
  have hx := S.1
  have hb := S.2.1
  have hown := S.2.2.2.1
  have hl : lv_has ls 2 [(0, .int a1), (1, .int a2)] := hl
  unfold P_Mod_on at h
  refine lv_iload_n hx hb d_Mod_on_0 rfl (lv_at hl 0 rfl) ?_
  refine lv_iload_n hx hb d_Mod_on_1 rfl (lv_at hl 1 rfl) ?_
  refine lv_iand hx hb d_Mod_on_2 ?_
  refine lv_if_eq (tgt := 10) hx hb d_Mod_on_3 (by decide) (fun hc => ?_) (fun hc => ?_)
  · have h := ite_t hc h
    refine lv_iconst (v := 0) hx hb d_Mod_on_10 (by decide) ?_
    obtain rfl := Option.some.inj h
    exact hret H locs ls 11 d_Mod_on_11 narrow_b0 hE
  · have h := ite_f hc h
    refine lv_iconst (v := 1) hx hb d_Mod_on_6 (by decide) ?_
    refine lv_goto (tgt := 11) hx hb d_Mod_on_7 (by decide) ?_
    obtain rfl := Option.some.inj h
    exact hret H locs ls 11 d_Mod_on_11 narrow_b1 hE
abbrev rm_Mod_add : Room := { frames := 0, cells := 0, slots := 0, locals := 0 }
theorem cf_Mod_add : hn_CF y_Mod_add b_Mod_add 2 none 1 := ⟨mw_579, mw_7, by decide, by decide, by decide +kernel⟩
set_option maxHeartbeats 4000000 in
set_option maxRecDepth 100000 in
theorem c_Mod_add (l : Launch) (D : va_G) (cI cZ : ClassId) (tt : Nat → Nat) (h_this h_this_text h_this_result h_this_row h_this_other h_this_starts h_this_sizes h_this_rules h_this_tagged h_this_pool h_this_placed : Nat) (sz : Nat) (n_this_textSize : Int32) (n_this_size : Int32) (n_this_rowSize : Int32) (n_this_count : Int32) (n_this_poolSize : Int32) (n_this_whole : Int32) (n_this_bias : Int32) (f_this_text : Nat → Int32) (f_this_result : Nat → Int32) (f_this_row : Nat → Int32) (f_this_other : Nat → Int32) (f_this_starts : Nat → Int32) (f_this_sizes : Nat → Int32) (f_this_rules : Nat → Int32) (f_this_tagged : Nat → Int32) (f_this_pool : Nat → Int32) (f_this_placed : Nat → Int32) (a1 : Int32) (o : Int32 × (Nat → Int32)) (h : P_Mod_add n_this_rowSize f_this_row a1 = some o) : Met l y_Mod_add (hn_w y_Mod_add b_Mod_add 2 none) rm_Mod_add (hn_Pc D (TY cI cZ) tt [.ref h_this, .int a1] sz [(h_this, .inr (6, [.int n_this_textSize, .ref h_this_text, .int n_this_size, .ref h_this_result, .int n_this_rowSize, .ref h_this_row, .ref h_this_other, .int n_this_count, .ref h_this_starts, .ref h_this_sizes, .ref h_this_rules, .ref h_this_tagged, .int n_this_poolSize, .ref h_this_pool, .int n_this_whole, .ref h_this_placed, .int n_this_bias])), (h_this_text, .inl (cI, 48, .inl f_this_text)), (h_this_result, .inl (cI, 2000, .inl f_this_result)), (h_this_row, .inl (cI, 200, .inl f_this_row)), (h_this_other, .inl (cI, 200, .inl f_this_other)), (h_this_starts, .inl (cI, 50, .inl f_this_starts)), (h_this_sizes, .inl (cI, 50, .inl f_this_sizes)), (h_this_rules, .inl (cI, 50, .inl f_this_rules)), (h_this_tagged, .inl (cZ, 50, .inl f_this_tagged)), (h_this_pool, .inl (cI, 300, .inl f_this_pool)), (h_this_placed, .inl (cZ, 200, .inl f_this_placed))]) (hn_Qv D [(h_this, .inr (6, [.int n_this_textSize, .ref h_this_text, .int n_this_size, .ref h_this_result, .int n_this_rowSize, .ref h_this_row, .ref h_this_other, .int n_this_count, .ref h_this_starts, .ref h_this_sizes, .ref h_this_rules, .ref h_this_tagged, .int n_this_poolSize, .ref h_this_pool, .int n_this_whole, .ref h_this_placed, .int n_this_bias])), (h_this_text, .inl (cI, 48, .inl f_this_text)), (h_this_result, .inl (cI, 2000, .inl f_this_result)), (h_this_row, .inl (cI, 200, .inl f_this_row)), (h_this_other, .inl (cI, 200, .inl f_this_other)), (h_this_starts, .inl (cI, 50, .inl f_this_starts)), (h_this_sizes, .inl (cI, 50, .inl f_this_sizes)), (h_this_rules, .inl (cI, 50, .inl f_this_rules)), (h_this_tagged, .inl (cZ, 50, .inl f_this_tagged)), (h_this_pool, .inl (cI, 300, .inl f_this_pool)), (h_this_placed, .inl (cZ, 200, .inl f_this_placed))] sz [(h_this, .inr (6, [.int n_this_textSize, .ref h_this_text, .int n_this_size, .ref h_this_result, .int o.1, .ref h_this_row, .ref h_this_other, .int n_this_count, .ref h_this_starts, .ref h_this_sizes, .ref h_this_rules, .ref h_this_tagged, .int n_this_poolSize, .ref h_this_pool, .int n_this_whole, .ref h_this_placed, .int n_this_bias])), (h_this_text, .inl (cI, 48, .inl f_this_text)), (h_this_result, .inl (cI, 2000, .inl f_this_result)), (h_this_row, .inl (cI, 200, .inl o.2)), (h_this_other, .inl (cI, 200, .inl f_this_other)), (h_this_starts, .inl (cI, 50, .inl f_this_starts)), (h_this_sizes, .inl (cI, 50, .inl f_this_sizes)), (h_this_rules, .inl (cI, 50, .inl f_this_rules)), (h_this_tagged, .inl (cZ, 50, .inl f_this_tagged)), (h_this_pool, .inl (cI, 300, .inl f_this_pool)), (h_this_placed, .inl (cZ, 200, .inl f_this_placed))]) 0 0 (va_A [(h_this, .inr (6, [.int n_this_textSize, .ref h_this_text, .int n_this_size, .ref h_this_result, .int n_this_rowSize, .ref h_this_row, .ref h_this_other, .int n_this_count, .ref h_this_starts, .ref h_this_sizes, .ref h_this_rules, .ref h_this_tagged, .int n_this_poolSize, .ref h_this_pool, .int n_this_whole, .ref h_this_placed, .int n_this_bias])), (h_this_text, .inl (cI, 48, .inl f_this_text)), (h_this_result, .inl (cI, 2000, .inl f_this_result)), (h_this_row, .inl (cI, 200, .inl f_this_row)), (h_this_other, .inl (cI, 200, .inl f_this_other)), (h_this_starts, .inl (cI, 50, .inl f_this_starts)), (h_this_sizes, .inl (cI, 50, .inl f_this_sizes)), (h_this_rules, .inl (cI, 50, .inl f_this_rules)), (h_this_tagged, .inl (cZ, 50, .inl f_this_tagged)), (h_this_pool, .inl (cI, 300, .inl f_this_pool)), (h_this_placed, .inl (cZ, 200, .inl f_this_placed))] sz) := by
  refine hn_ofWv (own := R_Mod) (by decide) rfl (Nat.le_of_ble_eq_true rfl) ?_
  intro p e s m args below meth c A H locs ls Q S hE hl hret
  have hx := S.1
  have hb := S.2.1
  have hown := S.2.2.2.1
  have hl : lv_has ls 2 [(0, .ref h_this), (1, .int a1)] := hl
  unfold P_Mod_add at h
  refine lv_aload_n hx hb d_Mod_add_0 rfl (lv_at hl 0 rfl) ?_
  refine hn_get S hE kc_Mod 0 rfl rfl 5 (by decide) mw_491 rfl d_Mod_add_1 ?_
  refine lv_aload_n hx hb d_Mod_add_4 rfl (lv_at hl 0 rfl) ?_
  refine hn_get S hE kc_Mod 0 rfl rfl 4 (by decide) mw_490 rfl d_Mod_add_5 ?_
  refine lv_iload_n hx hb d_Mod_add_8 rfl (lv_at hl 1 rfl) ?_
  obtain ⟨hi9, h⟩ := gi_s h
  refine hn_iast S hE 3 0 rfl rfl hi9 d_Mod_add_9 (fun H locs hE => ?_)
  have hE : hn_E D (TY cI cZ) tt A s H locs [(h_this, .inr (6, [.int n_this_textSize, .ref h_this_text, .int n_this_size, .ref h_this_result, .int n_this_rowSize, .ref h_this_row, .ref h_this_other, .int n_this_count, .ref h_this_starts, .ref h_this_sizes, .ref h_this_rules, .ref h_this_tagged, .int n_this_poolSize, .ref h_this_pool, .int n_this_whole, .ref h_this_placed, .int n_this_bias])), (h_this_text, .inl (cI, 48, .inl f_this_text)), (h_this_result, .inl (cI, 2000, .inl f_this_result)), (h_this_row, .inl (cI, 200, .inl (upd f_this_row (n_this_rowSize).toNatClampNeg a1))), (h_this_other, .inl (cI, 200, .inl f_this_other)), (h_this_starts, .inl (cI, 50, .inl f_this_starts)), (h_this_sizes, .inl (cI, 50, .inl f_this_sizes)), (h_this_rules, .inl (cI, 50, .inl f_this_rules)), (h_this_tagged, .inl (cZ, 50, .inl f_this_tagged)), (h_this_pool, .inl (cI, 300, .inl f_this_pool)), (h_this_placed, .inl (cZ, 200, .inl f_this_placed))] := hE
  refine lv_aload_n hx hb d_Mod_add_10 rfl (lv_at hl 0 rfl) ?_
  refine lv_dup hx hb d_Mod_add_11 rfl ?_
  refine hn_get S hE kc_Mod 0 rfl rfl 4 (by decide) mw_490 rfl d_Mod_add_12 ?_
  refine lv_iconst (v := 1) hx hb d_Mod_add_15 (by decide) ?_
  refine lv_iadd hx hb d_Mod_add_16 ?_
  refine hn_put (tv := .int) S hE kc_Mod t_Mod_ok n_Mod 0 rfl rfl 4 (by decide) mw_490 rfl (by decide +kernel) rfl rfl (Nat.le_of_ble_eq_true rfl) d_Mod_add_17 (fun H locs hE => ?_)
  have hE : hn_E D (TY cI cZ) tt A s H locs [(h_this, .inr (6, [.int n_this_textSize, .ref h_this_text, .int n_this_size, .ref h_this_result, .int (n_this_rowSize + (1 : Int32)), .ref h_this_row, .ref h_this_other, .int n_this_count, .ref h_this_starts, .ref h_this_sizes, .ref h_this_rules, .ref h_this_tagged, .int n_this_poolSize, .ref h_this_pool, .int n_this_whole, .ref h_this_placed, .int n_this_bias])), (h_this_text, .inl (cI, 48, .inl f_this_text)), (h_this_result, .inl (cI, 2000, .inl f_this_result)), (h_this_row, .inl (cI, 200, .inl (upd f_this_row (n_this_rowSize).toNatClampNeg a1))), (h_this_other, .inl (cI, 200, .inl f_this_other)), (h_this_starts, .inl (cI, 50, .inl f_this_starts)), (h_this_sizes, .inl (cI, 50, .inl f_this_sizes)), (h_this_rules, .inl (cI, 50, .inl f_this_rules)), (h_this_tagged, .inl (cZ, 50, .inl f_this_tagged)), (h_this_pool, .inl (cI, 300, .inl f_this_pool)), (h_this_placed, .inl (cZ, 200, .inl f_this_placed))] := hE
  obtain rfl := Option.some.inj h
  exact hret H locs ls 20 d_Mod_add_20 hE
abbrev rm_Mod_codeOf : Room := { frames := 0, cells := 0, slots := 0, locals := 0 }
theorem cf_Mod_codeOf : hn_CF y_Mod_codeOf b_Mod_codeOf 3 (some .int) 2 := ⟨mw_652, mw_7, by decide, by decide, by decide +kernel⟩
set_option maxHeartbeats 4000000 in
set_option maxRecDepth 100000 in
theorem c_Mod_codeOf (l : Launch) (D : va_G) (cI cZ : ClassId) (tt : Nat → Nat) (h_this h_this_text h_this_result h_this_row h_this_other h_this_starts h_this_sizes h_this_rules h_this_tagged h_this_pool h_this_placed : Nat) (sz : Nat) (n_this_textSize : Int32) (n_this_size : Int32) (n_this_rowSize : Int32) (n_this_count : Int32) (n_this_poolSize : Int32) (n_this_whole : Int32) (n_this_bias : Int32) (f_this_text : Nat → Int32) (f_this_result : Nat → Int32) (f_this_row : Nat → Int32) (f_this_other : Nat → Int32) (f_this_starts : Nat → Int32) (f_this_sizes : Nat → Int32) (f_this_rules : Nat → Int32) (f_this_tagged : Nat → Int32) (f_this_pool : Nat → Int32) (f_this_placed : Nat → Int32) (a1 : Int32) (a2 : Int32) (o : Int32) (h : P_Mod_codeOf f_this_starts f_this_pool a1 a2 = some o) : Met l y_Mod_codeOf (hn_w y_Mod_codeOf b_Mod_codeOf 3 (some .int)) rm_Mod_codeOf (hn_Pc D (TY cI cZ) tt [.ref h_this, .int a1, .int a2] sz [(h_this, .inr (6, [.int n_this_textSize, .ref h_this_text, .int n_this_size, .ref h_this_result, .int n_this_rowSize, .ref h_this_row, .ref h_this_other, .int n_this_count, .ref h_this_starts, .ref h_this_sizes, .ref h_this_rules, .ref h_this_tagged, .int n_this_poolSize, .ref h_this_pool, .int n_this_whole, .ref h_this_placed, .int n_this_bias])), (h_this_text, .inl (cI, 48, .inl f_this_text)), (h_this_result, .inl (cI, 2000, .inl f_this_result)), (h_this_row, .inl (cI, 200, .inl f_this_row)), (h_this_other, .inl (cI, 200, .inl f_this_other)), (h_this_starts, .inl (cI, 50, .inl f_this_starts)), (h_this_sizes, .inl (cI, 50, .inl f_this_sizes)), (h_this_rules, .inl (cI, 50, .inl f_this_rules)), (h_this_tagged, .inl (cZ, 50, .inl f_this_tagged)), (h_this_pool, .inl (cI, 300, .inl f_this_pool)), (h_this_placed, .inl (cZ, 200, .inl f_this_placed))]) (hn_Qi D [(h_this, .inr (6, [.int n_this_textSize, .ref h_this_text, .int n_this_size, .ref h_this_result, .int n_this_rowSize, .ref h_this_row, .ref h_this_other, .int n_this_count, .ref h_this_starts, .ref h_this_sizes, .ref h_this_rules, .ref h_this_tagged, .int n_this_poolSize, .ref h_this_pool, .int n_this_whole, .ref h_this_placed, .int n_this_bias])), (h_this_text, .inl (cI, 48, .inl f_this_text)), (h_this_result, .inl (cI, 2000, .inl f_this_result)), (h_this_row, .inl (cI, 200, .inl f_this_row)), (h_this_other, .inl (cI, 200, .inl f_this_other)), (h_this_starts, .inl (cI, 50, .inl f_this_starts)), (h_this_sizes, .inl (cI, 50, .inl f_this_sizes)), (h_this_rules, .inl (cI, 50, .inl f_this_rules)), (h_this_tagged, .inl (cZ, 50, .inl f_this_tagged)), (h_this_pool, .inl (cI, 300, .inl f_this_pool)), (h_this_placed, .inl (cZ, 200, .inl f_this_placed))] sz [(h_this, .inr (6, [.int n_this_textSize, .ref h_this_text, .int n_this_size, .ref h_this_result, .int n_this_rowSize, .ref h_this_row, .ref h_this_other, .int n_this_count, .ref h_this_starts, .ref h_this_sizes, .ref h_this_rules, .ref h_this_tagged, .int n_this_poolSize, .ref h_this_pool, .int n_this_whole, .ref h_this_placed, .int n_this_bias])), (h_this_text, .inl (cI, 48, .inl f_this_text)), (h_this_result, .inl (cI, 2000, .inl f_this_result)), (h_this_row, .inl (cI, 200, .inl f_this_row)), (h_this_other, .inl (cI, 200, .inl f_this_other)), (h_this_starts, .inl (cI, 50, .inl f_this_starts)), (h_this_sizes, .inl (cI, 50, .inl f_this_sizes)), (h_this_rules, .inl (cI, 50, .inl f_this_rules)), (h_this_tagged, .inl (cZ, 50, .inl f_this_tagged)), (h_this_pool, .inl (cI, 300, .inl f_this_pool)), (h_this_placed, .inl (cZ, 200, .inl f_this_placed))] o) 0 0 (va_A [(h_this, .inr (6, [.int n_this_textSize, .ref h_this_text, .int n_this_size, .ref h_this_result, .int n_this_rowSize, .ref h_this_row, .ref h_this_other, .int n_this_count, .ref h_this_starts, .ref h_this_sizes, .ref h_this_rules, .ref h_this_tagged, .int n_this_poolSize, .ref h_this_pool, .int n_this_whole, .ref h_this_placed, .int n_this_bias])), (h_this_text, .inl (cI, 48, .inl f_this_text)), (h_this_result, .inl (cI, 2000, .inl f_this_result)), (h_this_row, .inl (cI, 200, .inl f_this_row)), (h_this_other, .inl (cI, 200, .inl f_this_other)), (h_this_starts, .inl (cI, 50, .inl f_this_starts)), (h_this_sizes, .inl (cI, 50, .inl f_this_sizes)), (h_this_rules, .inl (cI, 50, .inl f_this_rules)), (h_this_tagged, .inl (cZ, 50, .inl f_this_tagged)), (h_this_pool, .inl (cI, 300, .inl f_this_pool)), (h_this_placed, .inl (cZ, 200, .inl f_this_placed))] sz) := by
  refine hn_ofWi (own := R_Mod) (by decide) rfl (Nat.le_of_ble_eq_true rfl) ?_
  intro p e s m args below meth c A H locs ls Q S hE hl hret
  have hx := S.1
  have hb := S.2.1
  have hown := S.2.2.2.1
  have hl : lv_has ls 3 [(0, .ref h_this), (1, .int a1), (2, .int a2)] := hl
  unfold P_Mod_codeOf at h
  refine lv_aload_n hx hb d_Mod_codeOf_0 rfl (lv_at hl 0 rfl) ?_
  refine hn_get S hE kc_Mod 0 rfl rfl 13 (by decide) mw_499 rfl d_Mod_codeOf_1 ?_
  refine lv_aload_n hx hb d_Mod_codeOf_4 rfl (lv_at hl 0 rfl) ?_
  refine hn_get S hE kc_Mod 0 rfl rfl 8 (by decide) mw_494 rfl d_Mod_codeOf_5 ?_
  refine lv_iload_n hx hb d_Mod_codeOf_8 rfl (lv_at hl 1 rfl) ?_
  obtain ⟨hi9, h⟩ := gi_s h
  refine hn_iald S hE 5 0 rfl rfl hi9 d_Mod_codeOf_9 ?_
  refine lv_iload_n hx hb d_Mod_codeOf_10 rfl (lv_at hl 2 rfl) ?_
  refine lv_iadd hx hb d_Mod_codeOf_11 ?_
  obtain ⟨hi12, h⟩ := gi_s h
  refine hn_iald S hE 9 0 rfl rfl hi12 d_Mod_codeOf_12 ?_
  obtain rfl := Option.some.inj h
  exact hret H locs ls 13 d_Mod_codeOf_13 hE
abbrev rm_Mod_joins : Room := { frames := 0, cells := 0, slots := 0, locals := 0 }
theorem cf_Mod_joins : hn_CF y_Mod_joins b_Mod_joins 1 (some .int) 1 := ⟨mw_682, mw_7, by decide, by decide, by decide +kernel⟩
set_option maxHeartbeats 4000000 in
set_option maxRecDepth 100000 in
theorem c_Mod_joins (l : Launch) (D : va_G) (cI cZ : ClassId) (tt : Nat → Nat) (sz : Nat) (a1 : Int32) (o : Int32) (h : P_Mod_joins a1 = some o) : Met l y_Mod_joins (hn_w y_Mod_joins b_Mod_joins 1 (some .int)) rm_Mod_joins (hn_Pc D (TY cI cZ) tt [.int a1] sz []) (hn_Qi D [] sz [] o) 0 0 (va_A [] sz) := by
  refine hn_ofWi (own := R_Mod) (by decide) rfl (Nat.le_of_ble_eq_true rfl) ?_
  intro p e s m args below meth c A H locs ls Q S hE hl hret
  have hx := S.1
  have hb := S.2.1
  have hown := S.2.2.2.1
  have hl : lv_has ls 1 [(0, .int a1)] := hl
  unfold P_Mod_joins at h
  refine lv_iload_n hx hb d_Mod_joins_0 rfl (lv_at hl 0 rfl) ?_
  refine lv_sipush (v := 1575) hx hb d_Mod_joins_1 (by decide) ?_
  refine lv_icmp_ne (tgt := 11) hx hb d_Mod_joins_4 (by decide) (fun hc => ?_) (fun hc => ?_)
  · have h := ite_f hc h
    refine lv_iload_n hx hb d_Mod_joins_11 rfl (lv_at hl 0 rfl) ?_
    refine lv_sipush (v := 1576) hx hb d_Mod_joins_12 (by decide) ?_
    refine lv_icmp_ne (tgt := 22) hx hb d_Mod_joins_15 (by decide) (fun hc => ?_) (fun hc => ?_)
    · have h := ite_f hc h
      refine lv_iload_n hx hb d_Mod_joins_22 rfl (lv_at hl 0 rfl) ?_
      refine lv_sipush (v := 1614) hx hb d_Mod_joins_23 (by decide) ?_
      refine lv_icmp_eq (tgt := 36) hx hb d_Mod_joins_26 (by decide) (fun hc => ?_) (fun hc => ?_)
      · have h := ite_t hc h
        refine lv_iconst (v := 3) hx hb d_Mod_joins_36 (by decide) ?_
        refine lv_goto (tgt := 41) hx hb d_Mod_joins_37 (by decide) ?_
        obtain rfl := Option.some.inj h
        exact hret H locs ls 41 d_Mod_joins_41 hE
      · have h := ite_f hc h
        refine lv_iload_n hx hb d_Mod_joins_29 rfl (lv_at hl 0 rfl) ?_
        refine lv_sipush (v := 2381) hx hb d_Mod_joins_30 (by decide) ?_
        refine lv_icmp_ne (tgt := 40) hx hb d_Mod_joins_33 (by decide) (fun hc => ?_) (fun hc => ?_)
        · have h := ite_f hc h
          refine lv_iconst (v := 0) hx hb d_Mod_joins_40 (by decide) ?_
          obtain rfl := Option.some.inj h
          exact hret H locs ls 41 d_Mod_joins_41 hE
        · have h := ite_t hc h
          refine lv_iconst (v := 3) hx hb d_Mod_joins_36 (by decide) ?_
          refine lv_goto (tgt := 41) hx hb d_Mod_joins_37 (by decide) ?_
          obtain rfl := Option.some.inj h
          exact hret H locs ls 41 d_Mod_joins_41 hE
    · have h := ite_t hc h
      refine lv_iconst (v := 2) hx hb d_Mod_joins_18 (by decide) ?_
      refine lv_goto (tgt := 41) hx hb d_Mod_joins_19 (by decide) ?_
      obtain rfl := Option.some.inj h
      exact hret H locs ls 41 d_Mod_joins_41 hE
  · have h := ite_t hc h
    refine lv_iconst (v := 1) hx hb d_Mod_joins_7 (by decide) ?_
    refine lv_goto (tgt := 41) hx hb d_Mod_joins_8 (by decide) ?_
    obtain rfl := Option.some.inj h
    exact hret H locs ls 41 d_Mod_joins_41 hE
