abbrev mdX10_header : MD := (yX10_header, cX10_header, 1, none)
theorem mw_X10_header : mdW mdX10_header := ⟨wm_X10_header, w0_RX10, by decide, by decide⟩
theorem mn_X10_header : (parseMethodDescriptor yX10_header.desc).map (fun d => d.parameters.length) = some 0 := by decide +kernel
def f_X10_header (M : Mem) : Option (Int32 × Mem) := bnd (f_X10_takesWord 1024 M) (fun v1 M2 => bnd (f_X10_must v1 M2) (fun _ M4 => bnd (f_X10_figure 1 8 M4) (fun v5 M6 => wrt (up M6 6 0 v5) (fun M7 => bnd (f_X10_takesWord 1025 M7) (fun v8 M9 => bnd (f_X10_must v8 M9) (fun _ M11 => bnd (f_X10_figure 1 16 M11) (fun v12 M13 => wrt (up M13 6 1 v12) (fun M14 => bnd (f_X10_takesWord 1026 M14) (fun v15 M16 => bnd (f_X10_must v15 M16) (fun _ M18 => bnd (f_X10_figure 1 8 M18) (fun v19 M20 => wrt (up M20 6 2 v19) (fun M21 => bnd (f_X10_takesSign 59 M21) (fun v22 M23 => bnd (f_X10_must v22 M23) (fun _ M25 => some (0, M25)))))))))))))))
set_option maxRecDepth 20000 in
set_option maxHeartbeats 2000000 in
theorem ev_X10_header (d : Nat) (hlev : 6 ≤ d) (M : Mem) : Ev KSm ST1 mdX10_header d [.inr 0] M (f_X10_header M) := by
  refine ev_of rfl (Nat.le_of_ble_eq_true rfl) ?_
  show CorM KSm ST1 RX10 cX10_header 1 none d 0 [(0, .inr 0)] [] M (f_X10_header M)
  unfold f_X10_header
  refine c_aload_n (i := 0) dX10_header_0 rfl rfl ?_
  refine c_aload_n (i := 0) dX10_header_1 rfl rfl ?_
  refine c_ldcS (text := "banks") (j := 1024) (List.mem_of_getElem? (i := 24) rfl) dX10_header_2 ?_
  refine c_callV (as := [.inr 1024]) (rs := [.inr 0]) (ev_X10_takesWord 5 (Nat.le_refl _) 1024 (by decide) M) rfl (Nat.lt_of_lt_of_le (by decide) hlev) mw_X10_takesWord wi_X10_takesWord wv_X10_takesWord (blk_get0 KSm_b0) (by decide) rfl wl_RX10_130 mn_X10_takesWord rfl (by decide) (Nat.le_of_ble_eq_true rfl) ⟨_, rfl⟩ dX10_header_4 (fun v1 M2 _ => ?_)
  refine c_callVv (as := [.inl v1]) (rs := []) (ev_X10_must 2 (Nat.le_refl _) v1 M2) rfl (Nat.lt_of_lt_of_le (by decide) hlev) mw_X10_must wi_X10_must wv_X10_must (blk_get0 KSm_b0) (by decide) rfl wl_RX10_133 mn_X10_must rfl (by decide) (Nat.le_of_ble_eq_true rfl) rfl dX10_header_7 (fun v3 M4 _ => ?_)
  refine c_aload_n (i := 0) dX10_header_10 rfl rfl ?_
  refine gf_RX10_26 (blk_get0 KSm_b0) dX10_header_11 ?_
  refine c_iconst dX10_header_14 (v := 0) rfl ?_
  refine c_aload_n (i := 0) dX10_header_15 rfl rfl ?_
  refine c_iconst dX10_header_16 (v := 1) rfl ?_
  refine c_bipush dX10_header_17 (v := 8) rfl ?_
  refine c_callV (as := [.inl 1, .inl 8]) (rs := [.inl 0, .inr 6]) (ev_X10_figure 2 (Nat.le_refl _) 1 8 M4) rfl (Nat.lt_of_lt_of_le (by decide) hlev) mw_X10_figure wi_X10_figure wv_X10_figure (blk_get0 KSm_b0) (by decide) rfl wl_RX10_137 mn_X10_figure rfl (by decide) (Nat.le_of_ble_eq_true rfl) ⟨_, rfl⟩ dX10_header_19 (fun v5 M6 _ => ?_)
  refine c_iast (blk_get0 (blk_sub (C := [(20, 290)]) (i := 6) KSm_b0 rfl)) (by decide) dX10_header_22 ?_
  refine c_wrt (fun M7 => ?_)
  refine c_aload_n (i := 0) dX10_header_23 rfl rfl ?_
  refine c_aload_n (i := 0) dX10_header_24 rfl rfl ?_
  refine c_ldcS (text := "rows") (j := 1025) (List.mem_of_getElem? (i := 25) rfl) dX10_header_25 ?_
  refine c_callV (as := [.inr 1025]) (rs := [.inr 0]) (ev_X10_takesWord 5 (Nat.le_refl _) 1025 (by decide) M7) rfl (Nat.lt_of_lt_of_le (by decide) hlev) mw_X10_takesWord wi_X10_takesWord wv_X10_takesWord (blk_get0 KSm_b0) (by decide) rfl wl_RX10_130 mn_X10_takesWord rfl (by decide) (Nat.le_of_ble_eq_true rfl) ⟨_, rfl⟩ dX10_header_27 (fun v8 M9 _ => ?_)
  refine c_callVv (as := [.inl v8]) (rs := []) (ev_X10_must 2 (Nat.le_refl _) v8 M9) rfl (Nat.lt_of_lt_of_le (by decide) hlev) mw_X10_must wi_X10_must wv_X10_must (blk_get0 KSm_b0) (by decide) rfl wl_RX10_133 mn_X10_must rfl (by decide) (Nat.le_of_ble_eq_true rfl) rfl dX10_header_30 (fun v10 M11 _ => ?_)
  refine c_aload_n (i := 0) dX10_header_33 rfl rfl ?_
  refine gf_RX10_26 (blk_get0 KSm_b0) dX10_header_34 ?_
  refine c_iconst dX10_header_37 (v := 1) rfl ?_
  refine c_aload_n (i := 0) dX10_header_38 rfl rfl ?_
  refine c_iconst dX10_header_39 (v := 1) rfl ?_
  refine c_bipush dX10_header_40 (v := 16) rfl ?_
  refine c_callV (as := [.inl 1, .inl 16]) (rs := [.inl 1, .inr 6]) (ev_X10_figure 2 (Nat.le_refl _) 1 16 M11) rfl (Nat.lt_of_lt_of_le (by decide) hlev) mw_X10_figure wi_X10_figure wv_X10_figure (blk_get0 KSm_b0) (by decide) rfl wl_RX10_137 mn_X10_figure rfl (by decide) (Nat.le_of_ble_eq_true rfl) ⟨_, rfl⟩ dX10_header_42 (fun v12 M13 _ => ?_)
  refine c_iast (blk_get0 (blk_sub (C := [(20, 290)]) (i := 6) KSm_b0 rfl)) (by decide) dX10_header_45 ?_
  refine c_wrt (fun M14 => ?_)
  refine c_aload_n (i := 0) dX10_header_46 rfl rfl ?_
  refine c_aload_n (i := 0) dX10_header_47 rfl rfl ?_
  refine c_ldcS (text := "columns") (j := 1026) (List.mem_of_getElem? (i := 26) rfl) dX10_header_48 ?_
  refine c_callV (as := [.inr 1026]) (rs := [.inr 0]) (ev_X10_takesWord 5 (Nat.le_refl _) 1026 (by decide) M14) rfl (Nat.lt_of_lt_of_le (by decide) hlev) mw_X10_takesWord wi_X10_takesWord wv_X10_takesWord (blk_get0 KSm_b0) (by decide) rfl wl_RX10_130 mn_X10_takesWord rfl (by decide) (Nat.le_of_ble_eq_true rfl) ⟨_, rfl⟩ dX10_header_50 (fun v15 M16 _ => ?_)
  refine c_callVv (as := [.inl v15]) (rs := []) (ev_X10_must 2 (Nat.le_refl _) v15 M16) rfl (Nat.lt_of_lt_of_le (by decide) hlev) mw_X10_must wi_X10_must wv_X10_must (blk_get0 KSm_b0) (by decide) rfl wl_RX10_133 mn_X10_must rfl (by decide) (Nat.le_of_ble_eq_true rfl) rfl dX10_header_53 (fun v17 M18 _ => ?_)
  refine c_aload_n (i := 0) dX10_header_56 rfl rfl ?_
  refine gf_RX10_26 (blk_get0 KSm_b0) dX10_header_57 ?_
  refine c_iconst dX10_header_60 (v := 2) rfl ?_
  refine c_aload_n (i := 0) dX10_header_61 rfl rfl ?_
  refine c_iconst dX10_header_62 (v := 1) rfl ?_
  refine c_bipush dX10_header_63 (v := 8) rfl ?_
  refine c_callV (as := [.inl 1, .inl 8]) (rs := [.inl 2, .inr 6]) (ev_X10_figure 2 (Nat.le_refl _) 1 8 M18) rfl (Nat.lt_of_lt_of_le (by decide) hlev) mw_X10_figure wi_X10_figure wv_X10_figure (blk_get0 KSm_b0) (by decide) rfl wl_RX10_137 mn_X10_figure rfl (by decide) (Nat.le_of_ble_eq_true rfl) ⟨_, rfl⟩ dX10_header_65 (fun v19 M20 _ => ?_)
  refine c_iast (blk_get0 (blk_sub (C := [(20, 290)]) (i := 6) KSm_b0 rfl)) (by decide) dX10_header_68 ?_
  refine c_wrt (fun M21 => ?_)
  refine c_aload_n (i := 0) dX10_header_69 rfl rfl ?_
  refine c_aload_n (i := 0) dX10_header_70 rfl rfl ?_
  refine c_bipush dX10_header_71 (v := 59) rfl ?_
  refine c_callV (as := [.inl 59]) (rs := [.inr 0]) (ev_X10_takesSign 2 (Nat.le_refl _) 59 M21) rfl (Nat.lt_of_lt_of_le (by decide) hlev) mw_X10_takesSign wi_X10_takesSign wv_X10_takesSign (blk_get0 KSm_b0) (by decide) rfl wl_RX10_145 mn_X10_takesSign rfl (by decide) (Nat.le_of_ble_eq_true rfl) ⟨_, rfl⟩ dX10_header_73 (fun v22 M23 _ => ?_)
  refine c_callVv (as := [.inl v22]) (rs := []) (ev_X10_must 2 (Nat.le_refl _) v22 M23) rfl (Nat.lt_of_lt_of_le (by decide) hlev) mw_X10_must wi_X10_must wv_X10_must (blk_get0 KSm_b0) (by decide) rfl wl_RX10_133 mn_X10_must rfl (by decide) (Nat.le_of_ble_eq_true rfl) rfl dX10_header_76 (fun v24 M25 _ => ?_)
  exact c_vret rfl dX10_header_79

abbrev mdX10_setting : MD := (yX10_setting, cX10_setting, 1, (some .int))
theorem mw_X10_setting : mdW mdX10_setting := ⟨wm_X10_setting, w0_RX10, by decide, by decide⟩
theorem mn_X10_setting : (parseMethodDescriptor yX10_setting.desc).map (fun d => d.parameters.length) = some 0 := by decide +kernel
def f_X10_setting (M : Mem) : Option (Int32 × Mem) := bnd (f_X10_isWord 1027 M) (fun v1 M2 => if v1 = 0 then bnd (f_X10_isWord 1028 M2) (fun v4 M5 => if v4 = 0 then bnd (f_X10_isWord 1029 M5) (fun v7 M8 => if v7 = 0 then bnd (f_X10_isWord 1030 M8) (fun v10 M11 => if v10 = 0 then bnd (f_X10_isWord 1031 M11) (fun v13 M14 => if v13 = 0 then bnd (f_X10_isWord 1032 M14) (fun v16 M17 => if v16 = 0 then bnd (f_X10_isWord 1033 M17) (fun v19 M20 => if v19 = 0 then bnd (f_X10_isWord 1034 M20) (fun v22 M23 => if v22 = 0 then bnd (f_X10_isWord 1035 M23) (fun v25 M26 => some ((if v25 = 0 then (-1 : Int32) else (11 : Int32)), M26)) else some (10, M23)) else some (9, M20)) else some (8, M17)) else some (7, M14)) else some (6, M11)) else some (5, M8)) else some (4, M5)) else some (3, M2))
set_option maxRecDepth 20000 in
set_option maxHeartbeats 2000000 in
theorem ev_X10_setting (d : Nat) (hlev : 5 ≤ d) (M : Mem) : Ev KSm ST1 mdX10_setting d [.inr 0] M (f_X10_setting M) := by
  refine ev_of rfl (Nat.le_of_ble_eq_true rfl) ?_
  show CorM KSm ST1 RX10 cX10_setting 1 (some .int) d 0 [(0, .inr 0)] [] M (f_X10_setting M)
  unfold f_X10_setting
  refine c_aload_n (i := 0) dX10_setting_0 rfl rfl ?_
  refine c_ldcS (text := "activate") (j := 1027) (List.mem_of_getElem? (i := 27) rfl) dX10_setting_1 ?_
  refine c_callV (as := [.inr 1027]) (rs := []) (ev_X10_isWord 4 (Nat.le_refl _) 1027 (by decide) M) rfl (Nat.lt_of_lt_of_le (by decide) hlev) mw_X10_isWord wi_X10_isWord wv_X10_isWord (blk_get0 KSm_b0) (by decide) rfl wl_RX10_117 mn_X10_isWord rfl (by decide) (Nat.le_of_ble_eq_true rfl) ⟨_, rfl⟩ dX10_setting_3 (fun v1 M2 _ => ?_)
  refine c_if_eq (tgt := 11) dX10_setting_6 rfl (fun h3 => ?_) (fun h3 => ?_)
  · refine c_aload_n (i := 0) dX10_setting_11 rfl rfl ?_
    refine c_ldcS (text := "access") (j := 1028) (List.mem_of_getElem? (i := 28) rfl) dX10_setting_12 ?_
    refine c_callV (as := [.inr 1028]) (rs := []) (ev_X10_isWord 4 (Nat.le_refl _) 1028 (by decide) M2) rfl (Nat.lt_of_lt_of_le (by decide) hlev) mw_X10_isWord wi_X10_isWord wv_X10_isWord (blk_get0 KSm_b0) (by decide) rfl wl_RX10_117 mn_X10_isWord rfl (by decide) (Nat.le_of_ble_eq_true rfl) ⟨_, rfl⟩ dX10_setting_14 (fun v4 M5 _ => ?_)
    refine c_if_eq (tgt := 22) dX10_setting_17 rfl (fun h6 => ?_) (fun h6 => ?_)
    · refine c_aload_n (i := 0) dX10_setting_22 rfl rfl ?_
      refine c_ldcS (text := "compute") (j := 1029) (List.mem_of_getElem? (i := 29) rfl) dX10_setting_23 ?_
      refine c_callV (as := [.inr 1029]) (rs := []) (ev_X10_isWord 4 (Nat.le_refl _) 1029 (by decide) M5) rfl (Nat.lt_of_lt_of_le (by decide) hlev) mw_X10_isWord wi_X10_isWord wv_X10_isWord (blk_get0 KSm_b0) (by decide) rfl wl_RX10_117 mn_X10_isWord rfl (by decide) (Nat.le_of_ble_eq_true rfl) ⟨_, rfl⟩ dX10_setting_25 (fun v7 M8 _ => ?_)
      refine c_if_eq (tgt := 33) dX10_setting_28 rfl (fun h9 => ?_) (fun h9 => ?_)
      · refine c_aload_n (i := 0) dX10_setting_33 rfl rfl ?_
        refine c_ldcS (text := "multiply") (j := 1030) (List.mem_of_getElem? (i := 30) rfl) dX10_setting_34 ?_
        refine c_callV (as := [.inr 1030]) (rs := []) (ev_X10_isWord 4 (Nat.le_refl _) 1030 (by decide) M8) rfl (Nat.lt_of_lt_of_le (by decide) hlev) mw_X10_isWord wi_X10_isWord wv_X10_isWord (blk_get0 KSm_b0) (by decide) rfl wl_RX10_117 mn_X10_isWord rfl (by decide) (Nat.le_of_ble_eq_true rfl) ⟨_, rfl⟩ dX10_setting_36 (fun v10 M11 _ => ?_)
        refine c_if_eq (tgt := 45) dX10_setting_39 rfl (fun h12 => ?_) (fun h12 => ?_)
        · refine c_aload_n (i := 0) dX10_setting_45 rfl rfl ?_
          refine c_ldcS (text := "reduce") (j := 1031) (List.mem_of_getElem? (i := 31) rfl) dX10_setting_46 ?_
          refine c_callV (as := [.inr 1031]) (rs := []) (ev_X10_isWord 4 (Nat.le_refl _) 1031 (by decide) M11) rfl (Nat.lt_of_lt_of_le (by decide) hlev) mw_X10_isWord wi_X10_isWord wv_X10_isWord (blk_get0 KSm_b0) (by decide) rfl wl_RX10_117 mn_X10_isWord rfl (by decide) (Nat.le_of_ble_eq_true rfl) ⟨_, rfl⟩ dX10_setting_48 (fun v13 M14 _ => ?_)
          refine c_if_eq (tgt := 57) dX10_setting_51 rfl (fun h15 => ?_) (fun h15 => ?_)
          · refine c_aload_n (i := 0) dX10_setting_57 rfl rfl ?_
            refine c_ldcS (text := "transfer") (j := 1032) (List.mem_of_getElem? (i := 32) rfl) dX10_setting_58 ?_
            refine c_callV (as := [.inr 1032]) (rs := []) (ev_X10_isWord 4 (Nat.le_refl _) 1032 (by decide) M14) rfl (Nat.lt_of_lt_of_le (by decide) hlev) mw_X10_isWord wi_X10_isWord wv_X10_isWord (blk_get0 KSm_b0) (by decide) rfl wl_RX10_117 mn_X10_isWord rfl (by decide) (Nat.le_of_ble_eq_true rfl) ⟨_, rfl⟩ dX10_setting_60 (fun v16 M17 _ => ?_)
            refine c_if_eq (tgt := 69) dX10_setting_63 rfl (fun h18 => ?_) (fun h18 => ?_)
            · refine c_aload_n (i := 0) dX10_setting_69 rfl rfl ?_
              refine c_ldcS (text := "budget") (j := 1033) (List.mem_of_getElem? (i := 33) rfl) dX10_setting_70 ?_
              refine c_callV (as := [.inr 1033]) (rs := []) (ev_X10_isWord 4 (Nat.le_refl _) 1033 (by decide) M17) rfl (Nat.lt_of_lt_of_le (by decide) hlev) mw_X10_isWord wi_X10_isWord wv_X10_isWord (blk_get0 KSm_b0) (by decide) rfl wl_RX10_117 mn_X10_isWord rfl (by decide) (Nat.le_of_ble_eq_true rfl) ⟨_, rfl⟩ dX10_setting_72 (fun v19 M20 _ => ?_)
              refine c_if_eq (tgt := 81) dX10_setting_75 rfl (fun h21 => ?_) (fun h21 => ?_)
              · refine c_aload_n (i := 0) dX10_setting_81 rfl rfl ?_
                refine c_ldcS (text := "window") (j := 1034) (List.mem_of_getElem? (i := 34) rfl) dX10_setting_82 ?_
                refine c_callV (as := [.inr 1034]) (rs := []) (ev_X10_isWord 4 (Nat.le_refl _) 1034 (by decide) M20) rfl (Nat.lt_of_lt_of_le (by decide) hlev) mw_X10_isWord wi_X10_isWord wv_X10_isWord (blk_get0 KSm_b0) (by decide) rfl wl_RX10_117 mn_X10_isWord rfl (by decide) (Nat.le_of_ble_eq_true rfl) ⟨_, rfl⟩ dX10_setting_84 (fun v22 M23 _ => ?_)
                refine c_if_eq (tgt := 93) dX10_setting_87 rfl (fun h24 => ?_) (fun h24 => ?_)
                · refine c_aload_n (i := 0) dX10_setting_93 rfl rfl ?_
                  refine c_ldcS (text := "cache") (j := 1035) (List.mem_of_getElem? (i := 35) rfl) dX10_setting_94 ?_
                  refine c_callV (as := [.inr 1035]) (rs := []) (ev_X10_isWord 4 (Nat.le_refl _) 1035 (by decide) M23) rfl (Nat.lt_of_lt_of_le (by decide) hlev) mw_X10_isWord wi_X10_isWord wv_X10_isWord (blk_get0 KSm_b0) (by decide) rfl wl_RX10_117 mn_X10_isWord rfl (by decide) (Nat.le_of_ble_eq_true rfl) ⟨_, rfl⟩ dX10_setting_96 (fun v25 M26 _ => ?_)
                  have J_z27 : ∀ z27 : Int32, CorM KSm ST1 RX10 cX10_setting 1 (some .int) d 108 [] [.inl z27] M26 (some (z27, M26)) := by
                    intro z27
                    exact c_iret rfl dX10_setting_108
                  refine c_val (b := v25 = 0) (v1 := (-1 : Int32)) (v2 := (11 : Int32)) (F := fun z27 => some (z27, M26)) (fun h28 => ?_) (fun h28 => ?_)
                  · refine c_T h28 (c_if_eq (tgt := 107) dX10_setting_99 rfl (fun _ => ?_) (fun q => absurd h28 q))
                    refine c_iconst dX10_setting_107 (v := (-1)) rfl ?_
                    refine c_keep [] (ls2 := []) rfl ?_
                    exact J_z27 (-1)
                  · refine c_Fl h28 (c_if_eq (tgt := 107) dX10_setting_99 rfl (fun q => absurd q h28) (fun _ => ?_))
                    refine c_bipush dX10_setting_102 (v := 11) rfl ?_
                    refine c_goto (tgt := 108) dX10_setting_104 rfl ?_
                    refine c_keep [] (ls2 := []) rfl ?_
                    exact J_z27 11
                · refine c_bipush dX10_setting_90 (v := 10) rfl ?_
                  exact c_iret rfl dX10_setting_92
              · refine c_bipush dX10_setting_78 (v := 9) rfl ?_
                exact c_iret rfl dX10_setting_80
            · refine c_bipush dX10_setting_66 (v := 8) rfl ?_
              exact c_iret rfl dX10_setting_68
          · refine c_bipush dX10_setting_54 (v := 7) rfl ?_
            exact c_iret rfl dX10_setting_56
        · refine c_bipush dX10_setting_42 (v := 6) rfl ?_
          exact c_iret rfl dX10_setting_44
      · refine c_iconst dX10_setting_31 (v := 5) rfl ?_
        exact c_iret rfl dX10_setting_32
    · refine c_iconst dX10_setting_20 (v := 4) rfl ?_
      exact c_iret rfl dX10_setting_21
  · refine c_iconst dX10_setting_9 (v := 3) rfl ?_
    exact c_iret rfl dX10_setting_10

abbrev mdX10_settings : MD := (yX10_settings, cX10_settings, 4, none)
theorem mw_X10_settings : mdW mdX10_settings := ⟨wm_X10_settings, w0_RX10, by decide, by decide⟩
theorem mn_X10_settings : (parseMethodDescriptor yX10_settings.desc).map (fun d => d.parameters.length) = some 0 := by decide +kernel
def j_X10_settings_98 (x1 : Int32) (x2 : Int32) (w0 : Int32) (K7 : Int32 × Int32 × Mem → Option (Int32 × Mem)) (M : Mem) : Option (Int32 × Mem) := if inb x2 290 then wrt (up M 6 (ix x2) w0) (fun M12 => bnd (f_X10_takesSign 59 M12) (fun v13 M14 => bnd (f_X10_must v13 M14) (fun _ M16 => bnd (f_X10_setting M16) (fun v17 M18 => K7 (x1, v17, M18))))) else none
set_option maxRecDepth 20000 in
set_option maxHeartbeats 2000000 in
theorem jo_X10_settings_98 (d : Nat) (hlev : 6 ≤ d) (x1 : Int32) (x2 : Int32) (w0 : Int32) (K7 : Int32 × Int32 × Mem → Option (Int32 × Mem)) (hK7 : ∀ s : Int32 × Int32 × Mem, CorM KSm ST1 RX10 cX10_settings 4 none d 7 [(0, .inr 0), (1, .inl s.1), (2, .inl s.2.1)] [] s.2.2 (K7 s)) (M : Mem) : CorM KSm ST1 RX10 cX10_settings 4 none d 98 [(0, .inr 0), (1, .inl x1), (2, .inl x2)] [.inl w0] M (j_X10_settings_98 x1 x2 w0 K7 M) := by
  unfold j_X10_settings_98
  refine c_istore_n (i := 3) dX10_settings_98 rfl (by decide) (ls2 := [(0, .inr 0), (1, .inl x1), (2, .inl x2), (3, .inl w0)]) rfl ?_
  refine c_aload_n (i := 0) dX10_settings_99 rfl rfl ?_
  refine gf_RX10_26 (blk_get0 KSm_b0) dX10_settings_100 ?_
  refine c_iload_n (i := 2) dX10_settings_103 rfl rfl ?_
  refine c_iload_n (i := 3) dX10_settings_104 rfl rfl ?_
  refine c_chk (fun h11 => ?_)
  refine c_iast (blk_get0 (blk_sub (C := [(20, 290)]) (i := 6) KSm_b0 rfl)) h11 dX10_settings_105 ?_
  refine c_wrt (fun M12 => ?_)
  refine c_aload_n (i := 0) dX10_settings_106 rfl rfl ?_
  refine c_aload_n (i := 0) dX10_settings_107 rfl rfl ?_
  refine c_bipush dX10_settings_108 (v := 59) rfl ?_
  refine c_callV (as := [.inl 59]) (rs := [.inr 0]) (ev_X10_takesSign 2 (Nat.le_refl _) 59 M12) rfl (Nat.lt_of_lt_of_le (by decide) hlev) mw_X10_takesSign wi_X10_takesSign wv_X10_takesSign (blk_get0 KSm_b0) (by decide) rfl wl_RX10_145 mn_X10_takesSign rfl (by decide) (Nat.le_of_ble_eq_true rfl) ⟨_, rfl⟩ dX10_settings_110 (fun v13 M14 _ => ?_)
  refine c_callVv (as := [.inl v13]) (rs := []) (ev_X10_must 2 (Nat.le_refl _) v13 M14) rfl (Nat.lt_of_lt_of_le (by decide) hlev) mw_X10_must wi_X10_must wv_X10_must (blk_get0 KSm_b0) (by decide) rfl wl_RX10_133 mn_X10_must rfl (by decide) (Nat.le_of_ble_eq_true rfl) rfl dX10_settings_113 (fun v15 M16 _ => ?_)
  refine c_aload_n (i := 0) dX10_settings_116 rfl rfl ?_
  refine c_callV (as := []) (rs := []) (ev_X10_setting 5 (Nat.le_refl _) M16) rfl (Nat.lt_of_lt_of_le (by decide) hlev) mw_X10_setting wi_X10_setting wv_X10_setting (blk_get0 KSm_b0) (by decide) rfl wl_RX10_166 mn_X10_setting rfl (by decide) (Nat.le_of_ble_eq_true rfl) ⟨_, rfl⟩ dX10_settings_117 (fun v17 M18 _ => ?_)
  refine c_istore_n (i := 2) dX10_settings_120 rfl (by decide) (ls2 := [(0, .inr 0), (1, .inl x1), (2, .inl v17), (3, .inl w0)]) rfl ?_
  refine c_goto (tgt := 7) dX10_settings_121 rfl ?_
  refine c_keep [0, 1, 2] (ls2 := [(0, .inr 0), (1, .inl x1), (2, .inl v17)]) rfl ?_
  exact hK7 (x1, v17, M18)
def j_X10_settings_42 (x1 : Int32) (x2 : Int32) (K7 : Int32 × Int32 × Mem → Option (Int32 × Mem)) (M : Mem) : Option (Int32 × Mem) := if ¬ x2 = 9 then if ¬ x2 = 10 then if ¬ x2 = 11 then bnd (f_X10_figure 1 100 M) (fun v9 M10 => j_X10_settings_98 x1 x2 v9 K7 M10) else bnd (f_X10_figure 0 8 M) (fun v19 M20 => j_X10_settings_98 x1 x2 v19 K7 M20) else bnd (f_X10_figure 1 1000 M) (fun v21 M22 => j_X10_settings_98 x1 x2 v21 K7 M22) else bnd (f_X10_figure 1 8 M) (fun v23 M24 => j_X10_settings_98 x1 x2 v23 K7 M24)
set_option maxRecDepth 20000 in
set_option maxHeartbeats 2000000 in
theorem jo_X10_settings_42 (d : Nat) (hlev : 6 ≤ d) (x1 : Int32) (x2 : Int32) (K7 : Int32 × Int32 × Mem → Option (Int32 × Mem)) (hK7 : ∀ s : Int32 × Int32 × Mem, CorM KSm ST1 RX10 cX10_settings 4 none d 7 [(0, .inr 0), (1, .inl s.1), (2, .inl s.2.1)] [] s.2.2 (K7 s)) (M : Mem) : CorM KSm ST1 RX10 cX10_settings 4 none d 42 [(0, .inr 0), (1, .inl x1), (2, .inl x2)] [] M (j_X10_settings_42 x1 x2 K7 M) := by
  unfold j_X10_settings_42
  refine c_iload_n (i := 2) dX10_settings_42 rfl rfl ?_
  refine c_bipush dX10_settings_43 (v := 9) rfl ?_
  refine c_icmp_ne (tgt := 58) dX10_settings_45 rfl (fun h6 => ?_) (fun h6 => ?_)
  · refine c_iload_n (i := 2) dX10_settings_58 rfl rfl ?_
    refine c_bipush dX10_settings_59 (v := 10) rfl ?_
    refine c_icmp_ne (tgt := 75) dX10_settings_61 rfl (fun h7 => ?_) (fun h7 => ?_)
    · refine c_iload_n (i := 2) dX10_settings_75 rfl rfl ?_
      refine c_bipush dX10_settings_76 (v := 11) rfl ?_
      refine c_icmp_ne (tgt := 91) dX10_settings_78 rfl (fun h8 => ?_) (fun h8 => ?_)
      · refine c_aload_n (i := 0) dX10_settings_91 rfl rfl ?_
        refine c_iconst dX10_settings_92 (v := 1) rfl ?_
        refine c_bipush dX10_settings_93 (v := 100) rfl ?_
        refine c_callV (as := [.inl 1, .inl 100]) (rs := []) (ev_X10_figure 2 (Nat.le_refl _) 1 100 M) rfl (Nat.lt_of_lt_of_le (by decide) hlev) mw_X10_figure wi_X10_figure wv_X10_figure (blk_get0 KSm_b0) (by decide) rfl wl_RX10_137 mn_X10_figure rfl (by decide) (Nat.le_of_ble_eq_true rfl) ⟨_, rfl⟩ dX10_settings_95 (fun v9 M10 _ => ?_)
        refine c_keep [0, 1, 2] (ls2 := [(0, .inr 0), (1, .inl x1), (2, .inl x2)]) rfl ?_
        exact jo_X10_settings_98 d hlev x1 x2 v9 K7 hK7 M10
      · refine c_aload_n (i := 0) dX10_settings_81 rfl rfl ?_
        refine c_iconst dX10_settings_82 (v := 0) rfl ?_
        refine c_bipush dX10_settings_83 (v := 8) rfl ?_
        refine c_callV (as := [.inl 0, .inl 8]) (rs := []) (ev_X10_figure 2 (Nat.le_refl _) 0 8 M) rfl (Nat.lt_of_lt_of_le (by decide) hlev) mw_X10_figure wi_X10_figure wv_X10_figure (blk_get0 KSm_b0) (by decide) rfl wl_RX10_137 mn_X10_figure rfl (by decide) (Nat.le_of_ble_eq_true rfl) ⟨_, rfl⟩ dX10_settings_85 (fun v19 M20 _ => ?_)
        refine c_goto (tgt := 98) dX10_settings_88 rfl ?_
        refine c_keep [0, 1, 2] (ls2 := [(0, .inr 0), (1, .inl x1), (2, .inl x2)]) rfl ?_
        exact jo_X10_settings_98 d hlev x1 x2 v19 K7 hK7 M20
    · refine c_aload_n (i := 0) dX10_settings_64 rfl rfl ?_
      refine c_iconst dX10_settings_65 (v := 1) rfl ?_
      refine c_sipush dX10_settings_66 (v := 1000) rfl ?_
      refine c_callV (as := [.inl 1, .inl 1000]) (rs := []) (ev_X10_figure 2 (Nat.le_refl _) 1 1000 M) rfl (Nat.lt_of_lt_of_le (by decide) hlev) mw_X10_figure wi_X10_figure wv_X10_figure (blk_get0 KSm_b0) (by decide) rfl wl_RX10_137 mn_X10_figure rfl (by decide) (Nat.le_of_ble_eq_true rfl) ⟨_, rfl⟩ dX10_settings_69 (fun v21 M22 _ => ?_)
      refine c_goto (tgt := 98) dX10_settings_72 rfl ?_
      refine c_keep [0, 1, 2] (ls2 := [(0, .inr 0), (1, .inl x1), (2, .inl x2)]) rfl ?_
      exact jo_X10_settings_98 d hlev x1 x2 v21 K7 hK7 M22
  · refine c_aload_n (i := 0) dX10_settings_48 rfl rfl ?_
    refine c_iconst dX10_settings_49 (v := 1) rfl ?_
    refine c_bipush dX10_settings_50 (v := 8) rfl ?_
    refine c_callV (as := [.inl 1, .inl 8]) (rs := []) (ev_X10_figure 2 (Nat.le_refl _) 1 8 M) rfl (Nat.lt_of_lt_of_le (by decide) hlev) mw_X10_figure wi_X10_figure wv_X10_figure (blk_get0 KSm_b0) (by decide) rfl wl_RX10_137 mn_X10_figure rfl (by decide) (Nat.le_of_ble_eq_true rfl) ⟨_, rfl⟩ dX10_settings_52 (fun v23 M24 _ => ?_)
    refine c_goto (tgt := 98) dX10_settings_55 rfl ?_
    refine c_keep [0, 1, 2] (ls2 := [(0, .inr 0), (1, .inl x1), (2, .inl x2)]) rfl ?_
    exact jo_X10_settings_98 d hlev x1 x2 v23 K7 hK7 M24
def j_X10_settings_25 (x1 : Int32) (x2 : Int32) (K7 : Int32 × Int32 × Mem → Option (Int32 × Mem)) (M : Mem) : Option (Int32 × Mem) := if ¬ (p_X10_isWrong M) = 0 then j_X10_settings_42 (x1 ||| (1 <<< (x2 &&& 31))) x2 K7 M else bnd (f_X10_token M) (fun _ M26 => j_X10_settings_42 (x1 ||| (1 <<< (x2 &&& 31))) x2 K7 M26)
set_option maxRecDepth 20000 in
set_option maxHeartbeats 2000000 in
theorem jo_X10_settings_25 (d : Nat) (hlev : 6 ≤ d) (x1 : Int32) (x2 : Int32) (K7 : Int32 × Int32 × Mem → Option (Int32 × Mem)) (hK7 : ∀ s : Int32 × Int32 × Mem, CorM KSm ST1 RX10 cX10_settings 4 none d 7 [(0, .inr 0), (1, .inl s.1), (2, .inl s.2.1)] [] s.2.2 (K7 s)) (M : Mem) : CorM KSm ST1 RX10 cX10_settings 4 none d 25 [(0, .inr 0), (1, .inl x1), (2, .inl x2)] [] M (j_X10_settings_25 x1 x2 K7 M) := by
  unfold j_X10_settings_25
  refine c_iload_n (i := 1) dX10_settings_25 rfl rfl ?_
  refine c_iconst dX10_settings_26 (v := 1) rfl ?_
  refine c_iload_n (i := 2) dX10_settings_27 rfl rfl ?_
  refine c_ishl dX10_settings_28 ?_
  refine c_ior dX10_settings_29 ?_
  refine c_istore_n (i := 1) dX10_settings_30 rfl (by decide) (ls2 := [(0, .inr 0), (1, .inl (x1 ||| (1 <<< (x2 &&& 31)))), (2, .inl x2)]) rfl ?_
  refine c_aload_n (i := 0) dX10_settings_31 rfl rfl ?_
  refine c_callVp (as := []) (rs := []) (ev_X10_isWrong 0 (Nat.le_refl _) M) rfl (Nat.lt_of_lt_of_le (by decide) hlev) mw_X10_isWrong wi_X10_isWrong wv_X10_isWrong (blk_get0 KSm_b0) (by decide) rfl wl_RX10_103 mn_X10_isWrong rfl (by decide) (Nat.le_of_ble_eq_true rfl) ⟨_, rfl⟩ dX10_settings_32 ?_
  refine c_if_ne (tgt := 42) dX10_settings_35 rfl (fun h5 => ?_) (fun h5 => ?_)
  · refine c_keep [0, 1, 2] (ls2 := [(0, .inr 0), (1, .inl (x1 ||| (1 <<< (x2 &&& 31)))), (2, .inl x2)]) rfl ?_
    exact jo_X10_settings_42 d hlev (x1 ||| (1 <<< (x2 &&& 31))) x2 K7 hK7 M
  · refine c_aload_n (i := 0) dX10_settings_38 rfl rfl ?_
    refine c_callVv (as := []) (rs := []) (ev_X10_token 1 (Nat.le_refl _) M) rfl (Nat.lt_of_lt_of_le (by decide) hlev) mw_X10_token wi_X10_token wv_X10_token (blk_get0 KSm_b0) (by decide) rfl wl_RX10_121 mn_X10_token rfl (by decide) (Nat.le_of_ble_eq_true rfl) rfl dX10_settings_39 (fun v25 M26 _ => ?_)
    refine c_keep [0, 1, 2] (ls2 := [(0, .inr 0), (1, .inl (x1 ||| (1 <<< (x2 &&& 31)))), (2, .inl x2)]) rfl ?_
    exact jo_X10_settings_42 d hlev (x1 ||| (1 <<< (x2 &&& 31))) x2 K7 hK7 M26
def l_X10_settings_7 (K7 : Int32 × Int32 × Mem → Option (Int32 × Mem)) : Int32 × Int32 × Mem → Option (Int32 × Mem) := fun s => match s with
  | (x1, x2, M) => if x2 = (-1) then some (0, M) else if (p_X10_has x1 x2) = 0 then j_X10_settings_25 x1 x2 K7 M else bnd (f_X10_fails 3 M) (fun _ M28 => j_X10_settings_25 x1 x2 K7 M28)
set_option maxRecDepth 20000 in
set_option maxHeartbeats 2000000 in
theorem lo_X10_settings_7 (d : Nat) (hlev : 6 ≤ d) (s : Int32 × Int32 × Mem) : CorM KSm ST1 RX10 cX10_settings 4 none d 7 [(0, .inr 0), (1, .inl s.1), (2, .inl s.2.1)] [] s.2.2 (loopC (l_X10_settings_7) fuelL s) := by
  refine c_loop (L := fun s : Int32 × Int32 × Mem => [(0, .inr 0), (1, .inl s.1), (2, .inl s.2.1)]) (Mf := fun s : Int32 × Int32 × Mem => s.2.2) (fun K7 hK7 s => ?_) fuelL s
  obtain ⟨x1, x2, M⟩ := s
  show CorM KSm ST1 RX10 cX10_settings 4 none d 7 [(0, .inr 0), (1, .inl x1), (2, .inl x2)] [] M (l_X10_settings_7 K7 (x1, x2, M))
  unfold l_X10_settings_7
  refine c_iload_n (i := 2) dX10_settings_7 rfl rfl ?_
  refine c_iconst dX10_settings_8 (v := (-1)) rfl ?_
  refine c_icmp_eq (tgt := 124) dX10_settings_9 rfl (fun h3 => ?_) (fun h3 => ?_)
  · exact c_vret rfl dX10_settings_124
  · refine c_iload_n (i := 1) dX10_settings_12 rfl rfl ?_
    refine c_iload_n (i := 2) dX10_settings_13 rfl rfl ?_
    refine c_callSp (as := [.inl x1, .inl x2]) (rs := []) (ev_X10_has 0 (Nat.le_refl _) x1 x2 M) rfl (Nat.lt_of_lt_of_le (by decide) hlev) mw_X10_has ws_X10_has wl_RX10_169 mn_X10_has rfl (by decide) (Nat.le_of_ble_eq_true rfl) ⟨_, rfl⟩ dX10_settings_14 ?_
    refine c_if_eq (tgt := 25) dX10_settings_17 rfl (fun h4 => ?_) (fun h4 => ?_)
    · refine c_keep [0, 1, 2] (ls2 := [(0, .inr 0), (1, .inl x1), (2, .inl x2)]) rfl ?_
      exact jo_X10_settings_25 d hlev x1 x2 K7 hK7 M
    · refine c_aload_n (i := 0) dX10_settings_20 rfl rfl ?_
      refine c_iconst dX10_settings_21 (v := 3) rfl ?_
      refine c_callVv (as := [.inl 3]) (rs := []) (ev_X10_fails 1 (Nat.le_refl _) 3 M) rfl (Nat.lt_of_lt_of_le (by decide) hlev) mw_X10_fails wi_X10_fails wv_X10_fails (blk_get0 KSm_b0) (by decide) rfl wl_RX10_124 mn_X10_fails rfl (by decide) (Nat.le_of_ble_eq_true rfl) rfl dX10_settings_22 (fun v27 M28 _ => ?_)
      refine c_keep [0, 1, 2] (ls2 := [(0, .inr 0), (1, .inl x1), (2, .inl x2)]) rfl ?_
      exact jo_X10_settings_25 d hlev x1 x2 K7 hK7 M28
def f_X10_settings (M : Mem) : Option (Int32 × Mem) := bnd (f_X10_setting M) (fun v1 M2 => loopC (l_X10_settings_7) fuelL (0, v1, M2))
set_option maxRecDepth 20000 in
set_option maxHeartbeats 2000000 in
theorem ev_X10_settings (d : Nat) (hlev : 6 ≤ d) (M : Mem) : Ev KSm ST1 mdX10_settings d [.inr 0] M (f_X10_settings M) := by
  refine ev_of rfl (Nat.le_of_ble_eq_true rfl) ?_
  show CorM KSm ST1 RX10 cX10_settings 4 none d 0 [(0, .inr 0)] [] M (f_X10_settings M)
  unfold f_X10_settings
  refine c_iconst dX10_settings_0 (v := 0) rfl ?_
  refine c_istore_n (i := 1) dX10_settings_1 rfl (by decide) (ls2 := [(0, .inr 0), (1, .inl 0)]) rfl ?_
  refine c_aload_n (i := 0) dX10_settings_2 rfl rfl ?_
  refine c_callV (as := []) (rs := []) (ev_X10_setting 5 (Nat.le_refl _) M) rfl (Nat.lt_of_lt_of_le (by decide) hlev) mw_X10_setting wi_X10_setting wv_X10_setting (blk_get0 KSm_b0) (by decide) rfl wl_RX10_166 mn_X10_setting rfl (by decide) (Nat.le_of_ble_eq_true rfl) ⟨_, rfl⟩ dX10_settings_3 (fun v1 M2 _ => ?_)
  refine c_istore_n (i := 2) dX10_settings_6 rfl (by decide) (ls2 := [(0, .inr 0), (1, .inl 0), (2, .inl v1)]) rfl ?_
  refine c_keep [0, 1, 2] (ls2 := [(0, .inr 0), (1, .inl 0), (2, .inl v1)]) rfl ?_
  exact lo_X10_settings_7 d hlev (0, v1, M2)

abbrev mdX10_way : MD := (yX10_way, cX10_way, 2, (some .int))
theorem mw_X10_way : mdW mdX10_way := ⟨wm_X10_way, w0_RX10, by decide, by decide⟩
theorem mn_X10_way : (parseMethodDescriptor yX10_way.desc).map (fun d => d.parameters.length) = some 1 := by decide +kernel
def j_X10_way_97 (w0 : Int32) (M : Mem) : Option (Int32 × Mem) := some (w0, M)
set_option maxRecDepth 20000 in
set_option maxHeartbeats 2000000 in
theorem jo_X10_way_97 (d : Nat) (hlev : 5 ≤ d) (w0 : Int32) (M : Mem) : CorM KSm ST1 RX10 cX10_way 2 (some .int) d 97 [] [.inl w0] M (j_X10_way_97 w0 M) := by
  unfold j_X10_way_97
  exact c_iret rfl dX10_way_97
def j_X10_way_96 (M : Mem) : Option (Int32 × Mem) := j_X10_way_97 (-1) M
set_option maxRecDepth 20000 in
set_option maxHeartbeats 2000000 in
theorem jo_X10_way_96 (d : Nat) (hlev : 5 ≤ d) (M : Mem) : CorM KSm ST1 RX10 cX10_way 2 (some .int) d 96 [] [] M (j_X10_way_96 M) := by
  unfold j_X10_way_96
  refine c_iconst dX10_way_96 (v := (-1)) rfl ?_
  refine c_keep [] (ls2 := []) rfl ?_
  exact jo_X10_way_97 d hlev (-1) M
def f_X10_way (x1 : Int32) (M : Mem) : Option (Int32 × Mem) := bnd (f_X10_isWord 1040 M) (fun v1 M2 => if v1 = 0 then bnd (f_X10_isWord 1041 M2) (fun v4 M5 => if v4 = 0 then bnd (f_X10_isWord 1042 M5) (fun v7 M8 => if v7 = 0 then bnd (f_X10_isWord 1043 M8) (fun v10 M11 => if v10 = 0 then bnd (f_X10_isWord 1044 M11) (fun v13 M14 => if v13 = 0 then bnd (f_X10_isWord 1045 M14) (fun v16 M17 => if v16 = 0 then bnd (f_X10_isWord 1046 M17) (fun v19 M20 => if v19 = 0 then if x1 = 0 then j_X10_way_96 M20 else bnd (f_X10_isWord 1047 M20) (fun v23 M24 => some ((if v23 = 0 then (-1 : Int32) else (7 : Int32)), M24)) else some (6, M20)) else some (5, M17)) else some (4, M14)) else some (3, M11)) else some (2, M8)) else some (1, M5)) else some (0, M2))
set_option maxRecDepth 20000 in
set_option maxHeartbeats 2000000 in
theorem ev_X10_way (d : Nat) (hlev : 5 ≤ d) (x1 : Int32) (M : Mem) : Ev KSm ST1 mdX10_way d [.inr 0, .inl x1] M (f_X10_way x1 M) := by
  refine ev_of rfl (Nat.le_of_ble_eq_true rfl) ?_
  show CorM KSm ST1 RX10 cX10_way 2 (some .int) d 0 [(0, .inr 0), (1, .inl x1)] [] M (f_X10_way x1 M)
  unfold f_X10_way
  refine c_aload_n (i := 0) dX10_way_0 rfl rfl ?_
  refine c_ldcS (text := "add") (j := 1040) (List.mem_of_getElem? (i := 40) rfl) dX10_way_1 ?_
  refine c_callV (as := [.inr 1040]) (rs := []) (ev_X10_isWord 4 (Nat.le_refl _) 1040 (by decide) M) rfl (Nat.lt_of_lt_of_le (by decide) hlev) mw_X10_isWord wi_X10_isWord wv_X10_isWord (blk_get0 KSm_b0) (by decide) rfl wl_RX10_117 mn_X10_isWord rfl (by decide) (Nat.le_of_ble_eq_true rfl) ⟨_, rfl⟩ dX10_way_3 (fun v1 M2 _ => ?_)
  refine c_if_eq (tgt := 11) dX10_way_6 rfl (fun h3 => ?_) (fun h3 => ?_)
  · refine c_aload_n (i := 0) dX10_way_11 rfl rfl ?_
    refine c_ldcS (text := "mul") (j := 1041) (List.mem_of_getElem? (i := 41) rfl) dX10_way_12 ?_
    refine c_callV (as := [.inr 1041]) (rs := []) (ev_X10_isWord 4 (Nat.le_refl _) 1041 (by decide) M2) rfl (Nat.lt_of_lt_of_le (by decide) hlev) mw_X10_isWord wi_X10_isWord wv_X10_isWord (blk_get0 KSm_b0) (by decide) rfl wl_RX10_117 mn_X10_isWord rfl (by decide) (Nat.le_of_ble_eq_true rfl) ⟨_, rfl⟩ dX10_way_14 (fun v4 M5 _ => ?_)
    refine c_if_eq (tgt := 22) dX10_way_17 rfl (fun h6 => ?_) (fun h6 => ?_)
    · refine c_aload_n (i := 0) dX10_way_22 rfl rfl ?_
      refine c_ldcS (text := "min") (j := 1042) (List.mem_of_getElem? (i := 42) rfl) dX10_way_23 ?_
      refine c_callV (as := [.inr 1042]) (rs := []) (ev_X10_isWord 4 (Nat.le_refl _) 1042 (by decide) M5) rfl (Nat.lt_of_lt_of_le (by decide) hlev) mw_X10_isWord wi_X10_isWord wv_X10_isWord (blk_get0 KSm_b0) (by decide) rfl wl_RX10_117 mn_X10_isWord rfl (by decide) (Nat.le_of_ble_eq_true rfl) ⟨_, rfl⟩ dX10_way_25 (fun v7 M8 _ => ?_)
      refine c_if_eq (tgt := 33) dX10_way_28 rfl (fun h9 => ?_) (fun h9 => ?_)
      · refine c_aload_n (i := 0) dX10_way_33 rfl rfl ?_
        refine c_ldcS (text := "max") (j := 1043) (List.mem_of_getElem? (i := 43) rfl) dX10_way_34 ?_
        refine c_callV (as := [.inr 1043]) (rs := []) (ev_X10_isWord 4 (Nat.le_refl _) 1043 (by decide) M8) rfl (Nat.lt_of_lt_of_le (by decide) hlev) mw_X10_isWord wi_X10_isWord wv_X10_isWord (blk_get0 KSm_b0) (by decide) rfl wl_RX10_117 mn_X10_isWord rfl (by decide) (Nat.le_of_ble_eq_true rfl) ⟨_, rfl⟩ dX10_way_36 (fun v10 M11 _ => ?_)
        refine c_if_eq (tgt := 44) dX10_way_39 rfl (fun h12 => ?_) (fun h12 => ?_)
        · refine c_aload_n (i := 0) dX10_way_44 rfl rfl ?_
          refine c_ldcS (text := "and") (j := 1044) (List.mem_of_getElem? (i := 44) rfl) dX10_way_45 ?_
          refine c_callV (as := [.inr 1044]) (rs := []) (ev_X10_isWord 4 (Nat.le_refl _) 1044 (by decide) M11) rfl (Nat.lt_of_lt_of_le (by decide) hlev) mw_X10_isWord wi_X10_isWord wv_X10_isWord (blk_get0 KSm_b0) (by decide) rfl wl_RX10_117 mn_X10_isWord rfl (by decide) (Nat.le_of_ble_eq_true rfl) ⟨_, rfl⟩ dX10_way_47 (fun v13 M14 _ => ?_)
          refine c_if_eq (tgt := 55) dX10_way_50 rfl (fun h15 => ?_) (fun h15 => ?_)
          · refine c_aload_n (i := 0) dX10_way_55 rfl rfl ?_
            refine c_ldcS (text := "or") (j := 1045) (List.mem_of_getElem? (i := 45) rfl) dX10_way_56 ?_
            refine c_callV (as := [.inr 1045]) (rs := []) (ev_X10_isWord 4 (Nat.le_refl _) 1045 (by decide) M14) rfl (Nat.lt_of_lt_of_le (by decide) hlev) mw_X10_isWord wi_X10_isWord wv_X10_isWord (blk_get0 KSm_b0) (by decide) rfl wl_RX10_117 mn_X10_isWord rfl (by decide) (Nat.le_of_ble_eq_true rfl) ⟨_, rfl⟩ dX10_way_58 (fun v16 M17 _ => ?_)
            refine c_if_eq (tgt := 66) dX10_way_61 rfl (fun h18 => ?_) (fun h18 => ?_)
            · refine c_aload_n (i := 0) dX10_way_66 rfl rfl ?_
              refine c_ldcS (text := "xor") (j := 1046) (List.mem_of_getElem? (i := 46) rfl) dX10_way_67 ?_
              refine c_callV (as := [.inr 1046]) (rs := []) (ev_X10_isWord 4 (Nat.le_refl _) 1046 (by decide) M17) rfl (Nat.lt_of_lt_of_le (by decide) hlev) mw_X10_isWord wi_X10_isWord wv_X10_isWord (blk_get0 KSm_b0) (by decide) rfl wl_RX10_117 mn_X10_isWord rfl (by decide) (Nat.le_of_ble_eq_true rfl) ⟨_, rfl⟩ dX10_way_69 (fun v19 M20 _ => ?_)
              refine c_if_eq (tgt := 78) dX10_way_72 rfl (fun h21 => ?_) (fun h21 => ?_)
              · refine c_iload_n (i := 1) dX10_way_78 rfl rfl ?_
                refine c_if_eq (tgt := 96) dX10_way_79 rfl (fun h22 => ?_) (fun h22 => ?_)
                · refine c_keep [] (ls2 := []) rfl ?_
                  exact jo_X10_way_96 d hlev M20
                · refine c_aload_n (i := 0) dX10_way_82 rfl rfl ?_
                  refine c_ldcS (text := "sub") (j := 1047) (List.mem_of_getElem? (i := 47) rfl) dX10_way_83 ?_
                  refine c_callV (as := [.inr 1047]) (rs := []) (ev_X10_isWord 4 (Nat.le_refl _) 1047 (by decide) M20) rfl (Nat.lt_of_lt_of_le (by decide) hlev) mw_X10_isWord wi_X10_isWord wv_X10_isWord (blk_get0 KSm_b0) (by decide) rfl wl_RX10_117 mn_X10_isWord rfl (by decide) (Nat.le_of_ble_eq_true rfl) ⟨_, rfl⟩ dX10_way_85 (fun v23 M24 _ => ?_)
                  have J_z25 : ∀ z25 : Int32, CorM KSm ST1 RX10 cX10_way 2 (some .int) d 97 [] [.inl z25] M24 (some (z25, M24)) := by
                    intro z25
                    exact c_iret rfl dX10_way_97
                  refine c_val (b := v23 = 0) (v1 := (-1 : Int32)) (v2 := (7 : Int32)) (F := fun z25 => some (z25, M24)) (fun h26 => ?_) (fun h26 => ?_)
                  · refine c_T h26 (c_if_eq (tgt := 96) dX10_way_88 rfl (fun _ => ?_) (fun q => absurd h26 q))
                    refine c_iconst dX10_way_96 (v := (-1)) rfl ?_
                    refine c_keep [] (ls2 := []) rfl ?_
                    exact J_z25 (-1)
                  · refine c_Fl h26 (c_if_eq (tgt := 96) dX10_way_88 rfl (fun q => absurd q h26) (fun _ => ?_))
                    refine c_bipush dX10_way_91 (v := 7) rfl ?_
                    refine c_goto (tgt := 97) dX10_way_93 rfl ?_
                    refine c_keep [] (ls2 := []) rfl ?_
                    exact J_z25 7
              · refine c_bipush dX10_way_75 (v := 6) rfl ?_
                exact c_iret rfl dX10_way_77
            · refine c_iconst dX10_way_64 (v := 5) rfl ?_
              exact c_iret rfl dX10_way_65
          · refine c_iconst dX10_way_53 (v := 4) rfl ?_
            exact c_iret rfl dX10_way_54
        · refine c_iconst dX10_way_42 (v := 3) rfl ?_
          exact c_iret rfl dX10_way_43
      · refine c_iconst dX10_way_31 (v := 2) rfl ?_
        exact c_iret rfl dX10_way_32
    · refine c_iconst dX10_way_20 (v := 1) rfl ?_
      exact c_iret rfl dX10_way_21
  · refine c_iconst dX10_way_9 (v := 0) rfl ?_
    exact c_iret rfl dX10_way_10

abbrev mdX10_kind : MD := (yX10_kind, cX10_kind, 1, (some .int))
theorem mw_X10_kind : mdW mdX10_kind := ⟨wm_X10_kind, w0_RX10, by decide, by decide⟩
theorem mn_X10_kind : (parseMethodDescriptor yX10_kind.desc).map (fun d => d.parameters.length) = some 0 := by decide +kernel
def f_X10_kind (M : Mem) : Option (Int32 × Mem) := bnd (f_X10_isWord 1037 M) (fun v1 M2 => if v1 = 0 then bnd (f_X10_isWord 1038 M2) (fun v4 M5 => if v4 = 0 then bnd (f_X10_isWord 1039 M5) (fun v7 M8 => if v7 = 0 then bnd (f_X10_way 1 M8) (fun v10 M11 => if v10 = (-1) then bnd (f_X10_isWord 1031 M11) (fun v13 M14 => if v13 = 0 then bnd (f_X10_isWord 1048 M14) (fun v16 M17 => if v16 = 0 then bnd (f_X10_isWord 1049 M17) (fun v19 M20 => if v19 = 0 then bnd (f_X10_isWord 1050 M20) (fun v22 M23 => some ((if v22 = 0 then (-1 : Int32) else (7 : Int32)), M23)) else some (6, M20)) else some (5, M17)) else some (4, M14)) else some (3, M11)) else some (2, M8)) else some (1, M5)) else some (0, M2))
set_option maxRecDepth 20000 in
set_option maxHeartbeats 2000000 in
theorem ev_X10_kind (d : Nat) (hlev : 6 ≤ d) (M : Mem) : Ev KSm ST1 mdX10_kind d [.inr 0] M (f_X10_kind M) := by
  refine ev_of rfl (Nat.le_of_ble_eq_true rfl) ?_
  show CorM KSm ST1 RX10 cX10_kind 1 (some .int) d 0 [(0, .inr 0)] [] M (f_X10_kind M)
  unfold f_X10_kind
  refine c_aload_n (i := 0) dX10_kind_0 rfl rfl ?_
  refine c_ldcS (text := "load") (j := 1037) (List.mem_of_getElem? (i := 37) rfl) dX10_kind_1 ?_
  refine c_callV (as := [.inr 1037]) (rs := []) (ev_X10_isWord 4 (Nat.le_refl _) 1037 (by decide) M) rfl (Nat.lt_of_lt_of_le (by decide) hlev) mw_X10_isWord wi_X10_isWord wv_X10_isWord (blk_get0 KSm_b0) (by decide) rfl wl_RX10_117 mn_X10_isWord rfl (by decide) (Nat.le_of_ble_eq_true rfl) ⟨_, rfl⟩ dX10_kind_3 (fun v1 M2 _ => ?_)
  refine c_if_eq (tgt := 11) dX10_kind_6 rfl (fun h3 => ?_) (fun h3 => ?_)
  · refine c_aload_n (i := 0) dX10_kind_11 rfl rfl ?_
    refine c_ldcS (text := "store") (j := 1038) (List.mem_of_getElem? (i := 38) rfl) dX10_kind_12 ?_
    refine c_callV (as := [.inr 1038]) (rs := []) (ev_X10_isWord 4 (Nat.le_refl _) 1038 (by decide) M2) rfl (Nat.lt_of_lt_of_le (by decide) hlev) mw_X10_isWord wi_X10_isWord wv_X10_isWord (blk_get0 KSm_b0) (by decide) rfl wl_RX10_117 mn_X10_isWord rfl (by decide) (Nat.le_of_ble_eq_true rfl) ⟨_, rfl⟩ dX10_kind_14 (fun v4 M5 _ => ?_)
    refine c_if_eq (tgt := 22) dX10_kind_17 rfl (fun h6 => ?_) (fun h6 => ?_)
    · refine c_aload_n (i := 0) dX10_kind_22 rfl rfl ?_
      refine c_ldcS (text := "set") (j := 1039) (List.mem_of_getElem? (i := 39) rfl) dX10_kind_23 ?_
      refine c_callV (as := [.inr 1039]) (rs := []) (ev_X10_isWord 4 (Nat.le_refl _) 1039 (by decide) M5) rfl (Nat.lt_of_lt_of_le (by decide) hlev) mw_X10_isWord wi_X10_isWord wv_X10_isWord (blk_get0 KSm_b0) (by decide) rfl wl_RX10_117 mn_X10_isWord rfl (by decide) (Nat.le_of_ble_eq_true rfl) ⟨_, rfl⟩ dX10_kind_25 (fun v7 M8 _ => ?_)
      refine c_if_eq (tgt := 33) dX10_kind_28 rfl (fun h9 => ?_) (fun h9 => ?_)
      · refine c_aload_n (i := 0) dX10_kind_33 rfl rfl ?_
        refine c_iconst dX10_kind_34 (v := 1) rfl ?_
        refine c_callV (as := [.inl 1]) (rs := []) (ev_X10_way 5 (Nat.le_refl _) 1 M8) rfl (Nat.lt_of_lt_of_le (by decide) hlev) mw_X10_way wi_X10_way wv_X10_way (blk_get0 KSm_b0) (by decide) rfl wl_RX10_195 mn_X10_way rfl (by decide) (Nat.le_of_ble_eq_true rfl) ⟨_, rfl⟩ dX10_kind_35 (fun v10 M11 _ => ?_)
        refine c_iconst dX10_kind_38 (v := (-1)) rfl ?_
        refine c_icmp_eq (tgt := 44) dX10_kind_39 rfl (fun h12 => ?_) (fun h12 => ?_)
        · refine c_aload_n (i := 0) dX10_kind_44 rfl rfl ?_
          refine c_ldcS (text := "reduce") (j := 1031) (List.mem_of_getElem? (i := 31) rfl) dX10_kind_45 ?_
          refine c_callV (as := [.inr 1031]) (rs := []) (ev_X10_isWord 4 (Nat.le_refl _) 1031 (by decide) M11) rfl (Nat.lt_of_lt_of_le (by decide) hlev) mw_X10_isWord wi_X10_isWord wv_X10_isWord (blk_get0 KSm_b0) (by decide) rfl wl_RX10_117 mn_X10_isWord rfl (by decide) (Nat.le_of_ble_eq_true rfl) ⟨_, rfl⟩ dX10_kind_47 (fun v13 M14 _ => ?_)
          refine c_if_eq (tgt := 55) dX10_kind_50 rfl (fun h15 => ?_) (fun h15 => ?_)
          · refine c_aload_n (i := 0) dX10_kind_55 rfl rfl ?_
            refine c_ldcS (text := "lanes") (j := 1048) (List.mem_of_getElem? (i := 48) rfl) dX10_kind_56 ?_
            refine c_callV (as := [.inr 1048]) (rs := []) (ev_X10_isWord 4 (Nat.le_refl _) 1048 (by decide) M14) rfl (Nat.lt_of_lt_of_le (by decide) hlev) mw_X10_isWord wi_X10_isWord wv_X10_isWord (blk_get0 KSm_b0) (by decide) rfl wl_RX10_117 mn_X10_isWord rfl (by decide) (Nat.le_of_ble_eq_true rfl) ⟨_, rfl⟩ dX10_kind_58 (fun v16 M17 _ => ?_)
            refine c_if_eq (tgt := 66) dX10_kind_61 rfl (fun h18 => ?_) (fun h18 => ?_)
            · refine c_aload_n (i := 0) dX10_kind_66 rfl rfl ?_
              refine c_ldcS (text := "broadcast") (j := 1049) (List.mem_of_getElem? (i := 49) rfl) dX10_kind_67 ?_
              refine c_callV (as := [.inr 1049]) (rs := []) (ev_X10_isWord 4 (Nat.le_refl _) 1049 (by decide) M17) rfl (Nat.lt_of_lt_of_le (by decide) hlev) mw_X10_isWord wi_X10_isWord wv_X10_isWord (blk_get0 KSm_b0) (by decide) rfl wl_RX10_117 mn_X10_isWord rfl (by decide) (Nat.le_of_ble_eq_true rfl) ⟨_, rfl⟩ dX10_kind_69 (fun v19 M20 _ => ?_)
              refine c_if_eq (tgt := 78) dX10_kind_72 rfl (fun h21 => ?_) (fun h21 => ?_)
              · refine c_aload_n (i := 0) dX10_kind_78 rfl rfl ?_
                refine c_ldcS (text := "barrier") (j := 1050) (List.mem_of_getElem? (i := 50) rfl) dX10_kind_79 ?_
                refine c_callV (as := [.inr 1050]) (rs := []) (ev_X10_isWord 4 (Nat.le_refl _) 1050 (by decide) M20) rfl (Nat.lt_of_lt_of_le (by decide) hlev) mw_X10_isWord wi_X10_isWord wv_X10_isWord (blk_get0 KSm_b0) (by decide) rfl wl_RX10_117 mn_X10_isWord rfl (by decide) (Nat.le_of_ble_eq_true rfl) ⟨_, rfl⟩ dX10_kind_81 (fun v22 M23 _ => ?_)
                have J_z24 : ∀ z24 : Int32, CorM KSm ST1 RX10 cX10_kind 1 (some .int) d 93 [] [.inl z24] M23 (some (z24, M23)) := by
                  intro z24
                  exact c_iret rfl dX10_kind_93
                refine c_val (b := v22 = 0) (v1 := (-1 : Int32)) (v2 := (7 : Int32)) (F := fun z24 => some (z24, M23)) (fun h25 => ?_) (fun h25 => ?_)
                · refine c_T h25 (c_if_eq (tgt := 92) dX10_kind_84 rfl (fun _ => ?_) (fun q => absurd h25 q))
                  refine c_iconst dX10_kind_92 (v := (-1)) rfl ?_
                  refine c_keep [] (ls2 := []) rfl ?_
                  exact J_z24 (-1)
                · refine c_Fl h25 (c_if_eq (tgt := 92) dX10_kind_84 rfl (fun q => absurd q h25) (fun _ => ?_))
                  refine c_bipush dX10_kind_87 (v := 7) rfl ?_
                  refine c_goto (tgt := 93) dX10_kind_89 rfl ?_
                  refine c_keep [] (ls2 := []) rfl ?_
                  exact J_z24 7
              · refine c_bipush dX10_kind_75 (v := 6) rfl ?_
                exact c_iret rfl dX10_kind_77
            · refine c_iconst dX10_kind_64 (v := 5) rfl ?_
              exact c_iret rfl dX10_kind_65
          · refine c_iconst dX10_kind_53 (v := 4) rfl ?_
            exact c_iret rfl dX10_kind_54
        · refine c_iconst dX10_kind_42 (v := 3) rfl ?_
          exact c_iret rfl dX10_kind_43
      · refine c_iconst dX10_kind_31 (v := 2) rfl ?_
        exact c_iret rfl dX10_kind_32
    · refine c_iconst dX10_kind_20 (v := 1) rfl ?_
      exact c_iret rfl dX10_kind_21
  · refine c_iconst dX10_kind_9 (v := 0) rfl ?_
    exact c_iret rfl dX10_kind_10

abbrev mdX10_register : MD := (yX10_register, cX10_register, 1, (some .int))
theorem mw_X10_register : mdW mdX10_register := ⟨wm_X10_register, w0_RX10, by decide, by decide⟩
theorem mn_X10_register : (parseMethodDescriptor yX10_register.desc).map (fun d => d.parameters.length) = some 0 := by decide +kernel
def f_X10_register (M : Mem) : Option (Int32 × Mem) := bnd (f_X10_figure 0 3 M) (fun v1 M2 => some (v1, M2))
set_option maxRecDepth 20000 in
set_option maxHeartbeats 2000000 in
theorem ev_X10_register (d : Nat) (hlev : 3 ≤ d) (M : Mem) : Ev KSm ST1 mdX10_register d [.inr 0] M (f_X10_register M) := by
  refine ev_of rfl (Nat.le_of_ble_eq_true rfl) ?_
  show CorM KSm ST1 RX10 cX10_register 1 (some .int) d 0 [(0, .inr 0)] [] M (f_X10_register M)
  unfold f_X10_register
  refine c_aload_n (i := 0) dX10_register_0 rfl rfl ?_
  refine c_iconst dX10_register_1 (v := 0) rfl ?_
  refine c_iconst dX10_register_2 (v := 3) rfl ?_
  refine c_callV (as := [.inl 0, .inl 3]) (rs := []) (ev_X10_figure 2 (Nat.le_refl _) 0 3 M) rfl (Nat.lt_of_lt_of_le (by decide) hlev) mw_X10_figure wi_X10_figure wv_X10_figure (blk_get0 KSm_b0) (by decide) rfl wl_RX10_137 mn_X10_figure rfl (by decide) (Nat.le_of_ble_eq_true rfl) ⟨_, rfl⟩ dX10_register_3 (fun v1 M2 _ => ?_)
  exact c_iret rfl dX10_register_6
