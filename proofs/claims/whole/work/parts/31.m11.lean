abbrev mdX10_append : MD := (yX10_append, cX10_append, 8, (some .int))
theorem mw_X10_append : mdW mdX10_append := ⟨wm_X10_append, w0_RX10, by decide, by decide⟩
theorem mn_X10_append : (parseMethodDescriptor yX10_append.desc).map (fun d => d.parameters.length) = some 5 := by decide +kernel
def l_X10_append_36 (x1 : Int32) (x2 : Int32) (x3 : Int32) (x4 : Int32) (x5 : Int32) (K36 : Int32 × Mem → Option (Int32 × Mem)) : Int32 × Mem → Option (Int32 × Mem) := fun s => match s with
  | (x6, M) => if 20 ≤ x6 then wrt (up M 0 8 ((M 0 8) + 20)) (fun M7 => some (M7 0 8, M7)) else if inb ((M 0 8) + x6) 900 then wrt (up M 7 (ix ((M 0 8) + x6)) (((if 4 ≤ x6 then if 8 ≤ x6 then if 12 ≤ x6 then if 16 ≤ x6 then x5 else x4 else x3 else x2 else x1) >>> ((24 - (8 * (jrem x6 4))) &&& 31)) &&& 255)) (fun M10 => K36 (x6 + 1, M10)) else none
set_option maxRecDepth 20000 in
set_option maxHeartbeats 2000000 in
theorem lo_X10_append_36 (d : Nat) (hlev : 1 ≤ d) (x1 : Int32) (x2 : Int32) (x3 : Int32) (x4 : Int32) (x5 : Int32) (s : Int32 × Mem) : CorM KSm ST1 RX10 cX10_append 8 (some .int) d 36 [(0, .inr 0), (1, .inl x1), (2, .inl x2), (3, .inl x3), (4, .inl x4), (5, .inl x5), (6, .inl s.1)] [] s.2 (loopC (l_X10_append_36 x1 x2 x3 x4 x5) fuelL s) := by
  refine c_loop (L := fun s : Int32 × Mem => [(0, .inr 0), (1, .inl x1), (2, .inl x2), (3, .inl x3), (4, .inl x4), (5, .inl x5), (6, .inl s.1)]) (Mf := fun s : Int32 × Mem => s.2) (fun K36 hK36 s => ?_) fuelL s
  obtain ⟨x6, M⟩ := s
  show CorM KSm ST1 RX10 cX10_append 8 (some .int) d 36 [(0, .inr 0), (1, .inl x1), (2, .inl x2), (3, .inl x3), (4, .inl x4), (5, .inl x5), (6, .inl x6)] [] M (l_X10_append_36 x1 x2 x3 x4 x5 K36 (x6, M))
  unfold l_X10_append_36
  refine c_iload dX10_append_36 rfl ?_
  refine c_bipush dX10_append_38 (v := 20) rfl ?_
  refine c_icmp_ge (tgt := 126) dX10_append_40 rfl (fun h6 => ?_) (fun h6 => ?_)
  · refine c_aload_n (i := 0) dX10_append_126 rfl rfl ?_
    refine c_dup dX10_append_127 ?_
    refine gf_RX10_63 (blk_get0 KSm_b0) dX10_append_128 ?_
    refine c_bipush dX10_append_131 (v := 20) rfl ?_
    refine c_iadd dX10_append_133 ?_
    refine pf_RX10_63 (blk_get0 KSm_b0) dX10_append_134 ?_
    refine c_wrt (fun M7 => ?_)
    refine c_aload_n (i := 0) dX10_append_137 rfl rfl ?_
    refine gf_RX10_63 (blk_get0 KSm_b0) dX10_append_138 ?_
    exact c_iret rfl dX10_append_141
  · refine c_iload dX10_append_43 rfl ?_
    refine c_iconst dX10_append_45 (v := 4) rfl ?_
    have J_z8 : ∀ z8 : Int32, CorM KSm ST1 RX10 cX10_append 8 (some .int) d 89 [(0, .inr 0), (1, .inl x1), (2, .inl x2), (3, .inl x3), (4, .inl x4), (5, .inl x5), (6, .inl x6)] [.inl z8] M (if inb ((M 0 8) + x6) 900 then wrt (up M 7 (ix ((M 0 8) + x6)) ((z8 >>> ((24 - (8 * (jrem x6 4))) &&& 31)) &&& 255)) (fun M10 => K36 (x6 + 1, M10)) else none) := by
      intro z8
      refine c_istore dX10_append_89 (by decide) (ls2 := [(0, .inr 0), (1, .inl x1), (2, .inl x2), (3, .inl x3), (4, .inl x4), (5, .inl x5), (6, .inl x6), (7, .inl z8)]) rfl ?_
      refine c_aload_n (i := 0) dX10_append_91 rfl rfl ?_
      refine gf_RX10_29 (blk_get0 KSm_b0) dX10_append_92 ?_
      refine c_aload_n (i := 0) dX10_append_95 rfl rfl ?_
      refine gf_RX10_63 (blk_get0 KSm_b0) dX10_append_96 ?_
      refine c_iload dX10_append_99 rfl ?_
      refine c_iadd dX10_append_101 ?_
      refine c_iload dX10_append_102 rfl ?_
      refine c_bipush dX10_append_104 (v := 24) rfl ?_
      refine c_bipush dX10_append_106 (v := 8) rfl ?_
      refine c_iload dX10_append_108 rfl ?_
      refine c_iconst dX10_append_110 (v := 4) rfl ?_
      refine c_irem dX10_append_111 (by decide) ?_
      refine c_imul dX10_append_112 ?_
      refine c_isub dX10_append_113 ?_
      refine c_ishr dX10_append_114 ?_
      refine c_sipush dX10_append_115 (v := 255) rfl ?_
      refine c_iand dX10_append_118 ?_
      refine c_chk (fun h9 => ?_)
      refine c_iast (blk_get0 (blk_sub (C := [(20, 900)]) (i := 7) KSm_b0 rfl)) h9 dX10_append_119 ?_
      refine c_wrt (fun M10 => ?_)
      refine c_iinc dX10_append_120 rfl (v := 1) rfl (by decide) (ls2 := [(0, .inr 0), (1, .inl x1), (2, .inl x2), (3, .inl x3), (4, .inl x4), (5, .inl x5), (6, .inl (x6 + 1)), (7, .inl z8)]) rfl ?_
      refine c_goto (tgt := 36) dX10_append_123 rfl ?_
      refine c_keep [0, 1, 2, 3, 4, 5, 6] (ls2 := [(0, .inr 0), (1, .inl x1), (2, .inl x2), (3, .inl x3), (4, .inl x4), (5, .inl x5), (6, .inl (x6 + 1))]) rfl ?_
      exact hK36 (x6 + 1, M10)
    refine c_val (b := 4 ≤ x6) (v1 := if 8 ≤ x6 then if 12 ≤ x6 then if 16 ≤ x6 then x5 else x4 else x3 else x2) (v2 := x1) (F := fun z8 => if inb ((M 0 8) + x6) 900 then wrt (up M 7 (ix ((M 0 8) + x6)) ((z8 >>> ((24 - (8 * (jrem x6 4))) &&& 31)) &&& 255)) (fun M10 => K36 (x6 + 1, M10)) else none) (fun h11 => ?_) (fun h11 => ?_)
    · refine c_T h11 (c_icmp_ge (tgt := 53) dX10_append_46 rfl (fun _ => ?_) (fun q => absurd h11 q))
      refine c_iload dX10_append_53 rfl ?_
      refine c_bipush dX10_append_55 (v := 8) rfl ?_
      refine c_val (b := 8 ≤ x6) (v1 := if 12 ≤ x6 then if 16 ≤ x6 then x5 else x4 else x3) (v2 := x2) (F := fun z8 => if inb ((M 0 8) + x6) 900 then wrt (up M 7 (ix ((M 0 8) + x6)) ((z8 >>> ((24 - (8 * (jrem x6 4))) &&& 31)) &&& 255)) (fun M10 => K36 (x6 + 1, M10)) else none) (fun h12 => ?_) (fun h12 => ?_)
      · refine c_T h12 (c_icmp_ge (tgt := 64) dX10_append_57 rfl (fun _ => ?_) (fun q => absurd h12 q))
        refine c_iload dX10_append_64 rfl ?_
        refine c_bipush dX10_append_66 (v := 12) rfl ?_
        refine c_val (b := 12 ≤ x6) (v1 := if 16 ≤ x6 then x5 else x4) (v2 := x3) (F := fun z8 => if inb ((M 0 8) + x6) 900 then wrt (up M 7 (ix ((M 0 8) + x6)) ((z8 >>> ((24 - (8 * (jrem x6 4))) &&& 31)) &&& 255)) (fun M10 => K36 (x6 + 1, M10)) else none) (fun h13 => ?_) (fun h13 => ?_)
        · refine c_T h13 (c_icmp_ge (tgt := 75) dX10_append_68 rfl (fun _ => ?_) (fun q => absurd h13 q))
          refine c_iload dX10_append_75 rfl ?_
          refine c_bipush dX10_append_77 (v := 16) rfl ?_
          refine c_val (b := 16 ≤ x6) (v1 := x5) (v2 := x4) (F := fun z8 => if inb ((M 0 8) + x6) 900 then wrt (up M 7 (ix ((M 0 8) + x6)) ((z8 >>> ((24 - (8 * (jrem x6 4))) &&& 31)) &&& 255)) (fun M10 => K36 (x6 + 1, M10)) else none) (fun h14 => ?_) (fun h14 => ?_)
          · refine c_T h14 (c_icmp_ge (tgt := 87) dX10_append_79 rfl (fun _ => ?_) (fun q => absurd h14 q))
            refine c_iload dX10_append_87 rfl ?_
            refine c_keep [0, 1, 2, 3, 4, 5, 6] (ls2 := [(0, .inr 0), (1, .inl x1), (2, .inl x2), (3, .inl x3), (4, .inl x4), (5, .inl x5), (6, .inl x6)]) rfl ?_
            exact J_z8 x5
          · refine c_Fl h14 (c_icmp_ge (tgt := 87) dX10_append_79 rfl (fun q => absurd q h14) (fun _ => ?_))
            refine c_iload dX10_append_82 rfl ?_
            refine c_goto (tgt := 89) dX10_append_84 rfl ?_
            refine c_keep [0, 1, 2, 3, 4, 5, 6] (ls2 := [(0, .inr 0), (1, .inl x1), (2, .inl x2), (3, .inl x3), (4, .inl x4), (5, .inl x5), (6, .inl x6)]) rfl ?_
            exact J_z8 x4
        · refine c_Fl h13 (c_icmp_ge (tgt := 75) dX10_append_68 rfl (fun q => absurd q h13) (fun _ => ?_))
          refine c_iload_n (i := 3) dX10_append_71 rfl rfl ?_
          refine c_goto (tgt := 89) dX10_append_72 rfl ?_
          refine c_keep [0, 1, 2, 3, 4, 5, 6] (ls2 := [(0, .inr 0), (1, .inl x1), (2, .inl x2), (3, .inl x3), (4, .inl x4), (5, .inl x5), (6, .inl x6)]) rfl ?_
          exact J_z8 x3
      · refine c_Fl h12 (c_icmp_ge (tgt := 64) dX10_append_57 rfl (fun q => absurd q h12) (fun _ => ?_))
        refine c_iload_n (i := 2) dX10_append_60 rfl rfl ?_
        refine c_goto (tgt := 89) dX10_append_61 rfl ?_
        refine c_keep [0, 1, 2, 3, 4, 5, 6] (ls2 := [(0, .inr 0), (1, .inl x1), (2, .inl x2), (3, .inl x3), (4, .inl x4), (5, .inl x5), (6, .inl x6)]) rfl ?_
        exact J_z8 x2
    · refine c_Fl h11 (c_icmp_ge (tgt := 53) dX10_append_46 rfl (fun q => absurd q h11) (fun _ => ?_))
      refine c_iload_n (i := 1) dX10_append_49 rfl rfl ?_
      refine c_goto (tgt := 89) dX10_append_50 rfl ?_
      refine c_keep [0, 1, 2, 3, 4, 5, 6] (ls2 := [(0, .inr 0), (1, .inl x1), (2, .inl x2), (3, .inl x3), (4, .inl x4), (5, .inl x5), (6, .inl x6)]) rfl ?_
      exact J_z8 x1
def f_X10_append (x1 : Int32) (x2 : Int32) (x3 : Int32) (x4 : Int32) (x5 : Int32) (M : Mem) : Option (Int32 × Mem) := wrt (up M 0 0 0) (fun M1 => bnd (f_X10_may (if 900 < ((M1 0 8) + 20) then (0 : Int32) else (1 : Int32)) 1 M1) (fun v3 M4 => if ¬ v3 = 0 then loopC (l_X10_append_36 x1 x2 x3 x4 x5) fuelL (0, M4) else some (0, M4)))
set_option maxRecDepth 20000 in
set_option maxHeartbeats 2000000 in
theorem ev_X10_append (d : Nat) (hlev : 1 ≤ d) (x1 : Int32) (x2 : Int32) (x3 : Int32) (x4 : Int32) (x5 : Int32) (M : Mem) : Ev KSm ST1 mdX10_append d [.inr 0, .inl x1, .inl x2, .inl x3, .inl x4, .inl x5] M (f_X10_append x1 x2 x3 x4 x5 M) := by
  refine ev_of rfl (Nat.le_of_ble_eq_true rfl) ?_
  show CorM KSm ST1 RX10 cX10_append 8 (some .int) d 0 [(0, .inr 0), (1, .inl x1), (2, .inl x2), (3, .inl x3), (4, .inl x4), (5, .inl x5)] [] M (f_X10_append x1 x2 x3 x4 x5 M)
  unfold f_X10_append
  refine c_aload_n (i := 0) dX10_append_0 rfl rfl ?_
  refine c_iconst dX10_append_1 (v := 0) rfl ?_
  refine pf_RX10_60 (blk_get0 KSm_b0) dX10_append_2 ?_
  refine c_wrt (fun M1 => ?_)
  refine c_aload_n (i := 0) dX10_append_5 rfl rfl ?_
  refine c_aload_n (i := 0) dX10_append_6 rfl rfl ?_
  refine gf_RX10_63 (blk_get0 KSm_b0) dX10_append_7 ?_
  refine c_bipush dX10_append_10 (v := 20) rfl ?_
  refine c_iadd dX10_append_12 ?_
  refine c_sipush dX10_append_13 (v := 900) rfl ?_
  have J_z2 : ∀ z2 : Int32, isB z2 → CorM KSm ST1 RX10 cX10_append 8 (some .int) d 24 [(0, .inr 0), (1, .inl x1), (2, .inl x2), (3, .inl x3), (4, .inl x4), (5, .inl x5)] [.inl z2, .inr 0] M1 (bnd (f_X10_may z2 1 M1) (fun v3 M4 => if ¬ v3 = 0 then loopC (l_X10_append_36 x1 x2 x3 x4 x5) fuelL (0, M4) else some (0, M4))) := by
    intro z2 h_z2
    refine c_iconst dX10_append_24 (v := 1) rfl ?_
    refine c_callV (as := [.inl z2, .inl 1]) (rs := []) (ev_X10_may 0 (Nat.le_refl _) z2 1 M1) rfl (Nat.lt_of_lt_of_le (by decide) hlev) mw_X10_may wi_X10_may wv_X10_may (blk_get0 KSm_b0) (by decide) rfl wl_RX10_66 mn_X10_may rfl (by decide) (Nat.le_of_ble_eq_true rfl) ⟨_, rfl⟩ dX10_append_25 (fun v3 M4 _ => ?_)
    refine c_if_ne (tgt := 33) dX10_append_28 rfl (fun h5 => ?_) (fun h5 => ?_)
    · refine c_iconst dX10_append_33 (v := 0) rfl ?_
      refine c_istore dX10_append_34 (by decide) (ls2 := [(0, .inr 0), (1, .inl x1), (2, .inl x2), (3, .inl x3), (4, .inl x4), (5, .inl x5), (6, .inl 0)]) rfl ?_
      refine c_keep [0, 1, 2, 3, 4, 5, 6] (ls2 := [(0, .inr 0), (1, .inl x1), (2, .inl x2), (3, .inl x3), (4, .inl x4), (5, .inl x5), (6, .inl 0)]) rfl ?_
      exact lo_X10_append_36 d hlev x1 x2 x3 x4 x5 (0, M4)
    · refine c_iconst dX10_append_31 (v := 0) rfl ?_
      exact c_iret rfl dX10_append_32
  refine c_val (b := 900 < ((M1 0 8) + 20)) (v1 := (0 : Int32)) (v2 := (1 : Int32)) (F := fun z2 => bnd (f_X10_may z2 1 M1) (fun v3 M4 => if ¬ v3 = 0 then loopC (l_X10_append_36 x1 x2 x3 x4 x5) fuelL (0, M4) else some (0, M4))) (fun h15 => ?_) (fun h15 => ?_)
  · refine c_T h15 (c_icmp_gt (tgt := 23) dX10_append_16 rfl (fun _ => ?_) (fun q => absurd h15 q))
    refine c_iconst dX10_append_23 (v := 0) rfl ?_
    refine c_keep [0, 1, 2, 3, 4, 5] (ls2 := [(0, .inr 0), (1, .inl x1), (2, .inl x2), (3, .inl x3), (4, .inl x4), (5, .inl x5)]) rfl ?_
    exact J_z2 0 (Or.inl rfl)
  · refine c_Fl h15 (c_icmp_gt (tgt := 23) dX10_append_16 rfl (fun q => absurd q h15) (fun _ => ?_))
    refine c_iconst dX10_append_19 (v := 1) rfl ?_
    refine c_goto (tgt := 24) dX10_append_20 rfl ?_
    refine c_keep [0, 1, 2, 3, 4, 5] (ls2 := [(0, .inr 0), (1, .inl x1), (2, .inl x2), (3, .inl x3), (4, .inl x4), (5, .inl x5)]) rfl ?_
    exact J_z2 1 (Or.inr rfl)

abbrev mdX10_truncate : MD := (yX10_truncate, cX10_truncate, 2, (some .int))
theorem mw_X10_truncate : mdW mdX10_truncate := ⟨wm_X10_truncate, w0_RX10, by decide, by decide⟩
theorem mn_X10_truncate : (parseMethodDescriptor yX10_truncate.desc).map (fun d => d.parameters.length) = some 1 := by decide +kernel
def f_X10_truncate (x1 : Int32) (M : Mem) : Option (Int32 × Mem) := wrt (up M 0 0 0) (fun M1 => bnd (f_X10_may (p_X10_isIn x1 0 (M1 0 8)) 1 M1) (fun v2 M3 => if ¬ v2 = 0 then wrt (up M3 0 8 x1) (fun M5 => some (x1, M5)) else some (0, M3)))
set_option maxRecDepth 20000 in
set_option maxHeartbeats 2000000 in
theorem ev_X10_truncate (d : Nat) (hlev : 1 ≤ d) (x1 : Int32) (M : Mem) : Ev KSm ST1 mdX10_truncate d [.inr 0, .inl x1] M (f_X10_truncate x1 M) := by
  refine ev_of rfl (Nat.le_of_ble_eq_true rfl) ?_
  show CorM KSm ST1 RX10 cX10_truncate 2 (some .int) d 0 [(0, .inr 0), (1, .inl x1)] [] M (f_X10_truncate x1 M)
  unfold f_X10_truncate
  refine c_aload_n (i := 0) dX10_truncate_0 rfl rfl ?_
  refine c_iconst dX10_truncate_1 (v := 0) rfl ?_
  refine pf_RX10_60 (blk_get0 KSm_b0) dX10_truncate_2 ?_
  refine c_wrt (fun M1 => ?_)
  refine c_aload_n (i := 0) dX10_truncate_5 rfl rfl ?_
  refine c_iload_n (i := 1) dX10_truncate_6 rfl rfl ?_
  refine c_iconst dX10_truncate_7 (v := 0) rfl ?_
  refine c_aload_n (i := 0) dX10_truncate_8 rfl rfl ?_
  refine gf_RX10_63 (blk_get0 KSm_b0) dX10_truncate_9 ?_
  refine c_callSp (as := [.inl x1, .inl 0, .inl (M1 0 8)]) (rs := [.inr 0]) (ev_X10_isIn 0 (Nat.le_refl _) x1 0 (M1 0 8) M1) rfl (Nat.lt_of_lt_of_le (by decide) hlev) mw_X10_isIn ws_X10_isIn wl_RX10_70 mn_X10_isIn rfl (by decide) (Nat.le_of_ble_eq_true rfl) ⟨_, rfl⟩ dX10_truncate_12 ?_
  refine c_iconst dX10_truncate_15 (v := 1) rfl ?_
  refine c_callV (as := [.inl (p_X10_isIn x1 0 (M1 0 8)), .inl 1]) (rs := []) (ev_X10_may 0 (Nat.le_refl _) (p_X10_isIn x1 0 (M1 0 8)) 1 M1) rfl (Nat.lt_of_lt_of_le (by decide) hlev) mw_X10_may wi_X10_may wv_X10_may (blk_get0 KSm_b0) (by decide) rfl wl_RX10_66 mn_X10_may rfl (by decide) (Nat.le_of_ble_eq_true rfl) ⟨_, rfl⟩ dX10_truncate_16 (fun v2 M3 _ => ?_)
  refine c_if_ne (tgt := 24) dX10_truncate_19 rfl (fun h4 => ?_) (fun h4 => ?_)
  · refine c_aload_n (i := 0) dX10_truncate_24 rfl rfl ?_
    refine c_iload_n (i := 1) dX10_truncate_25 rfl rfl ?_
    refine pf_RX10_63 (blk_get0 KSm_b0) dX10_truncate_26 ?_
    refine c_wrt (fun M5 => ?_)
    refine c_iload_n (i := 1) dX10_truncate_29 rfl rfl ?_
    exact c_iret rfl dX10_truncate_30
  · refine c_iconst dX10_truncate_22 (v := 0) rfl ?_
    exact c_iret rfl dX10_truncate_23

abbrev mdX10_at : MD := (yX10_at, cX10_at, 2, (some .int))
theorem mw_X10_at : mdW mdX10_at := ⟨wm_X10_at, w0_RX10, by decide, by decide⟩
theorem mn_X10_at : (parseMethodDescriptor yX10_at.desc).map (fun d => d.parameters.length) = some 1 := by decide +kernel
def j_X10_at_18 (w0 : Int32) (M : Mem) : Option (Int32 × Mem) := some (w0, M)
set_option maxRecDepth 20000 in
set_option maxHeartbeats 2000000 in
theorem jo_X10_at_18 (d : Nat) (hlev : 0 ≤ d) (w0 : Int32) (M : Mem) : CorM KSm ST1 RX10 cX10_at 2 (some .int) d 18 [] [.inl w0] M (j_X10_at_18 w0 M) := by
  unfold j_X10_at_18
  exact c_iret rfl dX10_at_18
def f_X10_at (x1 : Int32) (M : Mem) : Option (Int32 × Mem) := if (M 0 9) ≤ x1 then j_X10_at_18 (-1) M else if inb x1 900 then j_X10_at_18 (M 7 (ix x1)) M else none
set_option maxRecDepth 20000 in
set_option maxHeartbeats 2000000 in
theorem ev_X10_at (d : Nat) (hlev : 0 ≤ d) (x1 : Int32) (M : Mem) : Ev KSm ST1 mdX10_at d [.inr 0, .inl x1] M (f_X10_at x1 M) := by
  refine ev_of rfl (Nat.le_of_ble_eq_true rfl) ?_
  show CorM KSm ST1 RX10 cX10_at 2 (some .int) d 0 [(0, .inr 0), (1, .inl x1)] [] M (f_X10_at x1 M)
  unfold f_X10_at
  refine c_iload_n (i := 1) dX10_at_0 rfl rfl ?_
  refine c_aload_n (i := 0) dX10_at_1 rfl rfl ?_
  refine gf_RX10_74 (blk_get0 KSm_b0) dX10_at_2 ?_
  refine c_icmp_ge (tgt := 17) dX10_at_5 rfl (fun h1 => ?_) (fun h1 => ?_)
  · refine c_iconst dX10_at_17 (v := (-1)) rfl ?_
    refine c_keep [] (ls2 := []) rfl ?_
    exact jo_X10_at_18 d hlev (-1) M
  · refine c_aload_n (i := 0) dX10_at_8 rfl rfl ?_
    refine gf_RX10_29 (blk_get0 KSm_b0) dX10_at_9 ?_
    refine c_iload_n (i := 1) dX10_at_12 rfl rfl ?_
    refine c_chk (fun h2 => ?_)
    refine c_iald (blk_get0 (blk_sub (C := [(20, 900)]) (i := 7) KSm_b0 rfl)) h2 dX10_at_13 ?_
    refine c_goto (tgt := 18) dX10_at_14 rfl ?_
    refine c_keep [] (ls2 := []) rfl ?_
    exact jo_X10_at_18 d hlev (M 7 (ix x1)) M

abbrev mdX10_isLetter : MD := (yX10_isLetter, cX10_isLetter, 1, (some .boolean))
theorem mw_X10_isLetter : mdW mdX10_isLetter := ⟨wm_X10_isLetter, w0_RX10, by decide, by decide⟩
theorem mn_X10_isLetter : (parseMethodDescriptor yX10_isLetter.desc).map (fun d => d.parameters.length) = some 1 := by decide +kernel
def p_X10_isLetter (x0 : Int32) : Int32 := (if x0 < 97 then (0 : Int32) else if 122 < x0 then (0 : Int32) else (1 : Int32))
theorem pz_X10_isLetter (x0 : Int32) : isB (p_X10_isLetter x0) := by
  unfold p_X10_isLetter
  repeat' (first | apply isB_ite | exact Or.inl rfl | exact Or.inr rfl | apply_assumption)
set_option maxRecDepth 20000 in
set_option maxHeartbeats 2000000 in
theorem ev_X10_isLetter (d : Nat) (hlev : 0 ≤ d) (x0 : Int32) (M : Mem) : Ev KSm ST1 mdX10_isLetter d [.inl x0] M (some (p_X10_isLetter x0, M)) := by
  refine ev_of rfl (Nat.le_of_ble_eq_true rfl) ?_
  show CorM KSm ST1 RX10 cX10_isLetter 1 (some .boolean) d 0 [(0, .inl x0)] [] M (some (p_X10_isLetter x0, M))
  unfold p_X10_isLetter
  refine c_iload_n (i := 0) dX10_isLetter_0 rfl rfl ?_
  refine c_bipush dX10_isLetter_1 (v := 97) rfl ?_
  have J_z1 : ∀ z1 : Int32, isB z1 → CorM KSm ST1 RX10 cX10_isLetter 1 (some .boolean) d 17 [] [.inl z1] M (some (z1, M)) := by
    intro z1 h_z1
    exact c_zret rfl h_z1 dX10_isLetter_17
  refine c_val (b := x0 < 97) (v1 := (0 : Int32)) (v2 := if 122 < x0 then (0 : Int32) else (1 : Int32)) (F := fun z1 => some (z1, M)) (fun h2 => ?_) (fun h2 => ?_)
  · refine c_T h2 (c_icmp_lt (tgt := 16) dX10_isLetter_3 rfl (fun _ => ?_) (fun q => absurd h2 q))
    refine c_iconst dX10_isLetter_16 (v := 0) rfl ?_
    refine c_keep [] (ls2 := []) rfl ?_
    exact J_z1 0 (Or.inl rfl)
  · refine c_Fl h2 (c_icmp_lt (tgt := 16) dX10_isLetter_3 rfl (fun q => absurd q h2) (fun _ => ?_))
    refine c_iload_n (i := 0) dX10_isLetter_6 rfl rfl ?_
    refine c_bipush dX10_isLetter_7 (v := 122) rfl ?_
    refine c_val (b := 122 < x0) (v1 := (0 : Int32)) (v2 := (1 : Int32)) (F := fun z1 => some (z1, M)) (fun h3 => ?_) (fun h3 => ?_)
    · refine c_T h3 (c_icmp_gt (tgt := 16) dX10_isLetter_9 rfl (fun _ => ?_) (fun q => absurd h3 q))
      refine c_iconst dX10_isLetter_16 (v := 0) rfl ?_
      refine c_keep [] (ls2 := []) rfl ?_
      exact J_z1 0 (Or.inl rfl)
    · refine c_Fl h3 (c_icmp_gt (tgt := 16) dX10_isLetter_9 rfl (fun q => absurd q h3) (fun _ => ?_))
      refine c_iconst dX10_isLetter_12 (v := 1) rfl ?_
      refine c_goto (tgt := 17) dX10_isLetter_13 rfl ?_
      refine c_keep [] (ls2 := []) rfl ?_
      exact J_z1 1 (Or.inr rfl)

abbrev mdX10_isDigit : MD := (yX10_isDigit, cX10_isDigit, 1, (some .boolean))
theorem mw_X10_isDigit : mdW mdX10_isDigit := ⟨wm_X10_isDigit, w0_RX10, by decide, by decide⟩
theorem mn_X10_isDigit : (parseMethodDescriptor yX10_isDigit.desc).map (fun d => d.parameters.length) = some 1 := by decide +kernel
def p_X10_isDigit (x0 : Int32) : Int32 := (if x0 < 48 then (0 : Int32) else if 57 < x0 then (0 : Int32) else (1 : Int32))
theorem pz_X10_isDigit (x0 : Int32) : isB (p_X10_isDigit x0) := by
  unfold p_X10_isDigit
  repeat' (first | apply isB_ite | exact Or.inl rfl | exact Or.inr rfl | apply_assumption)
set_option maxRecDepth 20000 in
set_option maxHeartbeats 2000000 in
theorem ev_X10_isDigit (d : Nat) (hlev : 0 ≤ d) (x0 : Int32) (M : Mem) : Ev KSm ST1 mdX10_isDigit d [.inl x0] M (some (p_X10_isDigit x0, M)) := by
  refine ev_of rfl (Nat.le_of_ble_eq_true rfl) ?_
  show CorM KSm ST1 RX10 cX10_isDigit 1 (some .boolean) d 0 [(0, .inl x0)] [] M (some (p_X10_isDigit x0, M))
  unfold p_X10_isDigit
  refine c_iload_n (i := 0) dX10_isDigit_0 rfl rfl ?_
  refine c_bipush dX10_isDigit_1 (v := 48) rfl ?_
  have J_z1 : ∀ z1 : Int32, isB z1 → CorM KSm ST1 RX10 cX10_isDigit 1 (some .boolean) d 17 [] [.inl z1] M (some (z1, M)) := by
    intro z1 h_z1
    exact c_zret rfl h_z1 dX10_isDigit_17
  refine c_val (b := x0 < 48) (v1 := (0 : Int32)) (v2 := if 57 < x0 then (0 : Int32) else (1 : Int32)) (F := fun z1 => some (z1, M)) (fun h2 => ?_) (fun h2 => ?_)
  · refine c_T h2 (c_icmp_lt (tgt := 16) dX10_isDigit_3 rfl (fun _ => ?_) (fun q => absurd h2 q))
    refine c_iconst dX10_isDigit_16 (v := 0) rfl ?_
    refine c_keep [] (ls2 := []) rfl ?_
    exact J_z1 0 (Or.inl rfl)
  · refine c_Fl h2 (c_icmp_lt (tgt := 16) dX10_isDigit_3 rfl (fun q => absurd q h2) (fun _ => ?_))
    refine c_iload_n (i := 0) dX10_isDigit_6 rfl rfl ?_
    refine c_bipush dX10_isDigit_7 (v := 57) rfl ?_
    refine c_val (b := 57 < x0) (v1 := (0 : Int32)) (v2 := (1 : Int32)) (F := fun z1 => some (z1, M)) (fun h3 => ?_) (fun h3 => ?_)
    · refine c_T h3 (c_icmp_gt (tgt := 16) dX10_isDigit_9 rfl (fun _ => ?_) (fun q => absurd h3 q))
      refine c_iconst dX10_isDigit_16 (v := 0) rfl ?_
      refine c_keep [] (ls2 := []) rfl ?_
      exact J_z1 0 (Or.inl rfl)
    · refine c_Fl h3 (c_icmp_gt (tgt := 16) dX10_isDigit_9 rfl (fun q => absurd q h3) (fun _ => ?_))
      refine c_iconst dX10_isDigit_12 (v := 1) rfl ?_
      refine c_goto (tgt := 17) dX10_isDigit_13 rfl ?_
      refine c_keep [] (ls2 := []) rfl ?_
      exact J_z1 1 (Or.inr rfl)

abbrev mdX10_token : MD := (yX10_token, cX10_token, 2, none)
theorem mw_X10_token : mdW mdX10_token := ⟨wm_X10_token, w0_RX10, by decide, by decide⟩
theorem mn_X10_token : (parseMethodDescriptor yX10_token.desc).map (fun d => d.parameters.length) = some 0 := by decide +kernel
def j_X10_token_26 (K0 : Mem → Option (Int32 × Mem)) (M : Mem) : Option (Int32 × Mem) := wrt (up M 0 10 ((M 0 10) + 1)) (fun M4 => K0 M4)
set_option maxRecDepth 20000 in
set_option maxHeartbeats 2000000 in
theorem jo_X10_token_26 (d : Nat) (hlev : 1 ≤ d) (K0 : Mem → Option (Int32 × Mem)) (hK0 : ∀ s : Mem, CorM KSm ST1 RX10 cX10_token 2 none d 0 [(0, .inr 0)] [] s (K0 s)) (M : Mem) : CorM KSm ST1 RX10 cX10_token 2 none d 26 [(0, .inr 0)] [] M (j_X10_token_26 K0 M) := by
  unfold j_X10_token_26
  refine c_aload_n (i := 0) dX10_token_26 rfl rfl ?_
  refine c_dup dX10_token_27 ?_
  refine gf_RX10_77 (blk_get0 KSm_b0) dX10_token_28 ?_
  refine c_iconst dX10_token_31 (v := 1) rfl ?_
  refine c_iadd dX10_token_32 ?_
  refine pf_RX10_77 (blk_get0 KSm_b0) dX10_token_33 ?_
  refine c_wrt (fun M4 => ?_)
  refine c_goto (tgt := 0) dX10_token_36 rfl ?_
  refine c_keep [0] (ls2 := [(0, .inr 0)]) rfl ?_
  exact hK0 M4
def j_X10_token_255 (M : Mem) : Option (Int32 × Mem) := some (0, M)
set_option maxRecDepth 20000 in
set_option maxHeartbeats 2000000 in
theorem jo_X10_token_255 (d : Nat) (hlev : 1 ≤ d) (M : Mem) : CorM KSm ST1 RX10 cX10_token 2 none d 255 [] [] M (j_X10_token_255 M) := by
  unfold j_X10_token_255
  exact c_vret rfl dX10_token_255
def j_X10_token_174 (K123 : Mem → Option (Int32 × Mem)) (M : Mem) : Option (Int32 × Mem) := wrt (up M 0 10 ((M 0 10) + 1)) (fun M29 => K123 M29)
set_option maxRecDepth 20000 in
set_option maxHeartbeats 2000000 in
theorem jo_X10_token_174 (d : Nat) (hlev : 1 ≤ d) (K123 : Mem → Option (Int32 × Mem)) (hK123 : ∀ s : Mem, CorM KSm ST1 RX10 cX10_token 2 none d 123 [(0, .inr 0)] [] s (K123 s)) (M : Mem) : CorM KSm ST1 RX10 cX10_token 2 none d 174 [(0, .inr 0)] [] M (j_X10_token_174 K123 M) := by
  unfold j_X10_token_174
  refine c_aload_n (i := 0) dX10_token_174 rfl rfl ?_
  refine c_dup dX10_token_175 ?_
  refine gf_RX10_77 (blk_get0 KSm_b0) dX10_token_176 ?_
  refine c_iconst dX10_token_179 (v := 1) rfl ?_
  refine c_iadd dX10_token_180 ?_
  refine pf_RX10_77 (blk_get0 KSm_b0) dX10_token_181 ?_
  refine c_wrt (fun M29 => ?_)
  refine c_goto (tgt := 123) dX10_token_184 rfl ?_
  refine c_keep [0] (ls2 := [(0, .inr 0)]) rfl ?_
  exact hK123 M29
def l_X10_token_123 (K123 : Mem → Option (Int32 × Mem)) : Mem → Option (Int32 × Mem) := fun s => match s with
  | M => bnd (f_X10_at (M 0 10) M) (fun v22 M23 => if (p_X10_isDigit v22) = 0 then wrt (up M23 0 12 (if ((M23 0 10) - (M23 0 11)) ≤ 6 then (2 : Int32) else (4 : Int32))) (fun M26 => j_X10_token_255 M26) else if 6 ≤ ((M23 0 10) - (M23 0 11)) then j_X10_token_174 K123 M23 else bnd (f_X10_at (M23 0 10) M23) (fun v30 M31 => wrt (up M31 0 13 (((10 * (M23 0 13)) + v30) - 48)) (fun M32 => j_X10_token_174 K123 M32)))
set_option maxRecDepth 20000 in
set_option maxHeartbeats 2000000 in
theorem lo_X10_token_123 (d : Nat) (hlev : 1 ≤ d) (s : Mem) : CorM KSm ST1 RX10 cX10_token 2 none d 123 [(0, .inr 0)] [] s (loopC (l_X10_token_123) fuelL s) := by
  refine c_loop (L := fun s : Mem => [(0, .inr 0)]) (Mf := fun s : Mem => s) (fun K123 hK123 M => ?_) fuelL s
  show CorM KSm ST1 RX10 cX10_token 2 none d 123 [(0, .inr 0)] [] M (l_X10_token_123 K123 M)
  unfold l_X10_token_123
  refine c_aload_n (i := 0) dX10_token_123 rfl rfl ?_
  refine c_aload_n (i := 0) dX10_token_124 rfl rfl ?_
  refine gf_RX10_77 (blk_get0 KSm_b0) dX10_token_125 ?_
  refine c_callV (as := [.inl (M 0 10)]) (rs := []) (ev_X10_at 0 (Nat.le_refl _) (M 0 10) M) rfl (Nat.lt_of_lt_of_le (by decide) hlev) mw_X10_at wi_X10_at wv_X10_at (blk_get0 KSm_b0) (by decide) rfl wl_RX10_80 mn_X10_at rfl (by decide) (Nat.le_of_ble_eq_true rfl) ⟨_, rfl⟩ dX10_token_128 (fun v22 M23 _ => ?_)
  refine c_callSp (as := [.inl v22]) (rs := []) (ev_X10_isDigit 0 (Nat.le_refl _) v22 M23) rfl (Nat.lt_of_lt_of_le (by decide) hlev) mw_X10_isDigit ws_X10_isDigit wl_RX10_94 mn_X10_isDigit rfl (by decide) (Nat.le_of_ble_eq_true rfl) ⟨_, rfl⟩ dX10_token_131 ?_
  refine c_if_eq (tgt := 187) dX10_token_134 rfl (fun h24 => ?_) (fun h24 => ?_)
  · refine c_aload_n (i := 0) dX10_token_187 rfl rfl ?_
    refine c_aload_n (i := 0) dX10_token_188 rfl rfl ?_
    refine gf_RX10_77 (blk_get0 KSm_b0) dX10_token_189 ?_
    refine c_aload_n (i := 0) dX10_token_192 rfl rfl ?_
    refine gf_RX10_84 (blk_get0 KSm_b0) dX10_token_193 ?_
    refine c_isub dX10_token_196 ?_
    refine c_bipush dX10_token_197 (v := 6) rfl ?_
    have J_z25 : ∀ z25 : Int32, CorM KSm ST1 RX10 cX10_token 2 none d 207 [] [.inl z25, .inr 0] M23 (wrt (up M23 0 12 z25) (fun M26 => j_X10_token_255 M26)) := by
      intro z25
      refine pf_RX10_87 (blk_get0 KSm_b0) dX10_token_207 ?_
      refine c_wrt (fun M26 => ?_)
      refine c_goto (tgt := 255) dX10_token_210 rfl ?_
      refine c_keep [] (ls2 := []) rfl ?_
      exact jo_X10_token_255 d hlev M26
    refine c_val (b := ((M23 0 10) - (M23 0 11)) ≤ 6) (v1 := (2 : Int32)) (v2 := (4 : Int32)) (F := fun z25 => wrt (up M23 0 12 z25) (fun M26 => j_X10_token_255 M26)) (fun h27 => ?_) (fun h27 => ?_)
    · refine c_T h27 (c_icmp_le (tgt := 206) dX10_token_199 rfl (fun _ => ?_) (fun q => absurd h27 q))
      refine c_iconst dX10_token_206 (v := 2) rfl ?_
      refine c_keep [] (ls2 := []) rfl ?_
      exact J_z25 2
    · refine c_Fl h27 (c_icmp_le (tgt := 206) dX10_token_199 rfl (fun q => absurd q h27) (fun _ => ?_))
      refine c_iconst dX10_token_202 (v := 4) rfl ?_
      refine c_goto (tgt := 207) dX10_token_203 rfl ?_
      refine c_keep [] (ls2 := []) rfl ?_
      exact J_z25 4
  · refine c_aload_n (i := 0) dX10_token_137 rfl rfl ?_
    refine gf_RX10_77 (blk_get0 KSm_b0) dX10_token_138 ?_
    refine c_aload_n (i := 0) dX10_token_141 rfl rfl ?_
    refine gf_RX10_84 (blk_get0 KSm_b0) dX10_token_142 ?_
    refine c_isub dX10_token_145 ?_
    refine c_bipush dX10_token_146 (v := 6) rfl ?_
    refine c_icmp_ge (tgt := 174) dX10_token_148 rfl (fun h28 => ?_) (fun h28 => ?_)
    · refine c_keep [0] (ls2 := [(0, .inr 0)]) rfl ?_
      exact jo_X10_token_174 d hlev K123 hK123 M23
    · refine c_aload_n (i := 0) dX10_token_151 rfl rfl ?_
      refine c_bipush dX10_token_152 (v := 10) rfl ?_
      refine c_aload_n (i := 0) dX10_token_154 rfl rfl ?_
      refine gf_RX10_97 (blk_get0 KSm_b0) dX10_token_155 ?_
      refine c_imul dX10_token_158 ?_
      refine c_aload_n (i := 0) dX10_token_159 rfl rfl ?_
      refine c_aload_n (i := 0) dX10_token_160 rfl rfl ?_
      refine gf_RX10_77 (blk_get0 KSm_b0) dX10_token_161 ?_
      refine c_callV (as := [.inl (M23 0 10)]) (rs := [.inl (10 * (M23 0 13)), .inr 0]) (ev_X10_at 0 (Nat.le_refl _) (M23 0 10) M23) rfl (Nat.lt_of_lt_of_le (by decide) hlev) mw_X10_at wi_X10_at wv_X10_at (blk_get0 KSm_b0) (by decide) rfl wl_RX10_80 mn_X10_at rfl (by decide) (Nat.le_of_ble_eq_true rfl) ⟨_, rfl⟩ dX10_token_164 (fun v30 M31 _ => ?_)
      refine c_iadd dX10_token_167 ?_
      refine c_bipush dX10_token_168 (v := 48) rfl ?_
      refine c_isub dX10_token_170 ?_
      refine pf_RX10_97 (blk_get0 KSm_b0) dX10_token_171 ?_
      refine c_wrt (fun M32 => ?_)
      refine c_keep [0] (ls2 := [(0, .inr 0)]) rfl ?_
      exact jo_X10_token_174 d hlev K123 hK123 M32
def l_X10_token_76 (K76 : Mem → Option (Int32 × Mem)) : Mem → Option (Int32 × Mem) := fun s => match s with
  | M => bnd (f_X10_at (M 0 10) M) (fun v33 M34 => if (p_X10_isLetter v33) = 0 then wrt (up M34 0 12 1) (fun M36 => j_X10_token_255 M36) else wrt (up M34 0 10 ((M34 0 10) + 1)) (fun M37 => K76 M37))
set_option maxRecDepth 20000 in
set_option maxHeartbeats 2000000 in
theorem lo_X10_token_76 (d : Nat) (hlev : 1 ≤ d) (s : Mem) : CorM KSm ST1 RX10 cX10_token 2 none d 76 [(0, .inr 0)] [] s (loopC (l_X10_token_76) fuelL s) := by
  refine c_loop (L := fun s : Mem => [(0, .inr 0)]) (Mf := fun s : Mem => s) (fun K76 hK76 M => ?_) fuelL s
  show CorM KSm ST1 RX10 cX10_token 2 none d 76 [(0, .inr 0)] [] M (l_X10_token_76 K76 M)
  unfold l_X10_token_76
  refine c_aload_n (i := 0) dX10_token_76 rfl rfl ?_
  refine c_aload_n (i := 0) dX10_token_77 rfl rfl ?_
  refine gf_RX10_77 (blk_get0 KSm_b0) dX10_token_78 ?_
  refine c_callV (as := [.inl (M 0 10)]) (rs := []) (ev_X10_at 0 (Nat.le_refl _) (M 0 10) M) rfl (Nat.lt_of_lt_of_le (by decide) hlev) mw_X10_at wi_X10_at wv_X10_at (blk_get0 KSm_b0) (by decide) rfl wl_RX10_80 mn_X10_at rfl (by decide) (Nat.le_of_ble_eq_true rfl) ⟨_, rfl⟩ dX10_token_81 (fun v33 M34 _ => ?_)
  refine c_callSp (as := [.inl v33]) (rs := []) (ev_X10_isLetter 0 (Nat.le_refl _) v33 M34) rfl (Nat.lt_of_lt_of_le (by decide) hlev) mw_X10_isLetter ws_X10_isLetter wl_RX10_90 mn_X10_isLetter rfl (by decide) (Nat.le_of_ble_eq_true rfl) ⟨_, rfl⟩ dX10_token_84 ?_
  refine c_if_eq (tgt := 103) dX10_token_87 rfl (fun h35 => ?_) (fun h35 => ?_)
  · refine c_aload_n (i := 0) dX10_token_103 rfl rfl ?_
    refine c_iconst dX10_token_104 (v := 1) rfl ?_
    refine pf_RX10_87 (blk_get0 KSm_b0) dX10_token_105 ?_
    refine c_wrt (fun M36 => ?_)
    refine c_goto (tgt := 255) dX10_token_108 rfl ?_
    refine c_keep [] (ls2 := []) rfl ?_
    exact jo_X10_token_255 d hlev M36
  · refine c_aload_n (i := 0) dX10_token_90 rfl rfl ?_
    refine c_dup dX10_token_91 ?_
    refine gf_RX10_77 (blk_get0 KSm_b0) dX10_token_92 ?_
    refine c_iconst dX10_token_95 (v := 1) rfl ?_
    refine c_iadd dX10_token_96 ?_
    refine pf_RX10_77 (blk_get0 KSm_b0) dX10_token_97 ?_
    refine c_wrt (fun M37 => ?_)
    refine c_goto (tgt := 76) dX10_token_100 rfl ?_
    refine c_keep [0] (ls2 := [(0, .inr 0)]) rfl ?_
    exact hK76 M37
def l_X10_token_0 (K0 : Mem → Option (Int32 × Mem)) : Mem → Option (Int32 × Mem) := fun s => match s with
  | M => bnd (f_X10_at (M 0 10) M) (fun v1 M2 => if v1 = 10 then j_X10_token_26 K0 M2 else bnd (f_X10_at (M2 0 10) M2) (fun v5 M6 => if ¬ v5 = 32 then wrt (up M6 0 11 (M6 0 10)) (fun M8 => bnd (f_X10_at (M8 0 10) M8) (fun v9 M10 => if ¬ v9 = (-1) then if (p_X10_isLetter v9) = 0 then if (p_X10_isDigit v9) = 0 then wrt (up M10 0 10 ((M10 0 10) + 1)) (fun M14 => wrt (up M14 0 13 v9) (fun M15 => wrt (up M15 0 12 (if v9 = 58 then (3 : Int32) else if v9 = 59 then (3 : Int32) else if ¬ v9 = 45 then (4 : Int32) else (3 : Int32))) (fun M17 => j_X10_token_255 M17))) else wrt (up M10 0 13 0) (fun M21 => loopC (l_X10_token_123) fuelL M21) else loopC (l_X10_token_76) fuelL M10 else wrt (up M10 0 12 0) (fun M38 => j_X10_token_255 M38))) else j_X10_token_26 K0 M6))
set_option maxRecDepth 20000 in
set_option maxHeartbeats 2000000 in
theorem lo_X10_token_0 (d : Nat) (hlev : 1 ≤ d) (s : Mem) : CorM KSm ST1 RX10 cX10_token 2 none d 0 [(0, .inr 0)] [] s (loopC (l_X10_token_0) fuelL s) := by
  refine c_loop (L := fun s : Mem => [(0, .inr 0)]) (Mf := fun s : Mem => s) (fun K0 hK0 M => ?_) fuelL s
  show CorM KSm ST1 RX10 cX10_token 2 none d 0 [(0, .inr 0)] [] M (l_X10_token_0 K0 M)
  unfold l_X10_token_0
  refine c_aload_n (i := 0) dX10_token_0 rfl rfl ?_
  refine c_aload_n (i := 0) dX10_token_1 rfl rfl ?_
  refine gf_RX10_77 (blk_get0 KSm_b0) dX10_token_2 ?_
  refine c_callV (as := [.inl (M 0 10)]) (rs := []) (ev_X10_at 0 (Nat.le_refl _) (M 0 10) M) rfl (Nat.lt_of_lt_of_le (by decide) hlev) mw_X10_at wi_X10_at wv_X10_at (blk_get0 KSm_b0) (by decide) rfl wl_RX10_80 mn_X10_at rfl (by decide) (Nat.le_of_ble_eq_true rfl) ⟨_, rfl⟩ dX10_token_5 (fun v1 M2 _ => ?_)
  refine c_bipush dX10_token_8 (v := 10) rfl ?_
  refine c_icmp_eq (tgt := 26) dX10_token_10 rfl (fun h3 => ?_) (fun h3 => ?_)
  · refine c_keep [0] (ls2 := [(0, .inr 0)]) rfl ?_
    exact jo_X10_token_26 d hlev K0 hK0 M2
  · refine c_aload_n (i := 0) dX10_token_13 rfl rfl ?_
    refine c_aload_n (i := 0) dX10_token_14 rfl rfl ?_
    refine gf_RX10_77 (blk_get0 KSm_b0) dX10_token_15 ?_
    refine c_callV (as := [.inl (M2 0 10)]) (rs := []) (ev_X10_at 0 (Nat.le_refl _) (M2 0 10) M2) rfl (Nat.lt_of_lt_of_le (by decide) hlev) mw_X10_at wi_X10_at wv_X10_at (blk_get0 KSm_b0) (by decide) rfl wl_RX10_80 mn_X10_at rfl (by decide) (Nat.le_of_ble_eq_true rfl) ⟨_, rfl⟩ dX10_token_18 (fun v5 M6 _ => ?_)
    refine c_bipush dX10_token_21 (v := 32) rfl ?_
    refine c_icmp_ne (tgt := 39) dX10_token_23 rfl (fun h7 => ?_) (fun h7 => ?_)
    · refine c_aload_n (i := 0) dX10_token_39 rfl rfl ?_
      refine c_aload_n (i := 0) dX10_token_40 rfl rfl ?_
      refine gf_RX10_77 (blk_get0 KSm_b0) dX10_token_41 ?_
      refine pf_RX10_84 (blk_get0 KSm_b0) dX10_token_44 ?_
      refine c_wrt (fun M8 => ?_)
      refine c_aload_n (i := 0) dX10_token_47 rfl rfl ?_
      refine c_aload_n (i := 0) dX10_token_48 rfl rfl ?_
      refine gf_RX10_77 (blk_get0 KSm_b0) dX10_token_49 ?_
      refine c_callV (as := [.inl (M8 0 10)]) (rs := []) (ev_X10_at 0 (Nat.le_refl _) (M8 0 10) M8) rfl (Nat.lt_of_lt_of_le (by decide) hlev) mw_X10_at wi_X10_at wv_X10_at (blk_get0 KSm_b0) (by decide) rfl wl_RX10_80 mn_X10_at rfl (by decide) (Nat.le_of_ble_eq_true rfl) ⟨_, rfl⟩ dX10_token_52 (fun v9 M10 _ => ?_)
      refine c_istore_n (i := 1) dX10_token_55 rfl (by decide) (ls2 := [(0, .inr 0), (1, .inl v9)]) rfl ?_
      refine c_iload_n (i := 1) dX10_token_56 rfl rfl ?_
      refine c_iconst dX10_token_57 (v := (-1)) rfl ?_
      refine c_icmp_ne (tgt := 69) dX10_token_58 rfl (fun h11 => ?_) (fun h11 => ?_)
      · refine c_iload_n (i := 1) dX10_token_69 rfl rfl ?_
        refine c_callSp (as := [.inl v9]) (rs := []) (ev_X10_isLetter 0 (Nat.le_refl _) v9 M10) rfl (Nat.lt_of_lt_of_le (by decide) hlev) mw_X10_isLetter ws_X10_isLetter wl_RX10_90 mn_X10_isLetter rfl (by decide) (Nat.le_of_ble_eq_true rfl) ⟨_, rfl⟩ dX10_token_70 ?_
        refine c_if_eq (tgt := 111) dX10_token_73 rfl (fun h12 => ?_) (fun h12 => ?_)
        · refine c_iload_n (i := 1) dX10_token_111 rfl rfl ?_
          refine c_callSp (as := [.inl v9]) (rs := []) (ev_X10_isDigit 0 (Nat.le_refl _) v9 M10) rfl (Nat.lt_of_lt_of_le (by decide) hlev) mw_X10_isDigit ws_X10_isDigit wl_RX10_94 mn_X10_isDigit rfl (by decide) (Nat.le_of_ble_eq_true rfl) ⟨_, rfl⟩ dX10_token_112 ?_
          refine c_if_eq (tgt := 213) dX10_token_115 rfl (fun h13 => ?_) (fun h13 => ?_)
          · refine c_aload_n (i := 0) dX10_token_213 rfl rfl ?_
            refine c_dup dX10_token_214 ?_
            refine gf_RX10_77 (blk_get0 KSm_b0) dX10_token_215 ?_
            refine c_iconst dX10_token_218 (v := 1) rfl ?_
            refine c_iadd dX10_token_219 ?_
            refine pf_RX10_77 (blk_get0 KSm_b0) dX10_token_220 ?_
            refine c_wrt (fun M14 => ?_)
            refine c_aload_n (i := 0) dX10_token_223 rfl rfl ?_
            refine c_iload_n (i := 1) dX10_token_224 rfl rfl ?_
            refine pf_RX10_97 (blk_get0 KSm_b0) dX10_token_225 ?_
            refine c_wrt (fun M15 => ?_)
            refine c_aload_n (i := 0) dX10_token_228 rfl rfl ?_
            refine c_iload_n (i := 1) dX10_token_229 rfl rfl ?_
            refine c_bipush dX10_token_230 (v := 58) rfl ?_
            have J_z16 : ∀ z16 : Int32, CorM KSm ST1 RX10 cX10_token 2 none d 252 [] [.inl z16, .inr 0] M15 (wrt (up M15 0 12 z16) (fun M17 => j_X10_token_255 M17)) := by
              intro z16
              refine pf_RX10_87 (blk_get0 KSm_b0) dX10_token_252 ?_
              refine c_wrt (fun M17 => ?_)
              refine c_keep [] (ls2 := []) rfl ?_
              exact jo_X10_token_255 d hlev M17
            refine c_val (b := v9 = 58) (v1 := (3 : Int32)) (v2 := if v9 = 59 then (3 : Int32) else if ¬ v9 = 45 then (4 : Int32) else (3 : Int32)) (F := fun z16 => wrt (up M15 0 12 z16) (fun M17 => j_X10_token_255 M17)) (fun h18 => ?_) (fun h18 => ?_)
            · refine c_T h18 (c_icmp_eq (tgt := 247) dX10_token_232 rfl (fun _ => ?_) (fun q => absurd h18 q))
              refine c_iconst dX10_token_247 (v := 3) rfl ?_
              refine c_goto (tgt := 252) dX10_token_248 rfl ?_
              refine c_keep [] (ls2 := []) rfl ?_
              exact J_z16 3
            · refine c_Fl h18 (c_icmp_eq (tgt := 247) dX10_token_232 rfl (fun q => absurd q h18) (fun _ => ?_))
              refine c_iload_n (i := 1) dX10_token_235 rfl rfl ?_
              refine c_bipush dX10_token_236 (v := 59) rfl ?_
              refine c_val (b := v9 = 59) (v1 := (3 : Int32)) (v2 := if ¬ v9 = 45 then (4 : Int32) else (3 : Int32)) (F := fun z16 => wrt (up M15 0 12 z16) (fun M17 => j_X10_token_255 M17)) (fun h19 => ?_) (fun h19 => ?_)
              · refine c_T h19 (c_icmp_eq (tgt := 247) dX10_token_238 rfl (fun _ => ?_) (fun q => absurd h19 q))
                refine c_iconst dX10_token_247 (v := 3) rfl ?_
                refine c_goto (tgt := 252) dX10_token_248 rfl ?_
                refine c_keep [] (ls2 := []) rfl ?_
                exact J_z16 3
              · refine c_Fl h19 (c_icmp_eq (tgt := 247) dX10_token_238 rfl (fun q => absurd q h19) (fun _ => ?_))
                refine c_iload_n (i := 1) dX10_token_241 rfl rfl ?_
                refine c_bipush dX10_token_242 (v := 45) rfl ?_
                refine c_val (b := ¬ v9 = 45) (v1 := (4 : Int32)) (v2 := (3 : Int32)) (F := fun z16 => wrt (up M15 0 12 z16) (fun M17 => j_X10_token_255 M17)) (fun h20 => ?_) (fun h20 => ?_)
                · refine c_T h20 (c_icmp_ne (tgt := 251) dX10_token_244 rfl (fun _ => ?_) (fun q => absurd h20 q))
                  refine c_iconst dX10_token_251 (v := 4) rfl ?_
                  refine c_keep [] (ls2 := []) rfl ?_
                  exact J_z16 4
                · refine c_Fl h20 (c_icmp_ne (tgt := 251) dX10_token_244 rfl (fun q => absurd q h20) (fun _ => ?_))
                  refine c_iconst dX10_token_247 (v := 3) rfl ?_
                  refine c_goto (tgt := 252) dX10_token_248 rfl ?_
                  refine c_keep [] (ls2 := []) rfl ?_
                  exact J_z16 3
          · refine c_aload_n (i := 0) dX10_token_118 rfl rfl ?_
            refine c_iconst dX10_token_119 (v := 0) rfl ?_
            refine pf_RX10_97 (blk_get0 KSm_b0) dX10_token_120 ?_
            refine c_wrt (fun M21 => ?_)
            refine c_keep [0] (ls2 := [(0, .inr 0)]) rfl ?_
            exact lo_X10_token_123 d hlev M21
        · refine c_keep [0] (ls2 := [(0, .inr 0)]) rfl ?_
          exact lo_X10_token_76 d hlev M10
      · refine c_aload_n (i := 0) dX10_token_61 rfl rfl ?_
        refine c_iconst dX10_token_62 (v := 0) rfl ?_
        refine pf_RX10_87 (blk_get0 KSm_b0) dX10_token_63 ?_
        refine c_wrt (fun M38 => ?_)
        refine c_goto (tgt := 255) dX10_token_66 rfl ?_
        refine c_keep [] (ls2 := []) rfl ?_
        exact jo_X10_token_255 d hlev M38
    · refine c_keep [0] (ls2 := [(0, .inr 0)]) rfl ?_
      exact jo_X10_token_26 d hlev K0 hK0 M6
def f_X10_token (M : Mem) : Option (Int32 × Mem) := loopC (l_X10_token_0) fuelL M
set_option maxRecDepth 20000 in
set_option maxHeartbeats 2000000 in
theorem ev_X10_token (d : Nat) (hlev : 1 ≤ d) (M : Mem) : Ev KSm ST1 mdX10_token d [.inr 0] M (f_X10_token M) := by
  refine ev_of rfl (Nat.le_of_ble_eq_true rfl) ?_
  show CorM KSm ST1 RX10 cX10_token 2 none d 0 [(0, .inr 0)] [] M (f_X10_token M)
  unfold f_X10_token
  refine c_keep [0] (ls2 := [(0, .inr 0)]) rfl ?_
  exact lo_X10_token_0 d hlev M

abbrev mdX10_isWrong : MD := (yX10_isWrong, cX10_isWrong, 1, (some .boolean))
theorem mw_X10_isWrong : mdW mdX10_isWrong := ⟨wm_X10_isWrong, w0_RX10, by decide, by decide⟩
theorem mn_X10_isWrong : (parseMethodDescriptor yX10_isWrong.desc).map (fun d => d.parameters.length) = some 0 := by decide +kernel
def p_X10_isWrong (M : Mem) : Int32 := (if (M 0 14) = 0 then (0 : Int32) else (1 : Int32))
theorem pz_X10_isWrong (M : Mem) : isB (p_X10_isWrong M) := by
  unfold p_X10_isWrong
  repeat' (first | apply isB_ite | exact Or.inl rfl | exact Or.inr rfl | apply_assumption)
set_option maxRecDepth 20000 in
set_option maxHeartbeats 2000000 in
theorem ev_X10_isWrong (d : Nat) (hlev : 0 ≤ d) (M : Mem) : Ev KSm ST1 mdX10_isWrong d [.inr 0] M (some (p_X10_isWrong M, M)) := by
  refine ev_of rfl (Nat.le_of_ble_eq_true rfl) ?_
  show CorM KSm ST1 RX10 cX10_isWrong 1 (some .boolean) d 0 [(0, .inr 0)] [] M (some (p_X10_isWrong M, M))
  unfold p_X10_isWrong
  refine c_aload_n (i := 0) dX10_isWrong_0 rfl rfl ?_
  refine gf_RX10_100 (blk_get0 KSm_b0) dX10_isWrong_1 ?_
  have J_z1 : ∀ z1 : Int32, isB z1 → CorM KSm ST1 RX10 cX10_isWrong 1 (some .boolean) d 12 [] [.inl z1] M (some (z1, M)) := by
    intro z1 h_z1
    exact c_zret rfl h_z1 dX10_isWrong_12
  refine c_val (b := (M 0 14) = 0) (v1 := (0 : Int32)) (v2 := (1 : Int32)) (F := fun z1 => some (z1, M)) (fun h2 => ?_) (fun h2 => ?_)
  · refine c_T h2 (c_if_eq (tgt := 11) dX10_isWrong_4 rfl (fun _ => ?_) (fun q => absurd h2 q))
    refine c_iconst dX10_isWrong_11 (v := 0) rfl ?_
    refine c_keep [] (ls2 := []) rfl ?_
    exact J_z1 0 (Or.inl rfl)
  · refine c_Fl h2 (c_if_eq (tgt := 11) dX10_isWrong_4 rfl (fun q => absurd q h2) (fun _ => ?_))
    refine c_iconst dX10_isWrong_7 (v := 1) rfl ?_
    refine c_goto (tgt := 12) dX10_isWrong_8 rfl ?_
    refine c_keep [] (ls2 := []) rfl ?_
    exact J_z1 1 (Or.inr rfl)

abbrev mdX10_fails : MD := (yX10_fails, cX10_fails, 2, none)
theorem mw_X10_fails : mdW mdX10_fails := ⟨wm_X10_fails, w0_RX10, by decide, by decide⟩
theorem mn_X10_fails : (parseMethodDescriptor yX10_fails.desc).map (fun d => d.parameters.length) = some 1 := by decide +kernel
def f_X10_fails (x1 : Int32) (M : Mem) : Option (Int32 × Mem) := if (p_X10_isWrong M) = 0 then wrt (up M 0 14 x1) (fun M2 => wrt (up M2 0 15 (M2 0 11)) (fun M3 => some (0, M3))) else some (0, M)
set_option maxRecDepth 20000 in
set_option maxHeartbeats 2000000 in
theorem ev_X10_fails (d : Nat) (hlev : 1 ≤ d) (x1 : Int32) (M : Mem) : Ev KSm ST1 mdX10_fails d [.inr 0, .inl x1] M (f_X10_fails x1 M) := by
  refine ev_of rfl (Nat.le_of_ble_eq_true rfl) ?_
  show CorM KSm ST1 RX10 cX10_fails 2 none d 0 [(0, .inr 0), (1, .inl x1)] [] M (f_X10_fails x1 M)
  unfold f_X10_fails
  refine c_aload_n (i := 0) dX10_fails_0 rfl rfl ?_
  refine c_callVp (as := []) (rs := []) (ev_X10_isWrong 0 (Nat.le_refl _) M) rfl (Nat.lt_of_lt_of_le (by decide) hlev) mw_X10_isWrong wi_X10_isWrong wv_X10_isWrong (blk_get0 KSm_b0) (by decide) rfl wl_RX10_103 mn_X10_isWrong rfl (by decide) (Nat.le_of_ble_eq_true rfl) ⟨_, rfl⟩ dX10_fails_1 ?_
  refine c_if_eq (tgt := 8) dX10_fails_4 rfl (fun h1 => ?_) (fun h1 => ?_)
  · refine c_aload_n (i := 0) dX10_fails_8 rfl rfl ?_
    refine c_iload_n (i := 1) dX10_fails_9 rfl rfl ?_
    refine pf_RX10_100 (blk_get0 KSm_b0) dX10_fails_10 ?_
    refine c_wrt (fun M2 => ?_)
    refine c_aload_n (i := 0) dX10_fails_13 rfl rfl ?_
    refine c_aload_n (i := 0) dX10_fails_14 rfl rfl ?_
    refine gf_RX10_84 (blk_get0 KSm_b0) dX10_fails_15 ?_
    refine pf_RX10_32 (blk_get0 KSm_b0) dX10_fails_18 ?_
    refine c_wrt (fun M3 => ?_)
    exact c_vret rfl dX10_fails_21
  · exact c_vret rfl dX10_fails_7

abbrev mdX10_isWord : MD := (yX10_isWord, cX10_isWord, 3, (some .boolean))
theorem mw_X10_isWord : mdW mdX10_isWord := ⟨wm_X10_isWord, w0_RX10, by decide, by decide⟩
theorem mn_X10_isWord : (parseMethodDescriptor yX10_isWord.desc).map (fun d => d.parameters.length) = some 1 := by decide +kernel
def j_X10_isWord_31 (M : Mem) : Option (Int32 × Mem) := some (0, M)
set_option maxRecDepth 20000 in
set_option maxHeartbeats 2000000 in
theorem jo_X10_isWord_31 (d : Nat) (hlev : 4 ≤ d) (M : Mem) : CorM KSm ST1 RX10 cX10_isWord 3 (some .boolean) d 31 [] [] M (j_X10_isWord_31 M) := by
  unfold j_X10_isWord_31
  refine c_iconst dX10_isWord_31 (v := 0) rfl ?_
  exact c_zret rfl (Or.inl rfl) dX10_isWord_32
def l_X10_isWord_35 (t1 : Nat) (K35 : Int32 × Mem → Option (Int32 × Mem)) : Int32 × Mem → Option (Int32 × Mem) := fun s => match s with
  | (x2, M) => if (nI (slen t1)) ≤ x2 then some (1, M) else bnd (f_X10_at ((M 0 11) + x2) M) (fun v5 M6 => if inb x2 (slen t1) then if v5 = (schr t1 (ix x2)) then K35 (x2 + 1, M6) else some (0, M6) else none)
set_option maxRecDepth 20000 in
set_option maxHeartbeats 2000000 in
theorem lo_X10_isWord_35 (d : Nat) (hlev : 4 ≤ d) (t1 : Nat) (h_t1 : strOk t1) (s : Int32 × Mem) : CorM KSm ST1 RX10 cX10_isWord 3 (some .boolean) d 35 [(0, .inr 0), (1, .inr t1), (2, .inl s.1)] [] s.2 (loopC (l_X10_isWord_35 t1) fuelL s) := by
  refine c_loop (L := fun s : Int32 × Mem => [(0, .inr 0), (1, .inr t1), (2, .inl s.1)]) (Mf := fun s : Int32 × Mem => s.2) (fun K35 hK35 s => ?_) fuelL s
  obtain ⟨x2, M⟩ := s
  show CorM KSm ST1 RX10 cX10_isWord 3 (some .boolean) d 35 [(0, .inr 0), (1, .inr t1), (2, .inl x2)] [] M (l_X10_isWord_35 t1 K35 (x2, M))
  unfold l_X10_isWord_35
  refine c_iload_n (i := 2) dX10_isWord_35 rfl rfl ?_
  refine c_aload_n (i := 1) dX10_isWord_36 rfl rfl ?_
  refine c_callStr (as := []) (rs := [.inl x2]) h_t1 (ev_J0_len KSm ST1 1 (Nat.le_refl _) h_t1 M) rfl (Nat.lt_of_lt_of_le (by decide) hlev) mw_J0_length wi_J0_length_8abf5 wv_J0_length_8abf5 wl_RX10_107 (n := 0) (by decide +kernel) rfl (by decide) (Nat.le_of_ble_eq_true rfl) ⟨_, rfl⟩ dX10_isWord_37 ?_
  refine c_icmp_ge (tgt := 69) dX10_isWord_40 rfl (fun h4 => ?_) (fun h4 => ?_)
  · refine c_iconst dX10_isWord_69 (v := 1) rfl ?_
    exact c_zret rfl (Or.inr rfl) dX10_isWord_70
  · refine c_aload_n (i := 0) dX10_isWord_43 rfl rfl ?_
    refine c_aload_n (i := 0) dX10_isWord_44 rfl rfl ?_
    refine gf_RX10_84 (blk_get0 KSm_b0) dX10_isWord_45 ?_
    refine c_iload_n (i := 2) dX10_isWord_48 rfl rfl ?_
    refine c_iadd dX10_isWord_49 ?_
    refine c_callV (as := [.inl ((M 0 11) + x2)]) (rs := []) (ev_X10_at 0 (Nat.le_refl _) ((M 0 11) + x2) M) rfl (Nat.lt_of_lt_of_le (by decide) hlev) mw_X10_at wi_X10_at wv_X10_at (blk_get0 KSm_b0) (by decide) rfl wl_RX10_80 mn_X10_at rfl (by decide) (Nat.le_of_ble_eq_true rfl) ⟨_, rfl⟩ dX10_isWord_50 (fun v5 M6 _ => ?_)
    refine c_aload_n (i := 1) dX10_isWord_53 rfl rfl ?_
    refine c_iload_n (i := 2) dX10_isWord_54 rfl rfl ?_
    refine c_chk (fun h7 => ?_)
    refine c_callStr (as := [.inl x2]) (rs := [.inl v5]) h_t1 (ev_J0_chr KSm ST1 3 (Nat.le_refl _) h_t1 x2 M6 h7) rfl (Nat.lt_of_lt_of_le (by decide) hlev) mw_J0_charAt wi_J0_charAt_5068e wv_J0_charAt_5068e wl_RX10_113 (n := 1) (by decide +kernel) rfl (by decide) (Nat.le_of_ble_eq_true rfl) ⟨_, rfl⟩ dX10_isWord_55 ?_
    refine c_icmp_eq (tgt := 63) dX10_isWord_58 rfl (fun h8 => ?_) (fun h8 => ?_)
    · refine c_iinc dX10_isWord_63 rfl (v := 1) rfl (by decide) (ls2 := [(0, .inr 0), (1, .inr t1), (2, .inl (x2 + 1))]) rfl ?_
      refine c_goto (tgt := 35) dX10_isWord_66 rfl ?_
      refine c_keep [0, 1, 2] (ls2 := [(0, .inr 0), (1, .inr t1), (2, .inl (x2 + 1))]) rfl ?_
      exact hK35 (x2 + 1, M6)
    · refine c_iconst dX10_isWord_61 (v := 0) rfl ?_
      exact c_zret rfl (Or.inl rfl) dX10_isWord_62
def f_X10_isWord (t1 : Nat) (M : Mem) : Option (Int32 × Mem) := if ¬ (p_X10_isWrong M) = 0 then j_X10_isWord_31 M else if ¬ (M 0 12) = 1 then j_X10_isWord_31 M else if ((M 0 10) - (M 0 11)) = (nI (slen t1)) then loopC (l_X10_isWord_35 t1) fuelL (0, M) else j_X10_isWord_31 M
set_option maxRecDepth 20000 in
set_option maxHeartbeats 2000000 in
theorem ev_X10_isWord (d : Nat) (hlev : 4 ≤ d) (t1 : Nat) (h_t1 : strOk t1) (M : Mem) : Ev KSm ST1 mdX10_isWord d [.inr 0, .inr t1] M (f_X10_isWord t1 M) := by
  refine ev_of rfl (Nat.le_of_ble_eq_true rfl) ?_
  show CorM KSm ST1 RX10 cX10_isWord 3 (some .boolean) d 0 [(0, .inr 0), (1, .inr t1)] [] M (f_X10_isWord t1 M)
  unfold f_X10_isWord
  refine c_aload_n (i := 0) dX10_isWord_0 rfl rfl ?_
  refine c_callVp (as := []) (rs := []) (ev_X10_isWrong 0 (Nat.le_refl _) M) rfl (Nat.lt_of_lt_of_le (by decide) hlev) mw_X10_isWrong wi_X10_isWrong wv_X10_isWrong (blk_get0 KSm_b0) (by decide) rfl wl_RX10_103 mn_X10_isWrong rfl (by decide) (Nat.le_of_ble_eq_true rfl) ⟨_, rfl⟩ dX10_isWord_1 ?_
  refine c_if_ne (tgt := 31) dX10_isWord_4 rfl (fun h1 => ?_) (fun h1 => ?_)
  · refine c_keep [] (ls2 := []) rfl ?_
    exact jo_X10_isWord_31 d hlev M
  · refine c_aload_n (i := 0) dX10_isWord_7 rfl rfl ?_
    refine gf_RX10_87 (blk_get0 KSm_b0) dX10_isWord_8 ?_
    refine c_iconst dX10_isWord_11 (v := 1) rfl ?_
    refine c_icmp_ne (tgt := 31) dX10_isWord_12 rfl (fun h2 => ?_) (fun h2 => ?_)
    · refine c_keep [] (ls2 := []) rfl ?_
      exact jo_X10_isWord_31 d hlev M
    · refine c_aload_n (i := 0) dX10_isWord_15 rfl rfl ?_
      refine gf_RX10_77 (blk_get0 KSm_b0) dX10_isWord_16 ?_
      refine c_aload_n (i := 0) dX10_isWord_19 rfl rfl ?_
      refine gf_RX10_84 (blk_get0 KSm_b0) dX10_isWord_20 ?_
      refine c_isub dX10_isWord_23 ?_
      refine c_aload_n (i := 1) dX10_isWord_24 rfl rfl ?_
      refine c_callStr (as := []) (rs := [.inl ((M 0 10) - (M 0 11))]) h_t1 (ev_J0_len KSm ST1 1 (Nat.le_refl _) h_t1 M) rfl (Nat.lt_of_lt_of_le (by decide) hlev) mw_J0_length wi_J0_length_8abf5 wv_J0_length_8abf5 wl_RX10_107 (n := 0) (by decide +kernel) rfl (by decide) (Nat.le_of_ble_eq_true rfl) ⟨_, rfl⟩ dX10_isWord_25 ?_
      refine c_icmp_eq (tgt := 33) dX10_isWord_28 rfl (fun h3 => ?_) (fun h3 => ?_)
      · refine c_iconst dX10_isWord_33 (v := 0) rfl ?_
        refine c_istore_n (i := 2) dX10_isWord_34 rfl (by decide) (ls2 := [(0, .inr 0), (1, .inr t1), (2, .inl 0)]) rfl ?_
        refine c_keep [0, 1, 2] (ls2 := [(0, .inr 0), (1, .inr t1), (2, .inl 0)]) rfl ?_
        exact lo_X10_isWord_35 d hlev t1 h_t1 (0, M)
      · refine c_keep [] (ls2 := []) rfl ?_
        exact jo_X10_isWord_31 d hlev M

abbrev mdX10_takesWord : MD := (yX10_takesWord, cX10_takesWord, 3, (some .boolean))
theorem mw_X10_takesWord : mdW mdX10_takesWord := ⟨wm_X10_takesWord, w0_RX10, by decide, by decide⟩
theorem mn_X10_takesWord : (parseMethodDescriptor yX10_takesWord.desc).map (fun d => d.parameters.length) = some 1 := by decide +kernel
def j_X10_takesWord_14 (x2 : Int32) (M : Mem) : Option (Int32 × Mem) := if isB x2 then some (x2, M) else none
set_option maxRecDepth 20000 in
set_option maxHeartbeats 2000000 in
theorem jo_X10_takesWord_14 (d : Nat) (hlev : 5 ≤ d) (x2 : Int32) (M : Mem) : CorM KSm ST1 RX10 cX10_takesWord 3 (some .boolean) d 14 [(2, .inl x2)] [] M (j_X10_takesWord_14 x2 M) := by
  unfold j_X10_takesWord_14
  refine c_iload_n (i := 2) dX10_takesWord_14 rfl rfl ?_
  refine c_chk (fun h4 => ?_)
  exact c_zret rfl h4 dX10_takesWord_15
def f_X10_takesWord (t1 : Nat) (M : Mem) : Option (Int32 × Mem) := bnd (f_X10_isWord t1 M) (fun v1 M2 => if v1 = 0 then j_X10_takesWord_14 v1 M2 else bnd (f_X10_token M2) (fun _ M6 => j_X10_takesWord_14 v1 M6))
set_option maxRecDepth 20000 in
set_option maxHeartbeats 2000000 in
theorem ev_X10_takesWord (d : Nat) (hlev : 5 ≤ d) (t1 : Nat) (h_t1 : strOk t1) (M : Mem) : Ev KSm ST1 mdX10_takesWord d [.inr 0, .inr t1] M (f_X10_takesWord t1 M) := by
  refine ev_of rfl (Nat.le_of_ble_eq_true rfl) ?_
  show CorM KSm ST1 RX10 cX10_takesWord 3 (some .boolean) d 0 [(0, .inr 0), (1, .inr t1)] [] M (f_X10_takesWord t1 M)
  unfold f_X10_takesWord
  refine c_aload_n (i := 0) dX10_takesWord_0 rfl rfl ?_
  refine c_aload_n (i := 1) dX10_takesWord_1 rfl rfl ?_
  refine c_callV (as := [.inr t1]) (rs := []) (ev_X10_isWord 4 (Nat.le_refl _) t1 h_t1 M) rfl (Nat.lt_of_lt_of_le (by decide) hlev) mw_X10_isWord wi_X10_isWord wv_X10_isWord (blk_get0 KSm_b0) (by decide) rfl wl_RX10_117 mn_X10_isWord rfl (by decide) (Nat.le_of_ble_eq_true rfl) ⟨_, rfl⟩ dX10_takesWord_2 (fun v1 M2 _ => ?_)
  refine c_istore_n (i := 2) dX10_takesWord_5 rfl (by decide) (ls2 := [(0, .inr 0), (1, .inr t1), (2, .inl v1)]) rfl ?_
  refine c_iload_n (i := 2) dX10_takesWord_6 rfl rfl ?_
  refine c_if_eq (tgt := 14) dX10_takesWord_7 rfl (fun h3 => ?_) (fun h3 => ?_)
  · refine c_keep [2] (ls2 := [(2, .inl v1)]) rfl ?_
    exact jo_X10_takesWord_14 d hlev v1 M2
  · refine c_aload_n (i := 0) dX10_takesWord_10 rfl rfl ?_
    refine c_callVv (as := []) (rs := []) (ev_X10_token 1 (Nat.le_refl _) M2) rfl (Nat.lt_of_lt_of_le (by decide) hlev) mw_X10_token wi_X10_token wv_X10_token (blk_get0 KSm_b0) (by decide) rfl wl_RX10_121 mn_X10_token rfl (by decide) (Nat.le_of_ble_eq_true rfl) rfl dX10_takesWord_11 (fun v5 M6 _ => ?_)
    refine c_keep [2] (ls2 := [(2, .inl v1)]) rfl ?_
    exact jo_X10_takesWord_14 d hlev v1 M6

abbrev mdX10_takesSign : MD := (yX10_takesSign, cX10_takesSign, 2, (some .boolean))
theorem mw_X10_takesSign : mdW mdX10_takesSign := ⟨wm_X10_takesSign, w0_RX10, by decide, by decide⟩
theorem mn_X10_takesSign : (parseMethodDescriptor yX10_takesSign.desc).map (fun d => d.parameters.length) = some 1 := by decide +kernel
def j_X10_takesSign_23 (M : Mem) : Option (Int32 × Mem) := some (0, M)
set_option maxRecDepth 20000 in
set_option maxHeartbeats 2000000 in
theorem jo_X10_takesSign_23 (d : Nat) (hlev : 2 ≤ d) (M : Mem) : CorM KSm ST1 RX10 cX10_takesSign 2 (some .boolean) d 23 [] [] M (j_X10_takesSign_23 M) := by
  unfold j_X10_takesSign_23
  refine c_iconst dX10_takesSign_23 (v := 0) rfl ?_
  exact c_zret rfl (Or.inl rfl) dX10_takesSign_24
def f_X10_takesSign (x1 : Int32) (M : Mem) : Option (Int32 × Mem) := if ¬ (p_X10_isWrong M) = 0 then j_X10_takesSign_23 M else if ¬ (M 0 12) = 3 then j_X10_takesSign_23 M else if (M 0 13) = x1 then bnd (f_X10_token M) (fun _ M5 => some (1, M5)) else j_X10_takesSign_23 M
set_option maxRecDepth 20000 in
set_option maxHeartbeats 2000000 in
theorem ev_X10_takesSign (d : Nat) (hlev : 2 ≤ d) (x1 : Int32) (M : Mem) : Ev KSm ST1 mdX10_takesSign d [.inr 0, .inl x1] M (f_X10_takesSign x1 M) := by
  refine ev_of rfl (Nat.le_of_ble_eq_true rfl) ?_
  show CorM KSm ST1 RX10 cX10_takesSign 2 (some .boolean) d 0 [(0, .inr 0), (1, .inl x1)] [] M (f_X10_takesSign x1 M)
  unfold f_X10_takesSign
  refine c_aload_n (i := 0) dX10_takesSign_0 rfl rfl ?_
  refine c_callVp (as := []) (rs := []) (ev_X10_isWrong 0 (Nat.le_refl _) M) rfl (Nat.lt_of_lt_of_le (by decide) hlev) mw_X10_isWrong wi_X10_isWrong wv_X10_isWrong (blk_get0 KSm_b0) (by decide) rfl wl_RX10_103 mn_X10_isWrong rfl (by decide) (Nat.le_of_ble_eq_true rfl) ⟨_, rfl⟩ dX10_takesSign_1 ?_
  refine c_if_ne (tgt := 23) dX10_takesSign_4 rfl (fun h1 => ?_) (fun h1 => ?_)
  · refine c_keep [] (ls2 := []) rfl ?_
    exact jo_X10_takesSign_23 d hlev M
  · refine c_aload_n (i := 0) dX10_takesSign_7 rfl rfl ?_
    refine gf_RX10_87 (blk_get0 KSm_b0) dX10_takesSign_8 ?_
    refine c_iconst dX10_takesSign_11 (v := 3) rfl ?_
    refine c_icmp_ne (tgt := 23) dX10_takesSign_12 rfl (fun h2 => ?_) (fun h2 => ?_)
    · refine c_keep [] (ls2 := []) rfl ?_
      exact jo_X10_takesSign_23 d hlev M
    · refine c_aload_n (i := 0) dX10_takesSign_15 rfl rfl ?_
      refine gf_RX10_97 (blk_get0 KSm_b0) dX10_takesSign_16 ?_
      refine c_iload_n (i := 1) dX10_takesSign_19 rfl rfl ?_
      refine c_icmp_eq (tgt := 25) dX10_takesSign_20 rfl (fun h3 => ?_) (fun h3 => ?_)
      · refine c_aload_n (i := 0) dX10_takesSign_25 rfl rfl ?_
        refine c_callVv (as := []) (rs := []) (ev_X10_token 1 (Nat.le_refl _) M) rfl (Nat.lt_of_lt_of_le (by decide) hlev) mw_X10_token wi_X10_token wv_X10_token (blk_get0 KSm_b0) (by decide) rfl wl_RX10_121 mn_X10_token rfl (by decide) (Nat.le_of_ble_eq_true rfl) rfl dX10_takesSign_26 (fun v4 M5 _ => ?_)
        refine c_iconst dX10_takesSign_29 (v := 1) rfl ?_
        exact c_zret rfl (Or.inr rfl) dX10_takesSign_30
      · refine c_keep [] (ls2 := []) rfl ?_
        exact jo_X10_takesSign_23 d hlev M

abbrev mdX10_figure : MD := (yX10_figure, cX10_figure, 4, (some .int))
theorem mw_X10_figure : mdW mdX10_figure := ⟨wm_X10_figure, w0_RX10, by decide, by decide⟩
theorem mn_X10_figure : (parseMethodDescriptor yX10_figure.desc).map (fun d => d.parameters.length) = some 2 := by decide +kernel
def j_X10_figure_58 (x3 : Int32) (M : Mem) : Option (Int32 × Mem) := some (x3, M)
set_option maxRecDepth 20000 in
set_option maxHeartbeats 2000000 in
theorem jo_X10_figure_58 (d : Nat) (hlev : 2 ≤ d) (x3 : Int32) (M : Mem) : CorM KSm ST1 RX10 cX10_figure 4 (some .int) d 58 [(3, .inl x3)] [] M (j_X10_figure_58 x3 M) := by
  unfold j_X10_figure_58
  refine c_iload_n (i := 3) dX10_figure_58 rfl rfl ?_
  exact c_iret rfl dX10_figure_59
def j_X10_figure_42 (M : Mem) : Option (Int32 × Mem) := if ¬ (p_X10_isWrong M) = 0 then j_X10_figure_58 (M 0 13) M else bnd (f_X10_token M) (fun _ M6 => j_X10_figure_58 (M 0 13) M6)
set_option maxRecDepth 20000 in
set_option maxHeartbeats 2000000 in
theorem jo_X10_figure_42 (d : Nat) (hlev : 2 ≤ d) (M : Mem) : CorM KSm ST1 RX10 cX10_figure 4 (some .int) d 42 [(0, .inr 0)] [] M (j_X10_figure_42 M) := by
  unfold j_X10_figure_42
  refine c_aload_n (i := 0) dX10_figure_42 rfl rfl ?_
  refine gf_RX10_97 (blk_get0 KSm_b0) dX10_figure_43 ?_
  refine c_istore_n (i := 3) dX10_figure_46 rfl (by decide) (ls2 := [(0, .inr 0), (3, .inl (M 0 13))]) rfl ?_
  refine c_aload_n (i := 0) dX10_figure_47 rfl rfl ?_
  refine c_callVp (as := []) (rs := []) (ev_X10_isWrong 0 (Nat.le_refl _) M) rfl (Nat.lt_of_lt_of_le (by decide) hlev) mw_X10_isWrong wi_X10_isWrong wv_X10_isWrong (blk_get0 KSm_b0) (by decide) rfl wl_RX10_103 mn_X10_isWrong rfl (by decide) (Nat.le_of_ble_eq_true rfl) ⟨_, rfl⟩ dX10_figure_48 ?_
  refine c_if_ne (tgt := 58) dX10_figure_51 rfl (fun h4 => ?_) (fun h4 => ?_)
  · refine c_keep [3] (ls2 := [(3, .inl (M 0 13))]) rfl ?_
    exact jo_X10_figure_58 d hlev (M 0 13) M
  · refine c_aload_n (i := 0) dX10_figure_54 rfl rfl ?_
    refine c_callVv (as := []) (rs := []) (ev_X10_token 1 (Nat.le_refl _) M) rfl (Nat.lt_of_lt_of_le (by decide) hlev) mw_X10_token wi_X10_token wv_X10_token (blk_get0 KSm_b0) (by decide) rfl wl_RX10_121 mn_X10_token rfl (by decide) (Nat.le_of_ble_eq_true rfl) rfl dX10_figure_55 (fun v5 M6 _ => ?_)
    refine c_keep [3] (ls2 := [(3, .inl (M 0 13))]) rfl ?_
    exact jo_X10_figure_58 d hlev (M 0 13) M6
def f_X10_figure (x1 : Int32) (x2 : Int32) (M : Mem) : Option (Int32 × Mem) := if (p_X10_isWrong M) = 0 then if (M 0 12) = 2 then if ¬ (p_X10_isIn (M 0 13) x1 x2) = 0 then j_X10_figure_42 M else bnd (f_X10_fails 2 M) (fun _ M8 => j_X10_figure_42 M8) else bnd (f_X10_fails 1 M) (fun _ M10 => j_X10_figure_42 M10) else some (x1, M)
set_option maxRecDepth 20000 in
set_option maxHeartbeats 2000000 in
theorem ev_X10_figure (d : Nat) (hlev : 2 ≤ d) (x1 : Int32) (x2 : Int32) (M : Mem) : Ev KSm ST1 mdX10_figure d [.inr 0, .inl x1, .inl x2] M (f_X10_figure x1 x2 M) := by
  refine ev_of rfl (Nat.le_of_ble_eq_true rfl) ?_
  show CorM KSm ST1 RX10 cX10_figure 4 (some .int) d 0 [(0, .inr 0), (1, .inl x1), (2, .inl x2)] [] M (f_X10_figure x1 x2 M)
  unfold f_X10_figure
  refine c_aload_n (i := 0) dX10_figure_0 rfl rfl ?_
  refine c_callVp (as := []) (rs := []) (ev_X10_isWrong 0 (Nat.le_refl _) M) rfl (Nat.lt_of_lt_of_le (by decide) hlev) mw_X10_isWrong wi_X10_isWrong wv_X10_isWrong (blk_get0 KSm_b0) (by decide) rfl wl_RX10_103 mn_X10_isWrong rfl (by decide) (Nat.le_of_ble_eq_true rfl) ⟨_, rfl⟩ dX10_figure_1 ?_
  refine c_if_eq (tgt := 9) dX10_figure_4 rfl (fun h1 => ?_) (fun h1 => ?_)
  · refine c_aload_n (i := 0) dX10_figure_9 rfl rfl ?_
    refine gf_RX10_87 (blk_get0 KSm_b0) dX10_figure_10 ?_
    refine c_iconst dX10_figure_13 (v := 2) rfl ?_
    refine c_icmp_eq (tgt := 25) dX10_figure_14 rfl (fun h2 => ?_) (fun h2 => ?_)
    · refine c_aload_n (i := 0) dX10_figure_25 rfl rfl ?_
      refine gf_RX10_97 (blk_get0 KSm_b0) dX10_figure_26 ?_
      refine c_iload_n (i := 1) dX10_figure_29 rfl rfl ?_
      refine c_iload_n (i := 2) dX10_figure_30 rfl rfl ?_
      refine c_callSp (as := [.inl (M 0 13), .inl x1, .inl x2]) (rs := []) (ev_X10_isIn 0 (Nat.le_refl _) (M 0 13) x1 x2 M) rfl (Nat.lt_of_lt_of_le (by decide) hlev) mw_X10_isIn ws_X10_isIn wl_RX10_70 mn_X10_isIn rfl (by decide) (Nat.le_of_ble_eq_true rfl) ⟨_, rfl⟩ dX10_figure_31 ?_
      refine c_if_ne (tgt := 42) dX10_figure_34 rfl (fun h3 => ?_) (fun h3 => ?_)
      · refine c_keep [0] (ls2 := [(0, .inr 0)]) rfl ?_
        exact jo_X10_figure_42 d hlev M
      · refine c_aload_n (i := 0) dX10_figure_37 rfl rfl ?_
        refine c_iconst dX10_figure_38 (v := 2) rfl ?_
        refine c_callVv (as := [.inl 2]) (rs := []) (ev_X10_fails 1 (Nat.le_refl _) 2 M) rfl (Nat.lt_of_lt_of_le (by decide) hlev) mw_X10_fails wi_X10_fails wv_X10_fails (blk_get0 KSm_b0) (by decide) rfl wl_RX10_124 mn_X10_fails rfl (by decide) (Nat.le_of_ble_eq_true rfl) rfl dX10_figure_39 (fun v7 M8 _ => ?_)
        refine c_keep [0] (ls2 := [(0, .inr 0)]) rfl ?_
        exact jo_X10_figure_42 d hlev M8
    · refine c_aload_n (i := 0) dX10_figure_17 rfl rfl ?_
      refine c_iconst dX10_figure_18 (v := 1) rfl ?_
      refine c_callVv (as := [.inl 1]) (rs := []) (ev_X10_fails 1 (Nat.le_refl _) 1 M) rfl (Nat.lt_of_lt_of_le (by decide) hlev) mw_X10_fails wi_X10_fails wv_X10_fails (blk_get0 KSm_b0) (by decide) rfl wl_RX10_124 mn_X10_fails rfl (by decide) (Nat.le_of_ble_eq_true rfl) rfl dX10_figure_19 (fun v9 M10 _ => ?_)
      refine c_goto (tgt := 42) dX10_figure_22 rfl ?_
      refine c_keep [0] (ls2 := [(0, .inr 0)]) rfl ?_
      exact jo_X10_figure_42 d hlev M10
  · refine c_iload_n (i := 1) dX10_figure_7 rfl rfl ?_
    exact c_iret rfl dX10_figure_8

abbrev mdX10_must : MD := (yX10_must, cX10_must, 2, none)
theorem mw_X10_must : mdW mdX10_must := ⟨wm_X10_must, w0_RX10, by decide, by decide⟩
theorem mn_X10_must : (parseMethodDescriptor yX10_must.desc).map (fun d => d.parameters.length) = some 1 := by decide +kernel
def j_X10_must_9 (M : Mem) : Option (Int32 × Mem) := some (0, M)
set_option maxRecDepth 20000 in
set_option maxHeartbeats 2000000 in
theorem jo_X10_must_9 (d : Nat) (hlev : 2 ≤ d) (M : Mem) : CorM KSm ST1 RX10 cX10_must 2 none d 9 [] [] M (j_X10_must_9 M) := by
  unfold j_X10_must_9
  exact c_vret rfl dX10_must_9
def f_X10_must (x1 : Int32) (M : Mem) : Option (Int32 × Mem) := if ¬ x1 = 0 then j_X10_must_9 M else bnd (f_X10_fails 1 M) (fun _ M3 => j_X10_must_9 M3)
set_option maxRecDepth 20000 in
set_option maxHeartbeats 2000000 in
theorem ev_X10_must (d : Nat) (hlev : 2 ≤ d) (x1 : Int32) (M : Mem) : Ev KSm ST1 mdX10_must d [.inr 0, .inl x1] M (f_X10_must x1 M) := by
  refine ev_of rfl (Nat.le_of_ble_eq_true rfl) ?_
  show CorM KSm ST1 RX10 cX10_must 2 none d 0 [(0, .inr 0), (1, .inl x1)] [] M (f_X10_must x1 M)
  unfold f_X10_must
  refine c_iload_n (i := 1) dX10_must_0 rfl rfl ?_
  refine c_if_ne (tgt := 9) dX10_must_1 rfl (fun h1 => ?_) (fun h1 => ?_)
  · refine c_keep [] (ls2 := []) rfl ?_
    exact jo_X10_must_9 d hlev M
  · refine c_aload_n (i := 0) dX10_must_4 rfl rfl ?_
    refine c_iconst dX10_must_5 (v := 1) rfl ?_
    refine c_callVv (as := [.inl 1]) (rs := []) (ev_X10_fails 1 (Nat.le_refl _) 1 M) rfl (Nat.lt_of_lt_of_le (by decide) hlev) mw_X10_fails wi_X10_fails wv_X10_fails (blk_get0 KSm_b0) (by decide) rfl wl_RX10_124 mn_X10_fails rfl (by decide) (Nat.le_of_ble_eq_true rfl) rfl dX10_must_6 (fun v2 M3 _ => ?_)
    refine c_keep [] (ls2 := []) rfl ?_
    exact jo_X10_must_9 d hlev M3
