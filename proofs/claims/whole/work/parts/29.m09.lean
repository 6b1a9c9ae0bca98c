abbrev mdX9_hostRead : MD := (yX9_hostRead, cX9_hostRead, 6, (some .int))
theorem mw_X9_hostRead : mdW mdX9_hostRead := ⟨wm_X9_hostRead, w0_RX9, by decide, by decide⟩
theorem mn_X9_hostRead : (parseMethodDescriptor yX9_hostRead.desc).map (fun d => d.parameters.length) = some 3 := by decide +kernel
def j_X9_hostRead_81 (w0 : Int32) (M : Mem) : Option ((Int32 ⊕ String) × Mem) := some (rOk (w0), M)
set_option maxRecDepth 20000 in
set_option maxHeartbeats 2000000 in
theorem jo_X9_hostRead_81 (d : Nat) (hlev : 9 ≤ d) (w0 : Int32) (M : Mem) : CorX KSx ST1 RX9 cX9_hostRead 6 (some .int) d 81 [] [.inl w0] M (j_X9_hostRead_81 w0 M) := by
  unfold j_X9_hostRead_81
  exact c_xret rfl dX9_hostRead_81
def f_X9_hostRead (x1 : Int32) (x2 : Int32) (x3 : Int32) (M : Mem) : Option ((Int32 ⊕ String) × Mem) := bndX (f_X9_requireWord x1 x2 x3 M) (fun _ M2 => if ¬ M2 0 5 < 0 ∧ blkD KSx (ix (M2 0 5)) blk4 then bnd (f_X1_useLine 45 x1 x2 (M2 (ix (M2 0 5) + 1) 7) 34 M2) (fun v4 M5 => if ¬ v4 = (-1) then if inb ((v4 * 8) + x3) 64 then j_X9_hostRead_81 (M5 49 (ix ((v4 * 8) + x3))) M5 else none else if inb (p_X9_wordPlace x1 x2 x3) 1024 then j_X9_hostRead_81 (M5 35 (ix (p_X9_wordPlace x1 x2 x3))) M5 else none) else none)
set_option maxRecDepth 20000 in
set_option maxHeartbeats 2000000 in
theorem ev_X9_hostRead (d : Nat) (hlev : 9 ≤ d) (x1 : Int32) (x2 : Int32) (x3 : Int32) (M : Mem) : EvX KSx ST1 mdX9_hostRead d [.inr 0, .inl x1, .inl x2, .inl x3] M (f_X9_hostRead x1 x2 x3 M) := by
  refine evX_of rfl (Nat.le_of_ble_eq_true rfl) ?_
  show CorX KSx ST1 RX9 cX9_hostRead 6 (some .int) d 0 [(0, .inr 0), (1, .inl x1), (2, .inl x2), (3, .inl x3)] [] M (f_X9_hostRead x1 x2 x3 M)
  unfold f_X9_hostRead
  refine c_aload_n (i := 0) dX9_hostRead_0 rfl rfl ?_
  refine c_iload_n (i := 1) dX9_hostRead_1 rfl rfl ?_
  refine c_iload_n (i := 2) dX9_hostRead_2 rfl rfl ?_
  refine c_iload_n (i := 3) dX9_hostRead_3 rfl rfl ?_
  refine c_callX (as := [.inl x1, .inl x2, .inl x3]) (rs := []) (ev_X9_requireWord 8 (Nat.le_refl _) x1 x2 x3 M) rfl (Nat.lt_of_lt_of_le (by decide) hlev) mw_X9_requireWord wi_X9_requireWord wv_X9_requireWord (blk_get0 KSx_b0) (by decide) rfl wl_RX9_150 mn_X9_requireWord rfl (by decide) (Nat.le_of_ble_eq_true rfl) rfl dX9_hostRead_4 (fun v1 M2 _ => ?_)
  refine c_aload_n (i := 0) dX9_hostRead_7 rfl rfl ?_
  refine gf_RX9_33 (blk_get0 KSx_b0) dX9_hostRead_8 ?_
  refine gf_RX9_126 (blk_get0 (blk_sub (C := blk5) (i := 33) KSx_b0 rfl)) dX9_hostRead_11 ?_
  refine c_astore dX9_hostRead_14 (by decide) (ls2 := [(0, .inr 0), (1, .inl x1), (2, .inl x2), (3, .inl x3), (4, .inr 45)]) rfl ?_
  refine c_aload dX9_hostRead_16 rfl ?_
  refine c_iload_n (i := 1) dX9_hostRead_18 rfl rfl ?_
  refine c_iload_n (i := 2) dX9_hostRead_19 rfl rfl ?_
  refine c_aload_n (i := 0) dX9_hostRead_20 rfl rfl ?_
  refine c_chk (fun h3 => ?_)
  refine gf_RX9_23 (blk_get0 KSx_b0) h3.1 dX9_hostRead_21 ?_
  refine gf_RX9_192 (blk_get0 (blk_of h3.2)) dX9_hostRead_24 ?_
  refine c_bipush dX9_hostRead_27 (v := 7) rfl ?_
  refine c_iald (blk_get0 (blk_sub (C := [(20, 9)]) (i := 1) (blk_of h3.2) rfl)) (by decide) dX9_hostRead_29 ?_
  refine c_aload_n (i := 0) dX9_hostRead_30 rfl rfl ?_
  refine gf_RX9_33 (blk_get0 KSx_b0) dX9_hostRead_31 ?_
  refine gf_RX9_154 (blk_get0 (blk_sub (C := blk5) (i := 33) KSx_b0 rfl)) dX9_hostRead_34 ?_
  refine c_callV (as := [.inl x1, .inl x2, .inl (M2 (ix (M2 0 5) + 1) 7), .inr 34]) (rs := []) (ev_X1_useLine 4 (Nat.le_refl _) 45 (blk_sub (C := blk1) (i := 12) (blk_sub (C := blk5) (i := 33) KSx_b0 rfl) rfl) x1 x2 (M2 (ix (M2 0 5) + 1) 7) 34 (blk_sub (C := blk8) (i := 1) (blk_sub (C := blk5) (i := 33) KSx_b0 rfl) rfl) M2) rfl (Nat.lt_of_lt_of_le (by decide) hlev) mw_X1_useLine wi_X1_useLine wv_X1_useLine (blk_get0 (blk_sub (C := blk1) (i := 12) (blk_sub (C := blk5) (i := 33) KSx_b0 rfl) rfl)) (by decide) rfl wl_RX9_195 mn_X1_useLine rfl (by decide) (Nat.le_of_ble_eq_true rfl) ⟨_, rfl⟩ dX9_hostRead_37 (fun v4 M5 _ => ?_)
  refine c_istore dX9_hostRead_40 (by decide) (ls2 := [(0, .inr 0), (1, .inl x1), (2, .inl x2), (3, .inl x3), (4, .inr 45), (5, .inl v4)]) rfl ?_
  refine c_iload dX9_hostRead_42 rfl ?_
  refine c_iconst dX9_hostRead_44 (v := (-1)) rfl ?_
  refine c_icmp_ne (tgt := 68) dX9_hostRead_45 rfl (fun h6 => ?_) (fun h6 => ?_)
  · refine c_aload dX9_hostRead_68 rfl ?_
    refine gf_RX9_199 (blk_get0 (blk_sub (C := blk1) (i := 12) (blk_sub (C := blk5) (i := 33) KSx_b0 rfl) rfl)) dX9_hostRead_70 ?_
    refine c_iload dX9_hostRead_73 rfl ?_
    refine c_bipush dX9_hostRead_75 (v := 8) rfl ?_
    refine c_imul dX9_hostRead_77 ?_
    refine c_iload_n (i := 3) dX9_hostRead_78 rfl rfl ?_
    refine c_iadd dX9_hostRead_79 ?_
    refine c_chk (fun h7 => ?_)
    refine c_iald (blk_get0 (blk_sub (C := [(20, 64)]) (i := 4) (blk_sub (C := blk1) (i := 12) (blk_sub (C := blk5) (i := 33) KSx_b0 rfl) rfl) rfl)) h7 dX9_hostRead_80 ?_
    refine c_keep [] (ls2 := []) rfl ?_
    exact jo_X9_hostRead_81 d hlev (M5 49 (ix ((v4 * 8) + x3))) M5
  · refine c_aload_n (i := 0) dX9_hostRead_48 rfl rfl ?_
    refine gf_RX9_33 (blk_get0 KSx_b0) dX9_hostRead_49 ?_
    refine gf_RX9_154 (blk_get0 (blk_sub (C := blk5) (i := 33) KSx_b0 rfl)) dX9_hostRead_52 ?_
    refine gf_RX9_158 (blk_get0 (blk_sub (C := blk8) (i := 1) (blk_sub (C := blk5) (i := 33) KSx_b0 rfl) rfl)) dX9_hostRead_55 ?_
    refine c_iload_n (i := 1) dX9_hostRead_58 rfl rfl ?_
    refine c_iload_n (i := 2) dX9_hostRead_59 rfl rfl ?_
    refine c_iload_n (i := 3) dX9_hostRead_60 rfl rfl ?_
    refine c_callSp (as := [.inl x1, .inl x2, .inl x3]) (rs := [.inr 35]) (ev_X9_wordPlace 0 (Nat.le_refl _) x1 x2 x3 M5) rfl (Nat.lt_of_lt_of_le (by decide) hlev) mw_X9_wordPlace ws_X9_wordPlace wl_RX9_163 mn_X9_wordPlace rfl (by decide) (Nat.le_of_ble_eq_true rfl) ⟨_, rfl⟩ dX9_hostRead_61 ?_
    refine c_chk (fun h8 => ?_)
    refine c_iald (blk_get0 (blk_sub (C := [(20, 1024)]) (i := 1) (blk_sub (C := blk8) (i := 1) (blk_sub (C := blk5) (i := 33) KSx_b0 rfl) rfl) rfl)) h8 dX9_hostRead_64 ?_
    refine c_goto (tgt := 81) dX9_hostRead_65 rfl ?_
    refine c_keep [] (ls2 := []) rfl ?_
    exact jo_X9_hostRead_81 d hlev (M5 35 (ix (p_X9_wordPlace x1 x2 x3))) M5

abbrev mdX9_hostWrite : MD := (yX9_hostWrite, cX9_hostWrite, 8, (some .int))
theorem mw_X9_hostWrite : mdW mdX9_hostWrite := ⟨wm_X9_hostWrite, w0_RX9, by decide, by decide⟩
theorem mn_X9_hostWrite : (parseMethodDescriptor yX9_hostWrite.desc).map (fun d => d.parameters.length) = some 4 := by decide +kernel
def j_X9_hostWrite_128 (x7 : Int32) (M : Mem) : Option ((Int32 ⊕ String) × Mem) := some (rOk (x7), M)
set_option maxRecDepth 20000 in
set_option maxHeartbeats 2000000 in
theorem jo_X9_hostWrite_128 (d : Nat) (hlev : 9 ≤ d) (x7 : Int32) (M : Mem) : CorX KSx ST1 RX9 cX9_hostWrite 8 (some .int) d 128 [(7, .inl x7)] [] M (j_X9_hostWrite_128 x7 M) := by
  unfold j_X9_hostWrite_128
  refine c_iload dX9_hostWrite_128 rfl ?_
  exact c_xret rfl dX9_hostWrite_130
def f_X9_hostWrite (x1 : Int32) (x2 : Int32) (x3 : Int32) (x4 : Int32) (M : Mem) : Option ((Int32 ⊕ String) × Mem) := bndX (f_X9_requireWord x1 x2 x3 M) (fun _ M2 => if ¬ M2 0 5 < 0 ∧ blkD KSx (ix (M2 0 5)) blk4 then bnd (f_X1_useLine 45 x1 x2 (M2 (ix (M2 0 5) + 1) 7) 34 M2) (fun v4 M5 => if ¬ v4 = (-1) then if inb ((v4 * 8) + x3) 64 then if inb ((v4 * 8) + x3) 64 then wrt (up M5 49 (ix ((v4 * 8) + x3)) x4) (fun M9 => if inb v4 8 then wrt (up M9 47 (ix v4) 1) (fun M11 => j_X9_hostWrite_128 (M5 49 (ix ((v4 * 8) + x3))) M11) else none) else none else none else if inb (p_X9_wordPlace x1 x2 x3) 1024 then if inb (p_X9_wordPlace x1 x2 x3) 1024 then wrt (up M5 35 (ix (p_X9_wordPlace x1 x2 x3)) x4) (fun M14 => j_X9_hostWrite_128 (M5 35 (ix (p_X9_wordPlace x1 x2 x3))) M14) else none else none) else none)
set_option maxRecDepth 20000 in
set_option maxHeartbeats 2000000 in
theorem ev_X9_hostWrite (d : Nat) (hlev : 9 ≤ d) (x1 : Int32) (x2 : Int32) (x3 : Int32) (x4 : Int32) (M : Mem) : EvX KSx ST1 mdX9_hostWrite d [.inr 0, .inl x1, .inl x2, .inl x3, .inl x4] M (f_X9_hostWrite x1 x2 x3 x4 M) := by
  refine evX_of rfl (Nat.le_of_ble_eq_true rfl) ?_
  show CorX KSx ST1 RX9 cX9_hostWrite 8 (some .int) d 0 [(0, .inr 0), (1, .inl x1), (2, .inl x2), (3, .inl x3), (4, .inl x4)] [] M (f_X9_hostWrite x1 x2 x3 x4 M)
  unfold f_X9_hostWrite
  refine c_aload_n (i := 0) dX9_hostWrite_0 rfl rfl ?_
  refine c_iload_n (i := 1) dX9_hostWrite_1 rfl rfl ?_
  refine c_iload_n (i := 2) dX9_hostWrite_2 rfl rfl ?_
  refine c_iload_n (i := 3) dX9_hostWrite_3 rfl rfl ?_
  refine c_callX (as := [.inl x1, .inl x2, .inl x3]) (rs := []) (ev_X9_requireWord 8 (Nat.le_refl _) x1 x2 x3 M) rfl (Nat.lt_of_lt_of_le (by decide) hlev) mw_X9_requireWord wi_X9_requireWord wv_X9_requireWord (blk_get0 KSx_b0) (by decide) rfl wl_RX9_150 mn_X9_requireWord rfl (by decide) (Nat.le_of_ble_eq_true rfl) rfl dX9_hostWrite_4 (fun v1 M2 _ => ?_)
  refine c_aload_n (i := 0) dX9_hostWrite_7 rfl rfl ?_
  refine gf_RX9_33 (blk_get0 KSx_b0) dX9_hostWrite_8 ?_
  refine gf_RX9_126 (blk_get0 (blk_sub (C := blk5) (i := 33) KSx_b0 rfl)) dX9_hostWrite_11 ?_
  refine c_astore dX9_hostWrite_14 (by decide) (ls2 := [(0, .inr 0), (1, .inl x1), (2, .inl x2), (3, .inl x3), (4, .inl x4), (5, .inr 45)]) rfl ?_
  refine c_aload dX9_hostWrite_16 rfl ?_
  refine c_iload_n (i := 1) dX9_hostWrite_18 rfl rfl ?_
  refine c_iload_n (i := 2) dX9_hostWrite_19 rfl rfl ?_
  refine c_aload_n (i := 0) dX9_hostWrite_20 rfl rfl ?_
  refine c_chk (fun h3 => ?_)
  refine gf_RX9_23 (blk_get0 KSx_b0) h3.1 dX9_hostWrite_21 ?_
  refine gf_RX9_192 (blk_get0 (blk_of h3.2)) dX9_hostWrite_24 ?_
  refine c_bipush dX9_hostWrite_27 (v := 7) rfl ?_
  refine c_iald (blk_get0 (blk_sub (C := [(20, 9)]) (i := 1) (blk_of h3.2) rfl)) (by decide) dX9_hostWrite_29 ?_
  refine c_aload_n (i := 0) dX9_hostWrite_30 rfl rfl ?_
  refine gf_RX9_33 (blk_get0 KSx_b0) dX9_hostWrite_31 ?_
  refine gf_RX9_154 (blk_get0 (blk_sub (C := blk5) (i := 33) KSx_b0 rfl)) dX9_hostWrite_34 ?_
  refine c_callV (as := [.inl x1, .inl x2, .inl (M2 (ix (M2 0 5) + 1) 7), .inr 34]) (rs := []) (ev_X1_useLine 4 (Nat.le_refl _) 45 (blk_sub (C := blk1) (i := 12) (blk_sub (C := blk5) (i := 33) KSx_b0 rfl) rfl) x1 x2 (M2 (ix (M2 0 5) + 1) 7) 34 (blk_sub (C := blk8) (i := 1) (blk_sub (C := blk5) (i := 33) KSx_b0 rfl) rfl) M2) rfl (Nat.lt_of_lt_of_le (by decide) hlev) mw_X1_useLine wi_X1_useLine wv_X1_useLine (blk_get0 (blk_sub (C := blk1) (i := 12) (blk_sub (C := blk5) (i := 33) KSx_b0 rfl) rfl)) (by decide) rfl wl_RX9_195 mn_X1_useLine rfl (by decide) (Nat.le_of_ble_eq_true rfl) ⟨_, rfl⟩ dX9_hostWrite_37 (fun v4 M5 _ => ?_)
  refine c_istore dX9_hostWrite_40 (by decide) (ls2 := [(0, .inr 0), (1, .inl x1), (2, .inl x2), (3, .inl x3), (4, .inl x4), (5, .inr 45), (6, .inl v4)]) rfl ?_
  refine c_iload dX9_hostWrite_42 rfl ?_
  refine c_iconst dX9_hostWrite_44 (v := (-1)) rfl ?_
  refine c_icmp_ne (tgt := 89) dX9_hostWrite_45 rfl (fun h6 => ?_) (fun h6 => ?_)
  · refine c_aload dX9_hostWrite_89 rfl ?_
    refine gf_RX9_199 (blk_get0 (blk_sub (C := blk1) (i := 12) (blk_sub (C := blk5) (i := 33) KSx_b0 rfl) rfl)) dX9_hostWrite_91 ?_
    refine c_iload dX9_hostWrite_94 rfl ?_
    refine c_bipush dX9_hostWrite_96 (v := 8) rfl ?_
    refine c_imul dX9_hostWrite_98 ?_
    refine c_iload_n (i := 3) dX9_hostWrite_99 rfl rfl ?_
    refine c_iadd dX9_hostWrite_100 ?_
    refine c_chk (fun h7 => ?_)
    refine c_iald (blk_get0 (blk_sub (C := [(20, 64)]) (i := 4) (blk_sub (C := blk1) (i := 12) (blk_sub (C := blk5) (i := 33) KSx_b0 rfl) rfl) rfl)) h7 dX9_hostWrite_101 ?_
    refine c_istore dX9_hostWrite_102 (by decide) (ls2 := [(0, .inr 0), (1, .inl x1), (2, .inl x2), (3, .inl x3), (4, .inl x4), (5, .inr 45), (6, .inl v4), (7, .inl (M5 49 (ix ((v4 * 8) + x3))))]) rfl ?_
    refine c_aload dX9_hostWrite_104 rfl ?_
    refine gf_RX9_199 (blk_get0 (blk_sub (C := blk1) (i := 12) (blk_sub (C := blk5) (i := 33) KSx_b0 rfl) rfl)) dX9_hostWrite_106 ?_
    refine c_iload dX9_hostWrite_109 rfl ?_
    refine c_bipush dX9_hostWrite_111 (v := 8) rfl ?_
    refine c_imul dX9_hostWrite_113 ?_
    refine c_iload_n (i := 3) dX9_hostWrite_114 rfl rfl ?_
    refine c_iadd dX9_hostWrite_115 ?_
    refine c_iload dX9_hostWrite_116 rfl ?_
    refine c_chk (fun h8 => ?_)
    refine c_iast (blk_get0 (blk_sub (C := [(20, 64)]) (i := 4) (blk_sub (C := blk1) (i := 12) (blk_sub (C := blk5) (i := 33) KSx_b0 rfl) rfl) rfl)) h8 dX9_hostWrite_118 ?_
    refine c_wrt (fun M9 => ?_)
    refine c_aload dX9_hostWrite_119 rfl ?_
    refine gf_RX9_200 (blk_get0 (blk_sub (C := blk1) (i := 12) (blk_sub (C := blk5) (i := 33) KSx_b0 rfl) rfl)) dX9_hostWrite_121 ?_
    refine c_iload dX9_hostWrite_124 rfl ?_
    refine c_iconst dX9_hostWrite_126 (v := 1) rfl ?_
    refine c_chk (fun h10 => ?_)
    refine c_zast (blk_get0 (blk_sub (C := [(21, 8)]) (i := 2) (blk_sub (C := blk1) (i := 12) (blk_sub (C := blk5) (i := 33) KSx_b0 rfl) rfl) rfl)) h10 (Or.inr rfl) dX9_hostWrite_127 ?_
    refine c_wrt (fun M11 => ?_)
    refine c_keep [7] (ls2 := [(7, .inl (M5 49 (ix ((v4 * 8) + x3))))]) rfl ?_
    exact jo_X9_hostWrite_128 d hlev (M5 49 (ix ((v4 * 8) + x3))) M11
  · refine c_aload_n (i := 0) dX9_hostWrite_48 rfl rfl ?_
    refine gf_RX9_33 (blk_get0 KSx_b0) dX9_hostWrite_49 ?_
    refine gf_RX9_154 (blk_get0 (blk_sub (C := blk5) (i := 33) KSx_b0 rfl)) dX9_hostWrite_52 ?_
    refine gf_RX9_158 (blk_get0 (blk_sub (C := blk8) (i := 1) (blk_sub (C := blk5) (i := 33) KSx_b0 rfl) rfl)) dX9_hostWrite_55 ?_
    refine c_iload_n (i := 1) dX9_hostWrite_58 rfl rfl ?_
    refine c_iload_n (i := 2) dX9_hostWrite_59 rfl rfl ?_
    refine c_iload_n (i := 3) dX9_hostWrite_60 rfl rfl ?_
    refine c_callSp (as := [.inl x1, .inl x2, .inl x3]) (rs := [.inr 35]) (ev_X9_wordPlace 0 (Nat.le_refl _) x1 x2 x3 M5) rfl (Nat.lt_of_lt_of_le (by decide) hlev) mw_X9_wordPlace ws_X9_wordPlace wl_RX9_163 mn_X9_wordPlace rfl (by decide) (Nat.le_of_ble_eq_true rfl) ⟨_, rfl⟩ dX9_hostWrite_61 ?_
    refine c_chk (fun h12 => ?_)
    refine c_iald (blk_get0 (blk_sub (C := [(20, 1024)]) (i := 1) (blk_sub (C := blk8) (i := 1) (blk_sub (C := blk5) (i := 33) KSx_b0 rfl) rfl) rfl)) h12 dX9_hostWrite_64 ?_
    refine c_istore dX9_hostWrite_65 (by decide) (ls2 := [(0, .inr 0), (1, .inl x1), (2, .inl x2), (3, .inl x3), (4, .inl x4), (5, .inr 45), (6, .inl v4), (7, .inl (M5 35 (ix (p_X9_wordPlace x1 x2 x3))))]) rfl ?_
    refine c_aload_n (i := 0) dX9_hostWrite_67 rfl rfl ?_
    refine gf_RX9_33 (blk_get0 KSx_b0) dX9_hostWrite_68 ?_
    refine gf_RX9_154 (blk_get0 (blk_sub (C := blk5) (i := 33) KSx_b0 rfl)) dX9_hostWrite_71 ?_
    refine gf_RX9_158 (blk_get0 (blk_sub (C := blk8) (i := 1) (blk_sub (C := blk5) (i := 33) KSx_b0 rfl) rfl)) dX9_hostWrite_74 ?_
    refine c_iload_n (i := 1) dX9_hostWrite_77 rfl rfl ?_
    refine c_iload_n (i := 2) dX9_hostWrite_78 rfl rfl ?_
    refine c_iload_n (i := 3) dX9_hostWrite_79 rfl rfl ?_
    refine c_callSp (as := [.inl x1, .inl x2, .inl x3]) (rs := [.inr 35]) (ev_X9_wordPlace 0 (Nat.le_refl _) x1 x2 x3 M5) rfl (Nat.lt_of_lt_of_le (by decide) hlev) mw_X9_wordPlace ws_X9_wordPlace wl_RX9_163 mn_X9_wordPlace rfl (by decide) (Nat.le_of_ble_eq_true rfl) ⟨_, rfl⟩ dX9_hostWrite_80 ?_
    refine c_iload dX9_hostWrite_83 rfl ?_
    refine c_chk (fun h13 => ?_)
    refine c_iast (blk_get0 (blk_sub (C := [(20, 1024)]) (i := 1) (blk_sub (C := blk8) (i := 1) (blk_sub (C := blk5) (i := 33) KSx_b0 rfl) rfl) rfl)) h13 dX9_hostWrite_85 ?_
    refine c_wrt (fun M14 => ?_)
    refine c_goto (tgt := 128) dX9_hostWrite_86 rfl ?_
    refine c_keep [7] (ls2 := [(7, .inl (M5 35 (ix (p_X9_wordPlace x1 x2 x3))))]) rfl ?_
    exact jo_X9_hostWrite_128 d hlev (M5 35 (ix (p_X9_wordPlace x1 x2 x3))) M14

abbrev mdX9_flush : MD := (yX9_flush, cX9_flush, 3, (some .boolean))
theorem mw_X9_flush : mdW mdX9_flush := ⟨wm_X9_flush, w0_RX9, by decide, by decide⟩
theorem mn_X9_flush : (parseMethodDescriptor yX9_flush.desc).map (fun d => d.parameters.length) = some 2 := by decide +kernel
def f_X9_flush (x1 : Int32) (x2 : Int32) (M : Mem) : Option ((Int32 ⊕ String) × Mem) := bndX (f_X9_requireRow x1 x2 M) (fun _ M2 => bnd (f_X1_lineOf 45 x1 x2 M2) (fun v3 M4 => bnd (f_X1_writeBack 45 v3 34 M4) (fun v5 M6 => if isB v5 then some (rOk (v5), M6) else none)))
set_option maxRecDepth 20000 in
set_option maxHeartbeats 2000000 in
theorem ev_X9_flush (d : Nat) (hlev : 8 ≤ d) (x1 : Int32) (x2 : Int32) (M : Mem) : EvX KSx ST1 mdX9_flush d [.inr 0, .inl x1, .inl x2] M (f_X9_flush x1 x2 M) := by
  refine evX_of rfl (Nat.le_of_ble_eq_true rfl) ?_
  show CorX KSx ST1 RX9 cX9_flush 3 (some .boolean) d 0 [(0, .inr 0), (1, .inl x1), (2, .inl x2)] [] M (f_X9_flush x1 x2 M)
  unfold f_X9_flush
  refine c_aload_n (i := 0) dX9_flush_0 rfl rfl ?_
  refine c_iload_n (i := 1) dX9_flush_1 rfl rfl ?_
  refine c_iload_n (i := 2) dX9_flush_2 rfl rfl ?_
  refine c_callX (as := [.inl x1, .inl x2]) (rs := []) (ev_X9_requireRow 7 (Nat.le_refl _) x1 x2 M) rfl (Nat.lt_of_lt_of_le (by decide) hlev) mw_X9_requireRow wi_X9_requireRow wv_X9_requireRow (blk_get0 KSx_b0) (by decide) rfl wl_RX9_167 mn_X9_requireRow rfl (by decide) (Nat.le_of_ble_eq_true rfl) rfl dX9_flush_3 (fun v1 M2 _ => ?_)
  refine c_aload_n (i := 0) dX9_flush_6 rfl rfl ?_
  refine gf_RX9_33 (blk_get0 KSx_b0) dX9_flush_7 ?_
  refine gf_RX9_126 (blk_get0 (blk_sub (C := blk5) (i := 33) KSx_b0 rfl)) dX9_flush_10 ?_
  refine c_aload_n (i := 0) dX9_flush_13 rfl rfl ?_
  refine gf_RX9_33 (blk_get0 KSx_b0) dX9_flush_14 ?_
  refine gf_RX9_126 (blk_get0 (blk_sub (C := blk5) (i := 33) KSx_b0 rfl)) dX9_flush_17 ?_
  refine c_iload_n (i := 1) dX9_flush_20 rfl rfl ?_
  refine c_iload_n (i := 2) dX9_flush_21 rfl rfl ?_
  refine c_callV (as := [.inl x1, .inl x2]) (rs := [.inr 45]) (ev_X1_lineOf 1 (Nat.le_refl _) 45 (blk_sub (C := blk1) (i := 12) (blk_sub (C := blk5) (i := 33) KSx_b0 rfl) rfl) x1 x2 M2) rfl (Nat.lt_of_lt_of_le (by decide) hlev) mw_X1_lineOf wi_X1_lineOf wv_X1_lineOf (blk_get0 (blk_sub (C := blk1) (i := 12) (blk_sub (C := blk5) (i := 33) KSx_b0 rfl) rfl)) (by decide) rfl wl_RX9_175 mn_X1_lineOf rfl (by decide) (Nat.le_of_ble_eq_true rfl) ⟨_, rfl⟩ dX9_flush_22 (fun v3 M4 _ => ?_)
  refine c_aload_n (i := 0) dX9_flush_25 rfl rfl ?_
  refine gf_RX9_33 (blk_get0 KSx_b0) dX9_flush_26 ?_
  refine gf_RX9_154 (blk_get0 (blk_sub (C := blk5) (i := 33) KSx_b0 rfl)) dX9_flush_29 ?_
  refine c_callV (as := [.inl v3, .inr 34]) (rs := []) (ev_X1_writeBack 2 (Nat.le_refl _) 45 (blk_sub (C := blk1) (i := 12) (blk_sub (C := blk5) (i := 33) KSx_b0 rfl) rfl) v3 34 (blk_sub (C := blk8) (i := 1) (blk_sub (C := blk5) (i := 33) KSx_b0 rfl) rfl) M4) rfl (Nat.lt_of_lt_of_le (by decide) hlev) mw_X1_writeBack wi_X1_writeBack wv_X1_writeBack (blk_get0 (blk_sub (C := blk1) (i := 12) (blk_sub (C := blk5) (i := 33) KSx_b0 rfl) rfl)) (by decide) rfl wl_RX9_204 mn_X1_writeBack rfl (by decide) (Nat.le_of_ble_eq_true rfl) ⟨_, rfl⟩ dX9_flush_32 (fun v5 M6 _ => ?_)
  refine c_chk (fun h7 => ?_)
  exact c_xzret rfl h7 dX9_flush_35

abbrev mdX9_flushAll : MD := (yX9_flushAll, cX9_flushAll, 3, (some .int))
theorem mw_X9_flushAll : mdW mdX9_flushAll := ⟨wm_X9_flushAll, w0_RX9, by decide, by decide⟩
theorem mn_X9_flushAll : (parseMethodDescriptor yX9_flushAll.desc).map (fun d => d.parameters.length) = some 0 := by decide +kernel
def l_X9_flushAll_4 (K4 : Int32 × Int32 × Mem → Option (Int32 × Mem)) : Int32 × Int32 × Mem → Option (Int32 × Mem) := fun s => match s with
  | (x1, x2, M) => if 8 ≤ x2 then some (x1, M) else bnd (f_X1_writeBack 45 x2 34 M) (fun v2 M3 => K4 ((if v2 = 0 then x1 else x1 + 1), x2 + 1, M3))
set_option maxRecDepth 20000 in
set_option maxHeartbeats 2000000 in
theorem lo_X9_flushAll_4 (d : Nat) (hlev : 3 ≤ d) (s : Int32 × Int32 × Mem) : CorM KSx ST1 RX9 cX9_flushAll 3 (some .int) d 4 [(0, .inr 0), (1, .inl s.1), (2, .inl s.2.1)] [] s.2.2 (loopC (l_X9_flushAll_4) fuelL s) := by
  refine c_loop (L := fun s : Int32 × Int32 × Mem => [(0, .inr 0), (1, .inl s.1), (2, .inl s.2.1)]) (Mf := fun s : Int32 × Int32 × Mem => s.2.2) (fun K4 hK4 s => ?_) fuelL s
  obtain ⟨x1, x2, M⟩ := s
  show CorM KSx ST1 RX9 cX9_flushAll 3 (some .int) d 4 [(0, .inr 0), (1, .inl x1), (2, .inl x2)] [] M (l_X9_flushAll_4 K4 (x1, x2, M))
  unfold l_X9_flushAll_4
  refine c_iload_n (i := 2) dX9_flushAll_4 rfl rfl ?_
  refine c_bipush dX9_flushAll_5 (v := 8) rfl ?_
  refine c_icmp_ge (tgt := 40) dX9_flushAll_7 rfl (fun h1 => ?_) (fun h1 => ?_)
  · refine c_iload_n (i := 1) dX9_flushAll_40 rfl rfl ?_
    exact c_iret rfl dX9_flushAll_41
  · refine c_aload_n (i := 0) dX9_flushAll_10 rfl rfl ?_
    refine gf_RX9_33 (blk_get0 KSx_b0) dX9_flushAll_11 ?_
    refine gf_RX9_126 (blk_get0 (blk_sub (C := blk5) (i := 33) KSx_b0 rfl)) dX9_flushAll_14 ?_
    refine c_iload_n (i := 2) dX9_flushAll_17 rfl rfl ?_
    refine c_aload_n (i := 0) dX9_flushAll_18 rfl rfl ?_
    refine gf_RX9_33 (blk_get0 KSx_b0) dX9_flushAll_19 ?_
    refine gf_RX9_154 (blk_get0 (blk_sub (C := blk5) (i := 33) KSx_b0 rfl)) dX9_flushAll_22 ?_
    refine c_callV (as := [.inl x2, .inr 34]) (rs := []) (ev_X1_writeBack 2 (Nat.le_refl _) 45 (blk_sub (C := blk1) (i := 12) (blk_sub (C := blk5) (i := 33) KSx_b0 rfl) rfl) x2 34 (blk_sub (C := blk8) (i := 1) (blk_sub (C := blk5) (i := 33) KSx_b0 rfl) rfl) M) rfl (Nat.lt_of_lt_of_le (by decide) hlev) mw_X1_writeBack wi_X1_writeBack wv_X1_writeBack (blk_get0 (blk_sub (C := blk1) (i := 12) (blk_sub (C := blk5) (i := 33) KSx_b0 rfl) rfl)) (by decide) rfl wl_RX9_204 mn_X1_writeBack rfl (by decide) (Nat.le_of_ble_eq_true rfl) ⟨_, rfl⟩ dX9_flushAll_25 (fun v2 M3 _ => ?_)
    have J_z4 : ∀ z4 : Int32, CorM KSx ST1 RX9 cX9_flushAll 3 (some .int) d 34 [(0, .inr 0), (1, .inl z4), (2, .inl x2)] [] M3 (K4 (z4, x2 + 1, M3)) := by
      intro z4
      refine c_iinc dX9_flushAll_34 rfl (v := 1) rfl (by decide) (ls2 := [(0, .inr 0), (1, .inl z4), (2, .inl (x2 + 1))]) rfl ?_
      refine c_goto (tgt := 4) dX9_flushAll_37 rfl ?_
      refine c_keep [0, 1, 2] (ls2 := [(0, .inr 0), (1, .inl z4), (2, .inl (x2 + 1))]) rfl ?_
      exact hK4 (z4, x2 + 1, M3)
    refine c_val (b := v2 = 0) (v1 := x1) (v2 := x1 + 1) (F := fun z4 => K4 (z4, x2 + 1, M3)) (fun h5 => ?_) (fun h5 => ?_)
    · refine c_T h5 (c_if_eq (tgt := 34) dX9_flushAll_28 rfl (fun _ => ?_) (fun q => absurd h5 q))
      refine c_keep [0, 1, 2] (ls2 := [(0, .inr 0), (1, .inl x1), (2, .inl x2)]) rfl ?_
      exact J_z4 x1
    · refine c_Fl h5 (c_if_eq (tgt := 34) dX9_flushAll_28 rfl (fun q => absurd q h5) (fun _ => ?_))
      refine c_iinc dX9_flushAll_31 rfl (v := 1) rfl (by decide) (ls2 := [(0, .inr 0), (1, .inl (x1 + 1)), (2, .inl x2)]) rfl ?_
      refine c_keep [0, 1, 2] (ls2 := [(0, .inr 0), (1, .inl (x1 + 1)), (2, .inl x2)]) rfl ?_
      exact J_z4 (x1 + 1)
def f_X9_flushAll (M : Mem) : Option (Int32 × Mem) := loopC (l_X9_flushAll_4) fuelL (0, 0, M)
set_option maxRecDepth 20000 in
set_option maxHeartbeats 2000000 in
theorem ev_X9_flushAll (d : Nat) (hlev : 3 ≤ d) (M : Mem) : Ev KSx ST1 mdX9_flushAll d [.inr 0] M (f_X9_flushAll M) := by
  refine ev_of rfl (Nat.le_of_ble_eq_true rfl) ?_
  show CorM KSx ST1 RX9 cX9_flushAll 3 (some .int) d 0 [(0, .inr 0)] [] M (f_X9_flushAll M)
  unfold f_X9_flushAll
  refine c_iconst dX9_flushAll_0 (v := 0) rfl ?_
  refine c_istore_n (i := 1) dX9_flushAll_1 rfl (by decide) (ls2 := [(0, .inr 0), (1, .inl 0)]) rfl ?_
  refine c_iconst dX9_flushAll_2 (v := 0) rfl ?_
  refine c_istore_n (i := 2) dX9_flushAll_3 rfl (by decide) (ls2 := [(0, .inr 0), (1, .inl 0), (2, .inl 0)]) rfl ?_
  refine c_keep [0, 1, 2] (ls2 := [(0, .inr 0), (1, .inl 0), (2, .inl 0)]) rfl ?_
  exact lo_X9_flushAll_4 d hlev (0, 0, M)

abbrev mdX9_invalidate : MD := (yX9_invalidate, cX9_invalidate, 3, (some .boolean))
theorem mw_X9_invalidate : mdW mdX9_invalidate := ⟨wm_X9_invalidate, w0_RX9, by decide, by decide⟩
theorem mn_X9_invalidate : (parseMethodDescriptor yX9_invalidate.desc).map (fun d => d.parameters.length) = some 2 := by decide +kernel
def f_X9_invalidate (x1 : Int32) (x2 : Int32) (M : Mem) : Option ((Int32 ⊕ String) × Mem) := bndX (f_X9_requireRow x1 x2 M) (fun _ M2 => bnd (f_X1_lineOf 45 x1 x2 M2) (fun v3 M4 => bnd (f_X1_removeLine 45 v3 M4) (fun v5 M6 => if isB v5 then some (rOk (v5), M6) else none)))
set_option maxRecDepth 20000 in
set_option maxHeartbeats 2000000 in
theorem ev_X9_invalidate (d : Nat) (hlev : 8 ≤ d) (x1 : Int32) (x2 : Int32) (M : Mem) : EvX KSx ST1 mdX9_invalidate d [.inr 0, .inl x1, .inl x2] M (f_X9_invalidate x1 x2 M) := by
  refine evX_of rfl (Nat.le_of_ble_eq_true rfl) ?_
  show CorX KSx ST1 RX9 cX9_invalidate 3 (some .boolean) d 0 [(0, .inr 0), (1, .inl x1), (2, .inl x2)] [] M (f_X9_invalidate x1 x2 M)
  unfold f_X9_invalidate
  refine c_aload_n (i := 0) dX9_invalidate_0 rfl rfl ?_
  refine c_iload_n (i := 1) dX9_invalidate_1 rfl rfl ?_
  refine c_iload_n (i := 2) dX9_invalidate_2 rfl rfl ?_
  refine c_callX (as := [.inl x1, .inl x2]) (rs := []) (ev_X9_requireRow 7 (Nat.le_refl _) x1 x2 M) rfl (Nat.lt_of_lt_of_le (by decide) hlev) mw_X9_requireRow wi_X9_requireRow wv_X9_requireRow (blk_get0 KSx_b0) (by decide) rfl wl_RX9_167 mn_X9_requireRow rfl (by decide) (Nat.le_of_ble_eq_true rfl) rfl dX9_invalidate_3 (fun v1 M2 _ => ?_)
  refine c_aload_n (i := 0) dX9_invalidate_6 rfl rfl ?_
  refine gf_RX9_33 (blk_get0 KSx_b0) dX9_invalidate_7 ?_
  refine gf_RX9_126 (blk_get0 (blk_sub (C := blk5) (i := 33) KSx_b0 rfl)) dX9_invalidate_10 ?_
  refine c_aload_n (i := 0) dX9_invalidate_13 rfl rfl ?_
  refine gf_RX9_33 (blk_get0 KSx_b0) dX9_invalidate_14 ?_
  refine gf_RX9_126 (blk_get0 (blk_sub (C := blk5) (i := 33) KSx_b0 rfl)) dX9_invalidate_17 ?_
  refine c_iload_n (i := 1) dX9_invalidate_20 rfl rfl ?_
  refine c_iload_n (i := 2) dX9_invalidate_21 rfl rfl ?_
  refine c_callV (as := [.inl x1, .inl x2]) (rs := [.inr 45]) (ev_X1_lineOf 1 (Nat.le_refl _) 45 (blk_sub (C := blk1) (i := 12) (blk_sub (C := blk5) (i := 33) KSx_b0 rfl) rfl) x1 x2 M2) rfl (Nat.lt_of_lt_of_le (by decide) hlev) mw_X1_lineOf wi_X1_lineOf wv_X1_lineOf (blk_get0 (blk_sub (C := blk1) (i := 12) (blk_sub (C := blk5) (i := 33) KSx_b0 rfl) rfl)) (by decide) rfl wl_RX9_175 mn_X1_lineOf rfl (by decide) (Nat.le_of_ble_eq_true rfl) ⟨_, rfl⟩ dX9_invalidate_22 (fun v3 M4 _ => ?_)
  refine c_callV (as := [.inl v3]) (rs := []) (ev_X1_removeLine 0 (Nat.le_refl _) 45 (blk_sub (C := blk1) (i := 12) (blk_sub (C := blk5) (i := 33) KSx_b0 rfl) rfl) v3 M4) rfl (Nat.lt_of_lt_of_le (by decide) hlev) mw_X1_removeLine wi_X1_removeLine wv_X1_removeLine (blk_get0 (blk_sub (C := blk1) (i := 12) (blk_sub (C := blk5) (i := 33) KSx_b0 rfl) rfl)) (by decide) rfl wl_RX9_179 mn_X1_removeLine rfl (by decide) (Nat.le_of_ble_eq_true rfl) ⟨_, rfl⟩ dX9_invalidate_25 (fun v5 M6 _ => ?_)
  refine c_chk (fun h7 => ?_)
  exact c_xzret rfl h7 dX9_invalidate_28

abbrev mdX9_line : MD := (yX9_line, cX9_line, 5, (some .int))
theorem mw_X9_line : mdW mdX9_line := ⟨wm_X9_line, w0_RX9, by decide, by decide⟩
theorem mn_X9_line : (parseMethodDescriptor yX9_line.desc).map (fun d => d.parameters.length) = some 2 := by decide +kernel
def f_X9_line (x1 : Int32) (x2 : Int32) (M : Mem) : Option ((Int32 ⊕ String) × Mem) := bndX (f_X9_requireRow x1 x2 M) (fun _ M2 => bnd (f_X1_lineOf 45 x1 x2 M2) (fun v3 M4 => if ¬ v3 = (-1) then if inb v3 8 then (fun z7 : Int32 => if ¬ M4 0 5 < 0 ∧ blkD KSx (ix (M4 0 5)) blk4 then bnd (f_X1_differs 45 v3 (M4 (ix (M4 0 5)) 2) 34 M4) (fun v9 M10 => some (rOk ((if v9 = 0 then z7 else z7 + 4)), M10)) else none) (if (M4 47 (ix v3)) = 0 then (1 : Int32) else (2 : Int32)) else none else some (rOk (0), M4)))
set_option maxRecDepth 20000 in
set_option maxHeartbeats 2000000 in
theorem ev_X9_line (d : Nat) (hlev : 8 ≤ d) (x1 : Int32) (x2 : Int32) (M : Mem) : EvX KSx ST1 mdX9_line d [.inr 0, .inl x1, .inl x2] M (f_X9_line x1 x2 M) := by
  refine evX_of rfl (Nat.le_of_ble_eq_true rfl) ?_
  show CorX KSx ST1 RX9 cX9_line 5 (some .int) d 0 [(0, .inr 0), (1, .inl x1), (2, .inl x2)] [] M (f_X9_line x1 x2 M)
  unfold f_X9_line
  refine c_aload_n (i := 0) dX9_line_0 rfl rfl ?_
  refine c_iload_n (i := 1) dX9_line_1 rfl rfl ?_
  refine c_iload_n (i := 2) dX9_line_2 rfl rfl ?_
  refine c_callX (as := [.inl x1, .inl x2]) (rs := []) (ev_X9_requireRow 7 (Nat.le_refl _) x1 x2 M) rfl (Nat.lt_of_lt_of_le (by decide) hlev) mw_X9_requireRow wi_X9_requireRow wv_X9_requireRow (blk_get0 KSx_b0) (by decide) rfl wl_RX9_167 mn_X9_requireRow rfl (by decide) (Nat.le_of_ble_eq_true rfl) rfl dX9_line_3 (fun v1 M2 _ => ?_)
  refine c_aload_n (i := 0) dX9_line_6 rfl rfl ?_
  refine gf_RX9_33 (blk_get0 KSx_b0) dX9_line_7 ?_
  refine gf_RX9_126 (blk_get0 (blk_sub (C := blk5) (i := 33) KSx_b0 rfl)) dX9_line_10 ?_
  refine c_iload_n (i := 1) dX9_line_13 rfl rfl ?_
  refine c_iload_n (i := 2) dX9_line_14 rfl rfl ?_
  refine c_callV (as := [.inl x1, .inl x2]) (rs := []) (ev_X1_lineOf 1 (Nat.le_refl _) 45 (blk_sub (C := blk1) (i := 12) (blk_sub (C := blk5) (i := 33) KSx_b0 rfl) rfl) x1 x2 M2) rfl (Nat.lt_of_lt_of_le (by decide) hlev) mw_X1_lineOf wi_X1_lineOf wv_X1_lineOf (blk_get0 (blk_sub (C := blk1) (i := 12) (blk_sub (C := blk5) (i := 33) KSx_b0 rfl) rfl)) (by decide) rfl wl_RX9_175 mn_X1_lineOf rfl (by decide) (Nat.le_of_ble_eq_true rfl) ⟨_, rfl⟩ dX9_line_15 (fun v3 M4 _ => ?_)
  refine c_istore_n (i := 3) dX9_line_18 rfl (by decide) (ls2 := [(0, .inr 0), (1, .inl x1), (2, .inl x2), (3, .inl v3)]) rfl ?_
  refine c_iload_n (i := 3) dX9_line_19 rfl rfl ?_
  refine c_iconst dX9_line_20 (v := (-1)) rfl ?_
  refine c_icmp_ne (tgt := 26) dX9_line_21 rfl (fun h5 => ?_) (fun h5 => ?_)
  · refine c_aload_n (i := 0) dX9_line_26 rfl rfl ?_
    refine gf_RX9_33 (blk_get0 KSx_b0) dX9_line_27 ?_
    refine gf_RX9_126 (blk_get0 (blk_sub (C := blk5) (i := 33) KSx_b0 rfl)) dX9_line_30 ?_
    refine gf_RX9_200 (blk_get0 (blk_sub (C := blk1) (i := 12) (blk_sub (C := blk5) (i := 33) KSx_b0 rfl) rfl)) dX9_line_33 ?_
    refine c_iload_n (i := 3) dX9_line_36 rfl rfl ?_
    refine c_chk (fun h6 => ?_)
    refine c_zald (blk_get0 (blk_sub (C := [(21, 8)]) (i := 2) (blk_sub (C := blk1) (i := 12) (blk_sub (C := blk5) (i := 33) KSx_b0 rfl) rfl) rfl)) h6 dX9_line_37 ?_
    have J_z7 : ∀ z7 : Int32, CorX KSx ST1 RX9 cX9_line 5 (some .int) d 46 [(0, .inr 0), (3, .inl v3)] [.inl z7] M4 (if ¬ M4 0 5 < 0 ∧ blkD KSx (ix (M4 0 5)) blk4 then bnd (f_X1_differs 45 v3 (M4 (ix (M4 0 5)) 2) 34 M4) (fun v9 M10 => some (rOk ((if v9 = 0 then z7 else z7 + 4)), M10)) else none) := by
      intro z7
      refine c_istore dX9_line_46 (by decide) (ls2 := [(0, .inr 0), (3, .inl v3), (4, .inl z7)]) rfl ?_
      refine c_aload_n (i := 0) dX9_line_48 rfl rfl ?_
      refine gf_RX9_33 (blk_get0 KSx_b0) dX9_line_49 ?_
      refine gf_RX9_126 (blk_get0 (blk_sub (C := blk5) (i := 33) KSx_b0 rfl)) dX9_line_52 ?_
      refine c_iload_n (i := 3) dX9_line_55 rfl rfl ?_
      refine c_aload_n (i := 0) dX9_line_56 rfl rfl ?_
      refine c_chk (fun h8 => ?_)
      refine gf_RX9_23 (blk_get0 KSx_b0) h8.1 dX9_line_57 ?_
      refine gf_RX9_111 (blk_get0 (blk_of h8.2)) dX9_line_60 ?_
      refine c_aload_n (i := 0) dX9_line_63 rfl rfl ?_
      refine gf_RX9_33 (blk_get0 KSx_b0) dX9_line_64 ?_
      refine gf_RX9_154 (blk_get0 (blk_sub (C := blk5) (i := 33) KSx_b0 rfl)) dX9_line_67 ?_
      refine c_callV (as := [.inl v3, .inl (M4 (ix (M4 0 5)) 2), .inr 34]) (rs := []) (ev_X1_differs 0 (Nat.le_refl _) 45 (blk_sub (C := blk1) (i := 12) (blk_sub (C := blk5) (i := 33) KSx_b0 rfl) rfl) v3 (M4 (ix (M4 0 5)) 2) 34 (blk_sub (C := blk8) (i := 1) (blk_sub (C := blk5) (i := 33) KSx_b0 rfl) rfl) M4) rfl (Nat.lt_of_lt_of_le (by decide) hlev) mw_X1_differs wi_X1_differs wv_X1_differs (blk_get0 (blk_sub (C := blk1) (i := 12) (blk_sub (C := blk5) (i := 33) KSx_b0 rfl) rfl)) (by decide) rfl wl_RX9_208 mn_X1_differs rfl (by decide) (Nat.le_of_ble_eq_true rfl) ⟨_, rfl⟩ dX9_line_70 (fun v9 M10 _ => ?_)
      have J_z11 : ∀ z11 : Int32, CorX KSx ST1 RX9 cX9_line 5 (some .int) d 85 [] [.inl z11] M10 (some (rOk (z11), M10)) := by
        intro z11
        exact c_xret rfl dX9_line_85
      refine c_val (b := v9 = 0) (v1 := z7) (v2 := z7 + 4) (F := fun z11 => some (rOk (z11), M10)) (fun h12 => ?_) (fun h12 => ?_)
      · refine c_T h12 (c_if_eq (tgt := 83) dX9_line_73 rfl (fun _ => ?_) (fun q => absurd h12 q))
        refine c_iload dX9_line_83 rfl ?_
        refine c_keep [] (ls2 := []) rfl ?_
        exact J_z11 z7
      · refine c_Fl h12 (c_if_eq (tgt := 83) dX9_line_73 rfl (fun q => absurd q h12) (fun _ => ?_))
        refine c_iload dX9_line_76 rfl ?_
        refine c_iconst dX9_line_78 (v := 4) rfl ?_
        refine c_iadd dX9_line_79 ?_
        refine c_goto (tgt := 85) dX9_line_80 rfl ?_
        refine c_keep [] (ls2 := []) rfl ?_
        exact J_z11 (z7 + 4)
    refine c_val (b := (M4 47 (ix v3)) = 0) (v1 := (1 : Int32)) (v2 := (2 : Int32)) (F := fun z7 => if ¬ M4 0 5 < 0 ∧ blkD KSx (ix (M4 0 5)) blk4 then bnd (f_X1_differs 45 v3 (M4 (ix (M4 0 5)) 2) 34 M4) (fun v9 M10 => some (rOk ((if v9 = 0 then z7 else z7 + 4)), M10)) else none) (fun h13 => ?_) (fun h13 => ?_)
    · refine c_T h13 (c_if_eq (tgt := 45) dX9_line_38 rfl (fun _ => ?_) (fun q => absurd h13 q))
      refine c_iconst dX9_line_45 (v := 1) rfl ?_
      refine c_keep [0, 3] (ls2 := [(0, .inr 0), (3, .inl v3)]) rfl ?_
      exact J_z7 1
    · refine c_Fl h13 (c_if_eq (tgt := 45) dX9_line_38 rfl (fun q => absurd q h13) (fun _ => ?_))
      refine c_iconst dX9_line_41 (v := 2) rfl ?_
      refine c_goto (tgt := 46) dX9_line_42 rfl ?_
      refine c_keep [0, 3] (ls2 := [(0, .inr 0), (3, .inl v3)]) rfl ?_
      exact J_z7 2
  · refine c_iconst dX9_line_24 (v := 0) rfl ?_
    exact c_xret rfl dX9_line_25

abbrev mdX9_cache : MD := (yX9_cache, cX9_cache, 2, (some .int))
theorem mw_X9_cache : mdW mdX9_cache := ⟨wm_X9_cache, w0_RX9, by decide, by decide⟩
theorem mn_X9_cache : (parseMethodDescriptor yX9_cache.desc).map (fun d => d.parameters.length) = some 1 := by decide +kernel
def f_X9_cache (x1 : Int32) (M : Mem) : Option ((Int32 ⊕ String) × Mem) := if x1 = 0 then some (rOk (M 45 4), M) else if x1 = 1 then some (rOk (M 45 5), M) else if x1 = 2 then some (rOk (M 45 6), M) else some (rEx "java/lang/IllegalArgumentException", M)
set_option maxRecDepth 20000 in
set_option maxHeartbeats 2000000 in
theorem ev_X9_cache (d : Nat) (hlev : 6 ≤ d) (x1 : Int32) (M : Mem) : EvX KSx ST1 mdX9_cache d [.inr 0, .inl x1] M (f_X9_cache x1 M) := by
  refine evX_of rfl (Nat.le_of_ble_eq_true rfl) ?_
  show CorX KSx ST1 RX9 cX9_cache 2 (some .int) d 0 [(0, .inr 0), (1, .inl x1)] [] M (f_X9_cache x1 M)
  unfold f_X9_cache
  refine c_iload_n (i := 1) dX9_cache_0 rfl rfl ?_
  refine c_ite (fun h1 => ?_) (fun h1 => ?_)
  · refine c_tableIn (tgt := 28) dX9_cache_1 (by rw [h1] <;> decide) (by rw [h1] <;> decide) (by rw [h1] <;> rfl) rfl ?_
    refine c_aload_n (i := 0) dX9_cache_28 rfl rfl ?_
    refine gf_RX9_33 (blk_get0 KSx_b0) dX9_cache_29 ?_
    refine gf_RX9_126 (blk_get0 (blk_sub (C := blk5) (i := 33) KSx_b0 rfl)) dX9_cache_32 ?_
    refine gf_RX9_212 (blk_get0 (blk_sub (C := blk1) (i := 12) (blk_sub (C := blk5) (i := 33) KSx_b0 rfl) rfl)) dX9_cache_35 ?_
    exact c_xret rfl dX9_cache_38
  · refine c_ite (fun h2 => ?_) (fun h2 => ?_)
    · refine c_tableIn (tgt := 39) dX9_cache_1 (by rw [h2] <;> decide) (by rw [h2] <;> decide) (by rw [h2] <;> rfl) rfl ?_
      refine c_aload_n (i := 0) dX9_cache_39 rfl rfl ?_
      refine gf_RX9_33 (blk_get0 KSx_b0) dX9_cache_40 ?_
      refine gf_RX9_126 (blk_get0 (blk_sub (C := blk5) (i := 33) KSx_b0 rfl)) dX9_cache_43 ?_
      refine gf_RX9_215 (blk_get0 (blk_sub (C := blk1) (i := 12) (blk_sub (C := blk5) (i := 33) KSx_b0 rfl) rfl)) dX9_cache_46 ?_
      exact c_xret rfl dX9_cache_49
    · refine c_ite (fun h3 => ?_) (fun h3 => ?_)
      · refine c_tableIn (tgt := 50) dX9_cache_1 (by rw [h3] <;> decide) (by rw [h3] <;> decide) (by rw [h3] <;> rfl) rfl ?_
        refine c_aload_n (i := 0) dX9_cache_50 rfl rfl ?_
        refine gf_RX9_33 (blk_get0 KSx_b0) dX9_cache_51 ?_
        refine gf_RX9_126 (blk_get0 (blk_sub (C := blk5) (i := 33) KSx_b0 rfl)) dX9_cache_54 ?_
        refine gf_RX9_218 (blk_get0 (blk_sub (C := blk1) (i := 12) (blk_sub (C := blk5) (i := 33) KSx_b0 rfl) rfl)) dX9_cache_57 ?_
        exact c_xret rfl dX9_cache_60
      · refine c_tableOut (tgt := 61) dX9_cache_1 (sw_tab 0 3 (ks := [0, 1, 2]) (List.forall_mem_cons.mpr ⟨h1, (List.forall_mem_cons.mpr ⟨h2, (List.forall_mem_cons.mpr ⟨h3, (fun _ q => absurd q List.not_mem_nil)⟩)⟩)⟩) (by decide)) rfl ?_
        exact th_95 (List.mem_of_getElem? (i := 11) rfl) (Nat.le_trans (by decide) hlev) (Nat.le_of_ble_eq_true rfl) dX9_cache_61 dX9_cache_64 dX9_cache_65 dX9_cache_67 dX9_cache_70

abbrev mdX9_setCoherence : MD := (yX9_setCoherence, cX9_setCoherence, 3, (some .boolean))
theorem mw_X9_setCoherence : mdW mdX9_setCoherence := ⟨wm_X9_setCoherence, w0_RX9, by decide, by decide⟩
theorem mn_X9_setCoherence : (parseMethodDescriptor yX9_setCoherence.desc).map (fun d => d.parameters.length) = some 1 := by decide +kernel
def f_X9_setCoherence (x1 : Int32) (M : Mem) : Option (Int32 × Mem) := if isB x1 then wrt (up M 33 4 x1) (fun M2 => if isB (M 33 4) then some (M 33 4, M2) else none) else none
set_option maxRecDepth 20000 in
set_option maxHeartbeats 2000000 in
theorem ev_X9_setCoherence (d : Nat) (hlev : 0 ≤ d) (x1 : Int32) (M : Mem) : Ev KSx ST1 mdX9_setCoherence d [.inr 0, .inl x1] M (f_X9_setCoherence x1 M) := by
  refine ev_of rfl (Nat.le_of_ble_eq_true rfl) ?_
  show CorM KSx ST1 RX9 cX9_setCoherence 3 (some .boolean) d 0 [(0, .inr 0), (1, .inl x1)] [] M (f_X9_setCoherence x1 M)
  unfold f_X9_setCoherence
  refine c_aload_n (i := 0) dX9_setCoherence_0 rfl rfl ?_
  refine gf_RX9_33 (blk_get0 KSx_b0) dX9_setCoherence_1 ?_
  refine gf_RX9_171 (blk_get0 (blk_sub (C := blk5) (i := 33) KSx_b0 rfl)) dX9_setCoherence_4 ?_
  refine c_istore_n (i := 2) dX9_setCoherence_7 rfl (by decide) (ls2 := [(0, .inr 0), (1, .inl x1), (2, .inl (M 33 4))]) rfl ?_
  refine c_aload_n (i := 0) dX9_setCoherence_8 rfl rfl ?_
  refine gf_RX9_33 (blk_get0 KSx_b0) dX9_setCoherence_9 ?_
  refine c_iload_n (i := 1) dX9_setCoherence_12 rfl rfl ?_
  refine c_chk (fun h1 => ?_)
  refine pf_RX9_171 (blk_get0 (blk_sub (C := blk5) (i := 33) KSx_b0 rfl)) h1 dX9_setCoherence_13 ?_
  refine c_wrt (fun M2 => ?_)
  refine c_iload_n (i := 2) dX9_setCoherence_16 rfl rfl ?_
  refine c_chk (fun h3 => ?_)
  exact c_zret rfl h3 dX9_setCoherence_17

abbrev mdX9_submit : MD := (yX9_submit, cX9_submit, 2, (some .int))
theorem mw_X9_submit : mdW mdX9_submit := ⟨wm_X9_submit, w0_RX9, by decide, by decide⟩
theorem mn_X9_submit : (parseMethodDescriptor yX9_submit.desc).map (fun d => d.parameters.length) = some 1 := by decide +kernel
def f_X9_submit (x1 : Int32) (M : Mem) : Option ((Int32 ⊕ String) × Mem) := bndX (f_X9_requireBatch x1 M) (fun _ M2 => if (M2 50 1) < 16 then bnd (f_X0_addBatch 50 x1 M2) (fun _ M5 => bnd (f_X3_forgetPlan M5) (fun _ M7 => some (rOk (M7 50 1), M7))) else some (rEx "java/lang/IllegalStateException", M2))
set_option maxRecDepth 20000 in
set_option maxHeartbeats 2000000 in
theorem ev_X9_submit (d : Nat) (hlev : 7 ≤ d) (x1 : Int32) (M : Mem) : EvX KSx ST1 mdX9_submit d [.inr 0, .inl x1] M (f_X9_submit x1 M) := by
  refine evX_of rfl (Nat.le_of_ble_eq_true rfl) ?_
  show CorX KSx ST1 RX9 cX9_submit 2 (some .int) d 0 [(0, .inr 0), (1, .inl x1)] [] M (f_X9_submit x1 M)
  unfold f_X9_submit
  refine c_aload_n (i := 0) dX9_submit_0 rfl rfl ?_
  refine c_iload_n (i := 1) dX9_submit_1 rfl rfl ?_
  refine c_callX (as := [.inl x1]) (rs := []) (ev_X9_requireBatch 6 (Nat.le_refl _) x1 M) rfl (Nat.lt_of_lt_of_le (by decide) hlev) mw_X9_requireBatch wi_X9_requireBatch wv_X9_requireBatch (blk_get0 KSx_b0) (by decide) rfl wl_RX9_138 mn_X9_requireBatch rfl (by decide) (Nat.le_of_ble_eq_true rfl) rfl dX9_submit_2 (fun v1 M2 _ => ?_)
  refine c_aload_n (i := 0) dX9_submit_5 rfl rfl ?_
  refine gf_RX9_33 (blk_get0 KSx_b0) dX9_submit_6 ?_
  refine gf_RX9_114 (blk_get0 (blk_sub (C := blk5) (i := 33) KSx_b0 rfl)) dX9_submit_9 ?_
  refine gf_RX9_118 (blk_get0 (blk_sub (C := blk0) (i := 17) (blk_sub (C := blk5) (i := 33) KSx_b0 rfl) rfl)) dX9_submit_12 ?_
  refine c_bipush dX9_submit_15 (v := 16) rfl ?_
  refine c_icmp_lt (tgt := 30) dX9_submit_17 rfl (fun h3 => ?_) (fun h3 => ?_)
  · refine c_aload_n (i := 0) dX9_submit_30 rfl rfl ?_
    refine gf_RX9_33 (blk_get0 KSx_b0) dX9_submit_31 ?_
    refine gf_RX9_114 (blk_get0 (blk_sub (C := blk5) (i := 33) KSx_b0 rfl)) dX9_submit_34 ?_
    refine c_iload_n (i := 1) dX9_submit_37 rfl rfl ?_
    refine c_callVv (as := [.inl x1]) (rs := []) (ev_X0_addBatch 0 (Nat.le_refl _) 50 (blk_sub (C := blk0) (i := 17) (blk_sub (C := blk5) (i := 33) KSx_b0 rfl) rfl) x1 M2) rfl (Nat.lt_of_lt_of_le (by decide) hlev) mw_X0_addBatch wi_X0_addBatch wv_X0_addBatch (blk_get0 (blk_sub (C := blk0) (i := 17) (blk_sub (C := blk5) (i := 33) KSx_b0 rfl) rfl)) (by decide) rfl wl_RX9_225 mn_X0_addBatch rfl (by decide) (Nat.le_of_ble_eq_true rfl) rfl dX9_submit_38 (fun v4 M5 _ => ?_)
    refine c_aload_n (i := 0) dX9_submit_41 rfl rfl ?_
    refine gf_RX9_47 (blk_get0 KSx_b0) dX9_submit_42 ?_
    refine c_callVv (as := []) (rs := []) (ev_X3_forgetPlan 0 (Nat.le_refl _) M5) rfl (Nat.lt_of_lt_of_le (by decide) hlev) mw_X3_forgetPlan wi_X3_forgetPlan wv_X3_forgetPlan (blk_get0 (blk_sub (C := blk3) (i := 114) KSx_b0 rfl)) (by decide) rfl wl_RX9_96 mn_X3_forgetPlan rfl (by decide) (Nat.le_of_ble_eq_true rfl) rfl dX9_submit_45 (fun v6 M7 _ => ?_)
    refine c_aload_n (i := 0) dX9_submit_48 rfl rfl ?_
    refine gf_RX9_33 (blk_get0 KSx_b0) dX9_submit_49 ?_
    refine gf_RX9_114 (blk_get0 (blk_sub (C := blk5) (i := 33) KSx_b0 rfl)) dX9_submit_52 ?_
    refine gf_RX9_118 (blk_get0 (blk_sub (C := blk0) (i := 17) (blk_sub (C := blk5) (i := 33) KSx_b0 rfl) rfl)) dX9_submit_55 ?_
    exact c_xret rfl dX9_submit_58
  · exact th_66 (List.mem_of_getElem? (i := 12) rfl) (Nat.le_trans (by decide) hlev) (Nat.le_of_ble_eq_true rfl) dX9_submit_20 dX9_submit_23 dX9_submit_24 dX9_submit_26 dX9_submit_29

abbrev mdX9_queued : MD := (yX9_queued, cX9_queued, 2, (some .int))
theorem mw_X9_queued : mdW mdX9_queued := ⟨wm_X9_queued, w0_RX9, by decide, by decide⟩
theorem mn_X9_queued : (parseMethodDescriptor yX9_queued.desc).map (fun d => d.parameters.length) = some 1 := by decide +kernel
def j_X9_queued_18 (M : Mem) : Option ((Int32 ⊕ String) × Mem) := some (rEx "java/lang/IndexOutOfBoundsException", M)
set_option maxRecDepth 20000 in
set_option maxHeartbeats 2000000 in
theorem jo_X9_queued_18 (d : Nat) (hlev : 6 ≤ d) (M : Mem) : CorX KSx ST1 RX9 cX9_queued 2 (some .int) d 18 [] [] M (j_X9_queued_18 M) := by
  unfold j_X9_queued_18
  exact th_77 (List.mem_of_getElem? (i := 13) rfl) (Nat.le_trans (by decide) hlev) (Nat.le_of_ble_eq_true rfl) dX9_queued_18 dX9_queued_21 dX9_queued_22 dX9_queued_24 dX9_queued_27
def f_X9_queued (x1 : Int32) (M : Mem) : Option ((Int32 ⊕ String) × Mem) := if x1 < 0 then j_X9_queued_18 M else if x1 < (M 50 1) then if inb x1 16 then some (rOk (M 51 (ix x1)), M) else none else j_X9_queued_18 M
set_option maxRecDepth 20000 in
set_option maxHeartbeats 2000000 in
theorem ev_X9_queued (d : Nat) (hlev : 6 ≤ d) (x1 : Int32) (M : Mem) : EvX KSx ST1 mdX9_queued d [.inr 0, .inl x1] M (f_X9_queued x1 M) := by
  refine evX_of rfl (Nat.le_of_ble_eq_true rfl) ?_
  show CorX KSx ST1 RX9 cX9_queued 2 (some .int) d 0 [(0, .inr 0), (1, .inl x1)] [] M (f_X9_queued x1 M)
  unfold f_X9_queued
  refine c_iload_n (i := 1) dX9_queued_0 rfl rfl ?_
  refine c_if_lt (tgt := 18) dX9_queued_1 rfl (fun h1 => ?_) (fun h1 => ?_)
  · refine c_keep [] (ls2 := []) rfl ?_
    exact jo_X9_queued_18 d hlev M
  · refine c_iload_n (i := 1) dX9_queued_4 rfl rfl ?_
    refine c_aload_n (i := 0) dX9_queued_5 rfl rfl ?_
    refine gf_RX9_33 (blk_get0 KSx_b0) dX9_queued_6 ?_
    refine gf_RX9_114 (blk_get0 (blk_sub (C := blk5) (i := 33) KSx_b0 rfl)) dX9_queued_9 ?_
    refine gf_RX9_118 (blk_get0 (blk_sub (C := blk0) (i := 17) (blk_sub (C := blk5) (i := 33) KSx_b0 rfl) rfl)) dX9_queued_12 ?_
    refine c_icmp_lt (tgt := 28) dX9_queued_15 rfl (fun h2 => ?_) (fun h2 => ?_)
    · refine c_aload_n (i := 0) dX9_queued_28 rfl rfl ?_
      refine gf_RX9_33 (blk_get0 KSx_b0) dX9_queued_29 ?_
      refine gf_RX9_114 (blk_get0 (blk_sub (C := blk5) (i := 33) KSx_b0 rfl)) dX9_queued_32 ?_
      refine gf_RX9_230 (blk_get0 (blk_sub (C := blk0) (i := 17) (blk_sub (C := blk5) (i := 33) KSx_b0 rfl) rfl)) dX9_queued_35 ?_
      refine c_iload_n (i := 1) dX9_queued_38 rfl rfl ?_
      refine c_chk (fun h3 => ?_)
      refine c_iald (blk_get0 (blk_sub (C := [(20, 16)]) (i := 1) (blk_sub (C := blk0) (i := 17) (blk_sub (C := blk5) (i := 33) KSx_b0 rfl) rfl) rfl)) h3 dX9_queued_39 ?_
      exact c_xret rfl dX9_queued_40
    · refine c_keep [] (ls2 := []) rfl ?_
      exact jo_X9_queued_18 d hlev M

abbrev mdX9_run : MD := (yX9_run, cX9_run, 4, (some .int))
theorem mw_X9_run : mdW mdX9_run := ⟨wm_X9_run, w0_RX9, by decide, by decide⟩
theorem mn_X9_run : (parseMethodDescriptor yX9_run.desc).map (fun d => d.parameters.length) = some 1 := by decide +kernel
def j_X9_run_11 (M : Mem) : Option ((Int32 ⊕ String) × Mem) := some (rEx "java/lang/IllegalArgumentException", M)
set_option maxRecDepth 20000 in
set_option maxHeartbeats 2000000 in
theorem jo_X9_run_11 (d : Nat) (hlev : 6 ≤ d) (M : Mem) : CorX KSx ST1 RX9 cX9_run 4 (some .int) d 11 [] [] M (j_X9_run_11 M) := by
  unfold j_X9_run_11
  exact th_95 (List.mem_of_getElem? (i := 14) rfl) (Nat.le_trans (by decide) hlev) (Nat.le_of_ble_eq_true rfl) dX9_run_11 dX9_run_14 dX9_run_15 dX9_run_17 dX9_run_20
def l_X9_run_38 (x2 : Int32) (K38 : Int32 × Mem → Option ((Int32 ⊕ String) × Mem)) : Int32 × Mem → Option ((Int32 ⊕ String) × Mem) := fun s => match s with
  | (x3, M) => if x2 ≤ x3 then bnd (f_X3_forgetPlan M) (fun _ M5 => some (rOk (x2), M5)) else if ¬ M 0 5 < 0 ∧ blkD KSx (ix (M 0 5)) blk4 then bnd (f_X5_runNext 33 (ix (M 0 5)) M) (fun _ M8 => K38 (x3 + 1, M8)) else none
set_option maxRecDepth 20000 in
set_option maxHeartbeats 2000000 in
theorem lo_X9_run_38 (d : Nat) (hlev : 6 ≤ d) (x2 : Int32) (s : Int32 × Mem) : CorX KSx ST1 RX9 cX9_run 4 (some .int) d 38 [(0, .inr 0), (2, .inl x2), (3, .inl s.1)] [] s.2 (loopC (l_X9_run_38 x2) fuelL s) := by
  refine c_loop (L := fun s : Int32 × Mem => [(0, .inr 0), (2, .inl x2), (3, .inl s.1)]) (Mf := fun s : Int32 × Mem => s.2) (fun K38 hK38 s => ?_) fuelL s
  obtain ⟨x3, M⟩ := s
  show CorX KSx ST1 RX9 cX9_run 4 (some .int) d 38 [(0, .inr 0), (2, .inl x2), (3, .inl x3)] [] M (l_X9_run_38 x2 K38 (x3, M))
  unfold l_X9_run_38
  refine c_iload_n (i := 3) dX9_run_38 rfl rfl ?_
  refine c_iload_n (i := 2) dX9_run_39 rfl rfl ?_
  refine c_icmp_ge (tgt := 60) dX9_run_40 rfl (fun h3 => ?_) (fun h3 => ?_)
  · refine c_aload_n (i := 0) dX9_run_60 rfl rfl ?_
    refine gf_RX9_47 (blk_get0 KSx_b0) dX9_run_61 ?_
    refine c_callVv (as := []) (rs := []) (ev_X3_forgetPlan 0 (Nat.le_refl _) M) rfl (Nat.lt_of_lt_of_le (by decide) hlev) mw_X3_forgetPlan wi_X3_forgetPlan wv_X3_forgetPlan (blk_get0 (blk_sub (C := blk3) (i := 114) KSx_b0 rfl)) (by decide) rfl wl_RX9_96 mn_X3_forgetPlan rfl (by decide) (Nat.le_of_ble_eq_true rfl) rfl dX9_run_64 (fun v4 M5 _ => ?_)
    refine c_iload_n (i := 2) dX9_run_67 rfl rfl ?_
    exact c_xret rfl dX9_run_68
  · refine c_aload_n (i := 0) dX9_run_43 rfl rfl ?_
    refine gf_RX9_33 (blk_get0 KSx_b0) dX9_run_44 ?_
    refine c_aload_n (i := 0) dX9_run_47 rfl rfl ?_
    refine c_chk (fun h6 => ?_)
    refine gf_RX9_23 (blk_get0 KSx_b0) h6.1 dX9_run_48 ?_
    refine c_callVv (as := [.inr (ix (M 0 5))]) (rs := []) (ev_X5_runNext 5 (Nat.le_refl _) 33 (blk_sub (C := blk5) (i := 33) KSx_b0 rfl) (ix (M 0 5)) (blk_of h6.2) M) rfl (Nat.lt_of_lt_of_le (by decide) hlev) mw_X5_runNext wi_X5_runNext wv_X5_runNext (blk_get0 (blk_sub (C := blk5) (i := 33) KSx_b0 rfl)) (by decide) rfl wl_RX9_240 mn_X5_runNext rfl (by decide) (Nat.le_of_ble_eq_true rfl) rfl dX9_run_51 (fun v7 M8 _ => ?_)
    refine c_iinc dX9_run_54 rfl (v := 1) rfl (by decide) (ls2 := [(0, .inr 0), (2, .inl x2), (3, .inl (x3 + 1))]) rfl ?_
    refine c_goto (tgt := 38) dX9_run_57 rfl ?_
    refine c_keep [0, 2, 3] (ls2 := [(0, .inr 0), (2, .inl x2), (3, .inl (x3 + 1))]) rfl ?_
    exact hK38 (x3 + 1, M8)
def f_X9_run (x1 : Int32) (M : Mem) : Option ((Int32 ⊕ String) × Mem) := if x1 < 1 then j_X9_run_11 M else if x1 ≤ 16 then loopC (l_X9_run_38 (imin x1 (M 50 1))) fuelL (0, M) else j_X9_run_11 M
set_option maxRecDepth 20000 in
set_option maxHeartbeats 2000000 in
theorem ev_X9_run (d : Nat) (hlev : 6 ≤ d) (x1 : Int32) (M : Mem) : EvX KSx ST1 mdX9_run d [.inr 0, .inl x1] M (f_X9_run x1 M) := by
  refine evX_of rfl (Nat.le_of_ble_eq_true rfl) ?_
  show CorX KSx ST1 RX9 cX9_run 4 (some .int) d 0 [(0, .inr 0), (1, .inl x1)] [] M (f_X9_run x1 M)
  unfold f_X9_run
  refine c_iload_n (i := 1) dX9_run_0 rfl rfl ?_
  refine c_iconst dX9_run_1 (v := 1) rfl ?_
  refine c_icmp_lt (tgt := 11) dX9_run_2 rfl (fun h1 => ?_) (fun h1 => ?_)
  · refine c_keep [] (ls2 := []) rfl ?_
    exact jo_X9_run_11 d hlev M
  · refine c_iload_n (i := 1) dX9_run_5 rfl rfl ?_
    refine c_bipush dX9_run_6 (v := 16) rfl ?_
    refine c_icmp_le (tgt := 21) dX9_run_8 rfl (fun h2 => ?_) (fun h2 => ?_)
    · refine c_iload_n (i := 1) dX9_run_21 rfl rfl ?_
      refine c_aload_n (i := 0) dX9_run_22 rfl rfl ?_
      refine gf_RX9_33 (blk_get0 KSx_b0) dX9_run_23 ?_
      refine gf_RX9_114 (blk_get0 (blk_sub (C := blk5) (i := 33) KSx_b0 rfl)) dX9_run_26 ?_
      refine gf_RX9_118 (blk_get0 (blk_sub (C := blk0) (i := 17) (blk_sub (C := blk5) (i := 33) KSx_b0 rfl) rfl)) dX9_run_29 ?_
      refine c_min wl_RX9_235 (Nat.lt_of_lt_of_le (by decide) hlev) (Nat.le_of_ble_eq_true rfl) dX9_run_32 ?_
      refine c_istore_n (i := 2) dX9_run_35 rfl (by decide) (ls2 := [(0, .inr 0), (1, .inl x1), (2, .inl (imin x1 (M 50 1)))]) rfl ?_
      refine c_iconst dX9_run_36 (v := 0) rfl ?_
      refine c_istore_n (i := 3) dX9_run_37 rfl (by decide) (ls2 := [(0, .inr 0), (1, .inl x1), (2, .inl (imin x1 (M 50 1))), (3, .inl 0)]) rfl ?_
      refine c_keep [0, 2, 3] (ls2 := [(0, .inr 0), (2, .inl (imin x1 (M 50 1))), (3, .inl 0)]) rfl ?_
      exact lo_X9_run_38 d hlev (imin x1 (M 50 1)) (0, M)
    · refine c_keep [] (ls2 := []) rfl ?_
      exact jo_X9_run_11 d hlev M

abbrev mdX9_runOf : MD := (yX9_runOf, cX9_runOf, 4, (some .int))
theorem mw_X9_runOf : mdW mdX9_runOf := ⟨wm_X9_runOf, w0_RX9, by decide, by decide⟩
theorem mn_X9_runOf : (parseMethodDescriptor yX9_runOf.desc).map (fun d => d.parameters.length) = some 2 := by decide +kernel
def j_X9_runOf_28 (M : Mem) : Option ((Int32 ⊕ String) × Mem) := some (rEx "java/lang/IndexOutOfBoundsException", M)
set_option maxRecDepth 20000 in
set_option maxHeartbeats 2000000 in
theorem jo_X9_runOf_28 (d : Nat) (hlev : 6 ≤ d) (M : Mem) : CorX KSx ST1 RX9 cX9_runOf 4 (some .int) d 28 [] [] M (j_X9_runOf_28 M) := by
  unfold j_X9_runOf_28
  exact th_77 (List.mem_of_getElem? (i := 15) rfl) (Nat.le_trans (by decide) hlev) (Nat.le_of_ble_eq_true rfl) dX9_runOf_28 dX9_runOf_31 dX9_runOf_32 dX9_runOf_34 dX9_runOf_37
def j_X9_runOf_47 (M : Mem) : Option ((Int32 ⊕ String) × Mem) := some (rEx "java/lang/IllegalArgumentException", M)
set_option maxRecDepth 20000 in
set_option maxHeartbeats 2000000 in
theorem jo_X9_runOf_47 (d : Nat) (hlev : 6 ≤ d) (M : Mem) : CorX KSx ST1 RX9 cX9_runOf 4 (some .int) d 47 [] [] M (j_X9_runOf_47 M) := by
  unfold j_X9_runOf_47
  exact th_95 (List.mem_of_getElem? (i := 16) rfl) (Nat.le_trans (by decide) hlev) (Nat.le_of_ble_eq_true rfl) dX9_runOf_47 dX9_runOf_50 dX9_runOf_51 dX9_runOf_53 dX9_runOf_56
def f_X9_runOf (x1 : Int32) (x2 : Int32) (M : Mem) : Option ((Int32 ⊕ String) × Mem) := if x1 < 0 then j_X9_runOf_28 M else if (M 50 3) ≤ x1 then j_X9_runOf_28 M else if ((M 50 3) - 40) ≤ x1 then if x2 < 0 then j_X9_runOf_47 M else if x2 < 3 then if inb (((jrem x1 40) * 3) + x2) 120 then some (rOk (M 52 (ix (((jrem x1 40) * 3) + x2))), M) else none else j_X9_runOf_47 M else j_X9_runOf_28 M
set_option maxRecDepth 20000 in
set_option maxHeartbeats 2000000 in
theorem ev_X9_runOf (d : Nat) (hlev : 6 ≤ d) (x1 : Int32) (x2 : Int32) (M : Mem) : EvX KSx ST1 mdX9_runOf d [.inr 0, .inl x1, .inl x2] M (f_X9_runOf x1 x2 M) := by
  refine evX_of rfl (Nat.le_of_ble_eq_true rfl) ?_
  show CorX KSx ST1 RX9 cX9_runOf 4 (some .int) d 0 [(0, .inr 0), (1, .inl x1), (2, .inl x2)] [] M (f_X9_runOf x1 x2 M)
  unfold f_X9_runOf
  refine c_aload_n (i := 0) dX9_runOf_0 rfl rfl ?_
  refine gf_RX9_33 (blk_get0 KSx_b0) dX9_runOf_1 ?_
  refine gf_RX9_114 (blk_get0 (blk_sub (C := blk5) (i := 33) KSx_b0 rfl)) dX9_runOf_4 ?_
  refine gf_RX9_123 (blk_get0 (blk_sub (C := blk0) (i := 17) (blk_sub (C := blk5) (i := 33) KSx_b0 rfl) rfl)) dX9_runOf_7 ?_
  refine c_istore_n (i := 3) dX9_runOf_10 rfl (by decide) (ls2 := [(0, .inr 0), (1, .inl x1), (2, .inl x2), (3, .inl (M 50 3))]) rfl ?_
  refine c_iload_n (i := 1) dX9_runOf_11 rfl rfl ?_
  refine c_if_lt (tgt := 28) dX9_runOf_12 rfl (fun h1 => ?_) (fun h1 => ?_)
  · refine c_keep [] (ls2 := []) rfl ?_
    exact jo_X9_runOf_28 d hlev M
  · refine c_iload_n (i := 1) dX9_runOf_15 rfl rfl ?_
    refine c_iload_n (i := 3) dX9_runOf_16 rfl rfl ?_
    refine c_icmp_ge (tgt := 28) dX9_runOf_17 rfl (fun h2 => ?_) (fun h2 => ?_)
    · refine c_keep [] (ls2 := []) rfl ?_
      exact jo_X9_runOf_28 d hlev M
    · refine c_iload_n (i := 1) dX9_runOf_20 rfl rfl ?_
      refine c_iload_n (i := 3) dX9_runOf_21 rfl rfl ?_
      refine c_bipush dX9_runOf_22 (v := 40) rfl ?_
      refine c_isub dX9_runOf_24 ?_
      refine c_icmp_ge (tgt := 38) dX9_runOf_25 rfl (fun h3 => ?_) (fun h3 => ?_)
      · refine c_iload_n (i := 2) dX9_runOf_38 rfl rfl ?_
        refine c_if_lt (tgt := 47) dX9_runOf_39 rfl (fun h4 => ?_) (fun h4 => ?_)
        · refine c_keep [] (ls2 := []) rfl ?_
          exact jo_X9_runOf_47 d hlev M
        · refine c_iload_n (i := 2) dX9_runOf_42 rfl rfl ?_
          refine c_iconst dX9_runOf_43 (v := 3) rfl ?_
          refine c_icmp_lt (tgt := 57) dX9_runOf_44 rfl (fun h5 => ?_) (fun h5 => ?_)
          · refine c_aload_n (i := 0) dX9_runOf_57 rfl rfl ?_
            refine gf_RX9_33 (blk_get0 KSx_b0) dX9_runOf_58 ?_
            refine gf_RX9_114 (blk_get0 (blk_sub (C := blk5) (i := 33) KSx_b0 rfl)) dX9_runOf_61 ?_
            refine gf_RX9_248 (blk_get0 (blk_sub (C := blk0) (i := 17) (blk_sub (C := blk5) (i := 33) KSx_b0 rfl) rfl)) dX9_runOf_64 ?_
            refine c_iload_n (i := 1) dX9_runOf_67 rfl rfl ?_
            refine c_bipush dX9_runOf_68 (v := 40) rfl ?_
            refine c_irem dX9_runOf_70 (by decide) ?_
            refine c_iconst dX9_runOf_71 (v := 3) rfl ?_
            refine c_imul dX9_runOf_72 ?_
            refine c_iload_n (i := 2) dX9_runOf_73 rfl rfl ?_
            refine c_iadd dX9_runOf_74 ?_
            refine c_chk (fun h6 => ?_)
            refine c_iald (blk_get0 (blk_sub (C := [(20, 120)]) (i := 2) (blk_sub (C := blk0) (i := 17) (blk_sub (C := blk5) (i := 33) KSx_b0 rfl) rfl) rfl)) h6 dX9_runOf_75 ?_
            exact c_xret rfl dX9_runOf_76
          · refine c_keep [] (ls2 := []) rfl ?_
            exact jo_X9_runOf_47 d hlev M
      · refine c_keep [] (ls2 := []) rfl ?_
        exact jo_X9_runOf_28 d hlev M

abbrev mdX9_clock : MD := (yX9_clock, cX9_clock, 2, (some .int))
theorem mw_X9_clock : mdW mdX9_clock := ⟨wm_X9_clock, w0_RX9, by decide, by decide⟩
theorem mn_X9_clock : (parseMethodDescriptor yX9_clock.desc).map (fun d => d.parameters.length) = some 1 := by decide +kernel
def f_X9_clock (x1 : Int32) (M : Mem) : Option ((Int32 ⊕ String) × Mem) := bndX (f_X9_requireBank x1 M) (fun _ M2 => if inb x1 8 then some (rOk (M2 38 (ix x1)), M2) else none)
set_option maxRecDepth 20000 in
set_option maxHeartbeats 2000000 in
theorem ev_X9_clock (d : Nat) (hlev : 7 ≤ d) (x1 : Int32) (M : Mem) : EvX KSx ST1 mdX9_clock d [.inr 0, .inl x1] M (f_X9_clock x1 M) := by
  refine evX_of rfl (Nat.le_of_ble_eq_true rfl) ?_
  show CorX KSx ST1 RX9 cX9_clock 2 (some .int) d 0 [(0, .inr 0), (1, .inl x1)] [] M (f_X9_clock x1 M)
  unfold f_X9_clock
  refine c_aload_n (i := 0) dX9_clock_0 rfl rfl ?_
  refine c_iload_n (i := 1) dX9_clock_1 rfl rfl ?_
  refine c_callX (as := [.inl x1]) (rs := []) (ev_X9_requireBank 6 (Nat.le_refl _) x1 M) rfl (Nat.lt_of_lt_of_le (by decide) hlev) mw_X9_requireBank wi_X9_requireBank wv_X9_requireBank (blk_get0 KSx_b0) (by decide) rfl wl_RX9_251 mn_X9_requireBank rfl (by decide) (Nat.le_of_ble_eq_true rfl) rfl dX9_clock_2 (fun v1 M2 _ => ?_)
  refine c_aload_n (i := 0) dX9_clock_5 rfl rfl ?_
  refine gf_RX9_33 (blk_get0 KSx_b0) dX9_clock_6 ?_
  refine gf_RX9_254 (blk_get0 (blk_sub (C := blk5) (i := 33) KSx_b0 rfl)) dX9_clock_9 ?_
  refine gf_RX9_258 (blk_get0 (blk_sub (C := blk6) (i := 4) (blk_sub (C := blk5) (i := 33) KSx_b0 rfl) rfl)) dX9_clock_12 ?_
  refine c_iload_n (i := 1) dX9_clock_15 rfl rfl ?_
  refine c_chk (fun h3 => ?_)
  refine c_iald (blk_get0 (blk_sub (C := [(20, 8)]) (i := 1) (blk_sub (C := blk6) (i := 4) (blk_sub (C := blk5) (i := 33) KSx_b0 rfl) rfl) rfl)) h3 dX9_clock_16 ?_
  exact c_xret rfl dX9_clock_17

abbrev mdX9_ready : MD := (yX9_ready, cX9_ready, 3, (some .int))
theorem mw_X9_ready : mdW mdX9_ready := ⟨wm_X9_ready, w0_RX9, by decide, by decide⟩
theorem mn_X9_ready : (parseMethodDescriptor yX9_ready.desc).map (fun d => d.parameters.length) = some 2 := by decide +kernel
def f_X9_ready (x1 : Int32) (x2 : Int32) (M : Mem) : Option ((Int32 ⊕ String) × Mem) := bndX (f_X9_requireRegister x1 x2 M) (fun _ M2 => if inb ((x1 * 4) + x2) 32 then some (rOk (M2 39 (ix ((x1 * 4) + x2))), M2) else none)
set_option maxRecDepth 20000 in
set_option maxHeartbeats 2000000 in
theorem ev_X9_ready (d : Nat) (hlev : 8 ≤ d) (x1 : Int32) (x2 : Int32) (M : Mem) : EvX KSx ST1 mdX9_ready d [.inr 0, .inl x1, .inl x2] M (f_X9_ready x1 x2 M) := by
  refine evX_of rfl (Nat.le_of_ble_eq_true rfl) ?_
  show CorX KSx ST1 RX9 cX9_ready 3 (some .int) d 0 [(0, .inr 0), (1, .inl x1), (2, .inl x2)] [] M (f_X9_ready x1 x2 M)
  unfold f_X9_ready
  refine c_aload_n (i := 0) dX9_ready_0 rfl rfl ?_
  refine c_iload_n (i := 1) dX9_ready_1 rfl rfl ?_
  refine c_iload_n (i := 2) dX9_ready_2 rfl rfl ?_
  refine c_callX (as := [.inl x1, .inl x2]) (rs := []) (ev_X9_requireRegister 7 (Nat.le_refl _) x1 x2 M) rfl (Nat.lt_of_lt_of_le (by decide) hlev) mw_X9_requireRegister wi_X9_requireRegister wv_X9_requireRegister (blk_get0 KSx_b0) (by decide) rfl wl_RX9_263 mn_X9_requireRegister rfl (by decide) (Nat.le_of_ble_eq_true rfl) rfl dX9_ready_3 (fun v1 M2 _ => ?_)
  refine c_aload_n (i := 0) dX9_ready_6 rfl rfl ?_
  refine gf_RX9_33 (blk_get0 KSx_b0) dX9_ready_7 ?_
  refine gf_RX9_254 (blk_get0 (blk_sub (C := blk5) (i := 33) KSx_b0 rfl)) dX9_ready_10 ?_
  refine gf_RX9_266 (blk_get0 (blk_sub (C := blk6) (i := 4) (blk_sub (C := blk5) (i := 33) KSx_b0 rfl) rfl)) dX9_ready_13 ?_
  refine c_iload_n (i := 1) dX9_ready_16 rfl rfl ?_
  refine c_iconst dX9_ready_17 (v := 4) rfl ?_
  refine c_imul dX9_ready_18 ?_
  refine c_iload_n (i := 2) dX9_ready_19 rfl rfl ?_
  refine c_iadd dX9_ready_20 ?_
  refine c_chk (fun h3 => ?_)
  refine c_iald (blk_get0 (blk_sub (C := [(20, 32)]) (i := 2) (blk_sub (C := blk6) (i := 4) (blk_sub (C := blk5) (i := 33) KSx_b0 rfl) rfl) rfl)) h3 dX9_ready_21 ?_
  exact c_xret rfl dX9_ready_22

abbrev mdX9_openRow : MD := (yX9_openRow, cX9_openRow, 2, (some .int))
theorem mw_X9_openRow : mdW mdX9_openRow := ⟨wm_X9_openRow, w0_RX9, by decide, by decide⟩
theorem mn_X9_openRow : (parseMethodDescriptor yX9_openRow.desc).map (fun d => d.parameters.length) = some 1 := by decide +kernel
def f_X9_openRow (x1 : Int32) (M : Mem) : Option ((Int32 ⊕ String) × Mem) := bndX (f_X9_requireBank x1 M) (fun _ M2 => if inb x1 8 then some (rOk (M2 40 (ix x1)), M2) else none)
set_option maxRecDepth 20000 in
set_option maxHeartbeats 2000000 in
theorem ev_X9_openRow (d : Nat) (hlev : 7 ≤ d) (x1 : Int32) (M : Mem) : EvX KSx ST1 mdX9_openRow d [.inr 0, .inl x1] M (f_X9_openRow x1 M) := by
  refine evX_of rfl (Nat.le_of_ble_eq_true rfl) ?_
  show CorX KSx ST1 RX9 cX9_openRow 2 (some .int) d 0 [(0, .inr 0), (1, .inl x1)] [] M (f_X9_openRow x1 M)
  unfold f_X9_openRow
  refine c_aload_n (i := 0) dX9_openRow_0 rfl rfl ?_
  refine c_iload_n (i := 1) dX9_openRow_1 rfl rfl ?_
  refine c_callX (as := [.inl x1]) (rs := []) (ev_X9_requireBank 6 (Nat.le_refl _) x1 M) rfl (Nat.lt_of_lt_of_le (by decide) hlev) mw_X9_requireBank wi_X9_requireBank wv_X9_requireBank (blk_get0 KSx_b0) (by decide) rfl wl_RX9_251 mn_X9_requireBank rfl (by decide) (Nat.le_of_ble_eq_true rfl) rfl dX9_openRow_2 (fun v1 M2 _ => ?_)
  refine c_aload_n (i := 0) dX9_openRow_5 rfl rfl ?_
  refine gf_RX9_33 (blk_get0 KSx_b0) dX9_openRow_6 ?_
  refine gf_RX9_254 (blk_get0 (blk_sub (C := blk5) (i := 33) KSx_b0 rfl)) dX9_openRow_9 ?_
  refine gf_RX9_269 (blk_get0 (blk_sub (C := blk6) (i := 4) (blk_sub (C := blk5) (i := 33) KSx_b0 rfl) rfl)) dX9_openRow_12 ?_
  refine c_iload_n (i := 1) dX9_openRow_15 rfl rfl ?_
  refine c_chk (fun h3 => ?_)
  refine c_iald (blk_get0 (blk_sub (C := [(20, 8)]) (i := 3) (blk_sub (C := blk6) (i := 4) (blk_sub (C := blk5) (i := 33) KSx_b0 rfl) rfl) rfl)) h3 dX9_openRow_16 ?_
  exact c_xret rfl dX9_openRow_17

abbrev mdX9_stalls : MD := (yX9_stalls, cX9_stalls, 3, (some .int))
theorem mw_X9_stalls : mdW mdX9_stalls := ⟨wm_X9_stalls, w0_RX9, by decide, by decide⟩
theorem mn_X9_stalls : (parseMethodDescriptor yX9_stalls.desc).map (fun d => d.parameters.length) = some 2 := by decide +kernel
def j_X9_stalls_14 (M : Mem) : Option ((Int32 ⊕ String) × Mem) := some (rEx "java/lang/IllegalArgumentException", M)
set_option maxRecDepth 20000 in
set_option maxHeartbeats 2000000 in
theorem jo_X9_stalls_14 (d : Nat) (hlev : 7 ≤ d) (M : Mem) : CorX KSx ST1 RX9 cX9_stalls 3 (some .int) d 14 [] [] M (j_X9_stalls_14 M) := by
  unfold j_X9_stalls_14
  exact th_95w (List.mem_of_getElem? (i := 17) rfl) (Nat.le_trans (by decide) hlev) (Nat.le_of_ble_eq_true rfl) dX9_stalls_14 dX9_stalls_17 dX9_stalls_18 dX9_stalls_21 dX9_stalls_24
def f_X9_stalls (x1 : Int32) (x2 : Int32) (M : Mem) : Option ((Int32 ⊕ String) × Mem) := bndX (f_X9_requireBank x1 M) (fun _ M2 => if x2 < 0 then j_X9_stalls_14 M2 else if x2 < 4 then if inb ((x1 * 4) + x2) 32 then some (rOk (M2 43 (ix ((x1 * 4) + x2))), M2) else none else j_X9_stalls_14 M2)
set_option maxRecDepth 20000 in
set_option maxHeartbeats 2000000 in
theorem ev_X9_stalls (d : Nat) (hlev : 7 ≤ d) (x1 : Int32) (x2 : Int32) (M : Mem) : EvX KSx ST1 mdX9_stalls d [.inr 0, .inl x1, .inl x2] M (f_X9_stalls x1 x2 M) := by
  refine evX_of rfl (Nat.le_of_ble_eq_true rfl) ?_
  show CorX KSx ST1 RX9 cX9_stalls 3 (some .int) d 0 [(0, .inr 0), (1, .inl x1), (2, .inl x2)] [] M (f_X9_stalls x1 x2 M)
  unfold f_X9_stalls
  refine c_aload_n (i := 0) dX9_stalls_0 rfl rfl ?_
  refine c_iload_n (i := 1) dX9_stalls_1 rfl rfl ?_
  refine c_callX (as := [.inl x1]) (rs := []) (ev_X9_requireBank 6 (Nat.le_refl _) x1 M) rfl (Nat.lt_of_lt_of_le (by decide) hlev) mw_X9_requireBank wi_X9_requireBank wv_X9_requireBank (blk_get0 KSx_b0) (by decide) rfl wl_RX9_251 mn_X9_requireBank rfl (by decide) (Nat.le_of_ble_eq_true rfl) rfl dX9_stalls_2 (fun v1 M2 _ => ?_)
  refine c_iload_n (i := 2) dX9_stalls_5 rfl rfl ?_
  refine c_if_lt (tgt := 14) dX9_stalls_6 rfl (fun h3 => ?_) (fun h3 => ?_)
  · refine c_keep [] (ls2 := []) rfl ?_
    exact jo_X9_stalls_14 d hlev M2
  · refine c_iload_n (i := 2) dX9_stalls_9 rfl rfl ?_
    refine c_iconst dX9_stalls_10 (v := 4) rfl ?_
    refine c_icmp_lt (tgt := 25) dX9_stalls_11 rfl (fun h4 => ?_) (fun h4 => ?_)
    · refine c_aload_n (i := 0) dX9_stalls_25 rfl rfl ?_
      refine gf_RX9_33 (blk_get0 KSx_b0) dX9_stalls_26 ?_
      refine gf_RX9_254 (blk_get0 (blk_sub (C := blk5) (i := 33) KSx_b0 rfl)) dX9_stalls_29 ?_
      refine gf_RX9_274 (blk_get0 (blk_sub (C := blk6) (i := 4) (blk_sub (C := blk5) (i := 33) KSx_b0 rfl) rfl)) dX9_stalls_32 ?_
      refine c_iload_n (i := 1) dX9_stalls_35 rfl rfl ?_
      refine c_iconst dX9_stalls_36 (v := 4) rfl ?_
      refine c_imul dX9_stalls_37 ?_
      refine c_iload_n (i := 2) dX9_stalls_38 rfl rfl ?_
      refine c_iadd dX9_stalls_39 ?_
      refine c_chk (fun h5 => ?_)
      refine c_iald (blk_get0 (blk_sub (C := [(20, 32)]) (i := 6) (blk_sub (C := blk6) (i := 4) (blk_sub (C := blk5) (i := 33) KSx_b0 rfl) rfl) rfl)) h5 dX9_stalls_40 ?_
      exact c_xret rfl dX9_stalls_41
    · refine c_keep [] (ls2 := []) rfl ?_
      exact jo_X9_stalls_14 d hlev M2

abbrev mdX9_finish : MD := (yX9_finish, cX9_finish, 1, (some .int))
theorem mw_X9_finish : mdW mdX9_finish := ⟨wm_X9_finish, w0_RX9, by decide, by decide⟩
theorem mn_X9_finish : (parseMethodDescriptor yX9_finish.desc).map (fun d => d.parameters.length) = some 0 := by decide +kernel
def f_X9_finish (M : Mem) : Option (Int32 × Mem) := bnd (f_X6_latest 37 255 M) (fun v1 M2 => some (v1, M2))
set_option maxRecDepth 20000 in
set_option maxHeartbeats 2000000 in
theorem ev_X9_finish (d : Nat) (hlev : 2 ≤ d) (M : Mem) : Ev KSx ST1 mdX9_finish d [.inr 0] M (f_X9_finish M) := by
  refine ev_of rfl (Nat.le_of_ble_eq_true rfl) ?_
  show CorM KSx ST1 RX9 cX9_finish 1 (some .int) d 0 [(0, .inr 0)] [] M (f_X9_finish M)
  unfold f_X9_finish
  refine c_aload_n (i := 0) dX9_finish_0 rfl rfl ?_
  refine gf_RX9_33 (blk_get0 KSx_b0) dX9_finish_1 ?_
  refine gf_RX9_254 (blk_get0 (blk_sub (C := blk5) (i := 33) KSx_b0 rfl)) dX9_finish_4 ?_
  refine c_sipush dX9_finish_7 (v := 255) rfl ?_
  refine c_callV (as := [.inl 255]) (rs := []) (ev_X6_latest 1 (Nat.le_refl _) 37 (blk_sub (C := blk6) (i := 4) (blk_sub (C := blk5) (i := 33) KSx_b0 rfl) rfl) 255 M) rfl (Nat.lt_of_lt_of_le (by decide) hlev) mw_X6_latest wi_X6_latest wv_X6_latest (blk_get0 (blk_sub (C := blk6) (i := 4) (blk_sub (C := blk5) (i := 33) KSx_b0 rfl) rfl)) (by decide) rfl wl_RX9_277 mn_X6_latest rfl (by decide) (Nat.le_of_ble_eq_true rfl) ⟨_, rfl⟩ dX9_finish_10 (fun v1 M2 _ => ?_)
  exact c_iret rfl dX9_finish_13
