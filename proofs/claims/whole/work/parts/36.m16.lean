abbrev mdX10_activates : MD := (yX10_activates, cX10_activates, 5, (some .int))
theorem mw_X10_activates : mdW mdX10_activates := ⟨wm_X10_activates, w0_RX10, by decide, by decide⟩
theorem mn_X10_activates : (parseMethodDescriptor yX10_activates.desc).map (fun d => d.parameters.length) = some 3 := by decide +kernel
def j_X10_activates_47 (x1 : Int32) (x2 : Int32) (x3 : Int32) (w0 : Int32) (M : Mem) : Option (Int32 × Mem) := bnd (f_X10_stalls x1 1 (M 5 3) M) (fun _ M6 => bnd (f_X10_stalls x1 2 (w0 - x3) M6) (fun _ M8 => if inb (48 + x1) 1671 then if inb ((56 + (8 * x1)) + (jrem (M8 1 (ix (48 + x1))) 8)) 1671 then wrt (up M8 1 (ix ((56 + (8 * x1)) + (jrem (M8 1 (ix (48 + x1))) 8))) w0) (fun M11 => if inb (48 + x1) 1671 then if inb (48 + x1) 1671 then wrt (up M11 1 (ix (48 + x1)) ((M11 1 (ix (48 + x1))) + 1)) (fun M14 => if inb (40 + x1) 1671 then wrt (up M14 1 (ix (40 + x1)) (x2 + 1)) (fun M16 => some (w0 + (M16 5 3), M16)) else none) else none else none) else none else none))
set_option maxRecDepth 20000 in
set_option maxHeartbeats 2000000 in
theorem jo_X10_activates_47 (d : Nat) (hlev : 1 ≤ d) (x1 : Int32) (x2 : Int32) (x3 : Int32) (w0 : Int32) (M : Mem) : CorM KSm ST1 RX10 cX10_activates 5 (some .int) d 47 [(0, .inr 0), (1, .inl x1), (2, .inl x2), (3, .inl x3)] [.inl w0] M (j_X10_activates_47 x1 x2 x3 w0 M) := by
  unfold j_X10_activates_47
  refine c_istore dX10_activates_47 (by decide) (ls2 := [(0, .inr 0), (1, .inl x1), (2, .inl x2), (3, .inl x3), (4, .inl w0)]) rfl ?_
  refine c_aload_n (i := 0) dX10_activates_49 rfl rfl ?_
  refine c_iload_n (i := 1) dX10_activates_50 rfl rfl ?_
  refine c_iconst dX10_activates_51 (v := 1) rfl ?_
  refine c_aload_n (i := 0) dX10_activates_52 rfl rfl ?_
  refine gf_RX10_23 (blk_get0 KSm_b0) dX10_activates_53 ?_
  refine c_iconst dX10_activates_56 (v := 3) rfl ?_
  refine c_iald (blk_get0 (blk_sub (C := [(20, 290)]) (i := 5) KSm_b0 rfl)) (by decide) dX10_activates_57 ?_
  refine c_callVv (as := [.inl x1, .inl 1, .inl (M 5 3)]) (rs := []) (ev_X10_stalls 0 (Nat.le_refl _) x1 1 (M 5 3) M) rfl (Nat.lt_of_lt_of_le (by decide) hlev) mw_X10_stalls wi_X10_stalls wv_X10_stalls (blk_get0 KSm_b0) (by decide) rfl wl_RX10_282 mn_X10_stalls rfl (by decide) (Nat.le_of_ble_eq_true rfl) rfl dX10_activates_58 (fun v5 M6 _ => ?_)
  refine c_aload_n (i := 0) dX10_activates_61 rfl rfl ?_
  refine c_iload_n (i := 1) dX10_activates_62 rfl rfl ?_
  refine c_iconst dX10_activates_63 (v := 2) rfl ?_
  refine c_iload dX10_activates_64 rfl ?_
  refine c_iload_n (i := 3) dX10_activates_66 rfl rfl ?_
  refine c_isub dX10_activates_67 ?_
  refine c_callVv (as := [.inl x1, .inl 2, .inl (w0 - x3)]) (rs := []) (ev_X10_stalls 0 (Nat.le_refl _) x1 2 (w0 - x3) M6) rfl (Nat.lt_of_lt_of_le (by decide) hlev) mw_X10_stalls wi_X10_stalls wv_X10_stalls (blk_get0 KSm_b0) (by decide) rfl wl_RX10_282 mn_X10_stalls rfl (by decide) (Nat.le_of_ble_eq_true rfl) rfl dX10_activates_68 (fun v7 M8 _ => ?_)
  refine c_aload_n (i := 0) dX10_activates_71 rfl rfl ?_
  refine gf_RX10_9 (blk_get0 KSm_b0) dX10_activates_72 ?_
  refine c_bipush dX10_activates_75 (v := 56) rfl ?_
  refine c_bipush dX10_activates_77 (v := 8) rfl ?_
  refine c_iload_n (i := 1) dX10_activates_79 rfl rfl ?_
  refine c_imul dX10_activates_80 ?_
  refine c_iadd dX10_activates_81 ?_
  refine c_aload_n (i := 0) dX10_activates_82 rfl rfl ?_
  refine gf_RX10_9 (blk_get0 KSm_b0) dX10_activates_83 ?_
  refine c_bipush dX10_activates_86 (v := 48) rfl ?_
  refine c_iload_n (i := 1) dX10_activates_88 rfl rfl ?_
  refine c_iadd dX10_activates_89 ?_
  refine c_chk (fun h9 => ?_)
  refine c_iald (blk_get0 (blk_sub (C := [(20, 1671)]) (i := 1) KSm_b0 rfl)) h9 dX10_activates_90 ?_
  refine c_bipush dX10_activates_91 (v := 8) rfl ?_
  refine c_irem dX10_activates_93 (by decide) ?_
  refine c_iadd dX10_activates_94 ?_
  refine c_iload dX10_activates_95 rfl ?_
  refine c_chk (fun h10 => ?_)
  refine c_iast (blk_get0 (blk_sub (C := [(20, 1671)]) (i := 1) KSm_b0 rfl)) h10 dX10_activates_97 ?_
  refine c_wrt (fun M11 => ?_)
  refine c_aload_n (i := 0) dX10_activates_98 rfl rfl ?_
  refine gf_RX10_9 (blk_get0 KSm_b0) dX10_activates_99 ?_
  refine c_bipush dX10_activates_102 (v := 48) rfl ?_
  refine c_iload_n (i := 1) dX10_activates_104 rfl rfl ?_
  refine c_iadd dX10_activates_105 ?_
  refine c_dup2 dX10_activates_106 ?_
  refine c_chk (fun h12 => ?_)
  refine c_iald (blk_get0 (blk_sub (C := [(20, 1671)]) (i := 1) KSm_b0 rfl)) h12 dX10_activates_107 ?_
  refine c_iconst dX10_activates_108 (v := 1) rfl ?_
  refine c_iadd dX10_activates_109 ?_
  refine c_chk (fun h13 => ?_)
  refine c_iast (blk_get0 (blk_sub (C := [(20, 1671)]) (i := 1) KSm_b0 rfl)) h13 dX10_activates_110 ?_
  refine c_wrt (fun M14 => ?_)
  refine c_aload_n (i := 0) dX10_activates_111 rfl rfl ?_
  refine gf_RX10_9 (blk_get0 KSm_b0) dX10_activates_112 ?_
  refine c_bipush dX10_activates_115 (v := 40) rfl ?_
  refine c_iload_n (i := 1) dX10_activates_117 rfl rfl ?_
  refine c_iadd dX10_activates_118 ?_
  refine c_iload_n (i := 2) dX10_activates_119 rfl rfl ?_
  refine c_iconst dX10_activates_120 (v := 1) rfl ?_
  refine c_iadd dX10_activates_121 ?_
  refine c_chk (fun h15 => ?_)
  refine c_iast (blk_get0 (blk_sub (C := [(20, 1671)]) (i := 1) KSm_b0 rfl)) h15 dX10_activates_122 ?_
  refine c_wrt (fun M16 => ?_)
  refine c_iload dX10_activates_123 rfl ?_
  refine c_aload_n (i := 0) dX10_activates_125 rfl rfl ?_
  refine gf_RX10_23 (blk_get0 KSm_b0) dX10_activates_126 ?_
  refine c_iconst dX10_activates_129 (v := 3) rfl ?_
  refine c_iald (blk_get0 (blk_sub (C := [(20, 290)]) (i := 5) KSm_b0 rfl)) (by decide) dX10_activates_130 ?_
  refine c_iadd dX10_activates_131 ?_
  exact c_iret rfl dX10_activates_132
def f_X10_activates (x1 : Int32) (x2 : Int32) (x3 : Int32) (M : Mem) : Option (Int32 × Mem) := if inb (48 + x1) 1671 then if (M 5 9) ≤ (M 1 (ix (48 + x1))) then bnd (f_X10_startOf x1 (M 5 9) M) (fun v3 M4 => j_X10_activates_47 x1 x2 x3 (p_X10_greater x3 (v3 + (M4 5 10))) M4) else j_X10_activates_47 x1 x2 x3 x3 M else none
set_option maxRecDepth 20000 in
set_option maxHeartbeats 2000000 in
theorem ev_X10_activates (d : Nat) (hlev : 1 ≤ d) (x1 : Int32) (x2 : Int32) (x3 : Int32) (M : Mem) : Ev KSm ST1 mdX10_activates d [.inr 0, .inl x1, .inl x2, .inl x3] M (f_X10_activates x1 x2 x3 M) := by
  refine ev_of rfl (Nat.le_of_ble_eq_true rfl) ?_
  show CorM KSm ST1 RX10 cX10_activates 5 (some .int) d 0 [(0, .inr 0), (1, .inl x1), (2, .inl x2), (3, .inl x3)] [] M (f_X10_activates x1 x2 x3 M)
  unfold f_X10_activates
  refine c_aload_n (i := 0) dX10_activates_0 rfl rfl ?_
  refine gf_RX10_9 (blk_get0 KSm_b0) dX10_activates_1 ?_
  refine c_bipush dX10_activates_4 (v := 48) rfl ?_
  refine c_iload_n (i := 1) dX10_activates_6 rfl rfl ?_
  refine c_iadd dX10_activates_7 ?_
  refine c_chk (fun h1 => ?_)
  refine c_iald (blk_get0 (blk_sub (C := [(20, 1671)]) (i := 1) KSm_b0 rfl)) h1 dX10_activates_8 ?_
  refine c_aload_n (i := 0) dX10_activates_9 rfl rfl ?_
  refine gf_RX10_23 (blk_get0 KSm_b0) dX10_activates_10 ?_
  refine c_bipush dX10_activates_13 (v := 9) rfl ?_
  refine c_iald (blk_get0 (blk_sub (C := [(20, 290)]) (i := 5) KSm_b0 rfl)) (by decide) dX10_activates_15 ?_
  refine c_icmp_ge (tgt := 23) dX10_activates_16 rfl (fun h2 => ?_) (fun h2 => ?_)
  · refine c_iload_n (i := 3) dX10_activates_23 rfl rfl ?_
    refine c_aload_n (i := 0) dX10_activates_24 rfl rfl ?_
    refine c_iload_n (i := 1) dX10_activates_25 rfl rfl ?_
    refine c_aload_n (i := 0) dX10_activates_26 rfl rfl ?_
    refine gf_RX10_23 (blk_get0 KSm_b0) dX10_activates_27 ?_
    refine c_bipush dX10_activates_30 (v := 9) rfl ?_
    refine c_iald (blk_get0 (blk_sub (C := [(20, 290)]) (i := 5) KSm_b0 rfl)) (by decide) dX10_activates_32 ?_
    refine c_callV (as := [.inl x1, .inl (M 5 9)]) (rs := [.inl x3]) (ev_X10_startOf 0 (Nat.le_refl _) x1 (M 5 9) M) rfl (Nat.lt_of_lt_of_le (by decide) hlev) mw_X10_startOf wi_X10_startOf wv_X10_startOf (blk_get0 KSm_b0) (by decide) rfl wl_RX10_276 mn_X10_startOf rfl (by decide) (Nat.le_of_ble_eq_true rfl) ⟨_, rfl⟩ dX10_activates_33 (fun v3 M4 _ => ?_)
    refine c_aload_n (i := 0) dX10_activates_36 rfl rfl ?_
    refine gf_RX10_23 (blk_get0 KSm_b0) dX10_activates_37 ?_
    refine c_bipush dX10_activates_40 (v := 10) rfl ?_
    refine c_iald (blk_get0 (blk_sub (C := [(20, 290)]) (i := 5) KSm_b0 rfl)) (by decide) dX10_activates_42 ?_
    refine c_iadd dX10_activates_43 ?_
    refine c_callSp (as := [.inl x3, .inl (v3 + (M4 5 10))]) (rs := []) (ev_X10_greater 0 (Nat.le_refl _) x3 (v3 + (M4 5 10)) M4) rfl (Nat.lt_of_lt_of_le (by decide) hlev) mw_X10_greater ws_X10_greater wl_RX10_279 mn_X10_greater rfl (by decide) (Nat.le_of_ble_eq_true rfl) ⟨_, rfl⟩ dX10_activates_44 ?_
    refine c_keep [0, 1, 2, 3] (ls2 := [(0, .inr 0), (1, .inl x1), (2, .inl x2), (3, .inl x3)]) rfl ?_
    exact jo_X10_activates_47 d hlev x1 x2 x3 (p_X10_greater x3 (v3 + (M4 5 10))) M4
  · refine c_iload_n (i := 3) dX10_activates_19 rfl rfl ?_
    refine c_goto (tgt := 47) dX10_activates_20 rfl ?_
    refine c_keep [0, 1, 2, 3] (ls2 := [(0, .inr 0), (1, .inl x1), (2, .inl x2), (3, .inl x3)]) rfl ?_
    exact jo_X10_activates_47 d hlev x1 x2 x3 x3 M

abbrev mdX10_alone : MD := (yX10_alone, cX10_alone, 8, none)
theorem mw_X10_alone : mdW mdX10_alone := ⟨wm_X10_alone, w0_RX10, by decide, by decide⟩
theorem mn_X10_alone : (parseMethodDescriptor yX10_alone.desc).map (fun d => d.parameters.length) = some 2 := by decide +kernel
def j_X10_alone_239 (x1 : Int32) (x4 : Int32) (x5 : Int32) (w0 : Int32) (M : Mem) : Option (Int32 × Mem) := if inb ((8 + (4 * x1)) + x4) 1671 then wrt (up M 1 (ix ((8 + (4 * x1)) + x4)) (x5 + w0)) (fun M28 => some (0, M28)) else none
set_option maxRecDepth 20000 in
set_option maxHeartbeats 2000000 in
theorem jo_X10_alone_239 (d : Nat) (hlev : 2 ≤ d) (x1 : Int32) (x4 : Int32) (x5 : Int32) (w0 : Int32) (M : Mem) : CorM KSm ST1 RX10 cX10_alone 8 none d 239 [(0, .inr 0), (1, .inl x1), (4, .inl x4), (5, .inl x5)] [.inl w0] M (j_X10_alone_239 x1 x4 x5 w0 M) := by
  unfold j_X10_alone_239
  refine c_istore dX10_alone_239 (by decide) (ls2 := [(0, .inr 0), (1, .inl x1), (4, .inl x4), (5, .inl x5), (7, .inl w0)]) rfl ?_
  refine c_aload_n (i := 0) dX10_alone_241 rfl rfl ?_
  refine gf_RX10_9 (blk_get0 KSm_b0) dX10_alone_242 ?_
  refine c_bipush dX10_alone_245 (v := 8) rfl ?_
  refine c_iconst dX10_alone_247 (v := 4) rfl ?_
  refine c_iload_n (i := 1) dX10_alone_248 rfl rfl ?_
  refine c_imul dX10_alone_249 ?_
  refine c_iadd dX10_alone_250 ?_
  refine c_iload dX10_alone_251 rfl ?_
  refine c_iadd dX10_alone_253 ?_
  refine c_iload dX10_alone_254 rfl ?_
  refine c_iload dX10_alone_256 rfl ?_
  refine c_iadd dX10_alone_258 ?_
  refine c_chk (fun h27 => ?_)
  refine c_iast (blk_get0 (blk_sub (C := [(20, 1671)]) (i := 1) KSm_b0 rfl)) h27 dX10_alone_259 ?_
  refine c_wrt (fun M28 => ?_)
  exact c_vret rfl dX10_alone_260
def j_X10_alone_132 (x1 : Int32) (x2 : Int32) (x3 : Int32) (x4 : Int32) (x5 : Int32) (M : Mem) : Option (Int32 × Mem) := bnd (f_X10_wayOf x2 M) (fun v17 M18 => (fun z19 : Int32 => if inb (0 + x1) 1671 then wrt (up M18 1 (ix (0 + x1)) (if ¬ x3 = 1 then x5 + 1 else x5 + (M18 5 4))) (fun M22 => if ¬ x3 = 1 then if ¬ x3 = 2 then if ¬ x3 = 3 then if ¬ x3 = 5 then j_X10_alone_239 x1 x4 x5 (M22 5 4) M22 else bnd (f_X10_halvings (M22 5 2) M22) (fun v29 M30 => j_X10_alone_239 x1 x4 x5 (v29 * z19) M30) else j_X10_alone_239 x1 x4 x5 z19 M22 else j_X10_alone_239 x1 x4 x5 1 M22 else some (0, M22)) else none) (if ¬ v17 = 1 then M18 5 5 else M18 5 6))
set_option maxRecDepth 20000 in
set_option maxHeartbeats 2000000 in
theorem jo_X10_alone_132 (d : Nat) (hlev : 2 ≤ d) (x1 : Int32) (x2 : Int32) (x3 : Int32) (x4 : Int32) (x5 : Int32) (M : Mem) : CorM KSm ST1 RX10 cX10_alone 8 none d 132 [(0, .inr 0), (1, .inl x1), (2, .inl x2), (3, .inl x3), (4, .inl x4), (5, .inl x5)] [] M (j_X10_alone_132 x1 x2 x3 x4 x5 M) := by
  unfold j_X10_alone_132
  refine c_aload_n (i := 0) dX10_alone_132 rfl rfl ?_
  refine c_iload_n (i := 2) dX10_alone_133 rfl rfl ?_
  refine c_callV (as := [.inl x2]) (rs := []) (ev_X10_wayOf 1 (Nat.le_refl _) x2 M) rfl (Nat.lt_of_lt_of_le (by decide) hlev) mw_X10_wayOf wi_X10_wayOf wv_X10_wayOf (blk_get0 KSm_b0) (by decide) rfl wl_RX10_257 mn_X10_wayOf rfl (by decide) (Nat.le_of_ble_eq_true rfl) ⟨_, rfl⟩ dX10_alone_134 (fun v17 M18 _ => ?_)
  refine c_iconst dX10_alone_137 (v := 1) rfl ?_
  have J_z19 : ∀ z19 : Int32, CorM KSm ST1 RX10 cX10_alone 8 none d 157 [(0, .inr 0), (1, .inl x1), (3, .inl x3), (4, .inl x4), (5, .inl x5)] [.inl z19] M18 (if inb (0 + x1) 1671 then wrt (up M18 1 (ix (0 + x1)) (if ¬ x3 = 1 then x5 + 1 else x5 + (M18 5 4))) (fun M22 => if ¬ x3 = 1 then if ¬ x3 = 2 then if ¬ x3 = 3 then if ¬ x3 = 5 then j_X10_alone_239 x1 x4 x5 (M22 5 4) M22 else bnd (f_X10_halvings (M22 5 2) M22) (fun v29 M30 => j_X10_alone_239 x1 x4 x5 (v29 * z19) M30) else j_X10_alone_239 x1 x4 x5 z19 M22 else j_X10_alone_239 x1 x4 x5 1 M22 else some (0, M22)) else none) := by
    intro z19
    refine c_istore dX10_alone_157 (by decide) (ls2 := [(0, .inr 0), (1, .inl x1), (3, .inl x3), (4, .inl x4), (5, .inl x5), (6, .inl z19)]) rfl ?_
    refine c_aload_n (i := 0) dX10_alone_159 rfl rfl ?_
    refine gf_RX10_9 (blk_get0 KSm_b0) dX10_alone_160 ?_
    refine c_iconst dX10_alone_163 (v := 0) rfl ?_
    refine c_iload_n (i := 1) dX10_alone_164 rfl rfl ?_
    refine c_iadd dX10_alone_165 ?_
    refine c_iload_n (i := 3) dX10_alone_166 rfl rfl ?_
    refine c_iconst dX10_alone_167 (v := 1) rfl ?_
    have J_z20 : ∀ z20 : Int32, CorM KSm ST1 RX10 cX10_alone 8 none d 187 [(0, .inr 0), (1, .inl x1), (3, .inl x3), (4, .inl x4), (5, .inl x5), (6, .inl z19)] [.inl z20, .inl (0 + x1), .inr 1] M18 (if inb (0 + x1) 1671 then wrt (up M18 1 (ix (0 + x1)) z20) (fun M22 => if ¬ x3 = 1 then if ¬ x3 = 2 then if ¬ x3 = 3 then if ¬ x3 = 5 then j_X10_alone_239 x1 x4 x5 (M22 5 4) M22 else bnd (f_X10_halvings (M22 5 2) M22) (fun v29 M30 => j_X10_alone_239 x1 x4 x5 (v29 * z19) M30) else j_X10_alone_239 x1 x4 x5 z19 M22 else j_X10_alone_239 x1 x4 x5 1 M22 else some (0, M22)) else none) := by
      intro z20
      refine c_chk (fun h21 => ?_)
      refine c_iast (blk_get0 (blk_sub (C := [(20, 1671)]) (i := 1) KSm_b0 rfl)) h21 dX10_alone_187 ?_
      refine c_wrt (fun M22 => ?_)
      refine c_iload_n (i := 3) dX10_alone_188 rfl rfl ?_
      refine c_iconst dX10_alone_189 (v := 1) rfl ?_
      refine c_icmp_ne (tgt := 194) dX10_alone_190 rfl (fun h23 => ?_) (fun h23 => ?_)
      · refine c_iload_n (i := 3) dX10_alone_194 rfl rfl ?_
        refine c_iconst dX10_alone_195 (v := 2) rfl ?_
        refine c_icmp_ne (tgt := 203) dX10_alone_196 rfl (fun h24 => ?_) (fun h24 => ?_)
        · refine c_iload_n (i := 3) dX10_alone_203 rfl rfl ?_
          refine c_iconst dX10_alone_204 (v := 3) rfl ?_
          refine c_icmp_ne (tgt := 213) dX10_alone_205 rfl (fun h25 => ?_) (fun h25 => ?_)
          · refine c_iload_n (i := 3) dX10_alone_213 rfl rfl ?_
            refine c_iconst dX10_alone_214 (v := 5) rfl ?_
            refine c_icmp_ne (tgt := 233) dX10_alone_215 rfl (fun h26 => ?_) (fun h26 => ?_)
            · refine c_aload_n (i := 0) dX10_alone_233 rfl rfl ?_
              refine gf_RX10_23 (blk_get0 KSm_b0) dX10_alone_234 ?_
              refine c_iconst dX10_alone_237 (v := 4) rfl ?_
              refine c_iald (blk_get0 (blk_sub (C := [(20, 290)]) (i := 5) KSm_b0 rfl)) (by decide) dX10_alone_238 ?_
              refine c_keep [0, 1, 4, 5] (ls2 := [(0, .inr 0), (1, .inl x1), (4, .inl x4), (5, .inl x5)]) rfl ?_
              exact jo_X10_alone_239 d hlev x1 x4 x5 (M22 5 4) M22
            · refine c_aload_n (i := 0) dX10_alone_218 rfl rfl ?_
              refine gf_RX10_23 (blk_get0 KSm_b0) dX10_alone_219 ?_
              refine c_iconst dX10_alone_222 (v := 2) rfl ?_
              refine c_iald (blk_get0 (blk_sub (C := [(20, 290)]) (i := 5) KSm_b0 rfl)) (by decide) dX10_alone_223 ?_
              refine c_callS (as := [.inl (M22 5 2)]) (rs := []) (ev_X10_halvings 0 (Nat.le_refl _) (M22 5 2) M22) rfl (Nat.lt_of_lt_of_le (by decide) hlev) mw_X10_halvings ws_X10_halvings wl_RX10_292 mn_X10_halvings rfl (by decide) (Nat.le_of_ble_eq_true rfl) ⟨_, rfl⟩ dX10_alone_224 (fun v29 M30 _ => ?_)
              refine c_iload dX10_alone_227 rfl ?_
              refine c_imul dX10_alone_229 ?_
              refine c_goto (tgt := 239) dX10_alone_230 rfl ?_
              refine c_keep [0, 1, 4, 5] (ls2 := [(0, .inr 0), (1, .inl x1), (4, .inl x4), (5, .inl x5)]) rfl ?_
              exact jo_X10_alone_239 d hlev x1 x4 x5 (v29 * z19) M30
          · refine c_iload dX10_alone_208 rfl ?_
            refine c_goto (tgt := 239) dX10_alone_210 rfl ?_
            refine c_keep [0, 1, 4, 5] (ls2 := [(0, .inr 0), (1, .inl x1), (4, .inl x4), (5, .inl x5)]) rfl ?_
            exact jo_X10_alone_239 d hlev x1 x4 x5 z19 M22
        · refine c_iconst dX10_alone_199 (v := 1) rfl ?_
          refine c_goto (tgt := 239) dX10_alone_200 rfl ?_
          refine c_keep [0, 1, 4, 5] (ls2 := [(0, .inr 0), (1, .inl x1), (4, .inl x4), (5, .inl x5)]) rfl ?_
          exact jo_X10_alone_239 d hlev x1 x4 x5 1 M22
      · exact c_vret rfl dX10_alone_193
    refine c_val (b := ¬ x3 = 1) (v1 := x5 + 1) (v2 := x5 + (M18 5 4)) (F := fun z20 => if inb (0 + x1) 1671 then wrt (up M18 1 (ix (0 + x1)) z20) (fun M22 => if ¬ x3 = 1 then if ¬ x3 = 2 then if ¬ x3 = 3 then if ¬ x3 = 5 then j_X10_alone_239 x1 x4 x5 (M22 5 4) M22 else bnd (f_X10_halvings (M22 5 2) M22) (fun v29 M30 => j_X10_alone_239 x1 x4 x5 (v29 * z19) M30) else j_X10_alone_239 x1 x4 x5 z19 M22 else j_X10_alone_239 x1 x4 x5 1 M22 else some (0, M22)) else none) (fun h31 => ?_) (fun h31 => ?_)
    · refine c_T h31 (c_icmp_ne (tgt := 183) dX10_alone_168 rfl (fun _ => ?_) (fun q => absurd h31 q))
      refine c_iload dX10_alone_183 rfl ?_
      refine c_iconst dX10_alone_185 (v := 1) rfl ?_
      refine c_iadd dX10_alone_186 ?_
      refine c_keep [0, 1, 3, 4, 5, 6] (ls2 := [(0, .inr 0), (1, .inl x1), (3, .inl x3), (4, .inl x4), (5, .inl x5), (6, .inl z19)]) rfl ?_
      exact J_z20 (x5 + 1)
    · refine c_Fl h31 (c_icmp_ne (tgt := 183) dX10_alone_168 rfl (fun q => absurd q h31) (fun _ => ?_))
      refine c_iload dX10_alone_171 rfl ?_
      refine c_aload_n (i := 0) dX10_alone_173 rfl rfl ?_
      refine gf_RX10_23 (blk_get0 KSm_b0) dX10_alone_174 ?_
      refine c_iconst dX10_alone_177 (v := 4) rfl ?_
      refine c_iald (blk_get0 (blk_sub (C := [(20, 290)]) (i := 5) KSm_b0 rfl)) (by decide) dX10_alone_178 ?_
      refine c_iadd dX10_alone_179 ?_
      refine c_goto (tgt := 187) dX10_alone_180 rfl ?_
      refine c_keep [0, 1, 3, 4, 5, 6] (ls2 := [(0, .inr 0), (1, .inl x1), (3, .inl x3), (4, .inl x4), (5, .inl x5), (6, .inl z19)]) rfl ?_
      exact J_z20 (x5 + (M18 5 4))
  refine c_val (b := ¬ v17 = 1) (v1 := M18 5 5) (v2 := M18 5 6) (F := fun z19 => if inb (0 + x1) 1671 then wrt (up M18 1 (ix (0 + x1)) (if ¬ x3 = 1 then x5 + 1 else x5 + (M18 5 4))) (fun M22 => if ¬ x3 = 1 then if ¬ x3 = 2 then if ¬ x3 = 3 then if ¬ x3 = 5 then j_X10_alone_239 x1 x4 x5 (M22 5 4) M22 else bnd (f_X10_halvings (M22 5 2) M22) (fun v29 M30 => j_X10_alone_239 x1 x4 x5 (v29 * z19) M30) else j_X10_alone_239 x1 x4 x5 z19 M22 else j_X10_alone_239 x1 x4 x5 1 M22 else some (0, M22)) else none) (fun h32 => ?_) (fun h32 => ?_)
  · refine c_T h32 (c_icmp_ne (tgt := 151) dX10_alone_138 rfl (fun _ => ?_) (fun q => absurd h32 q))
    refine c_aload_n (i := 0) dX10_alone_151 rfl rfl ?_
    refine gf_RX10_23 (blk_get0 KSm_b0) dX10_alone_152 ?_
    refine c_iconst dX10_alone_155 (v := 5) rfl ?_
    refine c_iald (blk_get0 (blk_sub (C := [(20, 290)]) (i := 5) KSm_b0 rfl)) (by decide) dX10_alone_156 ?_
    refine c_keep [0, 1, 3, 4, 5] (ls2 := [(0, .inr 0), (1, .inl x1), (3, .inl x3), (4, .inl x4), (5, .inl x5)]) rfl ?_
    exact J_z19 (M18 5 5)
  · refine c_Fl h32 (c_icmp_ne (tgt := 151) dX10_alone_138 rfl (fun q => absurd q h32) (fun _ => ?_))
    refine c_aload_n (i := 0) dX10_alone_141 rfl rfl ?_
    refine gf_RX10_23 (blk_get0 KSm_b0) dX10_alone_142 ?_
    refine c_bipush dX10_alone_145 (v := 6) rfl ?_
    refine c_iald (blk_get0 (blk_sub (C := [(20, 290)]) (i := 5) KSm_b0 rfl)) (by decide) dX10_alone_147 ?_
    refine c_goto (tgt := 157) dX10_alone_148 rfl ?_
    refine c_keep [0, 1, 3, 4, 5] (ls2 := [(0, .inr 0), (1, .inl x1), (3, .inl x3), (4, .inl x4), (5, .inl x5)]) rfl ?_
    exact J_z19 (M18 5 6)
def j_X10_alone_97 (x1 : Int32) (x2 : Int32) (x3 : Int32) (x4 : Int32) (x5 : Int32) (M : Mem) : Option (Int32 × Mem) := if inb (40 + x1) 1671 then bnd (f_X10_told x2 2 M) (fun v14 M15 => if (M 1 (ix (40 + x1))) = (v14 + 1) then j_X10_alone_132 x1 x2 x3 x4 x5 M15 else bnd (f_X10_told x2 2 M15) (fun v33 M34 => bnd (f_X10_activates x1 v33 x5 M34) (fun v35 M36 => j_X10_alone_132 x1 x2 x3 x4 v35 M36))) else none
set_option maxRecDepth 20000 in
set_option maxHeartbeats 2000000 in
theorem jo_X10_alone_97 (d : Nat) (hlev : 2 ≤ d) (x1 : Int32) (x2 : Int32) (x3 : Int32) (x4 : Int32) (x5 : Int32) (M : Mem) : CorM KSm ST1 RX10 cX10_alone 8 none d 97 [(0, .inr 0), (1, .inl x1), (2, .inl x2), (3, .inl x3), (4, .inl x4), (5, .inl x5)] [] M (j_X10_alone_97 x1 x2 x3 x4 x5 M) := by
  unfold j_X10_alone_97
  refine c_aload_n (i := 0) dX10_alone_97 rfl rfl ?_
  refine gf_RX10_9 (blk_get0 KSm_b0) dX10_alone_98 ?_
  refine c_bipush dX10_alone_101 (v := 40) rfl ?_
  refine c_iload_n (i := 1) dX10_alone_103 rfl rfl ?_
  refine c_iadd dX10_alone_104 ?_
  refine c_chk (fun h13 => ?_)
  refine c_iald (blk_get0 (blk_sub (C := [(20, 1671)]) (i := 1) KSm_b0 rfl)) h13 dX10_alone_105 ?_
  refine c_aload_n (i := 0) dX10_alone_106 rfl rfl ?_
  refine c_iload_n (i := 2) dX10_alone_107 rfl rfl ?_
  refine c_iconst dX10_alone_108 (v := 2) rfl ?_
  refine c_callV (as := [.inl x2, .inl 2]) (rs := [.inl (M 1 (ix (40 + x1)))]) (ev_X10_told 0 (Nat.le_refl _) x2 2 M) rfl (Nat.lt_of_lt_of_le (by decide) hlev) mw_X10_told wi_X10_told wv_X10_told (blk_get0 KSm_b0) (by decide) rfl wl_RX10_233 mn_X10_told rfl (by decide) (Nat.le_of_ble_eq_true rfl) ⟨_, rfl⟩ dX10_alone_109 (fun v14 M15 _ => ?_)
  refine c_iconst dX10_alone_112 (v := 1) rfl ?_
  refine c_iadd dX10_alone_113 ?_
  refine c_icmp_eq (tgt := 132) dX10_alone_114 rfl (fun h16 => ?_) (fun h16 => ?_)
  · refine c_keep [0, 1, 2, 3, 4, 5] (ls2 := [(0, .inr 0), (1, .inl x1), (2, .inl x2), (3, .inl x3), (4, .inl x4), (5, .inl x5)]) rfl ?_
    exact jo_X10_alone_132 d hlev x1 x2 x3 x4 x5 M15
  · refine c_aload_n (i := 0) dX10_alone_117 rfl rfl ?_
    refine c_iload_n (i := 1) dX10_alone_118 rfl rfl ?_
    refine c_aload_n (i := 0) dX10_alone_119 rfl rfl ?_
    refine c_iload_n (i := 2) dX10_alone_120 rfl rfl ?_
    refine c_iconst dX10_alone_121 (v := 2) rfl ?_
    refine c_callV (as := [.inl x2, .inl 2]) (rs := [.inl x1, .inr 0]) (ev_X10_told 0 (Nat.le_refl _) x2 2 M15) rfl (Nat.lt_of_lt_of_le (by decide) hlev) mw_X10_told wi_X10_told wv_X10_told (blk_get0 KSm_b0) (by decide) rfl wl_RX10_233 mn_X10_told rfl (by decide) (Nat.le_of_ble_eq_true rfl) ⟨_, rfl⟩ dX10_alone_122 (fun v33 M34 _ => ?_)
    refine c_iload dX10_alone_125 rfl ?_
    refine c_callV (as := [.inl x1, .inl v33, .inl x5]) (rs := []) (ev_X10_activates 1 (Nat.le_refl _) x1 v33 x5 M34) rfl (Nat.lt_of_lt_of_le (by decide) hlev) mw_X10_activates wi_X10_activates wv_X10_activates (blk_get0 KSm_b0) (by decide) rfl wl_RX10_289 mn_X10_activates rfl (by decide) (Nat.le_of_ble_eq_true rfl) ⟨_, rfl⟩ dX10_alone_127 (fun v35 M36 _ => ?_)
    refine c_istore dX10_alone_130 (by decide) (ls2 := [(0, .inr 0), (1, .inl x1), (2, .inl x2), (3, .inl x3), (4, .inl x4), (5, .inl v35)]) rfl ?_
    refine c_keep [0, 1, 2, 3, 4, 5] (ls2 := [(0, .inr 0), (1, .inl x1), (2, .inl x2), (3, .inl x3), (4, .inl x4), (5, .inl v35)]) rfl ?_
    exact jo_X10_alone_132 d hlev x1 x2 x3 x4 v35 M36
def j_X10_alone_71 (x1 : Int32) (x2 : Int32) (x3 : Int32) (x4 : Int32) (x5 : Int32) (M : Mem) : Option (Int32 × Mem) := if inb (0 + x1) 1671 then bnd (f_X10_stalls x1 0 (x5 - (M 1 (ix (0 + x1)))) M) (fun _ M11 => if x3 = 0 then j_X10_alone_97 x1 x2 x3 x4 x5 M11 else if ¬ x3 = 1 then j_X10_alone_132 x1 x2 x3 x4 x5 M11 else j_X10_alone_97 x1 x2 x3 x4 x5 M11) else none
set_option maxRecDepth 20000 in
set_option maxHeartbeats 2000000 in
theorem jo_X10_alone_71 (d : Nat) (hlev : 2 ≤ d) (x1 : Int32) (x2 : Int32) (x3 : Int32) (x4 : Int32) (x5 : Int32) (M : Mem) : CorM KSm ST1 RX10 cX10_alone 8 none d 71 [(0, .inr 0), (1, .inl x1), (2, .inl x2), (3, .inl x3), (4, .inl x4), (5, .inl x5)] [] M (j_X10_alone_71 x1 x2 x3 x4 x5 M) := by
  unfold j_X10_alone_71
  refine c_aload_n (i := 0) dX10_alone_71 rfl rfl ?_
  refine c_iload_n (i := 1) dX10_alone_72 rfl rfl ?_
  refine c_iconst dX10_alone_73 (v := 0) rfl ?_
  refine c_iload dX10_alone_74 rfl ?_
  refine c_aload_n (i := 0) dX10_alone_76 rfl rfl ?_
  refine gf_RX10_9 (blk_get0 KSm_b0) dX10_alone_77 ?_
  refine c_iconst dX10_alone_80 (v := 0) rfl ?_
  refine c_iload_n (i := 1) dX10_alone_81 rfl rfl ?_
  refine c_iadd dX10_alone_82 ?_
  refine c_chk (fun h9 => ?_)
  refine c_iald (blk_get0 (blk_sub (C := [(20, 1671)]) (i := 1) KSm_b0 rfl)) h9 dX10_alone_83 ?_
  refine c_isub dX10_alone_84 ?_
  refine c_callVv (as := [.inl x1, .inl 0, .inl (x5 - (M 1 (ix (0 + x1))))]) (rs := []) (ev_X10_stalls 0 (Nat.le_refl _) x1 0 (x5 - (M 1 (ix (0 + x1)))) M) rfl (Nat.lt_of_lt_of_le (by decide) hlev) mw_X10_stalls wi_X10_stalls wv_X10_stalls (blk_get0 KSm_b0) (by decide) rfl wl_RX10_282 mn_X10_stalls rfl (by decide) (Nat.le_of_ble_eq_true rfl) rfl dX10_alone_85 (fun v10 M11 _ => ?_)
  refine c_iload_n (i := 3) dX10_alone_88 rfl rfl ?_
  refine c_if_eq (tgt := 97) dX10_alone_89 rfl (fun h12 => ?_) (fun h12 => ?_)
  · refine c_keep [0, 1, 2, 3, 4, 5] (ls2 := [(0, .inr 0), (1, .inl x1), (2, .inl x2), (3, .inl x3), (4, .inl x4), (5, .inl x5)]) rfl ?_
    exact jo_X10_alone_97 d hlev x1 x2 x3 x4 x5 M11
  · refine c_iload_n (i := 3) dX10_alone_92 rfl rfl ?_
    refine c_iconst dX10_alone_93 (v := 1) rfl ?_
    refine c_icmp_ne (tgt := 132) dX10_alone_94 rfl (fun h37 => ?_) (fun h37 => ?_)
    · refine c_keep [0, 1, 2, 3, 4, 5] (ls2 := [(0, .inr 0), (1, .inl x1), (2, .inl x2), (3, .inl x3), (4, .inl x4), (5, .inl x5)]) rfl ?_
      exact jo_X10_alone_132 d hlev x1 x2 x3 x4 x5 M11
    · refine c_keep [0, 1, 2, 3, 4, 5] (ls2 := [(0, .inr 0), (1, .inl x1), (2, .inl x2), (3, .inl x3), (4, .inl x4), (5, .inl x5)]) rfl ?_
      exact jo_X10_alone_97 d hlev x1 x2 x3 x4 x5 M11
def f_X10_alone (x1 : Int32) (x2 : Int32) (M : Mem) : Option (Int32 × Mem) := bnd (f_X10_kindOf x2 M) (fun v1 M2 => bnd (f_X10_told x2 1 M2) (fun v3 M4 => if inb (0 + x1) 1671 then bnd (f_X10_readyOf x1 v3 M4) (fun v6 M7 => if ¬ v1 = 3 then j_X10_alone_71 x1 x2 v1 v3 (p_X10_greater (M4 1 (ix (0 + x1))) v6) M7 else bnd (f_X10_told x2 2 M7) (fun v38 M39 => bnd (f_X10_readyOf x1 v38 M39) (fun v40 M41 => bnd (f_X10_told x2 3 M41) (fun v42 M43 => bnd (f_X10_readyOf x1 v42 M43) (fun v44 M45 => j_X10_alone_71 x1 x2 v1 v3 (p_X10_greater (p_X10_greater (M4 1 (ix (0 + x1))) v6) (p_X10_greater v40 v44)) M45))))) else none))
set_option maxRecDepth 20000 in
set_option maxHeartbeats 2000000 in
theorem ev_X10_alone (d : Nat) (hlev : 2 ≤ d) (x1 : Int32) (x2 : Int32) (M : Mem) : Ev KSm ST1 mdX10_alone d [.inr 0, .inl x1, .inl x2] M (f_X10_alone x1 x2 M) := by
  refine ev_of rfl (Nat.le_of_ble_eq_true rfl) ?_
  show CorM KSm ST1 RX10 cX10_alone 8 none d 0 [(0, .inr 0), (1, .inl x1), (2, .inl x2)] [] M (f_X10_alone x1 x2 M)
  unfold f_X10_alone
  refine c_aload_n (i := 0) dX10_alone_0 rfl rfl ?_
  refine c_iload_n (i := 2) dX10_alone_1 rfl rfl ?_
  refine c_callV (as := [.inl x2]) (rs := []) (ev_X10_kindOf 1 (Nat.le_refl _) x2 M) rfl (Nat.lt_of_lt_of_le (by decide) hlev) mw_X10_kindOf wi_X10_kindOf wv_X10_kindOf (blk_get0 KSm_b0) (by decide) rfl wl_RX10_254 mn_X10_kindOf rfl (by decide) (Nat.le_of_ble_eq_true rfl) ⟨_, rfl⟩ dX10_alone_2 (fun v1 M2 _ => ?_)
  refine c_istore_n (i := 3) dX10_alone_5 rfl (by decide) (ls2 := [(0, .inr 0), (1, .inl x1), (2, .inl x2), (3, .inl v1)]) rfl ?_
  refine c_aload_n (i := 0) dX10_alone_6 rfl rfl ?_
  refine c_iload_n (i := 2) dX10_alone_7 rfl rfl ?_
  refine c_iconst dX10_alone_8 (v := 1) rfl ?_
  refine c_callV (as := [.inl x2, .inl 1]) (rs := []) (ev_X10_told 0 (Nat.le_refl _) x2 1 M2) rfl (Nat.lt_of_lt_of_le (by decide) hlev) mw_X10_told wi_X10_told wv_X10_told (blk_get0 KSm_b0) (by decide) rfl wl_RX10_233 mn_X10_told rfl (by decide) (Nat.le_of_ble_eq_true rfl) ⟨_, rfl⟩ dX10_alone_9 (fun v3 M4 _ => ?_)
  refine c_istore dX10_alone_12 (by decide) (ls2 := [(0, .inr 0), (1, .inl x1), (2, .inl x2), (3, .inl v1), (4, .inl v3)]) rfl ?_
  refine c_aload_n (i := 0) dX10_alone_14 rfl rfl ?_
  refine gf_RX10_9 (blk_get0 KSm_b0) dX10_alone_15 ?_
  refine c_iconst dX10_alone_18 (v := 0) rfl ?_
  refine c_iload_n (i := 1) dX10_alone_19 rfl rfl ?_
  refine c_iadd dX10_alone_20 ?_
  refine c_chk (fun h5 => ?_)
  refine c_iald (blk_get0 (blk_sub (C := [(20, 1671)]) (i := 1) KSm_b0 rfl)) h5 dX10_alone_21 ?_
  refine c_aload_n (i := 0) dX10_alone_22 rfl rfl ?_
  refine c_iload_n (i := 1) dX10_alone_23 rfl rfl ?_
  refine c_iload dX10_alone_24 rfl ?_
  refine c_callV (as := [.inl x1, .inl v3]) (rs := [.inl (M4 1 (ix (0 + x1)))]) (ev_X10_readyOf 0 (Nat.le_refl _) x1 v3 M4) rfl (Nat.lt_of_lt_of_le (by decide) hlev) mw_X10_readyOf wi_X10_readyOf wv_X10_readyOf (blk_get0 KSm_b0) (by decide) rfl wl_RX10_286 mn_X10_readyOf rfl (by decide) (Nat.le_of_ble_eq_true rfl) ⟨_, rfl⟩ dX10_alone_26 (fun v6 M7 _ => ?_)
  refine c_callSp (as := [.inl (M4 1 (ix (0 + x1))), .inl v6]) (rs := []) (ev_X10_greater 0 (Nat.le_refl _) (M4 1 (ix (0 + x1))) v6 M7) rfl (Nat.lt_of_lt_of_le (by decide) hlev) mw_X10_greater ws_X10_greater wl_RX10_279 mn_X10_greater rfl (by decide) (Nat.le_of_ble_eq_true rfl) ⟨_, rfl⟩ dX10_alone_29 ?_
  refine c_istore dX10_alone_32 (by decide) (ls2 := [(0, .inr 0), (1, .inl x1), (2, .inl x2), (3, .inl v1), (4, .inl v3), (5, .inl (p_X10_greater (M4 1 (ix (0 + x1))) v6))]) rfl ?_
  refine c_iload_n (i := 3) dX10_alone_34 rfl rfl ?_
  refine c_iconst dX10_alone_35 (v := 3) rfl ?_
  refine c_icmp_ne (tgt := 71) dX10_alone_36 rfl (fun h8 => ?_) (fun h8 => ?_)
  · refine c_keep [0, 1, 2, 3, 4, 5] (ls2 := [(0, .inr 0), (1, .inl x1), (2, .inl x2), (3, .inl v1), (4, .inl v3), (5, .inl (p_X10_greater (M4 1 (ix (0 + x1))) v6))]) rfl ?_
    exact jo_X10_alone_71 d hlev x1 x2 v1 v3 (p_X10_greater (M4 1 (ix (0 + x1))) v6) M7
  · refine c_iload dX10_alone_39 rfl ?_
    refine c_aload_n (i := 0) dX10_alone_41 rfl rfl ?_
    refine c_iload_n (i := 1) dX10_alone_42 rfl rfl ?_
    refine c_aload_n (i := 0) dX10_alone_43 rfl rfl ?_
    refine c_iload_n (i := 2) dX10_alone_44 rfl rfl ?_
    refine c_iconst dX10_alone_45 (v := 2) rfl ?_
    refine c_callV (as := [.inl x2, .inl 2]) (rs := [.inl x1, .inr 0, .inl (p_X10_greater (M4 1 (ix (0 + x1))) v6)]) (ev_X10_told 0 (Nat.le_refl _) x2 2 M7) rfl (Nat.lt_of_lt_of_le (by decide) hlev) mw_X10_told wi_X10_told wv_X10_told (blk_get0 KSm_b0) (by decide) rfl wl_RX10_233 mn_X10_told rfl (by decide) (Nat.le_of_ble_eq_true rfl) ⟨_, rfl⟩ dX10_alone_46 (fun v38 M39 _ => ?_)
    refine c_callV (as := [.inl x1, .inl v38]) (rs := [.inl (p_X10_greater (M4 1 (ix (0 + x1))) v6)]) (ev_X10_readyOf 0 (Nat.le_refl _) x1 v38 M39) rfl (Nat.lt_of_lt_of_le (by decide) hlev) mw_X10_readyOf wi_X10_readyOf wv_X10_readyOf (blk_get0 KSm_b0) (by decide) rfl wl_RX10_286 mn_X10_readyOf rfl (by decide) (Nat.le_of_ble_eq_true rfl) ⟨_, rfl⟩ dX10_alone_49 (fun v40 M41 _ => ?_)
    refine c_aload_n (i := 0) dX10_alone_52 rfl rfl ?_
    refine c_iload_n (i := 1) dX10_alone_53 rfl rfl ?_
    refine c_aload_n (i := 0) dX10_alone_54 rfl rfl ?_
    refine c_iload_n (i := 2) dX10_alone_55 rfl rfl ?_
    refine c_iconst dX10_alone_56 (v := 3) rfl ?_
    refine c_callV (as := [.inl x2, .inl 3]) (rs := [.inl x1, .inr 0, .inl v40, .inl (p_X10_greater (M4 1 (ix (0 + x1))) v6)]) (ev_X10_told 0 (Nat.le_refl _) x2 3 M41) rfl (Nat.lt_of_lt_of_le (by decide) hlev) mw_X10_told wi_X10_told wv_X10_told (blk_get0 KSm_b0) (by decide) rfl wl_RX10_233 mn_X10_told rfl (by decide) (Nat.le_of_ble_eq_true rfl) ⟨_, rfl⟩ dX10_alone_57 (fun v42 M43 _ => ?_)
    refine c_callV (as := [.inl x1, .inl v42]) (rs := [.inl v40, .inl (p_X10_greater (M4 1 (ix (0 + x1))) v6)]) (ev_X10_readyOf 0 (Nat.le_refl _) x1 v42 M43) rfl (Nat.lt_of_lt_of_le (by decide) hlev) mw_X10_readyOf wi_X10_readyOf wv_X10_readyOf (blk_get0 KSm_b0) (by decide) rfl wl_RX10_286 mn_X10_readyOf rfl (by decide) (Nat.le_of_ble_eq_true rfl) ⟨_, rfl⟩ dX10_alone_60 (fun v44 M45 _ => ?_)
    refine c_callSp (as := [.inl v40, .inl v44]) (rs := [.inl (p_X10_greater (M4 1 (ix (0 + x1))) v6)]) (ev_X10_greater 0 (Nat.le_refl _) v40 v44 M45) rfl (Nat.lt_of_lt_of_le (by decide) hlev) mw_X10_greater ws_X10_greater wl_RX10_279 mn_X10_greater rfl (by decide) (Nat.le_of_ble_eq_true rfl) ⟨_, rfl⟩ dX10_alone_63 ?_
    refine c_callSp (as := [.inl (p_X10_greater (M4 1 (ix (0 + x1))) v6), .inl (p_X10_greater v40 v44)]) (rs := []) (ev_X10_greater 0 (Nat.le_refl _) (p_X10_greater (M4 1 (ix (0 + x1))) v6) (p_X10_greater v40 v44) M45) rfl (Nat.lt_of_lt_of_le (by decide) hlev) mw_X10_greater ws_X10_greater wl_RX10_279 mn_X10_greater rfl (by decide) (Nat.le_of_ble_eq_true rfl) ⟨_, rfl⟩ dX10_alone_66 ?_
    refine c_istore dX10_alone_69 (by decide) (ls2 := [(0, .inr 0), (1, .inl x1), (2, .inl x2), (3, .inl v1), (4, .inl v3), (5, .inl (p_X10_greater (p_X10_greater (M4 1 (ix (0 + x1))) v6) (p_X10_greater v40 v44)))]) rfl ?_
    refine c_keep [0, 1, 2, 3, 4, 5] (ls2 := [(0, .inr 0), (1, .inl x1), (2, .inl x2), (3, .inl v1), (4, .inl v3), (5, .inl (p_X10_greater (p_X10_greater (M4 1 (ix (0 + x1))) v6) (p_X10_greater v40 v44)))]) rfl ?_
    exact jo_X10_alone_71 d hlev x1 x2 v1 v3 (p_X10_greater (p_X10_greater (M4 1 (ix (0 + x1))) v6) (p_X10_greater v40 v44)) M45

abbrev mdX10_allAtOnce : MD := (yX10_allAtOnce, cX10_allAtOnce, 8, none)
theorem mw_X10_allAtOnce : mdW mdX10_allAtOnce := ⟨wm_X10_allAtOnce, w0_RX10, by decide, by decide⟩
theorem mn_X10_allAtOnce : (parseMethodDescriptor yX10_allAtOnce.desc).map (fun d => d.parameters.length) = some 2 := by decide +kernel
def j_X10_allAtOnce_250 (x1 : Int32) (x3 : Int32) (x4 : Int32) (x5 : Int32) (x6 : Int32) (x7 : Int32) (K160 : Int32 × Mem → Option (Int32 × Mem)) (M : Mem) : Option (Int32 × Mem) := K160 (x7 + 1, M)
set_option maxRecDepth 20000 in
set_option maxHeartbeats 2000000 in
theorem jo_X10_allAtOnce_250 (d : Nat) (hlev : 2 ≤ d) (x1 : Int32) (x3 : Int32) (x4 : Int32) (x5 : Int32) (x6 : Int32) (x7 : Int32) (K160 : Int32 × Mem → Option (Int32 × Mem)) (hK160 : ∀ s : Int32 × Mem, CorM KSm ST1 RX10 cX10_allAtOnce 8 none d 160 [(0, .inr 0), (1, .inl x1), (3, .inl x3), (4, .inl x4), (5, .inl x5), (6, .inl x6), (7, .inl s.1)] [] s.2 (K160 s)) (M : Mem) : CorM KSm ST1 RX10 cX10_allAtOnce 8 none d 250 [(0, .inr 0), (1, .inl x1), (3, .inl x3), (4, .inl x4), (5, .inl x5), (6, .inl x6), (7, .inl x7)] [] M (j_X10_allAtOnce_250 x1 x3 x4 x5 x6 x7 K160 M) := by
  unfold j_X10_allAtOnce_250
  refine c_iinc dX10_allAtOnce_250 rfl (v := 1) rfl (by decide) (ls2 := [(0, .inr 0), (1, .inl x1), (3, .inl x3), (4, .inl x4), (5, .inl x5), (6, .inl x6), (7, .inl (x7 + 1))]) rfl ?_
  refine c_goto (tgt := 160) dX10_allAtOnce_253 rfl ?_
  refine c_keep [0, 1, 3, 4, 5, 6, 7] (ls2 := [(0, .inr 0), (1, .inl x1), (3, .inl x3), (4, .inl x4), (5, .inl x5), (6, .inl x6), (7, .inl (x7 + 1))]) rfl ?_
  exact hK160 (x7 + 1, M)
def j_X10_allAtOnce_233 (x1 : Int32) (x3 : Int32) (x4 : Int32) (x5 : Int32) (x6 : Int32) (x7 : Int32) (K160 : Int32 × Mem → Option (Int32 × Mem)) (M : Mem) : Option (Int32 × Mem) := if inb ((8 + (4 * x7)) + x4) 1671 then wrt (up M 1 (ix ((8 + (4 * x7)) + x4)) x6) (fun M17 => j_X10_allAtOnce_250 x1 x3 x4 x5 x6 x7 K160 M17) else none
set_option maxRecDepth 20000 in
set_option maxHeartbeats 2000000 in
theorem jo_X10_allAtOnce_233 (d : Nat) (hlev : 2 ≤ d) (x1 : Int32) (x3 : Int32) (x4 : Int32) (x5 : Int32) (x6 : Int32) (x7 : Int32) (K160 : Int32 × Mem → Option (Int32 × Mem)) (hK160 : ∀ s : Int32 × Mem, CorM KSm ST1 RX10 cX10_allAtOnce 8 none d 160 [(0, .inr 0), (1, .inl x1), (3, .inl x3), (4, .inl x4), (5, .inl x5), (6, .inl x6), (7, .inl s.1)] [] s.2 (K160 s)) (M : Mem) : CorM KSm ST1 RX10 cX10_allAtOnce 8 none d 233 [(0, .inr 0), (1, .inl x1), (3, .inl x3), (4, .inl x4), (5, .inl x5), (6, .inl x6), (7, .inl x7)] [] M (j_X10_allAtOnce_233 x1 x3 x4 x5 x6 x7 K160 M) := by
  unfold j_X10_allAtOnce_233
  refine c_aload_n (i := 0) dX10_allAtOnce_233 rfl rfl ?_
  refine gf_RX10_9 (blk_get0 KSm_b0) dX10_allAtOnce_234 ?_
  refine c_bipush dX10_allAtOnce_237 (v := 8) rfl ?_
  refine c_iconst dX10_allAtOnce_239 (v := 4) rfl ?_
  refine c_iload dX10_allAtOnce_240 rfl ?_
  refine c_imul dX10_allAtOnce_242 ?_
  refine c_iadd dX10_allAtOnce_243 ?_
  refine c_iload dX10_allAtOnce_244 rfl ?_
  refine c_iadd dX10_allAtOnce_246 ?_
  refine c_iload dX10_allAtOnce_247 rfl ?_
  refine c_chk (fun h16 => ?_)
  refine c_iast (blk_get0 (blk_sub (C := [(20, 1671)]) (i := 1) KSm_b0 rfl)) h16 dX10_allAtOnce_249 ?_
  refine c_wrt (fun M17 => ?_)
  refine c_keep [0, 1, 3, 4, 5, 6, 7] (ls2 := [(0, .inr 0), (1, .inl x1), (3, .inl x3), (4, .inl x4), (5, .inl x5), (6, .inl x6), (7, .inl x7)]) rfl ?_
  exact jo_X10_allAtOnce_250 d hlev x1 x3 x4 x5 x6 x7 K160 hK160 M17
def l_X10_allAtOnce_160 (x1 : Int32) (x3 : Int32) (x4 : Int32) (x5 : Int32) (x6 : Int32) (K160 : Int32 × Mem → Option (Int32 × Mem)) : Int32 × Mem → Option (Int32 × Mem) := fun s => match s with
  | (x7, M) => if (M 5 0) ≤ x7 then some (0, M) else if ¬ (p_X10_has x1 x7) = 0 then if inb (0 + x7) 1671 then bnd (f_X10_stalls x7 3 (x5 - (M 1 (ix (0 + x7)))) M) (fun _ M12 => if inb (0 + x7) 1671 then wrt (up M12 1 (ix (0 + x7)) x6) (fun M14 => if x3 = 6 then j_X10_allAtOnce_233 x1 x3 x4 x5 x6 x7 K160 M14 else if ¬ x3 = 4 then j_X10_allAtOnce_250 x1 x3 x4 x5 x6 x7 K160 M14 else bnd (f_X10_lowest x1 M14) (fun v19 M20 => if ¬ x7 = v19 then j_X10_allAtOnce_250 x1 x3 x4 x5 x6 x7 K160 M20 else j_X10_allAtOnce_233 x1 x3 x4 x5 x6 x7 K160 M20)) else none) else none else j_X10_allAtOnce_250 x1 x3 x4 x5 x6 x7 K160 M
set_option maxRecDepth 20000 in
set_option maxHeartbeats 2000000 in
theorem lo_X10_allAtOnce_160 (d : Nat) (hlev : 2 ≤ d) (x1 : Int32) (x3 : Int32) (x4 : Int32) (x5 : Int32) (x6 : Int32) (s : Int32 × Mem) : CorM KSm ST1 RX10 cX10_allAtOnce 8 none d 160 [(0, .inr 0), (1, .inl x1), (3, .inl x3), (4, .inl x4), (5, .inl x5), (6, .inl x6), (7, .inl s.1)] [] s.2 (loopC (l_X10_allAtOnce_160 x1 x3 x4 x5 x6) fuelL s) := by
  refine c_loop (L := fun s : Int32 × Mem => [(0, .inr 0), (1, .inl x1), (3, .inl x3), (4, .inl x4), (5, .inl x5), (6, .inl x6), (7, .inl s.1)]) (Mf := fun s : Int32 × Mem => s.2) (fun K160 hK160 s => ?_) fuelL s
  obtain ⟨x7, M⟩ := s
  show CorM KSm ST1 RX10 cX10_allAtOnce 8 none d 160 [(0, .inr 0), (1, .inl x1), (3, .inl x3), (4, .inl x4), (5, .inl x5), (6, .inl x6), (7, .inl x7)] [] M (l_X10_allAtOnce_160 x1 x3 x4 x5 x6 K160 (x7, M))
  unfold l_X10_allAtOnce_160
  refine c_iload dX10_allAtOnce_160 rfl ?_
  refine c_aload_n (i := 0) dX10_allAtOnce_162 rfl rfl ?_
  refine gf_RX10_23 (blk_get0 KSm_b0) dX10_allAtOnce_163 ?_
  refine c_iconst dX10_allAtOnce_166 (v := 0) rfl ?_
  refine c_iald (blk_get0 (blk_sub (C := [(20, 290)]) (i := 5) KSm_b0 rfl)) (by decide) dX10_allAtOnce_167 ?_
  refine c_icmp_ge (tgt := 256) dX10_allAtOnce_168 rfl (fun h8 => ?_) (fun h8 => ?_)
  · exact c_vret rfl dX10_allAtOnce_256
  · refine c_iload_n (i := 1) dX10_allAtOnce_171 rfl rfl ?_
    refine c_iload dX10_allAtOnce_172 rfl ?_
    refine c_callSp (as := [.inl x1, .inl x7]) (rs := []) (ev_X10_has 0 (Nat.le_refl _) x1 x7 M) rfl (Nat.lt_of_lt_of_le (by decide) hlev) mw_X10_has ws_X10_has wl_RX10_169 mn_X10_has rfl (by decide) (Nat.le_of_ble_eq_true rfl) ⟨_, rfl⟩ dX10_allAtOnce_174 ?_
    refine c_if_ne (tgt := 183) dX10_allAtOnce_177 rfl (fun h9 => ?_) (fun h9 => ?_)
    · refine c_aload_n (i := 0) dX10_allAtOnce_183 rfl rfl ?_
      refine c_iload dX10_allAtOnce_184 rfl ?_
      refine c_iconst dX10_allAtOnce_186 (v := 3) rfl ?_
      refine c_iload dX10_allAtOnce_187 rfl ?_
      refine c_aload_n (i := 0) dX10_allAtOnce_189 rfl rfl ?_
      refine gf_RX10_9 (blk_get0 KSm_b0) dX10_allAtOnce_190 ?_
      refine c_iconst dX10_allAtOnce_193 (v := 0) rfl ?_
      refine c_iload dX10_allAtOnce_194 rfl ?_
      refine c_iadd dX10_allAtOnce_196 ?_
      refine c_chk (fun h10 => ?_)
      refine c_iald (blk_get0 (blk_sub (C := [(20, 1671)]) (i := 1) KSm_b0 rfl)) h10 dX10_allAtOnce_197 ?_
      refine c_isub dX10_allAtOnce_198 ?_
      refine c_callVv (as := [.inl x7, .inl 3, .inl (x5 - (M 1 (ix (0 + x7))))]) (rs := []) (ev_X10_stalls 0 (Nat.le_refl _) x7 3 (x5 - (M 1 (ix (0 + x7)))) M) rfl (Nat.lt_of_lt_of_le (by decide) hlev) mw_X10_stalls wi_X10_stalls wv_X10_stalls (blk_get0 KSm_b0) (by decide) rfl wl_RX10_282 mn_X10_stalls rfl (by decide) (Nat.le_of_ble_eq_true rfl) rfl dX10_allAtOnce_199 (fun v11 M12 _ => ?_)
      refine c_aload_n (i := 0) dX10_allAtOnce_202 rfl rfl ?_
      refine gf_RX10_9 (blk_get0 KSm_b0) dX10_allAtOnce_203 ?_
      refine c_iconst dX10_allAtOnce_206 (v := 0) rfl ?_
      refine c_iload dX10_allAtOnce_207 rfl ?_
      refine c_iadd dX10_allAtOnce_209 ?_
      refine c_iload dX10_allAtOnce_210 rfl ?_
      refine c_chk (fun h13 => ?_)
      refine c_iast (blk_get0 (blk_sub (C := [(20, 1671)]) (i := 1) KSm_b0 rfl)) h13 dX10_allAtOnce_212 ?_
      refine c_wrt (fun M14 => ?_)
      refine c_iload_n (i := 3) dX10_allAtOnce_213 rfl rfl ?_
      refine c_bipush dX10_allAtOnce_214 (v := 6) rfl ?_
      refine c_icmp_eq (tgt := 233) dX10_allAtOnce_216 rfl (fun h15 => ?_) (fun h15 => ?_)
      · refine c_keep [0, 1, 3, 4, 5, 6, 7] (ls2 := [(0, .inr 0), (1, .inl x1), (3, .inl x3), (4, .inl x4), (5, .inl x5), (6, .inl x6), (7, .inl x7)]) rfl ?_
        exact jo_X10_allAtOnce_233 d hlev x1 x3 x4 x5 x6 x7 K160 hK160 M14
      · refine c_iload_n (i := 3) dX10_allAtOnce_219 rfl rfl ?_
        refine c_iconst dX10_allAtOnce_220 (v := 4) rfl ?_
        refine c_icmp_ne (tgt := 250) dX10_allAtOnce_221 rfl (fun h18 => ?_) (fun h18 => ?_)
        · refine c_keep [0, 1, 3, 4, 5, 6, 7] (ls2 := [(0, .inr 0), (1, .inl x1), (3, .inl x3), (4, .inl x4), (5, .inl x5), (6, .inl x6), (7, .inl x7)]) rfl ?_
          exact jo_X10_allAtOnce_250 d hlev x1 x3 x4 x5 x6 x7 K160 hK160 M14
        · refine c_iload dX10_allAtOnce_224 rfl ?_
          refine c_iload_n (i := 1) dX10_allAtOnce_226 rfl rfl ?_
          refine c_callS (as := [.inl x1]) (rs := [.inl x7]) (ev_X10_lowest 1 (Nat.le_refl _) x1 M14) rfl (Nat.lt_of_lt_of_le (by decide) hlev) mw_X10_lowest ws_X10_lowest wl_RX10_263 mn_X10_lowest rfl (by decide) (Nat.le_of_ble_eq_true rfl) ⟨_, rfl⟩ dX10_allAtOnce_227 (fun v19 M20 _ => ?_)
          refine c_icmp_ne (tgt := 250) dX10_allAtOnce_230 rfl (fun h21 => ?_) (fun h21 => ?_)
          · refine c_keep [0, 1, 3, 4, 5, 6, 7] (ls2 := [(0, .inr 0), (1, .inl x1), (3, .inl x3), (4, .inl x4), (5, .inl x5), (6, .inl x6), (7, .inl x7)]) rfl ?_
            exact jo_X10_allAtOnce_250 d hlev x1 x3 x4 x5 x6 x7 K160 hK160 M20
          · refine c_keep [0, 1, 3, 4, 5, 6, 7] (ls2 := [(0, .inr 0), (1, .inl x1), (3, .inl x3), (4, .inl x4), (5, .inl x5), (6, .inl x6), (7, .inl x7)]) rfl ?_
            exact jo_X10_allAtOnce_233 d hlev x1 x3 x4 x5 x6 x7 K160 hK160 M20
    · refine c_goto (tgt := 250) dX10_allAtOnce_180 rfl ?_
      refine c_keep [0, 1, 3, 4, 5, 6, 7] (ls2 := [(0, .inr 0), (1, .inl x1), (3, .inl x3), (4, .inl x4), (5, .inl x5), (6, .inl x6), (7, .inl x7)]) rfl ?_
      exact jo_X10_allAtOnce_250 d hlev x1 x3 x4 x5 x6 x7 K160 hK160 M
def j_X10_allAtOnce_155 (x1 : Int32) (x3 : Int32) (x4 : Int32) (x5 : Int32) (w0 : Int32) (M : Mem) : Option (Int32 × Mem) := loopC (l_X10_allAtOnce_160 x1 x3 x4 x5 w0) fuelL (0, M)
set_option maxRecDepth 20000 in
set_option maxHeartbeats 2000000 in
theorem jo_X10_allAtOnce_155 (d : Nat) (hlev : 2 ≤ d) (x1 : Int32) (x3 : Int32) (x4 : Int32) (x5 : Int32) (w0 : Int32) (M : Mem) : CorM KSm ST1 RX10 cX10_allAtOnce 8 none d 155 [(0, .inr 0), (1, .inl x1), (3, .inl x3), (4, .inl x4), (5, .inl x5)] [.inl w0] M (j_X10_allAtOnce_155 x1 x3 x4 x5 w0 M) := by
  unfold j_X10_allAtOnce_155
  refine c_istore dX10_allAtOnce_155 (by decide) (ls2 := [(0, .inr 0), (1, .inl x1), (3, .inl x3), (4, .inl x4), (5, .inl x5), (6, .inl w0)]) rfl ?_
  refine c_iconst dX10_allAtOnce_157 (v := 0) rfl ?_
  refine c_istore dX10_allAtOnce_158 (by decide) (ls2 := [(0, .inr 0), (1, .inl x1), (3, .inl x3), (4, .inl x4), (5, .inl x5), (6, .inl w0), (7, .inl 0)]) rfl ?_
  refine c_keep [0, 1, 3, 4, 5, 6, 7] (ls2 := [(0, .inr 0), (1, .inl x1), (3, .inl x3), (4, .inl x4), (5, .inl x5), (6, .inl w0), (7, .inl 0)]) rfl ?_
  exact lo_X10_allAtOnce_160 d hlev x1 x3 x4 x5 w0 (0, M)
def j_X10_allAtOnce_102 (x1 : Int32) (x3 : Int32) (x4 : Int32) (x5 : Int32) (x6 : Int32) (K20 : Int32 × Int32 × Mem → Option (Int32 × Mem)) (M : Mem) : Option (Int32 × Mem) := K20 (x5, x6 + 1, M)
set_option maxRecDepth 20000 in
set_option maxHeartbeats 2000000 in
theorem jo_X10_allAtOnce_102 (d : Nat) (hlev : 2 ≤ d) (x1 : Int32) (x3 : Int32) (x4 : Int32) (x5 : Int32) (x6 : Int32) (K20 : Int32 × Int32 × Mem → Option (Int32 × Mem)) (hK20 : ∀ s : Int32 × Int32 × Mem, CorM KSm ST1 RX10 cX10_allAtOnce 8 none d 20 [(0, .inr 0), (1, .inl x1), (3, .inl x3), (4, .inl x4), (5, .inl s.1), (6, .inl s.2.1)] [] s.2.2 (K20 s)) (M : Mem) : CorM KSm ST1 RX10 cX10_allAtOnce 8 none d 102 [(0, .inr 0), (1, .inl x1), (3, .inl x3), (4, .inl x4), (5, .inl x5), (6, .inl x6)] [] M (j_X10_allAtOnce_102 x1 x3 x4 x5 x6 K20 M) := by
  unfold j_X10_allAtOnce_102
  refine c_iinc dX10_allAtOnce_102 rfl (v := 1) rfl (by decide) (ls2 := [(0, .inr 0), (1, .inl x1), (3, .inl x3), (4, .inl x4), (5, .inl x5), (6, .inl (x6 + 1))]) rfl ?_
  refine c_goto (tgt := 20) dX10_allAtOnce_105 rfl ?_
  refine c_keep [0, 1, 3, 4, 5, 6] (ls2 := [(0, .inr 0), (1, .inl x1), (3, .inl x3), (4, .inl x4), (5, .inl x5), (6, .inl (x6 + 1))]) rfl ?_
  exact hK20 (x5, x6 + 1, M)
def j_X10_allAtOnce_96 (x1 : Int32) (x3 : Int32) (x4 : Int32) (x5 : Int32) (x6 : Int32) (x7 : Int32) (K20 : Int32 × Int32 × Mem → Option (Int32 × Mem)) (K62 : Int32 × Int32 × Mem → Option (Int32 × Mem)) (M : Mem) : Option (Int32 × Mem) := K62 (x5, x7 + 1, M)
set_option maxRecDepth 20000 in
set_option maxHeartbeats 2000000 in
theorem jo_X10_allAtOnce_96 (d : Nat) (hlev : 2 ≤ d) (x1 : Int32) (x3 : Int32) (x4 : Int32) (x5 : Int32) (x6 : Int32) (x7 : Int32) (K20 : Int32 × Int32 × Mem → Option (Int32 × Mem)) (hK20 : ∀ s : Int32 × Int32 × Mem, CorM KSm ST1 RX10 cX10_allAtOnce 8 none d 20 [(0, .inr 0), (1, .inl x1), (3, .inl x3), (4, .inl x4), (5, .inl s.1), (6, .inl s.2.1)] [] s.2.2 (K20 s)) (K62 : Int32 × Int32 × Mem → Option (Int32 × Mem)) (hK62 : ∀ s : Int32 × Int32 × Mem, CorM KSm ST1 RX10 cX10_allAtOnce 8 none d 62 [(0, .inr 0), (1, .inl x1), (3, .inl x3), (4, .inl x4), (5, .inl s.1), (6, .inl x6), (7, .inl s.2.1)] [] s.2.2 (K62 s)) (M : Mem) : CorM KSm ST1 RX10 cX10_allAtOnce 8 none d 96 [(0, .inr 0), (1, .inl x1), (3, .inl x3), (4, .inl x4), (5, .inl x5), (6, .inl x6), (7, .inl x7)] [] M (j_X10_allAtOnce_96 x1 x3 x4 x5 x6 x7 K20 K62 M) := by
  unfold j_X10_allAtOnce_96
  refine c_iinc dX10_allAtOnce_96 rfl (v := 1) rfl (by decide) (ls2 := [(0, .inr 0), (1, .inl x1), (3, .inl x3), (4, .inl x4), (5, .inl x5), (6, .inl x6), (7, .inl (x7 + 1))]) rfl ?_
  refine c_goto (tgt := 62) dX10_allAtOnce_99 rfl ?_
  refine c_keep [0, 1, 3, 4, 5, 6, 7] (ls2 := [(0, .inr 0), (1, .inl x1), (3, .inl x3), (4, .inl x4), (5, .inl x5), (6, .inl x6), (7, .inl (x7 + 1))]) rfl ?_
  exact hK62 (x5, x7 + 1, M)
def j_X10_allAtOnce_81 (x1 : Int32) (x3 : Int32) (x4 : Int32) (x5 : Int32) (x6 : Int32) (x7 : Int32) (K20 : Int32 × Int32 × Mem → Option (Int32 × Mem)) (K62 : Int32 × Int32 × Mem → Option (Int32 × Mem)) (M : Mem) : Option (Int32 × Mem) := bnd (f_X10_readyOf x6 x7 M) (fun v30 M31 => j_X10_allAtOnce_96 x1 x3 x4 (p_X10_greater x5 v30) x6 x7 K20 K62 M31)
set_option maxRecDepth 20000 in
set_option maxHeartbeats 2000000 in
theorem jo_X10_allAtOnce_81 (d : Nat) (hlev : 2 ≤ d) (x1 : Int32) (x3 : Int32) (x4 : Int32) (x5 : Int32) (x6 : Int32) (x7 : Int32) (K20 : Int32 × Int32 × Mem → Option (Int32 × Mem)) (hK20 : ∀ s : Int32 × Int32 × Mem, CorM KSm ST1 RX10 cX10_allAtOnce 8 none d 20 [(0, .inr 0), (1, .inl x1), (3, .inl x3), (4, .inl x4), (5, .inl s.1), (6, .inl s.2.1)] [] s.2.2 (K20 s)) (K62 : Int32 × Int32 × Mem → Option (Int32 × Mem)) (hK62 : ∀ s : Int32 × Int32 × Mem, CorM KSm ST1 RX10 cX10_allAtOnce 8 none d 62 [(0, .inr 0), (1, .inl x1), (3, .inl x3), (4, .inl x4), (5, .inl s.1), (6, .inl x6), (7, .inl s.2.1)] [] s.2.2 (K62 s)) (M : Mem) : CorM KSm ST1 RX10 cX10_allAtOnce 8 none d 81 [(0, .inr 0), (1, .inl x1), (3, .inl x3), (4, .inl x4), (5, .inl x5), (6, .inl x6), (7, .inl x7)] [] M (j_X10_allAtOnce_81 x1 x3 x4 x5 x6 x7 K20 K62 M) := by
  unfold j_X10_allAtOnce_81
  refine c_iload dX10_allAtOnce_81 rfl ?_
  refine c_aload_n (i := 0) dX10_allAtOnce_83 rfl rfl ?_
  refine c_iload dX10_allAtOnce_84 rfl ?_
  refine c_iload dX10_allAtOnce_86 rfl ?_
  refine c_callV (as := [.inl x6, .inl x7]) (rs := [.inl x5]) (ev_X10_readyOf 0 (Nat.le_refl _) x6 x7 M) rfl (Nat.lt_of_lt_of_le (by decide) hlev) mw_X10_readyOf wi_X10_readyOf wv_X10_readyOf (blk_get0 KSm_b0) (by decide) rfl wl_RX10_286 mn_X10_readyOf rfl (by decide) (Nat.le_of_ble_eq_true rfl) ⟨_, rfl⟩ dX10_allAtOnce_88 (fun v30 M31 _ => ?_)
  refine c_callSp (as := [.inl x5, .inl v30]) (rs := []) (ev_X10_greater 0 (Nat.le_refl _) x5 v30 M31) rfl (Nat.lt_of_lt_of_le (by decide) hlev) mw_X10_greater ws_X10_greater wl_RX10_279 mn_X10_greater rfl (by decide) (Nat.le_of_ble_eq_true rfl) ⟨_, rfl⟩ dX10_allAtOnce_91 ?_
  refine c_istore dX10_allAtOnce_94 (by decide) (ls2 := [(0, .inr 0), (1, .inl x1), (3, .inl x3), (4, .inl x4), (5, .inl (p_X10_greater x5 v30)), (6, .inl x6), (7, .inl x7)]) rfl ?_
  refine c_keep [0, 1, 3, 4, 5, 6, 7] (ls2 := [(0, .inr 0), (1, .inl x1), (3, .inl x3), (4, .inl x4), (5, .inl (p_X10_greater x5 v30)), (6, .inl x6), (7, .inl x7)]) rfl ?_
  exact jo_X10_allAtOnce_96 d hlev x1 x3 x4 (p_X10_greater x5 v30) x6 x7 K20 hK20 K62 hK62 M31
def l_X10_allAtOnce_62 (x1 : Int32) (x3 : Int32) (x4 : Int32) (x6 : Int32) (K20 : Int32 × Int32 × Mem → Option (Int32 × Mem)) (K62 : Int32 × Int32 × Mem → Option (Int32 × Mem)) : Int32 × Int32 × Mem → Option (Int32 × Mem) := fun s => match s with
  | (x5, x7, M) => if 4 ≤ x7 then j_X10_allAtOnce_102 x1 x3 x4 x5 x6 K20 M else if x3 = 7 then j_X10_allAtOnce_81 x1 x3 x4 x5 x6 x7 K20 K62 M else if ¬ x7 = x4 then j_X10_allAtOnce_96 x1 x3 x4 x5 x6 x7 K20 K62 M else j_X10_allAtOnce_81 x1 x3 x4 x5 x6 x7 K20 K62 M
set_option maxRecDepth 20000 in
set_option maxHeartbeats 2000000 in
theorem lo_X10_allAtOnce_62 (d : Nat) (hlev : 2 ≤ d) (x1 : Int32) (x3 : Int32) (x4 : Int32) (x6 : Int32) (K20 : Int32 × Int32 × Mem → Option (Int32 × Mem)) (hK20 : ∀ s : Int32 × Int32 × Mem, CorM KSm ST1 RX10 cX10_allAtOnce 8 none d 20 [(0, .inr 0), (1, .inl x1), (3, .inl x3), (4, .inl x4), (5, .inl s.1), (6, .inl s.2.1)] [] s.2.2 (K20 s)) (s : Int32 × Int32 × Mem) : CorM KSm ST1 RX10 cX10_allAtOnce 8 none d 62 [(0, .inr 0), (1, .inl x1), (3, .inl x3), (4, .inl x4), (5, .inl s.1), (6, .inl x6), (7, .inl s.2.1)] [] s.2.2 (loopC (l_X10_allAtOnce_62 x1 x3 x4 x6 K20) fuelL s) := by
  refine c_loop (L := fun s : Int32 × Int32 × Mem => [(0, .inr 0), (1, .inl x1), (3, .inl x3), (4, .inl x4), (5, .inl s.1), (6, .inl x6), (7, .inl s.2.1)]) (Mf := fun s : Int32 × Int32 × Mem => s.2.2) (fun K62 hK62 s => ?_) fuelL s
  obtain ⟨x5, x7, M⟩ := s
  show CorM KSm ST1 RX10 cX10_allAtOnce 8 none d 62 [(0, .inr 0), (1, .inl x1), (3, .inl x3), (4, .inl x4), (5, .inl x5), (6, .inl x6), (7, .inl x7)] [] M (l_X10_allAtOnce_62 x1 x3 x4 x6 K20 K62 (x5, x7, M))
  unfold l_X10_allAtOnce_62
  refine c_iload dX10_allAtOnce_62 rfl ?_
  refine c_iconst dX10_allAtOnce_64 (v := 4) rfl ?_
  refine c_icmp_ge (tgt := 102) dX10_allAtOnce_65 rfl (fun h28 => ?_) (fun h28 => ?_)
  · refine c_keep [0, 1, 3, 4, 5, 6] (ls2 := [(0, .inr 0), (1, .inl x1), (3, .inl x3), (4, .inl x4), (5, .inl x5), (6, .inl x6)]) rfl ?_
    exact jo_X10_allAtOnce_102 d hlev x1 x3 x4 x5 x6 K20 hK20 M
  · refine c_iload_n (i := 3) dX10_allAtOnce_68 rfl rfl ?_
    refine c_bipush dX10_allAtOnce_69 (v := 7) rfl ?_
    refine c_icmp_eq (tgt := 81) dX10_allAtOnce_71 rfl (fun h29 => ?_) (fun h29 => ?_)
    · refine c_keep [0, 1, 3, 4, 5, 6, 7] (ls2 := [(0, .inr 0), (1, .inl x1), (3, .inl x3), (4, .inl x4), (5, .inl x5), (6, .inl x6), (7, .inl x7)]) rfl ?_
      exact jo_X10_allAtOnce_81 d hlev x1 x3 x4 x5 x6 x7 K20 hK20 K62 hK62 M
    · refine c_iload dX10_allAtOnce_74 rfl ?_
      refine c_iload dX10_allAtOnce_76 rfl ?_
      refine c_icmp_ne (tgt := 96) dX10_allAtOnce_78 rfl (fun h32 => ?_) (fun h32 => ?_)
      · refine c_keep [0, 1, 3, 4, 5, 6, 7] (ls2 := [(0, .inr 0), (1, .inl x1), (3, .inl x3), (4, .inl x4), (5, .inl x5), (6, .inl x6), (7, .inl x7)]) rfl ?_
        exact jo_X10_allAtOnce_96 d hlev x1 x3 x4 x5 x6 x7 K20 hK20 K62 hK62 M
      · refine c_keep [0, 1, 3, 4, 5, 6, 7] (ls2 := [(0, .inr 0), (1, .inl x1), (3, .inl x3), (4, .inl x4), (5, .inl x5), (6, .inl x6), (7, .inl x7)]) rfl ?_
        exact jo_X10_allAtOnce_81 d hlev x1 x3 x4 x5 x6 x7 K20 hK20 K62 hK62 M
def l_X10_allAtOnce_20 (x1 : Int32) (x3 : Int32) (x4 : Int32) (K20 : Int32 × Int32 × Mem → Option (Int32 × Mem)) : Int32 × Int32 × Mem → Option (Int32 × Mem) := fun s => match s with
  | (x5, x6, M) => if (M 5 0) ≤ x6 then if ¬ x3 = 7 then if ¬ x3 = 4 then j_X10_allAtOnce_155 x1 x3 x4 x5 (x5 + (M 5 8)) M else bnd (f_X10_bits x1 M) (fun v22 M23 => bnd (f_X10_halvings v22 M23) (fun v24 M25 => j_X10_allAtOnce_155 x1 x3 x4 x5 (x5 + (v24 * (M25 5 7))) M25)) else j_X10_allAtOnce_155 x1 x3 x4 x5 x5 M else if ¬ (p_X10_has x1 x6) = 0 then if inb (0 + x6) 1671 then loopC (l_X10_allAtOnce_62 x1 x3 x4 x6 K20) fuelL (p_X10_greater x5 (M 1 (ix (0 + x6))), 0, M) else none else j_X10_allAtOnce_102 x1 x3 x4 x5 x6 K20 M
set_option maxRecDepth 20000 in
set_option maxHeartbeats 2000000 in
theorem lo_X10_allAtOnce_20 (d : Nat) (hlev : 2 ≤ d) (x1 : Int32) (x3 : Int32) (x4 : Int32) (s : Int32 × Int32 × Mem) : CorM KSm ST1 RX10 cX10_allAtOnce 8 none d 20 [(0, .inr 0), (1, .inl x1), (3, .inl x3), (4, .inl x4), (5, .inl s.1), (6, .inl s.2.1)] [] s.2.2 (loopC (l_X10_allAtOnce_20 x1 x3 x4) fuelL s) := by
  refine c_loop (L := fun s : Int32 × Int32 × Mem => [(0, .inr 0), (1, .inl x1), (3, .inl x3), (4, .inl x4), (5, .inl s.1), (6, .inl s.2.1)]) (Mf := fun s : Int32 × Int32 × Mem => s.2.2) (fun K20 hK20 s => ?_) fuelL s
  obtain ⟨x5, x6, M⟩ := s
  show CorM KSm ST1 RX10 cX10_allAtOnce 8 none d 20 [(0, .inr 0), (1, .inl x1), (3, .inl x3), (4, .inl x4), (5, .inl x5), (6, .inl x6)] [] M (l_X10_allAtOnce_20 x1 x3 x4 K20 (x5, x6, M))
  unfold l_X10_allAtOnce_20
  refine c_iload dX10_allAtOnce_20 rfl ?_
  refine c_aload_n (i := 0) dX10_allAtOnce_22 rfl rfl ?_
  refine gf_RX10_23 (blk_get0 KSm_b0) dX10_allAtOnce_23 ?_
  refine c_iconst dX10_allAtOnce_26 (v := 0) rfl ?_
  refine c_iald (blk_get0 (blk_sub (C := [(20, 290)]) (i := 5) KSm_b0 rfl)) (by decide) dX10_allAtOnce_27 ?_
  refine c_icmp_ge (tgt := 108) dX10_allAtOnce_28 rfl (fun h5 => ?_) (fun h5 => ?_)
  · refine c_iload_n (i := 3) dX10_allAtOnce_108 rfl rfl ?_
    refine c_bipush dX10_allAtOnce_109 (v := 7) rfl ?_
    refine c_icmp_ne (tgt := 119) dX10_allAtOnce_111 rfl (fun h6 => ?_) (fun h6 => ?_)
    · refine c_iload_n (i := 3) dX10_allAtOnce_119 rfl rfl ?_
      refine c_iconst dX10_allAtOnce_120 (v := 4) rfl ?_
      refine c_icmp_ne (tgt := 145) dX10_allAtOnce_121 rfl (fun h7 => ?_) (fun h7 => ?_)
      · refine c_iload dX10_allAtOnce_145 rfl ?_
        refine c_aload_n (i := 0) dX10_allAtOnce_147 rfl rfl ?_
        refine gf_RX10_23 (blk_get0 KSm_b0) dX10_allAtOnce_148 ?_
        refine c_bipush dX10_allAtOnce_151 (v := 8) rfl ?_
        refine c_iald (blk_get0 (blk_sub (C := [(20, 290)]) (i := 5) KSm_b0 rfl)) (by decide) dX10_allAtOnce_153 ?_
        refine c_iadd dX10_allAtOnce_154 ?_
        refine c_keep [0, 1, 3, 4, 5] (ls2 := [(0, .inr 0), (1, .inl x1), (3, .inl x3), (4, .inl x4), (5, .inl x5)]) rfl ?_
        exact jo_X10_allAtOnce_155 d hlev x1 x3 x4 x5 (x5 + (M 5 8)) M
      · refine c_iload dX10_allAtOnce_124 rfl ?_
        refine c_iload_n (i := 1) dX10_allAtOnce_126 rfl rfl ?_
        refine c_callS (as := [.inl x1]) (rs := [.inl x5]) (ev_X10_bits 0 (Nat.le_refl _) x1 M) rfl (Nat.lt_of_lt_of_le (by decide) hlev) mw_X10_bits ws_X10_bits wl_RX10_295 mn_X10_bits rfl (by decide) (Nat.le_of_ble_eq_true rfl) ⟨_, rfl⟩ dX10_allAtOnce_127 (fun v22 M23 _ => ?_)
        refine c_callS (as := [.inl v22]) (rs := [.inl x5]) (ev_X10_halvings 0 (Nat.le_refl _) v22 M23) rfl (Nat.lt_of_lt_of_le (by decide) hlev) mw_X10_halvings ws_X10_halvings wl_RX10_292 mn_X10_halvings rfl (by decide) (Nat.le_of_ble_eq_true rfl) ⟨_, rfl⟩ dX10_allAtOnce_130 (fun v24 M25 _ => ?_)
        refine c_aload_n (i := 0) dX10_allAtOnce_133 rfl rfl ?_
        refine gf_RX10_23 (blk_get0 KSm_b0) dX10_allAtOnce_134 ?_
        refine c_bipush dX10_allAtOnce_137 (v := 7) rfl ?_
        refine c_iald (blk_get0 (blk_sub (C := [(20, 290)]) (i := 5) KSm_b0 rfl)) (by decide) dX10_allAtOnce_139 ?_
        refine c_imul dX10_allAtOnce_140 ?_
        refine c_iadd dX10_allAtOnce_141 ?_
        refine c_goto (tgt := 155) dX10_allAtOnce_142 rfl ?_
        refine c_keep [0, 1, 3, 4, 5] (ls2 := [(0, .inr 0), (1, .inl x1), (3, .inl x3), (4, .inl x4), (5, .inl x5)]) rfl ?_
        exact jo_X10_allAtOnce_155 d hlev x1 x3 x4 x5 (x5 + (v24 * (M25 5 7))) M25
    · refine c_iload dX10_allAtOnce_114 rfl ?_
      refine c_goto (tgt := 155) dX10_allAtOnce_116 rfl ?_
      refine c_keep [0, 1, 3, 4, 5] (ls2 := [(0, .inr 0), (1, .inl x1), (3, .inl x3), (4, .inl x4), (5, .inl x5)]) rfl ?_
      exact jo_X10_allAtOnce_155 d hlev x1 x3 x4 x5 x5 M
  · refine c_iload_n (i := 1) dX10_allAtOnce_31 rfl rfl ?_
    refine c_iload dX10_allAtOnce_32 rfl ?_
    refine c_callSp (as := [.inl x1, .inl x6]) (rs := []) (ev_X10_has 0 (Nat.le_refl _) x1 x6 M) rfl (Nat.lt_of_lt_of_le (by decide) hlev) mw_X10_has ws_X10_has wl_RX10_169 mn_X10_has rfl (by decide) (Nat.le_of_ble_eq_true rfl) ⟨_, rfl⟩ dX10_allAtOnce_34 ?_
    refine c_if_ne (tgt := 43) dX10_allAtOnce_37 rfl (fun h26 => ?_) (fun h26 => ?_)
    · refine c_iload dX10_allAtOnce_43 rfl ?_
      refine c_aload_n (i := 0) dX10_allAtOnce_45 rfl rfl ?_
      refine gf_RX10_9 (blk_get0 KSm_b0) dX10_allAtOnce_46 ?_
      refine c_iconst dX10_allAtOnce_49 (v := 0) rfl ?_
      refine c_iload dX10_allAtOnce_50 rfl ?_
      refine c_iadd dX10_allAtOnce_52 ?_
      refine c_chk (fun h27 => ?_)
      refine c_iald (blk_get0 (blk_sub (C := [(20, 1671)]) (i := 1) KSm_b0 rfl)) h27 dX10_allAtOnce_53 ?_
      refine c_callSp (as := [.inl x5, .inl (M 1 (ix (0 + x6)))]) (rs := []) (ev_X10_greater 0 (Nat.le_refl _) x5 (M 1 (ix (0 + x6))) M) rfl (Nat.lt_of_lt_of_le (by decide) hlev) mw_X10_greater ws_X10_greater wl_RX10_279 mn_X10_greater rfl (by decide) (Nat.le_of_ble_eq_true rfl) ⟨_, rfl⟩ dX10_allAtOnce_54 ?_
      refine c_istore dX10_allAtOnce_57 (by decide) (ls2 := [(0, .inr 0), (1, .inl x1), (3, .inl x3), (4, .inl x4), (5, .inl (p_X10_greater x5 (M 1 (ix (0 + x6))))), (6, .inl x6)]) rfl ?_
      refine c_iconst dX10_allAtOnce_59 (v := 0) rfl ?_
      refine c_istore dX10_allAtOnce_60 (by decide) (ls2 := [(0, .inr 0), (1, .inl x1), (3, .inl x3), (4, .inl x4), (5, .inl (p_X10_greater x5 (M 1 (ix (0 + x6))))), (6, .inl x6), (7, .inl 0)]) rfl ?_
      refine c_keep [0, 1, 3, 4, 5, 6, 7] (ls2 := [(0, .inr 0), (1, .inl x1), (3, .inl x3), (4, .inl x4), (5, .inl (p_X10_greater x5 (M 1 (ix (0 + x6))))), (6, .inl x6), (7, .inl 0)]) rfl ?_
      exact lo_X10_allAtOnce_62 d hlev x1 x3 x4 x6 K20 hK20 (p_X10_greater x5 (M 1 (ix (0 + x6))), 0, M)
    · refine c_goto (tgt := 102) dX10_allAtOnce_40 rfl ?_
      refine c_keep [0, 1, 3, 4, 5, 6] (ls2 := [(0, .inr 0), (1, .inl x1), (3, .inl x3), (4, .inl x4), (5, .inl x5), (6, .inl x6)]) rfl ?_
      exact jo_X10_allAtOnce_102 d hlev x1 x3 x4 x5 x6 K20 hK20 M
def f_X10_allAtOnce (x1 : Int32) (x2 : Int32) (M : Mem) : Option (Int32 × Mem) := bnd (f_X10_kindOf x2 M) (fun v1 M2 => bnd (f_X10_told x2 1 M2) (fun v3 M4 => loopC (l_X10_allAtOnce_20 x1 v1 v3) fuelL (0, 0, M4)))
set_option maxRecDepth 20000 in
set_option maxHeartbeats 2000000 in
theorem ev_X10_allAtOnce (d : Nat) (hlev : 2 ≤ d) (x1 : Int32) (x2 : Int32) (M : Mem) : Ev KSm ST1 mdX10_allAtOnce d [.inr 0, .inl x1, .inl x2] M (f_X10_allAtOnce x1 x2 M) := by
  refine ev_of rfl (Nat.le_of_ble_eq_true rfl) ?_
  show CorM KSm ST1 RX10 cX10_allAtOnce 8 none d 0 [(0, .inr 0), (1, .inl x1), (2, .inl x2)] [] M (f_X10_allAtOnce x1 x2 M)
  unfold f_X10_allAtOnce
  refine c_aload_n (i := 0) dX10_allAtOnce_0 rfl rfl ?_
  refine c_iload_n (i := 2) dX10_allAtOnce_1 rfl rfl ?_
  refine c_callV (as := [.inl x2]) (rs := []) (ev_X10_kindOf 1 (Nat.le_refl _) x2 M) rfl (Nat.lt_of_lt_of_le (by decide) hlev) mw_X10_kindOf wi_X10_kindOf wv_X10_kindOf (blk_get0 KSm_b0) (by decide) rfl wl_RX10_254 mn_X10_kindOf rfl (by decide) (Nat.le_of_ble_eq_true rfl) ⟨_, rfl⟩ dX10_allAtOnce_2 (fun v1 M2 _ => ?_)
  refine c_istore_n (i := 3) dX10_allAtOnce_5 rfl (by decide) (ls2 := [(0, .inr 0), (1, .inl x1), (2, .inl x2), (3, .inl v1)]) rfl ?_
  refine c_aload_n (i := 0) dX10_allAtOnce_6 rfl rfl ?_
  refine c_iload_n (i := 2) dX10_allAtOnce_7 rfl rfl ?_
  refine c_iconst dX10_allAtOnce_8 (v := 1) rfl ?_
  refine c_callV (as := [.inl x2, .inl 1]) (rs := []) (ev_X10_told 0 (Nat.le_refl _) x2 1 M2) rfl (Nat.lt_of_lt_of_le (by decide) hlev) mw_X10_told wi_X10_told wv_X10_told (blk_get0 KSm_b0) (by decide) rfl wl_RX10_233 mn_X10_told rfl (by decide) (Nat.le_of_ble_eq_true rfl) ⟨_, rfl⟩ dX10_allAtOnce_9 (fun v3 M4 _ => ?_)
  refine c_istore dX10_allAtOnce_12 (by decide) (ls2 := [(0, .inr 0), (1, .inl x1), (2, .inl x2), (3, .inl v1), (4, .inl v3)]) rfl ?_
  refine c_iconst dX10_allAtOnce_14 (v := 0) rfl ?_
  refine c_istore dX10_allAtOnce_15 (by decide) (ls2 := [(0, .inr 0), (1, .inl x1), (2, .inl x2), (3, .inl v1), (4, .inl v3), (5, .inl 0)]) rfl ?_
  refine c_iconst dX10_allAtOnce_17 (v := 0) rfl ?_
  refine c_istore dX10_allAtOnce_18 (by decide) (ls2 := [(0, .inr 0), (1, .inl x1), (2, .inl x2), (3, .inl v1), (4, .inl v3), (5, .inl 0), (6, .inl 0)]) rfl ?_
  refine c_keep [0, 1, 3, 4, 5, 6] (ls2 := [(0, .inr 0), (1, .inl x1), (3, .inl v1), (4, .inl v3), (5, .inl 0), (6, .inl 0)]) rfl ?_
  exact lo_X10_allAtOnce_20 d hlev x1 v1 v3 (0, 0, M4)
