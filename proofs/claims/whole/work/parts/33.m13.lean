abbrev mdX10_command : MD := (yX10_command, cX10_command, 6, none)
theorem mw_X10_command : mdW mdX10_command := ⟨wm_X10_command, w0_RX10, by decide, by decide⟩
theorem mn_X10_command : (parseMethodDescriptor yX10_command.desc).map (fun d => d.parameters.length) = some 1 := by decide +kernel
def j_X10_command_247 (M : Mem) : Option (Int32 × Mem) := bnd (f_X10_takesSign 59 M) (fun v24 M25 => bnd (f_X10_must v24 M25) (fun _ M27 => wrt (up M27 6 13 ((M27 6 13) + 1)) (fun M28 => some (0, M28))))
set_option maxRecDepth 20000 in
set_option maxHeartbeats 2000000 in
theorem jo_X10_command_247 (d : Nat) (hlev : 6 ≤ d) (M : Mem) : CorM KSm ST1 RX10 cX10_command 6 none d 247 [(0, .inr 0)] [] M (j_X10_command_247 M) := by
  unfold j_X10_command_247
  refine c_aload_n (i := 0) dX10_command_247 rfl rfl ?_
  refine c_aload_n (i := 0) dX10_command_248 rfl rfl ?_
  refine c_bipush dX10_command_249 (v := 59) rfl ?_
  refine c_callV (as := [.inl 59]) (rs := [.inr 0]) (ev_X10_takesSign 2 (Nat.le_refl _) 59 M) rfl (Nat.lt_of_lt_of_le (by decide) hlev) mw_X10_takesSign wi_X10_takesSign wv_X10_takesSign (blk_get0 KSm_b0) (by decide) rfl wl_RX10_145 mn_X10_takesSign rfl (by decide) (Nat.le_of_ble_eq_true rfl) ⟨_, rfl⟩ dX10_command_251 (fun v24 M25 _ => ?_)
  refine c_callVv (as := [.inl v24]) (rs := []) (ev_X10_must 2 (Nat.le_refl _) v24 M25) rfl (Nat.lt_of_lt_of_le (by decide) hlev) mw_X10_must wi_X10_must wv_X10_must (blk_get0 KSm_b0) (by decide) rfl wl_RX10_133 mn_X10_must rfl (by decide) (Nat.le_of_ble_eq_true rfl) rfl dX10_command_254 (fun v26 M27 _ => ?_)
  refine c_aload_n (i := 0) dX10_command_257 rfl rfl ?_
  refine gf_RX10_26 (blk_get0 KSm_b0) dX10_command_258 ?_
  refine c_bipush dX10_command_261 (v := 13) rfl ?_
  refine c_dup2 dX10_command_263 ?_
  refine c_iald (blk_get0 (blk_sub (C := [(20, 290)]) (i := 6) KSm_b0 rfl)) (by decide) dX10_command_264 ?_
  refine c_iconst dX10_command_265 (v := 1) rfl ?_
  refine c_iadd dX10_command_266 ?_
  refine c_iast (blk_get0 (blk_sub (C := [(20, 290)]) (i := 6) KSm_b0 rfl)) (by decide) dX10_command_267 ?_
  refine c_wrt (fun M28 => ?_)
  exact c_vret rfl dX10_command_268
def j_X10_command_218 (x1 : Int32) (x2 : Int32) (M : Mem) : Option (Int32 × Mem) := if ¬ x1 = 3 then j_X10_command_247 M else bnd (f_X10_register M) (fun v29 M30 => if inb (x2 + 2) 290 then wrt (up M30 6 (ix (x2 + 2)) v29) (fun M32 => bnd (f_X10_register M32) (fun v33 M34 => if inb (x2 + 3) 290 then wrt (up M34 6 (ix (x2 + 3)) v33) (fun M36 => j_X10_command_247 M36) else none)) else none)
set_option maxRecDepth 20000 in
set_option maxHeartbeats 2000000 in
theorem jo_X10_command_218 (d : Nat) (hlev : 6 ≤ d) (x1 : Int32) (x2 : Int32) (M : Mem) : CorM KSm ST1 RX10 cX10_command 6 none d 218 [(0, .inr 0), (1, .inl x1), (2, .inl x2)] [] M (j_X10_command_218 x1 x2 M) := by
  unfold j_X10_command_218
  refine c_iload_n (i := 1) dX10_command_218 rfl rfl ?_
  refine c_iconst dX10_command_219 (v := 3) rfl ?_
  refine c_icmp_ne (tgt := 247) dX10_command_220 rfl (fun h23 => ?_) (fun h23 => ?_)
  · refine c_keep [0] (ls2 := [(0, .inr 0)]) rfl ?_
    exact jo_X10_command_247 d hlev M
  · refine c_aload_n (i := 0) dX10_command_223 rfl rfl ?_
    refine gf_RX10_26 (blk_get0 KSm_b0) dX10_command_224 ?_
    refine c_iload_n (i := 2) dX10_command_227 rfl rfl ?_
    refine c_iconst dX10_command_228 (v := 2) rfl ?_
    refine c_iadd dX10_command_229 ?_
    refine c_aload_n (i := 0) dX10_command_230 rfl rfl ?_
    refine c_callV (as := []) (rs := [.inl (x2 + 2), .inr 6]) (ev_X10_register 3 (Nat.le_refl _) M) rfl (Nat.lt_of_lt_of_le (by decide) hlev) mw_X10_register wi_X10_register wv_X10_register (blk_get0 KSm_b0) (by decide) rfl wl_RX10_205 mn_X10_register rfl (by decide) (Nat.le_of_ble_eq_true rfl) ⟨_, rfl⟩ dX10_command_231 (fun v29 M30 _ => ?_)
    refine c_chk (fun h31 => ?_)
    refine c_iast (blk_get0 (blk_sub (C := [(20, 290)]) (i := 6) KSm_b0 rfl)) h31 dX10_command_234 ?_
    refine c_wrt (fun M32 => ?_)
    refine c_aload_n (i := 0) dX10_command_235 rfl rfl ?_
    refine gf_RX10_26 (blk_get0 KSm_b0) dX10_command_236 ?_
    refine c_iload_n (i := 2) dX10_command_239 rfl rfl ?_
    refine c_iconst dX10_command_240 (v := 3) rfl ?_
    refine c_iadd dX10_command_241 ?_
    refine c_aload_n (i := 0) dX10_command_242 rfl rfl ?_
    refine c_callV (as := []) (rs := [.inl (x2 + 3), .inr 6]) (ev_X10_register 3 (Nat.le_refl _) M32) rfl (Nat.lt_of_lt_of_le (by decide) hlev) mw_X10_register wi_X10_register wv_X10_register (blk_get0 KSm_b0) (by decide) rfl wl_RX10_205 mn_X10_register rfl (by decide) (Nat.le_of_ble_eq_true rfl) ⟨_, rfl⟩ dX10_command_243 (fun v33 M34 _ => ?_)
    refine c_chk (fun h35 => ?_)
    refine c_iast (blk_get0 (blk_sub (C := [(20, 290)]) (i := 6) KSm_b0 rfl)) h35 dX10_command_246 ?_
    refine c_wrt (fun M36 => ?_)
    refine c_keep [0] (ls2 := [(0, .inr 0)]) rfl ?_
    exact jo_X10_command_247 d hlev M36
def j_X10_command_175 (x1 : Int32) (x2 : Int32) (M : Mem) : Option (Int32 × Mem) := if ¬ x1 = 2 then j_X10_command_218 x1 x2 M else bnd (f_X10_takesSign 45 M) (fun v37 M38 => bnd (f_X10_figure 0 999999 M38) (fun v39 M40 => if inb (x2 + 2) 290 then wrt (up M40 6 (ix (x2 + 2)) (if v37 = 0 then v39 else -v39)) (fun M43 => j_X10_command_218 x1 x2 M43) else none))
set_option maxRecDepth 20000 in
set_option maxHeartbeats 2000000 in
theorem jo_X10_command_175 (d : Nat) (hlev : 6 ≤ d) (x1 : Int32) (x2 : Int32) (M : Mem) : CorM KSm ST1 RX10 cX10_command 6 none d 175 [(0, .inr 0), (1, .inl x1), (2, .inl x2)] [] M (j_X10_command_175 x1 x2 M) := by
  unfold j_X10_command_175
  refine c_iload_n (i := 1) dX10_command_175 rfl rfl ?_
  refine c_iconst dX10_command_176 (v := 2) rfl ?_
  refine c_icmp_ne (tgt := 218) dX10_command_177 rfl (fun h22 => ?_) (fun h22 => ?_)
  · refine c_keep [0, 1, 2] (ls2 := [(0, .inr 0), (1, .inl x1), (2, .inl x2)]) rfl ?_
    exact jo_X10_command_218 d hlev x1 x2 M
  · refine c_aload_n (i := 0) dX10_command_180 rfl rfl ?_
    refine c_bipush dX10_command_181 (v := 45) rfl ?_
    refine c_callV (as := [.inl 45]) (rs := []) (ev_X10_takesSign 2 (Nat.le_refl _) 45 M) rfl (Nat.lt_of_lt_of_le (by decide) hlev) mw_X10_takesSign wi_X10_takesSign wv_X10_takesSign (blk_get0 KSm_b0) (by decide) rfl wl_RX10_145 mn_X10_takesSign rfl (by decide) (Nat.le_of_ble_eq_true rfl) ⟨_, rfl⟩ dX10_command_183 (fun v37 M38 _ => ?_)
    refine c_istore dX10_command_186 (by decide) (ls2 := [(0, .inr 0), (1, .inl x1), (2, .inl x2), (4, .inl v37)]) rfl ?_
    refine c_aload_n (i := 0) dX10_command_188 rfl rfl ?_
    refine c_iconst dX10_command_189 (v := 0) rfl ?_
    refine c_ldc wd_RX10_208 dX10_command_190 ?_
    refine c_callV (as := [.inl 0, .inl 999999]) (rs := []) (ev_X10_figure 2 (Nat.le_refl _) 0 999999 M38) rfl (Nat.lt_of_lt_of_le (by decide) hlev) mw_X10_figure wi_X10_figure wv_X10_figure (blk_get0 KSm_b0) (by decide) rfl wl_RX10_137 mn_X10_figure rfl (by decide) (Nat.le_of_ble_eq_true rfl) ⟨_, rfl⟩ dX10_command_192 (fun v39 M40 _ => ?_)
    refine c_istore dX10_command_195 (by decide) (ls2 := [(0, .inr 0), (1, .inl x1), (2, .inl x2), (4, .inl v37), (5, .inl v39)]) rfl ?_
    refine c_aload_n (i := 0) dX10_command_197 rfl rfl ?_
    refine gf_RX10_26 (blk_get0 KSm_b0) dX10_command_198 ?_
    refine c_iload_n (i := 2) dX10_command_201 rfl rfl ?_
    refine c_iconst dX10_command_202 (v := 2) rfl ?_
    refine c_iadd dX10_command_203 ?_
    refine c_iload dX10_command_204 rfl ?_
    have J_z41 : ∀ z41 : Int32, CorM KSm ST1 RX10 cX10_command 6 none d 217 [(0, .inr 0), (1, .inl x1), (2, .inl x2)] [.inl z41, .inl (x2 + 2), .inr 6] M40 (if inb (x2 + 2) 290 then wrt (up M40 6 (ix (x2 + 2)) z41) (fun M43 => j_X10_command_218 x1 x2 M43) else none) := by
      intro z41
      refine c_chk (fun h42 => ?_)
      refine c_iast (blk_get0 (blk_sub (C := [(20, 290)]) (i := 6) KSm_b0 rfl)) h42 dX10_command_217 ?_
      refine c_wrt (fun M43 => ?_)
      refine c_keep [0, 1, 2] (ls2 := [(0, .inr 0), (1, .inl x1), (2, .inl x2)]) rfl ?_
      exact jo_X10_command_218 d hlev x1 x2 M43
    refine c_val (b := v37 = 0) (v1 := v39) (v2 := -v39) (F := fun z41 => if inb (x2 + 2) 290 then wrt (up M40 6 (ix (x2 + 2)) z41) (fun M43 => j_X10_command_218 x1 x2 M43) else none) (fun h44 => ?_) (fun h44 => ?_)
    · refine c_T h44 (c_if_eq (tgt := 215) dX10_command_206 rfl (fun _ => ?_) (fun q => absurd h44 q))
      refine c_iload dX10_command_215 rfl ?_
      refine c_keep [0, 1, 2] (ls2 := [(0, .inr 0), (1, .inl x1), (2, .inl x2)]) rfl ?_
      exact J_z41 v39
    · refine c_Fl h44 (c_if_eq (tgt := 215) dX10_command_206 rfl (fun q => absurd q h44) (fun _ => ?_))
      refine c_iload dX10_command_209 rfl ?_
      refine c_ineg dX10_command_211 ?_
      refine c_goto (tgt := 217) dX10_command_212 rfl ?_
      refine c_keep [0, 1, 2] (ls2 := [(0, .inr 0), (1, .inl x1), (2, .inl x2)]) rfl ?_
      exact J_z41 (-v39)
def j_X10_command_154 (x1 : Int32) (x2 : Int32) (M : Mem) : Option (Int32 × Mem) := bnd (f_X10_figure 0 ((M 6 1) - 1) M) (fun v18 M19 => if inb (x2 + 2) 290 then wrt (up M19 6 (ix (x2 + 2)) v18) (fun M21 => j_X10_command_175 x1 x2 M21) else none)
set_option maxRecDepth 20000 in
set_option maxHeartbeats 2000000 in
theorem jo_X10_command_154 (d : Nat) (hlev : 6 ≤ d) (x1 : Int32) (x2 : Int32) (M : Mem) : CorM KSm ST1 RX10 cX10_command 6 none d 154 [(0, .inr 0), (1, .inl x1), (2, .inl x2)] [] M (j_X10_command_154 x1 x2 M) := by
  unfold j_X10_command_154
  refine c_aload_n (i := 0) dX10_command_154 rfl rfl ?_
  refine gf_RX10_26 (blk_get0 KSm_b0) dX10_command_155 ?_
  refine c_iload_n (i := 2) dX10_command_158 rfl rfl ?_
  refine c_iconst dX10_command_159 (v := 2) rfl ?_
  refine c_iadd dX10_command_160 ?_
  refine c_aload_n (i := 0) dX10_command_161 rfl rfl ?_
  refine c_iconst dX10_command_162 (v := 0) rfl ?_
  refine c_aload_n (i := 0) dX10_command_163 rfl rfl ?_
  refine gf_RX10_26 (blk_get0 KSm_b0) dX10_command_164 ?_
  refine c_iconst dX10_command_167 (v := 1) rfl ?_
  refine c_iald (blk_get0 (blk_sub (C := [(20, 290)]) (i := 6) KSm_b0 rfl)) (by decide) dX10_command_168 ?_
  refine c_iconst dX10_command_169 (v := 1) rfl ?_
  refine c_isub dX10_command_170 ?_
  refine c_callV (as := [.inl 0, .inl ((M 6 1) - 1)]) (rs := [.inl (x2 + 2), .inr 6]) (ev_X10_figure 2 (Nat.le_refl _) 0 ((M 6 1) - 1) M) rfl (Nat.lt_of_lt_of_le (by decide) hlev) mw_X10_figure wi_X10_figure wv_X10_figure (blk_get0 KSm_b0) (by decide) rfl wl_RX10_137 mn_X10_figure rfl (by decide) (Nat.le_of_ble_eq_true rfl) ⟨_, rfl⟩ dX10_command_171 (fun v18 M19 _ => ?_)
  refine c_chk (fun h20 => ?_)
  refine c_iast (blk_get0 (blk_sub (C := [(20, 290)]) (i := 6) KSm_b0 rfl)) h20 dX10_command_174 ?_
  refine c_wrt (fun M21 => ?_)
  refine c_keep [0, 1, 2] (ls2 := [(0, .inr 0), (1, .inl x1), (2, .inl x2)]) rfl ?_
  exact jo_X10_command_175 d hlev x1 x2 M21
def j_X10_command_145 (x1 : Int32) (x2 : Int32) (M : Mem) : Option (Int32 × Mem) := if x1 = 0 then j_X10_command_154 x1 x2 M else if ¬ x1 = 1 then j_X10_command_175 x1 x2 M else j_X10_command_154 x1 x2 M
set_option maxRecDepth 20000 in
set_option maxHeartbeats 2000000 in
theorem jo_X10_command_145 (d : Nat) (hlev : 6 ≤ d) (x1 : Int32) (x2 : Int32) (M : Mem) : CorM KSm ST1 RX10 cX10_command 6 none d 145 [(0, .inr 0), (1, .inl x1), (2, .inl x2)] [] M (j_X10_command_145 x1 x2 M) := by
  unfold j_X10_command_145
  refine c_iload_n (i := 1) dX10_command_145 rfl rfl ?_
  refine c_if_eq (tgt := 154) dX10_command_146 rfl (fun h17 => ?_) (fun h17 => ?_)
  · refine c_keep [0, 1, 2] (ls2 := [(0, .inr 0), (1, .inl x1), (2, .inl x2)]) rfl ?_
    exact jo_X10_command_154 d hlev x1 x2 M
  · refine c_iload_n (i := 1) dX10_command_149 rfl rfl ?_
    refine c_iconst dX10_command_150 (v := 1) rfl ?_
    refine c_icmp_ne (tgt := 175) dX10_command_151 rfl (fun h45 => ?_) (fun h45 => ?_)
    · refine c_keep [0, 1, 2] (ls2 := [(0, .inr 0), (1, .inl x1), (2, .inl x2)]) rfl ?_
      exact jo_X10_command_175 d hlev x1 x2 M
    · refine c_keep [0, 1, 2] (ls2 := [(0, .inr 0), (1, .inl x1), (2, .inl x2)]) rfl ?_
      exact jo_X10_command_154 d hlev x1 x2 M
def j_X10_command_127 (x1 : Int32) (x2 : Int32) (M : Mem) : Option (Int32 × Mem) := if x1 = 7 then j_X10_command_145 x1 x2 M else bnd (f_X10_register M) (fun v46 M47 => if inb (x2 + 1) 290 then wrt (up M47 6 (ix (x2 + 1)) v46) (fun M49 => j_X10_command_145 x1 x2 M49) else none)
set_option maxRecDepth 20000 in
set_option maxHeartbeats 2000000 in
theorem jo_X10_command_127 (d : Nat) (hlev : 6 ≤ d) (x1 : Int32) (x2 : Int32) (M : Mem) : CorM KSm ST1 RX10 cX10_command 6 none d 127 [(0, .inr 0), (1, .inl x1), (2, .inl x2)] [] M (j_X10_command_127 x1 x2 M) := by
  unfold j_X10_command_127
  refine c_iload_n (i := 1) dX10_command_127 rfl rfl ?_
  refine c_bipush dX10_command_128 (v := 7) rfl ?_
  refine c_icmp_eq (tgt := 145) dX10_command_130 rfl (fun h16 => ?_) (fun h16 => ?_)
  · refine c_keep [0, 1, 2] (ls2 := [(0, .inr 0), (1, .inl x1), (2, .inl x2)]) rfl ?_
    exact jo_X10_command_145 d hlev x1 x2 M
  · refine c_aload_n (i := 0) dX10_command_133 rfl rfl ?_
    refine gf_RX10_26 (blk_get0 KSm_b0) dX10_command_134 ?_
    refine c_iload_n (i := 2) dX10_command_137 rfl rfl ?_
    refine c_iconst dX10_command_138 (v := 1) rfl ?_
    refine c_iadd dX10_command_139 ?_
    refine c_aload_n (i := 0) dX10_command_140 rfl rfl ?_
    refine c_callV (as := []) (rs := [.inl (x2 + 1), .inr 6]) (ev_X10_register 3 (Nat.le_refl _) M) rfl (Nat.lt_of_lt_of_le (by decide) hlev) mw_X10_register wi_X10_register wv_X10_register (blk_get0 KSm_b0) (by decide) rfl wl_RX10_205 mn_X10_register rfl (by decide) (Nat.le_of_ble_eq_true rfl) ⟨_, rfl⟩ dX10_command_141 (fun v46 M47 _ => ?_)
    refine c_chk (fun h48 => ?_)
    refine c_iast (blk_get0 (blk_sub (C := [(20, 290)]) (i := 6) KSm_b0 rfl)) h48 dX10_command_144 ?_
    refine c_wrt (fun M49 => ?_)
    refine c_keep [0, 1, 2] (ls2 := [(0, .inr 0), (1, .inl x1), (2, .inl x2)]) rfl ?_
    exact jo_X10_command_145 d hlev x1 x2 M49
def j_X10_command_115 (x1 : Int32) (x2 : Int32) (x3 : Int32) (M : Mem) : Option (Int32 × Mem) := if inb x2 290 then wrt (up M 6 (ix x2) (x1 + (8 * x3))) (fun M15 => j_X10_command_127 x1 x2 M15) else none
set_option maxRecDepth 20000 in
set_option maxHeartbeats 2000000 in
theorem jo_X10_command_115 (d : Nat) (hlev : 6 ≤ d) (x1 : Int32) (x2 : Int32) (x3 : Int32) (M : Mem) : CorM KSm ST1 RX10 cX10_command 6 none d 115 [(0, .inr 0), (1, .inl x1), (2, .inl x2), (3, .inl x3)] [] M (j_X10_command_115 x1 x2 x3 M) := by
  unfold j_X10_command_115
  refine c_aload_n (i := 0) dX10_command_115 rfl rfl ?_
  refine gf_RX10_26 (blk_get0 KSm_b0) dX10_command_116 ?_
  refine c_iload_n (i := 2) dX10_command_119 rfl rfl ?_
  refine c_iload_n (i := 1) dX10_command_120 rfl rfl ?_
  refine c_bipush dX10_command_121 (v := 8) rfl ?_
  refine c_iload_n (i := 3) dX10_command_123 rfl rfl ?_
  refine c_imul dX10_command_124 ?_
  refine c_iadd dX10_command_125 ?_
  refine c_chk (fun h14 => ?_)
  refine c_iast (blk_get0 (blk_sub (C := [(20, 290)]) (i := 6) KSm_b0 rfl)) h14 dX10_command_126 ?_
  refine c_wrt (fun M15 => ?_)
  refine c_keep [0, 1, 2] (ls2 := [(0, .inr 0), (1, .inl x1), (2, .inl x2)]) rfl ?_
  exact jo_X10_command_127 d hlev x1 x2 M15
def j_X10_command_104 (x1 : Int32) (x2 : Int32) (x3 : Int32) (M : Mem) : Option (Int32 × Mem) := if ¬ (p_X10_isWrong M) = 0 then j_X10_command_115 x1 x2 x3 M else bnd (f_X10_token M) (fun _ M51 => j_X10_command_115 x1 x2 x3 M51)
set_option maxRecDepth 20000 in
set_option maxHeartbeats 2000000 in
theorem jo_X10_command_104 (d : Nat) (hlev : 6 ≤ d) (x1 : Int32) (x2 : Int32) (x3 : Int32) (M : Mem) : CorM KSm ST1 RX10 cX10_command 6 none d 104 [(0, .inr 0), (1, .inl x1), (2, .inl x2), (3, .inl x3)] [] M (j_X10_command_104 x1 x2 x3 M) := by
  unfold j_X10_command_104
  refine c_aload_n (i := 0) dX10_command_104 rfl rfl ?_
  refine c_callVp (as := []) (rs := []) (ev_X10_isWrong 0 (Nat.le_refl _) M) rfl (Nat.lt_of_lt_of_le (by decide) hlev) mw_X10_isWrong wi_X10_isWrong wv_X10_isWrong (blk_get0 KSm_b0) (by decide) rfl wl_RX10_103 mn_X10_isWrong rfl (by decide) (Nat.le_of_ble_eq_true rfl) ⟨_, rfl⟩ dX10_command_105 ?_
  refine c_if_ne (tgt := 115) dX10_command_108 rfl (fun h13 => ?_) (fun h13 => ?_)
  · refine c_keep [0, 1, 2, 3] (ls2 := [(0, .inr 0), (1, .inl x1), (2, .inl x2), (3, .inl x3)]) rfl ?_
    exact jo_X10_command_115 d hlev x1 x2 x3 M
  · refine c_aload_n (i := 0) dX10_command_111 rfl rfl ?_
    refine c_callVv (as := []) (rs := []) (ev_X10_token 1 (Nat.le_refl _) M) rfl (Nat.lt_of_lt_of_le (by decide) hlev) mw_X10_token wi_X10_token wv_X10_token (blk_get0 KSm_b0) (by decide) rfl wl_RX10_121 mn_X10_token rfl (by decide) (Nat.le_of_ble_eq_true rfl) rfl dX10_command_112 (fun v50 M51 _ => ?_)
    refine c_keep [0, 1, 2, 3] (ls2 := [(0, .inr 0), (1, .inl x1), (2, .inl x2), (3, .inl x3)]) rfl ?_
    exact jo_X10_command_115 d hlev x1 x2 x3 M51
def j_X10_command_88 (x1 : Int32) (x2 : Int32) (M : Mem) : Option (Int32 × Mem) := bnd (f_X10_way 0 M) (fun v10 M11 => if ¬ v10 = (-1) then j_X10_command_104 x1 x2 v10 M11 else bnd (f_X10_fails 1 M11) (fun _ M53 => j_X10_command_104 x1 x2 v10 M53))
set_option maxRecDepth 20000 in
set_option maxHeartbeats 2000000 in
theorem jo_X10_command_88 (d : Nat) (hlev : 6 ≤ d) (x1 : Int32) (x2 : Int32) (M : Mem) : CorM KSm ST1 RX10 cX10_command 6 none d 88 [(0, .inr 0), (1, .inl x1), (2, .inl x2)] [] M (j_X10_command_88 x1 x2 M) := by
  unfold j_X10_command_88
  refine c_aload_n (i := 0) dX10_command_88 rfl rfl ?_
  refine c_iconst dX10_command_89 (v := 0) rfl ?_
  refine c_callV (as := [.inl 0]) (rs := []) (ev_X10_way 5 (Nat.le_refl _) 0 M) rfl (Nat.lt_of_lt_of_le (by decide) hlev) mw_X10_way wi_X10_way wv_X10_way (blk_get0 KSm_b0) (by decide) rfl wl_RX10_195 mn_X10_way rfl (by decide) (Nat.le_of_ble_eq_true rfl) ⟨_, rfl⟩ dX10_command_90 (fun v10 M11 _ => ?_)
  refine c_istore_n (i := 3) dX10_command_93 rfl (by decide) (ls2 := [(0, .inr 0), (1, .inl x1), (2, .inl x2), (3, .inl v10)]) rfl ?_
  refine c_iload_n (i := 3) dX10_command_94 rfl rfl ?_
  refine c_iconst dX10_command_95 (v := (-1)) rfl ?_
  refine c_icmp_ne (tgt := 104) dX10_command_96 rfl (fun h12 => ?_) (fun h12 => ?_)
  · refine c_keep [0, 1, 2, 3] (ls2 := [(0, .inr 0), (1, .inl x1), (2, .inl x2), (3, .inl v10)]) rfl ?_
    exact jo_X10_command_104 d hlev x1 x2 v10 M11
  · refine c_aload_n (i := 0) dX10_command_99 rfl rfl ?_
    refine c_iconst dX10_command_100 (v := 1) rfl ?_
    refine c_callVv (as := [.inl 1]) (rs := []) (ev_X10_fails 1 (Nat.le_refl _) 1 M11) rfl (Nat.lt_of_lt_of_le (by decide) hlev) mw_X10_fails wi_X10_fails wv_X10_fails (blk_get0 KSm_b0) (by decide) rfl wl_RX10_124 mn_X10_fails rfl (by decide) (Nat.le_of_ble_eq_true rfl) rfl dX10_command_101 (fun v52 M53 _ => ?_)
    refine c_keep [0, 1, 2, 3] (ls2 := [(0, .inr 0), (1, .inl x1), (2, .inl x2), (3, .inl v10)]) rfl ?_
    exact jo_X10_command_104 d hlev x1 x2 v10 M53
def j_X10_command_52 (x1 : Int32) (x2 : Int32) (w0 : Int32) (M : Mem) : Option (Int32 × Mem) := bnd (f_X10_token M) (fun _ M5 => if inb x2 290 then wrt (up M5 6 (ix x2) (if ¬ x1 = 3 then x1 else 3 + (8 * w0))) (fun M8 => if x1 = 4 then j_X10_command_88 x1 x2 M8 else if ¬ x1 = 5 then j_X10_command_127 x1 x2 M8 else j_X10_command_88 x1 x2 M8) else none)
set_option maxRecDepth 20000 in
set_option maxHeartbeats 2000000 in
theorem jo_X10_command_52 (d : Nat) (hlev : 6 ≤ d) (x1 : Int32) (x2 : Int32) (w0 : Int32) (M : Mem) : CorM KSm ST1 RX10 cX10_command 6 none d 52 [(0, .inr 0), (1, .inl x1), (2, .inl x2)] [.inl w0] M (j_X10_command_52 x1 x2 w0 M) := by
  unfold j_X10_command_52
  refine c_istore_n (i := 3) dX10_command_52 rfl (by decide) (ls2 := [(0, .inr 0), (1, .inl x1), (2, .inl x2), (3, .inl w0)]) rfl ?_
  refine c_aload_n (i := 0) dX10_command_53 rfl rfl ?_
  refine c_callVv (as := []) (rs := []) (ev_X10_token 1 (Nat.le_refl _) M) rfl (Nat.lt_of_lt_of_le (by decide) hlev) mw_X10_token wi_X10_token wv_X10_token (blk_get0 KSm_b0) (by decide) rfl wl_RX10_121 mn_X10_token rfl (by decide) (Nat.le_of_ble_eq_true rfl) rfl dX10_command_54 (fun v4 M5 _ => ?_)
  refine c_aload_n (i := 0) dX10_command_57 rfl rfl ?_
  refine gf_RX10_26 (blk_get0 KSm_b0) dX10_command_58 ?_
  refine c_iload_n (i := 2) dX10_command_61 rfl rfl ?_
  refine c_iload_n (i := 1) dX10_command_62 rfl rfl ?_
  refine c_iconst dX10_command_63 (v := 3) rfl ?_
  have J_z6 : ∀ z6 : Int32, CorM KSm ST1 RX10 cX10_command 6 none d 77 [(0, .inr 0), (1, .inl x1), (2, .inl x2)] [.inl z6, .inl x2, .inr 6] M5 (if inb x2 290 then wrt (up M5 6 (ix x2) z6) (fun M8 => if x1 = 4 then j_X10_command_88 x1 x2 M8 else if ¬ x1 = 5 then j_X10_command_127 x1 x2 M8 else j_X10_command_88 x1 x2 M8) else none) := by
    intro z6
    refine c_chk (fun h7 => ?_)
    refine c_iast (blk_get0 (blk_sub (C := [(20, 290)]) (i := 6) KSm_b0 rfl)) h7 dX10_command_77 ?_
    refine c_wrt (fun M8 => ?_)
    refine c_iload_n (i := 1) dX10_command_78 rfl rfl ?_
    refine c_iconst dX10_command_79 (v := 4) rfl ?_
    refine c_icmp_eq (tgt := 88) dX10_command_80 rfl (fun h9 => ?_) (fun h9 => ?_)
    · refine c_keep [0, 1, 2] (ls2 := [(0, .inr 0), (1, .inl x1), (2, .inl x2)]) rfl ?_
      exact jo_X10_command_88 d hlev x1 x2 M8
    · refine c_iload_n (i := 1) dX10_command_83 rfl rfl ?_
      refine c_iconst dX10_command_84 (v := 5) rfl ?_
      refine c_icmp_ne (tgt := 127) dX10_command_85 rfl (fun h54 => ?_) (fun h54 => ?_)
      · refine c_keep [0, 1, 2] (ls2 := [(0, .inr 0), (1, .inl x1), (2, .inl x2)]) rfl ?_
        exact jo_X10_command_127 d hlev x1 x2 M8
      · refine c_keep [0, 1, 2] (ls2 := [(0, .inr 0), (1, .inl x1), (2, .inl x2)]) rfl ?_
        exact jo_X10_command_88 d hlev x1 x2 M8
  refine c_val (b := ¬ x1 = 3) (v1 := x1) (v2 := 3 + (8 * w0)) (F := fun z6 => if inb x2 290 then wrt (up M5 6 (ix x2) z6) (fun M8 => if x1 = 4 then j_X10_command_88 x1 x2 M8 else if ¬ x1 = 5 then j_X10_command_127 x1 x2 M8 else j_X10_command_88 x1 x2 M8) else none) (fun h55 => ?_) (fun h55 => ?_)
  · refine c_T h55 (c_icmp_ne (tgt := 76) dX10_command_64 rfl (fun _ => ?_) (fun q => absurd h55 q))
    refine c_iload_n (i := 1) dX10_command_76 rfl rfl ?_
    refine c_keep [0, 1, 2] (ls2 := [(0, .inr 0), (1, .inl x1), (2, .inl x2)]) rfl ?_
    exact J_z6 x1
  · refine c_Fl h55 (c_icmp_ne (tgt := 76) dX10_command_64 rfl (fun q => absurd q h55) (fun _ => ?_))
    refine c_iconst dX10_command_67 (v := 3) rfl ?_
    refine c_bipush dX10_command_68 (v := 8) rfl ?_
    refine c_iload_n (i := 3) dX10_command_70 rfl rfl ?_
    refine c_imul dX10_command_71 ?_
    refine c_iadd dX10_command_72 ?_
    refine c_goto (tgt := 77) dX10_command_73 rfl ?_
    refine c_keep [0, 1, 2] (ls2 := [(0, .inr 0), (1, .inl x1), (2, .inl x2)]) rfl ?_
    exact J_z6 (3 + (8 * w0))
def j_X10_command_17 (x1 : Int32) (M : Mem) : Option (Int32 × Mem) := if (p_X10_isWrong M) = 0 then if ¬ x1 = 3 then j_X10_command_52 x1 (50 + (4 * (M 6 13))) (-1) M else bnd (f_X10_way 1 M) (fun v56 M57 => j_X10_command_52 x1 (50 + (4 * (M 6 13))) v56 M57) else some (0, M)
set_option maxRecDepth 20000 in
set_option maxHeartbeats 2000000 in
theorem jo_X10_command_17 (d : Nat) (hlev : 6 ≤ d) (x1 : Int32) (M : Mem) : CorM KSm ST1 RX10 cX10_command 6 none d 17 [(0, .inr 0), (1, .inl x1)] [] M (j_X10_command_17 x1 M) := by
  unfold j_X10_command_17
  refine c_aload_n (i := 0) dX10_command_17 rfl rfl ?_
  refine c_callVp (as := []) (rs := []) (ev_X10_isWrong 0 (Nat.le_refl _) M) rfl (Nat.lt_of_lt_of_le (by decide) hlev) mw_X10_isWrong wi_X10_isWrong wv_X10_isWrong (blk_get0 KSm_b0) (by decide) rfl wl_RX10_103 mn_X10_isWrong rfl (by decide) (Nat.le_of_ble_eq_true rfl) ⟨_, rfl⟩ dX10_command_18 ?_
  refine c_if_eq (tgt := 25) dX10_command_21 rfl (fun h2 => ?_) (fun h2 => ?_)
  · refine c_bipush dX10_command_25 (v := 50) rfl ?_
    refine c_iconst dX10_command_27 (v := 4) rfl ?_
    refine c_aload_n (i := 0) dX10_command_28 rfl rfl ?_
    refine gf_RX10_26 (blk_get0 KSm_b0) dX10_command_29 ?_
    refine c_bipush dX10_command_32 (v := 13) rfl ?_
    refine c_iald (blk_get0 (blk_sub (C := [(20, 290)]) (i := 6) KSm_b0 rfl)) (by decide) dX10_command_34 ?_
    refine c_imul dX10_command_35 ?_
    refine c_iadd dX10_command_36 ?_
    refine c_istore_n (i := 2) dX10_command_37 rfl (by decide) (ls2 := [(0, .inr 0), (1, .inl x1), (2, .inl (50 + (4 * (M 6 13))))]) rfl ?_
    refine c_iload_n (i := 1) dX10_command_38 rfl rfl ?_
    refine c_iconst dX10_command_39 (v := 3) rfl ?_
    refine c_icmp_ne (tgt := 51) dX10_command_40 rfl (fun h3 => ?_) (fun h3 => ?_)
    · refine c_iconst dX10_command_51 (v := (-1)) rfl ?_
      refine c_keep [0, 1, 2] (ls2 := [(0, .inr 0), (1, .inl x1), (2, .inl (50 + (4 * (M 6 13))))]) rfl ?_
      exact jo_X10_command_52 d hlev x1 (50 + (4 * (M 6 13))) (-1) M
    · refine c_aload_n (i := 0) dX10_command_43 rfl rfl ?_
      refine c_iconst dX10_command_44 (v := 1) rfl ?_
      refine c_callV (as := [.inl 1]) (rs := []) (ev_X10_way 5 (Nat.le_refl _) 1 M) rfl (Nat.lt_of_lt_of_le (by decide) hlev) mw_X10_way wi_X10_way wv_X10_way (blk_get0 KSm_b0) (by decide) rfl wl_RX10_195 mn_X10_way rfl (by decide) (Nat.le_of_ble_eq_true rfl) ⟨_, rfl⟩ dX10_command_45 (fun v56 M57 _ => ?_)
      refine c_goto (tgt := 52) dX10_command_48 rfl ?_
      refine c_keep [0, 1, 2] (ls2 := [(0, .inr 0), (1, .inl x1), (2, .inl (50 + (4 * (M 6 13))))]) rfl ?_
      exact jo_X10_command_52 d hlev x1 (50 + (4 * (M 6 13))) v56 M57
  · exact c_vret rfl dX10_command_24
def f_X10_command (x1 : Int32) (M : Mem) : Option (Int32 × Mem) := if ¬ (M 6 13) = 60 then j_X10_command_17 x1 M else bnd (f_X10_fails 4 M) (fun _ M59 => j_X10_command_17 x1 M59)
set_option maxRecDepth 20000 in
set_option maxHeartbeats 2000000 in
theorem ev_X10_command (d : Nat) (hlev : 6 ≤ d) (x1 : Int32) (M : Mem) : Ev KSm ST1 mdX10_command d [.inr 0, .inl x1] M (f_X10_command x1 M) := by
  refine ev_of rfl (Nat.le_of_ble_eq_true rfl) ?_
  show CorM KSm ST1 RX10 cX10_command 6 none d 0 [(0, .inr 0), (1, .inl x1)] [] M (f_X10_command x1 M)
  unfold f_X10_command
  refine c_aload_n (i := 0) dX10_command_0 rfl rfl ?_
  refine gf_RX10_26 (blk_get0 KSm_b0) dX10_command_1 ?_
  refine c_bipush dX10_command_4 (v := 13) rfl ?_
  refine c_iald (blk_get0 (blk_sub (C := [(20, 290)]) (i := 6) KSm_b0 rfl)) (by decide) dX10_command_6 ?_
  refine c_bipush dX10_command_7 (v := 60) rfl ?_
  refine c_icmp_ne (tgt := 17) dX10_command_9 rfl (fun h1 => ?_) (fun h1 => ?_)
  · refine c_keep [0, 1] (ls2 := [(0, .inr 0), (1, .inl x1)]) rfl ?_
    exact jo_X10_command_17 d hlev x1 M
  · refine c_aload_n (i := 0) dX10_command_12 rfl rfl ?_
    refine c_iconst dX10_command_13 (v := 4) rfl ?_
    refine c_callVv (as := [.inl 4]) (rs := []) (ev_X10_fails 1 (Nat.le_refl _) 4 M) rfl (Nat.lt_of_lt_of_le (by decide) hlev) mw_X10_fails wi_X10_fails wv_X10_fails (blk_get0 KSm_b0) (by decide) rfl wl_RX10_124 mn_X10_fails rfl (by decide) (Nat.le_of_ble_eq_true rfl) rfl dX10_command_14 (fun v58 M59 _ => ?_)
    refine c_keep [0, 1] (ls2 := [(0, .inr 0), (1, .inl x1)]) rfl ?_
    exact jo_X10_command_17 d hlev x1 M59

abbrev mdX10_batch : MD := (yX10_batch, cX10_batch, 5, none)
theorem mw_X10_batch : mdW mdX10_batch := ⟨wm_X10_batch, w0_RX10, by decide, by decide⟩
theorem mn_X10_batch : (parseMethodDescriptor yX10_batch.desc).map (fun d => d.parameters.length) = some 0 := by decide +kernel
def j_X10_batch_201 (x1 : Int32) (M : Mem) : Option (Int32 × Mem) := if inb (x1 + 1) 290 then if inb (x1 + 2) 290 then wrt (up M 6 (ix (x1 + 2)) ((M 6 13) - (M 6 (ix (x1 + 1))))) (fun M19 => bnd (f_X10_takesWord 1051 M19) (fun v20 M21 => bnd (f_X10_must v20 M21) (fun _ M23 => bnd (f_X10_takesSign 59 M23) (fun v24 M25 => bnd (f_X10_must v24 M25) (fun _ M27 => wrt (up M27 6 12 ((M27 6 12) + 1)) (fun M28 => some (0, M28))))))) else none else none
set_option maxRecDepth 20000 in
set_option maxHeartbeats 2000000 in
theorem jo_X10_batch_201 (d : Nat) (hlev : 7 ≤ d) (x1 : Int32) (M : Mem) : CorM KSm ST1 RX10 cX10_batch 5 none d 201 [(0, .inr 0), (1, .inl x1)] [] M (j_X10_batch_201 x1 M) := by
  unfold j_X10_batch_201
  refine c_aload_n (i := 0) dX10_batch_201 rfl rfl ?_
  refine gf_RX10_26 (blk_get0 KSm_b0) dX10_batch_202 ?_
  refine c_iload_n (i := 1) dX10_batch_205 rfl rfl ?_
  refine c_iconst dX10_batch_206 (v := 2) rfl ?_
  refine c_iadd dX10_batch_207 ?_
  refine c_aload_n (i := 0) dX10_batch_208 rfl rfl ?_
  refine gf_RX10_26 (blk_get0 KSm_b0) dX10_batch_209 ?_
  refine c_bipush dX10_batch_212 (v := 13) rfl ?_
  refine c_iald (blk_get0 (blk_sub (C := [(20, 290)]) (i := 6) KSm_b0 rfl)) (by decide) dX10_batch_214 ?_
  refine c_aload_n (i := 0) dX10_batch_215 rfl rfl ?_
  refine gf_RX10_26 (blk_get0 KSm_b0) dX10_batch_216 ?_
  refine c_iload_n (i := 1) dX10_batch_219 rfl rfl ?_
  refine c_iconst dX10_batch_220 (v := 1) rfl ?_
  refine c_iadd dX10_batch_221 ?_
  refine c_chk (fun h17 => ?_)
  refine c_iald (blk_get0 (blk_sub (C := [(20, 290)]) (i := 6) KSm_b0 rfl)) h17 dX10_batch_222 ?_
  refine c_isub dX10_batch_223 ?_
  refine c_chk (fun h18 => ?_)
  refine c_iast (blk_get0 (blk_sub (C := [(20, 290)]) (i := 6) KSm_b0 rfl)) h18 dX10_batch_224 ?_
  refine c_wrt (fun M19 => ?_)
  refine c_aload_n (i := 0) dX10_batch_225 rfl rfl ?_
  refine c_aload_n (i := 0) dX10_batch_226 rfl rfl ?_
  refine c_ldcS (text := "end") (j := 1051) (List.mem_of_getElem? (i := 51) rfl) dX10_batch_227 ?_
  refine c_callV (as := [.inr 1051]) (rs := [.inr 0]) (ev_X10_takesWord 5 (Nat.le_refl _) 1051 (by decide) M19) rfl (Nat.lt_of_lt_of_le (by decide) hlev) mw_X10_takesWord wi_X10_takesWord wv_X10_takesWord (blk_get0 KSm_b0) (by decide) rfl wl_RX10_130 mn_X10_takesWord rfl (by decide) (Nat.le_of_ble_eq_true rfl) ⟨_, rfl⟩ dX10_batch_229 (fun v20 M21 _ => ?_)
  refine c_callVv (as := [.inl v20]) (rs := []) (ev_X10_must 2 (Nat.le_refl _) v20 M21) rfl (Nat.lt_of_lt_of_le (by decide) hlev) mw_X10_must wi_X10_must wv_X10_must (blk_get0 KSm_b0) (by decide) rfl wl_RX10_133 mn_X10_must rfl (by decide) (Nat.le_of_ble_eq_true rfl) rfl dX10_batch_232 (fun v22 M23 _ => ?_)
  refine c_aload_n (i := 0) dX10_batch_235 rfl rfl ?_
  refine c_aload_n (i := 0) dX10_batch_236 rfl rfl ?_
  refine c_bipush dX10_batch_237 (v := 59) rfl ?_
  refine c_callV (as := [.inl 59]) (rs := [.inr 0]) (ev_X10_takesSign 2 (Nat.le_refl _) 59 M23) rfl (Nat.lt_of_lt_of_le (by decide) hlev) mw_X10_takesSign wi_X10_takesSign wv_X10_takesSign (blk_get0 KSm_b0) (by decide) rfl wl_RX10_145 mn_X10_takesSign rfl (by decide) (Nat.le_of_ble_eq_true rfl) ⟨_, rfl⟩ dX10_batch_239 (fun v24 M25 _ => ?_)
  refine c_callVv (as := [.inl v24]) (rs := []) (ev_X10_must 2 (Nat.le_refl _) v24 M25) rfl (Nat.lt_of_lt_of_le (by decide) hlev) mw_X10_must wi_X10_must wv_X10_must (blk_get0 KSm_b0) (by decide) rfl wl_RX10_133 mn_X10_must rfl (by decide) (Nat.le_of_ble_eq_true rfl) rfl dX10_batch_242 (fun v26 M27 _ => ?_)
  refine c_aload_n (i := 0) dX10_batch_245 rfl rfl ?_
  refine gf_RX10_26 (blk_get0 KSm_b0) dX10_batch_246 ?_
  refine c_bipush dX10_batch_249 (v := 12) rfl ?_
  refine c_dup2 dX10_batch_251 ?_
  refine c_iald (blk_get0 (blk_sub (C := [(20, 290)]) (i := 6) KSm_b0 rfl)) (by decide) dX10_batch_252 ?_
  refine c_iconst dX10_batch_253 (v := 1) rfl ?_
  refine c_iadd dX10_batch_254 ?_
  refine c_iast (blk_get0 (blk_sub (C := [(20, 290)]) (i := 6) KSm_b0 rfl)) (by decide) dX10_batch_255 ?_
  refine c_wrt (fun M28 => ?_)
  exact c_vret rfl dX10_batch_256
def l_X10_batch_173 (x1 : Int32) (K173 : Int32 × Mem → Option (Int32 × Mem)) : Int32 × Mem → Option (Int32 × Mem) := fun s => match s with
  | (x4, M) => if x4 = (-1) then j_X10_batch_201 x1 M else if ¬ (p_X10_isWrong M) = 0 then j_X10_batch_201 x1 M else bnd (f_X10_command x4 M) (fun _ M31 => bnd (f_X10_kind M31) (fun v32 M33 => K173 (v32, M33)))
set_option maxRecDepth 20000 in
set_option maxHeartbeats 2000000 in
theorem lo_X10_batch_173 (d : Nat) (hlev : 7 ≤ d) (x1 : Int32) (s : Int32 × Mem) : CorM KSm ST1 RX10 cX10_batch 5 none d 173 [(0, .inr 0), (1, .inl x1), (4, .inl s.1)] [] s.2 (loopC (l_X10_batch_173 x1) fuelL s) := by
  refine c_loop (L := fun s : Int32 × Mem => [(0, .inr 0), (1, .inl x1), (4, .inl s.1)]) (Mf := fun s : Int32 × Mem => s.2) (fun K173 hK173 s => ?_) fuelL s
  obtain ⟨x4, M⟩ := s
  show CorM KSm ST1 RX10 cX10_batch 5 none d 173 [(0, .inr 0), (1, .inl x1), (4, .inl x4)] [] M (l_X10_batch_173 x1 K173 (x4, M))
  unfold l_X10_batch_173
  refine c_iload dX10_batch_173 rfl ?_
  refine c_iconst dX10_batch_175 (v := (-1)) rfl ?_
  refine c_icmp_eq (tgt := 201) dX10_batch_176 rfl (fun h16 => ?_) (fun h16 => ?_)
  · refine c_keep [0, 1] (ls2 := [(0, .inr 0), (1, .inl x1)]) rfl ?_
    exact jo_X10_batch_201 d hlev x1 M
  · refine c_aload_n (i := 0) dX10_batch_179 rfl rfl ?_
    refine c_callVp (as := []) (rs := []) (ev_X10_isWrong 0 (Nat.le_refl _) M) rfl (Nat.lt_of_lt_of_le (by decide) hlev) mw_X10_isWrong wi_X10_isWrong wv_X10_isWrong (blk_get0 KSm_b0) (by decide) rfl wl_RX10_103 mn_X10_isWrong rfl (by decide) (Nat.le_of_ble_eq_true rfl) ⟨_, rfl⟩ dX10_batch_180 ?_
    refine c_if_ne (tgt := 201) dX10_batch_183 rfl (fun h29 => ?_) (fun h29 => ?_)
    · refine c_keep [0, 1] (ls2 := [(0, .inr 0), (1, .inl x1)]) rfl ?_
      exact jo_X10_batch_201 d hlev x1 M
    · refine c_aload_n (i := 0) dX10_batch_186 rfl rfl ?_
      refine c_iload dX10_batch_187 rfl ?_
      refine c_callVv (as := [.inl x4]) (rs := []) (ev_X10_command 6 (Nat.le_refl _) x4 M) rfl (Nat.lt_of_lt_of_le (by decide) hlev) mw_X10_command wi_X10_command wv_X10_command (blk_get0 KSm_b0) (by decide) rfl wl_RX10_212 mn_X10_command rfl (by decide) (Nat.le_of_ble_eq_true rfl) rfl dX10_batch_189 (fun v30 M31 _ => ?_)
      refine c_aload_n (i := 0) dX10_batch_192 rfl rfl ?_
      refine c_callV (as := []) (rs := []) (ev_X10_kind 6 (Nat.le_refl _) M31) rfl (Nat.lt_of_lt_of_le (by decide) hlev) mw_X10_kind wi_X10_kind wv_X10_kind (blk_get0 KSm_b0) (by decide) rfl wl_RX10_209 mn_X10_kind rfl (by decide) (Nat.le_of_ble_eq_true rfl) ⟨_, rfl⟩ dX10_batch_193 (fun v32 M33 _ => ?_)
      refine c_istore dX10_batch_196 (by decide) (ls2 := [(0, .inr 0), (1, .inl x1), (4, .inl v32)]) rfl ?_
      refine c_goto (tgt := 173) dX10_batch_198 rfl ?_
      refine c_keep [0, 1, 4] (ls2 := [(0, .inr 0), (1, .inl x1), (4, .inl v32)]) rfl ?_
      exact hK173 (v32, M33)
def j_X10_batch_135 (x1 : Int32) (x2 : Int32) (M : Mem) : Option (Int32 × Mem) := bnd (f_X10_takesSign 58 M) (fun v6 M7 => bnd (f_X10_must v6 M7) (fun _ M9 => if inb x1 290 then wrt (up M9 6 (ix x1) x2) (fun M11 => if inb (x1 + 1) 290 then wrt (up M11 6 (ix (x1 + 1)) (M11 6 13)) (fun M13 => bnd (f_X10_kind M13) (fun v14 M15 => loopC (l_X10_batch_173 x1) fuelL (v14, M15))) else none) else none))
set_option maxRecDepth 20000 in
set_option maxHeartbeats 2000000 in
theorem jo_X10_batch_135 (d : Nat) (hlev : 7 ≤ d) (x1 : Int32) (x2 : Int32) (M : Mem) : CorM KSm ST1 RX10 cX10_batch 5 none d 135 [(0, .inr 0), (1, .inl x1), (2, .inl x2)] [] M (j_X10_batch_135 x1 x2 M) := by
  unfold j_X10_batch_135
  refine c_aload_n (i := 0) dX10_batch_135 rfl rfl ?_
  refine c_aload_n (i := 0) dX10_batch_136 rfl rfl ?_
  refine c_bipush dX10_batch_137 (v := 58) rfl ?_
  refine c_callV (as := [.inl 58]) (rs := [.inr 0]) (ev_X10_takesSign 2 (Nat.le_refl _) 58 M) rfl (Nat.lt_of_lt_of_le (by decide) hlev) mw_X10_takesSign wi_X10_takesSign wv_X10_takesSign (blk_get0 KSm_b0) (by decide) rfl wl_RX10_145 mn_X10_takesSign rfl (by decide) (Nat.le_of_ble_eq_true rfl) ⟨_, rfl⟩ dX10_batch_139 (fun v6 M7 _ => ?_)
  refine c_callVv (as := [.inl v6]) (rs := []) (ev_X10_must 2 (Nat.le_refl _) v6 M7) rfl (Nat.lt_of_lt_of_le (by decide) hlev) mw_X10_must wi_X10_must wv_X10_must (blk_get0 KSm_b0) (by decide) rfl wl_RX10_133 mn_X10_must rfl (by decide) (Nat.le_of_ble_eq_true rfl) rfl dX10_batch_142 (fun v8 M9 _ => ?_)
  refine c_aload_n (i := 0) dX10_batch_145 rfl rfl ?_
  refine gf_RX10_26 (blk_get0 KSm_b0) dX10_batch_146 ?_
  refine c_iload_n (i := 1) dX10_batch_149 rfl rfl ?_
  refine c_iload_n (i := 2) dX10_batch_150 rfl rfl ?_
  refine c_chk (fun h10 => ?_)
  refine c_iast (blk_get0 (blk_sub (C := [(20, 290)]) (i := 6) KSm_b0 rfl)) h10 dX10_batch_151 ?_
  refine c_wrt (fun M11 => ?_)
  refine c_aload_n (i := 0) dX10_batch_152 rfl rfl ?_
  refine gf_RX10_26 (blk_get0 KSm_b0) dX10_batch_153 ?_
  refine c_iload_n (i := 1) dX10_batch_156 rfl rfl ?_
  refine c_iconst dX10_batch_157 (v := 1) rfl ?_
  refine c_iadd dX10_batch_158 ?_
  refine c_aload_n (i := 0) dX10_batch_159 rfl rfl ?_
  refine gf_RX10_26 (blk_get0 KSm_b0) dX10_batch_160 ?_
  refine c_bipush dX10_batch_163 (v := 13) rfl ?_
  refine c_iald (blk_get0 (blk_sub (C := [(20, 290)]) (i := 6) KSm_b0 rfl)) (by decide) dX10_batch_165 ?_
  refine c_chk (fun h12 => ?_)
  refine c_iast (blk_get0 (blk_sub (C := [(20, 290)]) (i := 6) KSm_b0 rfl)) h12 dX10_batch_166 ?_
  refine c_wrt (fun M13 => ?_)
  refine c_aload_n (i := 0) dX10_batch_167 rfl rfl ?_
  refine c_callV (as := []) (rs := []) (ev_X10_kind 6 (Nat.le_refl _) M13) rfl (Nat.lt_of_lt_of_le (by decide) hlev) mw_X10_kind wi_X10_kind wv_X10_kind (blk_get0 KSm_b0) (by decide) rfl wl_RX10_209 mn_X10_kind rfl (by decide) (Nat.le_of_ble_eq_true rfl) ⟨_, rfl⟩ dX10_batch_168 (fun v14 M15 _ => ?_)
  refine c_istore dX10_batch_171 (by decide) (ls2 := [(0, .inr 0), (1, .inl x1), (2, .inl x2), (4, .inl v14)]) rfl ?_
  refine c_keep [0, 1, 4] (ls2 := [(0, .inr 0), (1, .inl x1), (4, .inl v14)]) rfl ?_
  exact lo_X10_batch_173 d hlev x1 (v14, M15)
def j_X10_batch_100 (x1 : Int32) (x2 : Int32) (K46 : Int32 × Int32 × Mem → Option (Int32 × Mem)) (M : Mem) : Option (Int32 × Mem) := bnd (f_X10_figure 0 ((M 6 0) - 1) M) (fun v36 M37 => K46 (x2 ||| (1 <<< (v36 &&& 31)), (if ¬ (M37 0 12) = 2 then (0 : Int32) else (1 : Int32)), M37))
set_option maxRecDepth 20000 in
set_option maxHeartbeats 2000000 in
theorem jo_X10_batch_100 (d : Nat) (hlev : 7 ≤ d) (x1 : Int32) (x2 : Int32) (K46 : Int32 × Int32 × Mem → Option (Int32 × Mem)) (hK46 : ∀ s : Int32 × Int32 × Mem, CorM KSm ST1 RX10 cX10_batch 5 none d 46 [(0, .inr 0), (1, .inl x1), (2, .inl s.1), (3, .inl s.2.1)] [] s.2.2 (K46 s)) (M : Mem) : CorM KSm ST1 RX10 cX10_batch 5 none d 100 [(0, .inr 0), (1, .inl x1), (2, .inl x2)] [] M (j_X10_batch_100 x1 x2 K46 M) := by
  unfold j_X10_batch_100
  refine c_iload_n (i := 2) dX10_batch_100 rfl rfl ?_
  refine c_iconst dX10_batch_101 (v := 1) rfl ?_
  refine c_aload_n (i := 0) dX10_batch_102 rfl rfl ?_
  refine c_iconst dX10_batch_103 (v := 0) rfl ?_
  refine c_aload_n (i := 0) dX10_batch_104 rfl rfl ?_
  refine gf_RX10_26 (blk_get0 KSm_b0) dX10_batch_105 ?_
  refine c_iconst dX10_batch_108 (v := 0) rfl ?_
  refine c_iald (blk_get0 (blk_sub (C := [(20, 290)]) (i := 6) KSm_b0 rfl)) (by decide) dX10_batch_109 ?_
  refine c_iconst dX10_batch_110 (v := 1) rfl ?_
  refine c_isub dX10_batch_111 ?_
  refine c_callV (as := [.inl 0, .inl ((M 6 0) - 1)]) (rs := [.inl 1, .inl x2]) (ev_X10_figure 2 (Nat.le_refl _) 0 ((M 6 0) - 1) M) rfl (Nat.lt_of_lt_of_le (by decide) hlev) mw_X10_figure wi_X10_figure wv_X10_figure (blk_get0 KSm_b0) (by decide) rfl wl_RX10_137 mn_X10_figure rfl (by decide) (Nat.le_of_ble_eq_true rfl) ⟨_, rfl⟩ dX10_batch_112 (fun v36 M37 _ => ?_)
  refine c_ishl dX10_batch_115 ?_
  refine c_ior dX10_batch_116 ?_
  refine c_istore_n (i := 2) dX10_batch_117 rfl (by decide) (ls2 := [(0, .inr 0), (1, .inl x1), (2, .inl (x2 ||| (1 <<< (v36 &&& 31))))]) rfl ?_
  refine c_aload_n (i := 0) dX10_batch_118 rfl rfl ?_
  refine gf_RX10_87 (blk_get0 KSm_b0) dX10_batch_119 ?_
  refine c_iconst dX10_batch_122 (v := 2) rfl ?_
  have J_z38 : ∀ z38 : Int32, isB z38 → CorM KSm ST1 RX10 cX10_batch 5 none d 131 [(0, .inr 0), (1, .inl x1), (2, .inl (x2 ||| (1 <<< (v36 &&& 31))))] [.inl z38] M37 (K46 (x2 ||| (1 <<< (v36 &&& 31)), z38, M37)) := by
    intro z38 h_z38
    refine c_istore_n (i := 3) dX10_batch_131 rfl (by decide) (ls2 := [(0, .inr 0), (1, .inl x1), (2, .inl (x2 ||| (1 <<< (v36 &&& 31)))), (3, .inl z38)]) rfl ?_
    refine c_goto (tgt := 46) dX10_batch_132 rfl ?_
    refine c_keep [0, 1, 2, 3] (ls2 := [(0, .inr 0), (1, .inl x1), (2, .inl (x2 ||| (1 <<< (v36 &&& 31)))), (3, .inl z38)]) rfl ?_
    exact hK46 (x2 ||| (1 <<< (v36 &&& 31)), z38, M37)
  refine c_val (b := ¬ (M37 0 12) = 2) (v1 := (0 : Int32)) (v2 := (1 : Int32)) (F := fun z38 => K46 (x2 ||| (1 <<< (v36 &&& 31)), z38, M37)) (fun h39 => ?_) (fun h39 => ?_)
  · refine c_T h39 (c_icmp_ne (tgt := 130) dX10_batch_123 rfl (fun _ => ?_) (fun q => absurd h39 q))
    refine c_iconst dX10_batch_130 (v := 0) rfl ?_
    refine c_keep [0, 1, 2] (ls2 := [(0, .inr 0), (1, .inl x1), (2, .inl (x2 ||| (1 <<< (v36 &&& 31))))]) rfl ?_
    exact J_z38 0 (Or.inl rfl)
  · refine c_Fl h39 (c_icmp_ne (tgt := 130) dX10_batch_123 rfl (fun q => absurd q h39) (fun _ => ?_))
    refine c_iconst dX10_batch_126 (v := 1) rfl ?_
    refine c_goto (tgt := 131) dX10_batch_127 rfl ?_
    refine c_keep [0, 1, 2] (ls2 := [(0, .inr 0), (1, .inl x1), (2, .inl (x2 ||| (1 <<< (v36 &&& 31))))]) rfl ?_
    exact J_z38 1 (Or.inr rfl)
def l_X10_batch_46 (x1 : Int32) (K46 : Int32 × Int32 × Mem → Option (Int32 × Mem)) : Int32 × Int32 × Mem → Option (Int32 × Mem) := fun s => match s with
  | (x2, x3, M) => if x3 = 0 then j_X10_batch_135 x1 x2 M else if ¬ (p_X10_isWrong M) = 0 then j_X10_batch_135 x1 x2 M else if ¬ (M 0 12) = 2 then j_X10_batch_100 x1 x2 K46 M else if (p_X10_isIn (M 0 13) 0 ((M 6 0) - 1)) = 0 then j_X10_batch_100 x1 x2 K46 M else if (p_X10_has x2 (M 0 13)) = 0 then j_X10_batch_100 x1 x2 K46 M else bnd (f_X10_fails 3 M) (fun _ M43 => j_X10_batch_100 x1 x2 K46 M43)
set_option maxRecDepth 20000 in
set_option maxHeartbeats 2000000 in
theorem lo_X10_batch_46 (d : Nat) (hlev : 7 ≤ d) (x1 : Int32) (s : Int32 × Int32 × Mem) : CorM KSm ST1 RX10 cX10_batch 5 none d 46 [(0, .inr 0), (1, .inl x1), (2, .inl s.1), (3, .inl s.2.1)] [] s.2.2 (loopC (l_X10_batch_46 x1) fuelL s) := by
  refine c_loop (L := fun s : Int32 × Int32 × Mem => [(0, .inr 0), (1, .inl x1), (2, .inl s.1), (3, .inl s.2.1)]) (Mf := fun s : Int32 × Int32 × Mem => s.2.2) (fun K46 hK46 s => ?_) fuelL s
  obtain ⟨x2, x3, M⟩ := s
  show CorM KSm ST1 RX10 cX10_batch 5 none d 46 [(0, .inr 0), (1, .inl x1), (2, .inl x2), (3, .inl x3)] [] M (l_X10_batch_46 x1 K46 (x2, x3, M))
  unfold l_X10_batch_46
  refine c_iload_n (i := 3) dX10_batch_46 rfl rfl ?_
  refine c_if_eq (tgt := 135) dX10_batch_47 rfl (fun h5 => ?_) (fun h5 => ?_)
  · refine c_keep [0, 1, 2] (ls2 := [(0, .inr 0), (1, .inl x1), (2, .inl x2)]) rfl ?_
    exact jo_X10_batch_135 d hlev x1 x2 M
  · refine c_aload_n (i := 0) dX10_batch_50 rfl rfl ?_
    refine c_callVp (as := []) (rs := []) (ev_X10_isWrong 0 (Nat.le_refl _) M) rfl (Nat.lt_of_lt_of_le (by decide) hlev) mw_X10_isWrong wi_X10_isWrong wv_X10_isWrong (blk_get0 KSm_b0) (by decide) rfl wl_RX10_103 mn_X10_isWrong rfl (by decide) (Nat.le_of_ble_eq_true rfl) ⟨_, rfl⟩ dX10_batch_51 ?_
    refine c_if_ne (tgt := 135) dX10_batch_54 rfl (fun h34 => ?_) (fun h34 => ?_)
    · refine c_keep [0, 1, 2] (ls2 := [(0, .inr 0), (1, .inl x1), (2, .inl x2)]) rfl ?_
      exact jo_X10_batch_135 d hlev x1 x2 M
    · refine c_aload_n (i := 0) dX10_batch_57 rfl rfl ?_
      refine gf_RX10_87 (blk_get0 KSm_b0) dX10_batch_58 ?_
      refine c_iconst dX10_batch_61 (v := 2) rfl ?_
      refine c_icmp_ne (tgt := 100) dX10_batch_62 rfl (fun h35 => ?_) (fun h35 => ?_)
      · refine c_keep [0, 1, 2] (ls2 := [(0, .inr 0), (1, .inl x1), (2, .inl x2)]) rfl ?_
        exact jo_X10_batch_100 d hlev x1 x2 K46 hK46 M
      · refine c_aload_n (i := 0) dX10_batch_65 rfl rfl ?_
        refine gf_RX10_97 (blk_get0 KSm_b0) dX10_batch_66 ?_
        refine c_iconst dX10_batch_69 (v := 0) rfl ?_
        refine c_aload_n (i := 0) dX10_batch_70 rfl rfl ?_
        refine gf_RX10_26 (blk_get0 KSm_b0) dX10_batch_71 ?_
        refine c_iconst dX10_batch_74 (v := 0) rfl ?_
        refine c_iald (blk_get0 (blk_sub (C := [(20, 290)]) (i := 6) KSm_b0 rfl)) (by decide) dX10_batch_75 ?_
        refine c_iconst dX10_batch_76 (v := 1) rfl ?_
        refine c_isub dX10_batch_77 ?_
        refine c_callSp (as := [.inl (M 0 13), .inl 0, .inl ((M 6 0) - 1)]) (rs := []) (ev_X10_isIn 0 (Nat.le_refl _) (M 0 13) 0 ((M 6 0) - 1) M) rfl (Nat.lt_of_lt_of_le (by decide) hlev) mw_X10_isIn ws_X10_isIn wl_RX10_70 mn_X10_isIn rfl (by decide) (Nat.le_of_ble_eq_true rfl) ⟨_, rfl⟩ dX10_batch_78 ?_
        refine c_if_eq (tgt := 100) dX10_batch_81 rfl (fun h40 => ?_) (fun h40 => ?_)
        · refine c_keep [0, 1, 2] (ls2 := [(0, .inr 0), (1, .inl x1), (2, .inl x2)]) rfl ?_
          exact jo_X10_batch_100 d hlev x1 x2 K46 hK46 M
        · refine c_iload_n (i := 2) dX10_batch_84 rfl rfl ?_
          refine c_aload_n (i := 0) dX10_batch_85 rfl rfl ?_
          refine gf_RX10_97 (blk_get0 KSm_b0) dX10_batch_86 ?_
          refine c_callSp (as := [.inl x2, .inl (M 0 13)]) (rs := []) (ev_X10_has 0 (Nat.le_refl _) x2 (M 0 13) M) rfl (Nat.lt_of_lt_of_le (by decide) hlev) mw_X10_has ws_X10_has wl_RX10_169 mn_X10_has rfl (by decide) (Nat.le_of_ble_eq_true rfl) ⟨_, rfl⟩ dX10_batch_89 ?_
          refine c_if_eq (tgt := 100) dX10_batch_92 rfl (fun h41 => ?_) (fun h41 => ?_)
          · refine c_keep [0, 1, 2] (ls2 := [(0, .inr 0), (1, .inl x1), (2, .inl x2)]) rfl ?_
            exact jo_X10_batch_100 d hlev x1 x2 K46 hK46 M
          · refine c_aload_n (i := 0) dX10_batch_95 rfl rfl ?_
            refine c_iconst dX10_batch_96 (v := 3) rfl ?_
            refine c_callVv (as := [.inl 3]) (rs := []) (ev_X10_fails 1 (Nat.le_refl _) 3 M) rfl (Nat.lt_of_lt_of_le (by decide) hlev) mw_X10_fails wi_X10_fails wv_X10_fails (blk_get0 KSm_b0) (by decide) rfl wl_RX10_124 mn_X10_fails rfl (by decide) (Nat.le_of_ble_eq_true rfl) rfl dX10_batch_97 (fun v42 M43 _ => ?_)
            refine c_keep [0, 1, 2] (ls2 := [(0, .inr 0), (1, .inl x1), (2, .inl x2)]) rfl ?_
            exact jo_X10_batch_100 d hlev x1 x2 K46 hK46 M43
def j_X10_batch_17 (M : Mem) : Option (Int32 × Mem) := if (p_X10_isWrong M) = 0 then bnd (f_X10_token M) (fun _ M4 => loopC (l_X10_batch_46 (14 + (3 * (M4 6 12)))) fuelL (0, 1, M4)) else some (0, M)
set_option maxRecDepth 20000 in
set_option maxHeartbeats 2000000 in
theorem jo_X10_batch_17 (d : Nat) (hlev : 7 ≤ d) (M : Mem) : CorM KSm ST1 RX10 cX10_batch 5 none d 17 [(0, .inr 0)] [] M (j_X10_batch_17 M) := by
  unfold j_X10_batch_17
  refine c_aload_n (i := 0) dX10_batch_17 rfl rfl ?_
  refine c_callVp (as := []) (rs := []) (ev_X10_isWrong 0 (Nat.le_refl _) M) rfl (Nat.lt_of_lt_of_le (by decide) hlev) mw_X10_isWrong wi_X10_isWrong wv_X10_isWrong (blk_get0 KSm_b0) (by decide) rfl wl_RX10_103 mn_X10_isWrong rfl (by decide) (Nat.le_of_ble_eq_true rfl) ⟨_, rfl⟩ dX10_batch_18 ?_
  refine c_if_eq (tgt := 25) dX10_batch_21 rfl (fun h2 => ?_) (fun h2 => ?_)
  · refine c_aload_n (i := 0) dX10_batch_25 rfl rfl ?_
    refine c_callVv (as := []) (rs := []) (ev_X10_token 1 (Nat.le_refl _) M) rfl (Nat.lt_of_lt_of_le (by decide) hlev) mw_X10_token wi_X10_token wv_X10_token (blk_get0 KSm_b0) (by decide) rfl wl_RX10_121 mn_X10_token rfl (by decide) (Nat.le_of_ble_eq_true rfl) rfl dX10_batch_26 (fun v3 M4 _ => ?_)
    refine c_bipush dX10_batch_29 (v := 14) rfl ?_
    refine c_iconst dX10_batch_31 (v := 3) rfl ?_
    refine c_aload_n (i := 0) dX10_batch_32 rfl rfl ?_
    refine gf_RX10_26 (blk_get0 KSm_b0) dX10_batch_33 ?_
    refine c_bipush dX10_batch_36 (v := 12) rfl ?_
    refine c_iald (blk_get0 (blk_sub (C := [(20, 290)]) (i := 6) KSm_b0 rfl)) (by decide) dX10_batch_38 ?_
    refine c_imul dX10_batch_39 ?_
    refine c_iadd dX10_batch_40 ?_
    refine c_istore_n (i := 1) dX10_batch_41 rfl (by decide) (ls2 := [(0, .inr 0), (1, .inl (14 + (3 * (M4 6 12))))]) rfl ?_
    refine c_iconst dX10_batch_42 (v := 0) rfl ?_
    refine c_istore_n (i := 2) dX10_batch_43 rfl (by decide) (ls2 := [(0, .inr 0), (1, .inl (14 + (3 * (M4 6 12)))), (2, .inl 0)]) rfl ?_
    refine c_iconst dX10_batch_44 (v := 1) rfl ?_
    refine c_istore_n (i := 3) dX10_batch_45 rfl (by decide) (ls2 := [(0, .inr 0), (1, .inl (14 + (3 * (M4 6 12)))), (2, .inl 0), (3, .inl 1)]) rfl ?_
    refine c_keep [0, 1, 2, 3] (ls2 := [(0, .inr 0), (1, .inl (14 + (3 * (M4 6 12)))), (2, .inl 0), (3, .inl 1)]) rfl ?_
    exact lo_X10_batch_46 d hlev (14 + (3 * (M4 6 12))) (0, 1, M4)
  · exact c_vret rfl dX10_batch_24
def f_X10_batch (M : Mem) : Option (Int32 × Mem) := if ¬ (M 6 12) = 12 then j_X10_batch_17 M else bnd (f_X10_fails 4 M) (fun _ M45 => j_X10_batch_17 M45)
set_option maxRecDepth 20000 in
set_option maxHeartbeats 2000000 in
theorem ev_X10_batch (d : Nat) (hlev : 7 ≤ d) (M : Mem) : Ev KSm ST1 mdX10_batch d [.inr 0] M (f_X10_batch M) := by
  refine ev_of rfl (Nat.le_of_ble_eq_true rfl) ?_
  show CorM KSm ST1 RX10 cX10_batch 5 none d 0 [(0, .inr 0)] [] M (f_X10_batch M)
  unfold f_X10_batch
  refine c_aload_n (i := 0) dX10_batch_0 rfl rfl ?_
  refine gf_RX10_26 (blk_get0 KSm_b0) dX10_batch_1 ?_
  refine c_bipush dX10_batch_4 (v := 12) rfl ?_
  refine c_iald (blk_get0 (blk_sub (C := [(20, 290)]) (i := 6) KSm_b0 rfl)) (by decide) dX10_batch_6 ?_
  refine c_bipush dX10_batch_7 (v := 12) rfl ?_
  refine c_icmp_ne (tgt := 17) dX10_batch_9 rfl (fun h1 => ?_) (fun h1 => ?_)
  · refine c_keep [0] (ls2 := [(0, .inr 0)]) rfl ?_
    exact jo_X10_batch_17 d hlev M
  · refine c_aload_n (i := 0) dX10_batch_12 rfl rfl ?_
    refine c_iconst dX10_batch_13 (v := 4) rfl ?_
    refine c_callVv (as := [.inl 4]) (rs := []) (ev_X10_fails 1 (Nat.le_refl _) 4 M) rfl (Nat.lt_of_lt_of_le (by decide) hlev) mw_X10_fails wi_X10_fails wv_X10_fails (blk_get0 KSm_b0) (by decide) rfl wl_RX10_124 mn_X10_fails rfl (by decide) (Nat.le_of_ble_eq_true rfl) rfl dX10_batch_14 (fun v44 M45 _ => ?_)
    refine c_keep [0] (ls2 := [(0, .inr 0)]) rfl ?_
    exact jo_X10_batch_17 d hlev M45

abbrev mdX10_load : MD := (yX10_load, cX10_load, 1, (some .int))
theorem mw_X10_load : mdW mdX10_load := ⟨wm_X10_load, w0_RX10, by decide, by decide⟩
theorem mn_X10_load : (parseMethodDescriptor yX10_load.desc).map (fun d => d.parameters.length) = some 0 := by decide +kernel
def j_X10_load_84 (M : Mem) : Option (Int32 × Mem) := bnd (f_X10_may (if ¬ (p_X10_isWrong M) = 0 then (0 : Int32) else (1 : Int32)) 1 M) (fun v20 M21 => if ¬ v20 = 0 then bnd (f_X10_takes M21) (fun _ M24 => some (M24 5 12, M24)) else some (0, M21))
set_option maxRecDepth 20000 in
set_option maxHeartbeats 2000000 in
theorem jo_X10_load_84 (d : Nat) (hlev : 8 ≤ d) (M : Mem) : CorM KSm ST1 RX10 cX10_load 1 (some .int) d 84 [(0, .inr 0)] [] M (j_X10_load_84 M) := by
  unfold j_X10_load_84
  refine c_aload_n (i := 0) dX10_load_84 rfl rfl ?_
  refine c_aload_n (i := 0) dX10_load_85 rfl rfl ?_
  refine c_callVp (as := []) (rs := [.inr 0]) (ev_X10_isWrong 0 (Nat.le_refl _) M) rfl (Nat.lt_of_lt_of_le (by decide) hlev) mw_X10_isWrong wi_X10_isWrong wv_X10_isWrong (blk_get0 KSm_b0) (by decide) rfl wl_RX10_103 mn_X10_isWrong rfl (by decide) (Nat.le_of_ble_eq_true rfl) ⟨_, rfl⟩ dX10_load_86 ?_
  have J_z19 : ∀ z19 : Int32, isB z19 → CorM KSm ST1 RX10 cX10_load 1 (some .int) d 97 [(0, .inr 0)] [.inl z19, .inr 0] M (bnd (f_X10_may z19 1 M) (fun v20 M21 => if ¬ v20 = 0 then bnd (f_X10_takes M21) (fun _ M24 => some (M24 5 12, M24)) else some (0, M21))) := by
    intro z19 h_z19
    refine c_iconst dX10_load_97 (v := 1) rfl ?_
    refine c_callV (as := [.inl z19, .inl 1]) (rs := []) (ev_X10_may 0 (Nat.le_refl _) z19 1 M) rfl (Nat.lt_of_lt_of_le (by decide) hlev) mw_X10_may wi_X10_may wv_X10_may (blk_get0 KSm_b0) (by decide) rfl wl_RX10_66 mn_X10_may rfl (by decide) (Nat.le_of_ble_eq_true rfl) ⟨_, rfl⟩ dX10_load_98 (fun v20 M21 _ => ?_)
    refine c_if_ne (tgt := 106) dX10_load_101 rfl (fun h22 => ?_) (fun h22 => ?_)
    · refine c_aload_n (i := 0) dX10_load_106 rfl rfl ?_
      refine c_callVv (as := []) (rs := []) (ev_X10_takes 0 (Nat.le_refl _) M21) rfl (Nat.lt_of_lt_of_le (by decide) hlev) mw_X10_takes wi_X10_takes wv_X10_takes (blk_get0 KSm_b0) (by decide) rfl wl_RX10_57 mn_X10_takes rfl (by decide) (Nat.le_of_ble_eq_true rfl) rfl dX10_load_107 (fun v23 M24 _ => ?_)
      refine c_aload_n (i := 0) dX10_load_110 rfl rfl ?_
      refine gf_RX10_23 (blk_get0 KSm_b0) dX10_load_111 ?_
      refine c_bipush dX10_load_114 (v := 12) rfl ?_
      refine c_iald (blk_get0 (blk_sub (C := [(20, 290)]) (i := 5) KSm_b0 rfl)) (by decide) dX10_load_116 ?_
      exact c_iret rfl dX10_load_117
    · refine c_iconst dX10_load_104 (v := 0) rfl ?_
      exact c_iret rfl dX10_load_105
  refine c_val (b := ¬ (p_X10_isWrong M) = 0) (v1 := (0 : Int32)) (v2 := (1 : Int32)) (F := fun z19 => bnd (f_X10_may z19 1 M) (fun v20 M21 => if ¬ v20 = 0 then bnd (f_X10_takes M21) (fun _ M24 => some (M24 5 12, M24)) else some (0, M21))) (fun h25 => ?_) (fun h25 => ?_)
  · refine c_T h25 (c_if_ne (tgt := 96) dX10_load_89 rfl (fun _ => ?_) (fun q => absurd h25 q))
    refine c_iconst dX10_load_96 (v := 0) rfl ?_
    refine c_keep [0] (ls2 := [(0, .inr 0)]) rfl ?_
    exact J_z19 0 (Or.inl rfl)
  · refine c_Fl h25 (c_if_ne (tgt := 96) dX10_load_89 rfl (fun q => absurd q h25) (fun _ => ?_))
    refine c_iconst dX10_load_92 (v := 1) rfl ?_
    refine c_goto (tgt := 97) dX10_load_93 rfl ?_
    refine c_keep [0] (ls2 := [(0, .inr 0)]) rfl ?_
    exact J_z19 1 (Or.inr rfl)
def l_X10_load_49 (K49 : Mem → Option (Int32 × Mem)) : Mem → Option (Int32 × Mem) := fun s => match s with
  | M => bnd (f_X10_isWord 1036 M) (fun v15 M16 => if v15 = 0 then if ¬ (p_X10_isWrong M16) = 0 then j_X10_load_84 M16 else if (M16 0 12) = 0 then j_X10_load_84 M16 else bnd (f_X10_fails 1 M16) (fun _ M28 => j_X10_load_84 M28) else bnd (f_X10_batch M16) (fun _ M30 => K49 M30))
set_option maxRecDepth 20000 in
set_option maxHeartbeats 2000000 in
theorem lo_X10_load_49 (d : Nat) (hlev : 8 ≤ d) (s : Mem) : CorM KSm ST1 RX10 cX10_load 1 (some .int) d 49 [(0, .inr 0)] [] s (loopC (l_X10_load_49) fuelL s) := by
  refine c_loop (L := fun s : Mem => [(0, .inr 0)]) (Mf := fun s : Mem => s) (fun K49 hK49 M => ?_) fuelL s
  show CorM KSm ST1 RX10 cX10_load 1 (some .int) d 49 [(0, .inr 0)] [] M (l_X10_load_49 K49 M)
  unfold l_X10_load_49
  refine c_aload_n (i := 0) dX10_load_49 rfl rfl ?_
  refine c_ldcS (text := "batch") (j := 1036) (List.mem_of_getElem? (i := 36) rfl) dX10_load_50 ?_
  refine c_callV (as := [.inr 1036]) (rs := []) (ev_X10_isWord 4 (Nat.le_refl _) 1036 (by decide) M) rfl (Nat.lt_of_lt_of_le (by decide) hlev) mw_X10_isWord wi_X10_isWord wv_X10_isWord (blk_get0 KSm_b0) (by decide) rfl wl_RX10_117 mn_X10_isWord rfl (by decide) (Nat.le_of_ble_eq_true rfl) ⟨_, rfl⟩ dX10_load_52 (fun v15 M16 _ => ?_)
  refine c_if_eq (tgt := 65) dX10_load_55 rfl (fun h17 => ?_) (fun h17 => ?_)
  · refine c_aload_n (i := 0) dX10_load_65 rfl rfl ?_
    refine c_callVp (as := []) (rs := []) (ev_X10_isWrong 0 (Nat.le_refl _) M16) rfl (Nat.lt_of_lt_of_le (by decide) hlev) mw_X10_isWrong wi_X10_isWrong wv_X10_isWrong (blk_get0 KSm_b0) (by decide) rfl wl_RX10_103 mn_X10_isWrong rfl (by decide) (Nat.le_of_ble_eq_true rfl) ⟨_, rfl⟩ dX10_load_66 ?_
    refine c_if_ne (tgt := 84) dX10_load_69 rfl (fun h18 => ?_) (fun h18 => ?_)
    · refine c_keep [0] (ls2 := [(0, .inr 0)]) rfl ?_
      exact jo_X10_load_84 d hlev M16
    · refine c_aload_n (i := 0) dX10_load_72 rfl rfl ?_
      refine gf_RX10_87 (blk_get0 KSm_b0) dX10_load_73 ?_
      refine c_if_eq (tgt := 84) dX10_load_76 rfl (fun h26 => ?_) (fun h26 => ?_)
      · refine c_keep [0] (ls2 := [(0, .inr 0)]) rfl ?_
        exact jo_X10_load_84 d hlev M16
      · refine c_aload_n (i := 0) dX10_load_79 rfl rfl ?_
        refine c_iconst dX10_load_80 (v := 1) rfl ?_
        refine c_callVv (as := [.inl 1]) (rs := []) (ev_X10_fails 1 (Nat.le_refl _) 1 M16) rfl (Nat.lt_of_lt_of_le (by decide) hlev) mw_X10_fails wi_X10_fails wv_X10_fails (blk_get0 KSm_b0) (by decide) rfl wl_RX10_124 mn_X10_fails rfl (by decide) (Nat.le_of_ble_eq_true rfl) rfl dX10_load_81 (fun v27 M28 _ => ?_)
        refine c_keep [0] (ls2 := [(0, .inr 0)]) rfl ?_
        exact jo_X10_load_84 d hlev M28
  · refine c_aload_n (i := 0) dX10_load_58 rfl rfl ?_
    refine c_callVv (as := []) (rs := []) (ev_X10_batch 7 (Nat.le_refl _) M16) rfl (Nat.lt_of_lt_of_le (by decide) hlev) mw_X10_batch wi_X10_batch wv_X10_batch (blk_get0 KSm_b0) (by decide) rfl wl_RX10_225 mn_X10_batch rfl (by decide) (Nat.le_of_ble_eq_true rfl) rfl dX10_load_59 (fun v29 M30 _ => ?_)
    refine c_goto (tgt := 49) dX10_load_62 rfl ?_
    refine c_keep [0] (ls2 := [(0, .inr 0)]) rfl ?_
    exact hK49 M30
def f_X10_load (M : Mem) : Option (Int32 × Mem) := wrt (up M 0 0 0) (fun M1 => wrt (up M1 0 9 (M1 0 8)) (fun M2 => wrt (up M2 0 8 0) (fun M3 => wrt (up M3 0 10 0) (fun M4 => wrt (up M4 0 14 0) (fun M5 => wrt (up M5 0 15 (-1)) (fun M6 => bnd (f_X10_plain M6) (fun _ M8 => bnd (f_X10_token M8) (fun _ M10 => bnd (f_X10_header M10) (fun _ M12 => bnd (f_X10_settings M12) (fun _ M14 => loopC (l_X10_load_49) fuelL M14))))))))))
set_option maxRecDepth 20000 in
set_option maxHeartbeats 2000000 in
theorem ev_X10_load (d : Nat) (hlev : 8 ≤ d) (M : Mem) : Ev KSm ST1 mdX10_load d [.inr 0] M (f_X10_load M) := by
  refine ev_of rfl (Nat.le_of_ble_eq_true rfl) ?_
  show CorM KSm ST1 RX10 cX10_load 1 (some .int) d 0 [(0, .inr 0)] [] M (f_X10_load M)
  unfold f_X10_load
  refine c_aload_n (i := 0) dX10_load_0 rfl rfl ?_
  refine c_iconst dX10_load_1 (v := 0) rfl ?_
  refine pf_RX10_60 (blk_get0 KSm_b0) dX10_load_2 ?_
  refine c_wrt (fun M1 => ?_)
  refine c_aload_n (i := 0) dX10_load_5 rfl rfl ?_
  refine c_aload_n (i := 0) dX10_load_6 rfl rfl ?_
  refine gf_RX10_63 (blk_get0 KSm_b0) dX10_load_7 ?_
  refine pf_RX10_74 (blk_get0 KSm_b0) dX10_load_10 ?_
  refine c_wrt (fun M2 => ?_)
  refine c_aload_n (i := 0) dX10_load_13 rfl rfl ?_
  refine c_iconst dX10_load_14 (v := 0) rfl ?_
  refine pf_RX10_63 (blk_get0 KSm_b0) dX10_load_15 ?_
  refine c_wrt (fun M3 => ?_)
  refine c_aload_n (i := 0) dX10_load_18 rfl rfl ?_
  refine c_iconst dX10_load_19 (v := 0) rfl ?_
  refine pf_RX10_77 (blk_get0 KSm_b0) dX10_load_20 ?_
  refine c_wrt (fun M4 => ?_)
  refine c_aload_n (i := 0) dX10_load_23 rfl rfl ?_
  refine c_iconst dX10_load_24 (v := 0) rfl ?_
  refine pf_RX10_100 (blk_get0 KSm_b0) dX10_load_25 ?_
  refine c_wrt (fun M5 => ?_)
  refine c_aload_n (i := 0) dX10_load_28 rfl rfl ?_
  refine c_iconst dX10_load_29 (v := (-1)) rfl ?_
  refine pf_RX10_32 (blk_get0 KSm_b0) dX10_load_30 ?_
  refine c_wrt (fun M6 => ?_)
  refine c_aload_n (i := 0) dX10_load_33 rfl rfl ?_
  refine c_callVv (as := []) (rs := []) (ev_X10_plain 0 (Nat.le_refl _) M6) rfl (Nat.lt_of_lt_of_le (by decide) hlev) mw_X10_plain wi_X10_plain wv_X10_plain (blk_get0 KSm_b0) (by decide) rfl wl_RX10_54 mn_X10_plain rfl (by decide) (Nat.le_of_ble_eq_true rfl) rfl dX10_load_34 (fun v7 M8 _ => ?_)
  refine c_aload_n (i := 0) dX10_load_37 rfl rfl ?_
  refine c_callVv (as := []) (rs := []) (ev_X10_token 1 (Nat.le_refl _) M8) rfl (Nat.lt_of_lt_of_le (by decide) hlev) mw_X10_token wi_X10_token wv_X10_token (blk_get0 KSm_b0) (by decide) rfl wl_RX10_121 mn_X10_token rfl (by decide) (Nat.le_of_ble_eq_true rfl) rfl dX10_load_38 (fun v9 M10 _ => ?_)
  refine c_aload_n (i := 0) dX10_load_41 rfl rfl ?_
  refine c_callVv (as := []) (rs := []) (ev_X10_header 6 (Nat.le_refl _) M10) rfl (Nat.lt_of_lt_of_le (by decide) hlev) mw_X10_header wi_X10_header wv_X10_header (blk_get0 KSm_b0) (by decide) rfl wl_RX10_217 mn_X10_header rfl (by decide) (Nat.le_of_ble_eq_true rfl) rfl dX10_load_42 (fun v11 M12 _ => ?_)
  refine c_aload_n (i := 0) dX10_load_45 rfl rfl ?_
  refine c_callVv (as := []) (rs := []) (ev_X10_settings 6 (Nat.le_refl _) M12) rfl (Nat.lt_of_lt_of_le (by decide) hlev) mw_X10_settings wi_X10_settings wv_X10_settings (blk_get0 KSm_b0) (by decide) rfl wl_RX10_220 mn_X10_settings rfl (by decide) (Nat.le_of_ble_eq_true rfl) rfl dX10_load_46 (fun v13 M14 _ => ?_)
  refine c_keep [0] (ls2 := [(0, .inr 0)]) rfl ?_
  exact lo_X10_load_49 d hlev M14

abbrev mdX10_errorCode : MD := (yX10_errorCode, cX10_errorCode, 1, (some .int))
theorem mw_X10_errorCode : mdW mdX10_errorCode := ⟨wm_X10_errorCode, w0_RX10, by decide, by decide⟩
theorem mn_X10_errorCode : (parseMethodDescriptor yX10_errorCode.desc).map (fun d => d.parameters.length) = some 0 := by decide +kernel
def f_X10_errorCode (M : Mem) : Option (Int32 × Mem) := wrt (up M 0 0 0) (fun M1 => some (M1 0 14, M1))
set_option maxRecDepth 20000 in
set_option maxHeartbeats 2000000 in
theorem ev_X10_errorCode (d : Nat) (hlev : 0 ≤ d) (M : Mem) : Ev KSm ST1 mdX10_errorCode d [.inr 0] M (f_X10_errorCode M) := by
  refine ev_of rfl (Nat.le_of_ble_eq_true rfl) ?_
  show CorM KSm ST1 RX10 cX10_errorCode 1 (some .int) d 0 [(0, .inr 0)] [] M (f_X10_errorCode M)
  unfold f_X10_errorCode
  refine c_aload_n (i := 0) dX10_errorCode_0 rfl rfl ?_
  refine c_iconst dX10_errorCode_1 (v := 0) rfl ?_
  refine pf_RX10_60 (blk_get0 KSm_b0) dX10_errorCode_2 ?_
  refine c_wrt (fun M1 => ?_)
  refine c_aload_n (i := 0) dX10_errorCode_5 rfl rfl ?_
  refine gf_RX10_100 (blk_get0 KSm_b0) dX10_errorCode_6 ?_
  exact c_iret rfl dX10_errorCode_9

abbrev mdX10_errorPosition : MD := (yX10_errorPosition, cX10_errorPosition, 1, (some .int))
theorem mw_X10_errorPosition : mdW mdX10_errorPosition := ⟨wm_X10_errorPosition, w0_RX10, by decide, by decide⟩
theorem mn_X10_errorPosition : (parseMethodDescriptor yX10_errorPosition.desc).map (fun d => d.parameters.length) = some 0 := by decide +kernel
def f_X10_errorPosition (M : Mem) : Option (Int32 × Mem) := wrt (up M 0 0 0) (fun M1 => some (M1 0 15, M1))
set_option maxRecDepth 20000 in
set_option maxHeartbeats 2000000 in
theorem ev_X10_errorPosition (d : Nat) (hlev : 0 ≤ d) (M : Mem) : Ev KSm ST1 mdX10_errorPosition d [.inr 0] M (f_X10_errorPosition M) := by
  refine ev_of rfl (Nat.le_of_ble_eq_true rfl) ?_
  show CorM KSm ST1 RX10 cX10_errorPosition 1 (some .int) d 0 [(0, .inr 0)] [] M (f_X10_errorPosition M)
  unfold f_X10_errorPosition
  refine c_aload_n (i := 0) dX10_errorPosition_0 rfl rfl ?_
  refine c_iconst dX10_errorPosition_1 (v := 0) rfl ?_
  refine pf_RX10_60 (blk_get0 KSm_b0) dX10_errorPosition_2 ?_
  refine c_wrt (fun M1 => ?_)
  refine c_aload_n (i := 0) dX10_errorPosition_5 rfl rfl ?_
  refine gf_RX10_32 (blk_get0 KSm_b0) dX10_errorPosition_6 ?_
  exact c_iret rfl dX10_errorPosition_9

abbrev mdX10_isBatch : MD := (yX10_isBatch, cX10_isBatch, 2, (some .boolean))
theorem mw_X10_isBatch : mdW mdX10_isBatch := ⟨wm_X10_isBatch, w0_RX10, by decide, by decide⟩
theorem mn_X10_isBatch : (parseMethodDescriptor yX10_isBatch.desc).map (fun d => d.parameters.length) = some 1 := by decide +kernel
def p_X10_isBatch (x1 : Int32) (M : Mem) : Int32 := p_X10_isIn x1 0 ((M 5 12) - 1)
theorem pz_X10_isBatch (x1 : Int32) (M : Mem) : isB (p_X10_isBatch x1 M) := by
  unfold p_X10_isBatch
  repeat' (first | apply isB_ite | exact Or.inl rfl | exact Or.inr rfl | apply_assumption)
set_option maxRecDepth 20000 in
set_option maxHeartbeats 2000000 in
theorem ev_X10_isBatch (d : Nat) (hlev : 1 ≤ d) (x1 : Int32) (M : Mem) : Ev KSm ST1 mdX10_isBatch d [.inr 0, .inl x1] M (some (p_X10_isBatch x1 M, M)) := by
  refine ev_of rfl (Nat.le_of_ble_eq_true rfl) ?_
  show CorM KSm ST1 RX10 cX10_isBatch 2 (some .boolean) d 0 [(0, .inr 0), (1, .inl x1)] [] M (some (p_X10_isBatch x1 M, M))
  unfold p_X10_isBatch
  refine c_iload_n (i := 1) dX10_isBatch_0 rfl rfl ?_
  refine c_iconst dX10_isBatch_1 (v := 0) rfl ?_
  refine c_aload_n (i := 0) dX10_isBatch_2 rfl rfl ?_
  refine gf_RX10_23 (blk_get0 KSm_b0) dX10_isBatch_3 ?_
  refine c_bipush dX10_isBatch_6 (v := 12) rfl ?_
  refine c_iald (blk_get0 (blk_sub (C := [(20, 290)]) (i := 5) KSm_b0 rfl)) (by decide) dX10_isBatch_8 ?_
  refine c_iconst dX10_isBatch_9 (v := 1) rfl ?_
  refine c_isub dX10_isBatch_10 ?_
  refine c_callSp (as := [.inl x1, .inl 0, .inl ((M 5 12) - 1)]) (rs := []) (ev_X10_isIn 0 (Nat.le_refl _) x1 0 ((M 5 12) - 1) M) rfl (Nat.lt_of_lt_of_le (by decide) hlev) mw_X10_isIn ws_X10_isIn wl_RX10_70 mn_X10_isIn rfl (by decide) (Nat.le_of_ble_eq_true rfl) ⟨_, rfl⟩ dX10_isBatch_11 ?_
  exact c_zret rfl (pz_X10_isIn x1 0 ((M 5 12) - 1)) dX10_isBatch_14

abbrev mdX10_isBank : MD := (yX10_isBank, cX10_isBank, 2, (some .boolean))
theorem mw_X10_isBank : mdW mdX10_isBank := ⟨wm_X10_isBank, w0_RX10, by decide, by decide⟩
theorem mn_X10_isBank : (parseMethodDescriptor yX10_isBank.desc).map (fun d => d.parameters.length) = some 1 := by decide +kernel
def p_X10_isBank (x1 : Int32) (M : Mem) : Int32 := p_X10_isIn x1 0 ((M 5 0) - 1)
theorem pz_X10_isBank (x1 : Int32) (M : Mem) : isB (p_X10_isBank x1 M) := by
  unfold p_X10_isBank
  repeat' (first | apply isB_ite | exact Or.inl rfl | exact Or.inr rfl | apply_assumption)
set_option maxRecDepth 20000 in
set_option maxHeartbeats 2000000 in
theorem ev_X10_isBank (d : Nat) (hlev : 1 ≤ d) (x1 : Int32) (M : Mem) : Ev KSm ST1 mdX10_isBank d [.inr 0, .inl x1] M (some (p_X10_isBank x1 M, M)) := by
  refine ev_of rfl (Nat.le_of_ble_eq_true rfl) ?_
  show CorM KSm ST1 RX10 cX10_isBank 2 (some .boolean) d 0 [(0, .inr 0), (1, .inl x1)] [] M (some (p_X10_isBank x1 M, M))
  unfold p_X10_isBank
  refine c_iload_n (i := 1) dX10_isBank_0 rfl rfl ?_
  refine c_iconst dX10_isBank_1 (v := 0) rfl ?_
  refine c_aload_n (i := 0) dX10_isBank_2 rfl rfl ?_
  refine gf_RX10_23 (blk_get0 KSm_b0) dX10_isBank_3 ?_
  refine c_iconst dX10_isBank_6 (v := 0) rfl ?_
  refine c_iald (blk_get0 (blk_sub (C := [(20, 290)]) (i := 5) KSm_b0 rfl)) (by decide) dX10_isBank_7 ?_
  refine c_iconst dX10_isBank_8 (v := 1) rfl ?_
  refine c_isub dX10_isBank_9 ?_
  refine c_callSp (as := [.inl x1, .inl 0, .inl ((M 5 0) - 1)]) (rs := []) (ev_X10_isIn 0 (Nat.le_refl _) x1 0 ((M 5 0) - 1) M) rfl (Nat.lt_of_lt_of_le (by decide) hlev) mw_X10_isIn ws_X10_isIn wl_RX10_70 mn_X10_isIn rfl (by decide) (Nat.le_of_ble_eq_true rfl) ⟨_, rfl⟩ dX10_isBank_10 ?_
  exact c_zret rfl (pz_X10_isIn x1 0 ((M 5 0) - 1)) dX10_isBank_13

abbrev mdX10_isRow : MD := (yX10_isRow, cX10_isRow, 3, (some .boolean))
theorem mw_X10_isRow : mdW mdX10_isRow := ⟨wm_X10_isRow, w0_RX10, by decide, by decide⟩
theorem mn_X10_isRow : (parseMethodDescriptor yX10_isRow.desc).map (fun d => d.parameters.length) = some 2 := by decide +kernel
def p_X10_isRow (x1 : Int32) (x2 : Int32) (M : Mem) : Int32 := (if (p_X10_isBank x1 M) = 0 then (0 : Int32) else if (p_X10_isIn x2 0 ((M 5 1) - 1)) = 0 then (0 : Int32) else (1 : Int32))
theorem pz_X10_isRow (x1 : Int32) (x2 : Int32) (M : Mem) : isB (p_X10_isRow x1 x2 M) := by
  unfold p_X10_isRow
  repeat' (first | apply isB_ite | exact Or.inl rfl | exact Or.inr rfl | apply_assumption)
set_option maxRecDepth 20000 in
set_option maxHeartbeats 2000000 in
theorem ev_X10_isRow (d : Nat) (hlev : 2 ≤ d) (x1 : Int32) (x2 : Int32) (M : Mem) : Ev KSm ST1 mdX10_isRow d [.inr 0, .inl x1, .inl x2] M (some (p_X10_isRow x1 x2 M, M)) := by
  refine ev_of rfl (Nat.le_of_ble_eq_true rfl) ?_
  show CorM KSm ST1 RX10 cX10_isRow 3 (some .boolean) d 0 [(0, .inr 0), (1, .inl x1), (2, .inl x2)] [] M (some (p_X10_isRow x1 x2 M, M))
  unfold p_X10_isRow
  refine c_aload_n (i := 0) dX10_isRow_0 rfl rfl ?_
  refine c_iload_n (i := 1) dX10_isRow_1 rfl rfl ?_
  refine c_callVp (as := [.inl x1]) (rs := []) (ev_X10_isBank 1 (Nat.le_refl _) x1 M) rfl (Nat.lt_of_lt_of_le (by decide) hlev) mw_X10_isBank wi_X10_isBank wv_X10_isBank (blk_get0 KSm_b0) (by decide) rfl wl_RX10_227 mn_X10_isBank rfl (by decide) (Nat.le_of_ble_eq_true rfl) ⟨_, rfl⟩ dX10_isRow_2 ?_
  have J_z1 : ∀ z1 : Int32, isB z1 → CorM KSm ST1 RX10 cX10_isRow 3 (some .boolean) d 29 [] [.inl z1] M (some (z1, M)) := by
    intro z1 h_z1
    exact c_zret rfl h_z1 dX10_isRow_29
  refine c_val (b := (p_X10_isBank x1 M) = 0) (v1 := (0 : Int32)) (v2 := if (p_X10_isIn x2 0 ((M 5 1) - 1)) = 0 then (0 : Int32) else (1 : Int32)) (F := fun z1 => some (z1, M)) (fun h2 => ?_) (fun h2 => ?_)
  · refine c_T h2 (c_if_eq (tgt := 28) dX10_isRow_5 rfl (fun _ => ?_) (fun q => absurd h2 q))
    refine c_iconst dX10_isRow_28 (v := 0) rfl ?_
    refine c_keep [] (ls2 := []) rfl ?_
    exact J_z1 0 (Or.inl rfl)
  · refine c_Fl h2 (c_if_eq (tgt := 28) dX10_isRow_5 rfl (fun q => absurd q h2) (fun _ => ?_))
    refine c_iload_n (i := 2) dX10_isRow_8 rfl rfl ?_
    refine c_iconst dX10_isRow_9 (v := 0) rfl ?_
    refine c_aload_n (i := 0) dX10_isRow_10 rfl rfl ?_
    refine gf_RX10_23 (blk_get0 KSm_b0) dX10_isRow_11 ?_
    refine c_iconst dX10_isRow_14 (v := 1) rfl ?_
    refine c_iald (blk_get0 (blk_sub (C := [(20, 290)]) (i := 5) KSm_b0 rfl)) (by decide) dX10_isRow_15 ?_
    refine c_iconst dX10_isRow_16 (v := 1) rfl ?_
    refine c_isub dX10_isRow_17 ?_
    refine c_callSp (as := [.inl x2, .inl 0, .inl ((M 5 1) - 1)]) (rs := []) (ev_X10_isIn 0 (Nat.le_refl _) x2 0 ((M 5 1) - 1) M) rfl (Nat.lt_of_lt_of_le (by decide) hlev) mw_X10_isIn ws_X10_isIn wl_RX10_70 mn_X10_isIn rfl (by decide) (Nat.le_of_ble_eq_true rfl) ⟨_, rfl⟩ dX10_isRow_18 ?_
    refine c_val (b := (p_X10_isIn x2 0 ((M 5 1) - 1)) = 0) (v1 := (0 : Int32)) (v2 := (1 : Int32)) (F := fun z1 => some (z1, M)) (fun h3 => ?_) (fun h3 => ?_)
    · refine c_T h3 (c_if_eq (tgt := 28) dX10_isRow_21 rfl (fun _ => ?_) (fun q => absurd h3 q))
      refine c_iconst dX10_isRow_28 (v := 0) rfl ?_
      refine c_keep [] (ls2 := []) rfl ?_
      exact J_z1 0 (Or.inl rfl)
    · refine c_Fl h3 (c_if_eq (tgt := 28) dX10_isRow_21 rfl (fun q => absurd q h3) (fun _ => ?_))
      refine c_iconst dX10_isRow_24 (v := 1) rfl ?_
      refine c_goto (tgt := 29) dX10_isRow_25 rfl ?_
      refine c_keep [] (ls2 := []) rfl ?_
      exact J_z1 1 (Or.inr rfl)
