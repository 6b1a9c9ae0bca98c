abbrev mdX10_comes : MD := (yX10_comes, cX10_comes, 5, none)
theorem mw_X10_comes : mdW mdX10_comes := ⟨wm_X10_comes, w0_RX10, by decide, by decide⟩
theorem mn_X10_comes : (parseMethodDescriptor yX10_comes.desc).map (fun d => d.parameters.length) = some 2 := by decide +kernel
def l_X10_comes_45 (x1 : Int32) (x2 : Int32) (x3 : Int32) (K45 : Int32 × Mem → Option (Int32 × Mem)) : Int32 × Mem → Option (Int32 × Mem) := fun s => match s with
  | (x4, M) => if (M 5 2) ≤ x4 then wrt (up M 1 1578 ((M 1 1578) + 1)) (fun M8 => some (0, M8)) else if inb (p_X10_word x1 x2 x4) 1671 then if inb (p_X10_cell x3 (3 + x4)) 1671 then wrt (up M 1 (ix (p_X10_cell x3 (3 + x4))) (M 1 (ix (p_X10_word x1 x2 x4)))) (fun M11 => K45 (x4 + 1, M11)) else none else none
set_option maxRecDepth 20000 in
set_option maxHeartbeats 2000000 in
theorem lo_X10_comes_45 (d : Nat) (hlev : 1 ≤ d) (x1 : Int32) (x2 : Int32) (x3 : Int32) (s : Int32 × Mem) : CorM KSm ST1 RX10 cX10_comes 5 none d 45 [(0, .inr 0), (1, .inl x1), (2, .inl x2), (3, .inl x3), (4, .inl s.1)] [] s.2 (loopC (l_X10_comes_45 x1 x2 x3) fuelL s) := by
  refine c_loop (L := fun s : Int32 × Mem => [(0, .inr 0), (1, .inl x1), (2, .inl x2), (3, .inl x3), (4, .inl s.1)]) (Mf := fun s : Int32 × Mem => s.2) (fun K45 hK45 s => ?_) fuelL s
  obtain ⟨x4, M⟩ := s
  show CorM KSm ST1 RX10 cX10_comes 5 none d 45 [(0, .inr 0), (1, .inl x1), (2, .inl x2), (3, .inl x3), (4, .inl x4)] [] M (l_X10_comes_45 x1 x2 x3 K45 (x4, M))
  unfold l_X10_comes_45
  refine c_iload dX10_comes_45 rfl ?_
  refine c_aload_n (i := 0) dX10_comes_47 rfl rfl ?_
  refine gf_RX10_23 (blk_get0 KSm_b0) dX10_comes_48 ?_
  refine c_iconst dX10_comes_51 (v := 2) rfl ?_
  refine c_iald (blk_get0 (blk_sub (C := [(20, 290)]) (i := 5) KSm_b0 rfl)) (by decide) dX10_comes_52 ?_
  refine c_icmp_ge (tgt := 87) dX10_comes_53 rfl (fun h7 => ?_) (fun h7 => ?_)
  · refine c_aload_n (i := 0) dX10_comes_87 rfl rfl ?_
    refine gf_RX10_9 (blk_get0 KSm_b0) dX10_comes_88 ?_
    refine c_sipush dX10_comes_91 (v := 1578) rfl ?_
    refine c_dup2 dX10_comes_94 ?_
    refine c_iald (blk_get0 (blk_sub (C := [(20, 1671)]) (i := 1) KSm_b0 rfl)) (by decide) dX10_comes_95 ?_
    refine c_iconst dX10_comes_96 (v := 1) rfl ?_
    refine c_iadd dX10_comes_97 ?_
    refine c_iast (blk_get0 (blk_sub (C := [(20, 1671)]) (i := 1) KSm_b0 rfl)) (by decide) dX10_comes_98 ?_
    refine c_wrt (fun M8 => ?_)
    exact c_vret rfl dX10_comes_99
  · refine c_aload_n (i := 0) dX10_comes_56 rfl rfl ?_
    refine gf_RX10_9 (blk_get0 KSm_b0) dX10_comes_57 ?_
    refine c_iload_n (i := 3) dX10_comes_60 rfl rfl ?_
    refine c_iconst dX10_comes_61 (v := 3) rfl ?_
    refine c_iload dX10_comes_62 rfl ?_
    refine c_iadd dX10_comes_64 ?_
    refine c_callSp (as := [.inl x3, .inl (3 + x4)]) (rs := [.inr 1]) (ev_X10_cell 0 (Nat.le_refl _) x3 (3 + x4) M) rfl (Nat.lt_of_lt_of_le (by decide) hlev) mw_X10_cell ws_X10_cell wl_RX10_310 mn_X10_cell rfl (by decide) (Nat.le_of_ble_eq_true rfl) ⟨_, rfl⟩ dX10_comes_65 ?_
    refine c_aload_n (i := 0) dX10_comes_68 rfl rfl ?_
    refine gf_RX10_9 (blk_get0 KSm_b0) dX10_comes_69 ?_
    refine c_iload_n (i := 1) dX10_comes_72 rfl rfl ?_
    refine c_iload_n (i := 2) dX10_comes_73 rfl rfl ?_
    refine c_iload dX10_comes_74 rfl ?_
    refine c_callSp (as := [.inl x1, .inl x2, .inl x4]) (rs := [.inr 1, .inl (p_X10_cell x3 (3 + x4)), .inr 1]) (ev_X10_word 0 (Nat.le_refl _) x1 x2 x4 M) rfl (Nat.lt_of_lt_of_le (by decide) hlev) mw_X10_word ws_X10_word wl_RX10_247 mn_X10_word rfl (by decide) (Nat.le_of_ble_eq_true rfl) ⟨_, rfl⟩ dX10_comes_76 ?_
    refine c_chk (fun h9 => ?_)
    refine c_iald (blk_get0 (blk_sub (C := [(20, 1671)]) (i := 1) KSm_b0 rfl)) h9 dX10_comes_79 ?_
    refine c_chk (fun h10 => ?_)
    refine c_iast (blk_get0 (blk_sub (C := [(20, 1671)]) (i := 1) KSm_b0 rfl)) h10 dX10_comes_80 ?_
    refine c_wrt (fun M11 => ?_)
    refine c_iinc dX10_comes_81 rfl (v := 1) rfl (by decide) (ls2 := [(0, .inr 0), (1, .inl x1), (2, .inl x2), (3, .inl x3), (4, .inl (x4 + 1))]) rfl ?_
    refine c_goto (tgt := 45) dX10_comes_84 rfl ?_
    refine c_keep [0, 1, 2, 3, 4] (ls2 := [(0, .inr 0), (1, .inl x1), (2, .inl x2), (3, .inl x3), (4, .inl (x4 + 1))]) rfl ?_
    exact hK45 (x4 + 1, M11)
def f_X10_comes (x1 : Int32) (x2 : Int32) (M : Mem) : Option (Int32 × Mem) := if inb (p_X10_cell (M 1 1578) 0) 1671 then wrt (up M 1 (ix (p_X10_cell (M 1 1578) 0)) x1) (fun M2 => if inb (p_X10_cell (M 1 1578) 1) 1671 then wrt (up M2 1 (ix (p_X10_cell (M 1 1578) 1)) x2) (fun M4 => if inb (p_X10_cell (M 1 1578) 2) 1671 then wrt (up M4 1 (ix (p_X10_cell (M 1 1578) 2)) 0) (fun M6 => loopC (l_X10_comes_45 x1 x2 (M 1 1578)) fuelL (0, M6)) else none) else none) else none
set_option maxRecDepth 20000 in
set_option maxHeartbeats 2000000 in
theorem ev_X10_comes (d : Nat) (hlev : 1 ≤ d) (x1 : Int32) (x2 : Int32) (M : Mem) : Ev KSm ST1 mdX10_comes d [.inr 0, .inl x1, .inl x2] M (f_X10_comes x1 x2 M) := by
  refine ev_of rfl (Nat.le_of_ble_eq_true rfl) ?_
  show CorM KSm ST1 RX10 cX10_comes 5 none d 0 [(0, .inr 0), (1, .inl x1), (2, .inl x2)] [] M (f_X10_comes x1 x2 M)
  unfold f_X10_comes
  refine c_aload_n (i := 0) dX10_comes_0 rfl rfl ?_
  refine gf_RX10_9 (blk_get0 KSm_b0) dX10_comes_1 ?_
  refine c_sipush dX10_comes_4 (v := 1578) rfl ?_
  refine c_iald (blk_get0 (blk_sub (C := [(20, 1671)]) (i := 1) KSm_b0 rfl)) (by decide) dX10_comes_7 ?_
  refine c_istore_n (i := 3) dX10_comes_8 rfl (by decide) (ls2 := [(0, .inr 0), (1, .inl x1), (2, .inl x2), (3, .inl (M 1 1578))]) rfl ?_
  refine c_aload_n (i := 0) dX10_comes_9 rfl rfl ?_
  refine gf_RX10_9 (blk_get0 KSm_b0) dX10_comes_10 ?_
  refine c_iload_n (i := 3) dX10_comes_13 rfl rfl ?_
  refine c_iconst dX10_comes_14 (v := 0) rfl ?_
  refine c_callSp (as := [.inl (M 1 1578), .inl 0]) (rs := [.inr 1]) (ev_X10_cell 0 (Nat.le_refl _) (M 1 1578) 0 M) rfl (Nat.lt_of_lt_of_le (by decide) hlev) mw_X10_cell ws_X10_cell wl_RX10_310 mn_X10_cell rfl (by decide) (Nat.le_of_ble_eq_true rfl) ⟨_, rfl⟩ dX10_comes_15 ?_
  refine c_iload_n (i := 1) dX10_comes_18 rfl rfl ?_
  refine c_chk (fun h1 => ?_)
  refine c_iast (blk_get0 (blk_sub (C := [(20, 1671)]) (i := 1) KSm_b0 rfl)) h1 dX10_comes_19 ?_
  refine c_wrt (fun M2 => ?_)
  refine c_aload_n (i := 0) dX10_comes_20 rfl rfl ?_
  refine gf_RX10_9 (blk_get0 KSm_b0) dX10_comes_21 ?_
  refine c_iload_n (i := 3) dX10_comes_24 rfl rfl ?_
  refine c_iconst dX10_comes_25 (v := 1) rfl ?_
  refine c_callSp (as := [.inl (M 1 1578), .inl 1]) (rs := [.inr 1]) (ev_X10_cell 0 (Nat.le_refl _) (M 1 1578) 1 M2) rfl (Nat.lt_of_lt_of_le (by decide) hlev) mw_X10_cell ws_X10_cell wl_RX10_310 mn_X10_cell rfl (by decide) (Nat.le_of_ble_eq_true rfl) ⟨_, rfl⟩ dX10_comes_26 ?_
  refine c_iload_n (i := 2) dX10_comes_29 rfl rfl ?_
  refine c_chk (fun h3 => ?_)
  refine c_iast (blk_get0 (blk_sub (C := [(20, 1671)]) (i := 1) KSm_b0 rfl)) h3 dX10_comes_30 ?_
  refine c_wrt (fun M4 => ?_)
  refine c_aload_n (i := 0) dX10_comes_31 rfl rfl ?_
  refine gf_RX10_9 (blk_get0 KSm_b0) dX10_comes_32 ?_
  refine c_iload_n (i := 3) dX10_comes_35 rfl rfl ?_
  refine c_iconst dX10_comes_36 (v := 2) rfl ?_
  refine c_callSp (as := [.inl (M 1 1578), .inl 2]) (rs := [.inr 1]) (ev_X10_cell 0 (Nat.le_refl _) (M 1 1578) 2 M4) rfl (Nat.lt_of_lt_of_le (by decide) hlev) mw_X10_cell ws_X10_cell wl_RX10_310 mn_X10_cell rfl (by decide) (Nat.le_of_ble_eq_true rfl) ⟨_, rfl⟩ dX10_comes_37 ?_
  refine c_iconst dX10_comes_40 (v := 0) rfl ?_
  refine c_chk (fun h5 => ?_)
  refine c_iast (blk_get0 (blk_sub (C := [(20, 1671)]) (i := 1) KSm_b0 rfl)) h5 dX10_comes_41 ?_
  refine c_wrt (fun M6 => ?_)
  refine c_iconst dX10_comes_42 (v := 0) rfl ?_
  refine c_istore dX10_comes_43 (by decide) (ls2 := [(0, .inr 0), (1, .inl x1), (2, .inl x2), (3, .inl (M 1 1578)), (4, .inl 0)]) rfl ?_
  refine c_keep [0, 1, 2, 3, 4] (ls2 := [(0, .inr 0), (1, .inl x1), (2, .inl x2), (3, .inl (M 1 1578)), (4, .inl 0)]) rfl ?_
  exact lo_X10_comes_45 d hlev x1 x2 (M 1 1578) (0, M6)

abbrev mdX10_uses : MD := (yX10_uses, cX10_uses, 6, (some .int))
theorem mw_X10_uses : mdW mdX10_uses := ⟨wm_X10_uses, w0_RX10, by decide, by decide⟩
theorem mn_X10_uses : (parseMethodDescriptor yX10_uses.desc).map (fun d => d.parameters.length) = some 2 := by decide +kernel
def l_X10_uses_172 (x4 : Int32) (K172 : Int32 × Mem → Option (Int32 × Mem)) : Int32 × Mem → Option (Int32 × Mem) := fun s => match s with
  | (x5, M) => if 11 ≤ x5 then some (x4, M) else if inb x5 11 then if inb (p_X10_cell x4 x5) 1671 then wrt (up M 1 (ix (p_X10_cell x4 x5)) (M 8 (ix x5))) (fun M13 => K172 (x5 + 1, M13)) else none else none
set_option maxRecDepth 20000 in
set_option maxHeartbeats 2000000 in
theorem lo_X10_uses_172 (d : Nat) (hlev : 2 ≤ d) (x4 : Int32) (s : Int32 × Mem) : CorM KSm ST1 RX10 cX10_uses 6 (some .int) d 172 [(0, .inr 0), (4, .inl x4), (5, .inl s.1)] [] s.2 (loopC (l_X10_uses_172 x4) fuelL s) := by
  refine c_loop (L := fun s : Int32 × Mem => [(0, .inr 0), (4, .inl x4), (5, .inl s.1)]) (Mf := fun s : Int32 × Mem => s.2) (fun K172 hK172 s => ?_) fuelL s
  obtain ⟨x5, M⟩ := s
  show CorM KSm ST1 RX10 cX10_uses 6 (some .int) d 172 [(0, .inr 0), (4, .inl x4), (5, .inl x5)] [] M (l_X10_uses_172 x4 K172 (x5, M))
  unfold l_X10_uses_172
  refine c_iload dX10_uses_172 rfl ?_
  refine c_bipush dX10_uses_174 (v := 11) rfl ?_
  refine c_icmp_ge (tgt := 204) dX10_uses_176 rfl (fun h10 => ?_) (fun h10 => ?_)
  · refine c_iload dX10_uses_204 rfl ?_
    exact c_iret rfl dX10_uses_206
  · refine c_aload_n (i := 0) dX10_uses_179 rfl rfl ?_
    refine gf_RX10_9 (blk_get0 KSm_b0) dX10_uses_180 ?_
    refine c_iload dX10_uses_183 rfl ?_
    refine c_iload dX10_uses_185 rfl ?_
    refine c_callSp (as := [.inl x4, .inl x5]) (rs := [.inr 1]) (ev_X10_cell 0 (Nat.le_refl _) x4 x5 M) rfl (Nat.lt_of_lt_of_le (by decide) hlev) mw_X10_cell ws_X10_cell wl_RX10_310 mn_X10_cell rfl (by decide) (Nat.le_of_ble_eq_true rfl) ⟨_, rfl⟩ dX10_uses_187 ?_
    refine c_aload_n (i := 0) dX10_uses_190 rfl rfl ?_
    refine gf_RX10_36 (blk_get0 KSm_b0) dX10_uses_191 ?_
    refine c_iload dX10_uses_194 rfl ?_
    refine c_chk (fun h11 => ?_)
    refine c_iald (blk_get0 (blk_sub (C := [(20, 11)]) (i := 8) KSm_b0 rfl)) h11 dX10_uses_196 ?_
    refine c_chk (fun h12 => ?_)
    refine c_iast (blk_get0 (blk_sub (C := [(20, 1671)]) (i := 1) KSm_b0 rfl)) h12 dX10_uses_197 ?_
    refine c_wrt (fun M13 => ?_)
    refine c_iinc dX10_uses_198 rfl (v := 1) rfl (by decide) (ls2 := [(0, .inr 0), (4, .inl x4), (5, .inl (x5 + 1))]) rfl ?_
    refine c_goto (tgt := 172) dX10_uses_201 rfl ?_
    refine c_keep [0, 4, 5] (ls2 := [(0, .inr 0), (4, .inl x4), (5, .inl (x5 + 1))]) rfl ?_
    exact hK172 (x5 + 1, M13)
def l_X10_uses_135 (x4 : Int32) (K135 : Int32 × Mem → Option (Int32 × Mem)) : Int32 × Mem → Option (Int32 × Mem) := fun s => match s with
  | (x5, M) => if (p_X10_cell x4 0) ≤ x5 then loopC (l_X10_uses_172 x4) fuelL (0, M) else if inb (x5 + 11) 1671 then if inb x5 1671 then wrt (up M 1 (ix x5) (M 1 (ix (x5 + 11)))) (fun M16 => K135 (x5 + 1, M16)) else none else none
set_option maxRecDepth 20000 in
set_option maxHeartbeats 2000000 in
theorem lo_X10_uses_135 (d : Nat) (hlev : 2 ≤ d) (x4 : Int32) (s : Int32 × Mem) : CorM KSm ST1 RX10 cX10_uses 6 (some .int) d 135 [(0, .inr 0), (4, .inl x4), (5, .inl s.1)] [] s.2 (loopC (l_X10_uses_135 x4) fuelL s) := by
  refine c_loop (L := fun s : Int32 × Mem => [(0, .inr 0), (4, .inl x4), (5, .inl s.1)]) (Mf := fun s : Int32 × Mem => s.2) (fun K135 hK135 s => ?_) fuelL s
  obtain ⟨x5, M⟩ := s
  show CorM KSm ST1 RX10 cX10_uses 6 (some .int) d 135 [(0, .inr 0), (4, .inl x4), (5, .inl x5)] [] M (l_X10_uses_135 x4 K135 (x5, M))
  unfold l_X10_uses_135
  refine c_iload dX10_uses_135 rfl ?_
  refine c_iload dX10_uses_137 rfl ?_
  refine c_iconst dX10_uses_139 (v := 0) rfl ?_
  refine c_callSp (as := [.inl x4, .inl 0]) (rs := [.inl x5]) (ev_X10_cell 0 (Nat.le_refl _) x4 0 M) rfl (Nat.lt_of_lt_of_le (by decide) hlev) mw_X10_cell ws_X10_cell wl_RX10_310 mn_X10_cell rfl (by decide) (Nat.le_of_ble_eq_true rfl) ⟨_, rfl⟩ dX10_uses_140 ?_
  refine c_icmp_ge (tgt := 169) dX10_uses_143 rfl (fun h9 => ?_) (fun h9 => ?_)
  · refine c_iconst dX10_uses_169 (v := 0) rfl ?_
    refine c_istore dX10_uses_170 (by decide) (ls2 := [(0, .inr 0), (4, .inl x4), (5, .inl 0)]) rfl ?_
    refine c_keep [0, 4, 5] (ls2 := [(0, .inr 0), (4, .inl x4), (5, .inl 0)]) rfl ?_
    exact lo_X10_uses_172 d hlev x4 (0, M)
  · refine c_aload_n (i := 0) dX10_uses_146 rfl rfl ?_
    refine gf_RX10_9 (blk_get0 KSm_b0) dX10_uses_147 ?_
    refine c_iload dX10_uses_150 rfl ?_
    refine c_aload_n (i := 0) dX10_uses_152 rfl rfl ?_
    refine gf_RX10_9 (blk_get0 KSm_b0) dX10_uses_153 ?_
    refine c_iload dX10_uses_156 rfl ?_
    refine c_bipush dX10_uses_158 (v := 11) rfl ?_
    refine c_iadd dX10_uses_160 ?_
    refine c_chk (fun h14 => ?_)
    refine c_iald (blk_get0 (blk_sub (C := [(20, 1671)]) (i := 1) KSm_b0 rfl)) h14 dX10_uses_161 ?_
    refine c_chk (fun h15 => ?_)
    refine c_iast (blk_get0 (blk_sub (C := [(20, 1671)]) (i := 1) KSm_b0 rfl)) h15 dX10_uses_162 ?_
    refine c_wrt (fun M16 => ?_)
    refine c_iinc dX10_uses_163 rfl (v := 1) rfl (by decide) (ls2 := [(0, .inr 0), (4, .inl x4), (5, .inl (x5 + 1))]) rfl ?_
    refine c_goto (tgt := 135) dX10_uses_166 rfl ?_
    refine c_keep [0, 4, 5] (ls2 := [(0, .inr 0), (4, .inl x4), (5, .inl (x5 + 1))]) rfl ?_
    exact hK135 (x5 + 1, M16)
def l_X10_uses_97 (x3 : Int32) (x4 : Int32) (K97 : Int32 × Mem → Option (Int32 × Mem)) : Int32 × Mem → Option (Int32 × Mem) := fun s => match s with
  | (x5, M) => if 11 ≤ x5 then loopC (l_X10_uses_135 x4) fuelL (p_X10_cell x3 0, M) else if inb (p_X10_cell x3 x5) 1671 then if inb x5 11 then wrt (up M 8 (ix x5) (M 1 (ix (p_X10_cell x3 x5)))) (fun M19 => K97 (x5 + 1, M19)) else none else none
set_option maxRecDepth 20000 in
set_option maxHeartbeats 2000000 in
theorem lo_X10_uses_97 (d : Nat) (hlev : 2 ≤ d) (x3 : Int32) (x4 : Int32) (s : Int32 × Mem) : CorM KSm ST1 RX10 cX10_uses 6 (some .int) d 97 [(0, .inr 0), (3, .inl x3), (4, .inl x4), (5, .inl s.1)] [] s.2 (loopC (l_X10_uses_97 x3 x4) fuelL s) := by
  refine c_loop (L := fun s : Int32 × Mem => [(0, .inr 0), (3, .inl x3), (4, .inl x4), (5, .inl s.1)]) (Mf := fun s : Int32 × Mem => s.2) (fun K97 hK97 s => ?_) fuelL s
  obtain ⟨x5, M⟩ := s
  show CorM KSm ST1 RX10 cX10_uses 6 (some .int) d 97 [(0, .inr 0), (3, .inl x3), (4, .inl x4), (5, .inl x5)] [] M (l_X10_uses_97 x3 x4 K97 (x5, M))
  unfold l_X10_uses_97
  refine c_iload dX10_uses_97 rfl ?_
  refine c_bipush dX10_uses_99 (v := 11) rfl ?_
  refine c_icmp_ge (tgt := 128) dX10_uses_101 rfl (fun h8 => ?_) (fun h8 => ?_)
  · refine c_iload_n (i := 3) dX10_uses_128 rfl rfl ?_
    refine c_iconst dX10_uses_129 (v := 0) rfl ?_
    refine c_callSp (as := [.inl x3, .inl 0]) (rs := []) (ev_X10_cell 0 (Nat.le_refl _) x3 0 M) rfl (Nat.lt_of_lt_of_le (by decide) hlev) mw_X10_cell ws_X10_cell wl_RX10_310 mn_X10_cell rfl (by decide) (Nat.le_of_ble_eq_true rfl) ⟨_, rfl⟩ dX10_uses_130 ?_
    refine c_istore dX10_uses_133 (by decide) (ls2 := [(0, .inr 0), (3, .inl x3), (4, .inl x4), (5, .inl (p_X10_cell x3 0))]) rfl ?_
    refine c_keep [0, 4, 5] (ls2 := [(0, .inr 0), (4, .inl x4), (5, .inl (p_X10_cell x3 0))]) rfl ?_
    exact lo_X10_uses_135 d hlev x4 (p_X10_cell x3 0, M)
  · refine c_aload_n (i := 0) dX10_uses_104 rfl rfl ?_
    refine gf_RX10_36 (blk_get0 KSm_b0) dX10_uses_105 ?_
    refine c_iload dX10_uses_108 rfl ?_
    refine c_aload_n (i := 0) dX10_uses_110 rfl rfl ?_
    refine gf_RX10_9 (blk_get0 KSm_b0) dX10_uses_111 ?_
    refine c_iload_n (i := 3) dX10_uses_114 rfl rfl ?_
    refine c_iload dX10_uses_115 rfl ?_
    refine c_callSp (as := [.inl x3, .inl x5]) (rs := [.inr 1, .inl x5, .inr 8]) (ev_X10_cell 0 (Nat.le_refl _) x3 x5 M) rfl (Nat.lt_of_lt_of_le (by decide) hlev) mw_X10_cell ws_X10_cell wl_RX10_310 mn_X10_cell rfl (by decide) (Nat.le_of_ble_eq_true rfl) ⟨_, rfl⟩ dX10_uses_117 ?_
    refine c_chk (fun h17 => ?_)
    refine c_iald (blk_get0 (blk_sub (C := [(20, 1671)]) (i := 1) KSm_b0 rfl)) h17 dX10_uses_120 ?_
    refine c_chk (fun h18 => ?_)
    refine c_iast (blk_get0 (blk_sub (C := [(20, 11)]) (i := 8) KSm_b0 rfl)) h18 dX10_uses_121 ?_
    refine c_wrt (fun M19 => ?_)
    refine c_iinc dX10_uses_122 rfl (v := 1) rfl (by decide) (ls2 := [(0, .inr 0), (3, .inl x3), (4, .inl x4), (5, .inl (x5 + 1))]) rfl ?_
    refine c_goto (tgt := 97) dX10_uses_125 rfl ?_
    refine c_keep [0, 3, 4, 5] (ls2 := [(0, .inr 0), (3, .inl x3), (4, .inl x4), (5, .inl (x5 + 1))]) rfl ?_
    exact hK97 (x5 + 1, M19)
def j_X10_uses_65 (x1 : Int32) (x2 : Int32) (M : Mem) : Option (Int32 × Mem) := bnd (f_X10_comes x1 x2 M) (fun _ M22 => some ((M22 1 1578) - 1, M22))
set_option maxRecDepth 20000 in
set_option maxHeartbeats 2000000 in
theorem jo_X10_uses_65 (d : Nat) (hlev : 2 ≤ d) (x1 : Int32) (x2 : Int32) (M : Mem) : CorM KSm ST1 RX10 cX10_uses 6 (some .int) d 65 [(0, .inr 0), (1, .inl x1), (2, .inl x2)] [] M (j_X10_uses_65 x1 x2 M) := by
  unfold j_X10_uses_65
  refine c_aload_n (i := 0) dX10_uses_65 rfl rfl ?_
  refine c_iload_n (i := 1) dX10_uses_66 rfl rfl ?_
  refine c_iload_n (i := 2) dX10_uses_67 rfl rfl ?_
  refine c_callVv (as := [.inl x1, .inl x2]) (rs := []) (ev_X10_comes 1 (Nat.le_refl _) x1 x2 M) rfl (Nat.lt_of_lt_of_le (by decide) hlev) mw_X10_comes wi_X10_comes wv_X10_comes (blk_get0 KSm_b0) (by decide) rfl wl_RX10_322 mn_X10_comes rfl (by decide) (Nat.le_of_ble_eq_true rfl) rfl dX10_uses_68 (fun v21 M22 _ => ?_)
  refine c_aload_n (i := 0) dX10_uses_71 rfl rfl ?_
  refine gf_RX10_9 (blk_get0 KSm_b0) dX10_uses_72 ?_
  refine c_sipush dX10_uses_75 (v := 1578) rfl ?_
  refine c_iald (blk_get0 (blk_sub (C := [(20, 1671)]) (i := 1) KSm_b0 rfl)) (by decide) dX10_uses_78 ?_
  refine c_iconst dX10_uses_79 (v := 1) rfl ?_
  refine c_isub dX10_uses_80 ?_
  exact c_iret rfl dX10_uses_81
def f_X10_uses (x1 : Int32) (x2 : Int32) (M : Mem) : Option (Int32 × Mem) := bnd (f_X10_lineOf x1 x2 M) (fun v1 M2 => (fun z3 : Int32 => if inb (1667 + z3) 1671 then if inb (1667 + z3) 1671 then wrt (up M2 1 (ix (1667 + z3)) ((M2 1 (ix (1667 + z3))) + 1)) (fun M6 => if ¬ v1 = (-1) then loopC (l_X10_uses_97 v1 ((M6 1 1578) - 1)) fuelL (0, M6) else if ¬ (M6 1 1578) = (M6 5 11) then j_X10_uses_65 x1 x2 M6 else bnd (f_X10_cleans 0 M6) (fun v23 M24 => bnd (f_X10_goes 0 M24) (fun _ M26 => j_X10_uses_65 x1 x2 M26))) else none else none) (if ¬ v1 = (-1) then (0 : Int32) else (1 : Int32)))
set_option maxRecDepth 20000 in
set_option maxHeartbeats 2000000 in
theorem ev_X10_uses (d : Nat) (hlev : 2 ≤ d) (x1 : Int32) (x2 : Int32) (M : Mem) : Ev KSm ST1 mdX10_uses d [.inr 0, .inl x1, .inl x2] M (f_X10_uses x1 x2 M) := by
  refine ev_of rfl (Nat.le_of_ble_eq_true rfl) ?_
  show CorM KSm ST1 RX10 cX10_uses 6 (some .int) d 0 [(0, .inr 0), (1, .inl x1), (2, .inl x2)] [] M (f_X10_uses x1 x2 M)
  unfold f_X10_uses
  refine c_aload_n (i := 0) dX10_uses_0 rfl rfl ?_
  refine c_iload_n (i := 1) dX10_uses_1 rfl rfl ?_
  refine c_iload_n (i := 2) dX10_uses_2 rfl rfl ?_
  refine c_callV (as := [.inl x1, .inl x2]) (rs := []) (ev_X10_lineOf 1 (Nat.le_refl _) x1 x2 M) rfl (Nat.lt_of_lt_of_le (by decide) hlev) mw_X10_lineOf wi_X10_lineOf wv_X10_lineOf (blk_get0 KSm_b0) (by decide) rfl wl_RX10_313 mn_X10_lineOf rfl (by decide) (Nat.le_of_ble_eq_true rfl) ⟨_, rfl⟩ dX10_uses_3 (fun v1 M2 _ => ?_)
  refine c_istore_n (i := 3) dX10_uses_6 rfl (by decide) (ls2 := [(0, .inr 0), (1, .inl x1), (2, .inl x2), (3, .inl v1)]) rfl ?_
  refine c_aload_n (i := 0) dX10_uses_7 rfl rfl ?_
  refine gf_RX10_9 (blk_get0 KSm_b0) dX10_uses_8 ?_
  refine c_sipush dX10_uses_11 (v := 1667) rfl ?_
  refine c_iload_n (i := 3) dX10_uses_14 rfl rfl ?_
  refine c_iconst dX10_uses_15 (v := (-1)) rfl ?_
  have J_z3 : ∀ z3 : Int32, isB z3 → CorM KSm ST1 RX10 cX10_uses 6 (some .int) d 24 [(0, .inr 0), (1, .inl x1), (2, .inl x2), (3, .inl v1)] [.inl z3, .inl 1667, .inr 1] M2 (if inb (1667 + z3) 1671 then if inb (1667 + z3) 1671 then wrt (up M2 1 (ix (1667 + z3)) ((M2 1 (ix (1667 + z3))) + 1)) (fun M6 => if ¬ v1 = (-1) then loopC (l_X10_uses_97 v1 ((M6 1 1578) - 1)) fuelL (0, M6) else if ¬ (M6 1 1578) = (M6 5 11) then j_X10_uses_65 x1 x2 M6 else bnd (f_X10_cleans 0 M6) (fun v23 M24 => bnd (f_X10_goes 0 M24) (fun _ M26 => j_X10_uses_65 x1 x2 M26))) else none else none) := by
    intro z3 h_z3
    refine c_iadd dX10_uses_24 ?_
    refine c_dup2 dX10_uses_25 ?_
    refine c_chk (fun h4 => ?_)
    refine c_iald (blk_get0 (blk_sub (C := [(20, 1671)]) (i := 1) KSm_b0 rfl)) h4 dX10_uses_26 ?_
    refine c_iconst dX10_uses_27 (v := 1) rfl ?_
    refine c_iadd dX10_uses_28 ?_
    refine c_chk (fun h5 => ?_)
    refine c_iast (blk_get0 (blk_sub (C := [(20, 1671)]) (i := 1) KSm_b0 rfl)) h5 dX10_uses_29 ?_
    refine c_wrt (fun M6 => ?_)
    refine c_iload_n (i := 3) dX10_uses_30 rfl rfl ?_
    refine c_iconst dX10_uses_31 (v := (-1)) rfl ?_
    refine c_icmp_ne (tgt := 82) dX10_uses_32 rfl (fun h7 => ?_) (fun h7 => ?_)
    · refine c_aload_n (i := 0) dX10_uses_82 rfl rfl ?_
      refine gf_RX10_9 (blk_get0 KSm_b0) dX10_uses_83 ?_
      refine c_sipush dX10_uses_86 (v := 1578) rfl ?_
      refine c_iald (blk_get0 (blk_sub (C := [(20, 1671)]) (i := 1) KSm_b0 rfl)) (by decide) dX10_uses_89 ?_
      refine c_iconst dX10_uses_90 (v := 1) rfl ?_
      refine c_isub dX10_uses_91 ?_
      refine c_istore dX10_uses_92 (by decide) (ls2 := [(0, .inr 0), (1, .inl x1), (2, .inl x2), (3, .inl v1), (4, .inl ((M6 1 1578) - 1))]) rfl ?_
      refine c_iconst dX10_uses_94 (v := 0) rfl ?_
      refine c_istore dX10_uses_95 (by decide) (ls2 := [(0, .inr 0), (1, .inl x1), (2, .inl x2), (3, .inl v1), (4, .inl ((M6 1 1578) - 1)), (5, .inl 0)]) rfl ?_
      refine c_keep [0, 3, 4, 5] (ls2 := [(0, .inr 0), (3, .inl v1), (4, .inl ((M6 1 1578) - 1)), (5, .inl 0)]) rfl ?_
      exact lo_X10_uses_97 d hlev v1 ((M6 1 1578) - 1) (0, M6)
    · refine c_aload_n (i := 0) dX10_uses_35 rfl rfl ?_
      refine gf_RX10_9 (blk_get0 KSm_b0) dX10_uses_36 ?_
      refine c_sipush dX10_uses_39 (v := 1578) rfl ?_
      refine c_iald (blk_get0 (blk_sub (C := [(20, 1671)]) (i := 1) KSm_b0 rfl)) (by decide) dX10_uses_42 ?_
      refine c_aload_n (i := 0) dX10_uses_43 rfl rfl ?_
      refine gf_RX10_23 (blk_get0 KSm_b0) dX10_uses_44 ?_
      refine c_bipush dX10_uses_47 (v := 11) rfl ?_
      refine c_iald (blk_get0 (blk_sub (C := [(20, 290)]) (i := 5) KSm_b0 rfl)) (by decide) dX10_uses_49 ?_
      refine c_icmp_ne (tgt := 65) dX10_uses_50 rfl (fun h20 => ?_) (fun h20 => ?_)
      · refine c_keep [0, 1, 2] (ls2 := [(0, .inr 0), (1, .inl x1), (2, .inl x2)]) rfl ?_
        exact jo_X10_uses_65 d hlev x1 x2 M6
      · refine c_aload_n (i := 0) dX10_uses_53 rfl rfl ?_
        refine c_iconst dX10_uses_54 (v := 0) rfl ?_
        refine c_callV (as := [.inl 0]) (rs := []) (ev_X10_cleans 1 (Nat.le_refl _) 0 M6) rfl (Nat.lt_of_lt_of_le (by decide) hlev) mw_X10_cleans wi_X10_cleans wv_X10_cleans (blk_get0 KSm_b0) (by decide) rfl wl_RX10_316 mn_X10_cleans rfl (by decide) (Nat.le_of_ble_eq_true rfl) ⟨_, rfl⟩ dX10_uses_55 (fun v23 M24 _ => ?_)
        refine c_istore dX10_uses_58 (by decide) (ls2 := [(0, .inr 0), (1, .inl x1), (2, .inl x2), (3, .inl v1), (4, .inl v23)]) rfl ?_
        refine c_aload_n (i := 0) dX10_uses_60 rfl rfl ?_
        refine c_iconst dX10_uses_61 (v := 0) rfl ?_
        refine c_callVv (as := [.inl 0]) (rs := []) (ev_X10_goes 1 (Nat.le_refl _) 0 M24) rfl (Nat.lt_of_lt_of_le (by decide) hlev) mw_X10_goes wi_X10_goes wv_X10_goes (blk_get0 KSm_b0) (by decide) rfl wl_RX10_319 mn_X10_goes rfl (by decide) (Nat.le_of_ble_eq_true rfl) rfl dX10_uses_62 (fun v25 M26 _ => ?_)
        refine c_keep [0, 1, 2] (ls2 := [(0, .inr 0), (1, .inl x1), (2, .inl x2)]) rfl ?_
        exact jo_X10_uses_65 d hlev x1 x2 M26
  refine c_val (b := ¬ v1 = (-1)) (v1 := (0 : Int32)) (v2 := (1 : Int32)) (F := fun z3 => if inb (1667 + z3) 1671 then if inb (1667 + z3) 1671 then wrt (up M2 1 (ix (1667 + z3)) ((M2 1 (ix (1667 + z3))) + 1)) (fun M6 => if ¬ v1 = (-1) then loopC (l_X10_uses_97 v1 ((M6 1 1578) - 1)) fuelL (0, M6) else if ¬ (M6 1 1578) = (M6 5 11) then j_X10_uses_65 x1 x2 M6 else bnd (f_X10_cleans 0 M6) (fun v23 M24 => bnd (f_X10_goes 0 M24) (fun _ M26 => j_X10_uses_65 x1 x2 M26))) else none else none) (fun h27 => ?_) (fun h27 => ?_)
  · refine c_T h27 (c_icmp_ne (tgt := 23) dX10_uses_16 rfl (fun _ => ?_) (fun q => absurd h27 q))
    refine c_iconst dX10_uses_23 (v := 0) rfl ?_
    refine c_keep [0, 1, 2, 3] (ls2 := [(0, .inr 0), (1, .inl x1), (2, .inl x2), (3, .inl v1)]) rfl ?_
    exact J_z3 0 (Or.inl rfl)
  · refine c_Fl h27 (c_icmp_ne (tgt := 23) dX10_uses_16 rfl (fun q => absurd q h27) (fun _ => ?_))
    refine c_iconst dX10_uses_19 (v := 1) rfl ?_
    refine c_goto (tgt := 24) dX10_uses_20 rfl ?_
    refine c_keep [0, 1, 2, 3] (ls2 := [(0, .inr 0), (1, .inl x1), (2, .inl x2), (3, .inl v1)]) rfl ?_
    exact J_z3 1 (Or.inr rfl)

abbrev mdX10_found : MD := (yX10_found, cX10_found, 4, (some .int))
theorem mw_X10_found : mdW mdX10_found := ⟨wm_X10_found, w0_RX10, by decide, by decide⟩
theorem mn_X10_found : (parseMethodDescriptor yX10_found.desc).map (fun d => d.parameters.length) = some 3 := by decide +kernel
def f_X10_found (x1 : Int32) (x2 : Int32) (x3 : Int32) (M : Mem) : Option (Int32 × Mem) := if (M 5 11) ≤ 0 then wrt (up M 1 1668 ((M 1 1668) + 1)) (fun M2 => some (p_X10_word x1 x2 x3, M2)) else bnd (f_X10_uses x1 x2 M) (fun v3 M4 => some (p_X10_cell v3 (3 + x3), M4))
set_option maxRecDepth 20000 in
set_option maxHeartbeats 2000000 in
theorem ev_X10_found (d : Nat) (hlev : 3 ≤ d) (x1 : Int32) (x2 : Int32) (x3 : Int32) (M : Mem) : Ev KSm ST1 mdX10_found d [.inr 0, .inl x1, .inl x2, .inl x3] M (f_X10_found x1 x2 x3 M) := by
  refine ev_of rfl (Nat.le_of_ble_eq_true rfl) ?_
  show CorM KSm ST1 RX10 cX10_found 4 (some .int) d 0 [(0, .inr 0), (1, .inl x1), (2, .inl x2), (3, .inl x3)] [] M (f_X10_found x1 x2 x3 M)
  unfold f_X10_found
  refine c_aload_n (i := 0) dX10_found_0 rfl rfl ?_
  refine gf_RX10_23 (blk_get0 KSm_b0) dX10_found_1 ?_
  refine c_bipush dX10_found_4 (v := 11) rfl ?_
  refine c_iald (blk_get0 (blk_sub (C := [(20, 290)]) (i := 5) KSm_b0 rfl)) (by decide) dX10_found_6 ?_
  refine c_if_le (tgt := 23) dX10_found_7 rfl (fun h1 => ?_) (fun h1 => ?_)
  · refine c_aload_n (i := 0) dX10_found_23 rfl rfl ?_
    refine gf_RX10_9 (blk_get0 KSm_b0) dX10_found_24 ?_
    refine c_sipush dX10_found_27 (v := 1668) rfl ?_
    refine c_dup2 dX10_found_30 ?_
    refine c_iald (blk_get0 (blk_sub (C := [(20, 1671)]) (i := 1) KSm_b0 rfl)) (by decide) dX10_found_31 ?_
    refine c_iconst dX10_found_32 (v := 1) rfl ?_
    refine c_iadd dX10_found_33 ?_
    refine c_iast (blk_get0 (blk_sub (C := [(20, 1671)]) (i := 1) KSm_b0 rfl)) (by decide) dX10_found_34 ?_
    refine c_wrt (fun M2 => ?_)
    refine c_iload_n (i := 1) dX10_found_35 rfl rfl ?_
    refine c_iload_n (i := 2) dX10_found_36 rfl rfl ?_
    refine c_iload_n (i := 3) dX10_found_37 rfl rfl ?_
    refine c_callSp (as := [.inl x1, .inl x2, .inl x3]) (rs := []) (ev_X10_word 0 (Nat.le_refl _) x1 x2 x3 M2) rfl (Nat.lt_of_lt_of_le (by decide) hlev) mw_X10_word ws_X10_word wl_RX10_247 mn_X10_word rfl (by decide) (Nat.le_of_ble_eq_true rfl) ⟨_, rfl⟩ dX10_found_38 ?_
    exact c_iret rfl dX10_found_41
  · refine c_aload_n (i := 0) dX10_found_10 rfl rfl ?_
    refine c_iload_n (i := 1) dX10_found_11 rfl rfl ?_
    refine c_iload_n (i := 2) dX10_found_12 rfl rfl ?_
    refine c_callV (as := [.inl x1, .inl x2]) (rs := []) (ev_X10_uses 2 (Nat.le_refl _) x1 x2 M) rfl (Nat.lt_of_lt_of_le (by decide) hlev) mw_X10_uses wi_X10_uses wv_X10_uses (blk_get0 KSm_b0) (by decide) rfl wl_RX10_325 mn_X10_uses rfl (by decide) (Nat.le_of_ble_eq_true rfl) ⟨_, rfl⟩ dX10_found_13 (fun v3 M4 _ => ?_)
    refine c_iconst dX10_found_16 (v := 3) rfl ?_
    refine c_iload_n (i := 3) dX10_found_17 rfl rfl ?_
    refine c_iadd dX10_found_18 ?_
    refine c_callSp (as := [.inl v3, .inl (3 + x3)]) (rs := []) (ev_X10_cell 0 (Nat.le_refl _) v3 (3 + x3) M4) rfl (Nat.lt_of_lt_of_le (by decide) hlev) mw_X10_cell ws_X10_cell wl_RX10_310 mn_X10_cell rfl (by decide) (Nat.le_of_ble_eq_true rfl) ⟨_, rfl⟩ dX10_found_19 ?_
    exact c_iret rfl dX10_found_22

abbrev mdX10_hostRead : MD := (yX10_hostRead, cX10_hostRead, 4, (some .int))
theorem mw_X10_hostRead : mdW mdX10_hostRead := ⟨wm_X10_hostRead, w0_RX10, by decide, by decide⟩
theorem mn_X10_hostRead : (parseMethodDescriptor yX10_hostRead.desc).map (fun d => d.parameters.length) = some 3 := by decide +kernel
def j_X10_hostRead_51 (w0 : Int32) (M : Mem) : Option (Int32 × Mem) := some (w0, M)
set_option maxRecDepth 20000 in
set_option maxHeartbeats 2000000 in
theorem jo_X10_hostRead_51 (d : Nat) (hlev : 4 ≤ d) (w0 : Int32) (M : Mem) : CorM KSm ST1 RX10 cX10_hostRead 4 (some .int) d 51 [] [.inl w0] M (j_X10_hostRead_51 w0 M) := by
  unfold j_X10_hostRead_51
  exact c_iret rfl dX10_hostRead_51
def f_X10_hostRead (x1 : Int32) (x2 : Int32) (x3 : Int32) (M : Mem) : Option (Int32 × Mem) := wrt (up M 0 0 0) (fun M1 => bnd (f_X10_may (if (p_X10_isRow x1 x2 M1) = 0 then (0 : Int32) else if (p_X10_isColumn x3 M1) = 0 then (0 : Int32) else (1 : Int32)) 1 M1) (fun v3 M4 => if v3 = 0 then j_X10_hostRead_51 0 M4 else bnd (f_X10_found x1 x2 x3 M4) (fun v6 M7 => if inb v6 1671 then j_X10_hostRead_51 (M7 1 (ix v6)) M7 else none)))
set_option maxRecDepth 20000 in
set_option maxHeartbeats 2000000 in
theorem ev_X10_hostRead (d : Nat) (hlev : 4 ≤ d) (x1 : Int32) (x2 : Int32) (x3 : Int32) (M : Mem) : Ev KSm ST1 mdX10_hostRead d [.inr 0, .inl x1, .inl x2, .inl x3] M (f_X10_hostRead x1 x2 x3 M) := by
  refine ev_of rfl (Nat.le_of_ble_eq_true rfl) ?_
  show CorM KSm ST1 RX10 cX10_hostRead 4 (some .int) d 0 [(0, .inr 0), (1, .inl x1), (2, .inl x2), (3, .inl x3)] [] M (f_X10_hostRead x1 x2 x3 M)
  unfold f_X10_hostRead
  refine c_aload_n (i := 0) dX10_hostRead_0 rfl rfl ?_
  refine c_iconst dX10_hostRead_1 (v := 0) rfl ?_
  refine pf_RX10_60 (blk_get0 KSm_b0) dX10_hostRead_2 ?_
  refine c_wrt (fun M1 => ?_)
  refine c_aload_n (i := 0) dX10_hostRead_5 rfl rfl ?_
  refine c_aload_n (i := 0) dX10_hostRead_6 rfl rfl ?_
  refine c_iload_n (i := 1) dX10_hostRead_7 rfl rfl ?_
  refine c_iload_n (i := 2) dX10_hostRead_8 rfl rfl ?_
  refine c_callVp (as := [.inl x1, .inl x2]) (rs := [.inr 0]) (ev_X10_isRow 2 (Nat.le_refl _) x1 x2 M1) rfl (Nat.lt_of_lt_of_le (by decide) hlev) mw_X10_isRow wi_X10_isRow wv_X10_isRow (blk_get0 KSm_b0) (by decide) rfl wl_RX10_241 mn_X10_isRow rfl (by decide) (Nat.le_of_ble_eq_true rfl) ⟨_, rfl⟩ dX10_hostRead_9 ?_
  have J_z2 : ∀ z2 : Int32, isB z2 → CorM KSm ST1 RX10 cX10_hostRead 4 (some .int) d 28 [(0, .inr 0), (1, .inl x1), (2, .inl x2), (3, .inl x3)] [.inl z2, .inr 0] M1 (bnd (f_X10_may z2 1 M1) (fun v3 M4 => if v3 = 0 then j_X10_hostRead_51 0 M4 else bnd (f_X10_found x1 x2 x3 M4) (fun v6 M7 => if inb v6 1671 then j_X10_hostRead_51 (M7 1 (ix v6)) M7 else none))) := by
    intro z2 h_z2
    refine c_iconst dX10_hostRead_28 (v := 1) rfl ?_
    refine c_callV (as := [.inl z2, .inl 1]) (rs := []) (ev_X10_may 0 (Nat.le_refl _) z2 1 M1) rfl (Nat.lt_of_lt_of_le (by decide) hlev) mw_X10_may wi_X10_may wv_X10_may (blk_get0 KSm_b0) (by decide) rfl wl_RX10_66 mn_X10_may rfl (by decide) (Nat.le_of_ble_eq_true rfl) ⟨_, rfl⟩ dX10_hostRead_29 (fun v3 M4 _ => ?_)
    refine c_if_eq (tgt := 50) dX10_hostRead_32 rfl (fun h5 => ?_) (fun h5 => ?_)
    · refine c_iconst dX10_hostRead_50 (v := 0) rfl ?_
      refine c_keep [] (ls2 := []) rfl ?_
      exact jo_X10_hostRead_51 d hlev 0 M4
    · refine c_aload_n (i := 0) dX10_hostRead_35 rfl rfl ?_
      refine gf_RX10_9 (blk_get0 KSm_b0) dX10_hostRead_36 ?_
      refine c_aload_n (i := 0) dX10_hostRead_39 rfl rfl ?_
      refine c_iload_n (i := 1) dX10_hostRead_40 rfl rfl ?_
      refine c_iload_n (i := 2) dX10_hostRead_41 rfl rfl ?_
      refine c_iload_n (i := 3) dX10_hostRead_42 rfl rfl ?_
      refine c_callV (as := [.inl x1, .inl x2, .inl x3]) (rs := [.inr 1]) (ev_X10_found 3 (Nat.le_refl _) x1 x2 x3 M4) rfl (Nat.lt_of_lt_of_le (by decide) hlev) mw_X10_found wi_X10_found wv_X10_found (blk_get0 KSm_b0) (by decide) rfl wl_RX10_328 mn_X10_found rfl (by decide) (Nat.le_of_ble_eq_true rfl) ⟨_, rfl⟩ dX10_hostRead_43 (fun v6 M7 _ => ?_)
      refine c_chk (fun h8 => ?_)
      refine c_iald (blk_get0 (blk_sub (C := [(20, 1671)]) (i := 1) KSm_b0 rfl)) h8 dX10_hostRead_46 ?_
      refine c_goto (tgt := 51) dX10_hostRead_47 rfl ?_
      refine c_keep [] (ls2 := []) rfl ?_
      exact jo_X10_hostRead_51 d hlev (M7 1 (ix v6)) M7
  refine c_val (b := (p_X10_isRow x1 x2 M1) = 0) (v1 := (0 : Int32)) (v2 := if (p_X10_isColumn x3 M1) = 0 then (0 : Int32) else (1 : Int32)) (F := fun z2 => bnd (f_X10_may z2 1 M1) (fun v3 M4 => if v3 = 0 then j_X10_hostRead_51 0 M4 else bnd (f_X10_found x1 x2 x3 M4) (fun v6 M7 => if inb v6 1671 then j_X10_hostRead_51 (M7 1 (ix v6)) M7 else none))) (fun h9 => ?_) (fun h9 => ?_)
  · refine c_T h9 (c_if_eq (tgt := 27) dX10_hostRead_12 rfl (fun _ => ?_) (fun q => absurd h9 q))
    refine c_iconst dX10_hostRead_27 (v := 0) rfl ?_
    refine c_keep [0, 1, 2, 3] (ls2 := [(0, .inr 0), (1, .inl x1), (2, .inl x2), (3, .inl x3)]) rfl ?_
    exact J_z2 0 (Or.inl rfl)
  · refine c_Fl h9 (c_if_eq (tgt := 27) dX10_hostRead_12 rfl (fun q => absurd q h9) (fun _ => ?_))
    refine c_aload_n (i := 0) dX10_hostRead_15 rfl rfl ?_
    refine c_iload_n (i := 3) dX10_hostRead_16 rfl rfl ?_
    refine c_callVp (as := [.inl x3]) (rs := [.inr 0]) (ev_X10_isColumn 1 (Nat.le_refl _) x3 M1) rfl (Nat.lt_of_lt_of_le (by decide) hlev) mw_X10_isColumn wi_X10_isColumn wv_X10_isColumn (blk_get0 KSm_b0) (by decide) rfl wl_RX10_244 mn_X10_isColumn rfl (by decide) (Nat.le_of_ble_eq_true rfl) ⟨_, rfl⟩ dX10_hostRead_17 ?_
    refine c_val (b := (p_X10_isColumn x3 M1) = 0) (v1 := (0 : Int32)) (v2 := (1 : Int32)) (F := fun z2 => bnd (f_X10_may z2 1 M1) (fun v3 M4 => if v3 = 0 then j_X10_hostRead_51 0 M4 else bnd (f_X10_found x1 x2 x3 M4) (fun v6 M7 => if inb v6 1671 then j_X10_hostRead_51 (M7 1 (ix v6)) M7 else none))) (fun h10 => ?_) (fun h10 => ?_)
    · refine c_T h10 (c_if_eq (tgt := 27) dX10_hostRead_20 rfl (fun _ => ?_) (fun q => absurd h10 q))
      refine c_iconst dX10_hostRead_27 (v := 0) rfl ?_
      refine c_keep [0, 1, 2, 3] (ls2 := [(0, .inr 0), (1, .inl x1), (2, .inl x2), (3, .inl x3)]) rfl ?_
      exact J_z2 0 (Or.inl rfl)
    · refine c_Fl h10 (c_if_eq (tgt := 27) dX10_hostRead_20 rfl (fun q => absurd q h10) (fun _ => ?_))
      refine c_iconst dX10_hostRead_23 (v := 1) rfl ?_
      refine c_goto (tgt := 28) dX10_hostRead_24 rfl ?_
      refine c_keep [0, 1, 2, 3] (ls2 := [(0, .inr 0), (1, .inl x1), (2, .inl x2), (3, .inl x3)]) rfl ?_
      exact J_z2 1 (Or.inr rfl)

abbrev mdX10_hostWrite : MD := (yX10_hostWrite, cX10_hostWrite, 7, (some .int))
theorem mw_X10_hostWrite : mdW mdX10_hostWrite := ⟨wm_X10_hostWrite, w0_RX10, by decide, by decide⟩
theorem mn_X10_hostWrite : (parseMethodDescriptor yX10_hostWrite.desc).map (fun d => d.parameters.length) = some 4 := by decide +kernel
def j_X10_hostWrite_94 (x6 : Int32) (M : Mem) : Option (Int32 × Mem) := some (x6, M)
set_option maxRecDepth 20000 in
set_option maxHeartbeats 2000000 in
theorem jo_X10_hostWrite_94 (d : Nat) (hlev : 4 ≤ d) (x6 : Int32) (M : Mem) : CorM KSm ST1 RX10 cX10_hostWrite 7 (some .int) d 94 [(6, .inl x6)] [] M (j_X10_hostWrite_94 x6 M) := by
  unfold j_X10_hostWrite_94
  refine c_iload dX10_hostWrite_94 rfl ?_
  exact c_iret rfl dX10_hostWrite_96
def f_X10_hostWrite (x1 : Int32) (x2 : Int32) (x3 : Int32) (x4 : Int32) (M : Mem) : Option (Int32 × Mem) := wrt (up M 0 0 0) (fun M1 => bnd (f_X10_may (if (p_X10_isRow x1 x2 M1) = 0 then (0 : Int32) else if (p_X10_isColumn x3 M1) = 0 then (0 : Int32) else (1 : Int32)) 1 M1) (fun v3 M4 => if ¬ v3 = 0 then bnd (f_X10_found x1 x2 x3 M4) (fun v6 M7 => if inb v6 1671 then if inb v6 1671 then wrt (up M7 1 (ix v6) x4) (fun M10 => if (M10 5 11) ≤ 0 then j_X10_hostWrite_94 (M7 1 (ix v6)) M10 else if inb (p_X10_cell ((M10 1 1578) - 1) 2) 1671 then wrt (up M10 1 (ix (p_X10_cell ((M10 1 1578) - 1) 2)) 1) (fun M13 => j_X10_hostWrite_94 (M7 1 (ix v6)) M13) else none) else none else none) else some (0, M4)))
set_option maxRecDepth 20000 in
set_option maxHeartbeats 2000000 in
theorem ev_X10_hostWrite (d : Nat) (hlev : 4 ≤ d) (x1 : Int32) (x2 : Int32) (x3 : Int32) (x4 : Int32) (M : Mem) : Ev KSm ST1 mdX10_hostWrite d [.inr 0, .inl x1, .inl x2, .inl x3, .inl x4] M (f_X10_hostWrite x1 x2 x3 x4 M) := by
  refine ev_of rfl (Nat.le_of_ble_eq_true rfl) ?_
  show CorM KSm ST1 RX10 cX10_hostWrite 7 (some .int) d 0 [(0, .inr 0), (1, .inl x1), (2, .inl x2), (3, .inl x3), (4, .inl x4)] [] M (f_X10_hostWrite x1 x2 x3 x4 M)
  unfold f_X10_hostWrite
  refine c_aload_n (i := 0) dX10_hostWrite_0 rfl rfl ?_
  refine c_iconst dX10_hostWrite_1 (v := 0) rfl ?_
  refine pf_RX10_60 (blk_get0 KSm_b0) dX10_hostWrite_2 ?_
  refine c_wrt (fun M1 => ?_)
  refine c_aload_n (i := 0) dX10_hostWrite_5 rfl rfl ?_
  refine c_aload_n (i := 0) dX10_hostWrite_6 rfl rfl ?_
  refine c_iload_n (i := 1) dX10_hostWrite_7 rfl rfl ?_
  refine c_iload_n (i := 2) dX10_hostWrite_8 rfl rfl ?_
  refine c_callVp (as := [.inl x1, .inl x2]) (rs := [.inr 0]) (ev_X10_isRow 2 (Nat.le_refl _) x1 x2 M1) rfl (Nat.lt_of_lt_of_le (by decide) hlev) mw_X10_isRow wi_X10_isRow wv_X10_isRow (blk_get0 KSm_b0) (by decide) rfl wl_RX10_241 mn_X10_isRow rfl (by decide) (Nat.le_of_ble_eq_true rfl) ⟨_, rfl⟩ dX10_hostWrite_9 ?_
  have J_z2 : ∀ z2 : Int32, isB z2 → CorM KSm ST1 RX10 cX10_hostWrite 7 (some .int) d 28 [(0, .inr 0), (1, .inl x1), (2, .inl x2), (3, .inl x3), (4, .inl x4)] [.inl z2, .inr 0] M1 (bnd (f_X10_may z2 1 M1) (fun v3 M4 => if ¬ v3 = 0 then bnd (f_X10_found x1 x2 x3 M4) (fun v6 M7 => if inb v6 1671 then if inb v6 1671 then wrt (up M7 1 (ix v6) x4) (fun M10 => if (M10 5 11) ≤ 0 then j_X10_hostWrite_94 (M7 1 (ix v6)) M10 else if inb (p_X10_cell ((M10 1 1578) - 1) 2) 1671 then wrt (up M10 1 (ix (p_X10_cell ((M10 1 1578) - 1) 2)) 1) (fun M13 => j_X10_hostWrite_94 (M7 1 (ix v6)) M13) else none) else none else none) else some (0, M4))) := by
    intro z2 h_z2
    refine c_iconst dX10_hostWrite_28 (v := 1) rfl ?_
    refine c_callV (as := [.inl z2, .inl 1]) (rs := []) (ev_X10_may 0 (Nat.le_refl _) z2 1 M1) rfl (Nat.lt_of_lt_of_le (by decide) hlev) mw_X10_may wi_X10_may wv_X10_may (blk_get0 KSm_b0) (by decide) rfl wl_RX10_66 mn_X10_may rfl (by decide) (Nat.le_of_ble_eq_true rfl) ⟨_, rfl⟩ dX10_hostWrite_29 (fun v3 M4 _ => ?_)
    refine c_if_ne (tgt := 37) dX10_hostWrite_32 rfl (fun h5 => ?_) (fun h5 => ?_)
    · refine c_aload_n (i := 0) dX10_hostWrite_37 rfl rfl ?_
      refine c_iload_n (i := 1) dX10_hostWrite_38 rfl rfl ?_
      refine c_iload_n (i := 2) dX10_hostWrite_39 rfl rfl ?_
      refine c_iload_n (i := 3) dX10_hostWrite_40 rfl rfl ?_
      refine c_callV (as := [.inl x1, .inl x2, .inl x3]) (rs := []) (ev_X10_found 3 (Nat.le_refl _) x1 x2 x3 M4) rfl (Nat.lt_of_lt_of_le (by decide) hlev) mw_X10_found wi_X10_found wv_X10_found (blk_get0 KSm_b0) (by decide) rfl wl_RX10_328 mn_X10_found rfl (by decide) (Nat.le_of_ble_eq_true rfl) ⟨_, rfl⟩ dX10_hostWrite_41 (fun v6 M7 _ => ?_)
      refine c_istore dX10_hostWrite_44 (by decide) (ls2 := [(0, .inr 0), (1, .inl x1), (2, .inl x2), (3, .inl x3), (4, .inl x4), (5, .inl v6)]) rfl ?_
      refine c_aload_n (i := 0) dX10_hostWrite_46 rfl rfl ?_
      refine gf_RX10_9 (blk_get0 KSm_b0) dX10_hostWrite_47 ?_
      refine c_iload dX10_hostWrite_50 rfl ?_
      refine c_chk (fun h8 => ?_)
      refine c_iald (blk_get0 (blk_sub (C := [(20, 1671)]) (i := 1) KSm_b0 rfl)) h8 dX10_hostWrite_52 ?_
      refine c_istore dX10_hostWrite_53 (by decide) (ls2 := [(0, .inr 0), (1, .inl x1), (2, .inl x2), (3, .inl x3), (4, .inl x4), (5, .inl v6), (6, .inl (M7 1 (ix v6)))]) rfl ?_
      refine c_aload_n (i := 0) dX10_hostWrite_55 rfl rfl ?_
      refine gf_RX10_9 (blk_get0 KSm_b0) dX10_hostWrite_56 ?_
      refine c_iload dX10_hostWrite_59 rfl ?_
      refine c_iload dX10_hostWrite_61 rfl ?_
      refine c_chk (fun h9 => ?_)
      refine c_iast (blk_get0 (blk_sub (C := [(20, 1671)]) (i := 1) KSm_b0 rfl)) h9 dX10_hostWrite_63 ?_
      refine c_wrt (fun M10 => ?_)
      refine c_aload_n (i := 0) dX10_hostWrite_64 rfl rfl ?_
      refine gf_RX10_23 (blk_get0 KSm_b0) dX10_hostWrite_65 ?_
      refine c_bipush dX10_hostWrite_68 (v := 11) rfl ?_
      refine c_iald (blk_get0 (blk_sub (C := [(20, 290)]) (i := 5) KSm_b0 rfl)) (by decide) dX10_hostWrite_70 ?_
      refine c_if_le (tgt := 94) dX10_hostWrite_71 rfl (fun h11 => ?_) (fun h11 => ?_)
      · refine c_keep [6] (ls2 := [(6, .inl (M7 1 (ix v6)))]) rfl ?_
        exact jo_X10_hostWrite_94 d hlev (M7 1 (ix v6)) M10
      · refine c_aload_n (i := 0) dX10_hostWrite_74 rfl rfl ?_
        refine gf_RX10_9 (blk_get0 KSm_b0) dX10_hostWrite_75 ?_
        refine c_aload_n (i := 0) dX10_hostWrite_78 rfl rfl ?_
        refine gf_RX10_9 (blk_get0 KSm_b0) dX10_hostWrite_79 ?_
        refine c_sipush dX10_hostWrite_82 (v := 1578) rfl ?_
        refine c_iald (blk_get0 (blk_sub (C := [(20, 1671)]) (i := 1) KSm_b0 rfl)) (by decide) dX10_hostWrite_85 ?_
        refine c_iconst dX10_hostWrite_86 (v := 1) rfl ?_
        refine c_isub dX10_hostWrite_87 ?_
        refine c_iconst dX10_hostWrite_88 (v := 2) rfl ?_
        refine c_callSp (as := [.inl ((M10 1 1578) - 1), .inl 2]) (rs := [.inr 1]) (ev_X10_cell 0 (Nat.le_refl _) ((M10 1 1578) - 1) 2 M10) rfl (Nat.lt_of_lt_of_le (by decide) hlev) mw_X10_cell ws_X10_cell wl_RX10_310 mn_X10_cell rfl (by decide) (Nat.le_of_ble_eq_true rfl) ⟨_, rfl⟩ dX10_hostWrite_89 ?_
        refine c_iconst dX10_hostWrite_92 (v := 1) rfl ?_
        refine c_chk (fun h12 => ?_)
        refine c_iast (blk_get0 (blk_sub (C := [(20, 1671)]) (i := 1) KSm_b0 rfl)) h12 dX10_hostWrite_93 ?_
        refine c_wrt (fun M13 => ?_)
        refine c_keep [6] (ls2 := [(6, .inl (M7 1 (ix v6)))]) rfl ?_
        exact jo_X10_hostWrite_94 d hlev (M7 1 (ix v6)) M13
    · refine c_iconst dX10_hostWrite_35 (v := 0) rfl ?_
      exact c_iret rfl dX10_hostWrite_36
  refine c_val (b := (p_X10_isRow x1 x2 M1) = 0) (v1 := (0 : Int32)) (v2 := if (p_X10_isColumn x3 M1) = 0 then (0 : Int32) else (1 : Int32)) (F := fun z2 => bnd (f_X10_may z2 1 M1) (fun v3 M4 => if ¬ v3 = 0 then bnd (f_X10_found x1 x2 x3 M4) (fun v6 M7 => if inb v6 1671 then if inb v6 1671 then wrt (up M7 1 (ix v6) x4) (fun M10 => if (M10 5 11) ≤ 0 then j_X10_hostWrite_94 (M7 1 (ix v6)) M10 else if inb (p_X10_cell ((M10 1 1578) - 1) 2) 1671 then wrt (up M10 1 (ix (p_X10_cell ((M10 1 1578) - 1) 2)) 1) (fun M13 => j_X10_hostWrite_94 (M7 1 (ix v6)) M13) else none) else none else none) else some (0, M4))) (fun h14 => ?_) (fun h14 => ?_)
  · refine c_T h14 (c_if_eq (tgt := 27) dX10_hostWrite_12 rfl (fun _ => ?_) (fun q => absurd h14 q))
    refine c_iconst dX10_hostWrite_27 (v := 0) rfl ?_
    refine c_keep [0, 1, 2, 3, 4] (ls2 := [(0, .inr 0), (1, .inl x1), (2, .inl x2), (3, .inl x3), (4, .inl x4)]) rfl ?_
    exact J_z2 0 (Or.inl rfl)
  · refine c_Fl h14 (c_if_eq (tgt := 27) dX10_hostWrite_12 rfl (fun q => absurd q h14) (fun _ => ?_))
    refine c_aload_n (i := 0) dX10_hostWrite_15 rfl rfl ?_
    refine c_iload_n (i := 3) dX10_hostWrite_16 rfl rfl ?_
    refine c_callVp (as := [.inl x3]) (rs := [.inr 0]) (ev_X10_isColumn 1 (Nat.le_refl _) x3 M1) rfl (Nat.lt_of_lt_of_le (by decide) hlev) mw_X10_isColumn wi_X10_isColumn wv_X10_isColumn (blk_get0 KSm_b0) (by decide) rfl wl_RX10_244 mn_X10_isColumn rfl (by decide) (Nat.le_of_ble_eq_true rfl) ⟨_, rfl⟩ dX10_hostWrite_17 ?_
    refine c_val (b := (p_X10_isColumn x3 M1) = 0) (v1 := (0 : Int32)) (v2 := (1 : Int32)) (F := fun z2 => bnd (f_X10_may z2 1 M1) (fun v3 M4 => if ¬ v3 = 0 then bnd (f_X10_found x1 x2 x3 M4) (fun v6 M7 => if inb v6 1671 then if inb v6 1671 then wrt (up M7 1 (ix v6) x4) (fun M10 => if (M10 5 11) ≤ 0 then j_X10_hostWrite_94 (M7 1 (ix v6)) M10 else if inb (p_X10_cell ((M10 1 1578) - 1) 2) 1671 then wrt (up M10 1 (ix (p_X10_cell ((M10 1 1578) - 1) 2)) 1) (fun M13 => j_X10_hostWrite_94 (M7 1 (ix v6)) M13) else none) else none else none) else some (0, M4))) (fun h15 => ?_) (fun h15 => ?_)
    · refine c_T h15 (c_if_eq (tgt := 27) dX10_hostWrite_20 rfl (fun _ => ?_) (fun q => absurd h15 q))
      refine c_iconst dX10_hostWrite_27 (v := 0) rfl ?_
      refine c_keep [0, 1, 2, 3, 4] (ls2 := [(0, .inr 0), (1, .inl x1), (2, .inl x2), (3, .inl x3), (4, .inl x4)]) rfl ?_
      exact J_z2 0 (Or.inl rfl)
    · refine c_Fl h15 (c_if_eq (tgt := 27) dX10_hostWrite_20 rfl (fun q => absurd q h15) (fun _ => ?_))
      refine c_iconst dX10_hostWrite_23 (v := 1) rfl ?_
      refine c_goto (tgt := 28) dX10_hostWrite_24 rfl ?_
      refine c_keep [0, 1, 2, 3, 4] (ls2 := [(0, .inr 0), (1, .inl x1), (2, .inl x2), (3, .inl x3), (4, .inl x4)]) rfl ?_
      exact J_z2 1 (Or.inr rfl)

abbrev mdX10_fill : MD := (yX10_fill, cX10_fill, 6, (some .int))
theorem mw_X10_fill : mdW mdX10_fill := ⟨wm_X10_fill, w0_RX10, by decide, by decide⟩
theorem mn_X10_fill : (parseMethodDescriptor yX10_fill.desc).map (fun d => d.parameters.length) = some 4 := by decide +kernel
def j_X10_fill_92 (x1 : Int32) (x2 : Int32) (M : Mem) : Option (Int32 × Mem) := if inb (p_X10_word x1 x2 ((M 5 2) - 1)) 1671 then some (M 1 (ix (p_X10_word x1 x2 ((M 5 2) - 1))), M) else none
set_option maxRecDepth 20000 in
set_option maxHeartbeats 2000000 in
theorem jo_X10_fill_92 (d : Nat) (hlev : 3 ≤ d) (x1 : Int32) (x2 : Int32) (M : Mem) : CorM KSm ST1 RX10 cX10_fill 6 (some .int) d 92 [(0, .inr 0), (1, .inl x1), (2, .inl x2)] [] M (j_X10_fill_92 x1 x2 M) := by
  unfold j_X10_fill_92
  refine c_aload_n (i := 0) dX10_fill_92 rfl rfl ?_
  refine gf_RX10_9 (blk_get0 KSm_b0) dX10_fill_93 ?_
  refine c_iload_n (i := 1) dX10_fill_96 rfl rfl ?_
  refine c_iload_n (i := 2) dX10_fill_97 rfl rfl ?_
  refine c_aload_n (i := 0) dX10_fill_98 rfl rfl ?_
  refine gf_RX10_23 (blk_get0 KSm_b0) dX10_fill_99 ?_
  refine c_iconst dX10_fill_102 (v := 2) rfl ?_
  refine c_iald (blk_get0 (blk_sub (C := [(20, 290)]) (i := 5) KSm_b0 rfl)) (by decide) dX10_fill_103 ?_
  refine c_iconst dX10_fill_104 (v := 1) rfl ?_
  refine c_isub dX10_fill_105 ?_
  refine c_callSp (as := [.inl x1, .inl x2, .inl ((M 5 2) - 1)]) (rs := [.inr 1]) (ev_X10_word 0 (Nat.le_refl _) x1 x2 ((M 5 2) - 1) M) rfl (Nat.lt_of_lt_of_le (by decide) hlev) mw_X10_word ws_X10_word wl_RX10_247 mn_X10_word rfl (by decide) (Nat.le_of_ble_eq_true rfl) ⟨_, rfl⟩ dX10_fill_106 ?_
  refine c_chk (fun h9 => ?_)
  refine c_iald (blk_get0 (blk_sub (C := [(20, 1671)]) (i := 1) KSm_b0 rfl)) h9 dX10_fill_109 ?_
  exact c_iret rfl dX10_fill_110
def l_X10_fill_24 (x1 : Int32) (x2 : Int32) (x3 : Int32) (x4 : Int32) (K24 : Int32 × Mem → Option (Int32 × Mem)) : Int32 × Mem → Option (Int32 × Mem) := fun s => match s with
  | (x5, M) => if (M 5 2) ≤ x5 then bnd (f_X10_lineOf x1 x2 M) (fun v6 M7 => if ¬ (M7 1 1670) = 1 then j_X10_fill_92 x1 x2 M7 else if v6 = (-1) then j_X10_fill_92 x1 x2 M7 else bnd (f_X10_goes v6 M7) (fun _ M12 => j_X10_fill_92 x1 x2 M12)) else if inb (p_X10_word x1 x2 x5) 1671 then wrt (up M 1 (ix (p_X10_word x1 x2 x5)) (x3 + (x5 * x4))) (fun M14 => K24 (x5 + 1, M14)) else none
set_option maxRecDepth 20000 in
set_option maxHeartbeats 2000000 in
theorem lo_X10_fill_24 (d : Nat) (hlev : 3 ≤ d) (x1 : Int32) (x2 : Int32) (x3 : Int32) (x4 : Int32) (s : Int32 × Mem) : CorM KSm ST1 RX10 cX10_fill 6 (some .int) d 24 [(0, .inr 0), (1, .inl x1), (2, .inl x2), (3, .inl x3), (4, .inl x4), (5, .inl s.1)] [] s.2 (loopC (l_X10_fill_24 x1 x2 x3 x4) fuelL s) := by
  refine c_loop (L := fun s : Int32 × Mem => [(0, .inr 0), (1, .inl x1), (2, .inl x2), (3, .inl x3), (4, .inl x4), (5, .inl s.1)]) (Mf := fun s : Int32 × Mem => s.2) (fun K24 hK24 s => ?_) fuelL s
  obtain ⟨x5, M⟩ := s
  show CorM KSm ST1 RX10 cX10_fill 6 (some .int) d 24 [(0, .inr 0), (1, .inl x1), (2, .inl x2), (3, .inl x3), (4, .inl x4), (5, .inl x5)] [] M (l_X10_fill_24 x1 x2 x3 x4 K24 (x5, M))
  unfold l_X10_fill_24
  refine c_iload dX10_fill_24 rfl ?_
  refine c_aload_n (i := 0) dX10_fill_26 rfl rfl ?_
  refine gf_RX10_23 (blk_get0 KSm_b0) dX10_fill_27 ?_
  refine c_iconst dX10_fill_30 (v := 2) rfl ?_
  refine c_iald (blk_get0 (blk_sub (C := [(20, 290)]) (i := 5) KSm_b0 rfl)) (by decide) dX10_fill_31 ?_
  refine c_icmp_ge (tgt := 60) dX10_fill_32 rfl (fun h5 => ?_) (fun h5 => ?_)
  · refine c_aload_n (i := 0) dX10_fill_60 rfl rfl ?_
    refine c_iload_n (i := 1) dX10_fill_61 rfl rfl ?_
    refine c_iload_n (i := 2) dX10_fill_62 rfl rfl ?_
    refine c_callV (as := [.inl x1, .inl x2]) (rs := []) (ev_X10_lineOf 1 (Nat.le_refl _) x1 x2 M) rfl (Nat.lt_of_lt_of_le (by decide) hlev) mw_X10_lineOf wi_X10_lineOf wv_X10_lineOf (blk_get0 KSm_b0) (by decide) rfl wl_RX10_313 mn_X10_lineOf rfl (by decide) (Nat.le_of_ble_eq_true rfl) ⟨_, rfl⟩ dX10_fill_63 (fun v6 M7 _ => ?_)
    refine c_istore dX10_fill_66 (by decide) (ls2 := [(0, .inr 0), (1, .inl x1), (2, .inl x2), (3, .inl x3), (4, .inl x4), (5, .inl v6)]) rfl ?_
    refine c_aload_n (i := 0) dX10_fill_68 rfl rfl ?_
    refine gf_RX10_9 (blk_get0 KSm_b0) dX10_fill_69 ?_
    refine c_sipush dX10_fill_72 (v := 1670) rfl ?_
    refine c_iald (blk_get0 (blk_sub (C := [(20, 1671)]) (i := 1) KSm_b0 rfl)) (by decide) dX10_fill_75 ?_
    refine c_iconst dX10_fill_76 (v := 1) rfl ?_
    refine c_icmp_ne (tgt := 92) dX10_fill_77 rfl (fun h8 => ?_) (fun h8 => ?_)
    · refine c_keep [0, 1, 2] (ls2 := [(0, .inr 0), (1, .inl x1), (2, .inl x2)]) rfl ?_
      exact jo_X10_fill_92 d hlev x1 x2 M7
    · refine c_iload dX10_fill_80 rfl ?_
      refine c_iconst dX10_fill_82 (v := (-1)) rfl ?_
      refine c_icmp_eq (tgt := 92) dX10_fill_83 rfl (fun h10 => ?_) (fun h10 => ?_)
      · refine c_keep [0, 1, 2] (ls2 := [(0, .inr 0), (1, .inl x1), (2, .inl x2)]) rfl ?_
        exact jo_X10_fill_92 d hlev x1 x2 M7
      · refine c_aload_n (i := 0) dX10_fill_86 rfl rfl ?_
        refine c_iload dX10_fill_87 rfl ?_
        refine c_callVv (as := [.inl v6]) (rs := []) (ev_X10_goes 1 (Nat.le_refl _) v6 M7) rfl (Nat.lt_of_lt_of_le (by decide) hlev) mw_X10_goes wi_X10_goes wv_X10_goes (blk_get0 KSm_b0) (by decide) rfl wl_RX10_319 mn_X10_goes rfl (by decide) (Nat.le_of_ble_eq_true rfl) rfl dX10_fill_89 (fun v11 M12 _ => ?_)
        refine c_keep [0, 1, 2] (ls2 := [(0, .inr 0), (1, .inl x1), (2, .inl x2)]) rfl ?_
        exact jo_X10_fill_92 d hlev x1 x2 M12
  · refine c_aload_n (i := 0) dX10_fill_35 rfl rfl ?_
    refine gf_RX10_9 (blk_get0 KSm_b0) dX10_fill_36 ?_
    refine c_iload_n (i := 1) dX10_fill_39 rfl rfl ?_
    refine c_iload_n (i := 2) dX10_fill_40 rfl rfl ?_
    refine c_iload dX10_fill_41 rfl ?_
    refine c_callSp (as := [.inl x1, .inl x2, .inl x5]) (rs := [.inr 1]) (ev_X10_word 0 (Nat.le_refl _) x1 x2 x5 M) rfl (Nat.lt_of_lt_of_le (by decide) hlev) mw_X10_word ws_X10_word wl_RX10_247 mn_X10_word rfl (by decide) (Nat.le_of_ble_eq_true rfl) ⟨_, rfl⟩ dX10_fill_43 ?_
    refine c_iload_n (i := 3) dX10_fill_46 rfl rfl ?_
    refine c_iload dX10_fill_47 rfl ?_
    refine c_iload dX10_fill_49 rfl ?_
    refine c_imul dX10_fill_51 ?_
    refine c_iadd dX10_fill_52 ?_
    refine c_chk (fun h13 => ?_)
    refine c_iast (blk_get0 (blk_sub (C := [(20, 1671)]) (i := 1) KSm_b0 rfl)) h13 dX10_fill_53 ?_
    refine c_wrt (fun M14 => ?_)
    refine c_iinc dX10_fill_54 rfl (v := 1) rfl (by decide) (ls2 := [(0, .inr 0), (1, .inl x1), (2, .inl x2), (3, .inl x3), (4, .inl x4), (5, .inl (x5 + 1))]) rfl ?_
    refine c_goto (tgt := 24) dX10_fill_57 rfl ?_
    refine c_keep [0, 1, 2, 3, 4, 5] (ls2 := [(0, .inr 0), (1, .inl x1), (2, .inl x2), (3, .inl x3), (4, .inl x4), (5, .inl (x5 + 1))]) rfl ?_
    exact hK24 (x5 + 1, M14)
def f_X10_fill (x1 : Int32) (x2 : Int32) (x3 : Int32) (x4 : Int32) (M : Mem) : Option (Int32 × Mem) := wrt (up M 0 0 0) (fun M1 => bnd (f_X10_may (p_X10_isRow x1 x2 M1) 1 M1) (fun v2 M3 => if ¬ v2 = 0 then loopC (l_X10_fill_24 x1 x2 x3 x4) fuelL (0, M3) else some (0, M3)))
set_option maxRecDepth 20000 in
set_option maxHeartbeats 2000000 in
theorem ev_X10_fill (d : Nat) (hlev : 3 ≤ d) (x1 : Int32) (x2 : Int32) (x3 : Int32) (x4 : Int32) (M : Mem) : Ev KSm ST1 mdX10_fill d [.inr 0, .inl x1, .inl x2, .inl x3, .inl x4] M (f_X10_fill x1 x2 x3 x4 M) := by
  refine ev_of rfl (Nat.le_of_ble_eq_true rfl) ?_
  show CorM KSm ST1 RX10 cX10_fill 6 (some .int) d 0 [(0, .inr 0), (1, .inl x1), (2, .inl x2), (3, .inl x3), (4, .inl x4)] [] M (f_X10_fill x1 x2 x3 x4 M)
  unfold f_X10_fill
  refine c_aload_n (i := 0) dX10_fill_0 rfl rfl ?_
  refine c_iconst dX10_fill_1 (v := 0) rfl ?_
  refine pf_RX10_60 (blk_get0 KSm_b0) dX10_fill_2 ?_
  refine c_wrt (fun M1 => ?_)
  refine c_aload_n (i := 0) dX10_fill_5 rfl rfl ?_
  refine c_aload_n (i := 0) dX10_fill_6 rfl rfl ?_
  refine c_iload_n (i := 1) dX10_fill_7 rfl rfl ?_
  refine c_iload_n (i := 2) dX10_fill_8 rfl rfl ?_
  refine c_callVp (as := [.inl x1, .inl x2]) (rs := [.inr 0]) (ev_X10_isRow 2 (Nat.le_refl _) x1 x2 M1) rfl (Nat.lt_of_lt_of_le (by decide) hlev) mw_X10_isRow wi_X10_isRow wv_X10_isRow (blk_get0 KSm_b0) (by decide) rfl wl_RX10_241 mn_X10_isRow rfl (by decide) (Nat.le_of_ble_eq_true rfl) ⟨_, rfl⟩ dX10_fill_9 ?_
  refine c_iconst dX10_fill_12 (v := 1) rfl ?_
  refine c_callV (as := [.inl (p_X10_isRow x1 x2 M1), .inl 1]) (rs := []) (ev_X10_may 0 (Nat.le_refl _) (p_X10_isRow x1 x2 M1) 1 M1) rfl (Nat.lt_of_lt_of_le (by decide) hlev) mw_X10_may wi_X10_may wv_X10_may (blk_get0 KSm_b0) (by decide) rfl wl_RX10_66 mn_X10_may rfl (by decide) (Nat.le_of_ble_eq_true rfl) ⟨_, rfl⟩ dX10_fill_13 (fun v2 M3 _ => ?_)
  refine c_if_ne (tgt := 21) dX10_fill_16 rfl (fun h4 => ?_) (fun h4 => ?_)
  · refine c_iconst dX10_fill_21 (v := 0) rfl ?_
    refine c_istore dX10_fill_22 (by decide) (ls2 := [(0, .inr 0), (1, .inl x1), (2, .inl x2), (3, .inl x3), (4, .inl x4), (5, .inl 0)]) rfl ?_
    refine c_keep [0, 1, 2, 3, 4, 5] (ls2 := [(0, .inr 0), (1, .inl x1), (2, .inl x2), (3, .inl x3), (4, .inl x4), (5, .inl 0)]) rfl ?_
    exact lo_X10_fill_24 d hlev x1 x2 x3 x4 (0, M3)
  · refine c_iconst dX10_fill_19 (v := 0) rfl ?_
    exact c_iret rfl dX10_fill_20

abbrev mdX10_flush : MD := (yX10_flush, cX10_flush, 4, (some .boolean))
theorem mw_X10_flush : mdW mdX10_flush := ⟨wm_X10_flush, w0_RX10, by decide, by decide⟩
theorem mn_X10_flush : (parseMethodDescriptor yX10_flush.desc).map (fun d => d.parameters.length) = some 2 := by decide +kernel
def j_X10_flush_46 (w0 : Int32) (M : Mem) : Option (Int32 × Mem) := if isB w0 then some (w0, M) else none
set_option maxRecDepth 20000 in
set_option maxHeartbeats 2000000 in
theorem jo_X10_flush_46 (d : Nat) (hlev : 3 ≤ d) (w0 : Int32) (M : Mem) : CorM KSm ST1 RX10 cX10_flush 4 (some .boolean) d 46 [] [.inl w0] M (j_X10_flush_46 w0 M) := by
  unfold j_X10_flush_46
  refine c_chk (fun h8 => ?_)
  exact c_zret rfl h8 dX10_flush_46
def j_X10_flush_45 (M : Mem) : Option (Int32 × Mem) := j_X10_flush_46 0 M
set_option maxRecDepth 20000 in
set_option maxHeartbeats 2000000 in
theorem jo_X10_flush_45 (d : Nat) (hlev : 3 ≤ d) (M : Mem) : CorM KSm ST1 RX10 cX10_flush 4 (some .boolean) d 45 [] [] M (j_X10_flush_45 M) := by
  unfold j_X10_flush_45
  refine c_iconst dX10_flush_45 (v := 0) rfl ?_
  refine c_keep [] (ls2 := []) rfl ?_
  exact jo_X10_flush_46 d hlev 0 M
def f_X10_flush (x1 : Int32) (x2 : Int32) (M : Mem) : Option (Int32 × Mem) := wrt (up M 0 0 0) (fun M1 => bnd (f_X10_may (p_X10_isRow x1 x2 M1) 1 M1) (fun v2 M3 => if ¬ v2 = 0 then bnd (f_X10_lineOf x1 x2 M3) (fun v5 M6 => if v5 = (-1) then j_X10_flush_45 M6 else bnd (f_X10_cleans v5 M6) (fun v9 M10 => some ((if v9 = 0 then (0 : Int32) else (1 : Int32)), M10))) else some (0, M3)))
set_option maxRecDepth 20000 in
set_option maxHeartbeats 2000000 in
theorem ev_X10_flush (d : Nat) (hlev : 3 ≤ d) (x1 : Int32) (x2 : Int32) (M : Mem) : Ev KSm ST1 mdX10_flush d [.inr 0, .inl x1, .inl x2] M (f_X10_flush x1 x2 M) := by
  refine ev_of rfl (Nat.le_of_ble_eq_true rfl) ?_
  show CorM KSm ST1 RX10 cX10_flush 4 (some .boolean) d 0 [(0, .inr 0), (1, .inl x1), (2, .inl x2)] [] M (f_X10_flush x1 x2 M)
  unfold f_X10_flush
  refine c_aload_n (i := 0) dX10_flush_0 rfl rfl ?_
  refine c_iconst dX10_flush_1 (v := 0) rfl ?_
  refine pf_RX10_60 (blk_get0 KSm_b0) dX10_flush_2 ?_
  refine c_wrt (fun M1 => ?_)
  refine c_aload_n (i := 0) dX10_flush_5 rfl rfl ?_
  refine c_aload_n (i := 0) dX10_flush_6 rfl rfl ?_
  refine c_iload_n (i := 1) dX10_flush_7 rfl rfl ?_
  refine c_iload_n (i := 2) dX10_flush_8 rfl rfl ?_
  refine c_callVp (as := [.inl x1, .inl x2]) (rs := [.inr 0]) (ev_X10_isRow 2 (Nat.le_refl _) x1 x2 M1) rfl (Nat.lt_of_lt_of_le (by decide) hlev) mw_X10_isRow wi_X10_isRow wv_X10_isRow (blk_get0 KSm_b0) (by decide) rfl wl_RX10_241 mn_X10_isRow rfl (by decide) (Nat.le_of_ble_eq_true rfl) ⟨_, rfl⟩ dX10_flush_9 ?_
  refine c_iconst dX10_flush_12 (v := 1) rfl ?_
  refine c_callV (as := [.inl (p_X10_isRow x1 x2 M1), .inl 1]) (rs := []) (ev_X10_may 0 (Nat.le_refl _) (p_X10_isRow x1 x2 M1) 1 M1) rfl (Nat.lt_of_lt_of_le (by decide) hlev) mw_X10_may wi_X10_may wv_X10_may (blk_get0 KSm_b0) (by decide) rfl wl_RX10_66 mn_X10_may rfl (by decide) (Nat.le_of_ble_eq_true rfl) ⟨_, rfl⟩ dX10_flush_13 (fun v2 M3 _ => ?_)
  refine c_if_ne (tgt := 21) dX10_flush_16 rfl (fun h4 => ?_) (fun h4 => ?_)
  · refine c_aload_n (i := 0) dX10_flush_21 rfl rfl ?_
    refine c_iload_n (i := 1) dX10_flush_22 rfl rfl ?_
    refine c_iload_n (i := 2) dX10_flush_23 rfl rfl ?_
    refine c_callV (as := [.inl x1, .inl x2]) (rs := []) (ev_X10_lineOf 1 (Nat.le_refl _) x1 x2 M3) rfl (Nat.lt_of_lt_of_le (by decide) hlev) mw_X10_lineOf wi_X10_lineOf wv_X10_lineOf (blk_get0 KSm_b0) (by decide) rfl wl_RX10_313 mn_X10_lineOf rfl (by decide) (Nat.le_of_ble_eq_true rfl) ⟨_, rfl⟩ dX10_flush_24 (fun v5 M6 _ => ?_)
    refine c_istore_n (i := 3) dX10_flush_27 rfl (by decide) (ls2 := [(0, .inr 0), (1, .inl x1), (2, .inl x2), (3, .inl v5)]) rfl ?_
    refine c_iload_n (i := 3) dX10_flush_28 rfl rfl ?_
    refine c_iconst dX10_flush_29 (v := (-1)) rfl ?_
    refine c_icmp_eq (tgt := 45) dX10_flush_30 rfl (fun h7 => ?_) (fun h7 => ?_)
    · refine c_keep [] (ls2 := []) rfl ?_
      exact jo_X10_flush_45 d hlev M6
    · refine c_aload_n (i := 0) dX10_flush_33 rfl rfl ?_
      refine c_iload_n (i := 3) dX10_flush_34 rfl rfl ?_
      refine c_callV (as := [.inl v5]) (rs := []) (ev_X10_cleans 1 (Nat.le_refl _) v5 M6) rfl (Nat.lt_of_lt_of_le (by decide) hlev) mw_X10_cleans wi_X10_cleans wv_X10_cleans (blk_get0 KSm_b0) (by decide) rfl wl_RX10_316 mn_X10_cleans rfl (by decide) (Nat.le_of_ble_eq_true rfl) ⟨_, rfl⟩ dX10_flush_35 (fun v9 M10 _ => ?_)
      have J_z11 : ∀ z11 : Int32, isB z11 → CorM KSm ST1 RX10 cX10_flush 4 (some .boolean) d 46 [] [.inl z11] M10 (some (z11, M10)) := by
        intro z11 h_z11
        exact c_zret rfl h_z11 dX10_flush_46
      refine c_val (b := v9 = 0) (v1 := (0 : Int32)) (v2 := (1 : Int32)) (F := fun z11 => some (z11, M10)) (fun h12 => ?_) (fun h12 => ?_)
      · refine c_T h12 (c_if_eq (tgt := 45) dX10_flush_38 rfl (fun _ => ?_) (fun q => absurd h12 q))
        refine c_iconst dX10_flush_45 (v := 0) rfl ?_
        refine c_keep [] (ls2 := []) rfl ?_
        exact J_z11 0 (Or.inl rfl)
      · refine c_Fl h12 (c_if_eq (tgt := 45) dX10_flush_38 rfl (fun q => absurd q h12) (fun _ => ?_))
        refine c_iconst dX10_flush_41 (v := 1) rfl ?_
        refine c_goto (tgt := 46) dX10_flush_42 rfl ?_
        refine c_keep [] (ls2 := []) rfl ?_
        exact J_z11 1 (Or.inr rfl)
  · refine c_iconst dX10_flush_19 (v := 0) rfl ?_
    exact c_zret rfl (Or.inl rfl) dX10_flush_20

abbrev mdX10_flushAll : MD := (yX10_flushAll, cX10_flushAll, 3, (some .int))
theorem mw_X10_flushAll : mdW mdX10_flushAll := ⟨wm_X10_flushAll, w0_RX10, by decide, by decide⟩
theorem mn_X10_flushAll : (parseMethodDescriptor yX10_flushAll.desc).map (fun d => d.parameters.length) = some 0 := by decide +kernel
def l_X10_flushAll_9 (K9 : Int32 × Int32 × Mem → Option (Int32 × Mem)) : Int32 × Int32 × Mem → Option (Int32 × Mem) := fun s => match s with
  | (x1, x2, M) => if (M 1 1578) ≤ x2 then some (x1, M) else bnd (f_X10_cleans x2 M) (fun v3 M4 => K9 (x1 + (if v3 = 0 then (0 : Int32) else (1 : Int32)), x2 + 1, M4))
set_option maxRecDepth 20000 in
set_option maxHeartbeats 2000000 in
theorem lo_X10_flushAll_9 (d : Nat) (hlev : 2 ≤ d) (s : Int32 × Int32 × Mem) : CorM KSm ST1 RX10 cX10_flushAll 3 (some .int) d 9 [(0, .inr 0), (1, .inl s.1), (2, .inl s.2.1)] [] s.2.2 (loopC (l_X10_flushAll_9) fuelL s) := by
  refine c_loop (L := fun s : Int32 × Int32 × Mem => [(0, .inr 0), (1, .inl s.1), (2, .inl s.2.1)]) (Mf := fun s : Int32 × Int32 × Mem => s.2.2) (fun K9 hK9 s => ?_) fuelL s
  obtain ⟨x1, x2, M⟩ := s
  show CorM KSm ST1 RX10 cX10_flushAll 3 (some .int) d 9 [(0, .inr 0), (1, .inl x1), (2, .inl x2)] [] M (l_X10_flushAll_9 K9 (x1, x2, M))
  unfold l_X10_flushAll_9
  refine c_iload_n (i := 2) dX10_flushAll_9 rfl rfl ?_
  refine c_aload_n (i := 0) dX10_flushAll_10 rfl rfl ?_
  refine gf_RX10_9 (blk_get0 KSm_b0) dX10_flushAll_11 ?_
  refine c_sipush dX10_flushAll_14 (v := 1578) rfl ?_
  refine c_iald (blk_get0 (blk_sub (C := [(20, 1671)]) (i := 1) KSm_b0 rfl)) (by decide) dX10_flushAll_17 ?_
  refine c_icmp_ge (tgt := 43) dX10_flushAll_18 rfl (fun h2 => ?_) (fun h2 => ?_)
  · refine c_iload_n (i := 1) dX10_flushAll_43 rfl rfl ?_
    exact c_iret rfl dX10_flushAll_44
  · refine c_iload_n (i := 1) dX10_flushAll_21 rfl rfl ?_
    refine c_aload_n (i := 0) dX10_flushAll_22 rfl rfl ?_
    refine c_iload_n (i := 2) dX10_flushAll_23 rfl rfl ?_
    refine c_callV (as := [.inl x2]) (rs := [.inl x1]) (ev_X10_cleans 1 (Nat.le_refl _) x2 M) rfl (Nat.lt_of_lt_of_le (by decide) hlev) mw_X10_cleans wi_X10_cleans wv_X10_cleans (blk_get0 KSm_b0) (by decide) rfl wl_RX10_316 mn_X10_cleans rfl (by decide) (Nat.le_of_ble_eq_true rfl) ⟨_, rfl⟩ dX10_flushAll_24 (fun v3 M4 _ => ?_)
    have J_z5 : ∀ z5 : Int32, isB z5 → CorM KSm ST1 RX10 cX10_flushAll 3 (some .int) d 35 [(0, .inr 0), (2, .inl x2)] [.inl z5, .inl x1] M4 (K9 (x1 + z5, x2 + 1, M4)) := by
      intro z5 h_z5
      refine c_iadd dX10_flushAll_35 ?_
      refine c_istore_n (i := 1) dX10_flushAll_36 rfl (by decide) (ls2 := [(0, .inr 0), (1, .inl (x1 + z5)), (2, .inl x2)]) rfl ?_
      refine c_iinc dX10_flushAll_37 rfl (v := 1) rfl (by decide) (ls2 := [(0, .inr 0), (1, .inl (x1 + z5)), (2, .inl (x2 + 1))]) rfl ?_
      refine c_goto (tgt := 9) dX10_flushAll_40 rfl ?_
      refine c_keep [0, 1, 2] (ls2 := [(0, .inr 0), (1, .inl (x1 + z5)), (2, .inl (x2 + 1))]) rfl ?_
      exact hK9 (x1 + z5, x2 + 1, M4)
    refine c_val (b := v3 = 0) (v1 := (0 : Int32)) (v2 := (1 : Int32)) (F := fun z5 => K9 (x1 + z5, x2 + 1, M4)) (fun h6 => ?_) (fun h6 => ?_)
    · refine c_T h6 (c_if_eq (tgt := 34) dX10_flushAll_27 rfl (fun _ => ?_) (fun q => absurd h6 q))
      refine c_iconst dX10_flushAll_34 (v := 0) rfl ?_
      refine c_keep [0, 2] (ls2 := [(0, .inr 0), (2, .inl x2)]) rfl ?_
      exact J_z5 0 (Or.inl rfl)
    · refine c_Fl h6 (c_if_eq (tgt := 34) dX10_flushAll_27 rfl (fun q => absurd q h6) (fun _ => ?_))
      refine c_iconst dX10_flushAll_30 (v := 1) rfl ?_
      refine c_goto (tgt := 35) dX10_flushAll_31 rfl ?_
      refine c_keep [0, 2] (ls2 := [(0, .inr 0), (2, .inl x2)]) rfl ?_
      exact J_z5 1 (Or.inr rfl)
def f_X10_flushAll (M : Mem) : Option (Int32 × Mem) := wrt (up M 0 0 0) (fun M1 => loopC (l_X10_flushAll_9) fuelL (0, 0, M1))
set_option maxRecDepth 20000 in
set_option maxHeartbeats 2000000 in
theorem ev_X10_flushAll (d : Nat) (hlev : 2 ≤ d) (M : Mem) : Ev KSm ST1 mdX10_flushAll d [.inr 0] M (f_X10_flushAll M) := by
  refine ev_of rfl (Nat.le_of_ble_eq_true rfl) ?_
  show CorM KSm ST1 RX10 cX10_flushAll 3 (some .int) d 0 [(0, .inr 0)] [] M (f_X10_flushAll M)
  unfold f_X10_flushAll
  refine c_aload_n (i := 0) dX10_flushAll_0 rfl rfl ?_
  refine c_iconst dX10_flushAll_1 (v := 0) rfl ?_
  refine pf_RX10_60 (blk_get0 KSm_b0) dX10_flushAll_2 ?_
  refine c_wrt (fun M1 => ?_)
  refine c_iconst dX10_flushAll_5 (v := 0) rfl ?_
  refine c_istore_n (i := 1) dX10_flushAll_6 rfl (by decide) (ls2 := [(0, .inr 0), (1, .inl 0)]) rfl ?_
  refine c_iconst dX10_flushAll_7 (v := 0) rfl ?_
  refine c_istore_n (i := 2) dX10_flushAll_8 rfl (by decide) (ls2 := [(0, .inr 0), (1, .inl 0), (2, .inl 0)]) rfl ?_
  refine c_keep [0, 1, 2] (ls2 := [(0, .inr 0), (1, .inl 0), (2, .inl 0)]) rfl ?_
  exact lo_X10_flushAll_9 d hlev (0, 0, M1)

abbrev mdX10_invalidate : MD := (yX10_invalidate, cX10_invalidate, 4, (some .boolean))
theorem mw_X10_invalidate : mdW mdX10_invalidate := ⟨wm_X10_invalidate, w0_RX10, by decide, by decide⟩
theorem mn_X10_invalidate : (parseMethodDescriptor yX10_invalidate.desc).map (fun d => d.parameters.length) = some 2 := by decide +kernel
def j_X10_invalidate_38 (x3 : Int32) (M : Mem) : Option (Int32 × Mem) := some ((if x3 = (-1) then (0 : Int32) else (1 : Int32)), M)
set_option maxRecDepth 20000 in
set_option maxHeartbeats 2000000 in
theorem jo_X10_invalidate_38 (d : Nat) (hlev : 3 ≤ d) (x3 : Int32) (M : Mem) : CorM KSm ST1 RX10 cX10_invalidate 4 (some .boolean) d 38 [(3, .inl x3)] [] M (j_X10_invalidate_38 x3 M) := by
  unfold j_X10_invalidate_38
  refine c_iload_n (i := 3) dX10_invalidate_38 rfl rfl ?_
  refine c_iconst dX10_invalidate_39 (v := (-1)) rfl ?_
  have J_z8 : ∀ z8 : Int32, isB z8 → CorM KSm ST1 RX10 cX10_invalidate 4 (some .boolean) d 48 [] [.inl z8] M (some (z8, M)) := by
    intro z8 h_z8
    exact c_zret rfl h_z8 dX10_invalidate_48
  refine c_val (b := x3 = (-1)) (v1 := (0 : Int32)) (v2 := (1 : Int32)) (F := fun z8 => some (z8, M)) (fun h9 => ?_) (fun h9 => ?_)
  · refine c_T h9 (c_icmp_eq (tgt := 47) dX10_invalidate_40 rfl (fun _ => ?_) (fun q => absurd h9 q))
    refine c_iconst dX10_invalidate_47 (v := 0) rfl ?_
    refine c_keep [] (ls2 := []) rfl ?_
    exact J_z8 0 (Or.inl rfl)
  · refine c_Fl h9 (c_icmp_eq (tgt := 47) dX10_invalidate_40 rfl (fun q => absurd q h9) (fun _ => ?_))
    refine c_iconst dX10_invalidate_43 (v := 1) rfl ?_
    refine c_goto (tgt := 48) dX10_invalidate_44 rfl ?_
    refine c_keep [] (ls2 := []) rfl ?_
    exact J_z8 1 (Or.inr rfl)
def f_X10_invalidate (x1 : Int32) (x2 : Int32) (M : Mem) : Option (Int32 × Mem) := wrt (up M 0 0 0) (fun M1 => bnd (f_X10_may (p_X10_isRow x1 x2 M1) 1 M1) (fun v2 M3 => if ¬ v2 = 0 then bnd (f_X10_lineOf x1 x2 M3) (fun v5 M6 => if v5 = (-1) then j_X10_invalidate_38 v5 M6 else bnd (f_X10_goes v5 M6) (fun _ M11 => j_X10_invalidate_38 v5 M11)) else some (0, M3)))
set_option maxRecDepth 20000 in
set_option maxHeartbeats 2000000 in
theorem ev_X10_invalidate (d : Nat) (hlev : 3 ≤ d) (x1 : Int32) (x2 : Int32) (M : Mem) : Ev KSm ST1 mdX10_invalidate d [.inr 0, .inl x1, .inl x2] M (f_X10_invalidate x1 x2 M) := by
  refine ev_of rfl (Nat.le_of_ble_eq_true rfl) ?_
  show CorM KSm ST1 RX10 cX10_invalidate 4 (some .boolean) d 0 [(0, .inr 0), (1, .inl x1), (2, .inl x2)] [] M (f_X10_invalidate x1 x2 M)
  unfold f_X10_invalidate
  refine c_aload_n (i := 0) dX10_invalidate_0 rfl rfl ?_
  refine c_iconst dX10_invalidate_1 (v := 0) rfl ?_
  refine pf_RX10_60 (blk_get0 KSm_b0) dX10_invalidate_2 ?_
  refine c_wrt (fun M1 => ?_)
  refine c_aload_n (i := 0) dX10_invalidate_5 rfl rfl ?_
  refine c_aload_n (i := 0) dX10_invalidate_6 rfl rfl ?_
  refine c_iload_n (i := 1) dX10_invalidate_7 rfl rfl ?_
  refine c_iload_n (i := 2) dX10_invalidate_8 rfl rfl ?_
  refine c_callVp (as := [.inl x1, .inl x2]) (rs := [.inr 0]) (ev_X10_isRow 2 (Nat.le_refl _) x1 x2 M1) rfl (Nat.lt_of_lt_of_le (by decide) hlev) mw_X10_isRow wi_X10_isRow wv_X10_isRow (blk_get0 KSm_b0) (by decide) rfl wl_RX10_241 mn_X10_isRow rfl (by decide) (Nat.le_of_ble_eq_true rfl) ⟨_, rfl⟩ dX10_invalidate_9 ?_
  refine c_iconst dX10_invalidate_12 (v := 1) rfl ?_
  refine c_callV (as := [.inl (p_X10_isRow x1 x2 M1), .inl 1]) (rs := []) (ev_X10_may 0 (Nat.le_refl _) (p_X10_isRow x1 x2 M1) 1 M1) rfl (Nat.lt_of_lt_of_le (by decide) hlev) mw_X10_may wi_X10_may wv_X10_may (blk_get0 KSm_b0) (by decide) rfl wl_RX10_66 mn_X10_may rfl (by decide) (Nat.le_of_ble_eq_true rfl) ⟨_, rfl⟩ dX10_invalidate_13 (fun v2 M3 _ => ?_)
  refine c_if_ne (tgt := 21) dX10_invalidate_16 rfl (fun h4 => ?_) (fun h4 => ?_)
  · refine c_aload_n (i := 0) dX10_invalidate_21 rfl rfl ?_
    refine c_iload_n (i := 1) dX10_invalidate_22 rfl rfl ?_
    refine c_iload_n (i := 2) dX10_invalidate_23 rfl rfl ?_
    refine c_callV (as := [.inl x1, .inl x2]) (rs := []) (ev_X10_lineOf 1 (Nat.le_refl _) x1 x2 M3) rfl (Nat.lt_of_lt_of_le (by decide) hlev) mw_X10_lineOf wi_X10_lineOf wv_X10_lineOf (blk_get0 KSm_b0) (by decide) rfl wl_RX10_313 mn_X10_lineOf rfl (by decide) (Nat.le_of_ble_eq_true rfl) ⟨_, rfl⟩ dX10_invalidate_24 (fun v5 M6 _ => ?_)
    refine c_istore_n (i := 3) dX10_invalidate_27 rfl (by decide) (ls2 := [(0, .inr 0), (1, .inl x1), (2, .inl x2), (3, .inl v5)]) rfl ?_
    refine c_iload_n (i := 3) dX10_invalidate_28 rfl rfl ?_
    refine c_iconst dX10_invalidate_29 (v := (-1)) rfl ?_
    refine c_icmp_eq (tgt := 38) dX10_invalidate_30 rfl (fun h7 => ?_) (fun h7 => ?_)
    · refine c_keep [3] (ls2 := [(3, .inl v5)]) rfl ?_
      exact jo_X10_invalidate_38 d hlev v5 M6
    · refine c_aload_n (i := 0) dX10_invalidate_33 rfl rfl ?_
      refine c_iload_n (i := 3) dX10_invalidate_34 rfl rfl ?_
      refine c_callVv (as := [.inl v5]) (rs := []) (ev_X10_goes 1 (Nat.le_refl _) v5 M6) rfl (Nat.lt_of_lt_of_le (by decide) hlev) mw_X10_goes wi_X10_goes wv_X10_goes (blk_get0 KSm_b0) (by decide) rfl wl_RX10_319 mn_X10_goes rfl (by decide) (Nat.le_of_ble_eq_true rfl) rfl dX10_invalidate_35 (fun v10 M11 _ => ?_)
      refine c_keep [3] (ls2 := [(3, .inl v5)]) rfl ?_
      exact jo_X10_invalidate_38 d hlev v5 M11
  · refine c_iconst dX10_invalidate_19 (v := 0) rfl ?_
    exact c_zret rfl (Or.inl rfl) dX10_invalidate_20
