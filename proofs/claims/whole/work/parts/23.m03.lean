abbrev mdX2_parseOperands : MD := (yX2_parseOperands, cX2_parseOperands, 3, none)
theorem mw_X2_parseOperands : mdW mdX2_parseOperands := ⟨wm_X2_parseOperands, w0_RX2, by decide, by decide⟩
theorem mn_X2_parseOperands : (parseMethodDescriptor yX2_parseOperands.desc).map (fun d => d.parameters.length) = some 1 := by decide +kernel
def j_X2_parseOperands_153 (M : Mem) : Option (Int32 × Mem) := some (0, M)
set_option maxRecDepth 20000 in
set_option maxHeartbeats 2000000 in
theorem jo_X2_parseOperands_153 (d : Nat) (hlev : 3 ≤ d) (M : Mem) : CorM KSx ST1 RX2 cX2_parseOperands 3 none d 153 [] [] M (j_X2_parseOperands_153 M) := by
  unfold j_X2_parseOperands_153
  exact c_vret rfl dX2_parseOperands_153
def j_X2_parseOperands_69 (x1 : Int32) (M : Mem) : Option (Int32 × Mem) := if ¬ M 2 1 < 0 ∧ blkD KSx (ix (M 2 1)) blk4 then if ¬ M 2 1 < 0 ∧ blkD KSx (ix (M 2 1)) blk4 then bnd (f_X2_takeNumber 0 ((M (ix (M 2 1)) 1) - 1) M) (fun v18 M19 => if inb x1 60 then wrt (up M19 (ix (M 2 1) + 8) (ix x1) v18) (fun M21 => j_X2_parseOperands_153 M21) else none) else none else none
set_option maxRecDepth 20000 in
set_option maxHeartbeats 2000000 in
theorem jo_X2_parseOperands_69 (d : Nat) (hlev : 3 ≤ d) (x1 : Int32) (M : Mem) : CorM KSx ST1 RX2 cX2_parseOperands 3 none d 69 [(0, .inr 2), (1, .inl x1)] [] M (j_X2_parseOperands_69 x1 M) := by
  unfold j_X2_parseOperands_69
  refine c_aload_n (i := 0) dX2_parseOperands_69 rfl rfl ?_
  refine c_chk (fun h16 => ?_)
  refine gf_RX2_22 (blk_get0 KSx_b2) h16.1 dX2_parseOperands_70 ?_
  refine gf_RX2_125 (blk_get0 (blk_of h16.2)) dX2_parseOperands_73 ?_
  refine c_iload_n (i := 1) dX2_parseOperands_76 rfl rfl ?_
  refine c_aload_n (i := 0) dX2_parseOperands_77 rfl rfl ?_
  refine c_iconst dX2_parseOperands_78 (v := 0) rfl ?_
  refine c_aload_n (i := 0) dX2_parseOperands_79 rfl rfl ?_
  refine c_chk (fun h17 => ?_)
  refine gf_RX2_22 (blk_get0 KSx_b2) h17.1 dX2_parseOperands_80 ?_
  refine gf_RX2_64 (blk_get0 (blk_of h17.2)) dX2_parseOperands_83 ?_
  refine c_iconst dX2_parseOperands_86 (v := 1) rfl ?_
  refine c_isub dX2_parseOperands_87 ?_
  refine c_callV (as := [.inl 0, .inl ((M (ix (M 2 1)) 1) - 1)]) (rs := [.inl x1, .inr (ix (M 2 1) + 8)]) (ev_X2_takeNumber 1 (Nat.le_refl _) 0 ((M (ix (M 2 1)) 1) - 1) M) rfl (Nat.lt_of_lt_of_le (by decide) hlev) mw_X2_takeNumber wi_X2_takeNumber wv_X2_takeNumber (blk_get0 KSx_b2) (by decide) rfl wl_RX2_57 mn_X2_takeNumber rfl (by decide) (Nat.le_of_ble_eq_true rfl) ⟨_, rfl⟩ dX2_parseOperands_88 (fun v18 M19 _ => ?_)
  refine c_chk (fun h20 => ?_)
  refine c_iast (blk_get0 (blk_sub (C := [(20, 60)]) (i := 8) (blk_of h16.2) rfl)) h20 dX2_parseOperands_91 ?_
  refine c_wrt (fun M21 => ?_)
  refine c_goto (tgt := 153) dX2_parseOperands_92 rfl ?_
  refine c_keep [] (ls2 := []) rfl ?_
  exact jo_X2_parseOperands_153 d hlev M21
def j_X2_parseOperands_42 (x1 : Int32) (x2 : Int32) (M : Mem) : Option (Int32 × Mem) := if ¬ M 2 1 < 0 ∧ blkD KSx (ix (M 2 1)) blk4 then bnd (f_X2_takeNumber 0 3 M) (fun v11 M12 => if inb x1 60 then wrt (up M12 (ix (M 2 1) + 7) (ix x1) v11) (fun M14 => if x2 = 9 then j_X2_parseOperands_69 x1 M14 else if ¬ x2 = 10 then if ¬ x2 = 11 then if ¬ x2 = 34 then j_X2_parseOperands_153 M14 else if ¬ M14 2 1 < 0 ∧ blkD KSx (ix (M14 2 1)) blk4 then bnd (f_X2_takeNumber 0 3 M14) (fun v26 M27 => if inb x1 60 then wrt (up M27 (ix (M14 2 1) + 8) (ix x1) v26) (fun M29 => if ¬ M29 2 1 < 0 ∧ blkD KSx (ix (M29 2 1)) blk4 then bnd (f_X2_takeNumber 0 3 M29) (fun v31 M32 => if inb x1 60 then wrt (up M32 (ix (M29 2 1) + 9) (ix x1) v31) (fun M34 => j_X2_parseOperands_153 M34) else none) else none) else none) else none else if ¬ M14 2 1 < 0 ∧ blkD KSx (ix (M14 2 1)) blk4 then bnd (f_X2_takeSignedNumber M14) (fun v36 M37 => if inb x1 60 then wrt (up M37 (ix (M14 2 1) + 8) (ix x1) v36) (fun M39 => j_X2_parseOperands_153 M39) else none) else none else j_X2_parseOperands_69 x1 M14) else none) else none
set_option maxRecDepth 20000 in
set_option maxHeartbeats 2000000 in
theorem jo_X2_parseOperands_42 (d : Nat) (hlev : 3 ≤ d) (x1 : Int32) (x2 : Int32) (M : Mem) : CorM KSx ST1 RX2 cX2_parseOperands 3 none d 42 [(0, .inr 2), (1, .inl x1), (2, .inl x2)] [] M (j_X2_parseOperands_42 x1 x2 M) := by
  unfold j_X2_parseOperands_42
  refine c_aload_n (i := 0) dX2_parseOperands_42 rfl rfl ?_
  refine c_chk (fun h10 => ?_)
  refine gf_RX2_22 (blk_get0 KSx_b2) h10.1 dX2_parseOperands_43 ?_
  refine gf_RX2_122 (blk_get0 (blk_of h10.2)) dX2_parseOperands_46 ?_
  refine c_iload_n (i := 1) dX2_parseOperands_49 rfl rfl ?_
  refine c_aload_n (i := 0) dX2_parseOperands_50 rfl rfl ?_
  refine c_iconst dX2_parseOperands_51 (v := 0) rfl ?_
  refine c_iconst dX2_parseOperands_52 (v := 3) rfl ?_
  refine c_callV (as := [.inl 0, .inl 3]) (rs := [.inl x1, .inr (ix (M 2 1) + 7)]) (ev_X2_takeNumber 1 (Nat.le_refl _) 0 3 M) rfl (Nat.lt_of_lt_of_le (by decide) hlev) mw_X2_takeNumber wi_X2_takeNumber wv_X2_takeNumber (blk_get0 KSx_b2) (by decide) rfl wl_RX2_57 mn_X2_takeNumber rfl (by decide) (Nat.le_of_ble_eq_true rfl) ⟨_, rfl⟩ dX2_parseOperands_53 (fun v11 M12 _ => ?_)
  refine c_chk (fun h13 => ?_)
  refine c_iast (blk_get0 (blk_sub (C := [(20, 60)]) (i := 7) (blk_of h10.2) rfl)) h13 dX2_parseOperands_56 ?_
  refine c_wrt (fun M14 => ?_)
  refine c_iload_n (i := 2) dX2_parseOperands_57 rfl rfl ?_
  refine c_bipush dX2_parseOperands_58 (v := 9) rfl ?_
  refine c_icmp_eq (tgt := 69) dX2_parseOperands_60 rfl (fun h15 => ?_) (fun h15 => ?_)
  · refine c_keep [0, 1] (ls2 := [(0, .inr 2), (1, .inl x1)]) rfl ?_
    exact jo_X2_parseOperands_69 d hlev x1 M14
  · refine c_iload_n (i := 2) dX2_parseOperands_63 rfl rfl ?_
    refine c_bipush dX2_parseOperands_64 (v := 10) rfl ?_
    refine c_icmp_ne (tgt := 95) dX2_parseOperands_66 rfl (fun h22 => ?_) (fun h22 => ?_)
    · refine c_iload_n (i := 2) dX2_parseOperands_95 rfl rfl ?_
      refine c_bipush dX2_parseOperands_96 (v := 11) rfl ?_
      refine c_icmp_ne (tgt := 117) dX2_parseOperands_98 rfl (fun h23 => ?_) (fun h23 => ?_)
      · refine c_iload_n (i := 2) dX2_parseOperands_117 rfl rfl ?_
        refine c_bipush dX2_parseOperands_118 (v := 34) rfl ?_
        refine c_icmp_ne (tgt := 153) dX2_parseOperands_120 rfl (fun h24 => ?_) (fun h24 => ?_)
        · refine c_keep [] (ls2 := []) rfl ?_
          exact jo_X2_parseOperands_153 d hlev M14
        · refine c_aload_n (i := 0) dX2_parseOperands_123 rfl rfl ?_
          refine c_chk (fun h25 => ?_)
          refine gf_RX2_22 (blk_get0 KSx_b2) h25.1 dX2_parseOperands_124 ?_
          refine gf_RX2_125 (blk_get0 (blk_of h25.2)) dX2_parseOperands_127 ?_
          refine c_iload_n (i := 1) dX2_parseOperands_130 rfl rfl ?_
          refine c_aload_n (i := 0) dX2_parseOperands_131 rfl rfl ?_
          refine c_iconst dX2_parseOperands_132 (v := 0) rfl ?_
          refine c_iconst dX2_parseOperands_133 (v := 3) rfl ?_
          refine c_callV (as := [.inl 0, .inl 3]) (rs := [.inl x1, .inr (ix (M14 2 1) + 8)]) (ev_X2_takeNumber 1 (Nat.le_refl _) 0 3 M14) rfl (Nat.lt_of_lt_of_le (by decide) hlev) mw_X2_takeNumber wi_X2_takeNumber wv_X2_takeNumber (blk_get0 KSx_b2) (by decide) rfl wl_RX2_57 mn_X2_takeNumber rfl (by decide) (Nat.le_of_ble_eq_true rfl) ⟨_, rfl⟩ dX2_parseOperands_134 (fun v26 M27 _ => ?_)
          refine c_chk (fun h28 => ?_)
          refine c_iast (blk_get0 (blk_sub (C := [(20, 60)]) (i := 8) (blk_of h25.2) rfl)) h28 dX2_parseOperands_137 ?_
          refine c_wrt (fun M29 => ?_)
          refine c_aload_n (i := 0) dX2_parseOperands_138 rfl rfl ?_
          refine c_chk (fun h30 => ?_)
          refine gf_RX2_22 (blk_get0 KSx_b2) h30.1 dX2_parseOperands_139 ?_
          refine gf_RX2_131 (blk_get0 (blk_of h30.2)) dX2_parseOperands_142 ?_
          refine c_iload_n (i := 1) dX2_parseOperands_145 rfl rfl ?_
          refine c_aload_n (i := 0) dX2_parseOperands_146 rfl rfl ?_
          refine c_iconst dX2_parseOperands_147 (v := 0) rfl ?_
          refine c_iconst dX2_parseOperands_148 (v := 3) rfl ?_
          refine c_callV (as := [.inl 0, .inl 3]) (rs := [.inl x1, .inr (ix (M29 2 1) + 9)]) (ev_X2_takeNumber 1 (Nat.le_refl _) 0 3 M29) rfl (Nat.lt_of_lt_of_le (by decide) hlev) mw_X2_takeNumber wi_X2_takeNumber wv_X2_takeNumber (blk_get0 KSx_b2) (by decide) rfl wl_RX2_57 mn_X2_takeNumber rfl (by decide) (Nat.le_of_ble_eq_true rfl) ⟨_, rfl⟩ dX2_parseOperands_149 (fun v31 M32 _ => ?_)
          refine c_chk (fun h33 => ?_)
          refine c_iast (blk_get0 (blk_sub (C := [(20, 60)]) (i := 9) (blk_of h30.2) rfl)) h33 dX2_parseOperands_152 ?_
          refine c_wrt (fun M34 => ?_)
          refine c_keep [] (ls2 := []) rfl ?_
          exact jo_X2_parseOperands_153 d hlev M34
      · refine c_aload_n (i := 0) dX2_parseOperands_101 rfl rfl ?_
        refine c_chk (fun h35 => ?_)
        refine gf_RX2_22 (blk_get0 KSx_b2) h35.1 dX2_parseOperands_102 ?_
        refine gf_RX2_125 (blk_get0 (blk_of h35.2)) dX2_parseOperands_105 ?_
        refine c_iload_n (i := 1) dX2_parseOperands_108 rfl rfl ?_
        refine c_aload_n (i := 0) dX2_parseOperands_109 rfl rfl ?_
        refine c_callV (as := []) (rs := [.inl x1, .inr (ix (M14 2 1) + 8)]) (ev_X2_takeSignedNumber 2 (Nat.le_refl _) M14) rfl (Nat.lt_of_lt_of_le (by decide) hlev) mw_X2_takeSignedNumber wi_X2_takeSignedNumber wv_X2_takeSignedNumber (blk_get0 KSx_b2) (by decide) rfl wl_RX2_128 mn_X2_takeSignedNumber rfl (by decide) (Nat.le_of_ble_eq_true rfl) ⟨_, rfl⟩ dX2_parseOperands_110 (fun v36 M37 _ => ?_)
        refine c_chk (fun h38 => ?_)
        refine c_iast (blk_get0 (blk_sub (C := [(20, 60)]) (i := 8) (blk_of h35.2) rfl)) h38 dX2_parseOperands_113 ?_
        refine c_wrt (fun M39 => ?_)
        refine c_goto (tgt := 153) dX2_parseOperands_114 rfl ?_
        refine c_keep [] (ls2 := []) rfl ?_
        exact jo_X2_parseOperands_153 d hlev M39
    · refine c_keep [0, 1] (ls2 := [(0, .inr 2), (1, .inl x1)]) rfl ?_
      exact jo_X2_parseOperands_69 d hlev x1 M14
def j_X2_parseOperands_29 (x1 : Int32) (x2 : Int32) (M : Mem) : Option (Int32 × Mem) := if ¬ M 2 1 < 0 ∧ blkD KSx (ix (M 2 1)) blk4 then bnd (f_X2_takeReduction M) (fun v6 M7 => if inb x1 60 then wrt (up M7 (ix (M 2 1) + 6) (ix x1) v6) (fun M9 => j_X2_parseOperands_42 x1 x2 M9) else none) else none
set_option maxRecDepth 20000 in
set_option maxHeartbeats 2000000 in
theorem jo_X2_parseOperands_29 (d : Nat) (hlev : 3 ≤ d) (x1 : Int32) (x2 : Int32) (M : Mem) : CorM KSx ST1 RX2 cX2_parseOperands 3 none d 29 [(0, .inr 2), (1, .inl x1), (2, .inl x2)] [] M (j_X2_parseOperands_29 x1 x2 M) := by
  unfold j_X2_parseOperands_29
  refine c_aload_n (i := 0) dX2_parseOperands_29 rfl rfl ?_
  refine c_chk (fun h5 => ?_)
  refine gf_RX2_22 (blk_get0 KSx_b2) h5.1 dX2_parseOperands_30 ?_
  refine gf_RX2_113 (blk_get0 (blk_of h5.2)) dX2_parseOperands_33 ?_
  refine c_iload_n (i := 1) dX2_parseOperands_36 rfl rfl ?_
  refine c_aload_n (i := 0) dX2_parseOperands_37 rfl rfl ?_
  refine c_callV (as := []) (rs := [.inl x1, .inr (ix (M 2 1) + 6)]) (ev_X2_takeReduction 2 (Nat.le_refl _) M) rfl (Nat.lt_of_lt_of_le (by decide) hlev) mw_X2_takeReduction wi_X2_takeReduction wv_X2_takeReduction (blk_get0 KSx_b2) (by decide) rfl wl_RX2_119 mn_X2_takeReduction rfl (by decide) (Nat.le_of_ble_eq_true rfl) ⟨_, rfl⟩ dX2_parseOperands_38 (fun v6 M7 _ => ?_)
  refine c_chk (fun h8 => ?_)
  refine c_iast (blk_get0 (blk_sub (C := [(20, 60)]) (i := 6) (blk_of h5.2) rfl)) h8 dX2_parseOperands_41 ?_
  refine c_wrt (fun M9 => ?_)
  refine c_keep [0, 1, 2] (ls2 := [(0, .inr 2), (1, .inl x1), (2, .inl x2)]) rfl ?_
  exact jo_X2_parseOperands_42 d hlev x1 x2 M9
def f_X2_parseOperands (x1 : Int32) (M : Mem) : Option (Int32 × Mem) := if ¬ M 2 1 < 0 ∧ blkD KSx (ix (M 2 1)) blk4 then if inb x1 60 then if ¬ (M (ix (M 2 1) + 5) (ix x1)) = 14 then if (M (ix (M 2 1) + 5) (ix x1)) = 8 then j_X2_parseOperands_29 x1 (M (ix (M 2 1) + 5) (ix x1)) M else if ¬ (M (ix (M 2 1) + 5) (ix x1)) = 12 then j_X2_parseOperands_42 x1 (M (ix (M 2 1) + 5) (ix x1)) M else j_X2_parseOperands_29 x1 (M (ix (M 2 1) + 5) (ix x1)) M else some (0, M) else none else none
set_option maxRecDepth 20000 in
set_option maxHeartbeats 2000000 in
theorem ev_X2_parseOperands (d : Nat) (hlev : 3 ≤ d) (x1 : Int32) (M : Mem) : Ev KSx ST1 mdX2_parseOperands d [.inr 2, .inl x1] M (f_X2_parseOperands x1 M) := by
  refine ev_of rfl (Nat.le_of_ble_eq_true rfl) ?_
  show CorM KSx ST1 RX2 cX2_parseOperands 3 none d 0 [(0, .inr 2), (1, .inl x1)] [] M (f_X2_parseOperands x1 M)
  unfold f_X2_parseOperands
  refine c_aload_n (i := 0) dX2_parseOperands_0 rfl rfl ?_
  refine c_chk (fun h1 => ?_)
  refine gf_RX2_22 (blk_get0 KSx_b2) h1.1 dX2_parseOperands_1 ?_
  refine gf_RX2_110 (blk_get0 (blk_of h1.2)) dX2_parseOperands_4 ?_
  refine c_iload_n (i := 1) dX2_parseOperands_7 rfl rfl ?_
  refine c_chk (fun h2 => ?_)
  refine c_iald (blk_get0 (blk_sub (C := [(20, 60)]) (i := 5) (blk_of h1.2) rfl)) h2 dX2_parseOperands_8 ?_
  refine c_istore_n (i := 2) dX2_parseOperands_9 rfl (by decide) (ls2 := [(0, .inr 2), (1, .inl x1), (2, .inl (M (ix (M 2 1) + 5) (ix x1)))]) rfl ?_
  refine c_iload_n (i := 2) dX2_parseOperands_10 rfl rfl ?_
  refine c_bipush dX2_parseOperands_11 (v := 14) rfl ?_
  refine c_icmp_ne (tgt := 17) dX2_parseOperands_13 rfl (fun h3 => ?_) (fun h3 => ?_)
  · refine c_iload_n (i := 2) dX2_parseOperands_17 rfl rfl ?_
    refine c_bipush dX2_parseOperands_18 (v := 8) rfl ?_
    refine c_icmp_eq (tgt := 29) dX2_parseOperands_20 rfl (fun h4 => ?_) (fun h4 => ?_)
    · refine c_keep [0, 1, 2] (ls2 := [(0, .inr 2), (1, .inl x1), (2, .inl (M (ix (M 2 1) + 5) (ix x1)))]) rfl ?_
      exact jo_X2_parseOperands_29 d hlev x1 (M (ix (M 2 1) + 5) (ix x1)) M
    · refine c_iload_n (i := 2) dX2_parseOperands_23 rfl rfl ?_
      refine c_bipush dX2_parseOperands_24 (v := 12) rfl ?_
      refine c_icmp_ne (tgt := 42) dX2_parseOperands_26 rfl (fun h40 => ?_) (fun h40 => ?_)
      · refine c_keep [0, 1, 2] (ls2 := [(0, .inr 2), (1, .inl x1), (2, .inl (M (ix (M 2 1) + 5) (ix x1)))]) rfl ?_
        exact jo_X2_parseOperands_42 d hlev x1 (M (ix (M 2 1) + 5) (ix x1)) M
      · refine c_keep [0, 1, 2] (ls2 := [(0, .inr 2), (1, .inl x1), (2, .inl (M (ix (M 2 1) + 5) (ix x1)))]) rfl ?_
        exact jo_X2_parseOperands_29 d hlev x1 (M (ix (M 2 1) + 5) (ix x1)) M
  · exact c_vret rfl dX2_parseOperands_16

abbrev mdX2_parseCommand : MD := (yX2_parseCommand, cX2_parseCommand, 3, none)
theorem mw_X2_parseCommand : mdW mdX2_parseCommand := ⟨wm_X2_parseCommand, w0_RX2, by decide, by decide⟩
theorem mn_X2_parseCommand : (parseMethodDescriptor yX2_parseCommand.desc).map (fun d => d.parameters.length) = some 0 := by decide +kernel
def j_X2_parseCommand_17 (M : Mem) : Option (Int32 × Mem) := bnd (f_X2_fail 1 (M 2 4) M) (fun _ M3 => some (0, M3))
set_option maxRecDepth 20000 in
set_option maxHeartbeats 2000000 in
theorem jo_X2_parseCommand_17 (d : Nat) (hlev : 4 ≤ d) (M : Mem) : CorM KSx ST1 RX2 cX2_parseCommand 3 none d 17 [(0, .inr 2)] [] M (j_X2_parseCommand_17 M) := by
  unfold j_X2_parseCommand_17
  refine c_aload_n (i := 0) dX2_parseCommand_17 rfl rfl ?_
  refine c_iconst dX2_parseCommand_18 (v := 1) rfl ?_
  refine c_aload_n (i := 0) dX2_parseCommand_19 rfl rfl ?_
  refine gf_RX2_70 (blk_get0 KSx_b2) dX2_parseCommand_20 ?_
  refine c_callVv (as := [.inl 1, .inl (M 2 4)]) (rs := []) (ev_X2_fail 0 (Nat.le_refl _) 1 (M 2 4) M) rfl (Nat.lt_of_lt_of_le (by decide) hlev) mw_X2_fail wi_X2_fail wv_X2_fail (blk_get0 KSx_b2) (by decide) rfl wl_RX2_73 mn_X2_fail rfl (by decide) (Nat.le_of_ble_eq_true rfl) rfl dX2_parseCommand_23 (fun v2 M3 _ => ?_)
  exact c_vret rfl dX2_parseCommand_26
def f_X2_parseCommand (M : Mem) : Option (Int32 × Mem) := if (M 2 3) < 8 then j_X2_parseCommand_17 M else if (M 2 3) ≤ 22 then if ¬ M 2 1 < 0 ∧ blkD KSx (ix (M 2 1)) blk4 then if (M (ix (M 2 1)) 5) < 60 then bnd (f_X2_take (M 2 3) M) (fun _ M8 => if ¬ M8 2 1 < 0 ∧ blkD KSx (ix (M8 2 1)) blk4 then if inb (M (ix (M 2 1)) 5) 60 then wrt (up M8 (ix (M8 2 1) + 5) (ix (M (ix (M 2 1)) 5)) (if 15 ≤ (M 2 3) then (34 : Int32) else M 2 3)) (fun M12 => if ¬ M12 2 1 < 0 ∧ blkD KSx (ix (M12 2 1)) blk4 then if inb (M (ix (M 2 1)) 5) 60 then wrt (up M12 (ix (M12 2 1) + 6) (ix (M (ix (M 2 1)) 5)) (M 2 3)) (fun M15 => bnd (f_X2_parseOperands (M (ix (M 2 1)) 5) M15) (fun _ M17 => bnd (f_X2_take 30 M17) (fun _ M19 => if ¬ M19 2 1 < 0 ∧ blkD KSx (ix (M19 2 1)) blk4 then wrt (up M19 (ix (M19 2 1)) 5 ((M19 (ix (M19 2 1)) 5) + 1)) (fun M21 => some (0, M21)) else none))) else none else none) else none else none) else bnd (f_X2_fail 4 (M 2 4) M) (fun _ M24 => some (0, M24)) else none else j_X2_parseCommand_17 M
set_option maxRecDepth 20000 in
set_option maxHeartbeats 2000000 in
theorem ev_X2_parseCommand (d : Nat) (hlev : 4 ≤ d) (M : Mem) : Ev KSx ST1 mdX2_parseCommand d [.inr 2] M (f_X2_parseCommand M) := by
  refine ev_of rfl (Nat.le_of_ble_eq_true rfl) ?_
  show CorM KSx ST1 RX2 cX2_parseCommand 3 none d 0 [(0, .inr 2)] [] M (f_X2_parseCommand M)
  unfold f_X2_parseCommand
  refine c_aload_n (i := 0) dX2_parseCommand_0 rfl rfl ?_
  refine gf_RX2_48 (blk_get0 KSx_b2) dX2_parseCommand_1 ?_
  refine c_istore_n (i := 1) dX2_parseCommand_4 rfl (by decide) (ls2 := [(0, .inr 2), (1, .inl (M 2 3))]) rfl ?_
  refine c_iload_n (i := 1) dX2_parseCommand_5 rfl rfl ?_
  refine c_bipush dX2_parseCommand_6 (v := 8) rfl ?_
  refine c_icmp_lt (tgt := 17) dX2_parseCommand_8 rfl (fun h1 => ?_) (fun h1 => ?_)
  · refine c_keep [0] (ls2 := [(0, .inr 2)]) rfl ?_
    exact jo_X2_parseCommand_17 d hlev M
  · refine c_iload_n (i := 1) dX2_parseCommand_11 rfl rfl ?_
    refine c_bipush dX2_parseCommand_12 (v := 22) rfl ?_
    refine c_icmp_le (tgt := 27) dX2_parseCommand_14 rfl (fun h4 => ?_) (fun h4 => ?_)
    · refine c_aload_n (i := 0) dX2_parseCommand_27 rfl rfl ?_
      refine c_chk (fun h5 => ?_)
      refine gf_RX2_22 (blk_get0 KSx_b2) h5.1 dX2_parseCommand_28 ?_
      refine gf_RX2_107 (blk_get0 (blk_of h5.2)) dX2_parseCommand_31 ?_
      refine c_istore_n (i := 2) dX2_parseCommand_34 rfl (by decide) (ls2 := [(0, .inr 2), (1, .inl (M 2 3)), (2, .inl (M (ix (M 2 1)) 5))]) rfl ?_
      refine c_iload_n (i := 2) dX2_parseCommand_35 rfl rfl ?_
      refine c_bipush dX2_parseCommand_36 (v := 60) rfl ?_
      refine c_icmp_lt (tgt := 51) dX2_parseCommand_38 rfl (fun h6 => ?_) (fun h6 => ?_)
      · refine c_aload_n (i := 0) dX2_parseCommand_51 rfl rfl ?_
        refine c_iload_n (i := 1) dX2_parseCommand_52 rfl rfl ?_
        refine c_callVv (as := [.inl (M 2 3)]) (rs := []) (ev_X2_take 1 (Nat.le_refl _) (M 2 3) M) rfl (Nat.lt_of_lt_of_le (by decide) hlev) mw_X2_take wi_X2_take wv_X2_take (blk_get0 KSx_b2) (by decide) rfl wl_RX2_54 mn_X2_take rfl (by decide) (Nat.le_of_ble_eq_true rfl) rfl dX2_parseCommand_53 (fun v7 M8 _ => ?_)
        refine c_aload_n (i := 0) dX2_parseCommand_56 rfl rfl ?_
        refine c_chk (fun h9 => ?_)
        refine gf_RX2_22 (blk_get0 KSx_b2) h9.1 dX2_parseCommand_57 ?_
        refine gf_RX2_110 (blk_get0 (blk_of h9.2)) dX2_parseCommand_60 ?_
        refine c_iload_n (i := 2) dX2_parseCommand_63 rfl rfl ?_
        refine c_iload_n (i := 1) dX2_parseCommand_64 rfl rfl ?_
        refine c_bipush dX2_parseCommand_65 (v := 15) rfl ?_
        have J_z10 : ∀ z10 : Int32, CorM KSx ST1 RX2 cX2_parseCommand 3 none d 76 [(0, .inr 2), (1, .inl (M 2 3)), (2, .inl (M (ix (M 2 1)) 5))] [.inl z10, .inl (M (ix (M 2 1)) 5), .inr (ix (M8 2 1) + 5)] M8 (if inb (M (ix (M 2 1)) 5) 60 then wrt (up M8 (ix (M8 2 1) + 5) (ix (M (ix (M 2 1)) 5)) z10) (fun M12 => if ¬ M12 2 1 < 0 ∧ blkD KSx (ix (M12 2 1)) blk4 then if inb (M (ix (M 2 1)) 5) 60 then wrt (up M12 (ix (M12 2 1) + 6) (ix (M (ix (M 2 1)) 5)) (M 2 3)) (fun M15 => bnd (f_X2_parseOperands (M (ix (M 2 1)) 5) M15) (fun _ M17 => bnd (f_X2_take 30 M17) (fun _ M19 => if ¬ M19 2 1 < 0 ∧ blkD KSx (ix (M19 2 1)) blk4 then wrt (up M19 (ix (M19 2 1)) 5 ((M19 (ix (M19 2 1)) 5) + 1)) (fun M21 => some (0, M21)) else none))) else none else none) else none) := by
          intro z10
          refine c_chk (fun h11 => ?_)
          refine c_iast (blk_get0 (blk_sub (C := [(20, 60)]) (i := 5) (blk_of h9.2) rfl)) h11 dX2_parseCommand_76 ?_
          refine c_wrt (fun M12 => ?_)
          refine c_aload_n (i := 0) dX2_parseCommand_77 rfl rfl ?_
          refine c_chk (fun h13 => ?_)
          refine gf_RX2_22 (blk_get0 KSx_b2) h13.1 dX2_parseCommand_78 ?_
          refine gf_RX2_113 (blk_get0 (blk_of h13.2)) dX2_parseCommand_81 ?_
          refine c_iload_n (i := 2) dX2_parseCommand_84 rfl rfl ?_
          refine c_iload_n (i := 1) dX2_parseCommand_85 rfl rfl ?_
          refine c_chk (fun h14 => ?_)
          refine c_iast (blk_get0 (blk_sub (C := [(20, 60)]) (i := 6) (blk_of h13.2) rfl)) h14 dX2_parseCommand_86 ?_
          refine c_wrt (fun M15 => ?_)
          refine c_aload_n (i := 0) dX2_parseCommand_87 rfl rfl ?_
          refine c_iload_n (i := 2) dX2_parseCommand_88 rfl rfl ?_
          refine c_callVv (as := [.inl (M (ix (M 2 1)) 5)]) (rs := []) (ev_X2_parseOperands 3 (Nat.le_refl _) (M (ix (M 2 1)) 5) M15) rfl (Nat.lt_of_lt_of_le (by decide) hlev) mw_X2_parseOperands wi_X2_parseOperands wv_X2_parseOperands (blk_get0 KSx_b2) (by decide) rfl wl_RX2_116 mn_X2_parseOperands rfl (by decide) (Nat.le_of_ble_eq_true rfl) rfl dX2_parseCommand_89 (fun v16 M17 _ => ?_)
          refine c_aload_n (i := 0) dX2_parseCommand_92 rfl rfl ?_
          refine c_bipush dX2_parseCommand_93 (v := 30) rfl ?_
          refine c_callVv (as := [.inl 30]) (rs := []) (ev_X2_take 1 (Nat.le_refl _) 30 M17) rfl (Nat.lt_of_lt_of_le (by decide) hlev) mw_X2_take wi_X2_take wv_X2_take (blk_get0 KSx_b2) (by decide) rfl wl_RX2_54 mn_X2_take rfl (by decide) (Nat.le_of_ble_eq_true rfl) rfl dX2_parseCommand_95 (fun v18 M19 _ => ?_)
          refine c_aload_n (i := 0) dX2_parseCommand_98 rfl rfl ?_
          refine c_chk (fun h20 => ?_)
          refine gf_RX2_22 (blk_get0 KSx_b2) h20.1 dX2_parseCommand_99 ?_
          refine c_dup dX2_parseCommand_102 ?_
          refine gf_RX2_107 (blk_get0 (blk_of h20.2)) dX2_parseCommand_103 ?_
          refine c_iconst dX2_parseCommand_106 (v := 1) rfl ?_
          refine c_iadd dX2_parseCommand_107 ?_
          refine pf_RX2_107 (blk_get0 (blk_of h20.2)) dX2_parseCommand_108 ?_
          refine c_wrt (fun M21 => ?_)
          exact c_vret rfl dX2_parseCommand_111
        refine c_val (b := 15 ≤ (M 2 3)) (v1 := (34 : Int32)) (v2 := M 2 3) (F := fun z10 => if inb (M (ix (M 2 1)) 5) 60 then wrt (up M8 (ix (M8 2 1) + 5) (ix (M (ix (M 2 1)) 5)) z10) (fun M12 => if ¬ M12 2 1 < 0 ∧ blkD KSx (ix (M12 2 1)) blk4 then if inb (M (ix (M 2 1)) 5) 60 then wrt (up M12 (ix (M12 2 1) + 6) (ix (M (ix (M 2 1)) 5)) (M 2 3)) (fun M15 => bnd (f_X2_parseOperands (M (ix (M 2 1)) 5) M15) (fun _ M17 => bnd (f_X2_take 30 M17) (fun _ M19 => if ¬ M19 2 1 < 0 ∧ blkD KSx (ix (M19 2 1)) blk4 then wrt (up M19 (ix (M19 2 1)) 5 ((M19 (ix (M19 2 1)) 5) + 1)) (fun M21 => some (0, M21)) else none))) else none else none) else none) (fun h22 => ?_) (fun h22 => ?_)
        · refine c_T h22 (c_icmp_ge (tgt := 74) dX2_parseCommand_67 rfl (fun _ => ?_) (fun q => absurd h22 q))
          refine c_bipush dX2_parseCommand_74 (v := 34) rfl ?_
          refine c_keep [0, 1, 2] (ls2 := [(0, .inr 2), (1, .inl (M 2 3)), (2, .inl (M (ix (M 2 1)) 5))]) rfl ?_
          exact J_z10 34
        · refine c_Fl h22 (c_icmp_ge (tgt := 74) dX2_parseCommand_67 rfl (fun q => absurd q h22) (fun _ => ?_))
          refine c_iload_n (i := 1) dX2_parseCommand_70 rfl rfl ?_
          refine c_goto (tgt := 76) dX2_parseCommand_71 rfl ?_
          refine c_keep [0, 1, 2] (ls2 := [(0, .inr 2), (1, .inl (M 2 3)), (2, .inl (M (ix (M 2 1)) 5))]) rfl ?_
          exact J_z10 (M 2 3)
      · refine c_aload_n (i := 0) dX2_parseCommand_41 rfl rfl ?_
        refine c_iconst dX2_parseCommand_42 (v := 4) rfl ?_
        refine c_aload_n (i := 0) dX2_parseCommand_43 rfl rfl ?_
        refine gf_RX2_70 (blk_get0 KSx_b2) dX2_parseCommand_44 ?_
        refine c_callVv (as := [.inl 4, .inl (M 2 4)]) (rs := []) (ev_X2_fail 0 (Nat.le_refl _) 4 (M 2 4) M) rfl (Nat.lt_of_lt_of_le (by decide) hlev) mw_X2_fail wi_X2_fail wv_X2_fail (blk_get0 KSx_b2) (by decide) rfl wl_RX2_73 mn_X2_fail rfl (by decide) (Nat.le_of_ble_eq_true rfl) rfl dX2_parseCommand_47 (fun v23 M24 _ => ?_)
        exact c_vret rfl dX2_parseCommand_50
    · refine c_keep [0] (ls2 := [(0, .inr 2)]) rfl ?_
      exact jo_X2_parseCommand_17 d hlev M

abbrev mdX9_combiningSteps : MD := (yX9_combiningSteps, cX9_combiningSteps, 2, (some .int))
theorem mw_X9_combiningSteps : mdW mdX9_combiningSteps := ⟨wm_X9_combiningSteps, w0_RX9, by decide, by decide⟩
theorem mn_X9_combiningSteps : (parseMethodDescriptor yX9_combiningSteps.desc).map (fun d => d.parameters.length) = some 1 := by decide +kernel
def j_X9_combiningSteps_21 (x1 : Int32) (M : Mem) : Option (Int32 × Mem) := some (x1, M)
set_option maxRecDepth 20000 in
set_option maxHeartbeats 2000000 in
theorem jo_X9_combiningSteps_21 (d : Nat) (hlev : 0 ≤ d) (x1 : Int32) (M : Mem) : CorM KSx ST1 RX9 cX9_combiningSteps 2 (some .int) d 21 [(1, .inl x1)] [] M (j_X9_combiningSteps_21 x1 M) := by
  unfold j_X9_combiningSteps_21
  refine c_iload_n (i := 1) dX9_combiningSteps_21 rfl rfl ?_
  exact c_iret rfl dX9_combiningSteps_22
def l_X9_combiningSteps_2 (x0 : Int32) (K2 : Int32 × Mem → Option (Int32 × Mem)) : Int32 × Mem → Option (Int32 × Mem) := fun s => match s with
  | (x1, M) => if 8 ≤ x1 then j_X9_combiningSteps_21 x1 M else if x0 ≤ (1 <<< (x1 &&& 31)) then j_X9_combiningSteps_21 x1 M else K2 (x1 + 1, M)
set_option maxRecDepth 20000 in
set_option maxHeartbeats 2000000 in
theorem lo_X9_combiningSteps_2 (d : Nat) (hlev : 0 ≤ d) (x0 : Int32) (s : Int32 × Mem) : CorM KSx ST1 RX9 cX9_combiningSteps 2 (some .int) d 2 [(0, .inl x0), (1, .inl s.1)] [] s.2 (loopC (l_X9_combiningSteps_2 x0) fuelL s) := by
  refine c_loop (L := fun s : Int32 × Mem => [(0, .inl x0), (1, .inl s.1)]) (Mf := fun s : Int32 × Mem => s.2) (fun K2 hK2 s => ?_) fuelL s
  obtain ⟨x1, M⟩ := s
  show CorM KSx ST1 RX9 cX9_combiningSteps 2 (some .int) d 2 [(0, .inl x0), (1, .inl x1)] [] M (l_X9_combiningSteps_2 x0 K2 (x1, M))
  unfold l_X9_combiningSteps_2
  refine c_iload_n (i := 1) dX9_combiningSteps_2 rfl rfl ?_
  refine c_bipush dX9_combiningSteps_3 (v := 8) rfl ?_
  refine c_icmp_ge (tgt := 21) dX9_combiningSteps_5 rfl (fun h1 => ?_) (fun h1 => ?_)
  · refine c_keep [1] (ls2 := [(1, .inl x1)]) rfl ?_
    exact jo_X9_combiningSteps_21 d hlev x1 M
  · refine c_iconst dX9_combiningSteps_8 (v := 1) rfl ?_
    refine c_iload_n (i := 1) dX9_combiningSteps_9 rfl rfl ?_
    refine c_ishl dX9_combiningSteps_10 ?_
    refine c_iload_n (i := 0) dX9_combiningSteps_11 rfl rfl ?_
    refine c_icmp_ge (tgt := 21) dX9_combiningSteps_12 rfl (fun h2 => ?_) (fun h2 => ?_)
    · refine c_keep [1] (ls2 := [(1, .inl x1)]) rfl ?_
      exact jo_X9_combiningSteps_21 d hlev x1 M
    · refine c_iinc dX9_combiningSteps_15 rfl (v := 1) rfl (by decide) (ls2 := [(0, .inl x0), (1, .inl (x1 + 1))]) rfl ?_
      refine c_goto (tgt := 2) dX9_combiningSteps_18 rfl ?_
      refine c_keep [0, 1] (ls2 := [(0, .inl x0), (1, .inl (x1 + 1))]) rfl ?_
      exact hK2 (x1 + 1, M)
def f_X9_combiningSteps (x0 : Int32) (M : Mem) : Option (Int32 × Mem) := loopC (l_X9_combiningSteps_2 x0) fuelL (0, M)
set_option maxRecDepth 20000 in
set_option maxHeartbeats 2000000 in
theorem ev_X9_combiningSteps (d : Nat) (hlev : 0 ≤ d) (x0 : Int32) (M : Mem) : Ev KSx ST1 mdX9_combiningSteps d [.inl x0] M (f_X9_combiningSteps x0 M) := by
  refine ev_of rfl (Nat.le_of_ble_eq_true rfl) ?_
  show CorM KSx ST1 RX9 cX9_combiningSteps 2 (some .int) d 0 [(0, .inl x0)] [] M (f_X9_combiningSteps x0 M)
  unfold f_X9_combiningSteps
  refine c_iconst dX9_combiningSteps_0 (v := 0) rfl ?_
  refine c_istore_n (i := 1) dX9_combiningSteps_1 rfl (by decide) (ls2 := [(0, .inl x0), (1, .inl 0)]) rfl ?_
  refine c_keep [0, 1] (ls2 := [(0, .inl x0), (1, .inl 0)]) rfl ?_
  exact lo_X9_combiningSteps_2 d hlev x0 (0, M)

abbrev mdJ6_bitCount_0f7a4 : MD := (yJ6_bitCount_0f7a4, cJ6_bitCount_0f7a4, 1, (some .int))
theorem mw_J6_bitCount_0f7a4 : mdW mdJ6_bitCount_0f7a4 := ⟨wm_J6_bitCount_0f7a4, w0_RJ6, by decide, by decide⟩
theorem mn_J6_bitCount_0f7a4 : (parseMethodDescriptor yJ6_bitCount_0f7a4.desc).map (fun d => d.parameters.length) = some 1 := by decide +kernel
def p_J6_bitCount_0f7a4 (x0 : Int32) : Int32 := (((((((x0 - ((ushr x0 1) &&& 1431655765)) &&& 858993459) + ((ushr (x0 - ((ushr x0 1) &&& 1431655765)) 2) &&& 858993459)) + (ushr (((x0 - ((ushr x0 1) &&& 1431655765)) &&& 858993459) + ((ushr (x0 - ((ushr x0 1) &&& 1431655765)) 2) &&& 858993459)) 4)) &&& 252645135) + (ushr (((((x0 - ((ushr x0 1) &&& 1431655765)) &&& 858993459) + ((ushr (x0 - ((ushr x0 1) &&& 1431655765)) 2) &&& 858993459)) + (ushr (((x0 - ((ushr x0 1) &&& 1431655765)) &&& 858993459) + ((ushr (x0 - ((ushr x0 1) &&& 1431655765)) 2) &&& 858993459)) 4)) &&& 252645135) 8)) + (ushr ((((((x0 - ((ushr x0 1) &&& 1431655765)) &&& 858993459) + ((ushr (x0 - ((ushr x0 1) &&& 1431655765)) 2) &&& 858993459)) + (ushr (((x0 - ((ushr x0 1) &&& 1431655765)) &&& 858993459) + ((ushr (x0 - ((ushr x0 1) &&& 1431655765)) 2) &&& 858993459)) 4)) &&& 252645135) + (ushr (((((x0 - ((ushr x0 1) &&& 1431655765)) &&& 858993459) + ((ushr (x0 - ((ushr x0 1) &&& 1431655765)) 2) &&& 858993459)) + (ushr (((x0 - ((ushr x0 1) &&& 1431655765)) &&& 858993459) + ((ushr (x0 - ((ushr x0 1) &&& 1431655765)) 2) &&& 858993459)) 4)) &&& 252645135) 8)) 16)) &&& 63
set_option maxRecDepth 20000 in
set_option maxHeartbeats 2000000 in
theorem ev_J6_bitCount_0f7a4 (d : Nat) (hlev : 0 ≤ d) (x0 : Int32) (M : Mem) : Ev KSx ST1 mdJ6_bitCount_0f7a4 d [.inl x0] M (some (p_J6_bitCount_0f7a4 x0, M)) := by
  refine ev_of rfl (Nat.le_of_ble_eq_true rfl) ?_
  show CorM KSx ST1 RJ6 cJ6_bitCount_0f7a4 1 (some .int) d 0 [(0, .inl x0)] [] M (some (p_J6_bitCount_0f7a4 x0, M))
  unfold p_J6_bitCount_0f7a4
  refine c_iload_n (i := 0) dJ6_bitCount_0f7a4_0 rfl rfl ?_
  refine c_iload_n (i := 0) dJ6_bitCount_0f7a4_1 rfl rfl ?_
  refine c_iconst dJ6_bitCount_0f7a4_2 (v := 1) rfl ?_
  refine c_iushr dJ6_bitCount_0f7a4_3 ?_
  refine c_ldcw wd_RJ6_265 dJ6_bitCount_0f7a4_4 ?_
  refine c_iand dJ6_bitCount_0f7a4_7 ?_
  refine c_isub dJ6_bitCount_0f7a4_8 ?_
  refine c_istore_n (i := 0) dJ6_bitCount_0f7a4_9 rfl (by decide) (ls2 := [(0, .inl (x0 - ((ushr x0 1) &&& 1431655765)))]) rfl ?_
  refine c_iload_n (i := 0) dJ6_bitCount_0f7a4_10 rfl rfl ?_
  refine c_ldcw wd_RJ6_266 dJ6_bitCount_0f7a4_11 ?_
  refine c_iand dJ6_bitCount_0f7a4_14 ?_
  refine c_iload_n (i := 0) dJ6_bitCount_0f7a4_15 rfl rfl ?_
  refine c_iconst dJ6_bitCount_0f7a4_16 (v := 2) rfl ?_
  refine c_iushr dJ6_bitCount_0f7a4_17 ?_
  refine c_ldcw wd_RJ6_266 dJ6_bitCount_0f7a4_18 ?_
  refine c_iand dJ6_bitCount_0f7a4_21 ?_
  refine c_iadd dJ6_bitCount_0f7a4_22 ?_
  refine c_istore_n (i := 0) dJ6_bitCount_0f7a4_23 rfl (by decide) (ls2 := [(0, .inl (((x0 - ((ushr x0 1) &&& 1431655765)) &&& 858993459) + ((ushr (x0 - ((ushr x0 1) &&& 1431655765)) 2) &&& 858993459)))]) rfl ?_
  refine c_iload_n (i := 0) dJ6_bitCount_0f7a4_24 rfl rfl ?_
  refine c_iload_n (i := 0) dJ6_bitCount_0f7a4_25 rfl rfl ?_
  refine c_iconst dJ6_bitCount_0f7a4_26 (v := 4) rfl ?_
  refine c_iushr dJ6_bitCount_0f7a4_27 ?_
  refine c_iadd dJ6_bitCount_0f7a4_28 ?_
  refine c_ldcw wd_RJ6_267 dJ6_bitCount_0f7a4_29 ?_
  refine c_iand dJ6_bitCount_0f7a4_32 ?_
  refine c_istore_n (i := 0) dJ6_bitCount_0f7a4_33 rfl (by decide) (ls2 := [(0, .inl (((((x0 - ((ushr x0 1) &&& 1431655765)) &&& 858993459) + ((ushr (x0 - ((ushr x0 1) &&& 1431655765)) 2) &&& 858993459)) + (ushr (((x0 - ((ushr x0 1) &&& 1431655765)) &&& 858993459) + ((ushr (x0 - ((ushr x0 1) &&& 1431655765)) 2) &&& 858993459)) 4)) &&& 252645135))]) rfl ?_
  refine c_iload_n (i := 0) dJ6_bitCount_0f7a4_34 rfl rfl ?_
  refine c_iload_n (i := 0) dJ6_bitCount_0f7a4_35 rfl rfl ?_
  refine c_bipush dJ6_bitCount_0f7a4_36 (v := 8) rfl ?_
  refine c_iushr dJ6_bitCount_0f7a4_38 ?_
  refine c_iadd dJ6_bitCount_0f7a4_39 ?_
  refine c_istore_n (i := 0) dJ6_bitCount_0f7a4_40 rfl (by decide) (ls2 := [(0, .inl ((((((x0 - ((ushr x0 1) &&& 1431655765)) &&& 858993459) + ((ushr (x0 - ((ushr x0 1) &&& 1431655765)) 2) &&& 858993459)) + (ushr (((x0 - ((ushr x0 1) &&& 1431655765)) &&& 858993459) + ((ushr (x0 - ((ushr x0 1) &&& 1431655765)) 2) &&& 858993459)) 4)) &&& 252645135) + (ushr (((((x0 - ((ushr x0 1) &&& 1431655765)) &&& 858993459) + ((ushr (x0 - ((ushr x0 1) &&& 1431655765)) 2) &&& 858993459)) + (ushr (((x0 - ((ushr x0 1) &&& 1431655765)) &&& 858993459) + ((ushr (x0 - ((ushr x0 1) &&& 1431655765)) 2) &&& 858993459)) 4)) &&& 252645135) 8)))]) rfl ?_
  refine c_iload_n (i := 0) dJ6_bitCount_0f7a4_41 rfl rfl ?_
  refine c_iload_n (i := 0) dJ6_bitCount_0f7a4_42 rfl rfl ?_
  refine c_bipush dJ6_bitCount_0f7a4_43 (v := 16) rfl ?_
  refine c_iushr dJ6_bitCount_0f7a4_45 ?_
  refine c_iadd dJ6_bitCount_0f7a4_46 ?_
  refine c_istore_n (i := 0) dJ6_bitCount_0f7a4_47 rfl (by decide) (ls2 := [(0, .inl (((((((x0 - ((ushr x0 1) &&& 1431655765)) &&& 858993459) + ((ushr (x0 - ((ushr x0 1) &&& 1431655765)) 2) &&& 858993459)) + (ushr (((x0 - ((ushr x0 1) &&& 1431655765)) &&& 858993459) + ((ushr (x0 - ((ushr x0 1) &&& 1431655765)) 2) &&& 858993459)) 4)) &&& 252645135) + (ushr (((((x0 - ((ushr x0 1) &&& 1431655765)) &&& 858993459) + ((ushr (x0 - ((ushr x0 1) &&& 1431655765)) 2) &&& 858993459)) + (ushr (((x0 - ((ushr x0 1) &&& 1431655765)) &&& 858993459) + ((ushr (x0 - ((ushr x0 1) &&& 1431655765)) 2) &&& 858993459)) 4)) &&& 252645135) 8)) + (ushr ((((((x0 - ((ushr x0 1) &&& 1431655765)) &&& 858993459) + ((ushr (x0 - ((ushr x0 1) &&& 1431655765)) 2) &&& 858993459)) + (ushr (((x0 - ((ushr x0 1) &&& 1431655765)) &&& 858993459) + ((ushr (x0 - ((ushr x0 1) &&& 1431655765)) 2) &&& 858993459)) 4)) &&& 252645135) + (ushr (((((x0 - ((ushr x0 1) &&& 1431655765)) &&& 858993459) + ((ushr (x0 - ((ushr x0 1) &&& 1431655765)) 2) &&& 858993459)) + (ushr (((x0 - ((ushr x0 1) &&& 1431655765)) &&& 858993459) + ((ushr (x0 - ((ushr x0 1) &&& 1431655765)) 2) &&& 858993459)) 4)) &&& 252645135) 8)) 16)))]) rfl ?_
  refine c_iload_n (i := 0) dJ6_bitCount_0f7a4_48 rfl rfl ?_
  refine c_bipush dJ6_bitCount_0f7a4_49 (v := 63) rfl ?_
  refine c_iand dJ6_bitCount_0f7a4_51 ?_
  exact c_iret rfl dJ6_bitCount_0f7a4_52

abbrev mdX4_delayOf : MD := (yX4_delayOf, cX4_delayOf, 3, (some .int))
theorem mw_X4_delayOf : mdW mdX4_delayOf := ⟨wm_X4_delayOf, w0_RX4, by decide, by decide⟩
theorem mn_X4_delayOf : (parseMethodDescriptor yX4_delayOf.desc).map (fun d => d.parameters.length) = some 1 := by decide +kernel
def f_X4_delayOf (t0 : Nat) (x1 : Int32) (M : Mem) : Option (Int32 × Mem) := if inb x1 60 then (fun z2 : Int32 => if inb z2 9 then if inb x1 60 then if (M (t0 + 5) (ix x1)) = 8 then if inb (M t0 4) 12 then bnd (f_X9_combiningSteps (p_J6_bitCount_0f7a4 (M (t0 + 2) (ix (M t0 4)))) M) (fun v7 M8 => some (v7 * (M8 (t0 + 1) 8), M8)) else none else if (M (t0 + 5) (ix x1)) = 9 then some (M (t0 + 1) 1, M) else if (M (t0 + 5) (ix x1)) = 10 then some (M (t0 + 1) 1, M) else if (M (t0 + 5) (ix x1)) = 11 then some (1, M) else if (M (t0 + 5) (ix x1)) = 12 then bnd (f_X9_combiningSteps (M t0 2) M) (fun v13 M14 => some (v13 * (M (t0 + 1) (ix z2)), M14)) else if (M (t0 + 5) (ix x1)) = 13 then some (M (t0 + 1) 4, M) else if (M (t0 + 5) (ix x1)) = 34 then some (M (t0 + 1) (ix z2), M) else some (0, M) else none else none) (if ¬ (M (t0 + 6) (ix x1)) = 16 then (2 : Int32) else (3 : Int32)) else none
set_option maxRecDepth 20000 in
set_option maxHeartbeats 2000000 in
theorem ev_X4_delayOf (d : Nat) (hlev : 1 ≤ d) (t0 : Nat) (h_t0 : blkAt KSx t0 blk4) (x1 : Int32) (M : Mem) : Ev KSx ST1 mdX4_delayOf d [.inr t0, .inl x1] M (f_X4_delayOf t0 x1 M) := by
  refine ev_of rfl (Nat.le_of_ble_eq_true rfl) ?_
  show CorM KSx ST1 RX4 cX4_delayOf 3 (some .int) d 0 [(0, .inr t0), (1, .inl x1)] [] M (f_X4_delayOf t0 x1 M)
  unfold f_X4_delayOf
  refine c_aload_n (i := 0) dX4_delayOf_0 rfl rfl ?_
  refine gf_RX4_9 (blk_get0 h_t0) dX4_delayOf_1 ?_
  refine c_aload_n (i := 0) dX4_delayOf_4 rfl rfl ?_
  refine gf_RX4_27 (blk_get0 h_t0) dX4_delayOf_5 ?_
  refine c_iload_n (i := 1) dX4_delayOf_8 rfl rfl ?_
  refine c_chk (fun h1 => ?_)
  refine c_iald (blk_get0 (blk_sub (C := [(20, 60)]) (i := 6) h_t0 rfl)) h1 dX4_delayOf_9 ?_
  refine c_bipush dX4_delayOf_10 (v := 16) rfl ?_
  have J_z2 : ∀ z2 : Int32, CorM KSx ST1 RX4 cX4_delayOf 3 (some .int) d 20 [(0, .inr t0), (1, .inl x1)] [.inl z2, .inr (t0 + 1)] M (if inb z2 9 then if inb x1 60 then if (M (t0 + 5) (ix x1)) = 8 then if inb (M t0 4) 12 then bnd (f_X9_combiningSteps (p_J6_bitCount_0f7a4 (M (t0 + 2) (ix (M t0 4)))) M) (fun v7 M8 => some (v7 * (M8 (t0 + 1) 8), M8)) else none else if (M (t0 + 5) (ix x1)) = 9 then some (M (t0 + 1) 1, M) else if (M (t0 + 5) (ix x1)) = 10 then some (M (t0 + 1) 1, M) else if (M (t0 + 5) (ix x1)) = 11 then some (1, M) else if (M (t0 + 5) (ix x1)) = 12 then bnd (f_X9_combiningSteps (M t0 2) M) (fun v13 M14 => some (v13 * (M (t0 + 1) (ix z2)), M14)) else if (M (t0 + 5) (ix x1)) = 13 then some (M (t0 + 1) 4, M) else if (M (t0 + 5) (ix x1)) = 34 then some (M (t0 + 1) (ix z2), M) else some (0, M) else none else none) := by
    intro z2
    refine c_chk (fun h3 => ?_)
    refine c_iald (blk_get0 (blk_sub (C := [(20, 9)]) (i := 1) h_t0 rfl)) h3 dX4_delayOf_20 ?_
    refine c_istore_n (i := 2) dX4_delayOf_21 rfl (by decide) (ls2 := [(0, .inr t0), (1, .inl x1), (2, .inl (M (t0 + 1) (ix z2)))]) rfl ?_
    refine c_aload_n (i := 0) dX4_delayOf_22 rfl rfl ?_
    refine gf_RX4_24 (blk_get0 h_t0) dX4_delayOf_23 ?_
    refine c_iload_n (i := 1) dX4_delayOf_26 rfl rfl ?_
    refine c_chk (fun h4 => ?_)
    refine c_iald (blk_get0 (blk_sub (C := [(20, 60)]) (i := 5) h_t0 rfl)) h4 dX4_delayOf_27 ?_
    refine c_ite (fun h5 => ?_) (fun h5 => ?_)
    · refine c_lookup (tgt := 117) dX4_delayOf_28 (by decide) (by rw [h5] <;> rfl) rfl ?_
      refine c_aload_n (i := 0) dX4_delayOf_117 rfl rfl ?_
      refine gf_RX4_15 (blk_get0 h_t0) dX4_delayOf_118 ?_
      refine c_aload_n (i := 0) dX4_delayOf_121 rfl rfl ?_
      refine gf_RX4_67 (blk_get0 h_t0) dX4_delayOf_122 ?_
      refine c_chk (fun h6 => ?_)
      refine c_iald (blk_get0 (blk_sub (C := [(20, 12)]) (i := 2) h_t0 rfl)) h6 dX4_delayOf_125 ?_
      refine c_callSp (as := [.inl (M (t0 + 2) (ix (M t0 4)))]) (rs := []) (ev_J6_bitCount_0f7a4 0 (Nat.le_refl _) (M (t0 + 2) (ix (M t0 4))) M) rfl (Nat.lt_of_lt_of_le (by decide) hlev) mw_J6_bitCount_0f7a4 ws_J6_bitCount_0f7a4 wl_RX4_90 mn_J6_bitCount_0f7a4 rfl (by decide) (Nat.le_of_ble_eq_true rfl) ⟨_, rfl⟩ dX4_delayOf_126 ?_
      refine c_callN (as := [.inl (p_J6_bitCount_0f7a4 (M (t0 + 2) (ix (M t0 4))))]) (rs := []) (ev_X9_combiningSteps 0 (Nat.le_refl _) (p_J6_bitCount_0f7a4 (M (t0 + 2) (ix (M t0 4)))) M) rfl (Nat.lt_of_lt_of_le (by decide) hlev) mw_X9_combiningSteps ws_X9_combiningSteps wl_RX4_87 mn_X9_combiningSteps rfl (by decide) (Nat.le_of_ble_eq_true rfl) ⟨_, rfl⟩ dX4_delayOf_129 (fun v7 M8 _ => ?_)
      refine c_aload_n (i := 0) dX4_delayOf_132 rfl rfl ?_
      refine gf_RX4_9 (blk_get0 h_t0) dX4_delayOf_133 ?_
      refine c_bipush dX4_delayOf_136 (v := 8) rfl ?_
      refine c_iald (blk_get0 (blk_sub (C := [(20, 9)]) (i := 1) h_t0 rfl)) (by decide) dX4_delayOf_138 ?_
      refine c_imul dX4_delayOf_139 ?_
      exact c_iret rfl dX4_delayOf_140
    · refine c_ite (fun h9 => ?_) (fun h9 => ?_)
      · refine c_lookup (tgt := 96) dX4_delayOf_28 (by decide) (by rw [h9] <;> rfl) rfl ?_
        refine c_aload_n (i := 0) dX4_delayOf_96 rfl rfl ?_
        refine gf_RX4_9 (blk_get0 h_t0) dX4_delayOf_97 ?_
        refine c_iconst dX4_delayOf_100 (v := 1) rfl ?_
        refine c_iald (blk_get0 (blk_sub (C := [(20, 9)]) (i := 1) h_t0 rfl)) (by decide) dX4_delayOf_101 ?_
        exact c_iret rfl dX4_delayOf_102
      · refine c_ite (fun h10 => ?_) (fun h10 => ?_)
        · refine c_lookup (tgt := 96) dX4_delayOf_28 (by decide) (by rw [h10] <;> rfl) rfl ?_
          refine c_aload_n (i := 0) dX4_delayOf_96 rfl rfl ?_
          refine gf_RX4_9 (blk_get0 h_t0) dX4_delayOf_97 ?_
          refine c_iconst dX4_delayOf_100 (v := 1) rfl ?_
          refine c_iald (blk_get0 (blk_sub (C := [(20, 9)]) (i := 1) h_t0 rfl)) (by decide) dX4_delayOf_101 ?_
          exact c_iret rfl dX4_delayOf_102
        · refine c_ite (fun h11 => ?_) (fun h11 => ?_)
          · refine c_lookup (tgt := 103) dX4_delayOf_28 (by decide) (by rw [h11] <;> rfl) rfl ?_
            refine c_iconst dX4_delayOf_103 (v := 1) rfl ?_
            exact c_iret rfl dX4_delayOf_104
          · refine c_ite (fun h12 => ?_) (fun h12 => ?_)
            · refine c_lookup (tgt := 107) dX4_delayOf_28 (by decide) (by rw [h12] <;> rfl) rfl ?_
              refine c_aload_n (i := 0) dX4_delayOf_107 rfl rfl ?_
              refine gf_RX4_55 (blk_get0 h_t0) dX4_delayOf_108 ?_
              refine c_callN (as := [.inl (M t0 2)]) (rs := []) (ev_X9_combiningSteps 0 (Nat.le_refl _) (M t0 2) M) rfl (Nat.lt_of_lt_of_le (by decide) hlev) mw_X9_combiningSteps ws_X9_combiningSteps wl_RX4_87 mn_X9_combiningSteps rfl (by decide) (Nat.le_of_ble_eq_true rfl) ⟨_, rfl⟩ dX4_delayOf_111 (fun v13 M14 _ => ?_)
              refine c_iload_n (i := 2) dX4_delayOf_114 rfl rfl ?_
              refine c_imul dX4_delayOf_115 ?_
              exact c_iret rfl dX4_delayOf_116
            · refine c_ite (fun h15 => ?_) (fun h15 => ?_)
              · refine c_lookup (tgt := 141) dX4_delayOf_28 (by decide) (by rw [h15] <;> rfl) rfl ?_
                refine c_aload_n (i := 0) dX4_delayOf_141 rfl rfl ?_
                refine gf_RX4_9 (blk_get0 h_t0) dX4_delayOf_142 ?_
                refine c_iconst dX4_delayOf_145 (v := 4) rfl ?_
                refine c_iald (blk_get0 (blk_sub (C := [(20, 9)]) (i := 1) h_t0 rfl)) (by decide) dX4_delayOf_146 ?_
                exact c_iret rfl dX4_delayOf_147
              · refine c_ite (fun h16 => ?_) (fun h16 => ?_)
                · refine c_lookup (tgt := 105) dX4_delayOf_28 (by decide) (by rw [h16] <;> rfl) rfl ?_
                  refine c_iload_n (i := 2) dX4_delayOf_105 rfl rfl ?_
                  exact c_iret rfl dX4_delayOf_106
                · refine c_lookup (tgt := 148) dX4_delayOf_28 (by decide) (sw_lk (ks := [8, 9, 10, 11, 12, 13, 34]) (List.forall_mem_cons.mpr ⟨h5, (List.forall_mem_cons.mpr ⟨h9, (List.forall_mem_cons.mpr ⟨h10, (List.forall_mem_cons.mpr ⟨h11, (List.forall_mem_cons.mpr ⟨h12, (List.forall_mem_cons.mpr ⟨h15, (List.forall_mem_cons.mpr ⟨h16, (fun _ q => absurd q List.not_mem_nil)⟩)⟩)⟩)⟩)⟩)⟩)⟩) (by decide)) rfl ?_
                  refine c_iconst dX4_delayOf_148 (v := 0) rfl ?_
                  exact c_iret rfl dX4_delayOf_149
  refine c_val (b := ¬ (M (t0 + 6) (ix x1)) = 16) (v1 := (2 : Int32)) (v2 := (3 : Int32)) (F := fun z2 => if inb z2 9 then if inb x1 60 then if (M (t0 + 5) (ix x1)) = 8 then if inb (M t0 4) 12 then bnd (f_X9_combiningSteps (p_J6_bitCount_0f7a4 (M (t0 + 2) (ix (M t0 4)))) M) (fun v7 M8 => some (v7 * (M8 (t0 + 1) 8), M8)) else none else if (M (t0 + 5) (ix x1)) = 9 then some (M (t0 + 1) 1, M) else if (M (t0 + 5) (ix x1)) = 10 then some (M (t0 + 1) 1, M) else if (M (t0 + 5) (ix x1)) = 11 then some (1, M) else if (M (t0 + 5) (ix x1)) = 12 then bnd (f_X9_combiningSteps (M t0 2) M) (fun v13 M14 => some (v13 * (M (t0 + 1) (ix z2)), M14)) else if (M (t0 + 5) (ix x1)) = 13 then some (M (t0 + 1) 4, M) else if (M (t0 + 5) (ix x1)) = 34 then some (M (t0 + 1) (ix z2), M) else some (0, M) else none else none) (fun h17 => ?_) (fun h17 => ?_)
  · refine c_T h17 (c_icmp_ne (tgt := 19) dX4_delayOf_12 rfl (fun _ => ?_) (fun q => absurd h17 q))
    refine c_iconst dX4_delayOf_19 (v := 2) rfl ?_
    refine c_keep [0, 1] (ls2 := [(0, .inr t0), (1, .inl x1)]) rfl ?_
    exact J_z2 2
  · refine c_Fl h17 (c_icmp_ne (tgt := 19) dX4_delayOf_12 rfl (fun q => absurd q h17) (fun _ => ?_))
    refine c_iconst dX4_delayOf_15 (v := 3) rfl ?_
    refine c_goto (tgt := 20) dX4_delayOf_16 rfl ?_
    refine c_keep [0, 1] (ls2 := [(0, .inr t0), (1, .inl x1)]) rfl ?_
    exact J_z2 3

abbrev mdX9_lowestBank : MD := (yX9_lowestBank, cX9_lowestBank, 2, (some .int))
theorem mw_X9_lowestBank : mdW mdX9_lowestBank := ⟨wm_X9_lowestBank, w0_RX9, by decide, by decide⟩
theorem mn_X9_lowestBank : (parseMethodDescriptor yX9_lowestBank.desc).map (fun d => d.parameters.length) = some 1 := by decide +kernel
def j_X9_lowestBank_22 (x1 : Int32) (M : Mem) : Option (Int32 × Mem) := some (x1, M)
set_option maxRecDepth 20000 in
set_option maxHeartbeats 2000000 in
theorem jo_X9_lowestBank_22 (d : Nat) (hlev : 1 ≤ d) (x1 : Int32) (M : Mem) : CorM KSx ST1 RX9 cX9_lowestBank 2 (some .int) d 22 [(1, .inl x1)] [] M (j_X9_lowestBank_22 x1 M) := by
  unfold j_X9_lowestBank_22
  refine c_iload_n (i := 1) dX9_lowestBank_22 rfl rfl ?_
  exact c_iret rfl dX9_lowestBank_23
def l_X9_lowestBank_2 (x0 : Int32) (K2 : Int32 × Mem → Option (Int32 × Mem)) : Int32 × Mem → Option (Int32 × Mem) := fun s => match s with
  | (x1, M) => if 7 ≤ x1 then j_X9_lowestBank_22 x1 M else if ¬ (p_X9_isIn x1 x0) = 0 then j_X9_lowestBank_22 x1 M else K2 (x1 + 1, M)
set_option maxRecDepth 20000 in
set_option maxHeartbeats 2000000 in
theorem lo_X9_lowestBank_2 (d : Nat) (hlev : 1 ≤ d) (x0 : Int32) (s : Int32 × Mem) : CorM KSx ST1 RX9 cX9_lowestBank 2 (some .int) d 2 [(0, .inl x0), (1, .inl s.1)] [] s.2 (loopC (l_X9_lowestBank_2 x0) fuelL s) := by
  refine c_loop (L := fun s : Int32 × Mem => [(0, .inl x0), (1, .inl s.1)]) (Mf := fun s : Int32 × Mem => s.2) (fun K2 hK2 s => ?_) fuelL s
  obtain ⟨x1, M⟩ := s
  show CorM KSx ST1 RX9 cX9_lowestBank 2 (some .int) d 2 [(0, .inl x0), (1, .inl x1)] [] M (l_X9_lowestBank_2 x0 K2 (x1, M))
  unfold l_X9_lowestBank_2
  refine c_iload_n (i := 1) dX9_lowestBank_2 rfl rfl ?_
  refine c_bipush dX9_lowestBank_3 (v := 7) rfl ?_
  refine c_icmp_ge (tgt := 22) dX9_lowestBank_5 rfl (fun h1 => ?_) (fun h1 => ?_)
  · refine c_keep [1] (ls2 := [(1, .inl x1)]) rfl ?_
    exact jo_X9_lowestBank_22 d hlev x1 M
  · refine c_iload_n (i := 1) dX9_lowestBank_8 rfl rfl ?_
    refine c_iload_n (i := 0) dX9_lowestBank_9 rfl rfl ?_
    refine c_callSp (as := [.inl x1, .inl x0]) (rs := []) (ev_X9_isIn 0 (Nat.le_refl _) x1 x0 M) rfl (Nat.lt_of_lt_of_le (by decide) hlev) mw_X9_isIn ws_X9_isIn wl_RX9_369 mn_X9_isIn rfl (by decide) (Nat.le_of_ble_eq_true rfl) ⟨_, rfl⟩ dX9_lowestBank_10 ?_
    refine c_if_ne (tgt := 22) dX9_lowestBank_13 rfl (fun h2 => ?_) (fun h2 => ?_)
    · refine c_keep [1] (ls2 := [(1, .inl x1)]) rfl ?_
      exact jo_X9_lowestBank_22 d hlev x1 M
    · refine c_iinc dX9_lowestBank_16 rfl (v := 1) rfl (by decide) (ls2 := [(0, .inl x0), (1, .inl (x1 + 1))]) rfl ?_
      refine c_goto (tgt := 2) dX9_lowestBank_19 rfl ?_
      refine c_keep [0, 1] (ls2 := [(0, .inl x0), (1, .inl (x1 + 1))]) rfl ?_
      exact hK2 (x1 + 1, M)
def f_X9_lowestBank (x0 : Int32) (M : Mem) : Option (Int32 × Mem) := loopC (l_X9_lowestBank_2 x0) fuelL (0, M)
set_option maxRecDepth 20000 in
set_option maxHeartbeats 2000000 in
theorem ev_X9_lowestBank (d : Nat) (hlev : 1 ≤ d) (x0 : Int32) (M : Mem) : Ev KSx ST1 mdX9_lowestBank d [.inl x0] M (f_X9_lowestBank x0 M) := by
  refine ev_of rfl (Nat.le_of_ble_eq_true rfl) ?_
  show CorM KSx ST1 RX9 cX9_lowestBank 2 (some .int) d 0 [(0, .inl x0)] [] M (f_X9_lowestBank x0 M)
  unfold f_X9_lowestBank
  refine c_iconst dX9_lowestBank_0 (v := 0) rfl ?_
  refine c_istore_n (i := 1) dX9_lowestBank_1 rfl (by decide) (ls2 := [(0, .inl x0), (1, .inl 0)]) rfl ?_
  refine c_keep [0, 1] (ls2 := [(0, .inl x0), (1, .inl 0)]) rfl ?_
  exact lo_X9_lowestBank_2 d hlev x0 (0, M)

abbrev mdX4_readBy : MD := (yX4_readBy, cX4_readBy, 3, (some .int))
theorem mw_X4_readBy : mdW mdX4_readBy := ⟨wm_X4_readBy, w0_RX4, by decide, by decide⟩
theorem mn_X4_readBy : (parseMethodDescriptor yX4_readBy.desc).map (fun d => d.parameters.length) = some 2 := by decide +kernel
def j_X4_readBy_117 (w0 : Int32) (M : Mem) : Option (Int32 × Mem) := some (w0, M)
set_option maxRecDepth 20000 in
set_option maxHeartbeats 2000000 in
theorem jo_X4_readBy_117 (d : Nat) (hlev : 1 ≤ d) (w0 : Int32) (M : Mem) : CorM KSx ST1 RX4 cX4_readBy 3 (some .int) d 117 [] [.inl w0] M (j_X4_readBy_117 w0 M) := by
  unfold j_X4_readBy_117
  exact c_iret rfl dX4_readBy_117
def f_X4_readBy (t0 : Nat) (x1 : Int32) (x2 : Int32) (M : Mem) : Option (Int32 × Mem) := if inb x1 60 then if (M (t0 + 5) (ix x1)) = 8 then if inb x1 60 then some (1 <<< ((M (t0 + 7) (ix x1)) &&& 31), M) else none else if (M (t0 + 5) (ix x1)) = 9 then if inb x1 60 then some (p_X4_rowBit (M (t0 + 8) (ix x1)), M) else none else if (M (t0 + 5) (ix x1)) = 10 then if inb x1 60 then some (1 <<< ((M (t0 + 7) (ix x1)) &&& 31), M) else none else if (M (t0 + 5) (ix x1)) = 12 then if inb x1 60 then some (1 <<< ((M (t0 + 7) (ix x1)) &&& 31), M) else none else if (M (t0 + 5) (ix x1)) = 13 then if x2 = 0 then j_X4_readBy_117 0 M else if inb x1 60 then j_X4_readBy_117 (1 <<< ((M (t0 + 7) (ix x1)) &&& 31)) M else none else if (M (t0 + 5) (ix x1)) = 34 then if inb x1 60 then if inb x1 60 then some ((1 <<< ((M (t0 + 8) (ix x1)) &&& 31)) ||| (1 <<< ((M (t0 + 9) (ix x1)) &&& 31)), M) else none else none else some (0, M) else none
set_option maxRecDepth 20000 in
set_option maxHeartbeats 2000000 in
theorem ev_X4_readBy (d : Nat) (hlev : 1 ≤ d) (t0 : Nat) (h_t0 : blkAt KSx t0 blk4) (x1 : Int32) (x2 : Int32) (M : Mem) : Ev KSx ST1 mdX4_readBy d [.inr t0, .inl x1, .inl x2] M (f_X4_readBy t0 x1 x2 M) := by
  refine ev_of rfl (Nat.le_of_ble_eq_true rfl) ?_
  show CorM KSx ST1 RX4 cX4_readBy 3 (some .int) d 0 [(0, .inr t0), (1, .inl x1), (2, .inl x2)] [] M (f_X4_readBy t0 x1 x2 M)
  unfold f_X4_readBy
  refine c_aload_n (i := 0) dX4_readBy_0 rfl rfl ?_
  refine gf_RX4_24 (blk_get0 h_t0) dX4_readBy_1 ?_
  refine c_iload_n (i := 1) dX4_readBy_4 rfl rfl ?_
  refine c_chk (fun h1 => ?_)
  refine c_iald (blk_get0 (blk_sub (C := [(20, 60)]) (i := 5) h_t0 rfl)) h1 dX4_readBy_5 ?_
  refine c_ite (fun h2 => ?_) (fun h2 => ?_)
  · refine c_lookup (tgt := 92) dX4_readBy_6 (by decide) (by rw [h2] <;> rfl) rfl ?_
    refine c_iconst dX4_readBy_92 (v := 1) rfl ?_
    refine c_aload_n (i := 0) dX4_readBy_93 rfl rfl ?_
    refine gf_RX4_30 (blk_get0 h_t0) dX4_readBy_94 ?_
    refine c_iload_n (i := 1) dX4_readBy_97 rfl rfl ?_
    refine c_chk (fun h3 => ?_)
    refine c_iald (blk_get0 (blk_sub (C := [(20, 60)]) (i := 7) h_t0 rfl)) h3 dX4_readBy_98 ?_
    refine c_ishl dX4_readBy_99 ?_
    exact c_iret rfl dX4_readBy_100
  · refine c_ite (fun h4 => ?_) (fun h4 => ?_)
    · refine c_lookup (tgt := 64) dX4_readBy_6 (by decide) (by rw [h4] <;> rfl) rfl ?_
      refine c_aload_n (i := 0) dX4_readBy_64 rfl rfl ?_
      refine gf_RX4_33 (blk_get0 h_t0) dX4_readBy_65 ?_
      refine c_iload_n (i := 1) dX4_readBy_68 rfl rfl ?_
      refine c_chk (fun h5 => ?_)
      refine c_iald (blk_get0 (blk_sub (C := [(20, 60)]) (i := 8) h_t0 rfl)) h5 dX4_readBy_69 ?_
      refine c_callSp (as := [.inl (M (t0 + 8) (ix x1))]) (rs := []) (ev_X4_rowBit 0 (Nat.le_refl _) (M (t0 + 8) (ix x1)) M) rfl (Nat.lt_of_lt_of_le (by decide) hlev) mw_X4_rowBit ws_X4_rowBit wl_RX4_109 mn_X4_rowBit rfl (by decide) (Nat.le_of_ble_eq_true rfl) ⟨_, rfl⟩ dX4_readBy_70 ?_
      exact c_iret rfl dX4_readBy_73
    · refine c_ite (fun h6 => ?_) (fun h6 => ?_)
      · refine c_lookup (tgt := 92) dX4_readBy_6 (by decide) (by rw [h6] <;> rfl) rfl ?_
        refine c_iconst dX4_readBy_92 (v := 1) rfl ?_
        refine c_aload_n (i := 0) dX4_readBy_93 rfl rfl ?_
        refine gf_RX4_30 (blk_get0 h_t0) dX4_readBy_94 ?_
        refine c_iload_n (i := 1) dX4_readBy_97 rfl rfl ?_
        refine c_chk (fun h7 => ?_)
        refine c_iald (blk_get0 (blk_sub (C := [(20, 60)]) (i := 7) h_t0 rfl)) h7 dX4_readBy_98 ?_
        refine c_ishl dX4_readBy_99 ?_
        exact c_iret rfl dX4_readBy_100
      · refine c_ite (fun h8 => ?_) (fun h8 => ?_)
        · refine c_lookup (tgt := 92) dX4_readBy_6 (by decide) (by rw [h8] <;> rfl) rfl ?_
          refine c_iconst dX4_readBy_92 (v := 1) rfl ?_
          refine c_aload_n (i := 0) dX4_readBy_93 rfl rfl ?_
          refine gf_RX4_30 (blk_get0 h_t0) dX4_readBy_94 ?_
          refine c_iload_n (i := 1) dX4_readBy_97 rfl rfl ?_
          refine c_chk (fun h9 => ?_)
          refine c_iald (blk_get0 (blk_sub (C := [(20, 60)]) (i := 7) h_t0 rfl)) h9 dX4_readBy_98 ?_
          refine c_ishl dX4_readBy_99 ?_
          exact c_iret rfl dX4_readBy_100
        · refine c_ite (fun h10 => ?_) (fun h10 => ?_)
          · refine c_lookup (tgt := 101) dX4_readBy_6 (by decide) (by rw [h10] <;> rfl) rfl ?_
            refine c_iload_n (i := 2) dX4_readBy_101 rfl rfl ?_
            refine c_if_eq (tgt := 116) dX4_readBy_102 rfl (fun h11 => ?_) (fun h11 => ?_)
            · refine c_iconst dX4_readBy_116 (v := 0) rfl ?_
              refine c_keep [] (ls2 := []) rfl ?_
              exact jo_X4_readBy_117 d hlev 0 M
            · refine c_iconst dX4_readBy_105 (v := 1) rfl ?_
              refine c_aload_n (i := 0) dX4_readBy_106 rfl rfl ?_
              refine gf_RX4_30 (blk_get0 h_t0) dX4_readBy_107 ?_
              refine c_iload_n (i := 1) dX4_readBy_110 rfl rfl ?_
              refine c_chk (fun h12 => ?_)
              refine c_iald (blk_get0 (blk_sub (C := [(20, 60)]) (i := 7) h_t0 rfl)) h12 dX4_readBy_111 ?_
              refine c_ishl dX4_readBy_112 ?_
              refine c_goto (tgt := 117) dX4_readBy_113 rfl ?_
              refine c_keep [] (ls2 := []) rfl ?_
              exact jo_X4_readBy_117 d hlev (1 <<< ((M (t0 + 7) (ix x1)) &&& 31)) M
          · refine c_ite (fun h13 => ?_) (fun h13 => ?_)
            · refine c_lookup (tgt := 74) dX4_readBy_6 (by decide) (by rw [h13] <;> rfl) rfl ?_
              refine c_iconst dX4_readBy_74 (v := 1) rfl ?_
              refine c_aload_n (i := 0) dX4_readBy_75 rfl rfl ?_
              refine gf_RX4_33 (blk_get0 h_t0) dX4_readBy_76 ?_
              refine c_iload_n (i := 1) dX4_readBy_79 rfl rfl ?_
              refine c_chk (fun h14 => ?_)
              refine c_iald (blk_get0 (blk_sub (C := [(20, 60)]) (i := 8) h_t0 rfl)) h14 dX4_readBy_80 ?_
              refine c_ishl dX4_readBy_81 ?_
              refine c_iconst dX4_readBy_82 (v := 1) rfl ?_
              refine c_aload_n (i := 0) dX4_readBy_83 rfl rfl ?_
              refine gf_RX4_36 (blk_get0 h_t0) dX4_readBy_84 ?_
              refine c_iload_n (i := 1) dX4_readBy_87 rfl rfl ?_
              refine c_chk (fun h15 => ?_)
              refine c_iald (blk_get0 (blk_sub (C := [(20, 60)]) (i := 9) h_t0 rfl)) h15 dX4_readBy_88 ?_
              refine c_ishl dX4_readBy_89 ?_
              refine c_ior dX4_readBy_90 ?_
              exact c_iret rfl dX4_readBy_91
            · refine c_lookup (tgt := 118) dX4_readBy_6 (by decide) (sw_lk (ks := [8, 9, 10, 12, 13, 34]) (List.forall_mem_cons.mpr ⟨h2, (List.forall_mem_cons.mpr ⟨h4, (List.forall_mem_cons.mpr ⟨h6, (List.forall_mem_cons.mpr ⟨h8, (List.forall_mem_cons.mpr ⟨h10, (List.forall_mem_cons.mpr ⟨h13, (fun _ q => absurd q List.not_mem_nil)⟩)⟩)⟩)⟩)⟩)⟩) (by decide)) rfl ?_
              refine c_iconst dX4_readBy_118 (v := 0) rfl ?_
              exact c_iret rfl dX4_readBy_119

abbrev mdX4_writtenBy : MD := (yX4_writtenBy, cX4_writtenBy, 3, (some .int))
theorem mw_X4_writtenBy : mdW mdX4_writtenBy := ⟨wm_X4_writtenBy, w0_RX4, by decide, by decide⟩
theorem mn_X4_writtenBy : (parseMethodDescriptor yX4_writtenBy.desc).map (fun d => d.parameters.length) = some 2 := by decide +kernel
def j_X4_writtenBy_107 (w0 : Int32) (M : Mem) : Option (Int32 × Mem) := some (w0, M)
set_option maxRecDepth 20000 in
set_option maxHeartbeats 2000000 in
theorem jo_X4_writtenBy_107 (d : Nat) (hlev : 1 ≤ d) (w0 : Int32) (M : Mem) : CorM KSx ST1 RX4 cX4_writtenBy 3 (some .int) d 107 [] [.inl w0] M (j_X4_writtenBy_107 w0 M) := by
  unfold j_X4_writtenBy_107
  exact c_iret rfl dX4_writtenBy_107
def j_X4_writtenBy_124 (w0 : Int32) (M : Mem) : Option (Int32 × Mem) := some (w0, M)
set_option maxRecDepth 20000 in
set_option maxHeartbeats 2000000 in
theorem jo_X4_writtenBy_124 (d : Nat) (hlev : 1 ≤ d) (w0 : Int32) (M : Mem) : CorM KSx ST1 RX4 cX4_writtenBy 3 (some .int) d 124 [] [.inl w0] M (j_X4_writtenBy_124 w0 M) := by
  unfold j_X4_writtenBy_124
  exact c_iret rfl dX4_writtenBy_124
def f_X4_writtenBy (t0 : Nat) (x1 : Int32) (x2 : Int32) (M : Mem) : Option (Int32 × Mem) := if inb x1 60 then if (M (t0 + 5) (ix x1)) = 8 then if x2 = 0 then j_X4_writtenBy_107 0 M else if inb x1 60 then j_X4_writtenBy_107 (1 <<< ((M (t0 + 7) (ix x1)) &&& 31)) M else none else if (M (t0 + 5) (ix x1)) = 9 then if inb x1 60 then some (1 <<< ((M (t0 + 7) (ix x1)) &&& 31), M) else none else if (M (t0 + 5) (ix x1)) = 10 then if inb x1 60 then some (p_X4_rowBit (M (t0 + 8) (ix x1)), M) else none else if (M (t0 + 5) (ix x1)) = 11 then if inb x1 60 then some (1 <<< ((M (t0 + 7) (ix x1)) &&& 31), M) else none else if (M (t0 + 5) (ix x1)) = 12 then if inb x1 60 then some (1 <<< ((M (t0 + 7) (ix x1)) &&& 31), M) else none else if (M (t0 + 5) (ix x1)) = 13 then if x2 = 0 then if inb x1 60 then j_X4_writtenBy_124 (1 <<< ((M (t0 + 7) (ix x1)) &&& 31)) M else none else j_X4_writtenBy_124 0 M else if (M (t0 + 5) (ix x1)) = 34 then if inb x1 60 then some (1 <<< ((M (t0 + 7) (ix x1)) &&& 31), M) else none else some (0, M) else none
set_option maxRecDepth 20000 in
set_option maxHeartbeats 2000000 in
theorem ev_X4_writtenBy (d : Nat) (hlev : 1 ≤ d) (t0 : Nat) (h_t0 : blkAt KSx t0 blk4) (x1 : Int32) (x2 : Int32) (M : Mem) : Ev KSx ST1 mdX4_writtenBy d [.inr t0, .inl x1, .inl x2] M (f_X4_writtenBy t0 x1 x2 M) := by
  refine ev_of rfl (Nat.le_of_ble_eq_true rfl) ?_
  show CorM KSx ST1 RX4 cX4_writtenBy 3 (some .int) d 0 [(0, .inr t0), (1, .inl x1), (2, .inl x2)] [] M (f_X4_writtenBy t0 x1 x2 M)
  unfold f_X4_writtenBy
  refine c_aload_n (i := 0) dX4_writtenBy_0 rfl rfl ?_
  refine gf_RX4_24 (blk_get0 h_t0) dX4_writtenBy_1 ?_
  refine c_iload_n (i := 1) dX4_writtenBy_4 rfl rfl ?_
  refine c_chk (fun h1 => ?_)
  refine c_iald (blk_get0 (blk_sub (C := [(20, 60)]) (i := 5) h_t0 rfl)) h1 dX4_writtenBy_5 ?_
  refine c_ite (fun h2 => ?_) (fun h2 => ?_)
  · refine c_lookup (tgt := 91) dX4_writtenBy_6 (by decide) (by rw [h2] <;> rfl) rfl ?_
    refine c_iload_n (i := 2) dX4_writtenBy_91 rfl rfl ?_
    refine c_if_eq (tgt := 106) dX4_writtenBy_92 rfl (fun h3 => ?_) (fun h3 => ?_)
    · refine c_iconst dX4_writtenBy_106 (v := 0) rfl ?_
      refine c_keep [] (ls2 := []) rfl ?_
      exact jo_X4_writtenBy_107 d hlev 0 M
    · refine c_iconst dX4_writtenBy_95 (v := 1) rfl ?_
      refine c_aload_n (i := 0) dX4_writtenBy_96 rfl rfl ?_
      refine gf_RX4_30 (blk_get0 h_t0) dX4_writtenBy_97 ?_
      refine c_iload_n (i := 1) dX4_writtenBy_100 rfl rfl ?_
      refine c_chk (fun h4 => ?_)
      refine c_iald (blk_get0 (blk_sub (C := [(20, 60)]) (i := 7) h_t0 rfl)) h4 dX4_writtenBy_101 ?_
      refine c_ishl dX4_writtenBy_102 ?_
      refine c_goto (tgt := 107) dX4_writtenBy_103 rfl ?_
      refine c_keep [] (ls2 := []) rfl ?_
      exact jo_X4_writtenBy_107 d hlev (1 <<< ((M (t0 + 7) (ix x1)) &&& 31)) M
  · refine c_ite (fun h5 => ?_) (fun h5 => ?_)
    · refine c_lookup (tgt := 82) dX4_writtenBy_6 (by decide) (by rw [h5] <;> rfl) rfl ?_
      refine c_iconst dX4_writtenBy_82 (v := 1) rfl ?_
      refine c_aload_n (i := 0) dX4_writtenBy_83 rfl rfl ?_
      refine gf_RX4_30 (blk_get0 h_t0) dX4_writtenBy_84 ?_
      refine c_iload_n (i := 1) dX4_writtenBy_87 rfl rfl ?_
      refine c_chk (fun h6 => ?_)
      refine c_iald (blk_get0 (blk_sub (C := [(20, 60)]) (i := 7) h_t0 rfl)) h6 dX4_writtenBy_88 ?_
      refine c_ishl dX4_writtenBy_89 ?_
      exact c_iret rfl dX4_writtenBy_90
    · refine c_ite (fun h7 => ?_) (fun h7 => ?_)
      · refine c_lookup (tgt := 72) dX4_writtenBy_6 (by decide) (by rw [h7] <;> rfl) rfl ?_
        refine c_aload_n (i := 0) dX4_writtenBy_72 rfl rfl ?_
        refine gf_RX4_33 (blk_get0 h_t0) dX4_writtenBy_73 ?_
        refine c_iload_n (i := 1) dX4_writtenBy_76 rfl rfl ?_
        refine c_chk (fun h8 => ?_)
        refine c_iald (blk_get0 (blk_sub (C := [(20, 60)]) (i := 8) h_t0 rfl)) h8 dX4_writtenBy_77 ?_
        refine c_callSp (as := [.inl (M (t0 + 8) (ix x1))]) (rs := []) (ev_X4_rowBit 0 (Nat.le_refl _) (M (t0 + 8) (ix x1)) M) rfl (Nat.lt_of_lt_of_le (by decide) hlev) mw_X4_rowBit ws_X4_rowBit wl_RX4_109 mn_X4_rowBit rfl (by decide) (Nat.le_of_ble_eq_true rfl) ⟨_, rfl⟩ dX4_writtenBy_78 ?_
        exact c_iret rfl dX4_writtenBy_81
      · refine c_ite (fun h9 => ?_) (fun h9 => ?_)
        · refine c_lookup (tgt := 82) dX4_writtenBy_6 (by decide) (by rw [h9] <;> rfl) rfl ?_
          refine c_iconst dX4_writtenBy_82 (v := 1) rfl ?_
          refine c_aload_n (i := 0) dX4_writtenBy_83 rfl rfl ?_
          refine gf_RX4_30 (blk_get0 h_t0) dX4_writtenBy_84 ?_
          refine c_iload_n (i := 1) dX4_writtenBy_87 rfl rfl ?_
          refine c_chk (fun h10 => ?_)
          refine c_iald (blk_get0 (blk_sub (C := [(20, 60)]) (i := 7) h_t0 rfl)) h10 dX4_writtenBy_88 ?_
          refine c_ishl dX4_writtenBy_89 ?_
          exact c_iret rfl dX4_writtenBy_90
        · refine c_ite (fun h11 => ?_) (fun h11 => ?_)
          · refine c_lookup (tgt := 82) dX4_writtenBy_6 (by decide) (by rw [h11] <;> rfl) rfl ?_
            refine c_iconst dX4_writtenBy_82 (v := 1) rfl ?_
            refine c_aload_n (i := 0) dX4_writtenBy_83 rfl rfl ?_
            refine gf_RX4_30 (blk_get0 h_t0) dX4_writtenBy_84 ?_
            refine c_iload_n (i := 1) dX4_writtenBy_87 rfl rfl ?_
            refine c_chk (fun h12 => ?_)
            refine c_iald (blk_get0 (blk_sub (C := [(20, 60)]) (i := 7) h_t0 rfl)) h12 dX4_writtenBy_88 ?_
            refine c_ishl dX4_writtenBy_89 ?_
            exact c_iret rfl dX4_writtenBy_90
          · refine c_ite (fun h13 => ?_) (fun h13 => ?_)
            · refine c_lookup (tgt := 108) dX4_writtenBy_6 (by decide) (by rw [h13] <;> rfl) rfl ?_
              refine c_iload_n (i := 2) dX4_writtenBy_108 rfl rfl ?_
              refine c_if_eq (tgt := 116) dX4_writtenBy_109 rfl (fun h14 => ?_) (fun h14 => ?_)
              · refine c_iconst dX4_writtenBy_116 (v := 1) rfl ?_
                refine c_aload_n (i := 0) dX4_writtenBy_117 rfl rfl ?_
                refine gf_RX4_30 (blk_get0 h_t0) dX4_writtenBy_118 ?_
                refine c_iload_n (i := 1) dX4_writtenBy_121 rfl rfl ?_
                refine c_chk (fun h15 => ?_)
                refine c_iald (blk_get0 (blk_sub (C := [(20, 60)]) (i := 7) h_t0 rfl)) h15 dX4_writtenBy_122 ?_
                refine c_ishl dX4_writtenBy_123 ?_
                refine c_keep [] (ls2 := []) rfl ?_
                exact jo_X4_writtenBy_124 d hlev (1 <<< ((M (t0 + 7) (ix x1)) &&& 31)) M
              · refine c_iconst dX4_writtenBy_112 (v := 0) rfl ?_
                refine c_goto (tgt := 124) dX4_writtenBy_113 rfl ?_
                refine c_keep [] (ls2 := []) rfl ?_
                exact jo_X4_writtenBy_124 d hlev 0 M
            · refine c_ite (fun h16 => ?_) (fun h16 => ?_)
              · refine c_lookup (tgt := 82) dX4_writtenBy_6 (by decide) (by rw [h16] <;> rfl) rfl ?_
                refine c_iconst dX4_writtenBy_82 (v := 1) rfl ?_
                refine c_aload_n (i := 0) dX4_writtenBy_83 rfl rfl ?_
                refine gf_RX4_30 (blk_get0 h_t0) dX4_writtenBy_84 ?_
                refine c_iload_n (i := 1) dX4_writtenBy_87 rfl rfl ?_
                refine c_chk (fun h17 => ?_)
                refine c_iald (blk_get0 (blk_sub (C := [(20, 60)]) (i := 7) h_t0 rfl)) h17 dX4_writtenBy_88 ?_
                refine c_ishl dX4_writtenBy_89 ?_
                exact c_iret rfl dX4_writtenBy_90
              · refine c_lookup (tgt := 125) dX4_writtenBy_6 (by decide) (sw_lk (ks := [8, 9, 10, 11, 12, 13, 34]) (List.forall_mem_cons.mpr ⟨h2, (List.forall_mem_cons.mpr ⟨h5, (List.forall_mem_cons.mpr ⟨h7, (List.forall_mem_cons.mpr ⟨h9, (List.forall_mem_cons.mpr ⟨h11, (List.forall_mem_cons.mpr ⟨h13, (List.forall_mem_cons.mpr ⟨h16, (fun _ q => absurd q List.not_mem_nil)⟩)⟩)⟩)⟩)⟩)⟩)⟩) (by decide)) rfl ?_
                refine c_iconst dX4_writtenBy_125 (v := 0) rfl ?_
                exact c_iret rfl dX4_writtenBy_126
