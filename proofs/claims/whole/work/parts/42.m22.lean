abbrev mdX10_reorder : MD := (yX10_reorder, cX10_reorder, 4, (some .int))
theorem mw_X10_reorder : mdW mdX10_reorder := ⟨wm_X10_reorder, w0_RX10, by decide, by decide⟩
theorem mn_X10_reorder : (parseMethodDescriptor yX10_reorder.desc).map (fun d => d.parameters.length) = some 0 := by decide +kernel
def l_X10_reorder_87 (x1 : Int32) (x2 : Int32) (K87 : Int32 × Mem → Option (Int32 × Mem)) : Int32 × Mem → Option (Int32 × Mem) := fun s => match s with
  | (x3, M) => if (M 1 1440) ≤ x3 then some (x1 - x2, M) else if inb x3 16 then if inb (1441 + x3) 1671 then wrt (up M 1 (ix (1441 + x3)) (M 9 (ix x3))) (fun M14 => K87 (x3 + 1, M14)) else none else none
set_option maxRecDepth 20000 in
set_option maxHeartbeats 2000000 in
theorem lo_X10_reorder_87 (d : Nat) (hlev : 14 ≤ d) (x1 : Int32) (x2 : Int32) (s : Int32 × Mem) : CorM KSm ST1 RX10 cX10_reorder 4 (some .int) d 87 [(0, .inr 0), (1, .inl x1), (2, .inl x2), (3, .inl s.1)] [] s.2 (loopC (l_X10_reorder_87 x1 x2) fuelL s) := by
  refine c_loop (L := fun s : Int32 × Mem => [(0, .inr 0), (1, .inl x1), (2, .inl x2), (3, .inl s.1)]) (Mf := fun s : Int32 × Mem => s.2) (fun K87 hK87 s => ?_) fuelL s
  obtain ⟨x3, M⟩ := s
  show CorM KSm ST1 RX10 cX10_reorder 4 (some .int) d 87 [(0, .inr 0), (1, .inl x1), (2, .inl x2), (3, .inl x3)] [] M (l_X10_reorder_87 x1 x2 K87 (x3, M))
  unfold l_X10_reorder_87
  refine c_iload_n (i := 3) dX10_reorder_87 rfl rfl ?_
  refine c_aload_n (i := 0) dX10_reorder_88 rfl rfl ?_
  refine gf_RX10_9 (blk_get0 KSm_b0) dX10_reorder_89 ?_
  refine c_sipush dX10_reorder_92 (v := 1440) rfl ?_
  refine c_iald (blk_get0 (blk_sub (C := [(20, 1671)]) (i := 1) KSm_b0 rfl)) (by decide) dX10_reorder_95 ?_
  refine c_icmp_ge (tgt := 121) dX10_reorder_96 rfl (fun h11 => ?_) (fun h11 => ?_)
  · refine c_iload_n (i := 1) dX10_reorder_121 rfl rfl ?_
    refine c_iload_n (i := 2) dX10_reorder_122 rfl rfl ?_
    refine c_isub dX10_reorder_123 ?_
    exact c_iret rfl dX10_reorder_124
  · refine c_aload_n (i := 0) dX10_reorder_99 rfl rfl ?_
    refine gf_RX10_9 (blk_get0 KSm_b0) dX10_reorder_100 ?_
    refine c_sipush dX10_reorder_103 (v := 1441) rfl ?_
    refine c_iload_n (i := 3) dX10_reorder_106 rfl rfl ?_
    refine c_iadd dX10_reorder_107 ?_
    refine c_aload_n (i := 0) dX10_reorder_108 rfl rfl ?_
    refine gf_RX10_39 (blk_get0 KSm_b0) dX10_reorder_109 ?_
    refine c_iload_n (i := 3) dX10_reorder_112 rfl rfl ?_
    refine c_chk (fun h12 => ?_)
    refine c_iald (blk_get0 (blk_sub (C := [(20, 16)]) (i := 9) KSm_b0 rfl)) h12 dX10_reorder_113 ?_
    refine c_chk (fun h13 => ?_)
    refine c_iast (blk_get0 (blk_sub (C := [(20, 1671)]) (i := 1) KSm_b0 rfl)) h13 dX10_reorder_114 ?_
    refine c_wrt (fun M14 => ?_)
    refine c_iinc dX10_reorder_115 rfl (v := 1) rfl (by decide) (ls2 := [(0, .inr 0), (1, .inl x1), (2, .inl x2), (3, .inl (x3 + 1))]) rfl ?_
    refine c_goto (tgt := 87) dX10_reorder_118 rfl ?_
    refine c_keep [0, 1, 2, 3] (ls2 := [(0, .inr 0), (1, .inl x1), (2, .inl x2), (3, .inl (x3 + 1))]) rfl ?_
    exact hK87 (x3 + 1, M14)
def l_X10_reorder_46 (x1 : Int32) (x2 : Int32) (K46 : Int32 × Mem → Option (Int32 × Mem)) : Int32 × Mem → Option (Int32 × Mem) := fun s => match s with
  | (x3, M) => if (M 1 1440) ≤ x3 then loopC (l_X10_reorder_87 x1 x2) fuelL (0, M) else if inb x3 6 then if inb (1441 + (M 11 (ix x3))) 1671 then if inb x3 16 then wrt (up M 9 (ix x3) (M 1 (ix (1441 + (M 11 (ix x3)))))) (fun M18 => K46 (x3 + 1, M18)) else none else none else none
set_option maxRecDepth 20000 in
set_option maxHeartbeats 2000000 in
theorem lo_X10_reorder_46 (d : Nat) (hlev : 14 ≤ d) (x1 : Int32) (x2 : Int32) (s : Int32 × Mem) : CorM KSm ST1 RX10 cX10_reorder 4 (some .int) d 46 [(0, .inr 0), (1, .inl x1), (2, .inl x2), (3, .inl s.1)] [] s.2 (loopC (l_X10_reorder_46 x1 x2) fuelL s) := by
  refine c_loop (L := fun s : Int32 × Mem => [(0, .inr 0), (1, .inl x1), (2, .inl x2), (3, .inl s.1)]) (Mf := fun s : Int32 × Mem => s.2) (fun K46 hK46 s => ?_) fuelL s
  obtain ⟨x3, M⟩ := s
  show CorM KSm ST1 RX10 cX10_reorder 4 (some .int) d 46 [(0, .inr 0), (1, .inl x1), (2, .inl x2), (3, .inl x3)] [] M (l_X10_reorder_46 x1 x2 K46 (x3, M))
  unfold l_X10_reorder_46
  refine c_iload_n (i := 3) dX10_reorder_46 rfl rfl ?_
  refine c_aload_n (i := 0) dX10_reorder_47 rfl rfl ?_
  refine gf_RX10_9 (blk_get0 KSm_b0) dX10_reorder_48 ?_
  refine c_sipush dX10_reorder_51 (v := 1440) rfl ?_
  refine c_iald (blk_get0 (blk_sub (C := [(20, 1671)]) (i := 1) KSm_b0 rfl)) (by decide) dX10_reorder_54 ?_
  refine c_icmp_ge (tgt := 85) dX10_reorder_55 rfl (fun h10 => ?_) (fun h10 => ?_)
  · refine c_iconst dX10_reorder_85 (v := 0) rfl ?_
    refine c_istore_n (i := 3) dX10_reorder_86 rfl (by decide) (ls2 := [(0, .inr 0), (1, .inl x1), (2, .inl x2), (3, .inl 0)]) rfl ?_
    refine c_keep [0, 1, 2, 3] (ls2 := [(0, .inr 0), (1, .inl x1), (2, .inl x2), (3, .inl 0)]) rfl ?_
    exact lo_X10_reorder_87 d hlev x1 x2 (0, M)
  · refine c_aload_n (i := 0) dX10_reorder_58 rfl rfl ?_
    refine gf_RX10_39 (blk_get0 KSm_b0) dX10_reorder_59 ?_
    refine c_iload_n (i := 3) dX10_reorder_62 rfl rfl ?_
    refine c_aload_n (i := 0) dX10_reorder_63 rfl rfl ?_
    refine gf_RX10_9 (blk_get0 KSm_b0) dX10_reorder_64 ?_
    refine c_sipush dX10_reorder_67 (v := 1441) rfl ?_
    refine c_aload_n (i := 0) dX10_reorder_70 rfl rfl ?_
    refine gf_RX10_45 (blk_get0 KSm_b0) dX10_reorder_71 ?_
    refine c_iload_n (i := 3) dX10_reorder_74 rfl rfl ?_
    refine c_chk (fun h15 => ?_)
    refine c_iald (blk_get0 (blk_sub (C := [(20, 6)]) (i := 11) KSm_b0 rfl)) h15 dX10_reorder_75 ?_
    refine c_iadd dX10_reorder_76 ?_
    refine c_chk (fun h16 => ?_)
    refine c_iald (blk_get0 (blk_sub (C := [(20, 1671)]) (i := 1) KSm_b0 rfl)) h16 dX10_reorder_77 ?_
    refine c_chk (fun h17 => ?_)
    refine c_iast (blk_get0 (blk_sub (C := [(20, 16)]) (i := 9) KSm_b0 rfl)) h17 dX10_reorder_78 ?_
    refine c_wrt (fun M18 => ?_)
    refine c_iinc dX10_reorder_79 rfl (v := 1) rfl (by decide) (ls2 := [(0, .inr 0), (1, .inl x1), (2, .inl x2), (3, .inl (x3 + 1))]) rfl ?_
    refine c_goto (tgt := 46) dX10_reorder_82 rfl ?_
    refine c_keep [0, 1, 2, 3] (ls2 := [(0, .inr 0), (1, .inl x1), (2, .inl x2), (3, .inl (x3 + 1))]) rfl ?_
    exact hK46 (x3 + 1, M18)
def f_X10_reorder (M : Mem) : Option (Int32 × Mem) := wrt (up M 0 0 0) (fun M1 => bnd (f_X10_may (if 6 < (M1 1 1440) then (0 : Int32) else (1 : Int32)) 1 M1) (fun v3 M4 => if ¬ v3 = 0 then bnd (f_X10_wouldFinish (-1) M4) (fun v6 M7 => bnd (f_X10_finds M7) (fun v8 M9 => loopC (l_X10_reorder_46 v6 v8) fuelL (0, M9))) else some (0, M4)))
set_option maxRecDepth 20000 in
set_option maxHeartbeats 2000000 in
theorem ev_X10_reorder (d : Nat) (hlev : 14 ≤ d) (M : Mem) : Ev KSm ST1 mdX10_reorder d [.inr 0] M (f_X10_reorder M) := by
  refine ev_of rfl (Nat.le_of_ble_eq_true rfl) ?_
  show CorM KSm ST1 RX10 cX10_reorder 4 (some .int) d 0 [(0, .inr 0)] [] M (f_X10_reorder M)
  unfold f_X10_reorder
  refine c_aload_n (i := 0) dX10_reorder_0 rfl rfl ?_
  refine c_iconst dX10_reorder_1 (v := 0) rfl ?_
  refine pf_RX10_60 (blk_get0 KSm_b0) dX10_reorder_2 ?_
  refine c_wrt (fun M1 => ?_)
  refine c_aload_n (i := 0) dX10_reorder_5 rfl rfl ?_
  refine c_aload_n (i := 0) dX10_reorder_6 rfl rfl ?_
  refine gf_RX10_9 (blk_get0 KSm_b0) dX10_reorder_7 ?_
  refine c_sipush dX10_reorder_10 (v := 1440) rfl ?_
  refine c_iald (blk_get0 (blk_sub (C := [(20, 1671)]) (i := 1) KSm_b0 rfl)) (by decide) dX10_reorder_13 ?_
  refine c_bipush dX10_reorder_14 (v := 6) rfl ?_
  have J_z2 : ∀ z2 : Int32, isB z2 → CorM KSm ST1 RX10 cX10_reorder 4 (some .int) d 24 [(0, .inr 0)] [.inl z2, .inr 0] M1 (bnd (f_X10_may z2 1 M1) (fun v3 M4 => if ¬ v3 = 0 then bnd (f_X10_wouldFinish (-1) M4) (fun v6 M7 => bnd (f_X10_finds M7) (fun v8 M9 => loopC (l_X10_reorder_46 v6 v8) fuelL (0, M9))) else some (0, M4))) := by
    intro z2 h_z2
    refine c_iconst dX10_reorder_24 (v := 1) rfl ?_
    refine c_callV (as := [.inl z2, .inl 1]) (rs := []) (ev_X10_may 0 (Nat.le_refl _) z2 1 M1) rfl (Nat.lt_of_lt_of_le (by decide) hlev) mw_X10_may wi_X10_may wv_X10_may (blk_get0 KSm_b0) (by decide) rfl wl_RX10_66 mn_X10_may rfl (by decide) (Nat.le_of_ble_eq_true rfl) ⟨_, rfl⟩ dX10_reorder_25 (fun v3 M4 _ => ?_)
    refine c_if_ne (tgt := 33) dX10_reorder_28 rfl (fun h5 => ?_) (fun h5 => ?_)
    · refine c_aload_n (i := 0) dX10_reorder_33 rfl rfl ?_
      refine c_iconst dX10_reorder_34 (v := (-1)) rfl ?_
      refine c_callV (as := [.inl (-1)]) (rs := []) (ev_X10_wouldFinish 5 (Nat.le_refl _) (-1) M4) rfl (Nat.lt_of_lt_of_le (by decide) hlev) mw_X10_wouldFinish wi_X10_wouldFinish wv_X10_wouldFinish (blk_get0 KSm_b0) (by decide) rfl wl_RX10_383 mn_X10_wouldFinish rfl (by decide) (Nat.le_of_ble_eq_true rfl) ⟨_, rfl⟩ dX10_reorder_35 (fun v6 M7 _ => ?_)
      refine c_istore_n (i := 1) dX10_reorder_38 rfl (by decide) (ls2 := [(0, .inr 0), (1, .inl v6)]) rfl ?_
      refine c_aload_n (i := 0) dX10_reorder_39 rfl rfl ?_
      refine c_callV (as := []) (rs := []) (ev_X10_finds 13 (Nat.le_refl _) M7) rfl (Nat.lt_of_lt_of_le (by decide) hlev) mw_X10_finds wi_X10_finds wv_X10_finds (blk_get0 KSm_b0) (by decide) rfl wl_RX10_380 mn_X10_finds rfl (by decide) (Nat.le_of_ble_eq_true rfl) ⟨_, rfl⟩ dX10_reorder_40 (fun v8 M9 _ => ?_)
      refine c_istore_n (i := 2) dX10_reorder_43 rfl (by decide) (ls2 := [(0, .inr 0), (1, .inl v6), (2, .inl v8)]) rfl ?_
      refine c_iconst dX10_reorder_44 (v := 0) rfl ?_
      refine c_istore_n (i := 3) dX10_reorder_45 rfl (by decide) (ls2 := [(0, .inr 0), (1, .inl v6), (2, .inl v8), (3, .inl 0)]) rfl ?_
      refine c_keep [0, 1, 2, 3] (ls2 := [(0, .inr 0), (1, .inl v6), (2, .inl v8), (3, .inl 0)]) rfl ?_
      exact lo_X10_reorder_46 d hlev v6 v8 (0, M9)
    · refine c_iconst dX10_reorder_31 (v := 0) rfl ?_
      exact c_iret rfl dX10_reorder_32
  refine c_val (b := 6 < (M1 1 1440)) (v1 := (0 : Int32)) (v2 := (1 : Int32)) (F := fun z2 => bnd (f_X10_may z2 1 M1) (fun v3 M4 => if ¬ v3 = 0 then bnd (f_X10_wouldFinish (-1) M4) (fun v6 M7 => bnd (f_X10_finds M7) (fun v8 M9 => loopC (l_X10_reorder_46 v6 v8) fuelL (0, M9))) else some (0, M4))) (fun h19 => ?_) (fun h19 => ?_)
  · refine c_T h19 (c_icmp_gt (tgt := 23) dX10_reorder_16 rfl (fun _ => ?_) (fun q => absurd h19 q))
    refine c_iconst dX10_reorder_23 (v := 0) rfl ?_
    refine c_keep [0] (ls2 := [(0, .inr 0)]) rfl ?_
    exact J_z2 0 (Or.inl rfl)
  · refine c_Fl h19 (c_icmp_gt (tgt := 23) dX10_reorder_16 rfl (fun q => absurd q h19) (fun _ => ?_))
    refine c_iconst dX10_reorder_19 (v := 1) rfl ?_
    refine c_goto (tgt := 24) dX10_reorder_20 rfl ?_
    refine c_keep [0] (ls2 := [(0, .inr 0)]) rfl ?_
    exact J_z2 1 (Or.inr rfl)

abbrev mdX10_budgetFor : MD := (yX10_budgetFor, cX10_budgetFor, 5, (some .int))
theorem mw_X10_budgetFor : mdW mdX10_budgetFor := ⟨wm_X10_budgetFor, w0_RX10, by decide, by decide⟩
theorem mn_X10_budgetFor : (parseMethodDescriptor yX10_budgetFor.desc).map (fun d => d.parameters.length) = some 1 := by decide +kernel
def j_X10_budgetFor_68 (x2 : Int32) (x3 : Int32) (M : Mem) : Option (Int32 × Mem) := wrt (up M 5 9 x2) (fun M5 => bnd (f_X10_may (if x3 = (-1) then (0 : Int32) else (1 : Int32)) 1 M5) (fun v7 M8 => some ((if v7 = 0 then (0 : Int32) else x3), M8)))
set_option maxRecDepth 20000 in
set_option maxHeartbeats 2000000 in
theorem jo_X10_budgetFor_68 (d : Nat) (hlev : 5 ≤ d) (x2 : Int32) (x3 : Int32) (M : Mem) : CorM KSm ST1 RX10 cX10_budgetFor 5 (some .int) d 68 [(0, .inr 0), (2, .inl x2), (3, .inl x3)] [] M (j_X10_budgetFor_68 x2 x3 M) := by
  unfold j_X10_budgetFor_68
  refine c_aload_n (i := 0) dX10_budgetFor_68 rfl rfl ?_
  refine gf_RX10_23 (blk_get0 KSm_b0) dX10_budgetFor_69 ?_
  refine c_bipush dX10_budgetFor_72 (v := 9) rfl ?_
  refine c_iload_n (i := 2) dX10_budgetFor_74 rfl rfl ?_
  refine c_iast (blk_get0 (blk_sub (C := [(20, 290)]) (i := 5) KSm_b0 rfl)) (by decide) dX10_budgetFor_75 ?_
  refine c_wrt (fun M5 => ?_)
  refine c_aload_n (i := 0) dX10_budgetFor_76 rfl rfl ?_
  refine c_iload_n (i := 3) dX10_budgetFor_77 rfl rfl ?_
  refine c_iconst dX10_budgetFor_78 (v := (-1)) rfl ?_
  have J_z6 : ∀ z6 : Int32, isB z6 → CorM KSm ST1 RX10 cX10_budgetFor 5 (some .int) d 87 [(3, .inl x3)] [.inl z6, .inr 0] M5 (bnd (f_X10_may z6 1 M5) (fun v7 M8 => some ((if v7 = 0 then (0 : Int32) else x3), M8))) := by
    intro z6 h_z6
    refine c_iconst dX10_budgetFor_87 (v := 1) rfl ?_
    refine c_callV (as := [.inl z6, .inl 1]) (rs := []) (ev_X10_may 0 (Nat.le_refl _) z6 1 M5) rfl (Nat.lt_of_lt_of_le (by decide) hlev) mw_X10_may wi_X10_may wv_X10_may (blk_get0 KSm_b0) (by decide) rfl wl_RX10_66 mn_X10_may rfl (by decide) (Nat.le_of_ble_eq_true rfl) ⟨_, rfl⟩ dX10_budgetFor_88 (fun v7 M8 _ => ?_)
    have J_z9 : ∀ z9 : Int32, CorM KSm ST1 RX10 cX10_budgetFor 5 (some .int) d 99 [] [.inl z9] M8 (some (z9, M8)) := by
      intro z9
      exact c_iret rfl dX10_budgetFor_99
    refine c_val (b := v7 = 0) (v1 := (0 : Int32)) (v2 := x3) (F := fun z9 => some (z9, M8)) (fun h10 => ?_) (fun h10 => ?_)
    · refine c_T h10 (c_if_eq (tgt := 98) dX10_budgetFor_91 rfl (fun _ => ?_) (fun q => absurd h10 q))
      refine c_iconst dX10_budgetFor_98 (v := 0) rfl ?_
      refine c_keep [] (ls2 := []) rfl ?_
      exact J_z9 0
    · refine c_Fl h10 (c_if_eq (tgt := 98) dX10_budgetFor_91 rfl (fun q => absurd q h10) (fun _ => ?_))
      refine c_iload_n (i := 3) dX10_budgetFor_94 rfl rfl ?_
      refine c_goto (tgt := 99) dX10_budgetFor_95 rfl ?_
      refine c_keep [] (ls2 := []) rfl ?_
      exact J_z9 x3
  refine c_val (b := x3 = (-1)) (v1 := (0 : Int32)) (v2 := (1 : Int32)) (F := fun z6 => bnd (f_X10_may z6 1 M5) (fun v7 M8 => some ((if v7 = 0 then (0 : Int32) else x3), M8))) (fun h11 => ?_) (fun h11 => ?_)
  · refine c_T h11 (c_icmp_eq (tgt := 86) dX10_budgetFor_79 rfl (fun _ => ?_) (fun q => absurd h11 q))
    refine c_iconst dX10_budgetFor_86 (v := 0) rfl ?_
    refine c_keep [3] (ls2 := [(3, .inl x3)]) rfl ?_
    exact J_z6 0 (Or.inl rfl)
  · refine c_Fl h11 (c_icmp_eq (tgt := 86) dX10_budgetFor_79 rfl (fun q => absurd q h11) (fun _ => ?_))
    refine c_iconst dX10_budgetFor_82 (v := 1) rfl ?_
    refine c_goto (tgt := 87) dX10_budgetFor_83 rfl ?_
    refine c_keep [3] (ls2 := [(3, .inl x3)]) rfl ?_
    exact J_z6 1 (Or.inr rfl)
def l_X10_budgetFor_22 (x1 : Int32) (x2 : Int32) (K22 : Int32 × Int32 × Mem → Option (Int32 × Mem)) : Int32 × Int32 × Mem → Option (Int32 × Mem) := fun s => match s with
  | (x3, x4, M) => if 8 < x4 then j_X10_budgetFor_68 x2 x3 M else if ¬ x3 = (-1) then j_X10_budgetFor_68 x2 x3 M else wrt (up M 5 9 x4) (fun M13 => bnd (f_X10_allTicks M13) (fun v14 M15 => bnd (f_X10_comesBack M15) (fun _ M18 => K22 ((if x1 < v14 then (-1 : Int32) else x4), x4 + 1, M18))))
set_option maxRecDepth 20000 in
set_option maxHeartbeats 2000000 in
theorem lo_X10_budgetFor_22 (d : Nat) (hlev : 5 ≤ d) (x1 : Int32) (x2 : Int32) (s : Int32 × Int32 × Mem) : CorM KSm ST1 RX10 cX10_budgetFor 5 (some .int) d 22 [(0, .inr 0), (1, .inl x1), (2, .inl x2), (3, .inl s.1), (4, .inl s.2.1)] [] s.2.2 (loopC (l_X10_budgetFor_22 x1 x2) fuelL s) := by
  refine c_loop (L := fun s : Int32 × Int32 × Mem => [(0, .inr 0), (1, .inl x1), (2, .inl x2), (3, .inl s.1), (4, .inl s.2.1)]) (Mf := fun s : Int32 × Int32 × Mem => s.2.2) (fun K22 hK22 s => ?_) fuelL s
  obtain ⟨x3, x4, M⟩ := s
  show CorM KSm ST1 RX10 cX10_budgetFor 5 (some .int) d 22 [(0, .inr 0), (1, .inl x1), (2, .inl x2), (3, .inl x3), (4, .inl x4)] [] M (l_X10_budgetFor_22 x1 x2 K22 (x3, x4, M))
  unfold l_X10_budgetFor_22
  refine c_iload dX10_budgetFor_22 rfl ?_
  refine c_bipush dX10_budgetFor_24 (v := 8) rfl ?_
  refine c_icmp_gt (tgt := 68) dX10_budgetFor_26 rfl (fun h4 => ?_) (fun h4 => ?_)
  · refine c_keep [0, 2, 3] (ls2 := [(0, .inr 0), (2, .inl x2), (3, .inl x3)]) rfl ?_
    exact jo_X10_budgetFor_68 d hlev x2 x3 M
  · refine c_iload_n (i := 3) dX10_budgetFor_29 rfl rfl ?_
    refine c_iconst dX10_budgetFor_30 (v := (-1)) rfl ?_
    refine c_icmp_ne (tgt := 68) dX10_budgetFor_31 rfl (fun h12 => ?_) (fun h12 => ?_)
    · refine c_keep [0, 2, 3] (ls2 := [(0, .inr 0), (2, .inl x2), (3, .inl x3)]) rfl ?_
      exact jo_X10_budgetFor_68 d hlev x2 x3 M
    · refine c_aload_n (i := 0) dX10_budgetFor_34 rfl rfl ?_
      refine gf_RX10_23 (blk_get0 KSm_b0) dX10_budgetFor_35 ?_
      refine c_bipush dX10_budgetFor_38 (v := 9) rfl ?_
      refine c_iload dX10_budgetFor_40 rfl ?_
      refine c_iast (blk_get0 (blk_sub (C := [(20, 290)]) (i := 5) KSm_b0 rfl)) (by decide) dX10_budgetFor_42 ?_
      refine c_wrt (fun M13 => ?_)
      refine c_aload_n (i := 0) dX10_budgetFor_43 rfl rfl ?_
      refine c_callV (as := []) (rs := []) (ev_X10_allTicks 4 (Nat.le_refl _) M13) rfl (Nat.lt_of_lt_of_le (by decide) hlev) mw_X10_allTicks wi_X10_allTicks wv_X10_allTicks (blk_get0 KSm_b0) (by decide) rfl wl_RX10_356 mn_X10_allTicks rfl (by decide) (Nat.le_of_ble_eq_true rfl) ⟨_, rfl⟩ dX10_budgetFor_44 (fun v14 M15 _ => ?_)
      refine c_iload_n (i := 1) dX10_budgetFor_47 rfl rfl ?_
      have J_z16 : ∀ z16 : Int32, CorM KSm ST1 RX10 cX10_budgetFor 5 (some .int) d 57 [(0, .inr 0), (1, .inl x1), (2, .inl x2), (4, .inl x4)] [.inl z16] M15 (bnd (f_X10_comesBack M15) (fun _ M18 => K22 (z16, x4 + 1, M18))) := by
        intro z16
        refine c_istore_n (i := 3) dX10_budgetFor_57 rfl (by decide) (ls2 := [(0, .inr 0), (1, .inl x1), (2, .inl x2), (3, .inl z16), (4, .inl x4)]) rfl ?_
        refine c_aload_n (i := 0) dX10_budgetFor_58 rfl rfl ?_
        refine c_callVv (as := []) (rs := []) (ev_X10_comesBack 0 (Nat.le_refl _) M15) rfl (Nat.lt_of_lt_of_le (by decide) hlev) mw_X10_comesBack wi_X10_comesBack wv_X10_comesBack (blk_get0 KSm_b0) (by decide) rfl wl_RX10_359 mn_X10_comesBack rfl (by decide) (Nat.le_of_ble_eq_true rfl) rfl dX10_budgetFor_59 (fun v17 M18 _ => ?_)
        refine c_iinc dX10_budgetFor_62 rfl (v := 1) rfl (by decide) (ls2 := [(0, .inr 0), (1, .inl x1), (2, .inl x2), (3, .inl z16), (4, .inl (x4 + 1))]) rfl ?_
        refine c_goto (tgt := 22) dX10_budgetFor_65 rfl ?_
        refine c_keep [0, 1, 2, 3, 4] (ls2 := [(0, .inr 0), (1, .inl x1), (2, .inl x2), (3, .inl z16), (4, .inl (x4 + 1))]) rfl ?_
        exact hK22 (z16, x4 + 1, M18)
      refine c_val (b := x1 < v14) (v1 := (-1 : Int32)) (v2 := x4) (F := fun z16 => bnd (f_X10_comesBack M15) (fun _ M18 => K22 (z16, x4 + 1, M18))) (fun h19 => ?_) (fun h19 => ?_)
      · refine c_T h19 (c_icmp_gt (tgt := 56) dX10_budgetFor_48 rfl (fun _ => ?_) (fun q => absurd h19 q))
        refine c_iconst dX10_budgetFor_56 (v := (-1)) rfl ?_
        refine c_keep [0, 1, 2, 4] (ls2 := [(0, .inr 0), (1, .inl x1), (2, .inl x2), (4, .inl x4)]) rfl ?_
        exact J_z16 (-1)
      · refine c_Fl h19 (c_icmp_gt (tgt := 56) dX10_budgetFor_48 rfl (fun q => absurd q h19) (fun _ => ?_))
        refine c_iload dX10_budgetFor_51 rfl ?_
        refine c_goto (tgt := 57) dX10_budgetFor_53 rfl ?_
        refine c_keep [0, 1, 2, 4] (ls2 := [(0, .inr 0), (1, .inl x1), (2, .inl x2), (4, .inl x4)]) rfl ?_
        exact J_z16 x4
def f_X10_budgetFor (x1 : Int32) (M : Mem) : Option (Int32 × Mem) := wrt (up M 0 0 0) (fun M1 => bnd (f_X10_keeps M1) (fun _ M3 => loopC (l_X10_budgetFor_22 x1 (M1 5 9)) fuelL ((-1), 1, M3)))
set_option maxRecDepth 20000 in
set_option maxHeartbeats 2000000 in
theorem ev_X10_budgetFor (d : Nat) (hlev : 5 ≤ d) (x1 : Int32) (M : Mem) : Ev KSm ST1 mdX10_budgetFor d [.inr 0, .inl x1] M (f_X10_budgetFor x1 M) := by
  refine ev_of rfl (Nat.le_of_ble_eq_true rfl) ?_
  show CorM KSm ST1 RX10 cX10_budgetFor 5 (some .int) d 0 [(0, .inr 0), (1, .inl x1)] [] M (f_X10_budgetFor x1 M)
  unfold f_X10_budgetFor
  refine c_aload_n (i := 0) dX10_budgetFor_0 rfl rfl ?_
  refine c_iconst dX10_budgetFor_1 (v := 0) rfl ?_
  refine pf_RX10_60 (blk_get0 KSm_b0) dX10_budgetFor_2 ?_
  refine c_wrt (fun M1 => ?_)
  refine c_aload_n (i := 0) dX10_budgetFor_5 rfl rfl ?_
  refine gf_RX10_23 (blk_get0 KSm_b0) dX10_budgetFor_6 ?_
  refine c_bipush dX10_budgetFor_9 (v := 9) rfl ?_
  refine c_iald (blk_get0 (blk_sub (C := [(20, 290)]) (i := 5) KSm_b0 rfl)) (by decide) dX10_budgetFor_11 ?_
  refine c_istore_n (i := 2) dX10_budgetFor_12 rfl (by decide) (ls2 := [(0, .inr 0), (1, .inl x1), (2, .inl (M1 5 9))]) rfl ?_
  refine c_iconst dX10_budgetFor_13 (v := (-1)) rfl ?_
  refine c_istore_n (i := 3) dX10_budgetFor_14 rfl (by decide) (ls2 := [(0, .inr 0), (1, .inl x1), (2, .inl (M1 5 9)), (3, .inl (-1))]) rfl ?_
  refine c_aload_n (i := 0) dX10_budgetFor_15 rfl rfl ?_
  refine c_callVv (as := []) (rs := []) (ev_X10_keeps 0 (Nat.le_refl _) M1) rfl (Nat.lt_of_lt_of_le (by decide) hlev) mw_X10_keeps wi_X10_keeps wv_X10_keeps (blk_get0 KSm_b0) (by decide) rfl wl_RX10_353 mn_X10_keeps rfl (by decide) (Nat.le_of_ble_eq_true rfl) rfl dX10_budgetFor_16 (fun v2 M3 _ => ?_)
  refine c_iconst dX10_budgetFor_19 (v := 1) rfl ?_
  refine c_istore dX10_budgetFor_20 (by decide) (ls2 := [(0, .inr 0), (1, .inl x1), (2, .inl (M1 5 9)), (3, .inl (-1)), (4, .inl 1)]) rfl ?_
  refine c_keep [0, 1, 2, 3, 4] (ls2 := [(0, .inr 0), (1, .inl x1), (2, .inl (M1 5 9)), (3, .inl (-1)), (4, .inl 1)]) rfl ?_
  exact lo_X10_budgetFor_22 d hlev x1 (M1 5 9) ((-1), 1, M3)

abbrev mdX10_save : MD := (yX10_save, cX10_save, 3, none)
theorem mw_X10_save : mdW mdX10_save := ⟨wm_X10_save, w0_RX10, by decide, by decide⟩
theorem mn_X10_save : (parseMethodDescriptor yX10_save.desc).map (fun d => d.parameters.length) = some 1 := by decide +kernel
def l_X10_save_29 (x1 : Int32) (K29 : Int32 × Mem → Option (Int32 × Mem)) : Int32 × Mem → Option (Int32 × Mem) := fun s => match s with
  | (x2, M) => if 1671 ≤ x2 then some (0, M) else if inb x2 1671 then if inb ((1671 * x1) + x2) 3342 then wrt (up M 2 (ix ((1671 * x1) + x2)) (M 1 (ix x2))) (fun M10 => K29 (x2 + 1, M10)) else none else none
set_option maxRecDepth 20000 in
set_option maxHeartbeats 2000000 in
theorem lo_X10_save_29 (d : Nat) (hlev : 1 ≤ d) (x1 : Int32) (s : Int32 × Mem) : CorM KSm ST1 RX10 cX10_save 3 none d 29 [(0, .inr 0), (1, .inl x1), (2, .inl s.1)] [] s.2 (loopC (l_X10_save_29 x1) fuelL s) := by
  refine c_loop (L := fun s : Int32 × Mem => [(0, .inr 0), (1, .inl x1), (2, .inl s.1)]) (Mf := fun s : Int32 × Mem => s.2) (fun K29 hK29 s => ?_) fuelL s
  obtain ⟨x2, M⟩ := s
  show CorM KSm ST1 RX10 cX10_save 3 none d 29 [(0, .inr 0), (1, .inl x1), (2, .inl x2)] [] M (l_X10_save_29 x1 K29 (x2, M))
  unfold l_X10_save_29
  refine c_iload_n (i := 2) dX10_save_29 rfl rfl ?_
  refine c_sipush dX10_save_30 (v := 1671) rfl ?_
  refine c_icmp_ge (tgt := 60) dX10_save_33 rfl (fun h7 => ?_) (fun h7 => ?_)
  · exact c_vret rfl dX10_save_60
  · refine c_aload_n (i := 0) dX10_save_36 rfl rfl ?_
    refine gf_RX10_13 (blk_get0 KSm_b0) dX10_save_37 ?_
    refine c_sipush dX10_save_40 (v := 1671) rfl ?_
    refine c_iload_n (i := 1) dX10_save_43 rfl rfl ?_
    refine c_imul dX10_save_44 ?_
    refine c_iload_n (i := 2) dX10_save_45 rfl rfl ?_
    refine c_iadd dX10_save_46 ?_
    refine c_aload_n (i := 0) dX10_save_47 rfl rfl ?_
    refine gf_RX10_9 (blk_get0 KSm_b0) dX10_save_48 ?_
    refine c_iload_n (i := 2) dX10_save_51 rfl rfl ?_
    refine c_chk (fun h8 => ?_)
    refine c_iald (blk_get0 (blk_sub (C := [(20, 1671)]) (i := 1) KSm_b0 rfl)) h8 dX10_save_52 ?_
    refine c_chk (fun h9 => ?_)
    refine c_iast (blk_get0 (blk_sub (C := [(20, 3342)]) (i := 2) KSm_b0 rfl)) h9 dX10_save_53 ?_
    refine c_wrt (fun M10 => ?_)
    refine c_iinc dX10_save_54 rfl (v := 1) rfl (by decide) (ls2 := [(0, .inr 0), (1, .inl x1), (2, .inl (x2 + 1))]) rfl ?_
    refine c_goto (tgt := 29) dX10_save_57 rfl ?_
    refine c_keep [0, 1, 2] (ls2 := [(0, .inr 0), (1, .inl x1), (2, .inl (x2 + 1))]) rfl ?_
    exact hK29 (x2 + 1, M10)
def f_X10_save (x1 : Int32) (M : Mem) : Option (Int32 × Mem) := wrt (up M 0 0 0) (fun M1 => bnd (f_X10_may (p_X10_isIn x1 0 1) 1 M1) (fun v2 M3 => if ¬ v2 = 0 then if inb x1 2 then wrt (up M3 4 (ix x1) 1) (fun M6 => loopC (l_X10_save_29 x1) fuelL (0, M6)) else none else some (0, M3)))
set_option maxRecDepth 20000 in
set_option maxHeartbeats 2000000 in
theorem ev_X10_save (d : Nat) (hlev : 1 ≤ d) (x1 : Int32) (M : Mem) : Ev KSm ST1 mdX10_save d [.inr 0, .inl x1] M (f_X10_save x1 M) := by
  refine ev_of rfl (Nat.le_of_ble_eq_true rfl) ?_
  show CorM KSm ST1 RX10 cX10_save 3 none d 0 [(0, .inr 0), (1, .inl x1)] [] M (f_X10_save x1 M)
  unfold f_X10_save
  refine c_aload_n (i := 0) dX10_save_0 rfl rfl ?_
  refine c_iconst dX10_save_1 (v := 0) rfl ?_
  refine pf_RX10_60 (blk_get0 KSm_b0) dX10_save_2 ?_
  refine c_wrt (fun M1 => ?_)
  refine c_aload_n (i := 0) dX10_save_5 rfl rfl ?_
  refine c_iload_n (i := 1) dX10_save_6 rfl rfl ?_
  refine c_iconst dX10_save_7 (v := 0) rfl ?_
  refine c_iconst dX10_save_8 (v := 1) rfl ?_
  refine c_callSp (as := [.inl x1, .inl 0, .inl 1]) (rs := [.inr 0]) (ev_X10_isIn 0 (Nat.le_refl _) x1 0 1 M1) rfl (Nat.lt_of_lt_of_le (by decide) hlev) mw_X10_isIn ws_X10_isIn wl_RX10_70 mn_X10_isIn rfl (by decide) (Nat.le_of_ble_eq_true rfl) ⟨_, rfl⟩ dX10_save_9 ?_
  refine c_iconst dX10_save_12 (v := 1) rfl ?_
  refine c_callV (as := [.inl (p_X10_isIn x1 0 1), .inl 1]) (rs := []) (ev_X10_may 0 (Nat.le_refl _) (p_X10_isIn x1 0 1) 1 M1) rfl (Nat.lt_of_lt_of_le (by decide) hlev) mw_X10_may wi_X10_may wv_X10_may (blk_get0 KSm_b0) (by decide) rfl wl_RX10_66 mn_X10_may rfl (by decide) (Nat.le_of_ble_eq_true rfl) ⟨_, rfl⟩ dX10_save_13 (fun v2 M3 _ => ?_)
  refine c_if_ne (tgt := 20) dX10_save_16 rfl (fun h4 => ?_) (fun h4 => ?_)
  · refine c_aload_n (i := 0) dX10_save_20 rfl rfl ?_
    refine gf_RX10_19 (blk_get0 KSm_b0) dX10_save_21 ?_
    refine c_iload_n (i := 1) dX10_save_24 rfl rfl ?_
    refine c_iconst dX10_save_25 (v := 1) rfl ?_
    refine c_chk (fun h5 => ?_)
    refine c_zast (blk_get0 (blk_sub (C := [(21, 2)]) (i := 4) KSm_b0 rfl)) h5 (Or.inr rfl) dX10_save_26 ?_
    refine c_wrt (fun M6 => ?_)
    refine c_iconst dX10_save_27 (v := 0) rfl ?_
    refine c_istore_n (i := 2) dX10_save_28 rfl (by decide) (ls2 := [(0, .inr 0), (1, .inl x1), (2, .inl 0)]) rfl ?_
    refine c_keep [0, 1, 2] (ls2 := [(0, .inr 0), (1, .inl x1), (2, .inl 0)]) rfl ?_
    exact lo_X10_save_29 d hlev x1 (0, M6)
  · exact c_vret rfl dX10_save_19

abbrev mdX10_restore : MD := (yX10_restore, cX10_restore, 3, none)
theorem mw_X10_restore : mdW mdX10_restore := ⟨wm_X10_restore, w0_RX10, by decide, by decide⟩
theorem mn_X10_restore : (parseMethodDescriptor yX10_restore.desc).map (fun d => d.parameters.length) = some 1 := by decide +kernel
def j_X10_restore_33 (M : Mem) : Option (Int32 × Mem) := some (0, M)
set_option maxRecDepth 20000 in
set_option maxHeartbeats 2000000 in
theorem jo_X10_restore_33 (d : Nat) (hlev : 1 ≤ d) (M : Mem) : CorM KSm ST1 RX10 cX10_restore 3 none d 33 [] [] M (j_X10_restore_33 M) := by
  unfold j_X10_restore_33
  exact c_vret rfl dX10_restore_33
def l_X10_restore_36 (x1 : Int32) (K36 : Int32 × Mem → Option (Int32 × Mem)) : Int32 × Mem → Option (Int32 × Mem) := fun s => match s with
  | (x2, M) => if 1671 ≤ x2 then some (0, M) else if inb ((1671 * x1) + x2) 3342 then if inb x2 1671 then wrt (up M 1 (ix x2) (M 2 (ix ((1671 * x1) + x2)))) (fun M12 => K36 (x2 + 1, M12)) else none else none
set_option maxRecDepth 20000 in
set_option maxHeartbeats 2000000 in
theorem lo_X10_restore_36 (d : Nat) (hlev : 1 ≤ d) (x1 : Int32) (s : Int32 × Mem) : CorM KSm ST1 RX10 cX10_restore 3 none d 36 [(0, .inr 0), (1, .inl x1), (2, .inl s.1)] [] s.2 (loopC (l_X10_restore_36 x1) fuelL s) := by
  refine c_loop (L := fun s : Int32 × Mem => [(0, .inr 0), (1, .inl x1), (2, .inl s.1)]) (Mf := fun s : Int32 × Mem => s.2) (fun K36 hK36 s => ?_) fuelL s
  obtain ⟨x2, M⟩ := s
  show CorM KSm ST1 RX10 cX10_restore 3 none d 36 [(0, .inr 0), (1, .inl x1), (2, .inl x2)] [] M (l_X10_restore_36 x1 K36 (x2, M))
  unfold l_X10_restore_36
  refine c_iload_n (i := 2) dX10_restore_36 rfl rfl ?_
  refine c_sipush dX10_restore_37 (v := 1671) rfl ?_
  refine c_icmp_ge (tgt := 67) dX10_restore_40 rfl (fun h9 => ?_) (fun h9 => ?_)
  · exact c_vret rfl dX10_restore_67
  · refine c_aload_n (i := 0) dX10_restore_43 rfl rfl ?_
    refine gf_RX10_9 (blk_get0 KSm_b0) dX10_restore_44 ?_
    refine c_iload_n (i := 2) dX10_restore_47 rfl rfl ?_
    refine c_aload_n (i := 0) dX10_restore_48 rfl rfl ?_
    refine gf_RX10_13 (blk_get0 KSm_b0) dX10_restore_49 ?_
    refine c_sipush dX10_restore_52 (v := 1671) rfl ?_
    refine c_iload_n (i := 1) dX10_restore_55 rfl rfl ?_
    refine c_imul dX10_restore_56 ?_
    refine c_iload_n (i := 2) dX10_restore_57 rfl rfl ?_
    refine c_iadd dX10_restore_58 ?_
    refine c_chk (fun h10 => ?_)
    refine c_iald (blk_get0 (blk_sub (C := [(20, 3342)]) (i := 2) KSm_b0 rfl)) h10 dX10_restore_59 ?_
    refine c_chk (fun h11 => ?_)
    refine c_iast (blk_get0 (blk_sub (C := [(20, 1671)]) (i := 1) KSm_b0 rfl)) h11 dX10_restore_60 ?_
    refine c_wrt (fun M12 => ?_)
    refine c_iinc dX10_restore_61 rfl (v := 1) rfl (by decide) (ls2 := [(0, .inr 0), (1, .inl x1), (2, .inl (x2 + 1))]) rfl ?_
    refine c_goto (tgt := 36) dX10_restore_64 rfl ?_
    refine c_keep [0, 1, 2] (ls2 := [(0, .inr 0), (1, .inl x1), (2, .inl (x2 + 1))]) rfl ?_
    exact hK36 (x2 + 1, M12)
def f_X10_restore (x1 : Int32) (M : Mem) : Option (Int32 × Mem) := wrt (up M 0 0 0) (fun M1 => bnd (f_X10_may (p_X10_isIn x1 0 1) 1 M1) (fun v2 M3 => if v2 = 0 then j_X10_restore_33 M3 else if inb x1 2 then bnd (f_X10_may (M3 4 (ix x1)) 2 M3) (fun v6 M7 => if ¬ v6 = 0 then loopC (l_X10_restore_36 x1) fuelL (0, M7) else j_X10_restore_33 M7) else none))
set_option maxRecDepth 20000 in
set_option maxHeartbeats 2000000 in
theorem ev_X10_restore (d : Nat) (hlev : 1 ≤ d) (x1 : Int32) (M : Mem) : Ev KSm ST1 mdX10_restore d [.inr 0, .inl x1] M (f_X10_restore x1 M) := by
  refine ev_of rfl (Nat.le_of_ble_eq_true rfl) ?_
  show CorM KSm ST1 RX10 cX10_restore 3 none d 0 [(0, .inr 0), (1, .inl x1)] [] M (f_X10_restore x1 M)
  unfold f_X10_restore
  refine c_aload_n (i := 0) dX10_restore_0 rfl rfl ?_
  refine c_iconst dX10_restore_1 (v := 0) rfl ?_
  refine pf_RX10_60 (blk_get0 KSm_b0) dX10_restore_2 ?_
  refine c_wrt (fun M1 => ?_)
  refine c_aload_n (i := 0) dX10_restore_5 rfl rfl ?_
  refine c_iload_n (i := 1) dX10_restore_6 rfl rfl ?_
  refine c_iconst dX10_restore_7 (v := 0) rfl ?_
  refine c_iconst dX10_restore_8 (v := 1) rfl ?_
  refine c_callSp (as := [.inl x1, .inl 0, .inl 1]) (rs := [.inr 0]) (ev_X10_isIn 0 (Nat.le_refl _) x1 0 1 M1) rfl (Nat.lt_of_lt_of_le (by decide) hlev) mw_X10_isIn ws_X10_isIn wl_RX10_70 mn_X10_isIn rfl (by decide) (Nat.le_of_ble_eq_true rfl) ⟨_, rfl⟩ dX10_restore_9 ?_
  refine c_iconst dX10_restore_12 (v := 1) rfl ?_
  refine c_callV (as := [.inl (p_X10_isIn x1 0 1), .inl 1]) (rs := []) (ev_X10_may 0 (Nat.le_refl _) (p_X10_isIn x1 0 1) 1 M1) rfl (Nat.lt_of_lt_of_le (by decide) hlev) mw_X10_may wi_X10_may wv_X10_may (blk_get0 KSm_b0) (by decide) rfl wl_RX10_66 mn_X10_may rfl (by decide) (Nat.le_of_ble_eq_true rfl) ⟨_, rfl⟩ dX10_restore_13 (fun v2 M3 _ => ?_)
  refine c_if_eq (tgt := 33) dX10_restore_16 rfl (fun h4 => ?_) (fun h4 => ?_)
  · refine c_keep [] (ls2 := []) rfl ?_
    exact jo_X10_restore_33 d hlev M3
  · refine c_aload_n (i := 0) dX10_restore_19 rfl rfl ?_
    refine c_aload_n (i := 0) dX10_restore_20 rfl rfl ?_
    refine gf_RX10_19 (blk_get0 KSm_b0) dX10_restore_21 ?_
    refine c_iload_n (i := 1) dX10_restore_24 rfl rfl ?_
    refine c_chk (fun h5 => ?_)
    refine c_zald (blk_get0 (blk_sub (C := [(21, 2)]) (i := 4) KSm_b0 rfl)) h5 dX10_restore_25 ?_
    refine c_iconst dX10_restore_26 (v := 2) rfl ?_
    refine c_callV (as := [.inl (M3 4 (ix x1)), .inl 2]) (rs := []) (ev_X10_may 0 (Nat.le_refl _) (M3 4 (ix x1)) 2 M3) rfl (Nat.lt_of_lt_of_le (by decide) hlev) mw_X10_may wi_X10_may wv_X10_may (blk_get0 KSm_b0) (by decide) rfl wl_RX10_66 mn_X10_may rfl (by decide) (Nat.le_of_ble_eq_true rfl) ⟨_, rfl⟩ dX10_restore_27 (fun v6 M7 _ => ?_)
    refine c_if_ne (tgt := 34) dX10_restore_30 rfl (fun h8 => ?_) (fun h8 => ?_)
    · refine c_iconst dX10_restore_34 (v := 0) rfl ?_
      refine c_istore_n (i := 2) dX10_restore_35 rfl (by decide) (ls2 := [(0, .inr 0), (1, .inl x1), (2, .inl 0)]) rfl ?_
      refine c_keep [0, 1, 2] (ls2 := [(0, .inr 0), (1, .inl x1), (2, .inl 0)]) rfl ?_
      exact lo_X10_restore_36 d hlev x1 (0, M7)
    · refine c_keep [] (ls2 := []) rfl ?_
      exact jo_X10_restore_33 d hlev M7
