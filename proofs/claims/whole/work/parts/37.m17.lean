abbrev mdX10_ticks : MD := (yX10_ticks, cX10_ticks, 7, none)
theorem mw_X10_ticks : mdW mdX10_ticks := ⟨wm_X10_ticks, w0_RX10, by decide, by decide⟩
theorem mn_X10_ticks : (parseMethodDescriptor yX10_ticks.desc).map (fun d => d.parameters.length) = some 1 := by decide +kernel
def j_X10_ticks_119 (x1 : Int32) (x2 : Int32) (x3 : Int32) (x5 : Int32) (x6 : Int32) (K12 : Int32 × Mem → Option (Int32 × Mem)) (K69 : Int32 × Mem → Option (Int32 × Mem)) (M : Mem) : Option (Int32 × Mem) := K69 (x6 + 1, M)
set_option maxRecDepth 20000 in
set_option maxHeartbeats 2000000 in
theorem jo_X10_ticks_119 (d : Nat) (hlev : 3 ≤ d) (x1 : Int32) (x2 : Int32) (x3 : Int32) (x5 : Int32) (x6 : Int32) (K12 : Int32 × Mem → Option (Int32 × Mem)) (hK12 : ∀ s : Int32 × Mem, CorM KSm ST1 RX10 cX10_ticks 7 none d 12 [(0, .inr 0), (1, .inl x1), (2, .inl x2), (3, .inl s.1)] [] s.2 (K12 s)) (K69 : Int32 × Mem → Option (Int32 × Mem)) (hK69 : ∀ s : Int32 × Mem, CorM KSm ST1 RX10 cX10_ticks 7 none d 69 [(0, .inr 0), (1, .inl x1), (2, .inl x2), (3, .inl x3), (5, .inl x5), (6, .inl s.1)] [] s.2 (K69 s)) (M : Mem) : CorM KSm ST1 RX10 cX10_ticks 7 none d 119 [(0, .inr 0), (1, .inl x1), (2, .inl x2), (3, .inl x3), (5, .inl x5), (6, .inl x6)] [] M (j_X10_ticks_119 x1 x2 x3 x5 x6 K12 K69 M) := by
  unfold j_X10_ticks_119
  refine c_iinc dX10_ticks_119 rfl (v := 1) rfl (by decide) (ls2 := [(0, .inr 0), (1, .inl x1), (2, .inl x2), (3, .inl x3), (5, .inl x5), (6, .inl (x6 + 1))]) rfl ?_
  refine c_goto (tgt := 69) dX10_ticks_122 rfl ?_
  refine c_keep [0, 1, 2, 3, 5, 6] (ls2 := [(0, .inr 0), (1, .inl x1), (2, .inl x2), (3, .inl x3), (5, .inl x5), (6, .inl (x6 + 1))]) rfl ?_
  exact hK69 (x6 + 1, M)
def j_X10_ticks_104 (x1 : Int32) (x2 : Int32) (x3 : Int32) (x5 : Int32) (x6 : Int32) (K12 : Int32 × Mem → Option (Int32 × Mem)) (K69 : Int32 × Mem → Option (Int32 × Mem)) (M : Mem) : Option (Int32 × Mem) := if inb (152 + x6) 1671 then if inb (152 + x6) 1671 then wrt (up M 1 (ix (152 + x6)) ((M 1 (ix (152 + x6))) + 1)) (fun M17 => j_X10_ticks_119 x1 x2 x3 x5 x6 K12 K69 M17) else none else none
set_option maxRecDepth 20000 in
set_option maxHeartbeats 2000000 in
theorem jo_X10_ticks_104 (d : Nat) (hlev : 3 ≤ d) (x1 : Int32) (x2 : Int32) (x3 : Int32) (x5 : Int32) (x6 : Int32) (K12 : Int32 × Mem → Option (Int32 × Mem)) (hK12 : ∀ s : Int32 × Mem, CorM KSm ST1 RX10 cX10_ticks 7 none d 12 [(0, .inr 0), (1, .inl x1), (2, .inl x2), (3, .inl s.1)] [] s.2 (K12 s)) (K69 : Int32 × Mem → Option (Int32 × Mem)) (hK69 : ∀ s : Int32 × Mem, CorM KSm ST1 RX10 cX10_ticks 7 none d 69 [(0, .inr 0), (1, .inl x1), (2, .inl x2), (3, .inl x3), (5, .inl x5), (6, .inl s.1)] [] s.2 (K69 s)) (M : Mem) : CorM KSm ST1 RX10 cX10_ticks 7 none d 104 [(0, .inr 0), (1, .inl x1), (2, .inl x2), (3, .inl x3), (5, .inl x5), (6, .inl x6)] [] M (j_X10_ticks_104 x1 x2 x3 x5 x6 K12 K69 M) := by
  unfold j_X10_ticks_104
  refine c_aload_n (i := 0) dX10_ticks_104 rfl rfl ?_
  refine gf_RX10_9 (blk_get0 KSm_b0) dX10_ticks_105 ?_
  refine c_sipush dX10_ticks_108 (v := 152) rfl ?_
  refine c_iload dX10_ticks_111 rfl ?_
  refine c_iadd dX10_ticks_113 ?_
  refine c_dup2 dX10_ticks_114 ?_
  refine c_chk (fun h15 => ?_)
  refine c_iald (blk_get0 (blk_sub (C := [(20, 1671)]) (i := 1) KSm_b0 rfl)) h15 dX10_ticks_115 ?_
  refine c_iconst dX10_ticks_116 (v := 1) rfl ?_
  refine c_iadd dX10_ticks_117 ?_
  refine c_chk (fun h16 => ?_)
  refine c_iast (blk_get0 (blk_sub (C := [(20, 1671)]) (i := 1) KSm_b0 rfl)) h16 dX10_ticks_118 ?_
  refine c_wrt (fun M17 => ?_)
  refine c_keep [0, 1, 2, 3, 5, 6] (ls2 := [(0, .inr 0), (1, .inl x1), (2, .inl x2), (3, .inl x3), (5, .inl x5), (6, .inl x6)]) rfl ?_
  exact jo_X10_ticks_119 d hlev x1 x2 x3 x5 x6 K12 hK12 K69 hK69 M17
def l_X10_ticks_69 (x1 : Int32) (x2 : Int32) (x3 : Int32) (x5 : Int32) (K12 : Int32 × Mem → Option (Int32 × Mem)) (K69 : Int32 × Mem → Option (Int32 × Mem)) : Int32 × Mem → Option (Int32 × Mem) := fun s => match s with
  | (x6, M) => if (M 5 0) ≤ x6 then K12 (x3 + 1, M) else if ¬ (p_X10_has x2 x6) = 0 then if ¬ x5 = 0 then j_X10_ticks_104 x1 x2 x3 x5 x6 K12 K69 M else bnd (f_X10_alone x6 x3 M) (fun _ M19 => j_X10_ticks_104 x1 x2 x3 x5 x6 K12 K69 M19) else j_X10_ticks_119 x1 x2 x3 x5 x6 K12 K69 M
set_option maxRecDepth 20000 in
set_option maxHeartbeats 2000000 in
theorem lo_X10_ticks_69 (d : Nat) (hlev : 3 ≤ d) (x1 : Int32) (x2 : Int32) (x3 : Int32) (x5 : Int32) (K12 : Int32 × Mem → Option (Int32 × Mem)) (hK12 : ∀ s : Int32 × Mem, CorM KSm ST1 RX10 cX10_ticks 7 none d 12 [(0, .inr 0), (1, .inl x1), (2, .inl x2), (3, .inl s.1)] [] s.2 (K12 s)) (s : Int32 × Mem) : CorM KSm ST1 RX10 cX10_ticks 7 none d 69 [(0, .inr 0), (1, .inl x1), (2, .inl x2), (3, .inl x3), (5, .inl x5), (6, .inl s.1)] [] s.2 (loopC (l_X10_ticks_69 x1 x2 x3 x5 K12) fuelL s) := by
  refine c_loop (L := fun s : Int32 × Mem => [(0, .inr 0), (1, .inl x1), (2, .inl x2), (3, .inl x3), (5, .inl x5), (6, .inl s.1)]) (Mf := fun s : Int32 × Mem => s.2) (fun K69 hK69 s => ?_) fuelL s
  obtain ⟨x6, M⟩ := s
  show CorM KSm ST1 RX10 cX10_ticks 7 none d 69 [(0, .inr 0), (1, .inl x1), (2, .inl x2), (3, .inl x3), (5, .inl x5), (6, .inl x6)] [] M (l_X10_ticks_69 x1 x2 x3 x5 K12 K69 (x6, M))
  unfold l_X10_ticks_69
  refine c_iload dX10_ticks_69 rfl ?_
  refine c_aload_n (i := 0) dX10_ticks_71 rfl rfl ?_
  refine gf_RX10_23 (blk_get0 KSm_b0) dX10_ticks_72 ?_
  refine c_iconst dX10_ticks_75 (v := 0) rfl ?_
  refine c_iald (blk_get0 (blk_sub (C := [(20, 290)]) (i := 5) KSm_b0 rfl)) (by decide) dX10_ticks_76 ?_
  refine c_icmp_ge (tgt := 125) dX10_ticks_77 rfl (fun h12 => ?_) (fun h12 => ?_)
  · refine c_iinc dX10_ticks_125 rfl (v := 1) rfl (by decide) (ls2 := [(0, .inr 0), (1, .inl x1), (2, .inl x2), (3, .inl (x3 + 1)), (5, .inl x5), (6, .inl x6)]) rfl ?_
    refine c_goto (tgt := 12) dX10_ticks_128 rfl ?_
    refine c_keep [0, 1, 2, 3] (ls2 := [(0, .inr 0), (1, .inl x1), (2, .inl x2), (3, .inl (x3 + 1))]) rfl ?_
    exact hK12 (x3 + 1, M)
  · refine c_iload_n (i := 2) dX10_ticks_80 rfl rfl ?_
    refine c_iload dX10_ticks_81 rfl ?_
    refine c_callSp (as := [.inl x2, .inl x6]) (rs := []) (ev_X10_has 0 (Nat.le_refl _) x2 x6 M) rfl (Nat.lt_of_lt_of_le (by decide) hlev) mw_X10_has ws_X10_has wl_RX10_169 mn_X10_has rfl (by decide) (Nat.le_of_ble_eq_true rfl) ⟨_, rfl⟩ dX10_ticks_83 ?_
    refine c_if_ne (tgt := 92) dX10_ticks_86 rfl (fun h13 => ?_) (fun h13 => ?_)
    · refine c_iload dX10_ticks_92 rfl ?_
      refine c_if_ne (tgt := 104) dX10_ticks_94 rfl (fun h14 => ?_) (fun h14 => ?_)
      · refine c_keep [0, 1, 2, 3, 5, 6] (ls2 := [(0, .inr 0), (1, .inl x1), (2, .inl x2), (3, .inl x3), (5, .inl x5), (6, .inl x6)]) rfl ?_
        exact jo_X10_ticks_104 d hlev x1 x2 x3 x5 x6 K12 hK12 K69 hK69 M
      · refine c_aload_n (i := 0) dX10_ticks_97 rfl rfl ?_
        refine c_iload dX10_ticks_98 rfl ?_
        refine c_iload_n (i := 3) dX10_ticks_100 rfl rfl ?_
        refine c_callVv (as := [.inl x6, .inl x3]) (rs := []) (ev_X10_alone 2 (Nat.le_refl _) x6 x3 M) rfl (Nat.lt_of_lt_of_le (by decide) hlev) mw_X10_alone wi_X10_alone wv_X10_alone (blk_get0 KSm_b0) (by decide) rfl wl_RX10_301 mn_X10_alone rfl (by decide) (Nat.le_of_ble_eq_true rfl) rfl dX10_ticks_101 (fun v18 M19 _ => ?_)
        refine c_keep [0, 1, 2, 3, 5, 6] (ls2 := [(0, .inr 0), (1, .inl x1), (2, .inl x2), (3, .inl x3), (5, .inl x5), (6, .inl x6)]) rfl ?_
        exact jo_X10_ticks_104 d hlev x1 x2 x3 x5 x6 K12 hK12 K69 hK69 M19
    · refine c_goto (tgt := 119) dX10_ticks_89 rfl ?_
      refine c_keep [0, 1, 2, 3, 5, 6] (ls2 := [(0, .inr 0), (1, .inl x1), (2, .inl x2), (3, .inl x3), (5, .inl x5), (6, .inl x6)]) rfl ?_
      exact jo_X10_ticks_119 d hlev x1 x2 x3 x5 x6 K12 hK12 K69 hK69 M
def j_X10_ticks_66 (x1 : Int32) (x2 : Int32) (x3 : Int32) (x5 : Int32) (K12 : Int32 × Mem → Option (Int32 × Mem)) (M : Mem) : Option (Int32 × Mem) := loopC (l_X10_ticks_69 x1 x2 x3 x5 K12) fuelL (0, M)
set_option maxRecDepth 20000 in
set_option maxHeartbeats 2000000 in
theorem jo_X10_ticks_66 (d : Nat) (hlev : 3 ≤ d) (x1 : Int32) (x2 : Int32) (x3 : Int32) (x5 : Int32) (K12 : Int32 × Mem → Option (Int32 × Mem)) (hK12 : ∀ s : Int32 × Mem, CorM KSm ST1 RX10 cX10_ticks 7 none d 12 [(0, .inr 0), (1, .inl x1), (2, .inl x2), (3, .inl s.1)] [] s.2 (K12 s)) (M : Mem) : CorM KSm ST1 RX10 cX10_ticks 7 none d 66 [(0, .inr 0), (1, .inl x1), (2, .inl x2), (3, .inl x3), (5, .inl x5)] [] M (j_X10_ticks_66 x1 x2 x3 x5 K12 M) := by
  unfold j_X10_ticks_66
  refine c_iconst dX10_ticks_66 (v := 0) rfl ?_
  refine c_istore dX10_ticks_67 (by decide) (ls2 := [(0, .inr 0), (1, .inl x1), (2, .inl x2), (3, .inl x3), (5, .inl x5), (6, .inl 0)]) rfl ?_
  refine c_keep [0, 1, 2, 3, 5, 6] (ls2 := [(0, .inr 0), (1, .inl x1), (2, .inl x2), (3, .inl x3), (5, .inl x5), (6, .inl 0)]) rfl ?_
  exact lo_X10_ticks_69 d hlev x1 x2 x3 x5 K12 hK12 (0, M)
def l_X10_ticks_12 (x1 : Int32) (x2 : Int32) (K12 : Int32 × Mem → Option (Int32 × Mem)) : Int32 × Mem → Option (Int32 × Mem) := fun s => match s with
  | (x3, M) => bnd (f_X10_endOf x1 M) (fun v5 M6 => if v5 ≤ x3 then some (0, M6) else bnd (f_X10_kindOf x3 M6) (fun v8 M9 => (fun z10 : Int32 => if z10 = 0 then j_X10_ticks_66 x1 x2 x3 z10 K12 M9 else bnd (f_X10_allAtOnce x2 x3 M9) (fun _ M21 => j_X10_ticks_66 x1 x2 x3 z10 K12 M21)) (if v8 = 4 then (1 : Int32) else if v8 = 6 then (1 : Int32) else if ¬ v8 = 7 then (0 : Int32) else (1 : Int32))))
set_option maxRecDepth 20000 in
set_option maxHeartbeats 2000000 in
theorem lo_X10_ticks_12 (d : Nat) (hlev : 3 ≤ d) (x1 : Int32) (x2 : Int32) (s : Int32 × Mem) : CorM KSm ST1 RX10 cX10_ticks 7 none d 12 [(0, .inr 0), (1, .inl x1), (2, .inl x2), (3, .inl s.1)] [] s.2 (loopC (l_X10_ticks_12 x1 x2) fuelL s) := by
  refine c_loop (L := fun s : Int32 × Mem => [(0, .inr 0), (1, .inl x1), (2, .inl x2), (3, .inl s.1)]) (Mf := fun s : Int32 × Mem => s.2) (fun K12 hK12 s => ?_) fuelL s
  obtain ⟨x3, M⟩ := s
  show CorM KSm ST1 RX10 cX10_ticks 7 none d 12 [(0, .inr 0), (1, .inl x1), (2, .inl x2), (3, .inl x3)] [] M (l_X10_ticks_12 x1 x2 K12 (x3, M))
  unfold l_X10_ticks_12
  refine c_iload_n (i := 3) dX10_ticks_12 rfl rfl ?_
  refine c_aload_n (i := 0) dX10_ticks_13 rfl rfl ?_
  refine c_iload_n (i := 1) dX10_ticks_14 rfl rfl ?_
  refine c_callV (as := [.inl x1]) (rs := [.inl x3]) (ev_X10_endOf 1 (Nat.le_refl _) x1 M) rfl (Nat.lt_of_lt_of_le (by decide) hlev) mw_X10_endOf wi_X10_endOf wv_X10_endOf (blk_get0 KSm_b0) (by decide) rfl wl_RX10_266 mn_X10_endOf rfl (by decide) (Nat.le_of_ble_eq_true rfl) ⟨_, rfl⟩ dX10_ticks_15 (fun v5 M6 _ => ?_)
  refine c_icmp_ge (tgt := 131) dX10_ticks_18 rfl (fun h7 => ?_) (fun h7 => ?_)
  · exact c_vret rfl dX10_ticks_131
  · refine c_aload_n (i := 0) dX10_ticks_21 rfl rfl ?_
    refine c_iload_n (i := 3) dX10_ticks_22 rfl rfl ?_
    refine c_callV (as := [.inl x3]) (rs := []) (ev_X10_kindOf 1 (Nat.le_refl _) x3 M6) rfl (Nat.lt_of_lt_of_le (by decide) hlev) mw_X10_kindOf wi_X10_kindOf wv_X10_kindOf (blk_get0 KSm_b0) (by decide) rfl wl_RX10_254 mn_X10_kindOf rfl (by decide) (Nat.le_of_ble_eq_true rfl) ⟨_, rfl⟩ dX10_ticks_23 (fun v8 M9 _ => ?_)
    refine c_istore dX10_ticks_26 (by decide) (ls2 := [(0, .inr 0), (1, .inl x1), (2, .inl x2), (3, .inl x3), (4, .inl v8)]) rfl ?_
    refine c_iload dX10_ticks_28 rfl ?_
    refine c_iconst dX10_ticks_30 (v := 4) rfl ?_
    have J_z10 : ∀ z10 : Int32, isB z10 → CorM KSm ST1 RX10 cX10_ticks 7 none d 53 [(0, .inr 0), (1, .inl x1), (2, .inl x2), (3, .inl x3)] [.inl z10] M9 (if z10 = 0 then j_X10_ticks_66 x1 x2 x3 z10 K12 M9 else bnd (f_X10_allAtOnce x2 x3 M9) (fun _ M21 => j_X10_ticks_66 x1 x2 x3 z10 K12 M21)) := by
      intro z10 h_z10
      refine c_istore dX10_ticks_53 (by decide) (ls2 := [(0, .inr 0), (1, .inl x1), (2, .inl x2), (3, .inl x3), (5, .inl z10)]) rfl ?_
      refine c_iload dX10_ticks_55 rfl ?_
      refine c_if_eq (tgt := 66) dX10_ticks_57 rfl (fun h11 => ?_) (fun h11 => ?_)
      · refine c_keep [0, 1, 2, 3, 5] (ls2 := [(0, .inr 0), (1, .inl x1), (2, .inl x2), (3, .inl x3), (5, .inl z10)]) rfl ?_
        exact jo_X10_ticks_66 d hlev x1 x2 x3 z10 K12 hK12 M9
      · refine c_aload_n (i := 0) dX10_ticks_60 rfl rfl ?_
        refine c_iload_n (i := 2) dX10_ticks_61 rfl rfl ?_
        refine c_iload_n (i := 3) dX10_ticks_62 rfl rfl ?_
        refine c_callVv (as := [.inl x2, .inl x3]) (rs := []) (ev_X10_allAtOnce 2 (Nat.le_refl _) x2 x3 M9) rfl (Nat.lt_of_lt_of_le (by decide) hlev) mw_X10_allAtOnce wi_X10_allAtOnce wv_X10_allAtOnce (blk_get0 KSm_b0) (by decide) rfl wl_RX10_298 mn_X10_allAtOnce rfl (by decide) (Nat.le_of_ble_eq_true rfl) rfl dX10_ticks_63 (fun v20 M21 _ => ?_)
        refine c_keep [0, 1, 2, 3, 5] (ls2 := [(0, .inr 0), (1, .inl x1), (2, .inl x2), (3, .inl x3), (5, .inl z10)]) rfl ?_
        exact jo_X10_ticks_66 d hlev x1 x2 x3 z10 K12 hK12 M21
    refine c_val (b := v8 = 4) (v1 := (1 : Int32)) (v2 := if v8 = 6 then (1 : Int32) else if ¬ v8 = 7 then (0 : Int32) else (1 : Int32)) (F := fun z10 => if z10 = 0 then j_X10_ticks_66 x1 x2 x3 z10 K12 M9 else bnd (f_X10_allAtOnce x2 x3 M9) (fun _ M21 => j_X10_ticks_66 x1 x2 x3 z10 K12 M21)) (fun h22 => ?_) (fun h22 => ?_)
    · refine c_T h22 (c_icmp_eq (tgt := 48) dX10_ticks_31 rfl (fun _ => ?_) (fun q => absurd h22 q))
      refine c_iconst dX10_ticks_48 (v := 1) rfl ?_
      refine c_goto (tgt := 53) dX10_ticks_49 rfl ?_
      refine c_keep [0, 1, 2, 3] (ls2 := [(0, .inr 0), (1, .inl x1), (2, .inl x2), (3, .inl x3)]) rfl ?_
      exact J_z10 1 (Or.inr rfl)
    · refine c_Fl h22 (c_icmp_eq (tgt := 48) dX10_ticks_31 rfl (fun q => absurd q h22) (fun _ => ?_))
      refine c_iload dX10_ticks_34 rfl ?_
      refine c_bipush dX10_ticks_36 (v := 6) rfl ?_
      refine c_val (b := v8 = 6) (v1 := (1 : Int32)) (v2 := if ¬ v8 = 7 then (0 : Int32) else (1 : Int32)) (F := fun z10 => if z10 = 0 then j_X10_ticks_66 x1 x2 x3 z10 K12 M9 else bnd (f_X10_allAtOnce x2 x3 M9) (fun _ M21 => j_X10_ticks_66 x1 x2 x3 z10 K12 M21)) (fun h23 => ?_) (fun h23 => ?_)
      · refine c_T h23 (c_icmp_eq (tgt := 48) dX10_ticks_38 rfl (fun _ => ?_) (fun q => absurd h23 q))
        refine c_iconst dX10_ticks_48 (v := 1) rfl ?_
        refine c_goto (tgt := 53) dX10_ticks_49 rfl ?_
        refine c_keep [0, 1, 2, 3] (ls2 := [(0, .inr 0), (1, .inl x1), (2, .inl x2), (3, .inl x3)]) rfl ?_
        exact J_z10 1 (Or.inr rfl)
      · refine c_Fl h23 (c_icmp_eq (tgt := 48) dX10_ticks_38 rfl (fun q => absurd q h23) (fun _ => ?_))
        refine c_iload dX10_ticks_41 rfl ?_
        refine c_bipush dX10_ticks_43 (v := 7) rfl ?_
        refine c_val (b := ¬ v8 = 7) (v1 := (0 : Int32)) (v2 := (1 : Int32)) (F := fun z10 => if z10 = 0 then j_X10_ticks_66 x1 x2 x3 z10 K12 M9 else bnd (f_X10_allAtOnce x2 x3 M9) (fun _ M21 => j_X10_ticks_66 x1 x2 x3 z10 K12 M21)) (fun h24 => ?_) (fun h24 => ?_)
        · refine c_T h24 (c_icmp_ne (tgt := 52) dX10_ticks_45 rfl (fun _ => ?_) (fun q => absurd h24 q))
          refine c_iconst dX10_ticks_52 (v := 0) rfl ?_
          refine c_keep [0, 1, 2, 3] (ls2 := [(0, .inr 0), (1, .inl x1), (2, .inl x2), (3, .inl x3)]) rfl ?_
          exact J_z10 0 (Or.inl rfl)
        · refine c_Fl h24 (c_icmp_ne (tgt := 52) dX10_ticks_45 rfl (fun q => absurd q h24) (fun _ => ?_))
          refine c_iconst dX10_ticks_48 (v := 1) rfl ?_
          refine c_goto (tgt := 53) dX10_ticks_49 rfl ?_
          refine c_keep [0, 1, 2, 3] (ls2 := [(0, .inr 0), (1, .inl x1), (2, .inl x2), (3, .inl x3)]) rfl ?_
          exact J_z10 1 (Or.inr rfl)
def f_X10_ticks (x1 : Int32) (M : Mem) : Option (Int32 × Mem) := bnd (f_X10_banksOf x1 M) (fun v1 M2 => bnd (f_X10_firstOf x1 M2) (fun v3 M4 => loopC (l_X10_ticks_12 x1 v1) fuelL (v3, M4)))
set_option maxRecDepth 20000 in
set_option maxHeartbeats 2000000 in
theorem ev_X10_ticks (d : Nat) (hlev : 3 ≤ d) (x1 : Int32) (M : Mem) : Ev KSm ST1 mdX10_ticks d [.inr 0, .inl x1] M (f_X10_ticks x1 M) := by
  refine ev_of rfl (Nat.le_of_ble_eq_true rfl) ?_
  show CorM KSm ST1 RX10 cX10_ticks 7 none d 0 [(0, .inr 0), (1, .inl x1)] [] M (f_X10_ticks x1 M)
  unfold f_X10_ticks
  refine c_aload_n (i := 0) dX10_ticks_0 rfl rfl ?_
  refine c_iload_n (i := 1) dX10_ticks_1 rfl rfl ?_
  refine c_callV (as := [.inl x1]) (rs := []) (ev_X10_banksOf 0 (Nat.le_refl _) x1 M) rfl (Nat.lt_of_lt_of_le (by decide) hlev) mw_X10_banksOf wi_X10_banksOf wv_X10_banksOf (blk_get0 KSm_b0) (by decide) rfl wl_RX10_238 mn_X10_banksOf rfl (by decide) (Nat.le_of_ble_eq_true rfl) ⟨_, rfl⟩ dX10_ticks_2 (fun v1 M2 _ => ?_)
  refine c_istore_n (i := 2) dX10_ticks_5 rfl (by decide) (ls2 := [(0, .inr 0), (1, .inl x1), (2, .inl v1)]) rfl ?_
  refine c_aload_n (i := 0) dX10_ticks_6 rfl rfl ?_
  refine c_iload_n (i := 1) dX10_ticks_7 rfl rfl ?_
  refine c_callV (as := [.inl x1]) (rs := []) (ev_X10_firstOf 0 (Nat.le_refl _) x1 M2) rfl (Nat.lt_of_lt_of_le (by decide) hlev) mw_X10_firstOf wi_X10_firstOf wv_X10_firstOf (blk_get0 KSm_b0) (by decide) rfl wl_RX10_230 mn_X10_firstOf rfl (by decide) (Nat.le_of_ble_eq_true rfl) ⟨_, rfl⟩ dX10_ticks_8 (fun v3 M4 _ => ?_)
  refine c_istore_n (i := 3) dX10_ticks_11 rfl (by decide) (ls2 := [(0, .inr 0), (1, .inl x1), (2, .inl v1), (3, .inl v3)]) rfl ?_
  refine c_keep [0, 1, 2, 3] (ls2 := [(0, .inr 0), (1, .inl x1), (2, .inl v1), (3, .inl v3)]) rfl ?_
  exact lo_X10_ticks_12 d hlev x1 v1 (v3, M4)

abbrev mdX10_latest : MD := (yX10_latest, cX10_latest, 5, (some .int))
theorem mw_X10_latest : mdW mdX10_latest := ⟨wm_X10_latest, w0_RX10, by decide, by decide⟩
theorem mn_X10_latest : (parseMethodDescriptor yX10_latest.desc).map (fun d => d.parameters.length) = some 1 := by decide +kernel
def j_X10_latest_65 (x1 : Int32) (x2 : Int32) (x3 : Int32) (K4 : Int32 × Int32 × Mem → Option (Int32 × Mem)) (M : Mem) : Option (Int32 × Mem) := K4 (x2, x3 + 1, M)
set_option maxRecDepth 20000 in
set_option maxHeartbeats 2000000 in
theorem jo_X10_latest_65 (d : Nat) (hlev : 1 ≤ d) (x1 : Int32) (x2 : Int32) (x3 : Int32) (K4 : Int32 × Int32 × Mem → Option (Int32 × Mem)) (hK4 : ∀ s : Int32 × Int32 × Mem, CorM KSm ST1 RX10 cX10_latest 5 (some .int) d 4 [(0, .inr 0), (1, .inl x1), (2, .inl s.1), (3, .inl s.2.1)] [] s.2.2 (K4 s)) (M : Mem) : CorM KSm ST1 RX10 cX10_latest 5 (some .int) d 65 [(0, .inr 0), (1, .inl x1), (2, .inl x2), (3, .inl x3)] [] M (j_X10_latest_65 x1 x2 x3 K4 M) := by
  unfold j_X10_latest_65
  refine c_iinc dX10_latest_65 rfl (v := 1) rfl (by decide) (ls2 := [(0, .inr 0), (1, .inl x1), (2, .inl x2), (3, .inl (x3 + 1))]) rfl ?_
  refine c_goto (tgt := 4) dX10_latest_68 rfl ?_
  refine c_keep [0, 1, 2, 3] (ls2 := [(0, .inr 0), (1, .inl x1), (2, .inl x2), (3, .inl (x3 + 1))]) rfl ?_
  exact hK4 (x2, x3 + 1, M)
def l_X10_latest_41 (x1 : Int32) (x3 : Int32) (K4 : Int32 × Int32 × Mem → Option (Int32 × Mem)) (K41 : Int32 × Int32 × Mem → Option (Int32 × Mem)) : Int32 × Int32 × Mem → Option (Int32 × Mem) := fun s => match s with
  | (x2, x4, M) => if 4 ≤ x4 then j_X10_latest_65 x1 x2 x3 K4 M else bnd (f_X10_readyOf x3 x4 M) (fun v5 M6 => K41 (p_X10_greater x2 v5, x4 + 1, M6))
set_option maxRecDepth 20000 in
set_option maxHeartbeats 2000000 in
theorem lo_X10_latest_41 (d : Nat) (hlev : 1 ≤ d) (x1 : Int32) (x3 : Int32) (K4 : Int32 × Int32 × Mem → Option (Int32 × Mem)) (hK4 : ∀ s : Int32 × Int32 × Mem, CorM KSm ST1 RX10 cX10_latest 5 (some .int) d 4 [(0, .inr 0), (1, .inl x1), (2, .inl s.1), (3, .inl s.2.1)] [] s.2.2 (K4 s)) (s : Int32 × Int32 × Mem) : CorM KSm ST1 RX10 cX10_latest 5 (some .int) d 41 [(0, .inr 0), (1, .inl x1), (2, .inl s.1), (3, .inl x3), (4, .inl s.2.1)] [] s.2.2 (loopC (l_X10_latest_41 x1 x3 K4) fuelL s) := by
  refine c_loop (L := fun s : Int32 × Int32 × Mem => [(0, .inr 0), (1, .inl x1), (2, .inl s.1), (3, .inl x3), (4, .inl s.2.1)]) (Mf := fun s : Int32 × Int32 × Mem => s.2.2) (fun K41 hK41 s => ?_) fuelL s
  obtain ⟨x2, x4, M⟩ := s
  show CorM KSm ST1 RX10 cX10_latest 5 (some .int) d 41 [(0, .inr 0), (1, .inl x1), (2, .inl x2), (3, .inl x3), (4, .inl x4)] [] M (l_X10_latest_41 x1 x3 K4 K41 (x2, x4, M))
  unfold l_X10_latest_41
  refine c_iload dX10_latest_41 rfl ?_
  refine c_iconst dX10_latest_43 (v := 4) rfl ?_
  refine c_icmp_ge (tgt := 65) dX10_latest_44 rfl (fun h4 => ?_) (fun h4 => ?_)
  · refine c_keep [0, 1, 2, 3] (ls2 := [(0, .inr 0), (1, .inl x1), (2, .inl x2), (3, .inl x3)]) rfl ?_
    exact jo_X10_latest_65 d hlev x1 x2 x3 K4 hK4 M
  · refine c_iload_n (i := 2) dX10_latest_47 rfl rfl ?_
    refine c_aload_n (i := 0) dX10_latest_48 rfl rfl ?_
    refine c_iload_n (i := 3) dX10_latest_49 rfl rfl ?_
    refine c_iload dX10_latest_50 rfl ?_
    refine c_callV (as := [.inl x3, .inl x4]) (rs := [.inl x2]) (ev_X10_readyOf 0 (Nat.le_refl _) x3 x4 M) rfl (Nat.lt_of_lt_of_le (by decide) hlev) mw_X10_readyOf wi_X10_readyOf wv_X10_readyOf (blk_get0 KSm_b0) (by decide) rfl wl_RX10_286 mn_X10_readyOf rfl (by decide) (Nat.le_of_ble_eq_true rfl) ⟨_, rfl⟩ dX10_latest_52 (fun v5 M6 _ => ?_)
    refine c_callSp (as := [.inl x2, .inl v5]) (rs := []) (ev_X10_greater 0 (Nat.le_refl _) x2 v5 M6) rfl (Nat.lt_of_lt_of_le (by decide) hlev) mw_X10_greater ws_X10_greater wl_RX10_279 mn_X10_greater rfl (by decide) (Nat.le_of_ble_eq_true rfl) ⟨_, rfl⟩ dX10_latest_55 ?_
    refine c_istore_n (i := 2) dX10_latest_58 rfl (by decide) (ls2 := [(0, .inr 0), (1, .inl x1), (2, .inl (p_X10_greater x2 v5)), (3, .inl x3), (4, .inl x4)]) rfl ?_
    refine c_iinc dX10_latest_59 rfl (v := 1) rfl (by decide) (ls2 := [(0, .inr 0), (1, .inl x1), (2, .inl (p_X10_greater x2 v5)), (3, .inl x3), (4, .inl (x4 + 1))]) rfl ?_
    refine c_goto (tgt := 41) dX10_latest_62 rfl ?_
    refine c_keep [0, 1, 2, 3, 4] (ls2 := [(0, .inr 0), (1, .inl x1), (2, .inl (p_X10_greater x2 v5)), (3, .inl x3), (4, .inl (x4 + 1))]) rfl ?_
    exact hK41 (p_X10_greater x2 v5, x4 + 1, M6)
def l_X10_latest_4 (x1 : Int32) (K4 : Int32 × Int32 × Mem → Option (Int32 × Mem)) : Int32 × Int32 × Mem → Option (Int32 × Mem) := fun s => match s with
  | (x2, x3, M) => if (M 5 0) ≤ x3 then some (x2, M) else if ¬ (p_X10_has x1 x3) = 0 then if inb (0 + x3) 1671 then loopC (l_X10_latest_41 x1 x3 K4) fuelL (p_X10_greater x2 (M 1 (ix (0 + x3))), 0, M) else none else j_X10_latest_65 x1 x2 x3 K4 M
set_option maxRecDepth 20000 in
set_option maxHeartbeats 2000000 in
theorem lo_X10_latest_4 (d : Nat) (hlev : 1 ≤ d) (x1 : Int32) (s : Int32 × Int32 × Mem) : CorM KSm ST1 RX10 cX10_latest 5 (some .int) d 4 [(0, .inr 0), (1, .inl x1), (2, .inl s.1), (3, .inl s.2.1)] [] s.2.2 (loopC (l_X10_latest_4 x1) fuelL s) := by
  refine c_loop (L := fun s : Int32 × Int32 × Mem => [(0, .inr 0), (1, .inl x1), (2, .inl s.1), (3, .inl s.2.1)]) (Mf := fun s : Int32 × Int32 × Mem => s.2.2) (fun K4 hK4 s => ?_) fuelL s
  obtain ⟨x2, x3, M⟩ := s
  show CorM KSm ST1 RX10 cX10_latest 5 (some .int) d 4 [(0, .inr 0), (1, .inl x1), (2, .inl x2), (3, .inl x3)] [] M (l_X10_latest_4 x1 K4 (x2, x3, M))
  unfold l_X10_latest_4
  refine c_iload_n (i := 3) dX10_latest_4 rfl rfl ?_
  refine c_aload_n (i := 0) dX10_latest_5 rfl rfl ?_
  refine gf_RX10_23 (blk_get0 KSm_b0) dX10_latest_6 ?_
  refine c_iconst dX10_latest_9 (v := 0) rfl ?_
  refine c_iald (blk_get0 (blk_sub (C := [(20, 290)]) (i := 5) KSm_b0 rfl)) (by decide) dX10_latest_10 ?_
  refine c_icmp_ge (tgt := 71) dX10_latest_11 rfl (fun h1 => ?_) (fun h1 => ?_)
  · refine c_iload_n (i := 2) dX10_latest_71 rfl rfl ?_
    exact c_iret rfl dX10_latest_72
  · refine c_iload_n (i := 1) dX10_latest_14 rfl rfl ?_
    refine c_iload_n (i := 3) dX10_latest_15 rfl rfl ?_
    refine c_callSp (as := [.inl x1, .inl x3]) (rs := []) (ev_X10_has 0 (Nat.le_refl _) x1 x3 M) rfl (Nat.lt_of_lt_of_le (by decide) hlev) mw_X10_has ws_X10_has wl_RX10_169 mn_X10_has rfl (by decide) (Nat.le_of_ble_eq_true rfl) ⟨_, rfl⟩ dX10_latest_16 ?_
    refine c_if_ne (tgt := 25) dX10_latest_19 rfl (fun h2 => ?_) (fun h2 => ?_)
    · refine c_iload_n (i := 2) dX10_latest_25 rfl rfl ?_
      refine c_aload_n (i := 0) dX10_latest_26 rfl rfl ?_
      refine gf_RX10_9 (blk_get0 KSm_b0) dX10_latest_27 ?_
      refine c_iconst dX10_latest_30 (v := 0) rfl ?_
      refine c_iload_n (i := 3) dX10_latest_31 rfl rfl ?_
      refine c_iadd dX10_latest_32 ?_
      refine c_chk (fun h3 => ?_)
      refine c_iald (blk_get0 (blk_sub (C := [(20, 1671)]) (i := 1) KSm_b0 rfl)) h3 dX10_latest_33 ?_
      refine c_callSp (as := [.inl x2, .inl (M 1 (ix (0 + x3)))]) (rs := []) (ev_X10_greater 0 (Nat.le_refl _) x2 (M 1 (ix (0 + x3))) M) rfl (Nat.lt_of_lt_of_le (by decide) hlev) mw_X10_greater ws_X10_greater wl_RX10_279 mn_X10_greater rfl (by decide) (Nat.le_of_ble_eq_true rfl) ⟨_, rfl⟩ dX10_latest_34 ?_
      refine c_istore_n (i := 2) dX10_latest_37 rfl (by decide) (ls2 := [(0, .inr 0), (1, .inl x1), (2, .inl (p_X10_greater x2 (M 1 (ix (0 + x3))))), (3, .inl x3)]) rfl ?_
      refine c_iconst dX10_latest_38 (v := 0) rfl ?_
      refine c_istore dX10_latest_39 (by decide) (ls2 := [(0, .inr 0), (1, .inl x1), (2, .inl (p_X10_greater x2 (M 1 (ix (0 + x3))))), (3, .inl x3), (4, .inl 0)]) rfl ?_
      refine c_keep [0, 1, 2, 3, 4] (ls2 := [(0, .inr 0), (1, .inl x1), (2, .inl (p_X10_greater x2 (M 1 (ix (0 + x3))))), (3, .inl x3), (4, .inl 0)]) rfl ?_
      exact lo_X10_latest_41 d hlev x1 x3 K4 hK4 (p_X10_greater x2 (M 1 (ix (0 + x3))), 0, M)
    · refine c_goto (tgt := 65) dX10_latest_22 rfl ?_
      refine c_keep [0, 1, 2, 3] (ls2 := [(0, .inr 0), (1, .inl x1), (2, .inl x2), (3, .inl x3)]) rfl ?_
      exact jo_X10_latest_65 d hlev x1 x2 x3 K4 hK4 M
def f_X10_latest (x1 : Int32) (M : Mem) : Option (Int32 × Mem) := loopC (l_X10_latest_4 x1) fuelL (0, 0, M)
set_option maxRecDepth 20000 in
set_option maxHeartbeats 2000000 in
theorem ev_X10_latest (d : Nat) (hlev : 1 ≤ d) (x1 : Int32) (M : Mem) : Ev KSm ST1 mdX10_latest d [.inr 0, .inl x1] M (f_X10_latest x1 M) := by
  refine ev_of rfl (Nat.le_of_ble_eq_true rfl) ?_
  show CorM KSm ST1 RX10 cX10_latest 5 (some .int) d 0 [(0, .inr 0), (1, .inl x1)] [] M (f_X10_latest x1 M)
  unfold f_X10_latest
  refine c_iconst dX10_latest_0 (v := 0) rfl ?_
  refine c_istore_n (i := 2) dX10_latest_1 rfl (by decide) (ls2 := [(0, .inr 0), (1, .inl x1), (2, .inl 0)]) rfl ?_
  refine c_iconst dX10_latest_2 (v := 0) rfl ?_
  refine c_istore_n (i := 3) dX10_latest_3 rfl (by decide) (ls2 := [(0, .inr 0), (1, .inl x1), (2, .inl 0), (3, .inl 0)]) rfl ?_
  refine c_keep [0, 1, 2, 3] (ls2 := [(0, .inr 0), (1, .inl x1), (2, .inl 0), (3, .inl 0)]) rfl ?_
  exact lo_X10_latest_4 d hlev x1 (0, 0, M)

abbrev mdX10_ends : MD := (yX10_ends, cX10_ends, 1, (some .int))
theorem mw_X10_ends : mdW mdX10_ends := ⟨wm_X10_ends, w0_RX10, by decide, by decide⟩
theorem mn_X10_ends : (parseMethodDescriptor yX10_ends.desc).map (fun d => d.parameters.length) = some 0 := by decide +kernel
def f_X10_ends (M : Mem) : Option (Int32 × Mem) := bnd (f_X10_latest 255 M) (fun v1 M2 => some (v1, M2))
set_option maxRecDepth 20000 in
set_option maxHeartbeats 2000000 in
theorem ev_X10_ends (d : Nat) (hlev : 2 ≤ d) (M : Mem) : Ev KSm ST1 mdX10_ends d [.inr 0] M (f_X10_ends M) := by
  refine ev_of rfl (Nat.le_of_ble_eq_true rfl) ?_
  show CorM KSm ST1 RX10 cX10_ends 1 (some .int) d 0 [(0, .inr 0)] [] M (f_X10_ends M)
  unfold f_X10_ends
  refine c_aload_n (i := 0) dX10_ends_0 rfl rfl ?_
  refine c_sipush dX10_ends_1 (v := 255) rfl ?_
  refine c_callV (as := [.inl 255]) (rs := []) (ev_X10_latest 1 (Nat.le_refl _) 255 M) rfl (Nat.lt_of_lt_of_le (by decide) hlev) mw_X10_latest wi_X10_latest wv_X10_latest (blk_get0 KSm_b0) (by decide) rfl wl_RX10_304 mn_X10_latest rfl (by decide) (Nat.le_of_ble_eq_true rfl) ⟨_, rfl⟩ dX10_ends_4 (fun v1 M2 _ => ?_)
  exact c_iret rfl dX10_ends_7

abbrev mdX10_clock : MD := (yX10_clock, cX10_clock, 2, (some .int))
theorem mw_X10_clock : mdW mdX10_clock := ⟨wm_X10_clock, w0_RX10, by decide, by decide⟩
theorem mn_X10_clock : (parseMethodDescriptor yX10_clock.desc).map (fun d => d.parameters.length) = some 1 := by decide +kernel
def j_X10_clock_30 (w0 : Int32) (M : Mem) : Option (Int32 × Mem) := some (w0, M)
set_option maxRecDepth 20000 in
set_option maxHeartbeats 2000000 in
theorem jo_X10_clock_30 (d : Nat) (hlev : 2 ≤ d) (w0 : Int32) (M : Mem) : CorM KSm ST1 RX10 cX10_clock 2 (some .int) d 30 [] [.inl w0] M (j_X10_clock_30 w0 M) := by
  unfold j_X10_clock_30
  exact c_iret rfl dX10_clock_30
def f_X10_clock (x1 : Int32) (M : Mem) : Option (Int32 × Mem) := wrt (up M 0 0 0) (fun M1 => bnd (f_X10_may (p_X10_isBank x1 M1) 1 M1) (fun v2 M3 => if v2 = 0 then j_X10_clock_30 0 M3 else if inb (0 + x1) 1671 then j_X10_clock_30 (M3 1 (ix (0 + x1))) M3 else none))
set_option maxRecDepth 20000 in
set_option maxHeartbeats 2000000 in
theorem ev_X10_clock (d : Nat) (hlev : 2 ≤ d) (x1 : Int32) (M : Mem) : Ev KSm ST1 mdX10_clock d [.inr 0, .inl x1] M (f_X10_clock x1 M) := by
  refine ev_of rfl (Nat.le_of_ble_eq_true rfl) ?_
  show CorM KSm ST1 RX10 cX10_clock 2 (some .int) d 0 [(0, .inr 0), (1, .inl x1)] [] M (f_X10_clock x1 M)
  unfold f_X10_clock
  refine c_aload_n (i := 0) dX10_clock_0 rfl rfl ?_
  refine c_iconst dX10_clock_1 (v := 0) rfl ?_
  refine pf_RX10_60 (blk_get0 KSm_b0) dX10_clock_2 ?_
  refine c_wrt (fun M1 => ?_)
  refine c_aload_n (i := 0) dX10_clock_5 rfl rfl ?_
  refine c_aload_n (i := 0) dX10_clock_6 rfl rfl ?_
  refine c_iload_n (i := 1) dX10_clock_7 rfl rfl ?_
  refine c_callVp (as := [.inl x1]) (rs := [.inr 0]) (ev_X10_isBank 1 (Nat.le_refl _) x1 M1) rfl (Nat.lt_of_lt_of_le (by decide) hlev) mw_X10_isBank wi_X10_isBank wv_X10_isBank (blk_get0 KSm_b0) (by decide) rfl wl_RX10_227 mn_X10_isBank rfl (by decide) (Nat.le_of_ble_eq_true rfl) ⟨_, rfl⟩ dX10_clock_8 ?_
  refine c_iconst dX10_clock_11 (v := 1) rfl ?_
  refine c_callV (as := [.inl (p_X10_isBank x1 M1), .inl 1]) (rs := []) (ev_X10_may 0 (Nat.le_refl _) (p_X10_isBank x1 M1) 1 M1) rfl (Nat.lt_of_lt_of_le (by decide) hlev) mw_X10_may wi_X10_may wv_X10_may (blk_get0 KSm_b0) (by decide) rfl wl_RX10_66 mn_X10_may rfl (by decide) (Nat.le_of_ble_eq_true rfl) ⟨_, rfl⟩ dX10_clock_12 (fun v2 M3 _ => ?_)
  refine c_if_eq (tgt := 29) dX10_clock_15 rfl (fun h4 => ?_) (fun h4 => ?_)
  · refine c_iconst dX10_clock_29 (v := 0) rfl ?_
    refine c_keep [] (ls2 := []) rfl ?_
    exact jo_X10_clock_30 d hlev 0 M3
  · refine c_aload_n (i := 0) dX10_clock_18 rfl rfl ?_
    refine gf_RX10_9 (blk_get0 KSm_b0) dX10_clock_19 ?_
    refine c_iconst dX10_clock_22 (v := 0) rfl ?_
    refine c_iload_n (i := 1) dX10_clock_23 rfl rfl ?_
    refine c_iadd dX10_clock_24 ?_
    refine c_chk (fun h5 => ?_)
    refine c_iald (blk_get0 (blk_sub (C := [(20, 1671)]) (i := 1) KSm_b0 rfl)) h5 dX10_clock_25 ?_
    refine c_goto (tgt := 30) dX10_clock_26 rfl ?_
    refine c_keep [] (ls2 := []) rfl ?_
    exact jo_X10_clock_30 d hlev (M3 1 (ix (0 + x1))) M3

abbrev mdX10_ready : MD := (yX10_ready, cX10_ready, 3, (some .int))
theorem mw_X10_ready : mdW mdX10_ready := ⟨wm_X10_ready, w0_RX10, by decide, by decide⟩
theorem mn_X10_ready : (parseMethodDescriptor yX10_ready.desc).map (fun d => d.parameters.length) = some 2 := by decide +kernel
def j_X10_ready_45 (w0 : Int32) (M : Mem) : Option (Int32 × Mem) := some (w0, M)
set_option maxRecDepth 20000 in
set_option maxHeartbeats 2000000 in
theorem jo_X10_ready_45 (d : Nat) (hlev : 2 ≤ d) (w0 : Int32) (M : Mem) : CorM KSm ST1 RX10 cX10_ready 3 (some .int) d 45 [] [.inl w0] M (j_X10_ready_45 w0 M) := by
  unfold j_X10_ready_45
  exact c_iret rfl dX10_ready_45
def f_X10_ready (x1 : Int32) (x2 : Int32) (M : Mem) : Option (Int32 × Mem) := wrt (up M 0 0 0) (fun M1 => bnd (f_X10_may (if (p_X10_isBank x1 M1) = 0 then (0 : Int32) else if (p_X10_isIn x2 0 3) = 0 then (0 : Int32) else (1 : Int32)) 1 M1) (fun v3 M4 => if v3 = 0 then j_X10_ready_45 0 M4 else bnd (f_X10_readyOf x1 x2 M4) (fun v6 M7 => j_X10_ready_45 v6 M7)))
set_option maxRecDepth 20000 in
set_option maxHeartbeats 2000000 in
theorem ev_X10_ready (d : Nat) (hlev : 2 ≤ d) (x1 : Int32) (x2 : Int32) (M : Mem) : Ev KSm ST1 mdX10_ready d [.inr 0, .inl x1, .inl x2] M (f_X10_ready x1 x2 M) := by
  refine ev_of rfl (Nat.le_of_ble_eq_true rfl) ?_
  show CorM KSm ST1 RX10 cX10_ready 3 (some .int) d 0 [(0, .inr 0), (1, .inl x1), (2, .inl x2)] [] M (f_X10_ready x1 x2 M)
  unfold f_X10_ready
  refine c_aload_n (i := 0) dX10_ready_0 rfl rfl ?_
  refine c_iconst dX10_ready_1 (v := 0) rfl ?_
  refine pf_RX10_60 (blk_get0 KSm_b0) dX10_ready_2 ?_
  refine c_wrt (fun M1 => ?_)
  refine c_aload_n (i := 0) dX10_ready_5 rfl rfl ?_
  refine c_aload_n (i := 0) dX10_ready_6 rfl rfl ?_
  refine c_iload_n (i := 1) dX10_ready_7 rfl rfl ?_
  refine c_callVp (as := [.inl x1]) (rs := [.inr 0]) (ev_X10_isBank 1 (Nat.le_refl _) x1 M1) rfl (Nat.lt_of_lt_of_le (by decide) hlev) mw_X10_isBank wi_X10_isBank wv_X10_isBank (blk_get0 KSm_b0) (by decide) rfl wl_RX10_227 mn_X10_isBank rfl (by decide) (Nat.le_of_ble_eq_true rfl) ⟨_, rfl⟩ dX10_ready_8 ?_
  have J_z2 : ∀ z2 : Int32, isB z2 → CorM KSm ST1 RX10 cX10_ready 3 (some .int) d 28 [(0, .inr 0), (1, .inl x1), (2, .inl x2)] [.inl z2, .inr 0] M1 (bnd (f_X10_may z2 1 M1) (fun v3 M4 => if v3 = 0 then j_X10_ready_45 0 M4 else bnd (f_X10_readyOf x1 x2 M4) (fun v6 M7 => j_X10_ready_45 v6 M7))) := by
    intro z2 h_z2
    refine c_iconst dX10_ready_28 (v := 1) rfl ?_
    refine c_callV (as := [.inl z2, .inl 1]) (rs := []) (ev_X10_may 0 (Nat.le_refl _) z2 1 M1) rfl (Nat.lt_of_lt_of_le (by decide) hlev) mw_X10_may wi_X10_may wv_X10_may (blk_get0 KSm_b0) (by decide) rfl wl_RX10_66 mn_X10_may rfl (by decide) (Nat.le_of_ble_eq_true rfl) ⟨_, rfl⟩ dX10_ready_29 (fun v3 M4 _ => ?_)
    refine c_if_eq (tgt := 44) dX10_ready_32 rfl (fun h5 => ?_) (fun h5 => ?_)
    · refine c_iconst dX10_ready_44 (v := 0) rfl ?_
      refine c_keep [] (ls2 := []) rfl ?_
      exact jo_X10_ready_45 d hlev 0 M4
    · refine c_aload_n (i := 0) dX10_ready_35 rfl rfl ?_
      refine c_iload_n (i := 1) dX10_ready_36 rfl rfl ?_
      refine c_iload_n (i := 2) dX10_ready_37 rfl rfl ?_
      refine c_callV (as := [.inl x1, .inl x2]) (rs := []) (ev_X10_readyOf 0 (Nat.le_refl _) x1 x2 M4) rfl (Nat.lt_of_lt_of_le (by decide) hlev) mw_X10_readyOf wi_X10_readyOf wv_X10_readyOf (blk_get0 KSm_b0) (by decide) rfl wl_RX10_286 mn_X10_readyOf rfl (by decide) (Nat.le_of_ble_eq_true rfl) ⟨_, rfl⟩ dX10_ready_38 (fun v6 M7 _ => ?_)
      refine c_goto (tgt := 45) dX10_ready_41 rfl ?_
      refine c_keep [] (ls2 := []) rfl ?_
      exact jo_X10_ready_45 d hlev v6 M7
  refine c_val (b := (p_X10_isBank x1 M1) = 0) (v1 := (0 : Int32)) (v2 := if (p_X10_isIn x2 0 3) = 0 then (0 : Int32) else (1 : Int32)) (F := fun z2 => bnd (f_X10_may z2 1 M1) (fun v3 M4 => if v3 = 0 then j_X10_ready_45 0 M4 else bnd (f_X10_readyOf x1 x2 M4) (fun v6 M7 => j_X10_ready_45 v6 M7))) (fun h8 => ?_) (fun h8 => ?_)
  · refine c_T h8 (c_if_eq (tgt := 27) dX10_ready_11 rfl (fun _ => ?_) (fun q => absurd h8 q))
    refine c_iconst dX10_ready_27 (v := 0) rfl ?_
    refine c_keep [0, 1, 2] (ls2 := [(0, .inr 0), (1, .inl x1), (2, .inl x2)]) rfl ?_
    exact J_z2 0 (Or.inl rfl)
  · refine c_Fl h8 (c_if_eq (tgt := 27) dX10_ready_11 rfl (fun q => absurd q h8) (fun _ => ?_))
    refine c_iload_n (i := 2) dX10_ready_14 rfl rfl ?_
    refine c_iconst dX10_ready_15 (v := 0) rfl ?_
    refine c_iconst dX10_ready_16 (v := 3) rfl ?_
    refine c_callSp (as := [.inl x2, .inl 0, .inl 3]) (rs := [.inr 0]) (ev_X10_isIn 0 (Nat.le_refl _) x2 0 3 M1) rfl (Nat.lt_of_lt_of_le (by decide) hlev) mw_X10_isIn ws_X10_isIn wl_RX10_70 mn_X10_isIn rfl (by decide) (Nat.le_of_ble_eq_true rfl) ⟨_, rfl⟩ dX10_ready_17 ?_
    refine c_val (b := (p_X10_isIn x2 0 3) = 0) (v1 := (0 : Int32)) (v2 := (1 : Int32)) (F := fun z2 => bnd (f_X10_may z2 1 M1) (fun v3 M4 => if v3 = 0 then j_X10_ready_45 0 M4 else bnd (f_X10_readyOf x1 x2 M4) (fun v6 M7 => j_X10_ready_45 v6 M7))) (fun h9 => ?_) (fun h9 => ?_)
    · refine c_T h9 (c_if_eq (tgt := 27) dX10_ready_20 rfl (fun _ => ?_) (fun q => absurd h9 q))
      refine c_iconst dX10_ready_27 (v := 0) rfl ?_
      refine c_keep [0, 1, 2] (ls2 := [(0, .inr 0), (1, .inl x1), (2, .inl x2)]) rfl ?_
      exact J_z2 0 (Or.inl rfl)
    · refine c_Fl h9 (c_if_eq (tgt := 27) dX10_ready_20 rfl (fun q => absurd q h9) (fun _ => ?_))
      refine c_iconst dX10_ready_23 (v := 1) rfl ?_
      refine c_goto (tgt := 28) dX10_ready_24 rfl ?_
      refine c_keep [0, 1, 2] (ls2 := [(0, .inr 0), (1, .inl x1), (2, .inl x2)]) rfl ?_
      exact J_z2 1 (Or.inr rfl)

abbrev mdX10_openRow : MD := (yX10_openRow, cX10_openRow, 2, (some .int))
theorem mw_X10_openRow : mdW mdX10_openRow := ⟨wm_X10_openRow, w0_RX10, by decide, by decide⟩
theorem mn_X10_openRow : (parseMethodDescriptor yX10_openRow.desc).map (fun d => d.parameters.length) = some 1 := by decide +kernel
def j_X10_openRow_33 (w0 : Int32) (M : Mem) : Option (Int32 × Mem) := some (w0, M)
set_option maxRecDepth 20000 in
set_option maxHeartbeats 2000000 in
theorem jo_X10_openRow_33 (d : Nat) (hlev : 2 ≤ d) (w0 : Int32) (M : Mem) : CorM KSm ST1 RX10 cX10_openRow 2 (some .int) d 33 [] [.inl w0] M (j_X10_openRow_33 w0 M) := by
  unfold j_X10_openRow_33
  exact c_iret rfl dX10_openRow_33
def f_X10_openRow (x1 : Int32) (M : Mem) : Option (Int32 × Mem) := wrt (up M 0 0 0) (fun M1 => bnd (f_X10_may (p_X10_isBank x1 M1) 1 M1) (fun v2 M3 => if v2 = 0 then j_X10_openRow_33 0 M3 else if inb (40 + x1) 1671 then j_X10_openRow_33 ((M3 1 (ix (40 + x1))) - 1) M3 else none))
set_option maxRecDepth 20000 in
set_option maxHeartbeats 2000000 in
theorem ev_X10_openRow (d : Nat) (hlev : 2 ≤ d) (x1 : Int32) (M : Mem) : Ev KSm ST1 mdX10_openRow d [.inr 0, .inl x1] M (f_X10_openRow x1 M) := by
  refine ev_of rfl (Nat.le_of_ble_eq_true rfl) ?_
  show CorM KSm ST1 RX10 cX10_openRow 2 (some .int) d 0 [(0, .inr 0), (1, .inl x1)] [] M (f_X10_openRow x1 M)
  unfold f_X10_openRow
  refine c_aload_n (i := 0) dX10_openRow_0 rfl rfl ?_
  refine c_iconst dX10_openRow_1 (v := 0) rfl ?_
  refine pf_RX10_60 (blk_get0 KSm_b0) dX10_openRow_2 ?_
  refine c_wrt (fun M1 => ?_)
  refine c_aload_n (i := 0) dX10_openRow_5 rfl rfl ?_
  refine c_aload_n (i := 0) dX10_openRow_6 rfl rfl ?_
  refine c_iload_n (i := 1) dX10_openRow_7 rfl rfl ?_
  refine c_callVp (as := [.inl x1]) (rs := [.inr 0]) (ev_X10_isBank 1 (Nat.le_refl _) x1 M1) rfl (Nat.lt_of_lt_of_le (by decide) hlev) mw_X10_isBank wi_X10_isBank wv_X10_isBank (blk_get0 KSm_b0) (by decide) rfl wl_RX10_227 mn_X10_isBank rfl (by decide) (Nat.le_of_ble_eq_true rfl) ⟨_, rfl⟩ dX10_openRow_8 ?_
  refine c_iconst dX10_openRow_11 (v := 1) rfl ?_
  refine c_callV (as := [.inl (p_X10_isBank x1 M1), .inl 1]) (rs := []) (ev_X10_may 0 (Nat.le_refl _) (p_X10_isBank x1 M1) 1 M1) rfl (Nat.lt_of_lt_of_le (by decide) hlev) mw_X10_may wi_X10_may wv_X10_may (blk_get0 KSm_b0) (by decide) rfl wl_RX10_66 mn_X10_may rfl (by decide) (Nat.le_of_ble_eq_true rfl) ⟨_, rfl⟩ dX10_openRow_12 (fun v2 M3 _ => ?_)
  refine c_if_eq (tgt := 32) dX10_openRow_15 rfl (fun h4 => ?_) (fun h4 => ?_)
  · refine c_iconst dX10_openRow_32 (v := 0) rfl ?_
    refine c_keep [] (ls2 := []) rfl ?_
    exact jo_X10_openRow_33 d hlev 0 M3
  · refine c_aload_n (i := 0) dX10_openRow_18 rfl rfl ?_
    refine gf_RX10_9 (blk_get0 KSm_b0) dX10_openRow_19 ?_
    refine c_bipush dX10_openRow_22 (v := 40) rfl ?_
    refine c_iload_n (i := 1) dX10_openRow_24 rfl rfl ?_
    refine c_iadd dX10_openRow_25 ?_
    refine c_chk (fun h5 => ?_)
    refine c_iald (blk_get0 (blk_sub (C := [(20, 1671)]) (i := 1) KSm_b0 rfl)) h5 dX10_openRow_26 ?_
    refine c_iconst dX10_openRow_27 (v := 1) rfl ?_
    refine c_isub dX10_openRow_28 ?_
    refine c_goto (tgt := 33) dX10_openRow_29 rfl ?_
    refine c_keep [] (ls2 := []) rfl ?_
    exact jo_X10_openRow_33 d hlev ((M3 1 (ix (40 + x1))) - 1) M3

abbrev mdX10_stalls_ : MD := (yX10_stalls_, cX10_stalls_, 3, (some .int))
theorem mw_X10_stalls_ : mdW mdX10_stalls_ := ⟨wm_X10_stalls_, w0_RX10, by decide, by decide⟩
theorem mn_X10_stalls_ : (parseMethodDescriptor yX10_stalls_.desc).map (fun d => d.parameters.length) = some 2 := by decide +kernel
def j_X10_stalls__49 (w0 : Int32) (M : Mem) : Option (Int32 × Mem) := some (w0, M)
set_option maxRecDepth 20000 in
set_option maxHeartbeats 2000000 in
theorem jo_X10_stalls__49 (d : Nat) (hlev : 2 ≤ d) (w0 : Int32) (M : Mem) : CorM KSm ST1 RX10 cX10_stalls_ 3 (some .int) d 49 [] [.inl w0] M (j_X10_stalls__49 w0 M) := by
  unfold j_X10_stalls__49
  exact c_iret rfl dX10_stalls__49
def j_X10_stalls__48 (M : Mem) : Option (Int32 × Mem) := j_X10_stalls__49 0 M
set_option maxRecDepth 20000 in
set_option maxHeartbeats 2000000 in
theorem jo_X10_stalls__48 (d : Nat) (hlev : 2 ≤ d) (M : Mem) : CorM KSm ST1 RX10 cX10_stalls_ 3 (some .int) d 48 [] [] M (j_X10_stalls__48 M) := by
  unfold j_X10_stalls__48
  refine c_iconst dX10_stalls__48 (v := 0) rfl ?_
  refine c_keep [] (ls2 := []) rfl ?_
  exact jo_X10_stalls__49 d hlev 0 M
def f_X10_stalls_ (x1 : Int32) (x2 : Int32) (M : Mem) : Option (Int32 × Mem) := wrt (up M 0 0 0) (fun M1 => bnd (f_X10_may (p_X10_isBank x1 M1) 1 M1) (fun v2 M3 => if v2 = 0 then j_X10_stalls__48 M3 else bnd (f_X10_may (p_X10_isIn x2 0 3) 2 M3) (fun v5 M6 => if v5 = 0 then j_X10_stalls__48 M6 else if inb ((120 + (4 * x1)) + x2) 1671 then j_X10_stalls__49 (M6 1 (ix ((120 + (4 * x1)) + x2))) M6 else none)))
set_option maxRecDepth 20000 in
set_option maxHeartbeats 2000000 in
theorem ev_X10_stalls_ (d : Nat) (hlev : 2 ≤ d) (x1 : Int32) (x2 : Int32) (M : Mem) : Ev KSm ST1 mdX10_stalls_ d [.inr 0, .inl x1, .inl x2] M (f_X10_stalls_ x1 x2 M) := by
  refine ev_of rfl (Nat.le_of_ble_eq_true rfl) ?_
  show CorM KSm ST1 RX10 cX10_stalls_ 3 (some .int) d 0 [(0, .inr 0), (1, .inl x1), (2, .inl x2)] [] M (f_X10_stalls_ x1 x2 M)
  unfold f_X10_stalls_
  refine c_aload_n (i := 0) dX10_stalls__0 rfl rfl ?_
  refine c_iconst dX10_stalls__1 (v := 0) rfl ?_
  refine pf_RX10_60 (blk_get0 KSm_b0) dX10_stalls__2 ?_
  refine c_wrt (fun M1 => ?_)
  refine c_aload_n (i := 0) dX10_stalls__5 rfl rfl ?_
  refine c_aload_n (i := 0) dX10_stalls__6 rfl rfl ?_
  refine c_iload_n (i := 1) dX10_stalls__7 rfl rfl ?_
  refine c_callVp (as := [.inl x1]) (rs := [.inr 0]) (ev_X10_isBank 1 (Nat.le_refl _) x1 M1) rfl (Nat.lt_of_lt_of_le (by decide) hlev) mw_X10_isBank wi_X10_isBank wv_X10_isBank (blk_get0 KSm_b0) (by decide) rfl wl_RX10_227 mn_X10_isBank rfl (by decide) (Nat.le_of_ble_eq_true rfl) ⟨_, rfl⟩ dX10_stalls__8 ?_
  refine c_iconst dX10_stalls__11 (v := 1) rfl ?_
  refine c_callV (as := [.inl (p_X10_isBank x1 M1), .inl 1]) (rs := []) (ev_X10_may 0 (Nat.le_refl _) (p_X10_isBank x1 M1) 1 M1) rfl (Nat.lt_of_lt_of_le (by decide) hlev) mw_X10_may wi_X10_may wv_X10_may (blk_get0 KSm_b0) (by decide) rfl wl_RX10_66 mn_X10_may rfl (by decide) (Nat.le_of_ble_eq_true rfl) ⟨_, rfl⟩ dX10_stalls__12 (fun v2 M3 _ => ?_)
  refine c_if_eq (tgt := 48) dX10_stalls__15 rfl (fun h4 => ?_) (fun h4 => ?_)
  · refine c_keep [] (ls2 := []) rfl ?_
    exact jo_X10_stalls__48 d hlev M3
  · refine c_aload_n (i := 0) dX10_stalls__18 rfl rfl ?_
    refine c_iload_n (i := 2) dX10_stalls__19 rfl rfl ?_
    refine c_iconst dX10_stalls__20 (v := 0) rfl ?_
    refine c_iconst dX10_stalls__21 (v := 3) rfl ?_
    refine c_callSp (as := [.inl x2, .inl 0, .inl 3]) (rs := [.inr 0]) (ev_X10_isIn 0 (Nat.le_refl _) x2 0 3 M3) rfl (Nat.lt_of_lt_of_le (by decide) hlev) mw_X10_isIn ws_X10_isIn wl_RX10_70 mn_X10_isIn rfl (by decide) (Nat.le_of_ble_eq_true rfl) ⟨_, rfl⟩ dX10_stalls__22 ?_
    refine c_iconst dX10_stalls__25 (v := 2) rfl ?_
    refine c_callV (as := [.inl (p_X10_isIn x2 0 3), .inl 2]) (rs := []) (ev_X10_may 0 (Nat.le_refl _) (p_X10_isIn x2 0 3) 2 M3) rfl (Nat.lt_of_lt_of_le (by decide) hlev) mw_X10_may wi_X10_may wv_X10_may (blk_get0 KSm_b0) (by decide) rfl wl_RX10_66 mn_X10_may rfl (by decide) (Nat.le_of_ble_eq_true rfl) ⟨_, rfl⟩ dX10_stalls__26 (fun v5 M6 _ => ?_)
    refine c_if_eq (tgt := 48) dX10_stalls__29 rfl (fun h7 => ?_) (fun h7 => ?_)
    · refine c_keep [] (ls2 := []) rfl ?_
      exact jo_X10_stalls__48 d hlev M6
    · refine c_aload_n (i := 0) dX10_stalls__32 rfl rfl ?_
      refine gf_RX10_9 (blk_get0 KSm_b0) dX10_stalls__33 ?_
      refine c_bipush dX10_stalls__36 (v := 120) rfl ?_
      refine c_iconst dX10_stalls__38 (v := 4) rfl ?_
      refine c_iload_n (i := 1) dX10_stalls__39 rfl rfl ?_
      refine c_imul dX10_stalls__40 ?_
      refine c_iadd dX10_stalls__41 ?_
      refine c_iload_n (i := 2) dX10_stalls__42 rfl rfl ?_
      refine c_iadd dX10_stalls__43 ?_
      refine c_chk (fun h8 => ?_)
      refine c_iald (blk_get0 (blk_sub (C := [(20, 1671)]) (i := 1) KSm_b0 rfl)) h8 dX10_stalls__44 ?_
      refine c_goto (tgt := 49) dX10_stalls__45 rfl ?_
      refine c_keep [] (ls2 := []) rfl ?_
      exact jo_X10_stalls__49 d hlev (M6 1 (ix ((120 + (4 * x1)) + x2))) M6

abbrev mdX10_finish : MD := (yX10_finish, cX10_finish, 1, (some .int))
theorem mw_X10_finish : mdW mdX10_finish := ⟨wm_X10_finish, w0_RX10, by decide, by decide⟩
theorem mn_X10_finish : (parseMethodDescriptor yX10_finish.desc).map (fun d => d.parameters.length) = some 0 := by decide +kernel
def f_X10_finish (M : Mem) : Option (Int32 × Mem) := wrt (up M 0 0 0) (fun M1 => bnd (f_X10_ends M1) (fun v2 M3 => some (v2, M3)))
set_option maxRecDepth 20000 in
set_option maxHeartbeats 2000000 in
theorem ev_X10_finish (d : Nat) (hlev : 3 ≤ d) (M : Mem) : Ev KSm ST1 mdX10_finish d [.inr 0] M (f_X10_finish M) := by
  refine ev_of rfl (Nat.le_of_ble_eq_true rfl) ?_
  show CorM KSm ST1 RX10 cX10_finish 1 (some .int) d 0 [(0, .inr 0)] [] M (f_X10_finish M)
  unfold f_X10_finish
  refine c_aload_n (i := 0) dX10_finish_0 rfl rfl ?_
  refine c_iconst dX10_finish_1 (v := 0) rfl ?_
  refine pf_RX10_60 (blk_get0 KSm_b0) dX10_finish_2 ?_
  refine c_wrt (fun M1 => ?_)
  refine c_aload_n (i := 0) dX10_finish_5 rfl rfl ?_
  refine c_callV (as := []) (rs := []) (ev_X10_ends 2 (Nat.le_refl _) M1) rfl (Nat.lt_of_lt_of_le (by decide) hlev) mw_X10_ends wi_X10_ends wv_X10_ends (blk_get0 KSm_b0) (by decide) rfl wl_RX10_307 mn_X10_ends rfl (by decide) (Nat.le_of_ble_eq_true rfl) ⟨_, rfl⟩ dX10_finish_6 (fun v2 M3 _ => ?_)
  exact c_iret rfl dX10_finish_9

abbrev mdX10_cell : MD := (yX10_cell, cX10_cell, 2, (some .int))
theorem mw_X10_cell : mdW mdX10_cell := ⟨wm_X10_cell, w0_RX10, by decide, by decide⟩
theorem mn_X10_cell : (parseMethodDescriptor yX10_cell.desc).map (fun d => d.parameters.length) = some 2 := by decide +kernel
def p_X10_cell (x0 : Int32) (x1 : Int32) : Int32 := (1579 + (11 * x0)) + x1
set_option maxRecDepth 20000 in
set_option maxHeartbeats 2000000 in
theorem ev_X10_cell (d : Nat) (hlev : 0 ≤ d) (x0 : Int32) (x1 : Int32) (M : Mem) : Ev KSm ST1 mdX10_cell d [.inl x0, .inl x1] M (some (p_X10_cell x0 x1, M)) := by
  refine ev_of rfl (Nat.le_of_ble_eq_true rfl) ?_
  show CorM KSm ST1 RX10 cX10_cell 2 (some .int) d 0 [(0, .inl x0), (1, .inl x1)] [] M (some (p_X10_cell x0 x1, M))
  unfold p_X10_cell
  refine c_sipush dX10_cell_0 (v := 1579) rfl ?_
  refine c_bipush dX10_cell_3 (v := 11) rfl ?_
  refine c_iload_n (i := 0) dX10_cell_5 rfl rfl ?_
  refine c_imul dX10_cell_6 ?_
  refine c_iadd dX10_cell_7 ?_
  refine c_iload_n (i := 1) dX10_cell_8 rfl rfl ?_
  refine c_iadd dX10_cell_9 ?_
  exact c_iret rfl dX10_cell_10

abbrev mdX10_lineOf : MD := (yX10_lineOf, cX10_lineOf, 4, (some .int))
theorem mw_X10_lineOf : mdW mdX10_lineOf := ⟨wm_X10_lineOf, w0_RX10, by decide, by decide⟩
theorem mn_X10_lineOf : (parseMethodDescriptor yX10_lineOf.desc).map (fun d => d.parameters.length) = some 2 := by decide +kernel
def j_X10_lineOf_44 (x1 : Int32) (x2 : Int32) (x3 : Int32) (K2 : Int32 × Mem → Option (Int32 × Mem)) (M : Mem) : Option (Int32 × Mem) := K2 (x3 + 1, M)
set_option maxRecDepth 20000 in
set_option maxHeartbeats 2000000 in
theorem jo_X10_lineOf_44 (d : Nat) (hlev : 1 ≤ d) (x1 : Int32) (x2 : Int32) (x3 : Int32) (K2 : Int32 × Mem → Option (Int32 × Mem)) (hK2 : ∀ s : Int32 × Mem, CorM KSm ST1 RX10 cX10_lineOf 4 (some .int) d 2 [(0, .inr 0), (1, .inl x1), (2, .inl x2), (3, .inl s.1)] [] s.2 (K2 s)) (M : Mem) : CorM KSm ST1 RX10 cX10_lineOf 4 (some .int) d 44 [(0, .inr 0), (1, .inl x1), (2, .inl x2), (3, .inl x3)] [] M (j_X10_lineOf_44 x1 x2 x3 K2 M) := by
  unfold j_X10_lineOf_44
  refine c_iinc dX10_lineOf_44 rfl (v := 1) rfl (by decide) (ls2 := [(0, .inr 0), (1, .inl x1), (2, .inl x2), (3, .inl (x3 + 1))]) rfl ?_
  refine c_goto (tgt := 2) dX10_lineOf_47 rfl ?_
  refine c_keep [0, 1, 2, 3] (ls2 := [(0, .inr 0), (1, .inl x1), (2, .inl x2), (3, .inl (x3 + 1))]) rfl ?_
  exact hK2 (x3 + 1, M)
def l_X10_lineOf_2 (x1 : Int32) (x2 : Int32) (K2 : Int32 × Mem → Option (Int32 × Mem)) : Int32 × Mem → Option (Int32 × Mem) := fun s => match s with
  | (x3, M) => if (M 1 1578) ≤ x3 then some ((-1), M) else if inb (p_X10_cell x3 0) 1671 then if ¬ (M 1 (ix (p_X10_cell x3 0))) = x1 then j_X10_lineOf_44 x1 x2 x3 K2 M else if inb (p_X10_cell x3 1) 1671 then if ¬ (M 1 (ix (p_X10_cell x3 1))) = x2 then j_X10_lineOf_44 x1 x2 x3 K2 M else some (x3, M) else none else none
set_option maxRecDepth 20000 in
set_option maxHeartbeats 2000000 in
theorem lo_X10_lineOf_2 (d : Nat) (hlev : 1 ≤ d) (x1 : Int32) (x2 : Int32) (s : Int32 × Mem) : CorM KSm ST1 RX10 cX10_lineOf 4 (some .int) d 2 [(0, .inr 0), (1, .inl x1), (2, .inl x2), (3, .inl s.1)] [] s.2 (loopC (l_X10_lineOf_2 x1 x2) fuelL s) := by
  refine c_loop (L := fun s : Int32 × Mem => [(0, .inr 0), (1, .inl x1), (2, .inl x2), (3, .inl s.1)]) (Mf := fun s : Int32 × Mem => s.2) (fun K2 hK2 s => ?_) fuelL s
  obtain ⟨x3, M⟩ := s
  show CorM KSm ST1 RX10 cX10_lineOf 4 (some .int) d 2 [(0, .inr 0), (1, .inl x1), (2, .inl x2), (3, .inl x3)] [] M (l_X10_lineOf_2 x1 x2 K2 (x3, M))
  unfold l_X10_lineOf_2
  refine c_iload_n (i := 3) dX10_lineOf_2 rfl rfl ?_
  refine c_aload_n (i := 0) dX10_lineOf_3 rfl rfl ?_
  refine gf_RX10_9 (blk_get0 KSm_b0) dX10_lineOf_4 ?_
  refine c_sipush dX10_lineOf_7 (v := 1578) rfl ?_
  refine c_iald (blk_get0 (blk_sub (C := [(20, 1671)]) (i := 1) KSm_b0 rfl)) (by decide) dX10_lineOf_10 ?_
  refine c_icmp_ge (tgt := 50) dX10_lineOf_11 rfl (fun h1 => ?_) (fun h1 => ?_)
  · refine c_iconst dX10_lineOf_50 (v := (-1)) rfl ?_
    exact c_iret rfl dX10_lineOf_51
  · refine c_aload_n (i := 0) dX10_lineOf_14 rfl rfl ?_
    refine gf_RX10_9 (blk_get0 KSm_b0) dX10_lineOf_15 ?_
    refine c_iload_n (i := 3) dX10_lineOf_18 rfl rfl ?_
    refine c_iconst dX10_lineOf_19 (v := 0) rfl ?_
    refine c_callSp (as := [.inl x3, .inl 0]) (rs := [.inr 1]) (ev_X10_cell 0 (Nat.le_refl _) x3 0 M) rfl (Nat.lt_of_lt_of_le (by decide) hlev) mw_X10_cell ws_X10_cell wl_RX10_310 mn_X10_cell rfl (by decide) (Nat.le_of_ble_eq_true rfl) ⟨_, rfl⟩ dX10_lineOf_20 ?_
    refine c_chk (fun h2 => ?_)
    refine c_iald (blk_get0 (blk_sub (C := [(20, 1671)]) (i := 1) KSm_b0 rfl)) h2 dX10_lineOf_23 ?_
    refine c_iload_n (i := 1) dX10_lineOf_24 rfl rfl ?_
    refine c_icmp_ne (tgt := 44) dX10_lineOf_25 rfl (fun h3 => ?_) (fun h3 => ?_)
    · refine c_keep [0, 1, 2, 3] (ls2 := [(0, .inr 0), (1, .inl x1), (2, .inl x2), (3, .inl x3)]) rfl ?_
      exact jo_X10_lineOf_44 d hlev x1 x2 x3 K2 hK2 M
    · refine c_aload_n (i := 0) dX10_lineOf_28 rfl rfl ?_
      refine gf_RX10_9 (blk_get0 KSm_b0) dX10_lineOf_29 ?_
      refine c_iload_n (i := 3) dX10_lineOf_32 rfl rfl ?_
      refine c_iconst dX10_lineOf_33 (v := 1) rfl ?_
      refine c_callSp (as := [.inl x3, .inl 1]) (rs := [.inr 1]) (ev_X10_cell 0 (Nat.le_refl _) x3 1 M) rfl (Nat.lt_of_lt_of_le (by decide) hlev) mw_X10_cell ws_X10_cell wl_RX10_310 mn_X10_cell rfl (by decide) (Nat.le_of_ble_eq_true rfl) ⟨_, rfl⟩ dX10_lineOf_34 ?_
      refine c_chk (fun h4 => ?_)
      refine c_iald (blk_get0 (blk_sub (C := [(20, 1671)]) (i := 1) KSm_b0 rfl)) h4 dX10_lineOf_37 ?_
      refine c_iload_n (i := 2) dX10_lineOf_38 rfl rfl ?_
      refine c_icmp_ne (tgt := 44) dX10_lineOf_39 rfl (fun h5 => ?_) (fun h5 => ?_)
      · refine c_keep [0, 1, 2, 3] (ls2 := [(0, .inr 0), (1, .inl x1), (2, .inl x2), (3, .inl x3)]) rfl ?_
        exact jo_X10_lineOf_44 d hlev x1 x2 x3 K2 hK2 M
      · refine c_iload_n (i := 3) dX10_lineOf_42 rfl rfl ?_
        exact c_iret rfl dX10_lineOf_43
def f_X10_lineOf (x1 : Int32) (x2 : Int32) (M : Mem) : Option (Int32 × Mem) := loopC (l_X10_lineOf_2 x1 x2) fuelL (0, M)
set_option maxRecDepth 20000 in
set_option maxHeartbeats 2000000 in
theorem ev_X10_lineOf (d : Nat) (hlev : 1 ≤ d) (x1 : Int32) (x2 : Int32) (M : Mem) : Ev KSm ST1 mdX10_lineOf d [.inr 0, .inl x1, .inl x2] M (f_X10_lineOf x1 x2 M) := by
  refine ev_of rfl (Nat.le_of_ble_eq_true rfl) ?_
  show CorM KSm ST1 RX10 cX10_lineOf 4 (some .int) d 0 [(0, .inr 0), (1, .inl x1), (2, .inl x2)] [] M (f_X10_lineOf x1 x2 M)
  unfold f_X10_lineOf
  refine c_iconst dX10_lineOf_0 (v := 0) rfl ?_
  refine c_istore_n (i := 3) dX10_lineOf_1 rfl (by decide) (ls2 := [(0, .inr 0), (1, .inl x1), (2, .inl x2), (3, .inl 0)]) rfl ?_
  refine c_keep [0, 1, 2, 3] (ls2 := [(0, .inr 0), (1, .inl x1), (2, .inl x2), (3, .inl 0)]) rfl ?_
  exact lo_X10_lineOf_2 d hlev x1 x2 (0, M)

abbrev mdX10_goes : MD := (yX10_goes, cX10_goes, 3, none)
theorem mw_X10_goes : mdW mdX10_goes := ⟨wm_X10_goes, w0_RX10, by decide, by decide⟩
theorem mn_X10_goes : (parseMethodDescriptor yX10_goes.desc).map (fun d => d.parameters.length) = some 1 := by decide +kernel
def l_X10_goes_18 (K18 : Int32 × Mem → Option (Int32 × Mem)) : Int32 × Mem → Option (Int32 × Mem) := fun s => match s with
  | (x2, M) => if (p_X10_cell (M 1 1578) 0) ≤ x2 then some (0, M) else if inb (x2 + 11) 1671 then if inb x2 1671 then wrt (up M 1 (ix x2) (M 1 (ix (x2 + 11)))) (fun M5 => K18 (x2 + 1, M5)) else none else none
set_option maxRecDepth 20000 in
set_option maxHeartbeats 2000000 in
theorem lo_X10_goes_18 (d : Nat) (hlev : 1 ≤ d) (s : Int32 × Mem) : CorM KSm ST1 RX10 cX10_goes 3 none d 18 [(0, .inr 0), (2, .inl s.1)] [] s.2 (loopC (l_X10_goes_18) fuelL s) := by
  refine c_loop (L := fun s : Int32 × Mem => [(0, .inr 0), (2, .inl s.1)]) (Mf := fun s : Int32 × Mem => s.2) (fun K18 hK18 s => ?_) fuelL s
  obtain ⟨x2, M⟩ := s
  show CorM KSm ST1 RX10 cX10_goes 3 none d 18 [(0, .inr 0), (2, .inl x2)] [] M (l_X10_goes_18 K18 (x2, M))
  unfold l_X10_goes_18
  refine c_iload_n (i := 2) dX10_goes_18 rfl rfl ?_
  refine c_aload_n (i := 0) dX10_goes_19 rfl rfl ?_
  refine gf_RX10_9 (blk_get0 KSm_b0) dX10_goes_20 ?_
  refine c_sipush dX10_goes_23 (v := 1578) rfl ?_
  refine c_iald (blk_get0 (blk_sub (C := [(20, 1671)]) (i := 1) KSm_b0 rfl)) (by decide) dX10_goes_26 ?_
  refine c_iconst dX10_goes_27 (v := 0) rfl ?_
  refine c_callSp (as := [.inl (M 1 1578), .inl 0]) (rs := [.inl x2]) (ev_X10_cell 0 (Nat.le_refl _) (M 1 1578) 0 M) rfl (Nat.lt_of_lt_of_le (by decide) hlev) mw_X10_cell ws_X10_cell wl_RX10_310 mn_X10_cell rfl (by decide) (Nat.le_of_ble_eq_true rfl) ⟨_, rfl⟩ dX10_goes_28 ?_
  refine c_icmp_ge (tgt := 55) dX10_goes_31 rfl (fun h2 => ?_) (fun h2 => ?_)
  · exact c_vret rfl dX10_goes_55
  · refine c_aload_n (i := 0) dX10_goes_34 rfl rfl ?_
    refine gf_RX10_9 (blk_get0 KSm_b0) dX10_goes_35 ?_
    refine c_iload_n (i := 2) dX10_goes_38 rfl rfl ?_
    refine c_aload_n (i := 0) dX10_goes_39 rfl rfl ?_
    refine gf_RX10_9 (blk_get0 KSm_b0) dX10_goes_40 ?_
    refine c_iload_n (i := 2) dX10_goes_43 rfl rfl ?_
    refine c_bipush dX10_goes_44 (v := 11) rfl ?_
    refine c_iadd dX10_goes_46 ?_
    refine c_chk (fun h3 => ?_)
    refine c_iald (blk_get0 (blk_sub (C := [(20, 1671)]) (i := 1) KSm_b0 rfl)) h3 dX10_goes_47 ?_
    refine c_chk (fun h4 => ?_)
    refine c_iast (blk_get0 (blk_sub (C := [(20, 1671)]) (i := 1) KSm_b0 rfl)) h4 dX10_goes_48 ?_
    refine c_wrt (fun M5 => ?_)
    refine c_iinc dX10_goes_49 rfl (v := 1) rfl (by decide) (ls2 := [(0, .inr 0), (2, .inl (x2 + 1))]) rfl ?_
    refine c_goto (tgt := 18) dX10_goes_52 rfl ?_
    refine c_keep [0, 2] (ls2 := [(0, .inr 0), (2, .inl (x2 + 1))]) rfl ?_
    exact hK18 (x2 + 1, M5)
def f_X10_goes (x1 : Int32) (M : Mem) : Option (Int32 × Mem) := wrt (up M 1 1578 ((M 1 1578) - 1)) (fun M1 => loopC (l_X10_goes_18) fuelL (p_X10_cell x1 0, M1))
set_option maxRecDepth 20000 in
set_option maxHeartbeats 2000000 in
theorem ev_X10_goes (d : Nat) (hlev : 1 ≤ d) (x1 : Int32) (M : Mem) : Ev KSm ST1 mdX10_goes d [.inr 0, .inl x1] M (f_X10_goes x1 M) := by
  refine ev_of rfl (Nat.le_of_ble_eq_true rfl) ?_
  show CorM KSm ST1 RX10 cX10_goes 3 none d 0 [(0, .inr 0), (1, .inl x1)] [] M (f_X10_goes x1 M)
  unfold f_X10_goes
  refine c_aload_n (i := 0) dX10_goes_0 rfl rfl ?_
  refine gf_RX10_9 (blk_get0 KSm_b0) dX10_goes_1 ?_
  refine c_sipush dX10_goes_4 (v := 1578) rfl ?_
  refine c_dup2 dX10_goes_7 ?_
  refine c_iald (blk_get0 (blk_sub (C := [(20, 1671)]) (i := 1) KSm_b0 rfl)) (by decide) dX10_goes_8 ?_
  refine c_iconst dX10_goes_9 (v := 1) rfl ?_
  refine c_isub dX10_goes_10 ?_
  refine c_iast (blk_get0 (blk_sub (C := [(20, 1671)]) (i := 1) KSm_b0 rfl)) (by decide) dX10_goes_11 ?_
  refine c_wrt (fun M1 => ?_)
  refine c_iload_n (i := 1) dX10_goes_12 rfl rfl ?_
  refine c_iconst dX10_goes_13 (v := 0) rfl ?_
  refine c_callSp (as := [.inl x1, .inl 0]) (rs := []) (ev_X10_cell 0 (Nat.le_refl _) x1 0 M1) rfl (Nat.lt_of_lt_of_le (by decide) hlev) mw_X10_cell ws_X10_cell wl_RX10_310 mn_X10_cell rfl (by decide) (Nat.le_of_ble_eq_true rfl) ⟨_, rfl⟩ dX10_goes_14 ?_
  refine c_istore_n (i := 2) dX10_goes_17 rfl (by decide) (ls2 := [(0, .inr 0), (1, .inl x1), (2, .inl (p_X10_cell x1 0))]) rfl ?_
  refine c_keep [0, 2] (ls2 := [(0, .inr 0), (2, .inl (p_X10_cell x1 0))]) rfl ?_
  exact lo_X10_goes_18 d hlev (p_X10_cell x1 0, M1)

abbrev mdX10_cleans : MD := (yX10_cleans, cX10_cleans, 3, (some .boolean))
theorem mw_X10_cleans : mdW mdX10_cleans := ⟨wm_X10_cleans, w0_RX10, by decide, by decide⟩
theorem mn_X10_cleans : (parseMethodDescriptor yX10_cleans.desc).map (fun d => d.parameters.length) = some 1 := by decide +kernel
def l_X10_cleans_17 (x1 : Int32) (K17 : Int32 × Mem → Option (Int32 × Mem)) : Int32 × Mem → Option (Int32 × Mem) := fun s => match s with
  | (x2, M) => if (M 5 2) ≤ x2 then if inb (p_X10_cell x1 2) 1671 then wrt (up M 1 (ix (p_X10_cell x1 2)) 0) (fun M5 => wrt (up M5 1 1669 ((M5 1 1669) + 1)) (fun M6 => some (1, M6))) else none else if inb (p_X10_cell x1 0) 1671 then if inb (p_X10_cell x1 1) 1671 then if inb (p_X10_cell x1 (3 + x2)) 1671 then if inb (p_X10_word (M 1 (ix (p_X10_cell x1 0))) (M 1 (ix (p_X10_cell x1 1))) x2) 1671 then wrt (up M 1 (ix (p_X10_word (M 1 (ix (p_X10_cell x1 0))) (M 1 (ix (p_X10_cell x1 1))) x2)) (M 1 (ix (p_X10_cell x1 (3 + x2))))) (fun M11 => K17 (x2 + 1, M11)) else none else none else none else none
set_option maxRecDepth 20000 in
set_option maxHeartbeats 2000000 in
theorem lo_X10_cleans_17 (d : Nat) (hlev : 1 ≤ d) (x1 : Int32) (s : Int32 × Mem) : CorM KSm ST1 RX10 cX10_cleans 3 (some .boolean) d 17 [(0, .inr 0), (1, .inl x1), (2, .inl s.1)] [] s.2 (loopC (l_X10_cleans_17 x1) fuelL s) := by
  refine c_loop (L := fun s : Int32 × Mem => [(0, .inr 0), (1, .inl x1), (2, .inl s.1)]) (Mf := fun s : Int32 × Mem => s.2) (fun K17 hK17 s => ?_) fuelL s
  obtain ⟨x2, M⟩ := s
  show CorM KSm ST1 RX10 cX10_cleans 3 (some .boolean) d 17 [(0, .inr 0), (1, .inl x1), (2, .inl x2)] [] M (l_X10_cleans_17 x1 K17 (x2, M))
  unfold l_X10_cleans_17
  refine c_iload_n (i := 2) dX10_cleans_17 rfl rfl ?_
  refine c_aload_n (i := 0) dX10_cleans_18 rfl rfl ?_
  refine gf_RX10_23 (blk_get0 KSm_b0) dX10_cleans_19 ?_
  refine c_iconst dX10_cleans_22 (v := 2) rfl ?_
  refine c_iald (blk_get0 (blk_sub (C := [(20, 290)]) (i := 5) KSm_b0 rfl)) (by decide) dX10_cleans_23 ?_
  refine c_icmp_ge (tgt := 74) dX10_cleans_24 rfl (fun h3 => ?_) (fun h3 => ?_)
  · refine c_aload_n (i := 0) dX10_cleans_74 rfl rfl ?_
    refine gf_RX10_9 (blk_get0 KSm_b0) dX10_cleans_75 ?_
    refine c_iload_n (i := 1) dX10_cleans_78 rfl rfl ?_
    refine c_iconst dX10_cleans_79 (v := 2) rfl ?_
    refine c_callSp (as := [.inl x1, .inl 2]) (rs := [.inr 1]) (ev_X10_cell 0 (Nat.le_refl _) x1 2 M) rfl (Nat.lt_of_lt_of_le (by decide) hlev) mw_X10_cell ws_X10_cell wl_RX10_310 mn_X10_cell rfl (by decide) (Nat.le_of_ble_eq_true rfl) ⟨_, rfl⟩ dX10_cleans_80 ?_
    refine c_iconst dX10_cleans_83 (v := 0) rfl ?_
    refine c_chk (fun h4 => ?_)
    refine c_iast (blk_get0 (blk_sub (C := [(20, 1671)]) (i := 1) KSm_b0 rfl)) h4 dX10_cleans_84 ?_
    refine c_wrt (fun M5 => ?_)
    refine c_aload_n (i := 0) dX10_cleans_85 rfl rfl ?_
    refine gf_RX10_9 (blk_get0 KSm_b0) dX10_cleans_86 ?_
    refine c_sipush dX10_cleans_89 (v := 1669) rfl ?_
    refine c_dup2 dX10_cleans_92 ?_
    refine c_iald (blk_get0 (blk_sub (C := [(20, 1671)]) (i := 1) KSm_b0 rfl)) (by decide) dX10_cleans_93 ?_
    refine c_iconst dX10_cleans_94 (v := 1) rfl ?_
    refine c_iadd dX10_cleans_95 ?_
    refine c_iast (blk_get0 (blk_sub (C := [(20, 1671)]) (i := 1) KSm_b0 rfl)) (by decide) dX10_cleans_96 ?_
    refine c_wrt (fun M6 => ?_)
    refine c_iconst dX10_cleans_97 (v := 1) rfl ?_
    exact c_zret rfl (Or.inr rfl) dX10_cleans_98
  · refine c_aload_n (i := 0) dX10_cleans_27 rfl rfl ?_
    refine gf_RX10_9 (blk_get0 KSm_b0) dX10_cleans_28 ?_
    refine c_aload_n (i := 0) dX10_cleans_31 rfl rfl ?_
    refine gf_RX10_9 (blk_get0 KSm_b0) dX10_cleans_32 ?_
    refine c_iload_n (i := 1) dX10_cleans_35 rfl rfl ?_
    refine c_iconst dX10_cleans_36 (v := 0) rfl ?_
    refine c_callSp (as := [.inl x1, .inl 0]) (rs := [.inr 1, .inr 1]) (ev_X10_cell 0 (Nat.le_refl _) x1 0 M) rfl (Nat.lt_of_lt_of_le (by decide) hlev) mw_X10_cell ws_X10_cell wl_RX10_310 mn_X10_cell rfl (by decide) (Nat.le_of_ble_eq_true rfl) ⟨_, rfl⟩ dX10_cleans_37 ?_
    refine c_chk (fun h7 => ?_)
    refine c_iald (blk_get0 (blk_sub (C := [(20, 1671)]) (i := 1) KSm_b0 rfl)) h7 dX10_cleans_40 ?_
    refine c_aload_n (i := 0) dX10_cleans_41 rfl rfl ?_
    refine gf_RX10_9 (blk_get0 KSm_b0) dX10_cleans_42 ?_
    refine c_iload_n (i := 1) dX10_cleans_45 rfl rfl ?_
    refine c_iconst dX10_cleans_46 (v := 1) rfl ?_
    refine c_callSp (as := [.inl x1, .inl 1]) (rs := [.inr 1, .inl (M 1 (ix (p_X10_cell x1 0))), .inr 1]) (ev_X10_cell 0 (Nat.le_refl _) x1 1 M) rfl (Nat.lt_of_lt_of_le (by decide) hlev) mw_X10_cell ws_X10_cell wl_RX10_310 mn_X10_cell rfl (by decide) (Nat.le_of_ble_eq_true rfl) ⟨_, rfl⟩ dX10_cleans_47 ?_
    refine c_chk (fun h8 => ?_)
    refine c_iald (blk_get0 (blk_sub (C := [(20, 1671)]) (i := 1) KSm_b0 rfl)) h8 dX10_cleans_50 ?_
    refine c_iload_n (i := 2) dX10_cleans_51 rfl rfl ?_
    refine c_callSp (as := [.inl (M 1 (ix (p_X10_cell x1 0))), .inl (M 1 (ix (p_X10_cell x1 1))), .inl x2]) (rs := [.inr 1]) (ev_X10_word 0 (Nat.le_refl _) (M 1 (ix (p_X10_cell x1 0))) (M 1 (ix (p_X10_cell x1 1))) x2 M) rfl (Nat.lt_of_lt_of_le (by decide) hlev) mw_X10_word ws_X10_word wl_RX10_247 mn_X10_word rfl (by decide) (Nat.le_of_ble_eq_true rfl) ⟨_, rfl⟩ dX10_cleans_52 ?_
    refine c_aload_n (i := 0) dX10_cleans_55 rfl rfl ?_
    refine gf_RX10_9 (blk_get0 KSm_b0) dX10_cleans_56 ?_
    refine c_iload_n (i := 1) dX10_cleans_59 rfl rfl ?_
    refine c_iconst dX10_cleans_60 (v := 3) rfl ?_
    refine c_iload_n (i := 2) dX10_cleans_61 rfl rfl ?_
    refine c_iadd dX10_cleans_62 ?_
    refine c_callSp (as := [.inl x1, .inl (3 + x2)]) (rs := [.inr 1, .inl (p_X10_word (M 1 (ix (p_X10_cell x1 0))) (M 1 (ix (p_X10_cell x1 1))) x2), .inr 1]) (ev_X10_cell 0 (Nat.le_refl _) x1 (3 + x2) M) rfl (Nat.lt_of_lt_of_le (by decide) hlev) mw_X10_cell ws_X10_cell wl_RX10_310 mn_X10_cell rfl (by decide) (Nat.le_of_ble_eq_true rfl) ⟨_, rfl⟩ dX10_cleans_63 ?_
    refine c_chk (fun h9 => ?_)
    refine c_iald (blk_get0 (blk_sub (C := [(20, 1671)]) (i := 1) KSm_b0 rfl)) h9 dX10_cleans_66 ?_
    refine c_chk (fun h10 => ?_)
    refine c_iast (blk_get0 (blk_sub (C := [(20, 1671)]) (i := 1) KSm_b0 rfl)) h10 dX10_cleans_67 ?_
    refine c_wrt (fun M11 => ?_)
    refine c_iinc dX10_cleans_68 rfl (v := 1) rfl (by decide) (ls2 := [(0, .inr 0), (1, .inl x1), (2, .inl (x2 + 1))]) rfl ?_
    refine c_goto (tgt := 17) dX10_cleans_71 rfl ?_
    refine c_keep [0, 1, 2] (ls2 := [(0, .inr 0), (1, .inl x1), (2, .inl (x2 + 1))]) rfl ?_
    exact hK17 (x2 + 1, M11)
def f_X10_cleans (x1 : Int32) (M : Mem) : Option (Int32 × Mem) := if inb (p_X10_cell x1 2) 1671 then if ¬ (M 1 (ix (p_X10_cell x1 2))) = 0 then loopC (l_X10_cleans_17 x1) fuelL (0, M) else some (0, M) else none
set_option maxRecDepth 20000 in
set_option maxHeartbeats 2000000 in
theorem ev_X10_cleans (d : Nat) (hlev : 1 ≤ d) (x1 : Int32) (M : Mem) : Ev KSm ST1 mdX10_cleans d [.inr 0, .inl x1] M (f_X10_cleans x1 M) := by
  refine ev_of rfl (Nat.le_of_ble_eq_true rfl) ?_
  show CorM KSm ST1 RX10 cX10_cleans 3 (some .boolean) d 0 [(0, .inr 0), (1, .inl x1)] [] M (f_X10_cleans x1 M)
  unfold f_X10_cleans
  refine c_aload_n (i := 0) dX10_cleans_0 rfl rfl ?_
  refine gf_RX10_9 (blk_get0 KSm_b0) dX10_cleans_1 ?_
  refine c_iload_n (i := 1) dX10_cleans_4 rfl rfl ?_
  refine c_iconst dX10_cleans_5 (v := 2) rfl ?_
  refine c_callSp (as := [.inl x1, .inl 2]) (rs := [.inr 1]) (ev_X10_cell 0 (Nat.le_refl _) x1 2 M) rfl (Nat.lt_of_lt_of_le (by decide) hlev) mw_X10_cell ws_X10_cell wl_RX10_310 mn_X10_cell rfl (by decide) (Nat.le_of_ble_eq_true rfl) ⟨_, rfl⟩ dX10_cleans_6 ?_
  refine c_chk (fun h1 => ?_)
  refine c_iald (blk_get0 (blk_sub (C := [(20, 1671)]) (i := 1) KSm_b0 rfl)) h1 dX10_cleans_9 ?_
  refine c_if_ne (tgt := 15) dX10_cleans_10 rfl (fun h2 => ?_) (fun h2 => ?_)
  · refine c_iconst dX10_cleans_15 (v := 0) rfl ?_
    refine c_istore_n (i := 2) dX10_cleans_16 rfl (by decide) (ls2 := [(0, .inr 0), (1, .inl x1), (2, .inl 0)]) rfl ?_
    refine c_keep [0, 1, 2] (ls2 := [(0, .inr 0), (1, .inl x1), (2, .inl 0)]) rfl ?_
    exact lo_X10_cleans_17 d hlev x1 (0, M)
  · refine c_iconst dX10_cleans_13 (v := 0) rfl ?_
    exact c_zret rfl (Or.inl rfl) dX10_cleans_14
