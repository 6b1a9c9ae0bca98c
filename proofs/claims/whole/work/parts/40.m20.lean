abbrev mdX10_runs : MD := (yX10_runs, cX10_runs, 4, (some .int))
theorem mw_X10_runs : mdW mdX10_runs := ⟨wm_X10_runs, w0_RX10, by decide, by decide⟩
theorem mn_X10_runs : (parseMethodDescriptor yX10_runs.desc).map (fun d => d.parameters.length) = some 1 := by decide +kernel
def l_X10_runs_66 (x2 : Int32) (K66 : Int32 × Mem → Option (Int32 × Mem)) : Int32 × Mem → Option (Int32 × Mem) := fun s => match s with
  | (x3, M) => if (M 1 1440) ≤ x3 then some (x2, M) else if inb ((1441 + x2) + x3) 1671 then if inb (1441 + x3) 1671 then wrt (up M 1 (ix (1441 + x3)) (M 1 (ix ((1441 + x2) + x3)))) (fun M7 => K66 (x3 + 1, M7)) else none else none
set_option maxRecDepth 20000 in
set_option maxHeartbeats 2000000 in
theorem lo_X10_runs_66 (d : Nat) (hlev : 5 ≤ d) (x2 : Int32) (s : Int32 × Mem) : CorM KSm ST1 RX10 cX10_runs 4 (some .int) d 66 [(0, .inr 0), (2, .inl x2), (3, .inl s.1)] [] s.2 (loopC (l_X10_runs_66 x2) fuelL s) := by
  refine c_loop (L := fun s : Int32 × Mem => [(0, .inr 0), (2, .inl x2), (3, .inl s.1)]) (Mf := fun s : Int32 × Mem => s.2) (fun K66 hK66 s => ?_) fuelL s
  obtain ⟨x3, M⟩ := s
  show CorM KSm ST1 RX10 cX10_runs 4 (some .int) d 66 [(0, .inr 0), (2, .inl x2), (3, .inl x3)] [] M (l_X10_runs_66 x2 K66 (x3, M))
  unfold l_X10_runs_66
  refine c_iload_n (i := 3) dX10_runs_66 rfl rfl ?_
  refine c_aload_n (i := 0) dX10_runs_67 rfl rfl ?_
  refine gf_RX10_9 (blk_get0 KSm_b0) dX10_runs_68 ?_
  refine c_sipush dX10_runs_71 (v := 1440) rfl ?_
  refine c_iald (blk_get0 (blk_sub (C := [(20, 1671)]) (i := 1) KSm_b0 rfl)) (by decide) dX10_runs_74 ?_
  refine c_icmp_ge (tgt := 106) dX10_runs_75 rfl (fun h4 => ?_) (fun h4 => ?_)
  · refine c_iload_n (i := 2) dX10_runs_106 rfl rfl ?_
    exact c_iret rfl dX10_runs_107
  · refine c_aload_n (i := 0) dX10_runs_78 rfl rfl ?_
    refine gf_RX10_9 (blk_get0 KSm_b0) dX10_runs_79 ?_
    refine c_sipush dX10_runs_82 (v := 1441) rfl ?_
    refine c_iload_n (i := 3) dX10_runs_85 rfl rfl ?_
    refine c_iadd dX10_runs_86 ?_
    refine c_aload_n (i := 0) dX10_runs_87 rfl rfl ?_
    refine gf_RX10_9 (blk_get0 KSm_b0) dX10_runs_88 ?_
    refine c_sipush dX10_runs_91 (v := 1441) rfl ?_
    refine c_iload_n (i := 2) dX10_runs_94 rfl rfl ?_
    refine c_iadd dX10_runs_95 ?_
    refine c_iload_n (i := 3) dX10_runs_96 rfl rfl ?_
    refine c_iadd dX10_runs_97 ?_
    refine c_chk (fun h5 => ?_)
    refine c_iald (blk_get0 (blk_sub (C := [(20, 1671)]) (i := 1) KSm_b0 rfl)) h5 dX10_runs_98 ?_
    refine c_chk (fun h6 => ?_)
    refine c_iast (blk_get0 (blk_sub (C := [(20, 1671)]) (i := 1) KSm_b0 rfl)) h6 dX10_runs_99 ?_
    refine c_wrt (fun M7 => ?_)
    refine c_iinc dX10_runs_100 rfl (v := 1) rfl (by decide) (ls2 := [(0, .inr 0), (2, .inl x2), (3, .inl (x3 + 1))]) rfl ?_
    refine c_goto (tgt := 66) dX10_runs_103 rfl ?_
    refine c_keep [0, 2, 3] (ls2 := [(0, .inr 0), (2, .inl x2), (3, .inl (x3 + 1))]) rfl ?_
    exact hK66 (x3 + 1, M7)
def l_X10_runs_27 (x2 : Int32) (K27 : Int32 × Mem → Option (Int32 × Mem)) : Int32 × Mem → Option (Int32 × Mem) := fun s => match s with
  | (x3, M) => if x2 ≤ x3 then wrt (up M 1 1440 ((M 1 1440) - x2)) (fun M3 => loopC (l_X10_runs_66 x2) fuelL (0, M3)) else if inb (1441 + x3) 1671 then bnd (f_X10_does (M 1 (ix (1441 + x3))) M) (fun _ M10 => K27 (x3 + 1, M10)) else none
set_option maxRecDepth 20000 in
set_option maxHeartbeats 2000000 in
theorem lo_X10_runs_27 (d : Nat) (hlev : 5 ≤ d) (x2 : Int32) (s : Int32 × Mem) : CorM KSm ST1 RX10 cX10_runs 4 (some .int) d 27 [(0, .inr 0), (2, .inl x2), (3, .inl s.1)] [] s.2 (loopC (l_X10_runs_27 x2) fuelL s) := by
  refine c_loop (L := fun s : Int32 × Mem => [(0, .inr 0), (2, .inl x2), (3, .inl s.1)]) (Mf := fun s : Int32 × Mem => s.2) (fun K27 hK27 s => ?_) fuelL s
  obtain ⟨x3, M⟩ := s
  show CorM KSm ST1 RX10 cX10_runs 4 (some .int) d 27 [(0, .inr 0), (2, .inl x2), (3, .inl x3)] [] M (l_X10_runs_27 x2 K27 (x3, M))
  unfold l_X10_runs_27
  refine c_iload_n (i := 3) dX10_runs_27 rfl rfl ?_
  refine c_iload_n (i := 2) dX10_runs_28 rfl rfl ?_
  refine c_icmp_ge (tgt := 52) dX10_runs_29 rfl (fun h2 => ?_) (fun h2 => ?_)
  · refine c_aload_n (i := 0) dX10_runs_52 rfl rfl ?_
    refine gf_RX10_9 (blk_get0 KSm_b0) dX10_runs_53 ?_
    refine c_sipush dX10_runs_56 (v := 1440) rfl ?_
    refine c_dup2 dX10_runs_59 ?_
    refine c_iald (blk_get0 (blk_sub (C := [(20, 1671)]) (i := 1) KSm_b0 rfl)) (by decide) dX10_runs_60 ?_
    refine c_iload_n (i := 2) dX10_runs_61 rfl rfl ?_
    refine c_isub dX10_runs_62 ?_
    refine c_iast (blk_get0 (blk_sub (C := [(20, 1671)]) (i := 1) KSm_b0 rfl)) (by decide) dX10_runs_63 ?_
    refine c_wrt (fun M3 => ?_)
    refine c_iconst dX10_runs_64 (v := 0) rfl ?_
    refine c_istore_n (i := 3) dX10_runs_65 rfl (by decide) (ls2 := [(0, .inr 0), (2, .inl x2), (3, .inl 0)]) rfl ?_
    refine c_keep [0, 2, 3] (ls2 := [(0, .inr 0), (2, .inl x2), (3, .inl 0)]) rfl ?_
    exact lo_X10_runs_66 d hlev x2 (0, M3)
  · refine c_aload_n (i := 0) dX10_runs_32 rfl rfl ?_
    refine c_aload_n (i := 0) dX10_runs_33 rfl rfl ?_
    refine gf_RX10_9 (blk_get0 KSm_b0) dX10_runs_34 ?_
    refine c_sipush dX10_runs_37 (v := 1441) rfl ?_
    refine c_iload_n (i := 3) dX10_runs_40 rfl rfl ?_
    refine c_iadd dX10_runs_41 ?_
    refine c_chk (fun h8 => ?_)
    refine c_iald (blk_get0 (blk_sub (C := [(20, 1671)]) (i := 1) KSm_b0 rfl)) h8 dX10_runs_42 ?_
    refine c_callVv (as := [.inl (M 1 (ix (1441 + x3)))]) (rs := []) (ev_X10_does 4 (Nat.le_refl _) (M 1 (ix (1441 + x3))) M) rfl (Nat.lt_of_lt_of_le (by decide) hlev) mw_X10_does wi_X10_does wv_X10_does (blk_get0 KSm_b0) (by decide) rfl wl_RX10_347 mn_X10_does rfl (by decide) (Nat.le_of_ble_eq_true rfl) rfl dX10_runs_43 (fun v9 M10 _ => ?_)
    refine c_iinc dX10_runs_46 rfl (v := 1) rfl (by decide) (ls2 := [(0, .inr 0), (2, .inl x2), (3, .inl (x3 + 1))]) rfl ?_
    refine c_goto (tgt := 27) dX10_runs_49 rfl ?_
    refine c_keep [0, 2, 3] (ls2 := [(0, .inr 0), (2, .inl x2), (3, .inl (x3 + 1))]) rfl ?_
    exact hK27 (x3 + 1, M10)
def f_X10_runs (x1 : Int32) (M : Mem) : Option (Int32 × Mem) := loopC (l_X10_runs_27 (if (M 1 1440) ≤ x1 then M 1 1440 else x1)) fuelL (0, M)
set_option maxRecDepth 20000 in
set_option maxHeartbeats 2000000 in
theorem ev_X10_runs (d : Nat) (hlev : 5 ≤ d) (x1 : Int32) (M : Mem) : Ev KSm ST1 mdX10_runs d [.inr 0, .inl x1] M (f_X10_runs x1 M) := by
  refine ev_of rfl (Nat.le_of_ble_eq_true rfl) ?_
  show CorM KSm ST1 RX10 cX10_runs 4 (some .int) d 0 [(0, .inr 0), (1, .inl x1)] [] M (f_X10_runs x1 M)
  unfold f_X10_runs
  refine c_iload_n (i := 1) dX10_runs_0 rfl rfl ?_
  refine c_aload_n (i := 0) dX10_runs_1 rfl rfl ?_
  refine gf_RX10_9 (blk_get0 KSm_b0) dX10_runs_2 ?_
  refine c_sipush dX10_runs_5 (v := 1440) rfl ?_
  refine c_iald (blk_get0 (blk_sub (C := [(20, 1671)]) (i := 1) KSm_b0 rfl)) (by decide) dX10_runs_8 ?_
  have J_z1 : ∀ z1 : Int32, CorM KSm ST1 RX10 cX10_runs 4 (some .int) d 24 [(0, .inr 0)] [.inl z1] M (loopC (l_X10_runs_27 z1) fuelL (0, M)) := by
    intro z1
    refine c_istore_n (i := 2) dX10_runs_24 rfl (by decide) (ls2 := [(0, .inr 0), (2, .inl z1)]) rfl ?_
    refine c_iconst dX10_runs_25 (v := 0) rfl ?_
    refine c_istore_n (i := 3) dX10_runs_26 rfl (by decide) (ls2 := [(0, .inr 0), (2, .inl z1), (3, .inl 0)]) rfl ?_
    refine c_keep [0, 2, 3] (ls2 := [(0, .inr 0), (2, .inl z1), (3, .inl 0)]) rfl ?_
    exact lo_X10_runs_27 d hlev z1 (0, M)
  refine c_val (b := (M 1 1440) ≤ x1) (v1 := M 1 1440) (v2 := x1) (F := fun z1 => loopC (l_X10_runs_27 z1) fuelL (0, M)) (fun h11 => ?_) (fun h11 => ?_)
  · refine c_T h11 (c_icmp_ge (tgt := 16) dX10_runs_9 rfl (fun _ => ?_) (fun q => absurd h11 q))
    refine c_aload_n (i := 0) dX10_runs_16 rfl rfl ?_
    refine gf_RX10_9 (blk_get0 KSm_b0) dX10_runs_17 ?_
    refine c_sipush dX10_runs_20 (v := 1440) rfl ?_
    refine c_iald (blk_get0 (blk_sub (C := [(20, 1671)]) (i := 1) KSm_b0 rfl)) (by decide) dX10_runs_23 ?_
    refine c_keep [0] (ls2 := [(0, .inr 0)]) rfl ?_
    exact J_z1 (M 1 1440)
  · refine c_Fl h11 (c_icmp_ge (tgt := 16) dX10_runs_9 rfl (fun q => absurd q h11) (fun _ => ?_))
    refine c_iload_n (i := 1) dX10_runs_12 rfl rfl ?_
    refine c_goto (tgt := 24) dX10_runs_13 rfl ?_
    refine c_keep [0] (ls2 := [(0, .inr 0)]) rfl ?_
    exact J_z1 x1

abbrev mdX10_run : MD := (yX10_run, cX10_run, 2, (some .int))
theorem mw_X10_run : mdW mdX10_run := ⟨wm_X10_run, w0_RX10, by decide, by decide⟩
theorem mn_X10_run : (parseMethodDescriptor yX10_run.desc).map (fun d => d.parameters.length) = some 1 := by decide +kernel
def j_X10_run_29 (w0 : Int32) (M : Mem) : Option (Int32 × Mem) := some (w0, M)
set_option maxRecDepth 20000 in
set_option maxHeartbeats 2000000 in
theorem jo_X10_run_29 (d : Nat) (hlev : 6 ≤ d) (w0 : Int32) (M : Mem) : CorM KSm ST1 RX10 cX10_run 2 (some .int) d 29 [] [.inl w0] M (j_X10_run_29 w0 M) := by
  unfold j_X10_run_29
  exact c_iret rfl dX10_run_29
def f_X10_run (x1 : Int32) (M : Mem) : Option (Int32 × Mem) := wrt (up M 0 0 0) (fun M1 => bnd (f_X10_may (p_X10_isIn x1 1 16) 1 M1) (fun v2 M3 => if v2 = 0 then j_X10_run_29 0 M3 else bnd (f_X10_runs x1 M3) (fun v5 M6 => j_X10_run_29 v5 M6)))
set_option maxRecDepth 20000 in
set_option maxHeartbeats 2000000 in
theorem ev_X10_run (d : Nat) (hlev : 6 ≤ d) (x1 : Int32) (M : Mem) : Ev KSm ST1 mdX10_run d [.inr 0, .inl x1] M (f_X10_run x1 M) := by
  refine ev_of rfl (Nat.le_of_ble_eq_true rfl) ?_
  show CorM KSm ST1 RX10 cX10_run 2 (some .int) d 0 [(0, .inr 0), (1, .inl x1)] [] M (f_X10_run x1 M)
  unfold f_X10_run
  refine c_aload_n (i := 0) dX10_run_0 rfl rfl ?_
  refine c_iconst dX10_run_1 (v := 0) rfl ?_
  refine pf_RX10_60 (blk_get0 KSm_b0) dX10_run_2 ?_
  refine c_wrt (fun M1 => ?_)
  refine c_aload_n (i := 0) dX10_run_5 rfl rfl ?_
  refine c_iload_n (i := 1) dX10_run_6 rfl rfl ?_
  refine c_iconst dX10_run_7 (v := 1) rfl ?_
  refine c_bipush dX10_run_8 (v := 16) rfl ?_
  refine c_callSp (as := [.inl x1, .inl 1, .inl 16]) (rs := [.inr 0]) (ev_X10_isIn 0 (Nat.le_refl _) x1 1 16 M1) rfl (Nat.lt_of_lt_of_le (by decide) hlev) mw_X10_isIn ws_X10_isIn wl_RX10_70 mn_X10_isIn rfl (by decide) (Nat.le_of_ble_eq_true rfl) ⟨_, rfl⟩ dX10_run_10 ?_
  refine c_iconst dX10_run_13 (v := 1) rfl ?_
  refine c_callV (as := [.inl (p_X10_isIn x1 1 16), .inl 1]) (rs := []) (ev_X10_may 0 (Nat.le_refl _) (p_X10_isIn x1 1 16) 1 M1) rfl (Nat.lt_of_lt_of_le (by decide) hlev) mw_X10_may wi_X10_may wv_X10_may (blk_get0 KSm_b0) (by decide) rfl wl_RX10_66 mn_X10_may rfl (by decide) (Nat.le_of_ble_eq_true rfl) ⟨_, rfl⟩ dX10_run_14 (fun v2 M3 _ => ?_)
  refine c_if_eq (tgt := 28) dX10_run_17 rfl (fun h4 => ?_) (fun h4 => ?_)
  · refine c_iconst dX10_run_28 (v := 0) rfl ?_
    refine c_keep [] (ls2 := []) rfl ?_
    exact jo_X10_run_29 d hlev 0 M3
  · refine c_aload_n (i := 0) dX10_run_20 rfl rfl ?_
    refine c_iload_n (i := 1) dX10_run_21 rfl rfl ?_
    refine c_callV (as := [.inl x1]) (rs := []) (ev_X10_runs 5 (Nat.le_refl _) x1 M3) rfl (Nat.lt_of_lt_of_le (by decide) hlev) mw_X10_runs wi_X10_runs wv_X10_runs (blk_get0 KSm_b0) (by decide) rfl wl_RX10_350 mn_X10_runs rfl (by decide) (Nat.le_of_ble_eq_true rfl) ⟨_, rfl⟩ dX10_run_22 (fun v5 M6 _ => ?_)
    refine c_goto (tgt := 29) dX10_run_25 rfl ?_
    refine c_keep [] (ls2 := []) rfl ?_
    exact jo_X10_run_29 d hlev v5 M6

abbrev mdX10_runOf : MD := (yX10_runOf, cX10_runOf, 4, (some .int))
theorem mw_X10_runOf : mdW mdX10_runOf := ⟨wm_X10_runOf, w0_RX10, by decide, by decide⟩
theorem mn_X10_runOf : (parseMethodDescriptor yX10_runOf.desc).map (fun d => d.parameters.length) = some 2 := by decide +kernel
def j_X10_runOf_71 (M : Mem) : Option (Int32 × Mem) := some (0, M)
set_option maxRecDepth 20000 in
set_option maxHeartbeats 2000000 in
theorem jo_X10_runOf_71 (d : Nat) (hlev : 1 ≤ d) (M : Mem) : CorM KSm ST1 RX10 cX10_runOf 4 (some .int) d 71 [] [] M (j_X10_runOf_71 M) := by
  unfold j_X10_runOf_71
  refine c_iconst dX10_runOf_71 (v := 0) rfl ?_
  exact c_iret rfl dX10_runOf_72
def f_X10_runOf (x1 : Int32) (x2 : Int32) (M : Mem) : Option (Int32 × Mem) := wrt (up M 0 0 0) (fun M1 => bnd (f_X10_may (p_X10_isIn x1 (if (M1 1 1457) ≤ 40 then (0 : Int32) else (M1 1 1457) - 40) ((M1 1 1457) - 1)) 1 M1) (fun v3 M4 => if v3 = 0 then j_X10_runOf_71 M4 else bnd (f_X10_may (p_X10_isIn x2 0 2) 2 M4) (fun v6 M7 => if ¬ v6 = 0 then if inb ((1458 + (3 * (jrem x1 40))) + x2) 1671 then some (M7 1 (ix ((1458 + (3 * (jrem x1 40))) + x2)), M7) else none else j_X10_runOf_71 M7)))
set_option maxRecDepth 20000 in
set_option maxHeartbeats 2000000 in
theorem ev_X10_runOf (d : Nat) (hlev : 1 ≤ d) (x1 : Int32) (x2 : Int32) (M : Mem) : Ev KSm ST1 mdX10_runOf d [.inr 0, .inl x1, .inl x2] M (f_X10_runOf x1 x2 M) := by
  refine ev_of rfl (Nat.le_of_ble_eq_true rfl) ?_
  show CorM KSm ST1 RX10 cX10_runOf 4 (some .int) d 0 [(0, .inr 0), (1, .inl x1), (2, .inl x2)] [] M (f_X10_runOf x1 x2 M)
  unfold f_X10_runOf
  refine c_aload_n (i := 0) dX10_runOf_0 rfl rfl ?_
  refine c_iconst dX10_runOf_1 (v := 0) rfl ?_
  refine pf_RX10_60 (blk_get0 KSm_b0) dX10_runOf_2 ?_
  refine c_wrt (fun M1 => ?_)
  refine c_aload_n (i := 0) dX10_runOf_5 rfl rfl ?_
  refine gf_RX10_9 (blk_get0 KSm_b0) dX10_runOf_6 ?_
  refine c_sipush dX10_runOf_9 (v := 1457) rfl ?_
  refine c_iald (blk_get0 (blk_sub (C := [(20, 1671)]) (i := 1) KSm_b0 rfl)) (by decide) dX10_runOf_12 ?_
  refine c_bipush dX10_runOf_13 (v := 40) rfl ?_
  have J_z2 : ∀ z2 : Int32, CorM KSm ST1 RX10 cX10_runOf 4 (some .int) d 33 [(0, .inr 0), (1, .inl x1), (2, .inl x2)] [.inl z2] M1 (bnd (f_X10_may (p_X10_isIn x1 z2 ((M1 1 1457) - 1)) 1 M1) (fun v3 M4 => if v3 = 0 then j_X10_runOf_71 M4 else bnd (f_X10_may (p_X10_isIn x2 0 2) 2 M4) (fun v6 M7 => if ¬ v6 = 0 then if inb ((1458 + (3 * (jrem x1 40))) + x2) 1671 then some (M7 1 (ix ((1458 + (3 * (jrem x1 40))) + x2)), M7) else none else j_X10_runOf_71 M7))) := by
    intro z2
    refine c_istore_n (i := 3) dX10_runOf_33 rfl (by decide) (ls2 := [(0, .inr 0), (1, .inl x1), (2, .inl x2), (3, .inl z2)]) rfl ?_
    refine c_aload_n (i := 0) dX10_runOf_34 rfl rfl ?_
    refine c_iload_n (i := 1) dX10_runOf_35 rfl rfl ?_
    refine c_iload_n (i := 3) dX10_runOf_36 rfl rfl ?_
    refine c_aload_n (i := 0) dX10_runOf_37 rfl rfl ?_
    refine gf_RX10_9 (blk_get0 KSm_b0) dX10_runOf_38 ?_
    refine c_sipush dX10_runOf_41 (v := 1457) rfl ?_
    refine c_iald (blk_get0 (blk_sub (C := [(20, 1671)]) (i := 1) KSm_b0 rfl)) (by decide) dX10_runOf_44 ?_
    refine c_iconst dX10_runOf_45 (v := 1) rfl ?_
    refine c_isub dX10_runOf_46 ?_
    refine c_callSp (as := [.inl x1, .inl z2, .inl ((M1 1 1457) - 1)]) (rs := [.inr 0]) (ev_X10_isIn 0 (Nat.le_refl _) x1 z2 ((M1 1 1457) - 1) M1) rfl (Nat.lt_of_lt_of_le (by decide) hlev) mw_X10_isIn ws_X10_isIn wl_RX10_70 mn_X10_isIn rfl (by decide) (Nat.le_of_ble_eq_true rfl) ⟨_, rfl⟩ dX10_runOf_47 ?_
    refine c_iconst dX10_runOf_50 (v := 1) rfl ?_
    refine c_callV (as := [.inl (p_X10_isIn x1 z2 ((M1 1 1457) - 1)), .inl 1]) (rs := []) (ev_X10_may 0 (Nat.le_refl _) (p_X10_isIn x1 z2 ((M1 1 1457) - 1)) 1 M1) rfl (Nat.lt_of_lt_of_le (by decide) hlev) mw_X10_may wi_X10_may wv_X10_may (blk_get0 KSm_b0) (by decide) rfl wl_RX10_66 mn_X10_may rfl (by decide) (Nat.le_of_ble_eq_true rfl) ⟨_, rfl⟩ dX10_runOf_51 (fun v3 M4 _ => ?_)
    refine c_if_eq (tgt := 71) dX10_runOf_54 rfl (fun h5 => ?_) (fun h5 => ?_)
    · refine c_keep [] (ls2 := []) rfl ?_
      exact jo_X10_runOf_71 d hlev M4
    · refine c_aload_n (i := 0) dX10_runOf_57 rfl rfl ?_
      refine c_iload_n (i := 2) dX10_runOf_58 rfl rfl ?_
      refine c_iconst dX10_runOf_59 (v := 0) rfl ?_
      refine c_iconst dX10_runOf_60 (v := 2) rfl ?_
      refine c_callSp (as := [.inl x2, .inl 0, .inl 2]) (rs := [.inr 0]) (ev_X10_isIn 0 (Nat.le_refl _) x2 0 2 M4) rfl (Nat.lt_of_lt_of_le (by decide) hlev) mw_X10_isIn ws_X10_isIn wl_RX10_70 mn_X10_isIn rfl (by decide) (Nat.le_of_ble_eq_true rfl) ⟨_, rfl⟩ dX10_runOf_61 ?_
      refine c_iconst dX10_runOf_64 (v := 2) rfl ?_
      refine c_callV (as := [.inl (p_X10_isIn x2 0 2), .inl 2]) (rs := []) (ev_X10_may 0 (Nat.le_refl _) (p_X10_isIn x2 0 2) 2 M4) rfl (Nat.lt_of_lt_of_le (by decide) hlev) mw_X10_may wi_X10_may wv_X10_may (blk_get0 KSm_b0) (by decide) rfl wl_RX10_66 mn_X10_may rfl (by decide) (Nat.le_of_ble_eq_true rfl) ⟨_, rfl⟩ dX10_runOf_65 (fun v6 M7 _ => ?_)
      refine c_if_ne (tgt := 73) dX10_runOf_68 rfl (fun h8 => ?_) (fun h8 => ?_)
      · refine c_aload_n (i := 0) dX10_runOf_73 rfl rfl ?_
        refine gf_RX10_9 (blk_get0 KSm_b0) dX10_runOf_74 ?_
        refine c_sipush dX10_runOf_77 (v := 1458) rfl ?_
        refine c_iconst dX10_runOf_80 (v := 3) rfl ?_
        refine c_iload_n (i := 1) dX10_runOf_81 rfl rfl ?_
        refine c_bipush dX10_runOf_82 (v := 40) rfl ?_
        refine c_irem dX10_runOf_84 (by decide) ?_
        refine c_imul dX10_runOf_85 ?_
        refine c_iadd dX10_runOf_86 ?_
        refine c_iload_n (i := 2) dX10_runOf_87 rfl rfl ?_
        refine c_iadd dX10_runOf_88 ?_
        refine c_chk (fun h9 => ?_)
        refine c_iald (blk_get0 (blk_sub (C := [(20, 1671)]) (i := 1) KSm_b0 rfl)) h9 dX10_runOf_89 ?_
        exact c_iret rfl dX10_runOf_90
      · refine c_keep [] (ls2 := []) rfl ?_
        exact jo_X10_runOf_71 d hlev M7
  refine c_val (b := (M1 1 1457) ≤ 40) (v1 := (0 : Int32)) (v2 := (M1 1 1457) - 40) (F := fun z2 => bnd (f_X10_may (p_X10_isIn x1 z2 ((M1 1 1457) - 1)) 1 M1) (fun v3 M4 => if v3 = 0 then j_X10_runOf_71 M4 else bnd (f_X10_may (p_X10_isIn x2 0 2) 2 M4) (fun v6 M7 => if ¬ v6 = 0 then if inb ((1458 + (3 * (jrem x1 40))) + x2) 1671 then some (M7 1 (ix ((1458 + (3 * (jrem x1 40))) + x2)), M7) else none else j_X10_runOf_71 M7))) (fun h10 => ?_) (fun h10 => ?_)
  · refine c_T h10 (c_icmp_le (tgt := 32) dX10_runOf_15 rfl (fun _ => ?_) (fun q => absurd h10 q))
    refine c_iconst dX10_runOf_32 (v := 0) rfl ?_
    refine c_keep [0, 1, 2] (ls2 := [(0, .inr 0), (1, .inl x1), (2, .inl x2)]) rfl ?_
    exact J_z2 0
  · refine c_Fl h10 (c_icmp_le (tgt := 32) dX10_runOf_15 rfl (fun q => absurd q h10) (fun _ => ?_))
    refine c_aload_n (i := 0) dX10_runOf_18 rfl rfl ?_
    refine gf_RX10_9 (blk_get0 KSm_b0) dX10_runOf_19 ?_
    refine c_sipush dX10_runOf_22 (v := 1457) rfl ?_
    refine c_iald (blk_get0 (blk_sub (C := [(20, 1671)]) (i := 1) KSm_b0 rfl)) (by decide) dX10_runOf_25 ?_
    refine c_bipush dX10_runOf_26 (v := 40) rfl ?_
    refine c_isub dX10_runOf_28 ?_
    refine c_goto (tgt := 33) dX10_runOf_29 rfl ?_
    refine c_keep [0, 1, 2] (ls2 := [(0, .inr 0), (1, .inl x1), (2, .inl x2)]) rfl ?_
    exact J_z2 ((M1 1 1457) - 40)

abbrev mdX10_keeps : MD := (yX10_keeps, cX10_keeps, 2, none)
theorem mw_X10_keeps : mdW mdX10_keeps := ⟨wm_X10_keeps, w0_RX10, by decide, by decide⟩
theorem mn_X10_keeps : (parseMethodDescriptor yX10_keeps.desc).map (fun d => d.parameters.length) = some 0 := by decide +kernel
def l_X10_keeps_2 (K2 : Int32 × Mem → Option (Int32 × Mem)) : Int32 × Mem → Option (Int32 × Mem) := fun s => match s with
  | (x1, M) => if 1671 ≤ x1 then some (0, M) else if inb x1 1671 then if inb x1 1671 then wrt (up M 3 (ix x1) (M 1 (ix x1))) (fun M4 => K2 (x1 + 1, M4)) else none else none
set_option maxRecDepth 20000 in
set_option maxHeartbeats 2000000 in
theorem lo_X10_keeps_2 (d : Nat) (hlev : 0 ≤ d) (s : Int32 × Mem) : CorM KSm ST1 RX10 cX10_keeps 2 none d 2 [(0, .inr 0), (1, .inl s.1)] [] s.2 (loopC (l_X10_keeps_2) fuelL s) := by
  refine c_loop (L := fun s : Int32 × Mem => [(0, .inr 0), (1, .inl s.1)]) (Mf := fun s : Int32 × Mem => s.2) (fun K2 hK2 s => ?_) fuelL s
  obtain ⟨x1, M⟩ := s
  show CorM KSm ST1 RX10 cX10_keeps 2 none d 2 [(0, .inr 0), (1, .inl x1)] [] M (l_X10_keeps_2 K2 (x1, M))
  unfold l_X10_keeps_2
  refine c_iload_n (i := 1) dX10_keeps_2 rfl rfl ?_
  refine c_sipush dX10_keeps_3 (v := 1671) rfl ?_
  refine c_icmp_ge (tgt := 27) dX10_keeps_6 rfl (fun h1 => ?_) (fun h1 => ?_)
  · exact c_vret rfl dX10_keeps_27
  · refine c_aload_n (i := 0) dX10_keeps_9 rfl rfl ?_
    refine gf_RX10_16 (blk_get0 KSm_b0) dX10_keeps_10 ?_
    refine c_iload_n (i := 1) dX10_keeps_13 rfl rfl ?_
    refine c_aload_n (i := 0) dX10_keeps_14 rfl rfl ?_
    refine gf_RX10_9 (blk_get0 KSm_b0) dX10_keeps_15 ?_
    refine c_iload_n (i := 1) dX10_keeps_18 rfl rfl ?_
    refine c_chk (fun h2 => ?_)
    refine c_iald (blk_get0 (blk_sub (C := [(20, 1671)]) (i := 1) KSm_b0 rfl)) h2 dX10_keeps_19 ?_
    refine c_chk (fun h3 => ?_)
    refine c_iast (blk_get0 (blk_sub (C := [(20, 1671)]) (i := 3) KSm_b0 rfl)) h3 dX10_keeps_20 ?_
    refine c_wrt (fun M4 => ?_)
    refine c_iinc dX10_keeps_21 rfl (v := 1) rfl (by decide) (ls2 := [(0, .inr 0), (1, .inl (x1 + 1))]) rfl ?_
    refine c_goto (tgt := 2) dX10_keeps_24 rfl ?_
    refine c_keep [0, 1] (ls2 := [(0, .inr 0), (1, .inl (x1 + 1))]) rfl ?_
    exact hK2 (x1 + 1, M4)
def f_X10_keeps (M : Mem) : Option (Int32 × Mem) := loopC (l_X10_keeps_2) fuelL (0, M)
set_option maxRecDepth 20000 in
set_option maxHeartbeats 2000000 in
theorem ev_X10_keeps (d : Nat) (hlev : 0 ≤ d) (M : Mem) : Ev KSm ST1 mdX10_keeps d [.inr 0] M (f_X10_keeps M) := by
  refine ev_of rfl (Nat.le_of_ble_eq_true rfl) ?_
  show CorM KSm ST1 RX10 cX10_keeps 2 none d 0 [(0, .inr 0)] [] M (f_X10_keeps M)
  unfold f_X10_keeps
  refine c_iconst dX10_keeps_0 (v := 0) rfl ?_
  refine c_istore_n (i := 1) dX10_keeps_1 rfl (by decide) (ls2 := [(0, .inr 0), (1, .inl 0)]) rfl ?_
  refine c_keep [0, 1] (ls2 := [(0, .inr 0), (1, .inl 0)]) rfl ?_
  exact lo_X10_keeps_2 d hlev (0, M)

abbrev mdX10_comesBack : MD := (yX10_comesBack, cX10_comesBack, 2, none)
theorem mw_X10_comesBack : mdW mdX10_comesBack := ⟨wm_X10_comesBack, w0_RX10, by decide, by decide⟩
theorem mn_X10_comesBack : (parseMethodDescriptor yX10_comesBack.desc).map (fun d => d.parameters.length) = some 0 := by decide +kernel
def l_X10_comesBack_2 (K2 : Int32 × Mem → Option (Int32 × Mem)) : Int32 × Mem → Option (Int32 × Mem) := fun s => match s with
  | (x1, M) => if 1671 ≤ x1 then some (0, M) else if inb x1 1671 then if inb x1 1671 then wrt (up M 1 (ix x1) (M 3 (ix x1))) (fun M4 => K2 (x1 + 1, M4)) else none else none
set_option maxRecDepth 20000 in
set_option maxHeartbeats 2000000 in
theorem lo_X10_comesBack_2 (d : Nat) (hlev : 0 ≤ d) (s : Int32 × Mem) : CorM KSm ST1 RX10 cX10_comesBack 2 none d 2 [(0, .inr 0), (1, .inl s.1)] [] s.2 (loopC (l_X10_comesBack_2) fuelL s) := by
  refine c_loop (L := fun s : Int32 × Mem => [(0, .inr 0), (1, .inl s.1)]) (Mf := fun s : Int32 × Mem => s.2) (fun K2 hK2 s => ?_) fuelL s
  obtain ⟨x1, M⟩ := s
  show CorM KSm ST1 RX10 cX10_comesBack 2 none d 2 [(0, .inr 0), (1, .inl x1)] [] M (l_X10_comesBack_2 K2 (x1, M))
  unfold l_X10_comesBack_2
  refine c_iload_n (i := 1) dX10_comesBack_2 rfl rfl ?_
  refine c_sipush dX10_comesBack_3 (v := 1671) rfl ?_
  refine c_icmp_ge (tgt := 27) dX10_comesBack_6 rfl (fun h1 => ?_) (fun h1 => ?_)
  · exact c_vret rfl dX10_comesBack_27
  · refine c_aload_n (i := 0) dX10_comesBack_9 rfl rfl ?_
    refine gf_RX10_9 (blk_get0 KSm_b0) dX10_comesBack_10 ?_
    refine c_iload_n (i := 1) dX10_comesBack_13 rfl rfl ?_
    refine c_aload_n (i := 0) dX10_comesBack_14 rfl rfl ?_
    refine gf_RX10_16 (blk_get0 KSm_b0) dX10_comesBack_15 ?_
    refine c_iload_n (i := 1) dX10_comesBack_18 rfl rfl ?_
    refine c_chk (fun h2 => ?_)
    refine c_iald (blk_get0 (blk_sub (C := [(20, 1671)]) (i := 3) KSm_b0 rfl)) h2 dX10_comesBack_19 ?_
    refine c_chk (fun h3 => ?_)
    refine c_iast (blk_get0 (blk_sub (C := [(20, 1671)]) (i := 1) KSm_b0 rfl)) h3 dX10_comesBack_20 ?_
    refine c_wrt (fun M4 => ?_)
    refine c_iinc dX10_comesBack_21 rfl (v := 1) rfl (by decide) (ls2 := [(0, .inr 0), (1, .inl (x1 + 1))]) rfl ?_
    refine c_goto (tgt := 2) dX10_comesBack_24 rfl ?_
    refine c_keep [0, 1] (ls2 := [(0, .inr 0), (1, .inl (x1 + 1))]) rfl ?_
    exact hK2 (x1 + 1, M4)
def f_X10_comesBack (M : Mem) : Option (Int32 × Mem) := loopC (l_X10_comesBack_2) fuelL (0, M)
set_option maxRecDepth 20000 in
set_option maxHeartbeats 2000000 in
theorem ev_X10_comesBack (d : Nat) (hlev : 0 ≤ d) (M : Mem) : Ev KSm ST1 mdX10_comesBack d [.inr 0] M (f_X10_comesBack M) := by
  refine ev_of rfl (Nat.le_of_ble_eq_true rfl) ?_
  show CorM KSm ST1 RX10 cX10_comesBack 2 none d 0 [(0, .inr 0)] [] M (f_X10_comesBack M)
  unfold f_X10_comesBack
  refine c_iconst dX10_comesBack_0 (v := 0) rfl ?_
  refine c_istore_n (i := 1) dX10_comesBack_1 rfl (by decide) (ls2 := [(0, .inr 0), (1, .inl 0)]) rfl ?_
  refine c_keep [0, 1] (ls2 := [(0, .inr 0), (1, .inl 0)]) rfl ?_
  exact lo_X10_comesBack_2 d hlev (0, M)

abbrev mdX10_allTicks : MD := (yX10_allTicks, cX10_allTicks, 2, (some .int))
theorem mw_X10_allTicks : mdW mdX10_allTicks := ⟨wm_X10_allTicks, w0_RX10, by decide, by decide⟩
theorem mn_X10_allTicks : (parseMethodDescriptor yX10_allTicks.desc).map (fun d => d.parameters.length) = some 0 := by decide +kernel
def l_X10_allTicks_2 (K2 : Int32 × Mem → Option (Int32 × Mem)) : Int32 × Mem → Option (Int32 × Mem) := fun s => match s with
  | (x1, M) => if (M 1 1440) ≤ x1 then bnd (f_X10_ends M) (fun v2 M3 => some (v2, M3)) else if inb (1441 + x1) 1671 then bnd (f_X10_ticks (M 1 (ix (1441 + x1))) M) (fun _ M6 => K2 (x1 + 1, M6)) else none
set_option maxRecDepth 20000 in
set_option maxHeartbeats 2000000 in
theorem lo_X10_allTicks_2 (d : Nat) (hlev : 4 ≤ d) (s : Int32 × Mem) : CorM KSm ST1 RX10 cX10_allTicks 2 (some .int) d 2 [(0, .inr 0), (1, .inl s.1)] [] s.2 (loopC (l_X10_allTicks_2) fuelL s) := by
  refine c_loop (L := fun s : Int32 × Mem => [(0, .inr 0), (1, .inl s.1)]) (Mf := fun s : Int32 × Mem => s.2) (fun K2 hK2 s => ?_) fuelL s
  obtain ⟨x1, M⟩ := s
  show CorM KSm ST1 RX10 cX10_allTicks 2 (some .int) d 2 [(0, .inr 0), (1, .inl x1)] [] M (l_X10_allTicks_2 K2 (x1, M))
  unfold l_X10_allTicks_2
  refine c_iload_n (i := 1) dX10_allTicks_2 rfl rfl ?_
  refine c_aload_n (i := 0) dX10_allTicks_3 rfl rfl ?_
  refine gf_RX10_9 (blk_get0 KSm_b0) dX10_allTicks_4 ?_
  refine c_sipush dX10_allTicks_7 (v := 1440) rfl ?_
  refine c_iald (blk_get0 (blk_sub (C := [(20, 1671)]) (i := 1) KSm_b0 rfl)) (by decide) dX10_allTicks_10 ?_
  refine c_icmp_ge (tgt := 34) dX10_allTicks_11 rfl (fun h1 => ?_) (fun h1 => ?_)
  · refine c_aload_n (i := 0) dX10_allTicks_34 rfl rfl ?_
    refine c_callV (as := []) (rs := []) (ev_X10_ends 2 (Nat.le_refl _) M) rfl (Nat.lt_of_lt_of_le (by decide) hlev) mw_X10_ends wi_X10_ends wv_X10_ends (blk_get0 KSm_b0) (by decide) rfl wl_RX10_307 mn_X10_ends rfl (by decide) (Nat.le_of_ble_eq_true rfl) ⟨_, rfl⟩ dX10_allTicks_35 (fun v2 M3 _ => ?_)
    exact c_iret rfl dX10_allTicks_38
  · refine c_aload_n (i := 0) dX10_allTicks_14 rfl rfl ?_
    refine c_aload_n (i := 0) dX10_allTicks_15 rfl rfl ?_
    refine gf_RX10_9 (blk_get0 KSm_b0) dX10_allTicks_16 ?_
    refine c_sipush dX10_allTicks_19 (v := 1441) rfl ?_
    refine c_iload_n (i := 1) dX10_allTicks_22 rfl rfl ?_
    refine c_iadd dX10_allTicks_23 ?_
    refine c_chk (fun h4 => ?_)
    refine c_iald (blk_get0 (blk_sub (C := [(20, 1671)]) (i := 1) KSm_b0 rfl)) h4 dX10_allTicks_24 ?_
    refine c_callVv (as := [.inl (M 1 (ix (1441 + x1)))]) (rs := []) (ev_X10_ticks 3 (Nat.le_refl _) (M 1 (ix (1441 + x1))) M) rfl (Nat.lt_of_lt_of_le (by decide) hlev) mw_X10_ticks wi_X10_ticks wv_X10_ticks (blk_get0 KSm_b0) (by decide) rfl wl_RX10_344 mn_X10_ticks rfl (by decide) (Nat.le_of_ble_eq_true rfl) rfl dX10_allTicks_25 (fun v5 M6 _ => ?_)
    refine c_iinc dX10_allTicks_28 rfl (v := 1) rfl (by decide) (ls2 := [(0, .inr 0), (1, .inl (x1 + 1))]) rfl ?_
    refine c_goto (tgt := 2) dX10_allTicks_31 rfl ?_
    refine c_keep [0, 1] (ls2 := [(0, .inr 0), (1, .inl (x1 + 1))]) rfl ?_
    exact hK2 (x1 + 1, M6)
def f_X10_allTicks (M : Mem) : Option (Int32 × Mem) := loopC (l_X10_allTicks_2) fuelL (0, M)
set_option maxRecDepth 20000 in
set_option maxHeartbeats 2000000 in
theorem ev_X10_allTicks (d : Nat) (hlev : 4 ≤ d) (M : Mem) : Ev KSm ST1 mdX10_allTicks d [.inr 0] M (f_X10_allTicks M) := by
  refine ev_of rfl (Nat.le_of_ble_eq_true rfl) ?_
  show CorM KSm ST1 RX10 cX10_allTicks 2 (some .int) d 0 [(0, .inr 0)] [] M (f_X10_allTicks M)
  unfold f_X10_allTicks
  refine c_iconst dX10_allTicks_0 (v := 0) rfl ?_
  refine c_istore_n (i := 1) dX10_allTicks_1 rfl (by decide) (ls2 := [(0, .inr 0), (1, .inl 0)]) rfl ?_
  refine c_keep [0, 1] (ls2 := [(0, .inr 0), (1, .inl 0)]) rfl ?_
  exact lo_X10_allTicks_2 d hlev (0, M)

abbrev mdX10_wouldFinish : MD := (yX10_wouldFinish, cX10_wouldFinish, 3, (some .int))
theorem mw_X10_wouldFinish : mdW mdX10_wouldFinish := ⟨wm_X10_wouldFinish, w0_RX10, by decide, by decide⟩
theorem mn_X10_wouldFinish : (parseMethodDescriptor yX10_wouldFinish.desc).map (fun d => d.parameters.length) = some 1 := by decide +kernel
def j_X10_wouldFinish_52 (M : Mem) : Option (Int32 × Mem) := bnd (f_X10_ends M) (fun v11 M12 => bnd (f_X10_comesBack M12) (fun _ M14 => some (v11, M14)))
set_option maxRecDepth 20000 in
set_option maxHeartbeats 2000000 in
theorem jo_X10_wouldFinish_52 (d : Nat) (hlev : 5 ≤ d) (M : Mem) : CorM KSm ST1 RX10 cX10_wouldFinish 3 (some .int) d 52 [(0, .inr 0)] [] M (j_X10_wouldFinish_52 M) := by
  unfold j_X10_wouldFinish_52
  refine c_aload_n (i := 0) dX10_wouldFinish_52 rfl rfl ?_
  refine c_callV (as := []) (rs := []) (ev_X10_ends 2 (Nat.le_refl _) M) rfl (Nat.lt_of_lt_of_le (by decide) hlev) mw_X10_ends wi_X10_ends wv_X10_ends (blk_get0 KSm_b0) (by decide) rfl wl_RX10_307 mn_X10_ends rfl (by decide) (Nat.le_of_ble_eq_true rfl) ⟨_, rfl⟩ dX10_wouldFinish_53 (fun v11 M12 _ => ?_)
  refine c_istore_n (i := 2) dX10_wouldFinish_56 rfl (by decide) (ls2 := [(0, .inr 0), (2, .inl v11)]) rfl ?_
  refine c_aload_n (i := 0) dX10_wouldFinish_57 rfl rfl ?_
  refine c_callVv (as := []) (rs := []) (ev_X10_comesBack 0 (Nat.le_refl _) M12) rfl (Nat.lt_of_lt_of_le (by decide) hlev) mw_X10_comesBack wi_X10_comesBack wv_X10_comesBack (blk_get0 KSm_b0) (by decide) rfl wl_RX10_359 mn_X10_comesBack rfl (by decide) (Nat.le_of_ble_eq_true rfl) rfl dX10_wouldFinish_58 (fun v13 M14 _ => ?_)
  refine c_iload_n (i := 2) dX10_wouldFinish_61 rfl rfl ?_
  exact c_iret rfl dX10_wouldFinish_62
def f_X10_wouldFinish (x1 : Int32) (M : Mem) : Option (Int32 × Mem) := wrt (up M 0 0 0) (fun M1 => bnd (f_X10_may (if x1 = (-1) then (1 : Int32) else if (p_X10_isBatch x1 M1) = 0 then (0 : Int32) else (1 : Int32)) 1 M1) (fun v3 M4 => if ¬ v3 = 0 then bnd (f_X10_keeps M4) (fun _ M7 => bnd (f_X10_allTicks M7) (fun v8 M9 => if x1 = (-1) then j_X10_wouldFinish_52 M9 else bnd (f_X10_ticks x1 M9) (fun _ M16 => j_X10_wouldFinish_52 M16))) else some (0, M4)))
set_option maxRecDepth 20000 in
set_option maxHeartbeats 2000000 in
theorem ev_X10_wouldFinish (d : Nat) (hlev : 5 ≤ d) (x1 : Int32) (M : Mem) : Ev KSm ST1 mdX10_wouldFinish d [.inr 0, .inl x1] M (f_X10_wouldFinish x1 M) := by
  refine ev_of rfl (Nat.le_of_ble_eq_true rfl) ?_
  show CorM KSm ST1 RX10 cX10_wouldFinish 3 (some .int) d 0 [(0, .inr 0), (1, .inl x1)] [] M (f_X10_wouldFinish x1 M)
  unfold f_X10_wouldFinish
  refine c_aload_n (i := 0) dX10_wouldFinish_0 rfl rfl ?_
  refine c_iconst dX10_wouldFinish_1 (v := 0) rfl ?_
  refine pf_RX10_60 (blk_get0 KSm_b0) dX10_wouldFinish_2 ?_
  refine c_wrt (fun M1 => ?_)
  refine c_aload_n (i := 0) dX10_wouldFinish_5 rfl rfl ?_
  refine c_iload_n (i := 1) dX10_wouldFinish_6 rfl rfl ?_
  refine c_iconst dX10_wouldFinish_7 (v := (-1)) rfl ?_
  have J_z2 : ∀ z2 : Int32, isB z2 → CorM KSm ST1 RX10 cX10_wouldFinish 3 (some .int) d 24 [(0, .inr 0), (1, .inl x1)] [.inl z2, .inr 0] M1 (bnd (f_X10_may z2 1 M1) (fun v3 M4 => if ¬ v3 = 0 then bnd (f_X10_keeps M4) (fun _ M7 => bnd (f_X10_allTicks M7) (fun v8 M9 => if x1 = (-1) then j_X10_wouldFinish_52 M9 else bnd (f_X10_ticks x1 M9) (fun _ M16 => j_X10_wouldFinish_52 M16))) else some (0, M4))) := by
    intro z2 h_z2
    refine c_iconst dX10_wouldFinish_24 (v := 1) rfl ?_
    refine c_callV (as := [.inl z2, .inl 1]) (rs := []) (ev_X10_may 0 (Nat.le_refl _) z2 1 M1) rfl (Nat.lt_of_lt_of_le (by decide) hlev) mw_X10_may wi_X10_may wv_X10_may (blk_get0 KSm_b0) (by decide) rfl wl_RX10_66 mn_X10_may rfl (by decide) (Nat.le_of_ble_eq_true rfl) ⟨_, rfl⟩ dX10_wouldFinish_25 (fun v3 M4 _ => ?_)
    refine c_if_ne (tgt := 33) dX10_wouldFinish_28 rfl (fun h5 => ?_) (fun h5 => ?_)
    · refine c_aload_n (i := 0) dX10_wouldFinish_33 rfl rfl ?_
      refine c_callVv (as := []) (rs := []) (ev_X10_keeps 0 (Nat.le_refl _) M4) rfl (Nat.lt_of_lt_of_le (by decide) hlev) mw_X10_keeps wi_X10_keeps wv_X10_keeps (blk_get0 KSm_b0) (by decide) rfl wl_RX10_353 mn_X10_keeps rfl (by decide) (Nat.le_of_ble_eq_true rfl) rfl dX10_wouldFinish_34 (fun v6 M7 _ => ?_)
      refine c_aload_n (i := 0) dX10_wouldFinish_37 rfl rfl ?_
      refine c_callV (as := []) (rs := []) (ev_X10_allTicks 4 (Nat.le_refl _) M7) rfl (Nat.lt_of_lt_of_le (by decide) hlev) mw_X10_allTicks wi_X10_allTicks wv_X10_allTicks (blk_get0 KSm_b0) (by decide) rfl wl_RX10_356 mn_X10_allTicks rfl (by decide) (Nat.le_of_ble_eq_true rfl) ⟨_, rfl⟩ dX10_wouldFinish_38 (fun v8 M9 _ => ?_)
      refine c_istore_n (i := 2) dX10_wouldFinish_41 rfl (by decide) (ls2 := [(0, .inr 0), (1, .inl x1), (2, .inl v8)]) rfl ?_
      refine c_iload_n (i := 1) dX10_wouldFinish_42 rfl rfl ?_
      refine c_iconst dX10_wouldFinish_43 (v := (-1)) rfl ?_
      refine c_icmp_eq (tgt := 52) dX10_wouldFinish_44 rfl (fun h10 => ?_) (fun h10 => ?_)
      · refine c_keep [0] (ls2 := [(0, .inr 0)]) rfl ?_
        exact jo_X10_wouldFinish_52 d hlev M9
      · refine c_aload_n (i := 0) dX10_wouldFinish_47 rfl rfl ?_
        refine c_iload_n (i := 1) dX10_wouldFinish_48 rfl rfl ?_
        refine c_callVv (as := [.inl x1]) (rs := []) (ev_X10_ticks 3 (Nat.le_refl _) x1 M9) rfl (Nat.lt_of_lt_of_le (by decide) hlev) mw_X10_ticks wi_X10_ticks wv_X10_ticks (blk_get0 KSm_b0) (by decide) rfl wl_RX10_344 mn_X10_ticks rfl (by decide) (Nat.le_of_ble_eq_true rfl) rfl dX10_wouldFinish_49 (fun v15 M16 _ => ?_)
        refine c_keep [0] (ls2 := [(0, .inr 0)]) rfl ?_
        exact jo_X10_wouldFinish_52 d hlev M16
    · refine c_iconst dX10_wouldFinish_31 (v := 0) rfl ?_
      exact c_iret rfl dX10_wouldFinish_32
  refine c_val (b := x1 = (-1)) (v1 := (1 : Int32)) (v2 := if (p_X10_isBatch x1 M1) = 0 then (0 : Int32) else (1 : Int32)) (F := fun z2 => bnd (f_X10_may z2 1 M1) (fun v3 M4 => if ¬ v3 = 0 then bnd (f_X10_keeps M4) (fun _ M7 => bnd (f_X10_allTicks M7) (fun v8 M9 => if x1 = (-1) then j_X10_wouldFinish_52 M9 else bnd (f_X10_ticks x1 M9) (fun _ M16 => j_X10_wouldFinish_52 M16))) else some (0, M4))) (fun h17 => ?_) (fun h17 => ?_)
  · refine c_T h17 (c_icmp_eq (tgt := 19) dX10_wouldFinish_8 rfl (fun _ => ?_) (fun q => absurd h17 q))
    refine c_iconst dX10_wouldFinish_19 (v := 1) rfl ?_
    refine c_goto (tgt := 24) dX10_wouldFinish_20 rfl ?_
    refine c_keep [0, 1] (ls2 := [(0, .inr 0), (1, .inl x1)]) rfl ?_
    exact J_z2 1 (Or.inr rfl)
  · refine c_Fl h17 (c_icmp_eq (tgt := 19) dX10_wouldFinish_8 rfl (fun q => absurd q h17) (fun _ => ?_))
    refine c_aload_n (i := 0) dX10_wouldFinish_11 rfl rfl ?_
    refine c_iload_n (i := 1) dX10_wouldFinish_12 rfl rfl ?_
    refine c_callVp (as := [.inl x1]) (rs := [.inr 0]) (ev_X10_isBatch 1 (Nat.le_refl _) x1 M1) rfl (Nat.lt_of_lt_of_le (by decide) hlev) mw_X10_isBatch wi_X10_isBatch wv_X10_isBatch (blk_get0 KSm_b0) (by decide) rfl wl_RX10_235 mn_X10_isBatch rfl (by decide) (Nat.le_of_ble_eq_true rfl) ⟨_, rfl⟩ dX10_wouldFinish_13 ?_
    refine c_val (b := (p_X10_isBatch x1 M1) = 0) (v1 := (0 : Int32)) (v2 := (1 : Int32)) (F := fun z2 => bnd (f_X10_may z2 1 M1) (fun v3 M4 => if ¬ v3 = 0 then bnd (f_X10_keeps M4) (fun _ M7 => bnd (f_X10_allTicks M7) (fun v8 M9 => if x1 = (-1) then j_X10_wouldFinish_52 M9 else bnd (f_X10_ticks x1 M9) (fun _ M16 => j_X10_wouldFinish_52 M16))) else some (0, M4))) (fun h18 => ?_) (fun h18 => ?_)
    · refine c_T h18 (c_if_eq (tgt := 23) dX10_wouldFinish_16 rfl (fun _ => ?_) (fun q => absurd h18 q))
      refine c_iconst dX10_wouldFinish_23 (v := 0) rfl ?_
      refine c_keep [0, 1] (ls2 := [(0, .inr 0), (1, .inl x1)]) rfl ?_
      exact J_z2 0 (Or.inl rfl)
    · refine c_Fl h18 (c_if_eq (tgt := 23) dX10_wouldFinish_16 rfl (fun q => absurd q h18) (fun _ => ?_))
      refine c_iconst dX10_wouldFinish_19 (v := 1) rfl ?_
      refine c_goto (tgt := 24) dX10_wouldFinish_20 rfl ?_
      refine c_keep [0, 1] (ls2 := [(0, .inr 0), (1, .inl x1)]) rfl ?_
      exact J_z2 1 (Or.inr rfl)

abbrev mdX10_wouldBe : MD := (yX10_wouldBe, cX10_wouldBe, 6, (some .int))
theorem mw_X10_wouldBe : mdW mdX10_wouldBe := ⟨wm_X10_wouldBe, w0_RX10, by decide, by decide⟩
theorem mn_X10_wouldBe : (parseMethodDescriptor yX10_wouldBe.desc).map (fun d => d.parameters.length) = some 3 := by decide +kernel
def f_X10_wouldBe (x1 : Int32) (x2 : Int32) (x3 : Int32) (M : Mem) : Option (Int32 × Mem) := wrt (up M 0 0 0) (fun M1 => bnd (f_X10_may (if (p_X10_isBank x1 M1) = 0 then (0 : Int32) else if (p_X10_isIn x2 0 3) = 0 then (0 : Int32) else if (p_X10_isColumn x3 M1) = 0 then (0 : Int32) else (1 : Int32)) 1 M1) (fun v3 M4 => if ¬ v3 = 0 then bnd (f_X10_keeps M4) (fun _ M7 => bnd (f_X10_runs 16 M7) (fun v8 M9 => if inb (p_X10_lane x1 x2 x3) 1671 then bnd (f_X10_comesBack M9) (fun _ M12 => some (M9 1 (ix (p_X10_lane x1 x2 x3)), M12)) else none)) else some (0, M4)))
set_option maxRecDepth 20000 in
set_option maxHeartbeats 2000000 in
theorem ev_X10_wouldBe (d : Nat) (hlev : 6 ≤ d) (x1 : Int32) (x2 : Int32) (x3 : Int32) (M : Mem) : Ev KSm ST1 mdX10_wouldBe d [.inr 0, .inl x1, .inl x2, .inl x3] M (f_X10_wouldBe x1 x2 x3 M) := by
  refine ev_of rfl (Nat.le_of_ble_eq_true rfl) ?_
  show CorM KSm ST1 RX10 cX10_wouldBe 6 (some .int) d 0 [(0, .inr 0), (1, .inl x1), (2, .inl x2), (3, .inl x3)] [] M (f_X10_wouldBe x1 x2 x3 M)
  unfold f_X10_wouldBe
  refine c_aload_n (i := 0) dX10_wouldBe_0 rfl rfl ?_
  refine c_iconst dX10_wouldBe_1 (v := 0) rfl ?_
  refine pf_RX10_60 (blk_get0 KSm_b0) dX10_wouldBe_2 ?_
  refine c_wrt (fun M1 => ?_)
  refine c_aload_n (i := 0) dX10_wouldBe_5 rfl rfl ?_
  refine c_aload_n (i := 0) dX10_wouldBe_6 rfl rfl ?_
  refine c_iload_n (i := 1) dX10_wouldBe_7 rfl rfl ?_
  refine c_callVp (as := [.inl x1]) (rs := [.inr 0]) (ev_X10_isBank 1 (Nat.le_refl _) x1 M1) rfl (Nat.lt_of_lt_of_le (by decide) hlev) mw_X10_isBank wi_X10_isBank wv_X10_isBank (blk_get0 KSm_b0) (by decide) rfl wl_RX10_227 mn_X10_isBank rfl (by decide) (Nat.le_of_ble_eq_true rfl) ⟨_, rfl⟩ dX10_wouldBe_8 ?_
  have J_z2 : ∀ z2 : Int32, isB z2 → CorM KSm ST1 RX10 cX10_wouldBe 6 (some .int) d 36 [(0, .inr 0), (1, .inl x1), (2, .inl x2), (3, .inl x3)] [.inl z2, .inr 0] M1 (bnd (f_X10_may z2 1 M1) (fun v3 M4 => if ¬ v3 = 0 then bnd (f_X10_keeps M4) (fun _ M7 => bnd (f_X10_runs 16 M7) (fun v8 M9 => if inb (p_X10_lane x1 x2 x3) 1671 then bnd (f_X10_comesBack M9) (fun _ M12 => some (M9 1 (ix (p_X10_lane x1 x2 x3)), M12)) else none)) else some (0, M4))) := by
    intro z2 h_z2
    refine c_iconst dX10_wouldBe_36 (v := 1) rfl ?_
    refine c_callV (as := [.inl z2, .inl 1]) (rs := []) (ev_X10_may 0 (Nat.le_refl _) z2 1 M1) rfl (Nat.lt_of_lt_of_le (by decide) hlev) mw_X10_may wi_X10_may wv_X10_may (blk_get0 KSm_b0) (by decide) rfl wl_RX10_66 mn_X10_may rfl (by decide) (Nat.le_of_ble_eq_true rfl) ⟨_, rfl⟩ dX10_wouldBe_37 (fun v3 M4 _ => ?_)
    refine c_if_ne (tgt := 45) dX10_wouldBe_40 rfl (fun h5 => ?_) (fun h5 => ?_)
    · refine c_aload_n (i := 0) dX10_wouldBe_45 rfl rfl ?_
      refine c_callVv (as := []) (rs := []) (ev_X10_keeps 0 (Nat.le_refl _) M4) rfl (Nat.lt_of_lt_of_le (by decide) hlev) mw_X10_keeps wi_X10_keeps wv_X10_keeps (blk_get0 KSm_b0) (by decide) rfl wl_RX10_353 mn_X10_keeps rfl (by decide) (Nat.le_of_ble_eq_true rfl) rfl dX10_wouldBe_46 (fun v6 M7 _ => ?_)
      refine c_aload_n (i := 0) dX10_wouldBe_49 rfl rfl ?_
      refine c_bipush dX10_wouldBe_50 (v := 16) rfl ?_
      refine c_callV (as := [.inl 16]) (rs := []) (ev_X10_runs 5 (Nat.le_refl _) 16 M7) rfl (Nat.lt_of_lt_of_le (by decide) hlev) mw_X10_runs wi_X10_runs wv_X10_runs (blk_get0 KSm_b0) (by decide) rfl wl_RX10_350 mn_X10_runs rfl (by decide) (Nat.le_of_ble_eq_true rfl) ⟨_, rfl⟩ dX10_wouldBe_52 (fun v8 M9 _ => ?_)
      refine c_istore dX10_wouldBe_55 (by decide) (ls2 := [(0, .inr 0), (1, .inl x1), (2, .inl x2), (3, .inl x3), (4, .inl v8)]) rfl ?_
      refine c_aload_n (i := 0) dX10_wouldBe_57 rfl rfl ?_
      refine gf_RX10_9 (blk_get0 KSm_b0) dX10_wouldBe_58 ?_
      refine c_iload_n (i := 1) dX10_wouldBe_61 rfl rfl ?_
      refine c_iload_n (i := 2) dX10_wouldBe_62 rfl rfl ?_
      refine c_iload_n (i := 3) dX10_wouldBe_63 rfl rfl ?_
      refine c_callSp (as := [.inl x1, .inl x2, .inl x3]) (rs := [.inr 1]) (ev_X10_lane 0 (Nat.le_refl _) x1 x2 x3 M9) rfl (Nat.lt_of_lt_of_le (by decide) hlev) mw_X10_lane ws_X10_lane wl_RX10_251 mn_X10_lane rfl (by decide) (Nat.le_of_ble_eq_true rfl) ⟨_, rfl⟩ dX10_wouldBe_64 ?_
      refine c_chk (fun h10 => ?_)
      refine c_iald (blk_get0 (blk_sub (C := [(20, 1671)]) (i := 1) KSm_b0 rfl)) h10 dX10_wouldBe_67 ?_
      refine c_istore dX10_wouldBe_68 (by decide) (ls2 := [(0, .inr 0), (1, .inl x1), (2, .inl x2), (3, .inl x3), (4, .inl v8), (5, .inl (M9 1 (ix (p_X10_lane x1 x2 x3))))]) rfl ?_
      refine c_aload_n (i := 0) dX10_wouldBe_70 rfl rfl ?_
      refine c_callVv (as := []) (rs := []) (ev_X10_comesBack 0 (Nat.le_refl _) M9) rfl (Nat.lt_of_lt_of_le (by decide) hlev) mw_X10_comesBack wi_X10_comesBack wv_X10_comesBack (blk_get0 KSm_b0) (by decide) rfl wl_RX10_359 mn_X10_comesBack rfl (by decide) (Nat.le_of_ble_eq_true rfl) rfl dX10_wouldBe_71 (fun v11 M12 _ => ?_)
      refine c_iload dX10_wouldBe_74 rfl ?_
      exact c_iret rfl dX10_wouldBe_76
    · refine c_iconst dX10_wouldBe_43 (v := 0) rfl ?_
      exact c_iret rfl dX10_wouldBe_44
  refine c_val (b := (p_X10_isBank x1 M1) = 0) (v1 := (0 : Int32)) (v2 := if (p_X10_isIn x2 0 3) = 0 then (0 : Int32) else if (p_X10_isColumn x3 M1) = 0 then (0 : Int32) else (1 : Int32)) (F := fun z2 => bnd (f_X10_may z2 1 M1) (fun v3 M4 => if ¬ v3 = 0 then bnd (f_X10_keeps M4) (fun _ M7 => bnd (f_X10_runs 16 M7) (fun v8 M9 => if inb (p_X10_lane x1 x2 x3) 1671 then bnd (f_X10_comesBack M9) (fun _ M12 => some (M9 1 (ix (p_X10_lane x1 x2 x3)), M12)) else none)) else some (0, M4))) (fun h13 => ?_) (fun h13 => ?_)
  · refine c_T h13 (c_if_eq (tgt := 35) dX10_wouldBe_11 rfl (fun _ => ?_) (fun q => absurd h13 q))
    refine c_iconst dX10_wouldBe_35 (v := 0) rfl ?_
    refine c_keep [0, 1, 2, 3] (ls2 := [(0, .inr 0), (1, .inl x1), (2, .inl x2), (3, .inl x3)]) rfl ?_
    exact J_z2 0 (Or.inl rfl)
  · refine c_Fl h13 (c_if_eq (tgt := 35) dX10_wouldBe_11 rfl (fun q => absurd q h13) (fun _ => ?_))
    refine c_iload_n (i := 2) dX10_wouldBe_14 rfl rfl ?_
    refine c_iconst dX10_wouldBe_15 (v := 0) rfl ?_
    refine c_iconst dX10_wouldBe_16 (v := 3) rfl ?_
    refine c_callSp (as := [.inl x2, .inl 0, .inl 3]) (rs := [.inr 0]) (ev_X10_isIn 0 (Nat.le_refl _) x2 0 3 M1) rfl (Nat.lt_of_lt_of_le (by decide) hlev) mw_X10_isIn ws_X10_isIn wl_RX10_70 mn_X10_isIn rfl (by decide) (Nat.le_of_ble_eq_true rfl) ⟨_, rfl⟩ dX10_wouldBe_17 ?_
    refine c_val (b := (p_X10_isIn x2 0 3) = 0) (v1 := (0 : Int32)) (v2 := if (p_X10_isColumn x3 M1) = 0 then (0 : Int32) else (1 : Int32)) (F := fun z2 => bnd (f_X10_may z2 1 M1) (fun v3 M4 => if ¬ v3 = 0 then bnd (f_X10_keeps M4) (fun _ M7 => bnd (f_X10_runs 16 M7) (fun v8 M9 => if inb (p_X10_lane x1 x2 x3) 1671 then bnd (f_X10_comesBack M9) (fun _ M12 => some (M9 1 (ix (p_X10_lane x1 x2 x3)), M12)) else none)) else some (0, M4))) (fun h14 => ?_) (fun h14 => ?_)
    · refine c_T h14 (c_if_eq (tgt := 35) dX10_wouldBe_20 rfl (fun _ => ?_) (fun q => absurd h14 q))
      refine c_iconst dX10_wouldBe_35 (v := 0) rfl ?_
      refine c_keep [0, 1, 2, 3] (ls2 := [(0, .inr 0), (1, .inl x1), (2, .inl x2), (3, .inl x3)]) rfl ?_
      exact J_z2 0 (Or.inl rfl)
    · refine c_Fl h14 (c_if_eq (tgt := 35) dX10_wouldBe_20 rfl (fun q => absurd q h14) (fun _ => ?_))
      refine c_aload_n (i := 0) dX10_wouldBe_23 rfl rfl ?_
      refine c_iload_n (i := 3) dX10_wouldBe_24 rfl rfl ?_
      refine c_callVp (as := [.inl x3]) (rs := [.inr 0]) (ev_X10_isColumn 1 (Nat.le_refl _) x3 M1) rfl (Nat.lt_of_lt_of_le (by decide) hlev) mw_X10_isColumn wi_X10_isColumn wv_X10_isColumn (blk_get0 KSm_b0) (by decide) rfl wl_RX10_244 mn_X10_isColumn rfl (by decide) (Nat.le_of_ble_eq_true rfl) ⟨_, rfl⟩ dX10_wouldBe_25 ?_
      refine c_val (b := (p_X10_isColumn x3 M1) = 0) (v1 := (0 : Int32)) (v2 := (1 : Int32)) (F := fun z2 => bnd (f_X10_may z2 1 M1) (fun v3 M4 => if ¬ v3 = 0 then bnd (f_X10_keeps M4) (fun _ M7 => bnd (f_X10_runs 16 M7) (fun v8 M9 => if inb (p_X10_lane x1 x2 x3) 1671 then bnd (f_X10_comesBack M9) (fun _ M12 => some (M9 1 (ix (p_X10_lane x1 x2 x3)), M12)) else none)) else some (0, M4))) (fun h15 => ?_) (fun h15 => ?_)
      · refine c_T h15 (c_if_eq (tgt := 35) dX10_wouldBe_28 rfl (fun _ => ?_) (fun q => absurd h15 q))
        refine c_iconst dX10_wouldBe_35 (v := 0) rfl ?_
        refine c_keep [0, 1, 2, 3] (ls2 := [(0, .inr 0), (1, .inl x1), (2, .inl x2), (3, .inl x3)]) rfl ?_
        exact J_z2 0 (Or.inl rfl)
      · refine c_Fl h15 (c_if_eq (tgt := 35) dX10_wouldBe_28 rfl (fun q => absurd q h15) (fun _ => ?_))
        refine c_iconst dX10_wouldBe_31 (v := 1) rfl ?_
        refine c_goto (tgt := 36) dX10_wouldBe_32 rfl ?_
        refine c_keep [0, 1, 2, 3] (ls2 := [(0, .inr 0), (1, .inl x1), (2, .inl x2), (3, .inl x3)]) rfl ?_
        exact J_z2 1 (Or.inr rfl)

abbrev mdX10_touches : MD := (yX10_touches, cX10_touches, 7, none)
theorem mw_X10_touches : mdW mdX10_touches := ⟨wm_X10_touches, w0_RX10, by decide, by decide⟩
theorem mn_X10_touches : (parseMethodDescriptor yX10_touches.desc).map (fun d => d.parameters.length) = some 2 := by decide +kernel
def j_X10_touches_325 (x1 : Int32) (x3 : Int32) (x4 : Int32) (K35 : Int32 × Mem → Option (Int32 × Mem)) (M : Mem) : Option (Int32 × Mem) := K35 (x4 + 1, M)
set_option maxRecDepth 20000 in
set_option maxHeartbeats 2000000 in
theorem jo_X10_touches_325 (d : Nat) (hlev : 2 ≤ d) (x1 : Int32) (x3 : Int32) (x4 : Int32) (K35 : Int32 × Mem → Option (Int32 × Mem)) (hK35 : ∀ s : Int32 × Mem, CorM KSm ST1 RX10 cX10_touches 7 none d 35 [(0, .inr 0), (1, .inl x1), (3, .inl x3), (4, .inl s.1)] [] s.2 (K35 s)) (M : Mem) : CorM KSm ST1 RX10 cX10_touches 7 none d 325 [(0, .inr 0), (1, .inl x1), (3, .inl x3), (4, .inl x4)] [] M (j_X10_touches_325 x1 x3 x4 K35 M) := by
  unfold j_X10_touches_325
  refine c_iinc dX10_touches_325 rfl (v := 1) rfl (by decide) (ls2 := [(0, .inr 0), (1, .inl x1), (3, .inl x3), (4, .inl (x4 + 1))]) rfl ?_
  refine c_goto (tgt := 35) dX10_touches_328 rfl ?_
  refine c_keep [0, 1, 3, 4] (ls2 := [(0, .inr 0), (1, .inl x1), (3, .inl x3), (4, .inl (x4 + 1))]) rfl ?_
  exact hK35 (x4 + 1, M)
def l_X10_touches_35 (x1 : Int32) (x3 : Int32) (K35 : Int32 × Mem → Option (Int32 × Mem)) : Int32 × Mem → Option (Int32 × Mem) := fun s => match s with
  | (x4, M) => bnd (f_X10_endOf x1 M) (fun v10 M11 => if v10 ≤ x4 then some (0, M11) else bnd (f_X10_told x4 1 M11) (fun v13 M14 => bnd (f_X10_told x4 2 M14) (fun v15 M16 => bnd (f_X10_kindOf x4 M16) (fun v17 M18 => if v17 = 0 then wrt (up M18 0 17 ((M18 0 17) ||| (16 <<< ((jrem v15 16) &&& 31)))) (fun M20 => wrt (up M20 0 18 ((M20 0 18) ||| (1 <<< (v13 &&& 31)))) (fun M21 => j_X10_touches_325 x1 x3 x4 K35 M21)) else if v17 = 1 then wrt (up M18 0 17 ((M18 0 17) ||| (1 <<< (v13 &&& 31)))) (fun M23 => wrt (up M23 0 18 ((M23 0 18) ||| (16 <<< ((jrem v15 16) &&& 31)))) (fun M24 => j_X10_touches_325 x1 x3 x4 K35 M24)) else if v17 = 2 then wrt (up M18 0 18 ((M18 0 18) ||| (1 <<< (v13 &&& 31)))) (fun M26 => j_X10_touches_325 x1 x3 x4 K35 M26) else if v17 = 3 then bnd (f_X10_told x4 2 M18) (fun v28 M29 => bnd (f_X10_told x4 3 M29) (fun v30 M31 => wrt (up M31 0 17 ((M18 0 17) ||| ((1 <<< (v28 &&& 31)) ||| (1 <<< (v30 &&& 31))))) (fun M32 => wrt (up M32 0 18 ((M32 0 18) ||| (1 <<< (v13 &&& 31)))) (fun M33 => j_X10_touches_325 x1 x3 x4 K35 M33)))) else if v17 = 4 then wrt (up M18 0 17 ((M18 0 17) ||| (1 <<< (v13 &&& 31)))) (fun M35 => wrt (up M35 0 18 ((M35 0 18) ||| (if x3 = 0 then (0 : Int32) else 1 <<< (v13 &&& 31)))) (fun M37 => j_X10_touches_325 x1 x3 x4 K35 M37)) else if v17 = 5 then wrt (up M18 0 17 ((M18 0 17) ||| (1 <<< (v13 &&& 31)))) (fun M40 => wrt (up M40 0 18 ((M40 0 18) ||| (1 <<< (v13 &&& 31)))) (fun M41 => j_X10_touches_325 x1 x3 x4 K35 M41)) else if v17 = 6 then wrt (up M18 0 17 ((M18 0 17) ||| (if x3 = 0 then (0 : Int32) else 1 <<< (v13 &&& 31)))) (fun M44 => wrt (up M44 0 18 ((M44 0 18) ||| (if x3 = 0 then 1 <<< (v13 &&& 31) else (0 : Int32)))) (fun M46 => j_X10_touches_325 x1 x3 x4 K35 M46)) else j_X10_touches_325 x1 x3 x4 K35 M18))))
set_option maxRecDepth 20000 in
set_option maxHeartbeats 2000000 in
theorem lo_X10_touches_35 (d : Nat) (hlev : 2 ≤ d) (x1 : Int32) (x3 : Int32) (s : Int32 × Mem) : CorM KSm ST1 RX10 cX10_touches 7 none d 35 [(0, .inr 0), (1, .inl x1), (3, .inl x3), (4, .inl s.1)] [] s.2 (loopC (l_X10_touches_35 x1 x3) fuelL s) := by
  refine c_loop (L := fun s : Int32 × Mem => [(0, .inr 0), (1, .inl x1), (3, .inl x3), (4, .inl s.1)]) (Mf := fun s : Int32 × Mem => s.2) (fun K35 hK35 s => ?_) fuelL s
  obtain ⟨x4, M⟩ := s
  show CorM KSm ST1 RX10 cX10_touches 7 none d 35 [(0, .inr 0), (1, .inl x1), (3, .inl x3), (4, .inl x4)] [] M (l_X10_touches_35 x1 x3 K35 (x4, M))
  unfold l_X10_touches_35
  refine c_iload dX10_touches_35 rfl ?_
  refine c_aload_n (i := 0) dX10_touches_37 rfl rfl ?_
  refine c_iload_n (i := 1) dX10_touches_38 rfl rfl ?_
  refine c_callV (as := [.inl x1]) (rs := [.inl x4]) (ev_X10_endOf 1 (Nat.le_refl _) x1 M) rfl (Nat.lt_of_lt_of_le (by decide) hlev) mw_X10_endOf wi_X10_endOf wv_X10_endOf (blk_get0 KSm_b0) (by decide) rfl wl_RX10_266 mn_X10_endOf rfl (by decide) (Nat.le_of_ble_eq_true rfl) ⟨_, rfl⟩ dX10_touches_39 (fun v10 M11 _ => ?_)
  refine c_icmp_ge (tgt := 331) dX10_touches_42 rfl (fun h12 => ?_) (fun h12 => ?_)
  · exact c_vret rfl dX10_touches_331
  · refine c_iconst dX10_touches_45 (v := 1) rfl ?_
    refine c_aload_n (i := 0) dX10_touches_46 rfl rfl ?_
    refine c_iload dX10_touches_47 rfl ?_
    refine c_iconst dX10_touches_49 (v := 1) rfl ?_
    refine c_callV (as := [.inl x4, .inl 1]) (rs := [.inl 1]) (ev_X10_told 0 (Nat.le_refl _) x4 1 M11) rfl (Nat.lt_of_lt_of_le (by decide) hlev) mw_X10_told wi_X10_told wv_X10_told (blk_get0 KSm_b0) (by decide) rfl wl_RX10_233 mn_X10_told rfl (by decide) (Nat.le_of_ble_eq_true rfl) ⟨_, rfl⟩ dX10_touches_50 (fun v13 M14 _ => ?_)
    refine c_ishl dX10_touches_53 ?_
    refine c_istore dX10_touches_54 (by decide) (ls2 := [(0, .inr 0), (1, .inl x1), (3, .inl x3), (4, .inl x4), (5, .inl (1 <<< (v13 &&& 31)))]) rfl ?_
    refine c_bipush dX10_touches_56 (v := 16) rfl ?_
    refine c_aload_n (i := 0) dX10_touches_58 rfl rfl ?_
    refine c_iload dX10_touches_59 rfl ?_
    refine c_iconst dX10_touches_61 (v := 2) rfl ?_
    refine c_callV (as := [.inl x4, .inl 2]) (rs := [.inl 16]) (ev_X10_told 0 (Nat.le_refl _) x4 2 M14) rfl (Nat.lt_of_lt_of_le (by decide) hlev) mw_X10_told wi_X10_told wv_X10_told (blk_get0 KSm_b0) (by decide) rfl wl_RX10_233 mn_X10_told rfl (by decide) (Nat.le_of_ble_eq_true rfl) ⟨_, rfl⟩ dX10_touches_62 (fun v15 M16 _ => ?_)
    refine c_bipush dX10_touches_65 (v := 16) rfl ?_
    refine c_irem dX10_touches_67 (by decide) ?_
    refine c_ishl dX10_touches_68 ?_
    refine c_istore dX10_touches_69 (by decide) (ls2 := [(0, .inr 0), (1, .inl x1), (3, .inl x3), (4, .inl x4), (5, .inl (1 <<< (v13 &&& 31))), (6, .inl (16 <<< ((jrem v15 16) &&& 31)))]) rfl ?_
    refine c_aload_n (i := 0) dX10_touches_71 rfl rfl ?_
    refine c_iload dX10_touches_72 rfl ?_
    refine c_callV (as := [.inl x4]) (rs := []) (ev_X10_kindOf 1 (Nat.le_refl _) x4 M16) rfl (Nat.lt_of_lt_of_le (by decide) hlev) mw_X10_kindOf wi_X10_kindOf wv_X10_kindOf (blk_get0 KSm_b0) (by decide) rfl wl_RX10_254 mn_X10_kindOf rfl (by decide) (Nat.le_of_ble_eq_true rfl) ⟨_, rfl⟩ dX10_touches_74 (fun v17 M18 _ => ?_)
    refine c_ite (fun h19 => ?_) (fun h19 => ?_)
    · refine c_tableIn (tgt := 120) dX10_touches_77 (by rw [h19] <;> decide) (by rw [h19] <;> decide) (by rw [h19] <;> rfl) rfl ?_
      refine c_aload_n (i := 0) dX10_touches_120 rfl rfl ?_
      refine c_dup dX10_touches_121 ?_
      refine gf_RX10_362 (blk_get0 KSm_b0) dX10_touches_122 ?_
      refine c_iload dX10_touches_125 rfl ?_
      refine c_ior dX10_touches_127 ?_
      refine pf_RX10_362 (blk_get0 KSm_b0) dX10_touches_128 ?_
      refine c_wrt (fun M20 => ?_)
      refine c_aload_n (i := 0) dX10_touches_131 rfl rfl ?_
      refine c_dup dX10_touches_132 ?_
      refine gf_RX10_365 (blk_get0 KSm_b0) dX10_touches_133 ?_
      refine c_iload dX10_touches_136 rfl ?_
      refine c_ior dX10_touches_138 ?_
      refine pf_RX10_365 (blk_get0 KSm_b0) dX10_touches_139 ?_
      refine c_wrt (fun M21 => ?_)
      refine c_goto (tgt := 325) dX10_touches_142 rfl ?_
      refine c_keep [0, 1, 3, 4] (ls2 := [(0, .inr 0), (1, .inl x1), (3, .inl x3), (4, .inl x4)]) rfl ?_
      exact jo_X10_touches_325 d hlev x1 x3 x4 K35 hK35 M21
    · refine c_ite (fun h22 => ?_) (fun h22 => ?_)
      · refine c_tableIn (tgt := 145) dX10_touches_77 (by rw [h22] <;> decide) (by rw [h22] <;> decide) (by rw [h22] <;> rfl) rfl ?_
        refine c_aload_n (i := 0) dX10_touches_145 rfl rfl ?_
        refine c_dup dX10_touches_146 ?_
        refine gf_RX10_362 (blk_get0 KSm_b0) dX10_touches_147 ?_
        refine c_iload dX10_touches_150 rfl ?_
        refine c_ior dX10_touches_152 ?_
        refine pf_RX10_362 (blk_get0 KSm_b0) dX10_touches_153 ?_
        refine c_wrt (fun M23 => ?_)
        refine c_aload_n (i := 0) dX10_touches_156 rfl rfl ?_
        refine c_dup dX10_touches_157 ?_
        refine gf_RX10_365 (blk_get0 KSm_b0) dX10_touches_158 ?_
        refine c_iload dX10_touches_161 rfl ?_
        refine c_ior dX10_touches_163 ?_
        refine pf_RX10_365 (blk_get0 KSm_b0) dX10_touches_164 ?_
        refine c_wrt (fun M24 => ?_)
        refine c_goto (tgt := 325) dX10_touches_167 rfl ?_
        refine c_keep [0, 1, 3, 4] (ls2 := [(0, .inr 0), (1, .inl x1), (3, .inl x3), (4, .inl x4)]) rfl ?_
        exact jo_X10_touches_325 d hlev x1 x3 x4 K35 hK35 M24
      · refine c_ite (fun h25 => ?_) (fun h25 => ?_)
        · refine c_tableIn (tgt := 170) dX10_touches_77 (by rw [h25] <;> decide) (by rw [h25] <;> decide) (by rw [h25] <;> rfl) rfl ?_
          refine c_aload_n (i := 0) dX10_touches_170 rfl rfl ?_
          refine c_dup dX10_touches_171 ?_
          refine gf_RX10_365 (blk_get0 KSm_b0) dX10_touches_172 ?_
          refine c_iload dX10_touches_175 rfl ?_
          refine c_ior dX10_touches_177 ?_
          refine pf_RX10_365 (blk_get0 KSm_b0) dX10_touches_178 ?_
          refine c_wrt (fun M26 => ?_)
          refine c_goto (tgt := 325) dX10_touches_181 rfl ?_
          refine c_keep [0, 1, 3, 4] (ls2 := [(0, .inr 0), (1, .inl x1), (3, .inl x3), (4, .inl x4)]) rfl ?_
          exact jo_X10_touches_325 d hlev x1 x3 x4 K35 hK35 M26
        · refine c_ite (fun h27 => ?_) (fun h27 => ?_)
          · refine c_tableIn (tgt := 184) dX10_touches_77 (by rw [h27] <;> decide) (by rw [h27] <;> decide) (by rw [h27] <;> rfl) rfl ?_
            refine c_aload_n (i := 0) dX10_touches_184 rfl rfl ?_
            refine c_dup dX10_touches_185 ?_
            refine gf_RX10_362 (blk_get0 KSm_b0) dX10_touches_186 ?_
            refine c_iconst dX10_touches_189 (v := 1) rfl ?_
            refine c_aload_n (i := 0) dX10_touches_190 rfl rfl ?_
            refine c_iload dX10_touches_191 rfl ?_
            refine c_iconst dX10_touches_193 (v := 2) rfl ?_
            refine c_callV (as := [.inl x4, .inl 2]) (rs := [.inl 1, .inl (M18 0 17), .inr 0]) (ev_X10_told 0 (Nat.le_refl _) x4 2 M18) rfl (Nat.lt_of_lt_of_le (by decide) hlev) mw_X10_told wi_X10_told wv_X10_told (blk_get0 KSm_b0) (by decide) rfl wl_RX10_233 mn_X10_told rfl (by decide) (Nat.le_of_ble_eq_true rfl) ⟨_, rfl⟩ dX10_touches_194 (fun v28 M29 _ => ?_)
            refine c_ishl dX10_touches_197 ?_
            refine c_iconst dX10_touches_198 (v := 1) rfl ?_
            refine c_aload_n (i := 0) dX10_touches_199 rfl rfl ?_
            refine c_iload dX10_touches_200 rfl ?_
            refine c_iconst dX10_touches_202 (v := 3) rfl ?_
            refine c_callV (as := [.inl x4, .inl 3]) (rs := [.inl 1, .inl (1 <<< (v28 &&& 31)), .inl (M18 0 17), .inr 0]) (ev_X10_told 0 (Nat.le_refl _) x4 3 M29) rfl (Nat.lt_of_lt_of_le (by decide) hlev) mw_X10_told wi_X10_told wv_X10_told (blk_get0 KSm_b0) (by decide) rfl wl_RX10_233 mn_X10_told rfl (by decide) (Nat.le_of_ble_eq_true rfl) ⟨_, rfl⟩ dX10_touches_203 (fun v30 M31 _ => ?_)
            refine c_ishl dX10_touches_206 ?_
            refine c_ior dX10_touches_207 ?_
            refine c_ior dX10_touches_208 ?_
            refine pf_RX10_362 (blk_get0 KSm_b0) dX10_touches_209 ?_
            refine c_wrt (fun M32 => ?_)
            refine c_aload_n (i := 0) dX10_touches_212 rfl rfl ?_
            refine c_dup dX10_touches_213 ?_
            refine gf_RX10_365 (blk_get0 KSm_b0) dX10_touches_214 ?_
            refine c_iload dX10_touches_217 rfl ?_
            refine c_ior dX10_touches_219 ?_
            refine pf_RX10_365 (blk_get0 KSm_b0) dX10_touches_220 ?_
            refine c_wrt (fun M33 => ?_)
            refine c_goto (tgt := 325) dX10_touches_223 rfl ?_
            refine c_keep [0, 1, 3, 4] (ls2 := [(0, .inr 0), (1, .inl x1), (3, .inl x3), (4, .inl x4)]) rfl ?_
            exact jo_X10_touches_325 d hlev x1 x3 x4 K35 hK35 M33
          · refine c_ite (fun h34 => ?_) (fun h34 => ?_)
            · refine c_tableIn (tgt := 251) dX10_touches_77 (by rw [h34] <;> decide) (by rw [h34] <;> decide) (by rw [h34] <;> rfl) rfl ?_
              refine c_aload_n (i := 0) dX10_touches_251 rfl rfl ?_
              refine c_dup dX10_touches_252 ?_
              refine gf_RX10_362 (blk_get0 KSm_b0) dX10_touches_253 ?_
              refine c_iload dX10_touches_256 rfl ?_
              refine c_ior dX10_touches_258 ?_
              refine pf_RX10_362 (blk_get0 KSm_b0) dX10_touches_259 ?_
              refine c_wrt (fun M35 => ?_)
              refine c_aload_n (i := 0) dX10_touches_262 rfl rfl ?_
              refine c_dup dX10_touches_263 ?_
              refine gf_RX10_365 (blk_get0 KSm_b0) dX10_touches_264 ?_
              refine c_iload_n (i := 3) dX10_touches_267 rfl rfl ?_
              have J_z36 : ∀ z36 : Int32, CorM KSm ST1 RX10 cX10_touches 7 none d 277 [(0, .inr 0), (1, .inl x1), (3, .inl x3), (4, .inl x4)] [.inl z36, .inl (M35 0 18), .inr 0] M35 (wrt (up M35 0 18 ((M35 0 18) ||| z36)) (fun M37 => j_X10_touches_325 x1 x3 x4 K35 M37)) := by
                intro z36
                refine c_ior dX10_touches_277 ?_
                refine pf_RX10_365 (blk_get0 KSm_b0) dX10_touches_278 ?_
                refine c_wrt (fun M37 => ?_)
                refine c_goto (tgt := 325) dX10_touches_281 rfl ?_
                refine c_keep [0, 1, 3, 4] (ls2 := [(0, .inr 0), (1, .inl x1), (3, .inl x3), (4, .inl x4)]) rfl ?_
                exact jo_X10_touches_325 d hlev x1 x3 x4 K35 hK35 M37
              refine c_val (b := x3 = 0) (v1 := (0 : Int32)) (v2 := 1 <<< (v13 &&& 31)) (F := fun z36 => wrt (up M35 0 18 ((M35 0 18) ||| z36)) (fun M37 => j_X10_touches_325 x1 x3 x4 K35 M37)) (fun h38 => ?_) (fun h38 => ?_)
              · refine c_T h38 (c_if_eq (tgt := 276) dX10_touches_268 rfl (fun _ => ?_) (fun q => absurd h38 q))
                refine c_iconst dX10_touches_276 (v := 0) rfl ?_
                refine c_keep [0, 1, 3, 4] (ls2 := [(0, .inr 0), (1, .inl x1), (3, .inl x3), (4, .inl x4)]) rfl ?_
                exact J_z36 0
              · refine c_Fl h38 (c_if_eq (tgt := 276) dX10_touches_268 rfl (fun q => absurd q h38) (fun _ => ?_))
                refine c_iload dX10_touches_271 rfl ?_
                refine c_goto (tgt := 277) dX10_touches_273 rfl ?_
                refine c_keep [0, 1, 3, 4] (ls2 := [(0, .inr 0), (1, .inl x1), (3, .inl x3), (4, .inl x4)]) rfl ?_
                exact J_z36 (1 <<< (v13 &&& 31))
            · refine c_ite (fun h39 => ?_) (fun h39 => ?_)
              · refine c_tableIn (tgt := 226) dX10_touches_77 (by rw [h39] <;> decide) (by rw [h39] <;> decide) (by rw [h39] <;> rfl) rfl ?_
                refine c_aload_n (i := 0) dX10_touches_226 rfl rfl ?_
                refine c_dup dX10_touches_227 ?_
                refine gf_RX10_362 (blk_get0 KSm_b0) dX10_touches_228 ?_
                refine c_iload dX10_touches_231 rfl ?_
                refine c_ior dX10_touches_233 ?_
                refine pf_RX10_362 (blk_get0 KSm_b0) dX10_touches_234 ?_
                refine c_wrt (fun M40 => ?_)
                refine c_aload_n (i := 0) dX10_touches_237 rfl rfl ?_
                refine c_dup dX10_touches_238 ?_
                refine gf_RX10_365 (blk_get0 KSm_b0) dX10_touches_239 ?_
                refine c_iload dX10_touches_242 rfl ?_
                refine c_ior dX10_touches_244 ?_
                refine pf_RX10_365 (blk_get0 KSm_b0) dX10_touches_245 ?_
                refine c_wrt (fun M41 => ?_)
                refine c_goto (tgt := 325) dX10_touches_248 rfl ?_
                refine c_keep [0, 1, 3, 4] (ls2 := [(0, .inr 0), (1, .inl x1), (3, .inl x3), (4, .inl x4)]) rfl ?_
                exact jo_X10_touches_325 d hlev x1 x3 x4 K35 hK35 M41
              · refine c_ite (fun h42 => ?_) (fun h42 => ?_)
                · refine c_tableIn (tgt := 284) dX10_touches_77 (by rw [h42] <;> decide) (by rw [h42] <;> decide) (by rw [h42] <;> rfl) rfl ?_
                  refine c_aload_n (i := 0) dX10_touches_284 rfl rfl ?_
                  refine c_dup dX10_touches_285 ?_
                  refine gf_RX10_362 (blk_get0 KSm_b0) dX10_touches_286 ?_
                  refine c_iload_n (i := 3) dX10_touches_289 rfl rfl ?_
                  have J_z43 : ∀ z43 : Int32, CorM KSm ST1 RX10 cX10_touches 7 none d 299 [(0, .inr 0), (1, .inl x1), (3, .inl x3), (4, .inl x4), (5, .inl (1 <<< (v13 &&& 31)))] [.inl z43, .inl (M18 0 17), .inr 0] M18 (wrt (up M18 0 17 ((M18 0 17) ||| z43)) (fun M44 => wrt (up M44 0 18 ((M44 0 18) ||| (if x3 = 0 then 1 <<< (v13 &&& 31) else (0 : Int32)))) (fun M46 => j_X10_touches_325 x1 x3 x4 K35 M46))) := by
                    intro z43
                    refine c_ior dX10_touches_299 ?_
                    refine pf_RX10_362 (blk_get0 KSm_b0) dX10_touches_300 ?_
                    refine c_wrt (fun M44 => ?_)
                    refine c_aload_n (i := 0) dX10_touches_303 rfl rfl ?_
                    refine c_dup dX10_touches_304 ?_
                    refine gf_RX10_365 (blk_get0 KSm_b0) dX10_touches_305 ?_
                    refine c_iload_n (i := 3) dX10_touches_308 rfl rfl ?_
                    have J_z45 : ∀ z45 : Int32, CorM KSm ST1 RX10 cX10_touches 7 none d 318 [(0, .inr 0), (1, .inl x1), (3, .inl x3), (4, .inl x4)] [.inl z45, .inl (M44 0 18), .inr 0] M44 (wrt (up M44 0 18 ((M44 0 18) ||| z45)) (fun M46 => j_X10_touches_325 x1 x3 x4 K35 M46)) := by
                      intro z45
                      refine c_ior dX10_touches_318 ?_
                      refine pf_RX10_365 (blk_get0 KSm_b0) dX10_touches_319 ?_
                      refine c_wrt (fun M46 => ?_)
                      refine c_goto (tgt := 325) dX10_touches_322 rfl ?_
                      refine c_keep [0, 1, 3, 4] (ls2 := [(0, .inr 0), (1, .inl x1), (3, .inl x3), (4, .inl x4)]) rfl ?_
                      exact jo_X10_touches_325 d hlev x1 x3 x4 K35 hK35 M46
                    refine c_val (b := x3 = 0) (v1 := 1 <<< (v13 &&& 31)) (v2 := (0 : Int32)) (F := fun z45 => wrt (up M44 0 18 ((M44 0 18) ||| z45)) (fun M46 => j_X10_touches_325 x1 x3 x4 K35 M46)) (fun h47 => ?_) (fun h47 => ?_)
                    · refine c_T h47 (c_if_eq (tgt := 316) dX10_touches_309 rfl (fun _ => ?_) (fun q => absurd h47 q))
                      refine c_iload dX10_touches_316 rfl ?_
                      refine c_keep [0, 1, 3, 4] (ls2 := [(0, .inr 0), (1, .inl x1), (3, .inl x3), (4, .inl x4)]) rfl ?_
                      exact J_z45 (1 <<< (v13 &&& 31))
                    · refine c_Fl h47 (c_if_eq (tgt := 316) dX10_touches_309 rfl (fun q => absurd q h47) (fun _ => ?_))
                      refine c_iconst dX10_touches_312 (v := 0) rfl ?_
                      refine c_goto (tgt := 318) dX10_touches_313 rfl ?_
                      refine c_keep [0, 1, 3, 4] (ls2 := [(0, .inr 0), (1, .inl x1), (3, .inl x3), (4, .inl x4)]) rfl ?_
                      exact J_z45 0
                  refine c_val (b := x3 = 0) (v1 := (0 : Int32)) (v2 := 1 <<< (v13 &&& 31)) (F := fun z43 => wrt (up M18 0 17 ((M18 0 17) ||| z43)) (fun M44 => wrt (up M44 0 18 ((M44 0 18) ||| (if x3 = 0 then 1 <<< (v13 &&& 31) else (0 : Int32)))) (fun M46 => j_X10_touches_325 x1 x3 x4 K35 M46))) (fun h48 => ?_) (fun h48 => ?_)
                  · refine c_T h48 (c_if_eq (tgt := 298) dX10_touches_290 rfl (fun _ => ?_) (fun q => absurd h48 q))
                    refine c_iconst dX10_touches_298 (v := 0) rfl ?_
                    refine c_keep [0, 1, 3, 4, 5] (ls2 := [(0, .inr 0), (1, .inl x1), (3, .inl x3), (4, .inl x4), (5, .inl (1 <<< (v13 &&& 31)))]) rfl ?_
                    exact J_z43 0
                  · refine c_Fl h48 (c_if_eq (tgt := 298) dX10_touches_290 rfl (fun q => absurd q h48) (fun _ => ?_))
                    refine c_iload dX10_touches_293 rfl ?_
                    refine c_goto (tgt := 299) dX10_touches_295 rfl ?_
                    refine c_keep [0, 1, 3, 4, 5] (ls2 := [(0, .inr 0), (1, .inl x1), (3, .inl x3), (4, .inl x4), (5, .inl (1 <<< (v13 &&& 31)))]) rfl ?_
                    exact J_z43 (1 <<< (v13 &&& 31))
                · refine c_tableOut (tgt := 325) dX10_touches_77 (sw_tab 0 7 (ks := [0, 1, 2, 3, 4, 5, 6]) (List.forall_mem_cons.mpr ⟨h19, (List.forall_mem_cons.mpr ⟨h22, (List.forall_mem_cons.mpr ⟨h25, (List.forall_mem_cons.mpr ⟨h27, (List.forall_mem_cons.mpr ⟨h34, (List.forall_mem_cons.mpr ⟨h39, (List.forall_mem_cons.mpr ⟨h42, (fun _ q => absurd q List.not_mem_nil)⟩)⟩)⟩)⟩)⟩)⟩)⟩) (by decide)) rfl ?_
                  refine c_keep [0, 1, 3, 4] (ls2 := [(0, .inr 0), (1, .inl x1), (3, .inl x3), (4, .inl x4)]) rfl ?_
                  exact jo_X10_touches_325 d hlev x1 x3 x4 K35 hK35 M18
def f_X10_touches (x1 : Int32) (x2 : Int32) (M : Mem) : Option (Int32 × Mem) := wrt (up M 0 17 0) (fun M1 => wrt (up M1 0 18 0) (fun M2 => bnd (f_X10_banksOf x1 M2) (fun v3 M4 => bnd (f_X10_lowest v3 M4) (fun v5 M6 => bnd (f_X10_firstOf x1 M6) (fun v8 M9 => loopC (l_X10_touches_35 x1 (if ¬ v5 = x2 then (0 : Int32) else (1 : Int32))) fuelL (v8, M9))))))
set_option maxRecDepth 20000 in
set_option maxHeartbeats 2000000 in
theorem ev_X10_touches (d : Nat) (hlev : 2 ≤ d) (x1 : Int32) (x2 : Int32) (M : Mem) : Ev KSm ST1 mdX10_touches d [.inr 0, .inl x1, .inl x2] M (f_X10_touches x1 x2 M) := by
  refine ev_of rfl (Nat.le_of_ble_eq_true rfl) ?_
  show CorM KSm ST1 RX10 cX10_touches 7 none d 0 [(0, .inr 0), (1, .inl x1), (2, .inl x2)] [] M (f_X10_touches x1 x2 M)
  unfold f_X10_touches
  refine c_aload_n (i := 0) dX10_touches_0 rfl rfl ?_
  refine c_iconst dX10_touches_1 (v := 0) rfl ?_
  refine pf_RX10_362 (blk_get0 KSm_b0) dX10_touches_2 ?_
  refine c_wrt (fun M1 => ?_)
  refine c_aload_n (i := 0) dX10_touches_5 rfl rfl ?_
  refine c_iconst dX10_touches_6 (v := 0) rfl ?_
  refine pf_RX10_365 (blk_get0 KSm_b0) dX10_touches_7 ?_
  refine c_wrt (fun M2 => ?_)
  refine c_aload_n (i := 0) dX10_touches_10 rfl rfl ?_
  refine c_iload_n (i := 1) dX10_touches_11 rfl rfl ?_
  refine c_callV (as := [.inl x1]) (rs := []) (ev_X10_banksOf 0 (Nat.le_refl _) x1 M2) rfl (Nat.lt_of_lt_of_le (by decide) hlev) mw_X10_banksOf wi_X10_banksOf wv_X10_banksOf (blk_get0 KSm_b0) (by decide) rfl wl_RX10_238 mn_X10_banksOf rfl (by decide) (Nat.le_of_ble_eq_true rfl) ⟨_, rfl⟩ dX10_touches_12 (fun v3 M4 _ => ?_)
  refine c_callS (as := [.inl v3]) (rs := []) (ev_X10_lowest 1 (Nat.le_refl _) v3 M4) rfl (Nat.lt_of_lt_of_le (by decide) hlev) mw_X10_lowest ws_X10_lowest wl_RX10_263 mn_X10_lowest rfl (by decide) (Nat.le_of_ble_eq_true rfl) ⟨_, rfl⟩ dX10_touches_15 (fun v5 M6 _ => ?_)
  refine c_iload_n (i := 2) dX10_touches_18 rfl rfl ?_
  have J_z7 : ∀ z7 : Int32, isB z7 → CorM KSm ST1 RX10 cX10_touches 7 none d 27 [(0, .inr 0), (1, .inl x1)] [.inl z7] M6 (bnd (f_X10_firstOf x1 M6) (fun v8 M9 => loopC (l_X10_touches_35 x1 z7) fuelL (v8, M9))) := by
    intro z7 h_z7
    refine c_istore_n (i := 3) dX10_touches_27 rfl (by decide) (ls2 := [(0, .inr 0), (1, .inl x1), (3, .inl z7)]) rfl ?_
    refine c_aload_n (i := 0) dX10_touches_28 rfl rfl ?_
    refine c_iload_n (i := 1) dX10_touches_29 rfl rfl ?_
    refine c_callV (as := [.inl x1]) (rs := []) (ev_X10_firstOf 0 (Nat.le_refl _) x1 M6) rfl (Nat.lt_of_lt_of_le (by decide) hlev) mw_X10_firstOf wi_X10_firstOf wv_X10_firstOf (blk_get0 KSm_b0) (by decide) rfl wl_RX10_230 mn_X10_firstOf rfl (by decide) (Nat.le_of_ble_eq_true rfl) ⟨_, rfl⟩ dX10_touches_30 (fun v8 M9 _ => ?_)
    refine c_istore dX10_touches_33 (by decide) (ls2 := [(0, .inr 0), (1, .inl x1), (3, .inl z7), (4, .inl v8)]) rfl ?_
    refine c_keep [0, 1, 3, 4] (ls2 := [(0, .inr 0), (1, .inl x1), (3, .inl z7), (4, .inl v8)]) rfl ?_
    exact lo_X10_touches_35 d hlev x1 z7 (v8, M9)
  refine c_val (b := ¬ v5 = x2) (v1 := (0 : Int32)) (v2 := (1 : Int32)) (F := fun z7 => bnd (f_X10_firstOf x1 M6) (fun v8 M9 => loopC (l_X10_touches_35 x1 z7) fuelL (v8, M9))) (fun h49 => ?_) (fun h49 => ?_)
  · refine c_T h49 (c_icmp_ne (tgt := 26) dX10_touches_19 rfl (fun _ => ?_) (fun q => absurd h49 q))
    refine c_iconst dX10_touches_26 (v := 0) rfl ?_
    refine c_keep [0, 1] (ls2 := [(0, .inr 0), (1, .inl x1)]) rfl ?_
    exact J_z7 0 (Or.inl rfl)
  · refine c_Fl h49 (c_icmp_ne (tgt := 26) dX10_touches_19 rfl (fun q => absurd q h49) (fun _ => ?_))
    refine c_iconst dX10_touches_22 (v := 1) rfl ?_
    refine c_goto (tgt := 27) dX10_touches_23 rfl ?_
    refine c_keep [0, 1] (ls2 := [(0, .inr 0), (1, .inl x1)]) rfl ?_
    exact J_z7 1 (Or.inr rfl)
