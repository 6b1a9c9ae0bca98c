abbrev mdX6_executeApart : MD := (yX6_executeApart, cX6_executeApart, 7, none)
theorem mw_X6_executeApart : mdW mdX6_executeApart := ⟨wm_X6_executeApart, w0_RX6, by decide, by decide⟩
theorem mn_X6_executeApart : (parseMethodDescriptor yX6_executeApart.desc).map (fun d => d.parameters.length) = some 4 := by decide +kernel
def j_X6_executeApart_73 (t0 : Nat) (t1 : Nat) (x2 : Int32) (x3 : Int32) (x4 : Int32) (x5 : Int32) (K3 : Int32 × Mem → Option (Int32 × Mem)) (M : Mem) : Option (Int32 × Mem) := K3 (x5 + 1, M)
set_option maxRecDepth 20000 in
set_option maxHeartbeats 2000000 in
theorem jo_X6_executeApart_73 (d : Nat) (hlev : 2 ≤ d) (t0 : Nat) (h_t0 : blkAt KSx t0 blk6) (t1 : Nat) (h_t1 : blkAt KSx t1 blk4) (x2 : Int32) (x3 : Int32) (x4 : Int32) (x5 : Int32) (K3 : Int32 × Mem → Option (Int32 × Mem)) (hK3 : ∀ s : Int32 × Mem, CorM KSx ST1 RX6 cX6_executeApart 7 none d 3 [(0, .inr t0), (1, .inr t1), (2, .inl x2), (3, .inl x3), (4, .inl x4), (5, .inl s.1)] [] s.2 (K3 s)) (M : Mem) : CorM KSx ST1 RX6 cX6_executeApart 7 none d 73 [(0, .inr t0), (1, .inr t1), (2, .inl x2), (3, .inl x3), (4, .inl x4), (5, .inl x5)] [] M (j_X6_executeApart_73 t0 t1 x2 x3 x4 x5 K3 M) := by
  unfold j_X6_executeApart_73
  refine c_iinc dX6_executeApart_73 rfl (v := 1) rfl (by decide) (ls2 := [(0, .inr t0), (1, .inr t1), (2, .inl x2), (3, .inl x3), (4, .inl x4), (5, .inl (x5 + 1))]) rfl ?_
  refine c_goto (tgt := 3) dX6_executeApart_76 rfl ?_
  refine c_keep [0, 1, 2, 3, 4, 5] (ls2 := [(0, .inr t0), (1, .inr t1), (2, .inl x2), (3, .inl x3), (4, .inl x4), (5, .inl (x5 + 1))]) rfl ?_
  exact hK3 (x5 + 1, M)
def l_X6_executeApart_3 (t0 : Nat) (t1 : Nat) (x2 : Int32) (x3 : Int32) (x4 : Int32) (K3 : Int32 × Mem → Option (Int32 × Mem)) : Int32 × Mem → Option (Int32 × Mem) := fun s => match s with
  | (x5, M) => if 8 ≤ x5 then some (0, M) else if (p_X9_isIn x5 x3) = 0 then j_X6_executeApart_73 t0 t1 x2 x3 x4 x5 K3 M else bnd (f_X6_beginOf t0 t1 x2 x5 M) (fun v3 M4 => if inb ((x5 * 4) + 0) 32 then if inb x5 8 then if inb ((x5 * 4) + 0) 32 then wrt (up M4 (t0 + 6) (ix ((x5 * 4) + 0)) ((M4 (t0 + 6) (ix ((x5 * 4) + 0))) + (v3 - (M4 (t0 + 1) (ix x5))))) (fun M8 => bnd (f_X6_openFor t0 t1 x2 x5 v3 x4 M8) (fun v9 M10 => bnd (f_X6_execute t0 t1 x2 x5 v9 M10) (fun _ M12 => j_X6_executeApart_73 t0 t1 x2 x3 x4 x5 K3 M12))) else none else none else none)
set_option maxRecDepth 20000 in
set_option maxHeartbeats 2000000 in
theorem lo_X6_executeApart_3 (d : Nat) (hlev : 2 ≤ d) (t0 : Nat) (h_t0 : blkAt KSx t0 blk6) (t1 : Nat) (h_t1 : blkAt KSx t1 blk4) (x2 : Int32) (x3 : Int32) (x4 : Int32) (s : Int32 × Mem) : CorM KSx ST1 RX6 cX6_executeApart 7 none d 3 [(0, .inr t0), (1, .inr t1), (2, .inl x2), (3, .inl x3), (4, .inl x4), (5, .inl s.1)] [] s.2 (loopC (l_X6_executeApart_3 t0 t1 x2 x3 x4) fuelL s) := by
  refine c_loop (L := fun s : Int32 × Mem => [(0, .inr t0), (1, .inr t1), (2, .inl x2), (3, .inl x3), (4, .inl x4), (5, .inl s.1)]) (Mf := fun s : Int32 × Mem => s.2) (fun K3 hK3 s => ?_) fuelL s
  obtain ⟨x5, M⟩ := s
  show CorM KSx ST1 RX6 cX6_executeApart 7 none d 3 [(0, .inr t0), (1, .inr t1), (2, .inl x2), (3, .inl x3), (4, .inl x4), (5, .inl x5)] [] M (l_X6_executeApart_3 t0 t1 x2 x3 x4 K3 (x5, M))
  unfold l_X6_executeApart_3
  refine c_iload dX6_executeApart_3 rfl ?_
  refine c_bipush dX6_executeApart_5 (v := 8) rfl ?_
  refine c_icmp_ge (tgt := 79) dX6_executeApart_7 rfl (fun h1 => ?_) (fun h1 => ?_)
  · exact c_vret rfl dX6_executeApart_79
  · refine c_iload dX6_executeApart_10 rfl ?_
    refine c_iload_n (i := 3) dX6_executeApart_12 rfl rfl ?_
    refine c_callNp (as := [.inl x5, .inl x3]) (rs := []) (ev_X9_isIn 0 (Nat.le_refl _) x5 x3 M) rfl (Nat.lt_of_lt_of_le (by decide) hlev) mw_X9_isIn ws_X9_isIn wl_RX6_49 mn_X9_isIn rfl (by decide) (Nat.le_of_ble_eq_true rfl) ⟨_, rfl⟩ dX6_executeApart_13 ?_
    refine c_if_eq (tgt := 73) dX6_executeApart_16 rfl (fun h2 => ?_) (fun h2 => ?_)
    · refine c_keep [0, 1, 2, 3, 4, 5] (ls2 := [(0, .inr t0), (1, .inr t1), (2, .inl x2), (3, .inl x3), (4, .inl x4), (5, .inl x5)]) rfl ?_
      exact jo_X6_executeApart_73 d hlev t0 h_t0 t1 h_t1 x2 x3 x4 x5 K3 hK3 M
    · refine c_aload_n (i := 0) dX6_executeApart_19 rfl rfl ?_
      refine c_aload_n (i := 1) dX6_executeApart_20 rfl rfl ?_
      refine c_iload_n (i := 2) dX6_executeApart_21 rfl rfl ?_
      refine c_iload dX6_executeApart_22 rfl ?_
      refine c_callV (as := [.inr t1, .inl x2, .inl x5]) (rs := []) (ev_X6_beginOf 1 (Nat.le_refl _) t0 h_t0 t1 h_t1 x2 x5 M) rfl (Nat.lt_of_lt_of_le (by decide) hlev) mw_X6_beginOf wi_X6_beginOf wv_X6_beginOf (blk_get0 h_t0) (by decide) rfl wl_RX6_104 mn_X6_beginOf rfl (by decide) (Nat.le_of_ble_eq_true rfl) ⟨_, rfl⟩ dX6_executeApart_24 (fun v3 M4 _ => ?_)
      refine c_istore dX6_executeApart_27 (by decide) (ls2 := [(0, .inr t0), (1, .inr t1), (2, .inl x2), (3, .inl x3), (4, .inl x4), (5, .inl x5), (6, .inl v3)]) rfl ?_
      refine c_aload_n (i := 0) dX6_executeApart_29 rfl rfl ?_
      refine gf_RX6_27 (blk_get0 h_t0) dX6_executeApart_30 ?_
      refine c_iload dX6_executeApart_33 rfl ?_
      refine c_iconst dX6_executeApart_35 (v := 4) rfl ?_
      refine c_imul dX6_executeApart_36 ?_
      refine c_iconst dX6_executeApart_37 (v := 0) rfl ?_
      refine c_iadd dX6_executeApart_38 ?_
      refine c_dup2 dX6_executeApart_39 ?_
      refine c_chk (fun h5 => ?_)
      refine c_iald (blk_get0 (blk_sub (C := [(20, 32)]) (i := 6) h_t0 rfl)) h5 dX6_executeApart_40 ?_
      refine c_iload dX6_executeApart_41 rfl ?_
      refine c_aload_n (i := 0) dX6_executeApart_43 rfl rfl ?_
      refine gf_RX6_9 (blk_get0 h_t0) dX6_executeApart_44 ?_
      refine c_iload dX6_executeApart_47 rfl ?_
      refine c_chk (fun h6 => ?_)
      refine c_iald (blk_get0 (blk_sub (C := [(20, 8)]) (i := 1) h_t0 rfl)) h6 dX6_executeApart_49 ?_
      refine c_isub dX6_executeApart_50 ?_
      refine c_iadd dX6_executeApart_51 ?_
      refine c_chk (fun h7 => ?_)
      refine c_iast (blk_get0 (blk_sub (C := [(20, 32)]) (i := 6) h_t0 rfl)) h7 dX6_executeApart_52 ?_
      refine c_wrt (fun M8 => ?_)
      refine c_aload_n (i := 0) dX6_executeApart_53 rfl rfl ?_
      refine c_aload_n (i := 1) dX6_executeApart_54 rfl rfl ?_
      refine c_iload_n (i := 2) dX6_executeApart_55 rfl rfl ?_
      refine c_iload dX6_executeApart_56 rfl ?_
      refine c_aload_n (i := 0) dX6_executeApart_58 rfl rfl ?_
      refine c_aload_n (i := 1) dX6_executeApart_59 rfl rfl ?_
      refine c_iload_n (i := 2) dX6_executeApart_60 rfl rfl ?_
      refine c_iload dX6_executeApart_61 rfl ?_
      refine c_iload dX6_executeApart_63 rfl ?_
      refine c_iload dX6_executeApart_65 rfl ?_
      refine c_callV (as := [.inr t1, .inl x2, .inl x5, .inl v3, .inl x4]) (rs := [.inl x5, .inl x2, .inr t1, .inr t0]) (ev_X6_openFor 1 (Nat.le_refl _) t0 h_t0 t1 h_t1 x2 x5 v3 x4 M8) rfl (Nat.lt_of_lt_of_le (by decide) hlev) mw_X6_openFor wi_X6_openFor wv_X6_openFor (blk_get0 h_t0) (by decide) rfl wl_RX6_108 mn_X6_openFor rfl (by decide) (Nat.le_of_ble_eq_true rfl) ⟨_, rfl⟩ dX6_executeApart_67 (fun v9 M10 _ => ?_)
      refine c_callVv (as := [.inr t1, .inl x2, .inl x5, .inl v9]) (rs := []) (ev_X6_execute 0 (Nat.le_refl _) t0 h_t0 t1 h_t1 x2 x5 v9 M10) rfl (Nat.lt_of_lt_of_le (by decide) hlev) mw_X6_execute wi_X6_execute wv_X6_execute (blk_get0 h_t0) (by decide) rfl wl_RX6_112 mn_X6_execute rfl (by decide) (Nat.le_of_ble_eq_true rfl) rfl dX6_executeApart_70 (fun v11 M12 _ => ?_)
      refine c_keep [0, 1, 2, 3, 4, 5] (ls2 := [(0, .inr t0), (1, .inr t1), (2, .inl x2), (3, .inl x3), (4, .inl x4), (5, .inl x5)]) rfl ?_
      exact jo_X6_executeApart_73 d hlev t0 h_t0 t1 h_t1 x2 x3 x4 x5 K3 hK3 M12
def f_X6_executeApart (t0 : Nat) (t1 : Nat) (x2 : Int32) (x3 : Int32) (x4 : Int32) (M : Mem) : Option (Int32 × Mem) := loopC (l_X6_executeApart_3 t0 t1 x2 x3 x4) fuelL (0, M)
set_option maxRecDepth 20000 in
set_option maxHeartbeats 2000000 in
theorem ev_X6_executeApart (d : Nat) (hlev : 2 ≤ d) (t0 : Nat) (h_t0 : blkAt KSx t0 blk6) (t1 : Nat) (h_t1 : blkAt KSx t1 blk4) (x2 : Int32) (x3 : Int32) (x4 : Int32) (M : Mem) : Ev KSx ST1 mdX6_executeApart d [.inr t0, .inr t1, .inl x2, .inl x3, .inl x4] M (f_X6_executeApart t0 t1 x2 x3 x4 M) := by
  refine ev_of rfl (Nat.le_of_ble_eq_true rfl) ?_
  show CorM KSx ST1 RX6 cX6_executeApart 7 none d 0 [(0, .inr t0), (1, .inr t1), (2, .inl x2), (3, .inl x3), (4, .inl x4)] [] M (f_X6_executeApart t0 t1 x2 x3 x4 M)
  unfold f_X6_executeApart
  refine c_iconst dX6_executeApart_0 (v := 0) rfl ?_
  refine c_istore dX6_executeApart_1 (by decide) (ls2 := [(0, .inr t0), (1, .inr t1), (2, .inl x2), (3, .inl x3), (4, .inl x4), (5, .inl 0)]) rfl ?_
  refine c_keep [0, 1, 2, 3, 4, 5] (ls2 := [(0, .inr t0), (1, .inr t1), (2, .inl x2), (3, .inl x3), (4, .inl x4), (5, .inl 0)]) rfl ?_
  exact lo_X6_executeApart_3 d hlev t0 h_t0 t1 h_t1 x2 x3 x4 (0, M)

abbrev mdX6_noteExecuted : MD := (yX6_noteExecuted, cX6_noteExecuted, 4, none)
theorem mw_X6_noteExecuted : mdW mdX6_noteExecuted := ⟨wm_X6_noteExecuted, w0_RX6, by decide, by decide⟩
theorem mn_X6_noteExecuted : (parseMethodDescriptor yX6_noteExecuted.desc).map (fun d => d.parameters.length) = some 2 := by decide +kernel
def j_X6_noteExecuted_26 (t0 : Nat) (x1 : Int32) (x2 : Int32) (x3 : Int32) (K2 : Int32 × Mem → Option (Int32 × Mem)) (M : Mem) : Option (Int32 × Mem) := K2 (x3 + 1, M)
set_option maxRecDepth 20000 in
set_option maxHeartbeats 2000000 in
theorem jo_X6_noteExecuted_26 (d : Nat) (hlev : 1 ≤ d) (t0 : Nat) (h_t0 : blkAt KSx t0 blk6) (x1 : Int32) (x2 : Int32) (x3 : Int32) (K2 : Int32 × Mem → Option (Int32 × Mem)) (hK2 : ∀ s : Int32 × Mem, CorM KSx ST1 RX6 cX6_noteExecuted 4 none d 2 [(0, .inr t0), (1, .inl x1), (2, .inl x2), (3, .inl s.1)] [] s.2 (K2 s)) (M : Mem) : CorM KSx ST1 RX6 cX6_noteExecuted 4 none d 26 [(0, .inr t0), (1, .inl x1), (2, .inl x2), (3, .inl x3)] [] M (j_X6_noteExecuted_26 t0 x1 x2 x3 K2 M) := by
  unfold j_X6_noteExecuted_26
  refine c_iinc dX6_noteExecuted_26 rfl (v := 1) rfl (by decide) (ls2 := [(0, .inr t0), (1, .inl x1), (2, .inl x2), (3, .inl (x3 + 1))]) rfl ?_
  refine c_goto (tgt := 2) dX6_noteExecuted_29 rfl ?_
  refine c_keep [0, 1, 2, 3] (ls2 := [(0, .inr t0), (1, .inl x1), (2, .inl x2), (3, .inl (x3 + 1))]) rfl ?_
  exact hK2 (x3 + 1, M)
def l_X6_noteExecuted_2 (t0 : Nat) (x1 : Int32) (x2 : Int32) (K2 : Int32 × Mem → Option (Int32 × Mem)) : Int32 × Mem → Option (Int32 × Mem) := fun s => match s with
  | (x3, M) => if 8 ≤ x3 then some (0, M) else if (p_X9_isIn x3 x1) = 0 then j_X6_noteExecuted_26 t0 x1 x2 x3 K2 M else if inb x3 8 then if inb x3 8 then wrt (up M (t0 + 7) (ix x3) ((M (t0 + 7) (ix x3)) + x2)) (fun M5 => j_X6_noteExecuted_26 t0 x1 x2 x3 K2 M5) else none else none
set_option maxRecDepth 20000 in
set_option maxHeartbeats 2000000 in
theorem lo_X6_noteExecuted_2 (d : Nat) (hlev : 1 ≤ d) (t0 : Nat) (h_t0 : blkAt KSx t0 blk6) (x1 : Int32) (x2 : Int32) (s : Int32 × Mem) : CorM KSx ST1 RX6 cX6_noteExecuted 4 none d 2 [(0, .inr t0), (1, .inl x1), (2, .inl x2), (3, .inl s.1)] [] s.2 (loopC (l_X6_noteExecuted_2 t0 x1 x2) fuelL s) := by
  refine c_loop (L := fun s : Int32 × Mem => [(0, .inr t0), (1, .inl x1), (2, .inl x2), (3, .inl s.1)]) (Mf := fun s : Int32 × Mem => s.2) (fun K2 hK2 s => ?_) fuelL s
  obtain ⟨x3, M⟩ := s
  show CorM KSx ST1 RX6 cX6_noteExecuted 4 none d 2 [(0, .inr t0), (1, .inl x1), (2, .inl x2), (3, .inl x3)] [] M (l_X6_noteExecuted_2 t0 x1 x2 K2 (x3, M))
  unfold l_X6_noteExecuted_2
  refine c_iload_n (i := 3) dX6_noteExecuted_2 rfl rfl ?_
  refine c_bipush dX6_noteExecuted_3 (v := 8) rfl ?_
  refine c_icmp_ge (tgt := 32) dX6_noteExecuted_5 rfl (fun h1 => ?_) (fun h1 => ?_)
  · exact c_vret rfl dX6_noteExecuted_32
  · refine c_iload_n (i := 3) dX6_noteExecuted_8 rfl rfl ?_
    refine c_iload_n (i := 1) dX6_noteExecuted_9 rfl rfl ?_
    refine c_callNp (as := [.inl x3, .inl x1]) (rs := []) (ev_X9_isIn 0 (Nat.le_refl _) x3 x1 M) rfl (Nat.lt_of_lt_of_le (by decide) hlev) mw_X9_isIn ws_X9_isIn wl_RX6_49 mn_X9_isIn rfl (by decide) (Nat.le_of_ble_eq_true rfl) ⟨_, rfl⟩ dX6_noteExecuted_10 ?_
    refine c_if_eq (tgt := 26) dX6_noteExecuted_13 rfl (fun h2 => ?_) (fun h2 => ?_)
    · refine c_keep [0, 1, 2, 3] (ls2 := [(0, .inr t0), (1, .inl x1), (2, .inl x2), (3, .inl x3)]) rfl ?_
      exact jo_X6_noteExecuted_26 d hlev t0 h_t0 x1 x2 x3 K2 hK2 M
    · refine c_aload_n (i := 0) dX6_noteExecuted_16 rfl rfl ?_
      refine gf_RX6_30 (blk_get0 h_t0) dX6_noteExecuted_17 ?_
      refine c_iload_n (i := 3) dX6_noteExecuted_20 rfl rfl ?_
      refine c_dup2 dX6_noteExecuted_21 ?_
      refine c_chk (fun h3 => ?_)
      refine c_iald (blk_get0 (blk_sub (C := [(20, 8)]) (i := 7) h_t0 rfl)) h3 dX6_noteExecuted_22 ?_
      refine c_iload_n (i := 2) dX6_noteExecuted_23 rfl rfl ?_
      refine c_iadd dX6_noteExecuted_24 ?_
      refine c_chk (fun h4 => ?_)
      refine c_iast (blk_get0 (blk_sub (C := [(20, 8)]) (i := 7) h_t0 rfl)) h4 dX6_noteExecuted_25 ?_
      refine c_wrt (fun M5 => ?_)
      refine c_keep [0, 1, 2, 3] (ls2 := [(0, .inr t0), (1, .inl x1), (2, .inl x2), (3, .inl x3)]) rfl ?_
      exact jo_X6_noteExecuted_26 d hlev t0 h_t0 x1 x2 x3 K2 hK2 M5
def f_X6_noteExecuted (t0 : Nat) (x1 : Int32) (x2 : Int32) (M : Mem) : Option (Int32 × Mem) := loopC (l_X6_noteExecuted_2 t0 x1 x2) fuelL (0, M)
set_option maxRecDepth 20000 in
set_option maxHeartbeats 2000000 in
theorem ev_X6_noteExecuted (d : Nat) (hlev : 1 ≤ d) (t0 : Nat) (h_t0 : blkAt KSx t0 blk6) (x1 : Int32) (x2 : Int32) (M : Mem) : Ev KSx ST1 mdX6_noteExecuted d [.inr t0, .inl x1, .inl x2] M (f_X6_noteExecuted t0 x1 x2 M) := by
  refine ev_of rfl (Nat.le_of_ble_eq_true rfl) ?_
  show CorM KSx ST1 RX6 cX6_noteExecuted 4 none d 0 [(0, .inr t0), (1, .inl x1), (2, .inl x2)] [] M (f_X6_noteExecuted t0 x1 x2 M)
  unfold f_X6_noteExecuted
  refine c_iconst dX6_noteExecuted_0 (v := 0) rfl ?_
  refine c_istore_n (i := 3) dX6_noteExecuted_1 rfl (by decide) (ls2 := [(0, .inr t0), (1, .inl x1), (2, .inl x2), (3, .inl 0)]) rfl ?_
  refine c_keep [0, 1, 2, 3] (ls2 := [(0, .inr t0), (1, .inl x1), (2, .inl x2), (3, .inl 0)]) rfl ?_
  exact lo_X6_noteExecuted_2 d hlev t0 h_t0 x1 x2 (0, M)

abbrev mdX6_runBatch : MD := (yX6_runBatch, cX6_runBatch, 7, none)
theorem mw_X6_runBatch : mdW mdX6_runBatch := ⟨wm_X6_runBatch, w0_RX6, by decide, by decide⟩
theorem mn_X6_runBatch : (parseMethodDescriptor yX6_runBatch.desc).map (fun d => d.parameters.length) = some 3 := by decide +kernel
def j_X6_runBatch_66 (t0 : Nat) (t1 : Nat) (x2 : Int32) (x3 : Int32) (x4 : Int32) (x5 : Int32) (x6 : Int32) (K24 : Int32 × Mem → Option (Int32 × Mem)) (M : Mem) : Option (Int32 × Mem) := K24 (x6 + 1, M)
set_option maxRecDepth 20000 in
set_option maxHeartbeats 2000000 in
theorem jo_X6_runBatch_66 (d : Nat) (hlev : 3 ≤ d) (t0 : Nat) (h_t0 : blkAt KSx t0 blk6) (t1 : Nat) (h_t1 : blkAt KSx t1 blk4) (x2 : Int32) (x3 : Int32) (x4 : Int32) (x5 : Int32) (x6 : Int32) (K24 : Int32 × Mem → Option (Int32 × Mem)) (hK24 : ∀ s : Int32 × Mem, CorM KSx ST1 RX6 cX6_runBatch 7 none d 24 [(0, .inr t0), (1, .inr t1), (2, .inl x2), (3, .inl x3), (4, .inl x4), (5, .inl x5), (6, .inl s.1)] [] s.2 (K24 s)) (M : Mem) : CorM KSx ST1 RX6 cX6_runBatch 7 none d 66 [(0, .inr t0), (1, .inr t1), (2, .inl x2), (3, .inl x3), (4, .inl x4), (5, .inl x5), (6, .inl x6)] [] M (j_X6_runBatch_66 t0 t1 x2 x3 x4 x5 x6 K24 M) := by
  unfold j_X6_runBatch_66
  refine c_iinc dX6_runBatch_66 rfl (v := 1) rfl (by decide) (ls2 := [(0, .inr t0), (1, .inr t1), (2, .inl x2), (3, .inl x3), (4, .inl x4), (5, .inl x5), (6, .inl (x6 + 1))]) rfl ?_
  refine c_goto (tgt := 24) dX6_runBatch_69 rfl ?_
  refine c_keep [0, 1, 2, 3, 4, 5, 6] (ls2 := [(0, .inr t0), (1, .inr t1), (2, .inl x2), (3, .inl x3), (4, .inl x4), (5, .inl x5), (6, .inl (x6 + 1))]) rfl ?_
  exact hK24 (x6 + 1, M)
def l_X6_runBatch_24 (t0 : Nat) (t1 : Nat) (x2 : Int32) (x3 : Int32) (x4 : Int32) (x5 : Int32) (K24 : Int32 × Mem → Option (Int32 × Mem)) : Int32 × Mem → Option (Int32 × Mem) := fun s => match s with
  | (x6, M) => if x5 ≤ x6 then if inb x2 12 then bnd (f_X6_noteExecuted t0 x4 (x5 - (M (t1 + 3) (ix x2))) M) (fun _ M7 => some (0, M7)) else none else if inb x6 60 then if (p_X6_isJoint (M (t1 + 5) (ix x6))) = 0 then bnd (f_X6_executeApart t0 t1 x6 x4 x3 M) (fun _ M11 => j_X6_runBatch_66 t0 t1 x2 x3 x4 x5 x6 K24 M11) else bnd (f_X6_executeJointly t0 t1 x6 x4 M) (fun _ M13 => j_X6_runBatch_66 t0 t1 x2 x3 x4 x5 x6 K24 M13) else none
set_option maxRecDepth 20000 in
set_option maxHeartbeats 2000000 in
theorem lo_X6_runBatch_24 (d : Nat) (hlev : 3 ≤ d) (t0 : Nat) (h_t0 : blkAt KSx t0 blk6) (t1 : Nat) (h_t1 : blkAt KSx t1 blk4) (x2 : Int32) (x3 : Int32) (x4 : Int32) (x5 : Int32) (s : Int32 × Mem) : CorM KSx ST1 RX6 cX6_runBatch 7 none d 24 [(0, .inr t0), (1, .inr t1), (2, .inl x2), (3, .inl x3), (4, .inl x4), (5, .inl x5), (6, .inl s.1)] [] s.2 (loopC (l_X6_runBatch_24 t0 t1 x2 x3 x4 x5) fuelL s) := by
  refine c_loop (L := fun s : Int32 × Mem => [(0, .inr t0), (1, .inr t1), (2, .inl x2), (3, .inl x3), (4, .inl x4), (5, .inl x5), (6, .inl s.1)]) (Mf := fun s : Int32 × Mem => s.2) (fun K24 hK24 s => ?_) fuelL s
  obtain ⟨x6, M⟩ := s
  show CorM KSx ST1 RX6 cX6_runBatch 7 none d 24 [(0, .inr t0), (1, .inr t1), (2, .inl x2), (3, .inl x3), (4, .inl x4), (5, .inl x5), (6, .inl x6)] [] M (l_X6_runBatch_24 t0 t1 x2 x3 x4 x5 K24 (x6, M))
  unfold l_X6_runBatch_24
  refine c_iload dX6_runBatch_24 rfl ?_
  refine c_iload dX6_runBatch_26 rfl ?_
  refine c_icmp_ge (tgt := 72) dX6_runBatch_28 rfl (fun h4 => ?_) (fun h4 => ?_)
  · refine c_aload_n (i := 0) dX6_runBatch_72 rfl rfl ?_
    refine c_iload dX6_runBatch_73 rfl ?_
    refine c_iload dX6_runBatch_75 rfl ?_
    refine c_aload_n (i := 1) dX6_runBatch_77 rfl rfl ?_
    refine gf_RX6_70 (blk_get0 h_t1) dX6_runBatch_78 ?_
    refine c_iload_n (i := 2) dX6_runBatch_81 rfl rfl ?_
    refine c_chk (fun h5 => ?_)
    refine c_iald (blk_get0 (blk_sub (C := [(20, 12)]) (i := 3) h_t1 rfl)) h5 dX6_runBatch_82 ?_
    refine c_isub dX6_runBatch_83 ?_
    refine c_callVv (as := [.inl x4, .inl (x5 - (M (t1 + 3) (ix x2)))]) (rs := []) (ev_X6_noteExecuted 1 (Nat.le_refl _) t0 h_t0 x4 (x5 - (M (t1 + 3) (ix x2))) M) rfl (Nat.lt_of_lt_of_le (by decide) hlev) mw_X6_noteExecuted wi_X6_noteExecuted wv_X6_noteExecuted (blk_get0 h_t0) (by decide) rfl wl_RX6_88 mn_X6_noteExecuted rfl (by decide) (Nat.le_of_ble_eq_true rfl) rfl dX6_runBatch_84 (fun v6 M7 _ => ?_)
    exact c_vret rfl dX6_runBatch_87
  · refine c_aload_n (i := 1) dX6_runBatch_31 rfl rfl ?_
    refine gf_RX6_73 (blk_get0 h_t1) dX6_runBatch_32 ?_
    refine c_iload dX6_runBatch_35 rfl ?_
    refine c_chk (fun h8 => ?_)
    refine c_iald (blk_get0 (blk_sub (C := [(20, 60)]) (i := 5) h_t1 rfl)) h8 dX6_runBatch_37 ?_
    refine c_callSp (as := [.inl (M (t1 + 5) (ix x6))]) (rs := []) (ev_X6_isJoint 0 (Nat.le_refl _) (M (t1 + 5) (ix x6)) M) rfl (Nat.lt_of_lt_of_le (by decide) hlev) mw_X6_isJoint ws_X6_isJoint wl_RX6_76 mn_X6_isJoint rfl (by decide) (Nat.le_of_ble_eq_true rfl) ⟨_, rfl⟩ dX6_runBatch_38 ?_
    refine c_if_eq (tgt := 56) dX6_runBatch_41 rfl (fun h9 => ?_) (fun h9 => ?_)
    · refine c_aload_n (i := 0) dX6_runBatch_56 rfl rfl ?_
      refine c_aload_n (i := 1) dX6_runBatch_57 rfl rfl ?_
      refine c_iload dX6_runBatch_58 rfl ?_
      refine c_iload dX6_runBatch_60 rfl ?_
      refine c_iload_n (i := 3) dX6_runBatch_62 rfl rfl ?_
      refine c_callVv (as := [.inr t1, .inl x6, .inl x4, .inl x3]) (rs := []) (ev_X6_executeApart 2 (Nat.le_refl _) t0 h_t0 t1 h_t1 x6 x4 x3 M) rfl (Nat.lt_of_lt_of_le (by decide) hlev) mw_X6_executeApart wi_X6_executeApart wv_X6_executeApart (blk_get0 h_t0) (by decide) rfl wl_RX6_84 mn_X6_executeApart rfl (by decide) (Nat.le_of_ble_eq_true rfl) rfl dX6_runBatch_63 (fun v10 M11 _ => ?_)
      refine c_keep [0, 1, 2, 3, 4, 5, 6] (ls2 := [(0, .inr t0), (1, .inr t1), (2, .inl x2), (3, .inl x3), (4, .inl x4), (5, .inl x5), (6, .inl x6)]) rfl ?_
      exact jo_X6_runBatch_66 d hlev t0 h_t0 t1 h_t1 x2 x3 x4 x5 x6 K24 hK24 M11
    · refine c_aload_n (i := 0) dX6_runBatch_44 rfl rfl ?_
      refine c_aload_n (i := 1) dX6_runBatch_45 rfl rfl ?_
      refine c_iload dX6_runBatch_46 rfl ?_
      refine c_iload dX6_runBatch_48 rfl ?_
      refine c_callVv (as := [.inr t1, .inl x6, .inl x4]) (rs := []) (ev_X6_executeJointly 2 (Nat.le_refl _) t0 h_t0 t1 h_t1 x6 x4 M) rfl (Nat.lt_of_lt_of_le (by decide) hlev) mw_X6_executeJointly wi_X6_executeJointly wv_X6_executeJointly (blk_get0 h_t0) (by decide) rfl wl_RX6_80 mn_X6_executeJointly rfl (by decide) (Nat.le_of_ble_eq_true rfl) rfl dX6_runBatch_50 (fun v12 M13 _ => ?_)
      refine c_goto (tgt := 66) dX6_runBatch_53 rfl ?_
      refine c_keep [0, 1, 2, 3, 4, 5, 6] (ls2 := [(0, .inr t0), (1, .inr t1), (2, .inl x2), (3, .inl x3), (4, .inl x4), (5, .inl x5), (6, .inl x6)]) rfl ?_
      exact jo_X6_runBatch_66 d hlev t0 h_t0 t1 h_t1 x2 x3 x4 x5 x6 K24 hK24 M13
def f_X6_runBatch (t0 : Nat) (t1 : Nat) (x2 : Int32) (x3 : Int32) (M : Mem) : Option (Int32 × Mem) := if inb x2 12 then if inb x2 12 then if inb x2 12 then loopC (l_X6_runBatch_24 t0 t1 x2 x3 (M (t1 + 2) (ix x2)) (M (t1 + 4) (ix x2))) fuelL (M (t1 + 3) (ix x2), M) else none else none else none
set_option maxRecDepth 20000 in
set_option maxHeartbeats 2000000 in
theorem ev_X6_runBatch (d : Nat) (hlev : 3 ≤ d) (t0 : Nat) (h_t0 : blkAt KSx t0 blk6) (t1 : Nat) (h_t1 : blkAt KSx t1 blk4) (x2 : Int32) (x3 : Int32) (M : Mem) : Ev KSx ST1 mdX6_runBatch d [.inr t0, .inr t1, .inl x2, .inl x3] M (f_X6_runBatch t0 t1 x2 x3 M) := by
  refine ev_of rfl (Nat.le_of_ble_eq_true rfl) ?_
  show CorM KSx ST1 RX6 cX6_runBatch 7 none d 0 [(0, .inr t0), (1, .inr t1), (2, .inl x2), (3, .inl x3)] [] M (f_X6_runBatch t0 t1 x2 x3 M)
  unfold f_X6_runBatch
  refine c_aload_n (i := 1) dX6_runBatch_0 rfl rfl ?_
  refine gf_RX6_62 (blk_get0 h_t1) dX6_runBatch_1 ?_
  refine c_iload_n (i := 2) dX6_runBatch_4 rfl rfl ?_
  refine c_chk (fun h1 => ?_)
  refine c_iald (blk_get0 (blk_sub (C := [(20, 12)]) (i := 2) h_t1 rfl)) h1 dX6_runBatch_5 ?_
  refine c_istore dX6_runBatch_6 (by decide) (ls2 := [(0, .inr t0), (1, .inr t1), (2, .inl x2), (3, .inl x3), (4, .inl (M (t1 + 2) (ix x2)))]) rfl ?_
  refine c_aload_n (i := 1) dX6_runBatch_8 rfl rfl ?_
  refine gf_RX6_67 (blk_get0 h_t1) dX6_runBatch_9 ?_
  refine c_iload_n (i := 2) dX6_runBatch_12 rfl rfl ?_
  refine c_chk (fun h2 => ?_)
  refine c_iald (blk_get0 (blk_sub (C := [(20, 12)]) (i := 4) h_t1 rfl)) h2 dX6_runBatch_13 ?_
  refine c_istore dX6_runBatch_14 (by decide) (ls2 := [(0, .inr t0), (1, .inr t1), (2, .inl x2), (3, .inl x3), (4, .inl (M (t1 + 2) (ix x2))), (5, .inl (M (t1 + 4) (ix x2)))]) rfl ?_
  refine c_aload_n (i := 1) dX6_runBatch_16 rfl rfl ?_
  refine gf_RX6_70 (blk_get0 h_t1) dX6_runBatch_17 ?_
  refine c_iload_n (i := 2) dX6_runBatch_20 rfl rfl ?_
  refine c_chk (fun h3 => ?_)
  refine c_iald (blk_get0 (blk_sub (C := [(20, 12)]) (i := 3) h_t1 rfl)) h3 dX6_runBatch_21 ?_
  refine c_istore dX6_runBatch_22 (by decide) (ls2 := [(0, .inr t0), (1, .inr t1), (2, .inl x2), (3, .inl x3), (4, .inl (M (t1 + 2) (ix x2))), (5, .inl (M (t1 + 4) (ix x2))), (6, .inl (M (t1 + 3) (ix x2)))]) rfl ?_
  refine c_keep [0, 1, 2, 3, 4, 5, 6] (ls2 := [(0, .inr t0), (1, .inr t1), (2, .inl x2), (3, .inl x3), (4, .inl (M (t1 + 2) (ix x2))), (5, .inl (M (t1 + 4) (ix x2))), (6, .inl (M (t1 + 3) (ix x2)))]) rfl ?_
  exact lo_X6_runBatch_24 d hlev t0 h_t0 t1 h_t1 x2 x3 (M (t1 + 2) (ix x2)) (M (t1 + 4) (ix x2)) (M (t1 + 3) (ix x2), M)

abbrev mdX3_extend : MD := (yX3_extend, cX3_extend, 4, none)
theorem mw_X3_extend : mdW mdX3_extend := ⟨wm_X3_extend, w0_RX3, by decide, by decide⟩
theorem mn_X3_extend : (parseMethodDescriptor yX3_extend.desc).map (fun d => d.parameters.length) = some 1 := by decide +kernel
abbrev mdX3_place : MD := (yX3_place, cX3_place, 4, none)
theorem mw_X3_place : mdW mdX3_place := ⟨wm_X3_place, w0_RX3, by decide, by decide⟩
theorem mn_X3_place : (parseMethodDescriptor yX3_place.desc).map (fun d => d.parameters.length) = some 2 := by decide +kernel
def b_X3_place (rec : Int32 → Mem → Option (Int32 × Mem)) (x1 : Int32) (x2 : Int32) (M : Mem) : Option (Int32 × Mem) := if inb (x2 + 1) 7 then if inb x2 7 then bnd (f_X6_copyFrom (120 + (1 + 8 * ix (x2 + 1))) (120 + (1 + 8 * ix x2)) M) (fun _ M4 => if ¬ M4 114 9 < 0 ∧ blkD KSx (ix (M4 114 9)) blk4 then if ¬ M4 114 10 < 0 ∧ blkD KSx (ix (M4 114 10)) blk0 then if inb x1 16 then if ¬ M4 114 9 < 0 ∧ blkD KSx (ix (M4 114 9)) blk4 then bnd (f_X6_runBatch (120 + (1 + 8 * ix (x2 + 1))) (ix (M4 114 9)) (M4 (ix (M4 114 10) + 1) (ix x1)) (M4 (ix (M4 114 9) + 1) 5) M4) (fun _ M10 => bnd (f_X6_latest (120 + (1 + 8 * ix (x2 + 1))) 255 M10) (fun v11 M12 => if v11 < (M12 114 1) then if inb x2 6 then wrt (up M12 116 (ix x2) x1) (fun M15 => wrt (up M15 114 4 ((M15 114 4) ||| (1 <<< (x1 &&& 31)))) (fun M16 => bnd (rec (x2 + 1) M16) (fun _ M18 => wrt (up M18 114 4 ((M18 114 4) &&& ((1 <<< (x1 &&& 31)) ^^^ (-1)))) (fun M19 => some (0, M19))))) else none else some (0, M12))) else none else none else none else none) else none else none
set_option maxRecDepth 20000 in
set_option maxHeartbeats 2000000 in
theorem bo_X3_place (d : Nat) (hlev : 4 ≤ d) (d2 : Nat) (hd2 : d2 < d) (rec : Int32 → Mem → Option (Int32 × Mem)) (hrec : ∀ (x1 : Int32) (M : Mem), Ev KSx ST1 mdX3_extend d2 [.inr 114, .inl x1] M (rec x1 M)) (x1 : Int32) (x2 : Int32) (M : Mem) : Ev KSx ST1 mdX3_place d [.inr 114, .inl x1, .inl x2] M (b_X3_place rec x1 x2 M) := by
  refine ev_of rfl (Nat.le_of_ble_eq_true rfl) ?_
  show CorM KSx ST1 RX3 cX3_place 4 none d 0 [(0, .inr 114), (1, .inl x1), (2, .inl x2)] [] M (b_X3_place rec x1 x2 M)
  unfold b_X3_place
  refine c_aload_n (i := 0) dX3_place_0 rfl rfl ?_
  refine gf_RX3_29 (blk_get0 KSx_b114) dX3_place_1 ?_
  refine c_iload_n (i := 2) dX3_place_4 rfl rfl ?_
  refine c_iconst dX3_place_5 (v := 1) rfl ?_
  refine c_iadd dX3_place_6 ?_
  refine c_chk (fun h1 => ?_)
  refine c_aald23 (blk_get0 (blk_sub (C := [(23, 7)]) (i := 6) KSx_b114 rfl)) h1 dX3_place_7 ?_
  refine c_astore_n (i := 3) dX3_place_8 rfl (by decide) (ls2 := [(0, .inr 114), (1, .inl x1), (2, .inl x2), (3, .inr (120 + (1 + 8 * ix (x2 + 1))))]) rfl ?_
  refine c_aload_n (i := 3) dX3_place_9 rfl rfl ?_
  refine c_aload_n (i := 0) dX3_place_10 rfl rfl ?_
  refine gf_RX3_29 (blk_get0 KSx_b114) dX3_place_11 ?_
  refine c_iload_n (i := 2) dX3_place_14 rfl rfl ?_
  refine c_chk (fun h2 => ?_)
  refine c_aald23 (blk_get0 (blk_sub (C := [(23, 7)]) (i := 6) KSx_b114 rfl)) h2 dX3_place_15 ?_
  refine c_callVv (as := [.inr (120 + (1 + 8 * ix x2))]) (rs := []) (ev_X6_copyFrom 1 (Nat.le_refl _) (120 + (1 + 8 * ix (x2 + 1))) (blk23_at h1) (120 + (1 + 8 * ix x2)) (blk23_at h2) M) rfl (Nat.lt_of_lt_of_le (by decide) hlev) mw_X6_copyFrom wi_X6_copyFrom wv_X6_copyFrom (blk_get0 (blk23_at h1)) (by decide) rfl wl_RX3_61 mn_X6_copyFrom rfl (by decide) (Nat.le_of_ble_eq_true rfl) rfl dX3_place_16 (fun v3 M4 _ => ?_)
  refine c_aload_n (i := 3) dX3_place_19 rfl rfl ?_
  refine c_aload_n (i := 0) dX3_place_20 rfl rfl ?_
  refine c_chk (fun h5 => ?_)
  refine gf_RX3_38 (blk_get0 KSx_b114) h5.1 dX3_place_21 ?_
  refine c_aload_n (i := 0) dX3_place_24 rfl rfl ?_
  refine c_chk (fun h6 => ?_)
  refine gf_RX3_48 (blk_get0 KSx_b114) h6.1 dX3_place_25 ?_
  refine gf_RX3_77 (blk_get0 (blk_of h6.2)) dX3_place_28 ?_
  refine c_iload_n (i := 1) dX3_place_31 rfl rfl ?_
  refine c_chk (fun h7 => ?_)
  refine c_iald (blk_get0 (blk_sub (C := [(20, 16)]) (i := 1) (blk_of h6.2) rfl)) h7 dX3_place_32 ?_
  refine c_aload_n (i := 0) dX3_place_33 rfl rfl ?_
  refine c_chk (fun h8 => ?_)
  refine gf_RX3_38 (blk_get0 KSx_b114) h8.1 dX3_place_34 ?_
  refine gf_RX3_93 (blk_get0 (blk_of h8.2)) dX3_place_37 ?_
  refine c_iconst dX3_place_40 (v := 5) rfl ?_
  refine c_iald (blk_get0 (blk_sub (C := [(20, 9)]) (i := 1) (blk_of h8.2) rfl)) (by decide) dX3_place_41 ?_
  refine c_callVv (as := [.inr (ix (M4 114 9)), .inl (M4 (ix (M4 114 10) + 1) (ix x1)), .inl (M4 (ix (M4 114 9) + 1) 5)]) (rs := []) (ev_X6_runBatch 3 (Nat.le_refl _) (120 + (1 + 8 * ix (x2 + 1))) (blk23_at h1) (ix (M4 114 9)) (blk_of h5.2) (M4 (ix (M4 114 10) + 1) (ix x1)) (M4 (ix (M4 114 9) + 1) 5) M4) rfl (Nat.lt_of_lt_of_le (by decide) hlev) mw_X6_runBatch wi_X6_runBatch wv_X6_runBatch (blk_get0 (blk23_at h1)) (by decide) rfl wl_RX3_96 mn_X6_runBatch rfl (by decide) (Nat.le_of_ble_eq_true rfl) rfl dX3_place_42 (fun v9 M10 _ => ?_)
  refine c_aload_n (i := 3) dX3_place_45 rfl rfl ?_
  refine c_sipush dX3_place_46 (v := 255) rfl ?_
  refine c_callV (as := [.inl 255]) (rs := []) (ev_X6_latest 1 (Nat.le_refl _) (120 + (1 + 8 * ix (x2 + 1))) (blk23_at h1) 255 M10) rfl (Nat.lt_of_lt_of_le (by decide) hlev) mw_X6_latest wi_X6_latest wv_X6_latest (blk_get0 (blk23_at h1)) (by decide) rfl wl_RX3_100 mn_X6_latest rfl (by decide) (Nat.le_of_ble_eq_true rfl) ⟨_, rfl⟩ dX3_place_49 (fun v11 M12 _ => ?_)
  refine c_aload_n (i := 0) dX3_place_52 rfl rfl ?_
  refine gf_RX3_50 (blk_get0 KSx_b114) dX3_place_53 ?_
  refine c_icmp_lt (tgt := 60) dX3_place_56 rfl (fun h13 => ?_) (fun h13 => ?_)
  · refine c_aload_n (i := 0) dX3_place_60 rfl rfl ?_
    refine gf_RX3_15 (blk_get0 KSx_b114) dX3_place_61 ?_
    refine c_iload_n (i := 2) dX3_place_64 rfl rfl ?_
    refine c_iload_n (i := 1) dX3_place_65 rfl rfl ?_
    refine c_chk (fun h14 => ?_)
    refine c_iast (blk_get0 (blk_sub (C := [(20, 6)]) (i := 2) KSx_b114 rfl)) h14 dX3_place_66 ?_
    refine c_wrt (fun M15 => ?_)
    refine c_aload_n (i := 0) dX3_place_67 rfl rfl ?_
    refine c_dup dX3_place_68 ?_
    refine gf_RX3_54 (blk_get0 KSx_b114) dX3_place_69 ?_
    refine c_iconst dX3_place_72 (v := 1) rfl ?_
    refine c_iload_n (i := 1) dX3_place_73 rfl rfl ?_
    refine c_ishl dX3_place_74 ?_
    refine c_ior dX3_place_75 ?_
    refine pf_RX3_54 (blk_get0 KSx_b114) dX3_place_76 ?_
    refine c_wrt (fun M16 => ?_)
    refine c_aload_n (i := 0) dX3_place_79 rfl rfl ?_
    refine c_iload_n (i := 2) dX3_place_80 rfl rfl ?_
    refine c_iconst dX3_place_81 (v := 1) rfl ?_
    refine c_iadd dX3_place_82 ?_
    refine c_callVv (as := [.inl (x2 + 1)]) (rs := []) (hrec (x2 + 1) M16) rfl hd2 mw_X3_extend wi_X3_extend wv_X3_extend (blk_get0 KSx_b114) (by decide) rfl wl_RX3_68 mn_X3_extend rfl (by decide) (Nat.le_of_ble_eq_true rfl) rfl dX3_place_83 (fun v17 M18 _ => ?_)
    refine c_aload_n (i := 0) dX3_place_86 rfl rfl ?_
    refine c_dup dX3_place_87 ?_
    refine gf_RX3_54 (blk_get0 KSx_b114) dX3_place_88 ?_
    refine c_iconst dX3_place_91 (v := 1) rfl ?_
    refine c_iload_n (i := 1) dX3_place_92 rfl rfl ?_
    refine c_ishl dX3_place_93 ?_
    refine c_iconst dX3_place_94 (v := (-1)) rfl ?_
    refine c_ixor dX3_place_95 ?_
    refine c_iand dX3_place_96 ?_
    refine pf_RX3_54 (blk_get0 KSx_b114) dX3_place_97 ?_
    refine c_wrt (fun M19 => ?_)
    exact c_vret rfl dX3_place_100
  · exact c_vret rfl dX3_place_59
def j_X3_extend_17 (rec : Int32 → Mem → Option (Int32 × Mem)) (x1 : Int32) (M : Mem) : Option (Int32 × Mem) := bnd (f_X3_keepOrder x1 M) (fun _ M4 => some (0, M4))
set_option maxRecDepth 20000 in
set_option maxHeartbeats 2000000 in
theorem jo_X3_extend_17 (d : Nat) (hlev : 5 ≤ d) (d2 : Nat) (hd2 : d2 + 1 < d) (rec : Int32 → Mem → Option (Int32 × Mem)) (hrec : ∀ (x1 : Int32) (M : Mem), Ev KSx ST1 mdX3_extend d2 [.inr 114, .inl x1] M (rec x1 M)) (x1 : Int32) (M : Mem) : CorM KSx ST1 RX3 cX3_extend 4 none d 17 [(0, .inr 114), (1, .inl x1)] [] M (j_X3_extend_17 rec x1 M) := by
  unfold j_X3_extend_17
  refine c_aload_n (i := 0) dX3_extend_17 rfl rfl ?_
  refine c_iload_n (i := 1) dX3_extend_18 rfl rfl ?_
  refine c_callVv (as := [.inl x1]) (rs := []) (ev_X3_keepOrder 2 (Nat.le_refl _) x1 M) rfl (Nat.lt_of_lt_of_le (by decide) hlev) mw_X3_keepOrder wi_X3_keepOrder wv_X3_keepOrder (blk_get0 KSx_b114) (by decide) rfl wl_RX3_86 mn_X3_keepOrder rfl (by decide) (Nat.le_of_ble_eq_true rfl) rfl dX3_extend_19 (fun v3 M4 _ => ?_)
  exact c_vret rfl dX3_extend_22
def j_X3_extend_79 (rec : Int32 → Mem → Option (Int32 × Mem)) (x1 : Int32) (x2 : Int32) (K25 : Int32 × Mem → Option (Int32 × Mem)) (M : Mem) : Option (Int32 × Mem) := K25 (x2 + 1, M)
set_option maxRecDepth 20000 in
set_option maxHeartbeats 2000000 in
theorem jo_X3_extend_79 (d : Nat) (hlev : 5 ≤ d) (d2 : Nat) (hd2 : d2 + 1 < d) (rec : Int32 → Mem → Option (Int32 × Mem)) (hrec : ∀ (x1 : Int32) (M : Mem), Ev KSx ST1 mdX3_extend d2 [.inr 114, .inl x1] M (rec x1 M)) (x1 : Int32) (x2 : Int32) (K25 : Int32 × Mem → Option (Int32 × Mem)) (hK25 : ∀ s : Int32 × Mem, CorM KSx ST1 RX3 cX3_extend 4 none d 25 [(0, .inr 114), (1, .inl x1), (2, .inl s.1)] [] s.2 (K25 s)) (M : Mem) : CorM KSx ST1 RX3 cX3_extend 4 none d 79 [(0, .inr 114), (1, .inl x1), (2, .inl x2)] [] M (j_X3_extend_79 rec x1 x2 K25 M) := by
  unfold j_X3_extend_79
  refine c_iinc dX3_extend_79 rfl (v := 1) rfl (by decide) (ls2 := [(0, .inr 114), (1, .inl x1), (2, .inl (x2 + 1))]) rfl ?_
  refine c_goto (tgt := 25) dX3_extend_82 rfl ?_
  refine c_keep [0, 1, 2] (ls2 := [(0, .inr 114), (1, .inl x1), (2, .inl (x2 + 1))]) rfl ?_
  exact hK25 (x2 + 1, M)
def l_X3_extend_25 (rec : Int32 → Mem → Option (Int32 × Mem)) (x1 : Int32) (K25 : Int32 × Mem → Option (Int32 × Mem)) : Int32 × Mem → Option (Int32 × Mem) := fun s => match s with
  | (x2, M) => if ¬ M 114 10 < 0 ∧ blkD KSx (ix (M 114 10)) blk0 then if (M (ix (M 114 10)) 1) ≤ x2 then some (0, M) else if ¬ (if (((M 114 4) >>> (x2 &&& 31)) &&& 1) = 0 then (0 : Int32) else (1 : Int32)) = 0 then j_X3_extend_79 rec x1 x2 K25 M else if inb x2 6 then if ¬ ((M 117 (ix x2)) &&& ((M 114 4) ^^^ (-1))) = 0 then j_X3_extend_79 rec x1 x2 K25 M else bnd (b_X3_place rec x2 x1 M) (fun _ M13 => j_X3_extend_79 rec x1 x2 K25 M13) else none else none
set_option maxRecDepth 20000 in
set_option maxHeartbeats 2000000 in
theorem lo_X3_extend_25 (d : Nat) (hlev : 5 ≤ d) (d2 : Nat) (hd2 : d2 + 1 < d) (rec : Int32 → Mem → Option (Int32 × Mem)) (hrec : ∀ (x1 : Int32) (M : Mem), Ev KSx ST1 mdX3_extend d2 [.inr 114, .inl x1] M (rec x1 M)) (x1 : Int32) (s : Int32 × Mem) : CorM KSx ST1 RX3 cX3_extend 4 none d 25 [(0, .inr 114), (1, .inl x1), (2, .inl s.1)] [] s.2 (loopC (l_X3_extend_25 rec x1) fuelL s) := by
  refine c_loop (L := fun s : Int32 × Mem => [(0, .inr 114), (1, .inl x1), (2, .inl s.1)]) (Mf := fun s : Int32 × Mem => s.2) (fun K25 hK25 s => ?_) fuelL s
  obtain ⟨x2, M⟩ := s
  show CorM KSx ST1 RX3 cX3_extend 4 none d 25 [(0, .inr 114), (1, .inl x1), (2, .inl x2)] [] M (l_X3_extend_25 rec x1 K25 (x2, M))
  unfold l_X3_extend_25
  refine c_iload_n (i := 2) dX3_extend_25 rfl rfl ?_
  refine c_aload_n (i := 0) dX3_extend_26 rfl rfl ?_
  refine c_chk (fun h6 => ?_)
  refine gf_RX3_48 (blk_get0 KSx_b114) h6.1 dX3_extend_27 ?_
  refine gf_RX3_72 (blk_get0 (blk_of h6.2)) dX3_extend_30 ?_
  refine c_icmp_ge (tgt := 85) dX3_extend_33 rfl (fun h7 => ?_) (fun h7 => ?_)
  · exact c_vret rfl dX3_extend_85
  · refine c_aload_n (i := 0) dX3_extend_36 rfl rfl ?_
    refine gf_RX3_54 (blk_get0 KSx_b114) dX3_extend_37 ?_
    refine c_iload_n (i := 2) dX3_extend_40 rfl rfl ?_
    refine c_ishr dX3_extend_41 ?_
    refine c_iconst dX3_extend_42 (v := 1) rfl ?_
    refine c_iand dX3_extend_43 ?_
    have J_z8 : ∀ z8 : Int32, isB z8 → CorM KSx ST1 RX3 cX3_extend 4 none d 52 [(0, .inr 114), (1, .inl x1), (2, .inl x2)] [.inl z8] M (if ¬ z8 = 0 then j_X3_extend_79 rec x1 x2 K25 M else if inb x2 6 then if ¬ ((M 117 (ix x2)) &&& ((M 114 4) ^^^ (-1))) = 0 then j_X3_extend_79 rec x1 x2 K25 M else bnd (b_X3_place rec x2 x1 M) (fun _ M13 => j_X3_extend_79 rec x1 x2 K25 M13) else none) := by
      intro z8 h_z8
      refine c_istore_n (i := 3) dX3_extend_52 rfl (by decide) (ls2 := [(0, .inr 114), (1, .inl x1), (2, .inl x2), (3, .inl z8)]) rfl ?_
      refine c_iload_n (i := 3) dX3_extend_53 rfl rfl ?_
      refine c_if_ne (tgt := 79) dX3_extend_54 rfl (fun h9 => ?_) (fun h9 => ?_)
      · refine c_keep [0, 1, 2] (ls2 := [(0, .inr 114), (1, .inl x1), (2, .inl x2)]) rfl ?_
        exact jo_X3_extend_79 d hlev d2 hd2 rec hrec x1 x2 K25 hK25 M
      · refine c_aload_n (i := 0) dX3_extend_57 rfl rfl ?_
        refine gf_RX3_18 (blk_get0 KSx_b114) dX3_extend_58 ?_
        refine c_iload_n (i := 2) dX3_extend_61 rfl rfl ?_
        refine c_chk (fun h10 => ?_)
        refine c_iald (blk_get0 (blk_sub (C := [(20, 6)]) (i := 3) KSx_b114 rfl)) h10 dX3_extend_62 ?_
        refine c_aload_n (i := 0) dX3_extend_63 rfl rfl ?_
        refine gf_RX3_54 (blk_get0 KSx_b114) dX3_extend_64 ?_
        refine c_iconst dX3_extend_67 (v := (-1)) rfl ?_
        refine c_ixor dX3_extend_68 ?_
        refine c_iand dX3_extend_69 ?_
        refine c_if_ne (tgt := 79) dX3_extend_70 rfl (fun h11 => ?_) (fun h11 => ?_)
        · refine c_keep [0, 1, 2] (ls2 := [(0, .inr 114), (1, .inl x1), (2, .inl x2)]) rfl ?_
          exact jo_X3_extend_79 d hlev d2 hd2 rec hrec x1 x2 K25 hK25 M
        · refine c_aload_n (i := 0) dX3_extend_73 rfl rfl ?_
          refine c_iload_n (i := 2) dX3_extend_74 rfl rfl ?_
          refine c_iload_n (i := 1) dX3_extend_75 rfl rfl ?_
          refine c_callVv (as := [.inl x2, .inl x1]) (rs := []) (bo_X3_place (d - 1) (by omega) d2 (by omega) rec hrec x2 x1 M) rfl (by omega) mw_X3_place wi_X3_place wv_X3_place (blk_get0 KSx_b114) (by decide) rfl wl_RX3_89 mn_X3_place rfl (by decide) (Nat.le_of_ble_eq_true rfl) rfl dX3_extend_76 (fun v12 M13 _ => ?_)
          refine c_keep [0, 1, 2] (ls2 := [(0, .inr 114), (1, .inl x1), (2, .inl x2)]) rfl ?_
          exact jo_X3_extend_79 d hlev d2 hd2 rec hrec x1 x2 K25 hK25 M13
    refine c_val (b := (((M 114 4) >>> (x2 &&& 31)) &&& 1) = 0) (v1 := (0 : Int32)) (v2 := (1 : Int32)) (F := fun z8 => if ¬ z8 = 0 then j_X3_extend_79 rec x1 x2 K25 M else if inb x2 6 then if ¬ ((M 117 (ix x2)) &&& ((M 114 4) ^^^ (-1))) = 0 then j_X3_extend_79 rec x1 x2 K25 M else bnd (b_X3_place rec x2 x1 M) (fun _ M13 => j_X3_extend_79 rec x1 x2 K25 M13) else none) (fun h14 => ?_) (fun h14 => ?_)
    · refine c_T h14 (c_if_eq (tgt := 51) dX3_extend_44 rfl (fun _ => ?_) (fun q => absurd h14 q))
      refine c_iconst dX3_extend_51 (v := 0) rfl ?_
      refine c_keep [0, 1, 2] (ls2 := [(0, .inr 114), (1, .inl x1), (2, .inl x2)]) rfl ?_
      exact J_z8 0 (Or.inl rfl)
    · refine c_Fl h14 (c_if_eq (tgt := 51) dX3_extend_44 rfl (fun q => absurd q h14) (fun _ => ?_))
      refine c_iconst dX3_extend_47 (v := 1) rfl ?_
      refine c_goto (tgt := 52) dX3_extend_48 rfl ?_
      refine c_keep [0, 1, 2] (ls2 := [(0, .inr 114), (1, .inl x1), (2, .inl x2)]) rfl ?_
      exact J_z8 1 (Or.inr rfl)
def b_X3_extend (rec : Int32 → Mem → Option (Int32 × Mem)) (x1 : Int32) (M : Mem) : Option (Int32 × Mem) := if ¬ M 114 10 < 0 ∧ blkD KSx (ix (M 114 10)) blk0 then if (M (ix (M 114 10)) 1) ≤ x1 then j_X3_extend_17 rec x1 M else if x1 < 6 then loopC (l_X3_extend_25 rec x1) fuelL (0, M) else j_X3_extend_17 rec x1 M else none
set_option maxRecDepth 20000 in
set_option maxHeartbeats 2000000 in
theorem bo_X3_extend (d : Nat) (hlev : 5 ≤ d) (d2 : Nat) (hd2 : d2 + 1 < d) (rec : Int32 → Mem → Option (Int32 × Mem)) (hrec : ∀ (x1 : Int32) (M : Mem), Ev KSx ST1 mdX3_extend d2 [.inr 114, .inl x1] M (rec x1 M)) (x1 : Int32) (M : Mem) : Ev KSx ST1 mdX3_extend d [.inr 114, .inl x1] M (b_X3_extend rec x1 M) := by
  refine ev_of rfl (Nat.le_of_ble_eq_true rfl) ?_
  show CorM KSx ST1 RX3 cX3_extend 4 none d 0 [(0, .inr 114), (1, .inl x1)] [] M (b_X3_extend rec x1 M)
  unfold b_X3_extend
  refine c_iload_n (i := 1) dX3_extend_0 rfl rfl ?_
  refine c_aload_n (i := 0) dX3_extend_1 rfl rfl ?_
  refine c_chk (fun h1 => ?_)
  refine gf_RX3_48 (blk_get0 KSx_b114) h1.1 dX3_extend_2 ?_
  refine gf_RX3_72 (blk_get0 (blk_of h1.2)) dX3_extend_5 ?_
  refine c_icmp_ge (tgt := 17) dX3_extend_8 rfl (fun h2 => ?_) (fun h2 => ?_)
  · refine c_keep [0, 1] (ls2 := [(0, .inr 114), (1, .inl x1)]) rfl ?_
    exact jo_X3_extend_17 d hlev d2 hd2 rec hrec x1 M
  · refine c_iload_n (i := 1) dX3_extend_11 rfl rfl ?_
    refine c_bipush dX3_extend_12 (v := 6) rfl ?_
    refine c_icmp_lt (tgt := 23) dX3_extend_14 rfl (fun h5 => ?_) (fun h5 => ?_)
    · refine c_iconst dX3_extend_23 (v := 0) rfl ?_
      refine c_istore_n (i := 2) dX3_extend_24 rfl (by decide) (ls2 := [(0, .inr 114), (1, .inl x1), (2, .inl 0)]) rfl ?_
      refine c_keep [0, 1, 2] (ls2 := [(0, .inr 114), (1, .inl x1), (2, .inl 0)]) rfl ?_
      exact lo_X3_extend_25 d hlev d2 hd2 rec hrec x1 (0, M)
    · refine c_keep [0, 1] (ls2 := [(0, .inr 114), (1, .inl x1)]) rfl ?_
      exact jo_X3_extend_17 d hlev d2 hd2 rec hrec x1 M
def f_X3_extend : Nat → Int32 → Mem → Option (Int32 × Mem)
  | 0 => fun _ _ => none
  | k + 1 => b_X3_extend (f_X3_extend k)
theorem ev_X3_extend (k : Nat) : ∀ (d : Nat), 5 + 2 * k ≤ d → ∀ (x1 : Int32) (M : Mem), Ev KSx ST1 mdX3_extend d [.inr 114, .inl x1] M (f_X3_extend k x1 M) := by
  induction k with
  | zero => intro d _ x1 M l wp sz r M2 _ _ _ h; cases h
  | succ k ih => intro d hd x1 M; exact bo_X3_extend d (by omega) (5 + 2 * k) (by omega) (f_X3_extend k) (fun y1 M2 => ih (5 + 2 * k) (Nat.le_refl _) y1 M2) x1 M

abbrev mdX3_plan : MD := (yX3_plan, cX3_plan, 3, none)
theorem mw_X3_plan : mdW mdX3_plan := ⟨wm_X3_plan, w0_RX3, by decide, by decide⟩
theorem mn_X3_plan : (parseMethodDescriptor yX3_plan.desc).map (fun d => d.parameters.length) = some 2 := by decide +kernel
def f_X3_plan (t1 : Nat) (t2 : Nat) (M : Mem) : Option (Int32 × Mem) := if (M 114 0) = 0 then wrt (up M 114 0 1) (fun M2 => wrt (up M2 114 9 (nI t1)) (fun M3 => wrt (up M3 114 10 (nI (t2 + 17))) (fun M4 => wrt (up M4 114 1 2147483647) (fun M5 => wrt (up M5 114 4 0) (fun M6 => if inb 0 7 then bnd (f_X6_copyFrom (120 + (1 + 8 * ix 0)) (t2 + 4) M6) (fun _ M9 => bnd (f_X3_findPredecessors M9) (fun _ M11 => bnd (f_X3_extend 8 0 M11) (fun _ M13 => some (0, M13)))) else none))))) else some (0, M)
set_option maxRecDepth 20000 in
set_option maxHeartbeats 2000000 in
theorem ev_X3_plan (d : Nat) (hlev : 22 ≤ d) (t1 : Nat) (h_t1 : blkAt KSx t1 blk4) (t2 : Nat) (h_t2 : blkAt KSx t2 blk5) (M : Mem) : Ev KSx ST1 mdX3_plan d [.inr 114, .inr t1, .inr t2] M (f_X3_plan t1 t2 M) := by
  refine ev_of rfl (Nat.le_of_ble_eq_true rfl) ?_
  show CorM KSx ST1 RX3 cX3_plan 3 none d 0 [(0, .inr 114), (1, .inr t1), (2, .inr t2)] [] M (f_X3_plan t1 t2 M)
  unfold f_X3_plan
  refine c_aload_n (i := 0) dX3_plan_0 rfl rfl ?_
  refine gf_RX3_34 (blk_get0 KSx_b114) dX3_plan_1 ?_
  refine c_if_eq (tgt := 8) dX3_plan_4 rfl (fun h1 => ?_) (fun h1 => ?_)
  · refine c_aload_n (i := 0) dX3_plan_8 rfl rfl ?_
    refine c_iconst dX3_plan_9 (v := 1) rfl ?_
    refine pf_RX3_34 (blk_get0 KSx_b114) (Or.inr rfl) dX3_plan_10 ?_
    refine c_wrt (fun M2 => ?_)
    refine c_aload_n (i := 0) dX3_plan_13 rfl rfl ?_
    refine c_aload_n (i := 1) dX3_plan_14 rfl rfl ?_
    refine pf_RX3_38 (blk_get0 KSx_b114) (KSx_lt h_t1) dX3_plan_15 ?_
    refine c_wrt (fun M3 => ?_)
    refine c_aload_n (i := 0) dX3_plan_18 rfl rfl ?_
    refine c_aload_n (i := 2) dX3_plan_19 rfl rfl ?_
    refine gf_RX3_42 (blk_get0 h_t2) dX3_plan_20 ?_
    refine pf_RX3_48 (blk_get0 KSx_b114) (KSx_lt (blk_sub (C := blk0) (i := 17) h_t2 rfl)) dX3_plan_23 ?_
    refine c_wrt (fun M4 => ?_)
    refine c_aload_n (i := 0) dX3_plan_26 rfl rfl ?_
    refine c_ldc wd_RX3_49 dX3_plan_27 ?_
    refine pf_RX3_50 (blk_get0 KSx_b114) dX3_plan_29 ?_
    refine c_wrt (fun M5 => ?_)
    refine c_aload_n (i := 0) dX3_plan_32 rfl rfl ?_
    refine c_iconst dX3_plan_33 (v := 0) rfl ?_
    refine pf_RX3_54 (blk_get0 KSx_b114) dX3_plan_34 ?_
    refine c_wrt (fun M6 => ?_)
    refine c_aload_n (i := 0) dX3_plan_37 rfl rfl ?_
    refine gf_RX3_29 (blk_get0 KSx_b114) dX3_plan_38 ?_
    refine c_iconst dX3_plan_41 (v := 0) rfl ?_
    refine c_chk (fun h7 => ?_)
    refine c_aald23 (blk_get0 (blk_sub (C := [(23, 7)]) (i := 6) KSx_b114 rfl)) h7 dX3_plan_42 ?_
    refine c_aload_n (i := 2) dX3_plan_43 rfl rfl ?_
    refine gf_RX3_57 (blk_get0 h_t2) dX3_plan_44 ?_
    refine c_callVv (as := [.inr (t2 + 4)]) (rs := []) (ev_X6_copyFrom 1 (Nat.le_refl _) (120 + (1 + 8 * ix 0)) (blk23_at h7) (t2 + 4) (blk_sub (C := blk6) (i := 4) h_t2 rfl) M6) rfl (Nat.lt_of_lt_of_le (by decide) hlev) mw_X6_copyFrom wi_X6_copyFrom wv_X6_copyFrom (blk_get0 (blk23_at h7)) (by decide) rfl wl_RX3_61 mn_X6_copyFrom rfl (by decide) (Nat.le_of_ble_eq_true rfl) rfl dX3_plan_47 (fun v8 M9 _ => ?_)
    refine c_aload_n (i := 0) dX3_plan_50 rfl rfl ?_
    refine c_callVv (as := []) (rs := []) (ev_X3_findPredecessors 1 (Nat.le_refl _) M9) rfl (Nat.lt_of_lt_of_le (by decide) hlev) mw_X3_findPredecessors wi_X3_findPredecessors wv_X3_findPredecessors (blk_get0 KSx_b114) (by decide) rfl wl_RX3_65 mn_X3_findPredecessors rfl (by decide) (Nat.le_of_ble_eq_true rfl) rfl dX3_plan_51 (fun v10 M11 _ => ?_)
    refine c_aload_n (i := 0) dX3_plan_54 rfl rfl ?_
    refine c_iconst dX3_plan_55 (v := 0) rfl ?_
    refine c_callVv (as := [.inl 0]) (rs := []) (ev_X3_extend 8 21 (by decide) 0 M11) rfl (Nat.lt_of_lt_of_le (by decide) hlev) mw_X3_extend wi_X3_extend wv_X3_extend (blk_get0 KSx_b114) (by decide) rfl wl_RX3_68 mn_X3_extend rfl (by decide) (Nat.le_of_ble_eq_true rfl) rfl dX3_plan_56 (fun v12 M13 _ => ?_)
    exact c_vret rfl dX3_plan_59
  · exact c_vret rfl dX3_plan_7

abbrev mdX3_applyTo : MD := (yX3_applyTo, cX3_applyTo, 3, none)
theorem mw_X3_applyTo : mdW mdX3_applyTo := ⟨wm_X3_applyTo, w0_RX3, by decide, by decide⟩
theorem mn_X3_applyTo : (parseMethodDescriptor yX3_applyTo.desc).map (fun d => d.parameters.length) = some 1 := by decide +kernel
def l_X3_applyTo_2 (t1 : Nat) (K2 : Int32 × Mem → Option (Int32 × Mem)) : Int32 × Mem → Option (Int32 × Mem) := fun s => match s with
  | (x2, M) => if (M t1 1) ≤ x2 then if cpOk 6 16 0 0 (M t1 1) then wrt (cpy M 118 0 (t1 + 1) 0 (M t1 1)) (fun M3 => some (0, M3)) else none else if inb x2 6 then if inb (M 115 (ix x2)) 16 then if inb x2 6 then wrt (up M 118 (ix x2) (M (t1 + 1) (ix (M 115 (ix x2))))) (fun M7 => K2 (x2 + 1, M7)) else none else none else none
set_option maxRecDepth 20000 in
set_option maxHeartbeats 2000000 in
theorem lo_X3_applyTo_2 (d : Nat) (hlev : 1 ≤ d) (t1 : Nat) (h_t1 : blkAt KSx t1 blk0) (s : Int32 × Mem) : CorM KSx ST1 RX3 cX3_applyTo 3 none d 2 [(0, .inr 114), (1, .inr t1), (2, .inl s.1)] [] s.2 (loopC (l_X3_applyTo_2 t1) fuelL s) := by
  refine c_loop (L := fun s : Int32 × Mem => [(0, .inr 114), (1, .inr t1), (2, .inl s.1)]) (Mf := fun s : Int32 × Mem => s.2) (fun K2 hK2 s => ?_) fuelL s
  obtain ⟨x2, M⟩ := s
  show CorM KSx ST1 RX3 cX3_applyTo 3 none d 2 [(0, .inr 114), (1, .inr t1), (2, .inl x2)] [] M (l_X3_applyTo_2 t1 K2 (x2, M))
  unfold l_X3_applyTo_2
  refine c_iload_n (i := 2) dX3_applyTo_2 rfl rfl ?_
  refine c_aload_n (i := 1) dX3_applyTo_3 rfl rfl ?_
  refine gf_RX3_72 (blk_get0 h_t1) dX3_applyTo_4 ?_
  refine c_icmp_ge (tgt := 33) dX3_applyTo_7 rfl (fun h1 => ?_) (fun h1 => ?_)
  · refine c_aload_n (i := 0) dX3_applyTo_33 rfl rfl ?_
    refine gf_RX3_21 (blk_get0 KSx_b114) dX3_applyTo_34 ?_
    refine c_iconst dX3_applyTo_37 (v := 0) rfl ?_
    refine c_aload_n (i := 1) dX3_applyTo_38 rfl rfl ?_
    refine gf_RX3_77 (blk_get0 h_t1) dX3_applyTo_39 ?_
    refine c_iconst dX3_applyTo_42 (v := 0) rfl ?_
    refine c_aload_n (i := 1) dX3_applyTo_43 rfl rfl ?_
    refine gf_RX3_72 (blk_get0 h_t1) dX3_applyTo_44 ?_
    refine c_chk (fun h2 => ?_)
    refine c_copy wl_RX3_104 (blk_get0 (blk_sub (C := [(20, 6)]) (i := 4) KSx_b114 rfl)) (blk_get0 (blk_sub (C := [(20, 16)]) (i := 1) h_t1 rfl)) h2 (Nat.lt_of_lt_of_le (by decide) hlev) (Nat.le_of_ble_eq_true rfl) dX3_applyTo_47 ?_
    refine c_wrt (fun M3 => ?_)
    exact c_vret rfl dX3_applyTo_50
  · refine c_aload_n (i := 0) dX3_applyTo_10 rfl rfl ?_
    refine gf_RX3_21 (blk_get0 KSx_b114) dX3_applyTo_11 ?_
    refine c_iload_n (i := 2) dX3_applyTo_14 rfl rfl ?_
    refine c_aload_n (i := 1) dX3_applyTo_15 rfl rfl ?_
    refine gf_RX3_77 (blk_get0 h_t1) dX3_applyTo_16 ?_
    refine c_aload_n (i := 0) dX3_applyTo_19 rfl rfl ?_
    refine gf_RX3_9 (blk_get0 KSx_b114) dX3_applyTo_20 ?_
    refine c_iload_n (i := 2) dX3_applyTo_23 rfl rfl ?_
    refine c_chk (fun h4 => ?_)
    refine c_iald (blk_get0 (blk_sub (C := [(20, 6)]) (i := 1) KSx_b114 rfl)) h4 dX3_applyTo_24 ?_
    refine c_chk (fun h5 => ?_)
    refine c_iald (blk_get0 (blk_sub (C := [(20, 16)]) (i := 1) h_t1 rfl)) h5 dX3_applyTo_25 ?_
    refine c_chk (fun h6 => ?_)
    refine c_iast (blk_get0 (blk_sub (C := [(20, 6)]) (i := 4) KSx_b114 rfl)) h6 dX3_applyTo_26 ?_
    refine c_wrt (fun M7 => ?_)
    refine c_iinc dX3_applyTo_27 rfl (v := 1) rfl (by decide) (ls2 := [(0, .inr 114), (1, .inr t1), (2, .inl (x2 + 1))]) rfl ?_
    refine c_goto (tgt := 2) dX3_applyTo_30 rfl ?_
    refine c_keep [0, 1, 2] (ls2 := [(0, .inr 114), (1, .inr t1), (2, .inl (x2 + 1))]) rfl ?_
    exact hK2 (x2 + 1, M7)
def f_X3_applyTo (t1 : Nat) (M : Mem) : Option (Int32 × Mem) := loopC (l_X3_applyTo_2 t1) fuelL (0, M)
set_option maxRecDepth 20000 in
set_option maxHeartbeats 2000000 in
theorem ev_X3_applyTo (d : Nat) (hlev : 1 ≤ d) (t1 : Nat) (h_t1 : blkAt KSx t1 blk0) (M : Mem) : Ev KSx ST1 mdX3_applyTo d [.inr 114, .inr t1] M (f_X3_applyTo t1 M) := by
  refine ev_of rfl (Nat.le_of_ble_eq_true rfl) ?_
  show CorM KSx ST1 RX3 cX3_applyTo 3 none d 0 [(0, .inr 114), (1, .inr t1)] [] M (f_X3_applyTo t1 M)
  unfold f_X3_applyTo
  refine c_iconst dX3_applyTo_0 (v := 0) rfl ?_
  refine c_istore_n (i := 2) dX3_applyTo_1 rfl (by decide) (ls2 := [(0, .inr 114), (1, .inr t1), (2, .inl 0)]) rfl ?_
  refine c_keep [0, 1, 2] (ls2 := [(0, .inr 114), (1, .inr t1), (2, .inl 0)]) rfl ?_
  exact lo_X3_applyTo_2 d hlev t1 h_t1 (0, M)

abbrev mdX3_chainLength : MD := (yX3_chainLength, cX3_chainLength, 6, (some .int))
theorem mw_X3_chainLength : mdW mdX3_chainLength := ⟨wm_X3_chainLength, w0_RX3, by decide, by decide⟩
theorem mn_X3_chainLength : (parseMethodDescriptor yX3_chainLength.desc).map (fun d => d.parameters.length) = some 2 := by decide +kernel
def j_X3_chainLength_86 (t1 : Nat) (t2 : Nat) (x3 : Int32) (x4 : Int32) (x5 : Int32) (K5 : Int32 × Int32 × Mem → Option (Int32 × Mem)) (K25 : Int32 × Mem → Option (Int32 × Mem)) (M : Mem) : Option (Int32 × Mem) := K25 (x5 + 1, M)
set_option maxRecDepth 20000 in
set_option maxHeartbeats 2000000 in
theorem jo_X3_chainLength_86 (d : Nat) (hlev : 1 ≤ d) (t1 : Nat) (h_t1 : blkAt KSx t1 blk4) (t2 : Nat) (h_t2 : blkAt KSx t2 blk0) (x3 : Int32) (x4 : Int32) (x5 : Int32) (K5 : Int32 × Int32 × Mem → Option (Int32 × Mem)) (hK5 : ∀ s : Int32 × Int32 × Mem, CorM KSx ST1 RX3 cX3_chainLength 6 (some .int) d 5 [(0, .inr 114), (1, .inr t1), (2, .inr t2), (3, .inl s.1), (4, .inl s.2.1)] [] s.2.2 (K5 s)) (K25 : Int32 × Mem → Option (Int32 × Mem)) (hK25 : ∀ s : Int32 × Mem, CorM KSx ST1 RX3 cX3_chainLength 6 (some .int) d 25 [(0, .inr 114), (1, .inr t1), (2, .inr t2), (3, .inl x3), (4, .inl x4), (5, .inl s.1)] [] s.2 (K25 s)) (M : Mem) : CorM KSx ST1 RX3 cX3_chainLength 6 (some .int) d 86 [(0, .inr 114), (1, .inr t1), (2, .inr t2), (3, .inl x3), (4, .inl x4), (5, .inl x5)] [] M (j_X3_chainLength_86 t1 t2 x3 x4 x5 K5 K25 M) := by
  unfold j_X3_chainLength_86
  refine c_iinc dX3_chainLength_86 rfl (v := 1) rfl (by decide) (ls2 := [(0, .inr 114), (1, .inr t1), (2, .inr t2), (3, .inl x3), (4, .inl x4), (5, .inl (x5 + 1))]) rfl ?_
  refine c_goto (tgt := 25) dX3_chainLength_89 rfl ?_
  refine c_keep [0, 1, 2, 3, 4, 5] (ls2 := [(0, .inr 114), (1, .inr t1), (2, .inr t2), (3, .inl x3), (4, .inl x4), (5, .inl (x5 + 1))]) rfl ?_
  exact hK25 (x5 + 1, M)
def l_X3_chainLength_25 (t1 : Nat) (t2 : Nat) (x3 : Int32) (x4 : Int32) (K5 : Int32 × Int32 × Mem → Option (Int32 × Mem)) (K25 : Int32 × Mem → Option (Int32 × Mem)) : Int32 × Mem → Option (Int32 × Mem) := fun s => match s with
  | (x5, M) => if x4 ≤ x5 then if inb x4 16 then K5 (imax x3 (M 119 (ix x4)), x4 + 1, M) else none else if inb x5 16 then if inb x4 16 then if (M 119 (ix x5)) < (M 119 (ix x4)) then j_X3_chainLength_86 t1 t2 x3 x4 x5 K5 K25 M else if inb x5 16 then if inb x4 16 then bnd (f_X4_areConflicting t1 (M (t2 + 1) (ix x5)) (M (t2 + 1) (ix x4)) M) (fun v11 M12 => if v11 = 0 then j_X3_chainLength_86 t1 t2 x3 x4 x5 K5 K25 M12 else if inb x5 16 then if inb x4 16 then wrt (up M12 119 (ix x4) ((M12 119 (ix x5)) + 1)) (fun M16 => j_X3_chainLength_86 t1 t2 x3 x4 x5 K5 K25 M16) else none else none) else none else none else none else none
set_option maxRecDepth 20000 in
set_option maxHeartbeats 2000000 in
theorem lo_X3_chainLength_25 (d : Nat) (hlev : 1 ≤ d) (t1 : Nat) (h_t1 : blkAt KSx t1 blk4) (t2 : Nat) (h_t2 : blkAt KSx t2 blk0) (x3 : Int32) (x4 : Int32) (K5 : Int32 × Int32 × Mem → Option (Int32 × Mem)) (hK5 : ∀ s : Int32 × Int32 × Mem, CorM KSx ST1 RX3 cX3_chainLength 6 (some .int) d 5 [(0, .inr 114), (1, .inr t1), (2, .inr t2), (3, .inl s.1), (4, .inl s.2.1)] [] s.2.2 (K5 s)) (s : Int32 × Mem) : CorM KSx ST1 RX3 cX3_chainLength 6 (some .int) d 25 [(0, .inr 114), (1, .inr t1), (2, .inr t2), (3, .inl x3), (4, .inl x4), (5, .inl s.1)] [] s.2 (loopC (l_X3_chainLength_25 t1 t2 x3 x4 K5) fuelL s) := by
  refine c_loop (L := fun s : Int32 × Mem => [(0, .inr 114), (1, .inr t1), (2, .inr t2), (3, .inl x3), (4, .inl x4), (5, .inl s.1)]) (Mf := fun s : Int32 × Mem => s.2) (fun K25 hK25 s => ?_) fuelL s
  obtain ⟨x5, M⟩ := s
  show CorM KSx ST1 RX3 cX3_chainLength 6 (some .int) d 25 [(0, .inr 114), (1, .inr t1), (2, .inr t2), (3, .inl x3), (4, .inl x4), (5, .inl x5)] [] M (l_X3_chainLength_25 t1 t2 x3 x4 K5 K25 (x5, M))
  unfold l_X3_chainLength_25
  refine c_iload dX3_chainLength_25 rfl ?_
  refine c_iload dX3_chainLength_27 rfl ?_
  refine c_icmp_ge (tgt := 92) dX3_chainLength_29 rfl (fun h4 => ?_) (fun h4 => ?_)
  · refine c_iload_n (i := 3) dX3_chainLength_92 rfl rfl ?_
    refine c_aload_n (i := 0) dX3_chainLength_93 rfl rfl ?_
    refine gf_RX3_24 (blk_get0 KSx_b114) dX3_chainLength_94 ?_
    refine c_iload dX3_chainLength_97 rfl ?_
    refine c_chk (fun h5 => ?_)
    refine c_iald (blk_get0 (blk_sub (C := [(20, 16)]) (i := 5) KSx_b114 rfl)) h5 dX3_chainLength_99 ?_
    refine c_max wl_RX3_110 (Nat.lt_of_lt_of_le (by decide) hlev) (Nat.le_of_ble_eq_true rfl) dX3_chainLength_100 ?_
    refine c_istore_n (i := 3) dX3_chainLength_103 rfl (by decide) (ls2 := [(0, .inr 114), (1, .inr t1), (2, .inr t2), (3, .inl (imax x3 (M 119 (ix x4)))), (4, .inl x4), (5, .inl x5)]) rfl ?_
    refine c_iinc dX3_chainLength_104 rfl (v := 1) rfl (by decide) (ls2 := [(0, .inr 114), (1, .inr t1), (2, .inr t2), (3, .inl (imax x3 (M 119 (ix x4)))), (4, .inl (x4 + 1)), (5, .inl x5)]) rfl ?_
    refine c_goto (tgt := 5) dX3_chainLength_107 rfl ?_
    refine c_keep [0, 1, 2, 3, 4] (ls2 := [(0, .inr 114), (1, .inr t1), (2, .inr t2), (3, .inl (imax x3 (M 119 (ix x4)))), (4, .inl (x4 + 1))]) rfl ?_
    exact hK5 (imax x3 (M 119 (ix x4)), x4 + 1, M)
  · refine c_aload_n (i := 0) dX3_chainLength_32 rfl rfl ?_
    refine gf_RX3_24 (blk_get0 KSx_b114) dX3_chainLength_33 ?_
    refine c_iload dX3_chainLength_36 rfl ?_
    refine c_chk (fun h6 => ?_)
    refine c_iald (blk_get0 (blk_sub (C := [(20, 16)]) (i := 5) KSx_b114 rfl)) h6 dX3_chainLength_38 ?_
    refine c_aload_n (i := 0) dX3_chainLength_39 rfl rfl ?_
    refine gf_RX3_24 (blk_get0 KSx_b114) dX3_chainLength_40 ?_
    refine c_iload dX3_chainLength_43 rfl ?_
    refine c_chk (fun h7 => ?_)
    refine c_iald (blk_get0 (blk_sub (C := [(20, 16)]) (i := 5) KSx_b114 rfl)) h7 dX3_chainLength_45 ?_
    refine c_icmp_lt (tgt := 86) dX3_chainLength_46 rfl (fun h8 => ?_) (fun h8 => ?_)
    · refine c_keep [0, 1, 2, 3, 4, 5] (ls2 := [(0, .inr 114), (1, .inr t1), (2, .inr t2), (3, .inl x3), (4, .inl x4), (5, .inl x5)]) rfl ?_
      exact jo_X3_chainLength_86 d hlev t1 h_t1 t2 h_t2 x3 x4 x5 K5 hK5 K25 hK25 M
    · refine c_aload_n (i := 1) dX3_chainLength_49 rfl rfl ?_
      refine c_aload_n (i := 2) dX3_chainLength_50 rfl rfl ?_
      refine gf_RX3_77 (blk_get0 h_t2) dX3_chainLength_51 ?_
      refine c_iload dX3_chainLength_54 rfl ?_
      refine c_chk (fun h9 => ?_)
      refine c_iald (blk_get0 (blk_sub (C := [(20, 16)]) (i := 1) h_t2 rfl)) h9 dX3_chainLength_56 ?_
      refine c_aload_n (i := 2) dX3_chainLength_57 rfl rfl ?_
      refine gf_RX3_77 (blk_get0 h_t2) dX3_chainLength_58 ?_
      refine c_iload dX3_chainLength_61 rfl ?_
      refine c_chk (fun h10 => ?_)
      refine c_iald (blk_get0 (blk_sub (C := [(20, 16)]) (i := 1) h_t2 rfl)) h10 dX3_chainLength_63 ?_
      refine c_callV (as := [.inl (M (t2 + 1) (ix x5)), .inl (M (t2 + 1) (ix x4))]) (rs := []) (ev_X4_areConflicting 0 (Nat.le_refl _) t1 h_t1 (M (t2 + 1) (ix x5)) (M (t2 + 1) (ix x4)) M) rfl (Nat.lt_of_lt_of_le (by decide) hlev) mw_X4_areConflicting wi_X4_areConflicting wv_X4_areConflicting (blk_get0 h_t1) (by decide) rfl wl_RX3_80 mn_X4_areConflicting rfl (by decide) (Nat.le_of_ble_eq_true rfl) ⟨_, rfl⟩ dX3_chainLength_64 (fun v11 M12 _ => ?_)
      refine c_if_eq (tgt := 86) dX3_chainLength_67 rfl (fun h13 => ?_) (fun h13 => ?_)
      · refine c_keep [0, 1, 2, 3, 4, 5] (ls2 := [(0, .inr 114), (1, .inr t1), (2, .inr t2), (3, .inl x3), (4, .inl x4), (5, .inl x5)]) rfl ?_
        exact jo_X3_chainLength_86 d hlev t1 h_t1 t2 h_t2 x3 x4 x5 K5 hK5 K25 hK25 M12
      · refine c_aload_n (i := 0) dX3_chainLength_70 rfl rfl ?_
        refine gf_RX3_24 (blk_get0 KSx_b114) dX3_chainLength_71 ?_
        refine c_iload dX3_chainLength_74 rfl ?_
        refine c_aload_n (i := 0) dX3_chainLength_76 rfl rfl ?_
        refine gf_RX3_24 (blk_get0 KSx_b114) dX3_chainLength_77 ?_
        refine c_iload dX3_chainLength_80 rfl ?_
        refine c_chk (fun h14 => ?_)
        refine c_iald (blk_get0 (blk_sub (C := [(20, 16)]) (i := 5) KSx_b114 rfl)) h14 dX3_chainLength_82 ?_
        refine c_iconst dX3_chainLength_83 (v := 1) rfl ?_
        refine c_iadd dX3_chainLength_84 ?_
        refine c_chk (fun h15 => ?_)
        refine c_iast (blk_get0 (blk_sub (C := [(20, 16)]) (i := 5) KSx_b114 rfl)) h15 dX3_chainLength_85 ?_
        refine c_wrt (fun M16 => ?_)
        refine c_keep [0, 1, 2, 3, 4, 5] (ls2 := [(0, .inr 114), (1, .inr t1), (2, .inr t2), (3, .inl x3), (4, .inl x4), (5, .inl x5)]) rfl ?_
        exact jo_X3_chainLength_86 d hlev t1 h_t1 t2 h_t2 x3 x4 x5 K5 hK5 K25 hK25 M16
def l_X3_chainLength_5 (t1 : Nat) (t2 : Nat) (K5 : Int32 × Int32 × Mem → Option (Int32 × Mem)) : Int32 × Int32 × Mem → Option (Int32 × Mem) := fun s => match s with
  | (x3, x4, M) => if (M t2 1) ≤ x4 then some (x3, M) else if inb x4 16 then wrt (up M 119 (ix x4) 1) (fun M3 => loopC (l_X3_chainLength_25 t1 t2 x3 x4 K5) fuelL (0, M3)) else none
set_option maxRecDepth 20000 in
set_option maxHeartbeats 2000000 in
theorem lo_X3_chainLength_5 (d : Nat) (hlev : 1 ≤ d) (t1 : Nat) (h_t1 : blkAt KSx t1 blk4) (t2 : Nat) (h_t2 : blkAt KSx t2 blk0) (s : Int32 × Int32 × Mem) : CorM KSx ST1 RX3 cX3_chainLength 6 (some .int) d 5 [(0, .inr 114), (1, .inr t1), (2, .inr t2), (3, .inl s.1), (4, .inl s.2.1)] [] s.2.2 (loopC (l_X3_chainLength_5 t1 t2) fuelL s) := by
  refine c_loop (L := fun s : Int32 × Int32 × Mem => [(0, .inr 114), (1, .inr t1), (2, .inr t2), (3, .inl s.1), (4, .inl s.2.1)]) (Mf := fun s : Int32 × Int32 × Mem => s.2.2) (fun K5 hK5 s => ?_) fuelL s
  obtain ⟨x3, x4, M⟩ := s
  show CorM KSx ST1 RX3 cX3_chainLength 6 (some .int) d 5 [(0, .inr 114), (1, .inr t1), (2, .inr t2), (3, .inl x3), (4, .inl x4)] [] M (l_X3_chainLength_5 t1 t2 K5 (x3, x4, M))
  unfold l_X3_chainLength_5
  refine c_iload dX3_chainLength_5 rfl ?_
  refine c_aload_n (i := 2) dX3_chainLength_7 rfl rfl ?_
  refine gf_RX3_72 (blk_get0 h_t2) dX3_chainLength_8 ?_
  refine c_icmp_ge (tgt := 110) dX3_chainLength_11 rfl (fun h1 => ?_) (fun h1 => ?_)
  · refine c_iload_n (i := 3) dX3_chainLength_110 rfl rfl ?_
    exact c_iret rfl dX3_chainLength_111
  · refine c_aload_n (i := 0) dX3_chainLength_14 rfl rfl ?_
    refine gf_RX3_24 (blk_get0 KSx_b114) dX3_chainLength_15 ?_
    refine c_iload dX3_chainLength_18 rfl ?_
    refine c_iconst dX3_chainLength_20 (v := 1) rfl ?_
    refine c_chk (fun h2 => ?_)
    refine c_iast (blk_get0 (blk_sub (C := [(20, 16)]) (i := 5) KSx_b114 rfl)) h2 dX3_chainLength_21 ?_
    refine c_wrt (fun M3 => ?_)
    refine c_iconst dX3_chainLength_22 (v := 0) rfl ?_
    refine c_istore dX3_chainLength_23 (by decide) (ls2 := [(0, .inr 114), (1, .inr t1), (2, .inr t2), (3, .inl x3), (4, .inl x4), (5, .inl 0)]) rfl ?_
    refine c_keep [0, 1, 2, 3, 4, 5] (ls2 := [(0, .inr 114), (1, .inr t1), (2, .inr t2), (3, .inl x3), (4, .inl x4), (5, .inl 0)]) rfl ?_
    exact lo_X3_chainLength_25 d hlev t1 h_t1 t2 h_t2 x3 x4 K5 hK5 (0, M3)
def f_X3_chainLength (t1 : Nat) (t2 : Nat) (M : Mem) : Option (Int32 × Mem) := loopC (l_X3_chainLength_5 t1 t2) fuelL (0, 0, M)
set_option maxRecDepth 20000 in
set_option maxHeartbeats 2000000 in
theorem ev_X3_chainLength (d : Nat) (hlev : 1 ≤ d) (t1 : Nat) (h_t1 : blkAt KSx t1 blk4) (t2 : Nat) (h_t2 : blkAt KSx t2 blk0) (M : Mem) : Ev KSx ST1 mdX3_chainLength d [.inr 114, .inr t1, .inr t2] M (f_X3_chainLength t1 t2 M) := by
  refine ev_of rfl (Nat.le_of_ble_eq_true rfl) ?_
  show CorM KSx ST1 RX3 cX3_chainLength 6 (some .int) d 0 [(0, .inr 114), (1, .inr t1), (2, .inr t2)] [] M (f_X3_chainLength t1 t2 M)
  unfold f_X3_chainLength
  refine c_iconst dX3_chainLength_0 (v := 0) rfl ?_
  refine c_istore_n (i := 3) dX3_chainLength_1 rfl (by decide) (ls2 := [(0, .inr 114), (1, .inr t1), (2, .inr t2), (3, .inl 0)]) rfl ?_
  refine c_iconst dX3_chainLength_2 (v := 0) rfl ?_
  refine c_istore dX3_chainLength_3 (by decide) (ls2 := [(0, .inr 114), (1, .inr t1), (2, .inr t2), (3, .inl 0), (4, .inl 0)]) rfl ?_
  refine c_keep [0, 1, 2, 3, 4] (ls2 := [(0, .inr 114), (1, .inr t1), (2, .inr t2), (3, .inl 0), (4, .inl 0)]) rfl ?_
  exact lo_X3_chainLength_5 d hlev t1 h_t1 t2 h_t2 (0, 0, M)

abbrev mdX8_clear : MD := (yX8_clear, cX8_clear, 1, none)
theorem mw_X8_clear : mdW mdX8_clear := ⟨wm_X8_clear, w0_RX8, by decide, by decide⟩
theorem mn_X8_clear : (parseMethodDescriptor yX8_clear.desc).map (fun d => d.parameters.length) = some 0 := by decide +kernel
def f_X8_clear (t0 : Nat) (M : Mem) : Option (Int32 × Mem) := bnd (f_J7_fill_53178 (t0 + 1) 0 M) (fun _ M2 => bnd (f_J7_fill_53178 (t0 + 2) 0 M2) (fun _ M4 => some (0, M4)))
set_option maxRecDepth 20000 in
set_option maxHeartbeats 2000000 in
theorem ev_X8_clear (d : Nat) (hlev : 1 ≤ d) (t0 : Nat) (h_t0 : blkAt KSx t0 blk8) (M : Mem) : Ev KSx ST1 mdX8_clear d [.inr t0] M (f_X8_clear t0 M) := by
  refine ev_of rfl (Nat.le_of_ble_eq_true rfl) ?_
  show CorM KSx ST1 RX8 cX8_clear 1 none d 0 [(0, .inr t0)] [] M (f_X8_clear t0 M)
  unfold f_X8_clear
  refine c_aload_n (i := 0) dX8_clear_0 rfl rfl ?_
  refine gf_RX8_9 (blk_get0 h_t0) dX8_clear_1 ?_
  refine c_iconst dX8_clear_4 (v := 0) rfl ?_
  refine c_callSv (as := [.inr (t0 + 1), .inl 0]) (rs := []) (ev_J7_fill_53178 0 (Nat.le_refl _) (t0 + 1) (arrp_of (blk_get0 (blk_sub (C := [(20, 1024)]) (i := 1) h_t0 rfl))) 0 M) rfl (Nat.lt_of_lt_of_le (by decide) hlev) mw_J7_fill_53178 ws_J7_fill_53178 wl_RX8_18 mn_J7_fill_53178 rfl (by decide) (Nat.le_of_ble_eq_true rfl) rfl dX8_clear_5 (fun v1 M2 _ => ?_)
  refine c_aload_n (i := 0) dX8_clear_8 rfl rfl ?_
  refine gf_RX8_15 (blk_get0 h_t0) dX8_clear_9 ?_
  refine c_iconst dX8_clear_12 (v := 0) rfl ?_
  refine c_callSv (as := [.inr (t0 + 2), .inl 0]) (rs := []) (ev_J7_fill_53178 0 (Nat.le_refl _) (t0 + 2) (arrp_of (blk_get0 (blk_sub (C := [(20, 256)]) (i := 2) h_t0 rfl))) 0 M2) rfl (Nat.lt_of_lt_of_le (by decide) hlev) mw_J7_fill_53178 ws_J7_fill_53178 wl_RX8_18 mn_J7_fill_53178 rfl (by decide) (Nat.le_of_ble_eq_true rfl) rfl dX8_clear_13 (fun v3 M4 _ => ?_)
  exact c_vret rfl dX8_clear_16

abbrev mdX6_clear : MD := (yX6_clear, cX6_clear, 1, none)
theorem mw_X6_clear : mdW mdX6_clear := ⟨wm_X6_clear, w0_RX6, by decide, by decide⟩
theorem mn_X6_clear : (parseMethodDescriptor yX6_clear.desc).map (fun d => d.parameters.length) = some 0 := by decide +kernel
def f_X6_clear (t0 : Nat) (M : Mem) : Option (Int32 × Mem) := bnd (f_J7_fill_53178 (t0 + 1) 0 M) (fun _ M2 => bnd (f_J7_fill_53178 (t0 + 2) 0 M2) (fun _ M4 => bnd (f_J7_fill_53178 (t0 + 3) (-1) M4) (fun _ M6 => bnd (f_J7_fill_53178 (t0 + 4) 0 M6) (fun _ M8 => bnd (f_J7_fill_53178 (t0 + 5) 0 M8) (fun _ M10 => bnd (f_J7_fill_53178 (t0 + 6) 0 M10) (fun _ M12 => bnd (f_J7_fill_53178 (t0 + 7) 0 M12) (fun _ M14 => some (0, M14))))))))
set_option maxRecDepth 20000 in
set_option maxHeartbeats 2000000 in
theorem ev_X6_clear (d : Nat) (hlev : 1 ≤ d) (t0 : Nat) (h_t0 : blkAt KSx t0 blk6) (M : Mem) : Ev KSx ST1 mdX6_clear d [.inr t0] M (f_X6_clear t0 M) := by
  refine ev_of rfl (Nat.le_of_ble_eq_true rfl) ?_
  show CorM KSx ST1 RX6 cX6_clear 1 none d 0 [(0, .inr t0)] [] M (f_X6_clear t0 M)
  unfold f_X6_clear
  refine c_aload_n (i := 0) dX6_clear_0 rfl rfl ?_
  refine gf_RX6_9 (blk_get0 h_t0) dX6_clear_1 ?_
  refine c_iconst dX6_clear_4 (v := 0) rfl ?_
  refine c_callSv (as := [.inr (t0 + 1), .inl 0]) (rs := []) (ev_J7_fill_53178 0 (Nat.le_refl _) (t0 + 1) (arrp_of (blk_get0 (blk_sub (C := [(20, 8)]) (i := 1) h_t0 rfl))) 0 M) rfl (Nat.lt_of_lt_of_le (by decide) hlev) mw_J7_fill_53178 ws_J7_fill_53178 wl_RX6_33 mn_J7_fill_53178 rfl (by decide) (Nat.le_of_ble_eq_true rfl) rfl dX6_clear_5 (fun v1 M2 _ => ?_)
  refine c_aload_n (i := 0) dX6_clear_8 rfl rfl ?_
  refine gf_RX6_15 (blk_get0 h_t0) dX6_clear_9 ?_
  refine c_iconst dX6_clear_12 (v := 0) rfl ?_
  refine c_callSv (as := [.inr (t0 + 2), .inl 0]) (rs := []) (ev_J7_fill_53178 0 (Nat.le_refl _) (t0 + 2) (arrp_of (blk_get0 (blk_sub (C := [(20, 32)]) (i := 2) h_t0 rfl))) 0 M2) rfl (Nat.lt_of_lt_of_le (by decide) hlev) mw_J7_fill_53178 ws_J7_fill_53178 wl_RX6_33 mn_J7_fill_53178 rfl (by decide) (Nat.le_of_ble_eq_true rfl) rfl dX6_clear_13 (fun v3 M4 _ => ?_)
  refine c_aload_n (i := 0) dX6_clear_16 rfl rfl ?_
  refine gf_RX6_18 (blk_get0 h_t0) dX6_clear_17 ?_
  refine c_iconst dX6_clear_20 (v := (-1)) rfl ?_
  refine c_callSv (as := [.inr (t0 + 3), .inl (-1)]) (rs := []) (ev_J7_fill_53178 0 (Nat.le_refl _) (t0 + 3) (arrp_of (blk_get0 (blk_sub (C := [(20, 8)]) (i := 3) h_t0 rfl))) (-1) M4) rfl (Nat.lt_of_lt_of_le (by decide) hlev) mw_J7_fill_53178 ws_J7_fill_53178 wl_RX6_33 mn_J7_fill_53178 rfl (by decide) (Nat.le_of_ble_eq_true rfl) rfl dX6_clear_21 (fun v5 M6 _ => ?_)
  refine c_aload_n (i := 0) dX6_clear_24 rfl rfl ?_
  refine gf_RX6_21 (blk_get0 h_t0) dX6_clear_25 ?_
  refine c_iconst dX6_clear_28 (v := 0) rfl ?_
  refine c_callSv (as := [.inr (t0 + 4), .inl 0]) (rs := []) (ev_J7_fill_53178 0 (Nat.le_refl _) (t0 + 4) (arrp_of (blk_get0 (blk_sub (C := [(20, 8)]) (i := 4) h_t0 rfl))) 0 M6) rfl (Nat.lt_of_lt_of_le (by decide) hlev) mw_J7_fill_53178 ws_J7_fill_53178 wl_RX6_33 mn_J7_fill_53178 rfl (by decide) (Nat.le_of_ble_eq_true rfl) rfl dX6_clear_29 (fun v7 M8 _ => ?_)
  refine c_aload_n (i := 0) dX6_clear_32 rfl rfl ?_
  refine gf_RX6_24 (blk_get0 h_t0) dX6_clear_33 ?_
  refine c_iconst dX6_clear_36 (v := 0) rfl ?_
  refine c_callSv (as := [.inr (t0 + 5), .inl 0]) (rs := []) (ev_J7_fill_53178 0 (Nat.le_refl _) (t0 + 5) (arrp_of (blk_get0 (blk_sub (C := [(20, 64)]) (i := 5) h_t0 rfl))) 0 M8) rfl (Nat.lt_of_lt_of_le (by decide) hlev) mw_J7_fill_53178 ws_J7_fill_53178 wl_RX6_33 mn_J7_fill_53178 rfl (by decide) (Nat.le_of_ble_eq_true rfl) rfl dX6_clear_37 (fun v9 M10 _ => ?_)
  refine c_aload_n (i := 0) dX6_clear_40 rfl rfl ?_
  refine gf_RX6_27 (blk_get0 h_t0) dX6_clear_41 ?_
  refine c_iconst dX6_clear_44 (v := 0) rfl ?_
  refine c_callSv (as := [.inr (t0 + 6), .inl 0]) (rs := []) (ev_J7_fill_53178 0 (Nat.le_refl _) (t0 + 6) (arrp_of (blk_get0 (blk_sub (C := [(20, 32)]) (i := 6) h_t0 rfl))) 0 M10) rfl (Nat.lt_of_lt_of_le (by decide) hlev) mw_J7_fill_53178 ws_J7_fill_53178 wl_RX6_33 mn_J7_fill_53178 rfl (by decide) (Nat.le_of_ble_eq_true rfl) rfl dX6_clear_45 (fun v11 M12 _ => ?_)
  refine c_aload_n (i := 0) dX6_clear_48 rfl rfl ?_
  refine gf_RX6_30 (blk_get0 h_t0) dX6_clear_49 ?_
  refine c_iconst dX6_clear_52 (v := 0) rfl ?_
  refine c_callSv (as := [.inr (t0 + 7), .inl 0]) (rs := []) (ev_J7_fill_53178 0 (Nat.le_refl _) (t0 + 7) (arrp_of (blk_get0 (blk_sub (C := [(20, 8)]) (i := 7) h_t0 rfl))) 0 M12) rfl (Nat.lt_of_lt_of_le (by decide) hlev) mw_J7_fill_53178 ws_J7_fill_53178 wl_RX6_33 mn_J7_fill_53178 rfl (by decide) (Nat.le_of_ble_eq_true rfl) rfl dX6_clear_53 (fun v13 M14 _ => ?_)
  exact c_vret rfl dX6_clear_56
