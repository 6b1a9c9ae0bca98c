abbrev mdX5_computeBatch : MD := (yX5_computeBatch, cX5_computeBatch, 3, none)
theorem mw_X5_computeBatch : mdW mdX5_computeBatch := ⟨wm_X5_computeBatch, w0_RX5, by decide, by decide⟩
theorem mn_X5_computeBatch : (parseMethodDescriptor yX5_computeBatch.desc).map (fun d => d.parameters.length) = some 2 := by decide +kernel
def j_X5_computeBatch_45 (M : Mem) : Option (Int32 × Mem) := some (0, M)
set_option maxRecDepth 20000 in
set_option maxHeartbeats 2000000 in
theorem jo_X5_computeBatch_45 (d : Nat) (hlev : 4 ≤ d) (M : Mem) : CorM KSx ST1 RX5 cX5_computeBatch 3 none d 45 [] [] M (j_X5_computeBatch_45 M) := by
  unfold j_X5_computeBatch_45
  exact c_vret rfl dX5_computeBatch_45
def j_X5_computeBatch_20 (t0 : Nat) (t1 : Nat) (x2 : Int32) (M : Mem) : Option (Int32 × Mem) := bnd (f_X8_runBatch (t0 + 1) t1 x2 M) (fun _ M3 => if (M3 t0 4) = 0 then j_X5_computeBatch_45 M3 else bnd (f_X1_removeStored (t0 + 12) t1 x2 M3) (fun _ M6 => j_X5_computeBatch_45 M6))
set_option maxRecDepth 20000 in
set_option maxHeartbeats 2000000 in
theorem jo_X5_computeBatch_20 (d : Nat) (hlev : 4 ≤ d) (t0 : Nat) (h_t0 : blkAt KSx t0 blk5) (t1 : Nat) (h_t1 : blkAt KSx t1 blk4) (x2 : Int32) (M : Mem) : CorM KSx ST1 RX5 cX5_computeBatch 3 none d 20 [(0, .inr t0), (1, .inr t1), (2, .inl x2)] [] M (j_X5_computeBatch_20 t0 t1 x2 M) := by
  unfold j_X5_computeBatch_20
  refine c_aload_n (i := 0) dX5_computeBatch_20 rfl rfl ?_
  refine gf_RX5_12 (blk_get0 h_t0) dX5_computeBatch_21 ?_
  refine c_aload_n (i := 1) dX5_computeBatch_24 rfl rfl ?_
  refine c_iload_n (i := 2) dX5_computeBatch_25 rfl rfl ?_
  refine c_callVv (as := [.inr t1, .inl x2]) (rs := []) (ev_X8_runBatch 3 (Nat.le_refl _) (t0 + 1) (blk_sub (C := blk8) (i := 1) h_t0 rfl) t1 h_t1 x2 M) rfl (Nat.lt_of_lt_of_le (by decide) hlev) mw_X8_runBatch wi_X8_runBatch wv_X8_runBatch (blk_get0 (blk_sub (C := blk8) (i := 1) h_t0 rfl)) (by decide) rfl wl_RX5_102 mn_X8_runBatch rfl (by decide) (Nat.le_of_ble_eq_true rfl) rfl dX5_computeBatch_26 (fun v2 M3 _ => ?_)
  refine c_aload_n (i := 0) dX5_computeBatch_29 rfl rfl ?_
  refine gf_RX5_45 (blk_get0 h_t0) dX5_computeBatch_30 ?_
  refine c_if_eq (tgt := 45) dX5_computeBatch_33 rfl (fun h4 => ?_) (fun h4 => ?_)
  · refine c_keep [] (ls2 := []) rfl ?_
    exact jo_X5_computeBatch_45 d hlev M3
  · refine c_aload_n (i := 0) dX5_computeBatch_36 rfl rfl ?_
    refine gf_RX5_28 (blk_get0 h_t0) dX5_computeBatch_37 ?_
    refine c_aload_n (i := 1) dX5_computeBatch_40 rfl rfl ?_
    refine c_iload_n (i := 2) dX5_computeBatch_41 rfl rfl ?_
    refine c_callVv (as := [.inr t1, .inl x2]) (rs := []) (ev_X1_removeStored 2 (Nat.le_refl _) (t0 + 12) (blk_sub (C := blk1) (i := 12) h_t0 rfl) t1 h_t1 x2 M3) rfl (Nat.lt_of_lt_of_le (by decide) hlev) mw_X1_removeStored wi_X1_removeStored wv_X1_removeStored (blk_get0 (blk_sub (C := blk1) (i := 12) h_t0 rfl)) (by decide) rfl wl_RX5_104 mn_X1_removeStored rfl (by decide) (Nat.le_of_ble_eq_true rfl) rfl dX5_computeBatch_42 (fun v5 M6 _ => ?_)
    refine c_keep [] (ls2 := []) rfl ?_
    exact jo_X5_computeBatch_45 d hlev M6
def f_X5_computeBatch (t0 : Nat) (t1 : Nat) (x2 : Int32) (M : Mem) : Option (Int32 × Mem) := if (M t0 4) = 0 then j_X5_computeBatch_20 t0 t1 x2 M else bnd (f_X1_writeBackAccessed (t0 + 12) t1 x2 (t0 + 1) M) (fun _ M8 => j_X5_computeBatch_20 t0 t1 x2 M8)
set_option maxRecDepth 20000 in
set_option maxHeartbeats 2000000 in
theorem ev_X5_computeBatch (d : Nat) (hlev : 4 ≤ d) (t0 : Nat) (h_t0 : blkAt KSx t0 blk5) (t1 : Nat) (h_t1 : blkAt KSx t1 blk4) (x2 : Int32) (M : Mem) : Ev KSx ST1 mdX5_computeBatch d [.inr t0, .inr t1, .inl x2] M (f_X5_computeBatch t0 t1 x2 M) := by
  refine ev_of rfl (Nat.le_of_ble_eq_true rfl) ?_
  show CorM KSx ST1 RX5 cX5_computeBatch 3 none d 0 [(0, .inr t0), (1, .inr t1), (2, .inl x2)] [] M (f_X5_computeBatch t0 t1 x2 M)
  unfold f_X5_computeBatch
  refine c_aload_n (i := 0) dX5_computeBatch_0 rfl rfl ?_
  refine gf_RX5_45 (blk_get0 h_t0) dX5_computeBatch_1 ?_
  refine c_if_eq (tgt := 20) dX5_computeBatch_4 rfl (fun h1 => ?_) (fun h1 => ?_)
  · refine c_keep [0, 1, 2] (ls2 := [(0, .inr t0), (1, .inr t1), (2, .inl x2)]) rfl ?_
    exact jo_X5_computeBatch_20 d hlev t0 h_t0 t1 h_t1 x2 M
  · refine c_aload_n (i := 0) dX5_computeBatch_7 rfl rfl ?_
    refine gf_RX5_28 (blk_get0 h_t0) dX5_computeBatch_8 ?_
    refine c_aload_n (i := 1) dX5_computeBatch_11 rfl rfl ?_
    refine c_iload_n (i := 2) dX5_computeBatch_12 rfl rfl ?_
    refine c_aload_n (i := 0) dX5_computeBatch_13 rfl rfl ?_
    refine gf_RX5_12 (blk_get0 h_t0) dX5_computeBatch_14 ?_
    refine c_callVv (as := [.inr t1, .inl x2, .inr (t0 + 1)]) (rs := []) (ev_X1_writeBackAccessed 3 (Nat.le_refl _) (t0 + 12) (blk_sub (C := blk1) (i := 12) h_t0 rfl) t1 h_t1 x2 (t0 + 1) (blk_sub (C := blk8) (i := 1) h_t0 rfl) M) rfl (Nat.lt_of_lt_of_le (by decide) hlev) mw_X1_writeBackAccessed wi_X1_writeBackAccessed wv_X1_writeBackAccessed (blk_get0 (blk_sub (C := blk1) (i := 12) h_t0 rfl)) (by decide) rfl wl_RX5_98 mn_X1_writeBackAccessed rfl (by decide) (Nat.le_of_ble_eq_true rfl) rfl dX5_computeBatch_17 (fun v7 M8 _ => ?_)
    refine c_keep [0, 1, 2] (ls2 := [(0, .inr t0), (1, .inr t1), (2, .inl x2)]) rfl ?_
    exact jo_X5_computeBatch_20 d hlev t0 h_t0 t1 h_t1 x2 M8

abbrev mdX5_runNext : MD := (yX5_runNext, cX5_runNext, 5, none)
theorem mw_X5_runNext : mdW mdX5_runNext := ⟨wm_X5_runNext, w0_RX5, by decide, by decide⟩
theorem mn_X5_runNext : (parseMethodDescriptor yX5_runNext.desc).map (fun d => d.parameters.length) = some 1 := by decide +kernel
def f_X5_runNext (t0 : Nat) (t1 : Nat) (M : Mem) : Option (Int32 × Mem) := bnd (f_X0_takeFirst (t0 + 17) M) (fun v1 M2 => if inb v1 12 then bnd (f_X6_earliestClock (t0 + 4) (M2 (t1 + 2) (ix v1)) M2) (fun v4 M5 => bnd (f_X5_computeBatch t0 t1 v1 M5) (fun _ M7 => bnd (f_X6_runBatch (t0 + 4) t1 v1 (M7 (t1 + 1) 5) M7) (fun _ M9 => bnd (f_X6_latest (t0 + 4) (M2 (t1 + 2) (ix v1)) M9) (fun v10 M11 => bnd (f_X0_noteRun (t0 + 17) v1 v4 v10 M11) (fun _ M13 => some (0, M13)))))) else none)
set_option maxRecDepth 20000 in
set_option maxHeartbeats 2000000 in
theorem ev_X5_runNext (d : Nat) (hlev : 5 ≤ d) (t0 : Nat) (h_t0 : blkAt KSx t0 blk5) (t1 : Nat) (h_t1 : blkAt KSx t1 blk4) (M : Mem) : Ev KSx ST1 mdX5_runNext d [.inr t0, .inr t1] M (f_X5_runNext t0 t1 M) := by
  refine ev_of rfl (Nat.le_of_ble_eq_true rfl) ?_
  show CorM KSx ST1 RX5 cX5_runNext 5 none d 0 [(0, .inr t0), (1, .inr t1)] [] M (f_X5_runNext t0 t1 M)
  unfold f_X5_runNext
  refine c_aload_n (i := 0) dX5_runNext_0 rfl rfl ?_
  refine gf_RX5_35 (blk_get0 h_t0) dX5_runNext_1 ?_
  refine c_callV (as := []) (rs := []) (ev_X0_takeFirst 1 (Nat.le_refl _) (t0 + 17) (blk_sub (C := blk0) (i := 17) h_t0 rfl) M) rfl (Nat.lt_of_lt_of_le (by decide) hlev) mw_X0_takeFirst wi_X0_takeFirst wv_X0_takeFirst (blk_get0 (blk_sub (C := blk0) (i := 17) h_t0 rfl)) (by decide) rfl wl_RX5_66 mn_X0_takeFirst rfl (by decide) (Nat.le_of_ble_eq_true rfl) ⟨_, rfl⟩ dX5_runNext_4 (fun v1 M2 _ => ?_)
  refine c_istore_n (i := 2) dX5_runNext_7 rfl (by decide) (ls2 := [(0, .inr t0), (1, .inr t1), (2, .inl v1)]) rfl ?_
  refine c_aload_n (i := 1) dX5_runNext_8 rfl rfl ?_
  refine gf_RX5_70 (blk_get0 h_t1) dX5_runNext_9 ?_
  refine c_iload_n (i := 2) dX5_runNext_12 rfl rfl ?_
  refine c_chk (fun h3 => ?_)
  refine c_iald (blk_get0 (blk_sub (C := [(20, 12)]) (i := 2) h_t1 rfl)) h3 dX5_runNext_13 ?_
  refine c_istore_n (i := 3) dX5_runNext_14 rfl (by decide) (ls2 := [(0, .inr t0), (1, .inr t1), (2, .inl v1), (3, .inl (M2 (t1 + 2) (ix v1)))]) rfl ?_
  refine c_aload_n (i := 0) dX5_runNext_15 rfl rfl ?_
  refine gf_RX5_21 (blk_get0 h_t0) dX5_runNext_16 ?_
  refine c_iload_n (i := 3) dX5_runNext_19 rfl rfl ?_
  refine c_callV (as := [.inl (M2 (t1 + 2) (ix v1))]) (rs := []) (ev_X6_earliestClock 2 (Nat.le_refl _) (t0 + 4) (blk_sub (C := blk6) (i := 4) h_t0 rfl) (M2 (t1 + 2) (ix v1)) M2) rfl (Nat.lt_of_lt_of_le (by decide) hlev) mw_X6_earliestClock wi_X6_earliestClock wv_X6_earliestClock (blk_get0 (blk_sub (C := blk6) (i := 4) h_t0 rfl)) (by decide) rfl wl_RX5_76 mn_X6_earliestClock rfl (by decide) (Nat.le_of_ble_eq_true rfl) ⟨_, rfl⟩ dX5_runNext_20 (fun v4 M5 _ => ?_)
  refine c_istore dX5_runNext_23 (by decide) (ls2 := [(0, .inr t0), (1, .inr t1), (2, .inl v1), (3, .inl (M2 (t1 + 2) (ix v1))), (4, .inl v4)]) rfl ?_
  refine c_aload_n (i := 0) dX5_runNext_25 rfl rfl ?_
  refine c_aload_n (i := 1) dX5_runNext_26 rfl rfl ?_
  refine c_iload_n (i := 2) dX5_runNext_27 rfl rfl ?_
  refine c_callVv (as := [.inr t1, .inl v1]) (rs := []) (ev_X5_computeBatch 4 (Nat.le_refl _) t0 h_t0 t1 h_t1 v1 M5) rfl (Nat.lt_of_lt_of_le (by decide) hlev) mw_X5_computeBatch wi_X5_computeBatch wv_X5_computeBatch (blk_get0 h_t0) (by decide) rfl wl_RX5_80 mn_X5_computeBatch rfl (by decide) (Nat.le_of_ble_eq_true rfl) rfl dX5_runNext_28 (fun v6 M7 _ => ?_)
  refine c_aload_n (i := 0) dX5_runNext_31 rfl rfl ?_
  refine gf_RX5_21 (blk_get0 h_t0) dX5_runNext_32 ?_
  refine c_aload_n (i := 1) dX5_runNext_35 rfl rfl ?_
  refine c_iload_n (i := 2) dX5_runNext_36 rfl rfl ?_
  refine c_aload_n (i := 1) dX5_runNext_37 rfl rfl ?_
  refine gf_RX5_84 (blk_get0 h_t1) dX5_runNext_38 ?_
  refine c_iconst dX5_runNext_41 (v := 5) rfl ?_
  refine c_iald (blk_get0 (blk_sub (C := [(20, 9)]) (i := 1) h_t1 rfl)) (by decide) dX5_runNext_42 ?_
  refine c_callVv (as := [.inr t1, .inl v1, .inl (M7 (t1 + 1) 5)]) (rs := []) (ev_X6_runBatch 3 (Nat.le_refl _) (t0 + 4) (blk_sub (C := blk6) (i := 4) h_t0 rfl) t1 h_t1 v1 (M7 (t1 + 1) 5) M7) rfl (Nat.lt_of_lt_of_le (by decide) hlev) mw_X6_runBatch wi_X6_runBatch wv_X6_runBatch (blk_get0 (blk_sub (C := blk6) (i := 4) h_t0 rfl)) (by decide) rfl wl_RX5_87 mn_X6_runBatch rfl (by decide) (Nat.le_of_ble_eq_true rfl) rfl dX5_runNext_43 (fun v8 M9 _ => ?_)
  refine c_aload_n (i := 0) dX5_runNext_46 rfl rfl ?_
  refine gf_RX5_35 (blk_get0 h_t0) dX5_runNext_47 ?_
  refine c_iload_n (i := 2) dX5_runNext_50 rfl rfl ?_
  refine c_iload dX5_runNext_51 rfl ?_
  refine c_aload_n (i := 0) dX5_runNext_53 rfl rfl ?_
  refine gf_RX5_21 (blk_get0 h_t0) dX5_runNext_54 ?_
  refine c_iload_n (i := 3) dX5_runNext_57 rfl rfl ?_
  refine c_callV (as := [.inl (M2 (t1 + 2) (ix v1))]) (rs := [.inl v4, .inl v1, .inr (t0 + 17)]) (ev_X6_latest 1 (Nat.le_refl _) (t0 + 4) (blk_sub (C := blk6) (i := 4) h_t0 rfl) (M2 (t1 + 2) (ix v1)) M9) rfl (Nat.lt_of_lt_of_le (by decide) hlev) mw_X6_latest wi_X6_latest wv_X6_latest (blk_get0 (blk_sub (C := blk6) (i := 4) h_t0 rfl)) (by decide) rfl wl_RX5_91 mn_X6_latest rfl (by decide) (Nat.le_of_ble_eq_true rfl) ⟨_, rfl⟩ dX5_runNext_58 (fun v10 M11 _ => ?_)
  refine c_callVv (as := [.inl v1, .inl v4, .inl v10]) (rs := []) (ev_X0_noteRun 1 (Nat.le_refl _) (t0 + 17) (blk_sub (C := blk0) (i := 17) h_t0 rfl) v1 v4 v10 M11) rfl (Nat.lt_of_lt_of_le (by decide) hlev) mw_X0_noteRun wi_X0_noteRun wv_X0_noteRun (blk_get0 (blk_sub (C := blk0) (i := 17) h_t0 rfl)) (by decide) rfl wl_RX5_94 mn_X0_noteRun rfl (by decide) (Nat.le_of_ble_eq_true rfl) rfl dX5_runNext_61 (fun v12 M13 _ => ?_)
  exact c_vret rfl dX5_runNext_64

abbrev mdX9_appendBytes : MD := (yX9_appendBytes, cX9_appendBytes, 3, none)
theorem mw_X9_appendBytes : mdW mdX9_appendBytes := ⟨wm_X9_appendBytes, w0_RX9, by decide, by decide⟩
theorem mn_X9_appendBytes : (parseMethodDescriptor yX9_appendBytes.desc).map (fun d => d.parameters.length) = some 1 := by decide +kernel
def l_X9_appendBytes_3 (x1 : Int32) (K3 : Int32 × Mem → Option (Int32 × Mem)) : Int32 × Mem → Option (Int32 × Mem) := fun s => match s with
  | (x2, M) => if x2 < 0 then some (0, M) else if inb (M 0 1) 900 then wrt (up M 1 (ix (M 0 1)) ((ushr x1 x2) &&& 255)) (fun M3 => wrt (up M3 0 1 ((M3 0 1) + 1)) (fun M4 => K3 (x2 + (-8), M4))) else none
set_option maxRecDepth 20000 in
set_option maxHeartbeats 2000000 in
theorem lo_X9_appendBytes_3 (d : Nat) (hlev : 0 ≤ d) (x1 : Int32) (s : Int32 × Mem) : CorM KSx ST1 RX9 cX9_appendBytes 3 none d 3 [(0, .inr 0), (1, .inl x1), (2, .inl s.1)] [] s.2 (loopC (l_X9_appendBytes_3 x1) fuelL s) := by
  refine c_loop (L := fun s : Int32 × Mem => [(0, .inr 0), (1, .inl x1), (2, .inl s.1)]) (Mf := fun s : Int32 × Mem => s.2) (fun K3 hK3 s => ?_) fuelL s
  obtain ⟨x2, M⟩ := s
  show CorM KSx ST1 RX9 cX9_appendBytes 3 none d 3 [(0, .inr 0), (1, .inl x1), (2, .inl x2)] [] M (l_X9_appendBytes_3 x1 K3 (x2, M))
  unfold l_X9_appendBytes_3
  refine c_iload_n (i := 2) dX9_appendBytes_3 rfl rfl ?_
  refine c_if_lt (tgt := 39) dX9_appendBytes_4 rfl (fun h1 => ?_) (fun h1 => ?_)
  · exact c_vret rfl dX9_appendBytes_39
  · refine c_aload_n (i := 0) dX9_appendBytes_7 rfl rfl ?_
    refine gf_RX9_9 (blk_get0 KSx_b0) dX9_appendBytes_8 ?_
    refine c_aload_n (i := 0) dX9_appendBytes_11 rfl rfl ?_
    refine gf_RX9_59 (blk_get0 KSx_b0) dX9_appendBytes_12 ?_
    refine c_iload_n (i := 1) dX9_appendBytes_15 rfl rfl ?_
    refine c_iload_n (i := 2) dX9_appendBytes_16 rfl rfl ?_
    refine c_iushr dX9_appendBytes_17 ?_
    refine c_sipush dX9_appendBytes_18 (v := 255) rfl ?_
    refine c_iand dX9_appendBytes_21 ?_
    refine c_chk (fun h2 => ?_)
    refine c_iast (blk_get0 (blk_sub (C := [(20, 900)]) (i := 1) KSx_b0 rfl)) h2 dX9_appendBytes_22 ?_
    refine c_wrt (fun M3 => ?_)
    refine c_aload_n (i := 0) dX9_appendBytes_23 rfl rfl ?_
    refine c_dup dX9_appendBytes_24 ?_
    refine gf_RX9_59 (blk_get0 KSx_b0) dX9_appendBytes_25 ?_
    refine c_iconst dX9_appendBytes_28 (v := 1) rfl ?_
    refine c_iadd dX9_appendBytes_29 ?_
    refine pf_RX9_59 (blk_get0 KSx_b0) dX9_appendBytes_30 ?_
    refine c_wrt (fun M4 => ?_)
    refine c_iinc dX9_appendBytes_33 rfl (v := (-8)) rfl (by decide) (ls2 := [(0, .inr 0), (1, .inl x1), (2, .inl (x2 + (-8)))]) rfl ?_
    refine c_goto (tgt := 3) dX9_appendBytes_36 rfl ?_
    refine c_keep [0, 1, 2] (ls2 := [(0, .inr 0), (1, .inl x1), (2, .inl (x2 + (-8)))]) rfl ?_
    exact hK3 (x2 + (-8), M4)
def f_X9_appendBytes (x1 : Int32) (M : Mem) : Option (Int32 × Mem) := loopC (l_X9_appendBytes_3 x1) fuelL (24, M)
set_option maxRecDepth 20000 in
set_option maxHeartbeats 2000000 in
theorem ev_X9_appendBytes (d : Nat) (hlev : 0 ≤ d) (x1 : Int32) (M : Mem) : Ev KSx ST1 mdX9_appendBytes d [.inr 0, .inl x1] M (f_X9_appendBytes x1 M) := by
  refine ev_of rfl (Nat.le_of_ble_eq_true rfl) ?_
  show CorM KSx ST1 RX9 cX9_appendBytes 3 none d 0 [(0, .inr 0), (1, .inl x1)] [] M (f_X9_appendBytes x1 M)
  unfold f_X9_appendBytes
  refine c_bipush dX9_appendBytes_0 (v := 24) rfl ?_
  refine c_istore_n (i := 2) dX9_appendBytes_2 rfl (by decide) (ls2 := [(0, .inr 0), (1, .inl x1), (2, .inl 24)]) rfl ?_
  refine c_keep [0, 1, 2] (ls2 := [(0, .inr 0), (1, .inl x1), (2, .inl 24)]) rfl ?_
  exact lo_X9_appendBytes_3 d hlev x1 (24, M)

abbrev mdX9_append : MD := (yX9_append, cX9_append, 6, (some .int))
theorem mw_X9_append : mdW mdX9_append := ⟨wm_X9_append, w0_RX9, by decide, by decide⟩
theorem mn_X9_append : (parseMethodDescriptor yX9_append.desc).map (fun d => d.parameters.length) = some 5 := by decide +kernel
def f_X9_append (x1 : Int32) (x2 : Int32) (x3 : Int32) (x4 : Int32) (x5 : Int32) (M : Mem) : Option ((Int32 ⊕ String) × Mem) := if (M 0 1) ≤ 880 then bnd (f_X9_appendBytes x1 M) (fun _ M3 => bnd (f_X9_appendBytes x2 M3) (fun _ M5 => bnd (f_X9_appendBytes x3 M5) (fun _ M7 => bnd (f_X9_appendBytes x4 M7) (fun _ M9 => bnd (f_X9_appendBytes x5 M9) (fun _ M11 => some (rOk (M11 0 1), M11)))))) else some (rEx "java/lang/IllegalStateException", M)
set_option maxRecDepth 20000 in
set_option maxHeartbeats 2000000 in
theorem ev_X9_append (d : Nat) (hlev : 6 ≤ d) (x1 : Int32) (x2 : Int32) (x3 : Int32) (x4 : Int32) (x5 : Int32) (M : Mem) : EvX KSx ST1 mdX9_append d [.inr 0, .inl x1, .inl x2, .inl x3, .inl x4, .inl x5] M (f_X9_append x1 x2 x3 x4 x5 M) := by
  refine evX_of rfl (Nat.le_of_ble_eq_true rfl) ?_
  show CorX KSx ST1 RX9 cX9_append 6 (some .int) d 0 [(0, .inr 0), (1, .inl x1), (2, .inl x2), (3, .inl x3), (4, .inl x4), (5, .inl x5)] [] M (f_X9_append x1 x2 x3 x4 x5 M)
  unfold f_X9_append
  refine c_aload_n (i := 0) dX9_append_0 rfl rfl ?_
  refine gf_RX9_59 (blk_get0 KSx_b0) dX9_append_1 ?_
  refine c_sipush dX9_append_4 (v := 880) rfl ?_
  refine c_icmp_le (tgt := 20) dX9_append_7 rfl (fun h1 => ?_) (fun h1 => ?_)
  · refine c_aload_n (i := 0) dX9_append_20 rfl rfl ?_
    refine c_iload_n (i := 1) dX9_append_21 rfl rfl ?_
    refine c_callVv (as := [.inl x1]) (rs := []) (ev_X9_appendBytes 0 (Nat.le_refl _) x1 M) rfl (Nat.lt_of_lt_of_le (by decide) hlev) mw_X9_appendBytes wi_X9_appendBytes wv_X9_appendBytes (blk_get0 KSx_b0) (by decide) rfl wl_RX9_69 mn_X9_appendBytes rfl (by decide) (Nat.le_of_ble_eq_true rfl) rfl dX9_append_22 (fun v2 M3 _ => ?_)
    refine c_aload_n (i := 0) dX9_append_25 rfl rfl ?_
    refine c_iload_n (i := 2) dX9_append_26 rfl rfl ?_
    refine c_callVv (as := [.inl x2]) (rs := []) (ev_X9_appendBytes 0 (Nat.le_refl _) x2 M3) rfl (Nat.lt_of_lt_of_le (by decide) hlev) mw_X9_appendBytes wi_X9_appendBytes wv_X9_appendBytes (blk_get0 KSx_b0) (by decide) rfl wl_RX9_69 mn_X9_appendBytes rfl (by decide) (Nat.le_of_ble_eq_true rfl) rfl dX9_append_27 (fun v4 M5 _ => ?_)
    refine c_aload_n (i := 0) dX9_append_30 rfl rfl ?_
    refine c_iload_n (i := 3) dX9_append_31 rfl rfl ?_
    refine c_callVv (as := [.inl x3]) (rs := []) (ev_X9_appendBytes 0 (Nat.le_refl _) x3 M5) rfl (Nat.lt_of_lt_of_le (by decide) hlev) mw_X9_appendBytes wi_X9_appendBytes wv_X9_appendBytes (blk_get0 KSx_b0) (by decide) rfl wl_RX9_69 mn_X9_appendBytes rfl (by decide) (Nat.le_of_ble_eq_true rfl) rfl dX9_append_32 (fun v6 M7 _ => ?_)
    refine c_aload_n (i := 0) dX9_append_35 rfl rfl ?_
    refine c_iload dX9_append_36 rfl ?_
    refine c_callVv (as := [.inl x4]) (rs := []) (ev_X9_appendBytes 0 (Nat.le_refl _) x4 M7) rfl (Nat.lt_of_lt_of_le (by decide) hlev) mw_X9_appendBytes wi_X9_appendBytes wv_X9_appendBytes (blk_get0 KSx_b0) (by decide) rfl wl_RX9_69 mn_X9_appendBytes rfl (by decide) (Nat.le_of_ble_eq_true rfl) rfl dX9_append_38 (fun v8 M9 _ => ?_)
    refine c_aload_n (i := 0) dX9_append_41 rfl rfl ?_
    refine c_iload dX9_append_42 rfl ?_
    refine c_callVv (as := [.inl x5]) (rs := []) (ev_X9_appendBytes 0 (Nat.le_refl _) x5 M9) rfl (Nat.lt_of_lt_of_le (by decide) hlev) mw_X9_appendBytes wi_X9_appendBytes wv_X9_appendBytes (blk_get0 KSx_b0) (by decide) rfl wl_RX9_69 mn_X9_appendBytes rfl (by decide) (Nat.le_of_ble_eq_true rfl) rfl dX9_append_44 (fun v10 M11 _ => ?_)
    refine c_aload_n (i := 0) dX9_append_47 rfl rfl ?_
    refine gf_RX9_59 (blk_get0 KSx_b0) dX9_append_48 ?_
    exact c_xret rfl dX9_append_51
  · exact th_66 (List.mem_of_getElem? (i := 0) rfl) (Nat.le_trans (by decide) hlev) (Nat.le_of_ble_eq_true rfl) dX9_append_10 dX9_append_13 dX9_append_14 dX9_append_16 dX9_append_19

abbrev mdX9_truncate : MD := (yX9_truncate, cX9_truncate, 2, (some .int))
theorem mw_X9_truncate : mdW mdX9_truncate := ⟨wm_X9_truncate, w0_RX9, by decide, by decide⟩
theorem mn_X9_truncate : (parseMethodDescriptor yX9_truncate.desc).map (fun d => d.parameters.length) = some 1 := by decide +kernel
def j_X9_truncate_12 (M : Mem) : Option ((Int32 ⊕ String) × Mem) := some (rEx "java/lang/IndexOutOfBoundsException", M)
set_option maxRecDepth 20000 in
set_option maxHeartbeats 2000000 in
theorem jo_X9_truncate_12 (d : Nat) (hlev : 6 ≤ d) (M : Mem) : CorX KSx ST1 RX9 cX9_truncate 2 (some .int) d 12 [] [] M (j_X9_truncate_12 M) := by
  unfold j_X9_truncate_12
  exact th_77 (List.mem_of_getElem? (i := 1) rfl) (Nat.le_trans (by decide) hlev) (Nat.le_of_ble_eq_true rfl) dX9_truncate_12 dX9_truncate_15 dX9_truncate_16 dX9_truncate_18 dX9_truncate_21
def f_X9_truncate (x1 : Int32) (M : Mem) : Option ((Int32 ⊕ String) × Mem) := if x1 < 0 then j_X9_truncate_12 M else if x1 ≤ (M 0 1) then wrt (up M 0 1 x1) (fun M3 => some (rOk (M3 0 1), M3)) else j_X9_truncate_12 M
set_option maxRecDepth 20000 in
set_option maxHeartbeats 2000000 in
theorem ev_X9_truncate (d : Nat) (hlev : 6 ≤ d) (x1 : Int32) (M : Mem) : EvX KSx ST1 mdX9_truncate d [.inr 0, .inl x1] M (f_X9_truncate x1 M) := by
  refine evX_of rfl (Nat.le_of_ble_eq_true rfl) ?_
  show CorX KSx ST1 RX9 cX9_truncate 2 (some .int) d 0 [(0, .inr 0), (1, .inl x1)] [] M (f_X9_truncate x1 M)
  unfold f_X9_truncate
  refine c_iload_n (i := 1) dX9_truncate_0 rfl rfl ?_
  refine c_if_lt (tgt := 12) dX9_truncate_1 rfl (fun h1 => ?_) (fun h1 => ?_)
  · refine c_keep [] (ls2 := []) rfl ?_
    exact jo_X9_truncate_12 d hlev M
  · refine c_iload_n (i := 1) dX9_truncate_4 rfl rfl ?_
    refine c_aload_n (i := 0) dX9_truncate_5 rfl rfl ?_
    refine gf_RX9_59 (blk_get0 KSx_b0) dX9_truncate_6 ?_
    refine c_icmp_le (tgt := 22) dX9_truncate_9 rfl (fun h2 => ?_) (fun h2 => ?_)
    · refine c_aload_n (i := 0) dX9_truncate_22 rfl rfl ?_
      refine c_iload_n (i := 1) dX9_truncate_23 rfl rfl ?_
      refine pf_RX9_59 (blk_get0 KSx_b0) dX9_truncate_24 ?_
      refine c_wrt (fun M3 => ?_)
      refine c_aload_n (i := 0) dX9_truncate_27 rfl rfl ?_
      refine gf_RX9_59 (blk_get0 KSx_b0) dX9_truncate_28 ?_
      exact c_xret rfl dX9_truncate_31
    · refine c_keep [] (ls2 := []) rfl ?_
      exact jo_X9_truncate_12 d hlev M

abbrev mdX9_load : MD := (yX9_load, cX9_load, 3, (some .int))
theorem mw_X9_load : mdW mdX9_load := ⟨wm_X9_load, w0_RX9, by decide, by decide⟩
theorem mn_X9_load : (parseMethodDescriptor yX9_load.desc).map (fun d => d.parameters.length) = some 0 := by decide +kernel
def f_X9_load (M : Mem) : Option ((Int32 ⊕ String) × Mem) := wrt (up M 0 1 0) (fun M1 => if ¬ M1 0 6 < 0 ∧ blkD KSx (ix (M1 0 6)) blk4 then bnd (f_X2_parse 1 (M 0 1) (ix (M1 0 6)) M1) (fun _ M4 => wrt (up M4 0 2 (M4 2 5)) (fun M5 => wrt (up M5 0 3 (M5 2 6)) (fun M6 => if (M6 0 2) = 0 then if ¬ M6 0 6 < 0 ∧ blkD KSx (ix (M6 0 6)) blk4 then if ¬ M6 0 5 < 0 ∧ blkD KSx (ix (M6 0 5)) blk4 then wrt (up M6 0 6 (nI (ix (M6 0 5)))) (fun M10 => wrt (up M10 0 5 (nI (ix (M6 0 6)))) (fun M11 => bnd (f_X5_clear 33 M11) (fun _ M13 => bnd (f_X3_forgetPlan M13) (fun _ M15 => wrt (up M15 0 10 0) (fun M16 => if ¬ M16 0 5 < 0 ∧ blkD KSx (ix (M16 0 5)) blk4 then some (rOk (M16 (ix (M16 0 5)) 4), M16) else none))))) else none else none else some (rEx "java/lang/IllegalArgumentException", M6)))) else none)
set_option maxRecDepth 20000 in
set_option maxHeartbeats 2000000 in
theorem ev_X9_load (d : Nat) (hlev : 9 ≤ d) (M : Mem) : EvX KSx ST1 mdX9_load d [.inr 0] M (f_X9_load M) := by
  refine evX_of rfl (Nat.le_of_ble_eq_true rfl) ?_
  show CorX KSx ST1 RX9 cX9_load 3 (some .int) d 0 [(0, .inr 0)] [] M (f_X9_load M)
  unfold f_X9_load
  refine c_aload_n (i := 0) dX9_load_0 rfl rfl ?_
  refine gf_RX9_59 (blk_get0 KSx_b0) dX9_load_1 ?_
  refine c_istore_n (i := 1) dX9_load_4 rfl (by decide) (ls2 := [(0, .inr 0), (1, .inl (M 0 1))]) rfl ?_
  refine c_aload_n (i := 0) dX9_load_5 rfl rfl ?_
  refine c_iconst dX9_load_6 (v := 0) rfl ?_
  refine pf_RX9_59 (blk_get0 KSx_b0) dX9_load_7 ?_
  refine c_wrt (fun M1 => ?_)
  refine c_aload_n (i := 0) dX9_load_10 rfl rfl ?_
  refine gf_RX9_16 (blk_get0 KSx_b0) dX9_load_11 ?_
  refine c_aload_n (i := 0) dX9_load_14 rfl rfl ?_
  refine gf_RX9_9 (blk_get0 KSx_b0) dX9_load_15 ?_
  refine c_iload_n (i := 1) dX9_load_18 rfl rfl ?_
  refine c_aload_n (i := 0) dX9_load_19 rfl rfl ?_
  refine c_chk (fun h2 => ?_)
  refine gf_RX9_27 (blk_get0 KSx_b0) h2.1 dX9_load_20 ?_
  refine c_callVv (as := [.inr 1, .inl (M 0 1), .inr (ix (M1 0 6))]) (rs := []) (ev_X2_parse 8 (Nat.le_refl _) 1 (arrp_of (blk_get0 (blk_sub (C := [(20, 900)]) (i := 1) KSx_b0 rfl))) (M 0 1) (ix (M1 0 6)) (blk_of h2.2) M1) rfl (Nat.lt_of_lt_of_le (by decide) hlev) mw_X2_parse wi_X2_parse wv_X2_parse (blk_get0 (blk_sub (C := blk2) (i := 2) KSx_b0 rfl)) (by decide) rfl wl_RX9_78 mn_X2_parse rfl (by decide) (Nat.le_of_ble_eq_true rfl) rfl dX9_load_23 (fun v3 M4 _ => ?_)
  refine c_aload_n (i := 0) dX9_load_26 rfl rfl ?_
  refine c_aload_n (i := 0) dX9_load_27 rfl rfl ?_
  refine gf_RX9_16 (blk_get0 KSx_b0) dX9_load_28 ?_
  refine gf_RX9_82 (blk_get0 (blk_sub (C := blk2) (i := 2) KSx_b0 rfl)) dX9_load_31 ?_
  refine pf_RX9_85 (blk_get0 KSx_b0) dX9_load_34 ?_
  refine c_wrt (fun M5 => ?_)
  refine c_aload_n (i := 0) dX9_load_37 rfl rfl ?_
  refine c_aload_n (i := 0) dX9_load_38 rfl rfl ?_
  refine gf_RX9_16 (blk_get0 KSx_b0) dX9_load_39 ?_
  refine gf_RX9_88 (blk_get0 (blk_sub (C := blk2) (i := 2) KSx_b0 rfl)) dX9_load_42 ?_
  refine pf_RX9_51 (blk_get0 KSx_b0) dX9_load_45 ?_
  refine c_wrt (fun M6 => ?_)
  refine c_aload_n (i := 0) dX9_load_48 rfl rfl ?_
  refine gf_RX9_85 (blk_get0 KSx_b0) dX9_load_49 ?_
  refine c_if_eq (tgt := 65) dX9_load_52 rfl (fun h7 => ?_) (fun h7 => ?_)
  · refine c_aload_n (i := 0) dX9_load_65 rfl rfl ?_
    refine c_chk (fun h8 => ?_)
    refine gf_RX9_27 (blk_get0 KSx_b0) h8.1 dX9_load_66 ?_
    refine c_astore_n (i := 2) dX9_load_69 rfl (by decide) (ls2 := [(0, .inr 0), (1, .inl (M 0 1)), (2, .inr (ix (M6 0 6)))]) rfl ?_
    refine c_aload_n (i := 0) dX9_load_70 rfl rfl ?_
    refine c_aload_n (i := 0) dX9_load_71 rfl rfl ?_
    refine c_chk (fun h9 => ?_)
    refine gf_RX9_23 (blk_get0 KSx_b0) h9.1 dX9_load_72 ?_
    refine pf_RX9_27 (blk_get0 KSx_b0) (KSx_lt (blk_of h9.2)) dX9_load_75 ?_
    refine c_wrt (fun M10 => ?_)
    refine c_aload_n (i := 0) dX9_load_78 rfl rfl ?_
    refine c_aload_n (i := 2) dX9_load_79 rfl rfl ?_
    refine pf_RX9_23 (blk_get0 KSx_b0) (KSx_lt (blk_of h8.2)) dX9_load_80 ?_
    refine c_wrt (fun M11 => ?_)
    refine c_aload_n (i := 0) dX9_load_83 rfl rfl ?_
    refine gf_RX9_33 (blk_get0 KSx_b0) dX9_load_84 ?_
    refine c_callVv (as := []) (rs := []) (ev_X5_clear 2 (Nat.le_refl _) 33 (blk_sub (C := blk5) (i := 33) KSx_b0 rfl) M11) rfl (Nat.lt_of_lt_of_le (by decide) hlev) mw_X5_clear wi_X5_clear wv_X5_clear (blk_get0 (blk_sub (C := blk5) (i := 33) KSx_b0 rfl)) (by decide) rfl wl_RX9_58 mn_X5_clear rfl (by decide) (Nat.le_of_ble_eq_true rfl) rfl dX9_load_87 (fun v12 M13 _ => ?_)
    refine c_aload_n (i := 0) dX9_load_90 rfl rfl ?_
    refine gf_RX9_47 (blk_get0 KSx_b0) dX9_load_91 ?_
    refine c_callVv (as := []) (rs := []) (ev_X3_forgetPlan 0 (Nat.le_refl _) M13) rfl (Nat.lt_of_lt_of_le (by decide) hlev) mw_X3_forgetPlan wi_X3_forgetPlan wv_X3_forgetPlan (blk_get0 (blk_sub (C := blk3) (i := 114) KSx_b0 rfl)) (by decide) rfl wl_RX9_96 mn_X3_forgetPlan rfl (by decide) (Nat.le_of_ble_eq_true rfl) rfl dX9_load_94 (fun v14 M15 _ => ?_)
    refine c_aload_n (i := 0) dX9_load_97 rfl rfl ?_
    refine c_iconst dX9_load_98 (v := 0) rfl ?_
    refine pf_RX9_99 (blk_get0 KSx_b0) dX9_load_99 ?_
    refine c_wrt (fun M16 => ?_)
    refine c_aload_n (i := 0) dX9_load_102 rfl rfl ?_
    refine c_chk (fun h17 => ?_)
    refine gf_RX9_23 (blk_get0 KSx_b0) h17.1 dX9_load_103 ?_
    refine gf_RX9_102 (blk_get0 (blk_of h17.2)) dX9_load_106 ?_
    exact c_xret rfl dX9_load_109
  · exact th_95 (List.mem_of_getElem? (i := 3) rfl) (Nat.le_trans (by decide) hlev) (Nat.le_of_ble_eq_true rfl) dX9_load_55 dX9_load_58 dX9_load_59 dX9_load_61 dX9_load_64

abbrev mdX9_errorCode : MD := (yX9_errorCode, cX9_errorCode, 1, (some .int))
theorem mw_X9_errorCode : mdW mdX9_errorCode := ⟨wm_X9_errorCode, w0_RX9, by decide, by decide⟩
theorem mn_X9_errorCode : (parseMethodDescriptor yX9_errorCode.desc).map (fun d => d.parameters.length) = some 0 := by decide +kernel
def p_X9_errorCode (M : Mem) : Int32 := M 0 2
set_option maxRecDepth 20000 in
set_option maxHeartbeats 2000000 in
theorem ev_X9_errorCode (d : Nat) (hlev : 0 ≤ d) (M : Mem) : Ev KSx ST1 mdX9_errorCode d [.inr 0] M (some (p_X9_errorCode M, M)) := by
  refine ev_of rfl (Nat.le_of_ble_eq_true rfl) ?_
  show CorM KSx ST1 RX9 cX9_errorCode 1 (some .int) d 0 [(0, .inr 0)] [] M (some (p_X9_errorCode M, M))
  unfold p_X9_errorCode
  refine c_aload_n (i := 0) dX9_errorCode_0 rfl rfl ?_
  refine gf_RX9_85 (blk_get0 KSx_b0) dX9_errorCode_1 ?_
  exact c_iret rfl dX9_errorCode_4

abbrev mdX9_errorPosition : MD := (yX9_errorPosition, cX9_errorPosition, 1, (some .int))
theorem mw_X9_errorPosition : mdW mdX9_errorPosition := ⟨wm_X9_errorPosition, w0_RX9, by decide, by decide⟩
theorem mn_X9_errorPosition : (parseMethodDescriptor yX9_errorPosition.desc).map (fun d => d.parameters.length) = some 0 := by decide +kernel
def p_X9_errorPosition (M : Mem) : Int32 := M 0 3
set_option maxRecDepth 20000 in
set_option maxHeartbeats 2000000 in
theorem ev_X9_errorPosition (d : Nat) (hlev : 0 ≤ d) (M : Mem) : Ev KSx ST1 mdX9_errorPosition d [.inr 0] M (some (p_X9_errorPosition M, M)) := by
  refine ev_of rfl (Nat.le_of_ble_eq_true rfl) ?_
  show CorM KSx ST1 RX9 cX9_errorPosition 1 (some .int) d 0 [(0, .inr 0)] [] M (some (p_X9_errorPosition M, M))
  unfold p_X9_errorPosition
  refine c_aload_n (i := 0) dX9_errorPosition_0 rfl rfl ?_
  refine gf_RX9_51 (blk_get0 KSx_b0) dX9_errorPosition_1 ?_
  exact c_iret rfl dX9_errorPosition_4

abbrev mdX9_count : MD := (yX9_count, cX9_count, 2, (some .int))
theorem mw_X9_count : mdW mdX9_count := ⟨wm_X9_count, w0_RX9, by decide, by decide⟩
theorem mn_X9_count : (parseMethodDescriptor yX9_count.desc).map (fun d => d.parameters.length) = some 1 := by decide +kernel
def f_X9_count (x1 : Int32) (M : Mem) : Option ((Int32 ⊕ String) × Mem) := if x1 = 0 then if ¬ M 0 5 < 0 ∧ blkD KSx (ix (M 0 5)) blk4 then some (rOk (M (ix (M 0 5)) 0), M) else none else if x1 = 1 then if ¬ M 0 5 < 0 ∧ blkD KSx (ix (M 0 5)) blk4 then some (rOk (M (ix (M 0 5)) 1), M) else none else if x1 = 2 then if ¬ M 0 5 < 0 ∧ blkD KSx (ix (M 0 5)) blk4 then some (rOk (M (ix (M 0 5)) 2), M) else none else if x1 = 3 then if ¬ M 0 5 < 0 ∧ blkD KSx (ix (M 0 5)) blk4 then some (rOk (M (ix (M 0 5)) 4), M) else none else if x1 = 4 then some (rOk (M 50 1), M) else if x1 = 5 then some (rOk (M 50 3), M) else if x1 = 6 then bnd (f_X1_lineCount 45 M) (fun v12 M13 => some (rOk (v12), M13)) else some (rEx "java/lang/IllegalArgumentException", M)
set_option maxRecDepth 20000 in
set_option maxHeartbeats 2000000 in
theorem ev_X9_count (d : Nat) (hlev : 6 ≤ d) (x1 : Int32) (M : Mem) : EvX KSx ST1 mdX9_count d [.inr 0, .inl x1] M (f_X9_count x1 M) := by
  refine evX_of rfl (Nat.le_of_ble_eq_true rfl) ?_
  show CorX KSx ST1 RX9 cX9_count 2 (some .int) d 0 [(0, .inr 0), (1, .inl x1)] [] M (f_X9_count x1 M)
  unfold f_X9_count
  refine c_iload_n (i := 1) dX9_count_0 rfl rfl ?_
  refine c_ite (fun h1 => ?_) (fun h1 => ?_)
  · refine c_tableIn (tgt := 44) dX9_count_1 (by rw [h1] <;> decide) (by rw [h1] <;> decide) (by rw [h1] <;> rfl) rfl ?_
    refine c_aload_n (i := 0) dX9_count_44 rfl rfl ?_
    refine c_chk (fun h2 => ?_)
    refine gf_RX9_23 (blk_get0 KSx_b0) h2.1 dX9_count_45 ?_
    refine gf_RX9_105 (blk_get0 (blk_of h2.2)) dX9_count_48 ?_
    exact c_xret rfl dX9_count_51
  · refine c_ite (fun h3 => ?_) (fun h3 => ?_)
    · refine c_tableIn (tgt := 52) dX9_count_1 (by rw [h3] <;> decide) (by rw [h3] <;> decide) (by rw [h3] <;> rfl) rfl ?_
      refine c_aload_n (i := 0) dX9_count_52 rfl rfl ?_
      refine c_chk (fun h4 => ?_)
      refine gf_RX9_23 (blk_get0 KSx_b0) h4.1 dX9_count_53 ?_
      refine gf_RX9_108 (blk_get0 (blk_of h4.2)) dX9_count_56 ?_
      exact c_xret rfl dX9_count_59
    · refine c_ite (fun h5 => ?_) (fun h5 => ?_)
      · refine c_tableIn (tgt := 60) dX9_count_1 (by rw [h5] <;> decide) (by rw [h5] <;> decide) (by rw [h5] <;> rfl) rfl ?_
        refine c_aload_n (i := 0) dX9_count_60 rfl rfl ?_
        refine c_chk (fun h6 => ?_)
        refine gf_RX9_23 (blk_get0 KSx_b0) h6.1 dX9_count_61 ?_
        refine gf_RX9_111 (blk_get0 (blk_of h6.2)) dX9_count_64 ?_
        exact c_xret rfl dX9_count_67
      · refine c_ite (fun h7 => ?_) (fun h7 => ?_)
        · refine c_tableIn (tgt := 68) dX9_count_1 (by rw [h7] <;> decide) (by rw [h7] <;> decide) (by rw [h7] <;> rfl) rfl ?_
          refine c_aload_n (i := 0) dX9_count_68 rfl rfl ?_
          refine c_chk (fun h8 => ?_)
          refine gf_RX9_23 (blk_get0 KSx_b0) h8.1 dX9_count_69 ?_
          refine gf_RX9_102 (blk_get0 (blk_of h8.2)) dX9_count_72 ?_
          exact c_xret rfl dX9_count_75
        · refine c_ite (fun h9 => ?_) (fun h9 => ?_)
          · refine c_tableIn (tgt := 76) dX9_count_1 (by rw [h9] <;> decide) (by rw [h9] <;> decide) (by rw [h9] <;> rfl) rfl ?_
            refine c_aload_n (i := 0) dX9_count_76 rfl rfl ?_
            refine gf_RX9_33 (blk_get0 KSx_b0) dX9_count_77 ?_
            refine gf_RX9_114 (blk_get0 (blk_sub (C := blk5) (i := 33) KSx_b0 rfl)) dX9_count_80 ?_
            refine gf_RX9_118 (blk_get0 (blk_sub (C := blk0) (i := 17) (blk_sub (C := blk5) (i := 33) KSx_b0 rfl) rfl)) dX9_count_83 ?_
            exact c_xret rfl dX9_count_86
          · refine c_ite (fun h10 => ?_) (fun h10 => ?_)
            · refine c_tableIn (tgt := 87) dX9_count_1 (by rw [h10] <;> decide) (by rw [h10] <;> decide) (by rw [h10] <;> rfl) rfl ?_
              refine c_aload_n (i := 0) dX9_count_87 rfl rfl ?_
              refine gf_RX9_33 (blk_get0 KSx_b0) dX9_count_88 ?_
              refine gf_RX9_114 (blk_get0 (blk_sub (C := blk5) (i := 33) KSx_b0 rfl)) dX9_count_91 ?_
              refine gf_RX9_123 (blk_get0 (blk_sub (C := blk0) (i := 17) (blk_sub (C := blk5) (i := 33) KSx_b0 rfl) rfl)) dX9_count_94 ?_
              exact c_xret rfl dX9_count_97
            · refine c_ite (fun h11 => ?_) (fun h11 => ?_)
              · refine c_tableIn (tgt := 98) dX9_count_1 (by rw [h11] <;> decide) (by rw [h11] <;> decide) (by rw [h11] <;> rfl) rfl ?_
                refine c_aload_n (i := 0) dX9_count_98 rfl rfl ?_
                refine gf_RX9_33 (blk_get0 KSx_b0) dX9_count_99 ?_
                refine gf_RX9_126 (blk_get0 (blk_sub (C := blk5) (i := 33) KSx_b0 rfl)) dX9_count_102 ?_
                refine c_callV (as := []) (rs := []) (ev_X1_lineCount 0 (Nat.le_refl _) 45 (blk_sub (C := blk1) (i := 12) (blk_sub (C := blk5) (i := 33) KSx_b0 rfl) rfl) M) rfl (Nat.lt_of_lt_of_le (by decide) hlev) mw_X1_lineCount wi_X1_lineCount wv_X1_lineCount (blk_get0 (blk_sub (C := blk1) (i := 12) (blk_sub (C := blk5) (i := 33) KSx_b0 rfl) rfl)) (by decide) rfl wl_RX9_130 mn_X1_lineCount rfl (by decide) (Nat.le_of_ble_eq_true rfl) ⟨_, rfl⟩ dX9_count_105 (fun v12 M13 _ => ?_)
                exact c_xret rfl dX9_count_108
              · refine c_tableOut (tgt := 109) dX9_count_1 (sw_tab 0 7 (ks := [0, 1, 2, 3, 4, 5, 6]) (List.forall_mem_cons.mpr ⟨h1, (List.forall_mem_cons.mpr ⟨h3, (List.forall_mem_cons.mpr ⟨h5, (List.forall_mem_cons.mpr ⟨h7, (List.forall_mem_cons.mpr ⟨h9, (List.forall_mem_cons.mpr ⟨h10, (List.forall_mem_cons.mpr ⟨h11, (fun _ q => absurd q List.not_mem_nil)⟩)⟩)⟩)⟩)⟩)⟩)⟩) (by decide)) rfl ?_
                exact th_95 (List.mem_of_getElem? (i := 4) rfl) (Nat.le_trans (by decide) hlev) (Nat.le_of_ble_eq_true rfl) dX9_count_109 dX9_count_112 dX9_count_113 dX9_count_115 dX9_count_118

abbrev mdX9_requireBatch : MD := (yX9_requireBatch, cX9_requireBatch, 2, none)
theorem mw_X9_requireBatch : mdW mdX9_requireBatch := ⟨wm_X9_requireBatch, w0_RX9, by decide, by decide⟩
theorem mn_X9_requireBatch : (parseMethodDescriptor yX9_requireBatch.desc).map (fun d => d.parameters.length) = some 1 := by decide +kernel
def j_X9_requireBatch_15 (M : Mem) : Option ((Int32 ⊕ String) × Mem) := some (rEx "java/lang/IndexOutOfBoundsException", M)
set_option maxRecDepth 20000 in
set_option maxHeartbeats 2000000 in
theorem jo_X9_requireBatch_15 (d : Nat) (hlev : 6 ≤ d) (M : Mem) : CorX KSx ST1 RX9 cX9_requireBatch 2 none d 15 [] [] M (j_X9_requireBatch_15 M) := by
  unfold j_X9_requireBatch_15
  exact th_77w (List.mem_of_getElem? (i := 5) rfl) (Nat.le_trans (by decide) hlev) (Nat.le_of_ble_eq_true rfl) dX9_requireBatch_15 dX9_requireBatch_18 dX9_requireBatch_19 dX9_requireBatch_22 dX9_requireBatch_25
def f_X9_requireBatch (x1 : Int32) (M : Mem) : Option ((Int32 ⊕ String) × Mem) := if x1 < 0 then j_X9_requireBatch_15 M else if ¬ M 0 5 < 0 ∧ blkD KSx (ix (M 0 5)) blk4 then if x1 < (M (ix (M 0 5)) 4) then some (rOk 0, M) else j_X9_requireBatch_15 M else none
set_option maxRecDepth 20000 in
set_option maxHeartbeats 2000000 in
theorem ev_X9_requireBatch (d : Nat) (hlev : 6 ≤ d) (x1 : Int32) (M : Mem) : EvX KSx ST1 mdX9_requireBatch d [.inr 0, .inl x1] M (f_X9_requireBatch x1 M) := by
  refine evX_of rfl (Nat.le_of_ble_eq_true rfl) ?_
  show CorX KSx ST1 RX9 cX9_requireBatch 2 none d 0 [(0, .inr 0), (1, .inl x1)] [] M (f_X9_requireBatch x1 M)
  unfold f_X9_requireBatch
  refine c_iload_n (i := 1) dX9_requireBatch_0 rfl rfl ?_
  refine c_if_lt (tgt := 15) dX9_requireBatch_1 rfl (fun h1 => ?_) (fun h1 => ?_)
  · refine c_keep [] (ls2 := []) rfl ?_
    exact jo_X9_requireBatch_15 d hlev M
  · refine c_iload_n (i := 1) dX9_requireBatch_4 rfl rfl ?_
    refine c_aload_n (i := 0) dX9_requireBatch_5 rfl rfl ?_
    refine c_chk (fun h2 => ?_)
    refine gf_RX9_23 (blk_get0 KSx_b0) h2.1 dX9_requireBatch_6 ?_
    refine gf_RX9_102 (blk_get0 (blk_of h2.2)) dX9_requireBatch_9 ?_
    refine c_icmp_lt (tgt := 26) dX9_requireBatch_12 rfl (fun h3 => ?_) (fun h3 => ?_)
    · exact c_xvret rfl dX9_requireBatch_26
    · refine c_keep [] (ls2 := []) rfl ?_
      exact jo_X9_requireBatch_15 d hlev M

abbrev mdX9_commands : MD := (yX9_commands, cX9_commands, 2, (some .int))
theorem mw_X9_commands : mdW mdX9_commands := ⟨wm_X9_commands, w0_RX9, by decide, by decide⟩
theorem mn_X9_commands : (parseMethodDescriptor yX9_commands.desc).map (fun d => d.parameters.length) = some 1 := by decide +kernel
def f_X9_commands (x1 : Int32) (M : Mem) : Option ((Int32 ⊕ String) × Mem) := bndX (f_X9_requireBatch x1 M) (fun _ M2 => if ¬ M2 0 5 < 0 ∧ blkD KSx (ix (M2 0 5)) blk4 then if inb x1 12 then if ¬ M2 0 5 < 0 ∧ blkD KSx (ix (M2 0 5)) blk4 then if inb x1 12 then some (rOk ((M2 (ix (M2 0 5) + 4) (ix x1)) - (M2 (ix (M2 0 5) + 3) (ix x1))), M2) else none else none else none else none)
set_option maxRecDepth 20000 in
set_option maxHeartbeats 2000000 in
theorem ev_X9_commands (d : Nat) (hlev : 7 ≤ d) (x1 : Int32) (M : Mem) : EvX KSx ST1 mdX9_commands d [.inr 0, .inl x1] M (f_X9_commands x1 M) := by
  refine evX_of rfl (Nat.le_of_ble_eq_true rfl) ?_
  show CorX KSx ST1 RX9 cX9_commands 2 (some .int) d 0 [(0, .inr 0), (1, .inl x1)] [] M (f_X9_commands x1 M)
  unfold f_X9_commands
  refine c_aload_n (i := 0) dX9_commands_0 rfl rfl ?_
  refine c_iload_n (i := 1) dX9_commands_1 rfl rfl ?_
  refine c_callX (as := [.inl x1]) (rs := []) (ev_X9_requireBatch 6 (Nat.le_refl _) x1 M) rfl (Nat.lt_of_lt_of_le (by decide) hlev) mw_X9_requireBatch wi_X9_requireBatch wv_X9_requireBatch (blk_get0 KSx_b0) (by decide) rfl wl_RX9_138 mn_X9_requireBatch rfl (by decide) (Nat.le_of_ble_eq_true rfl) rfl dX9_commands_2 (fun v1 M2 _ => ?_)
  refine c_aload_n (i := 0) dX9_commands_5 rfl rfl ?_
  refine c_chk (fun h3 => ?_)
  refine gf_RX9_23 (blk_get0 KSx_b0) h3.1 dX9_commands_6 ?_
  refine gf_RX9_141 (blk_get0 (blk_of h3.2)) dX9_commands_9 ?_
  refine c_iload_n (i := 1) dX9_commands_12 rfl rfl ?_
  refine c_chk (fun h4 => ?_)
  refine c_iald (blk_get0 (blk_sub (C := [(20, 12)]) (i := 4) (blk_of h3.2) rfl)) h4 dX9_commands_13 ?_
  refine c_aload_n (i := 0) dX9_commands_14 rfl rfl ?_
  refine c_chk (fun h5 => ?_)
  refine gf_RX9_23 (blk_get0 KSx_b0) h5.1 dX9_commands_15 ?_
  refine gf_RX9_144 (blk_get0 (blk_of h5.2)) dX9_commands_18 ?_
  refine c_iload_n (i := 1) dX9_commands_21 rfl rfl ?_
  refine c_chk (fun h6 => ?_)
  refine c_iald (blk_get0 (blk_sub (C := [(20, 12)]) (i := 3) (blk_of h5.2) rfl)) h6 dX9_commands_22 ?_
  refine c_isub dX9_commands_23 ?_
  exact c_xret rfl dX9_commands_24

abbrev mdX9_banks : MD := (yX9_banks, cX9_banks, 2, (some .int))
theorem mw_X9_banks : mdW mdX9_banks := ⟨wm_X9_banks, w0_RX9, by decide, by decide⟩
theorem mn_X9_banks : (parseMethodDescriptor yX9_banks.desc).map (fun d => d.parameters.length) = some 1 := by decide +kernel
def f_X9_banks (x1 : Int32) (M : Mem) : Option ((Int32 ⊕ String) × Mem) := bndX (f_X9_requireBatch x1 M) (fun _ M2 => if ¬ M2 0 5 < 0 ∧ blkD KSx (ix (M2 0 5)) blk4 then if inb x1 12 then some (rOk (M2 (ix (M2 0 5) + 2) (ix x1)), M2) else none else none)
set_option maxRecDepth 20000 in
set_option maxHeartbeats 2000000 in
theorem ev_X9_banks (d : Nat) (hlev : 7 ≤ d) (x1 : Int32) (M : Mem) : EvX KSx ST1 mdX9_banks d [.inr 0, .inl x1] M (f_X9_banks x1 M) := by
  refine evX_of rfl (Nat.le_of_ble_eq_true rfl) ?_
  show CorX KSx ST1 RX9 cX9_banks 2 (some .int) d 0 [(0, .inr 0), (1, .inl x1)] [] M (f_X9_banks x1 M)
  unfold f_X9_banks
  refine c_aload_n (i := 0) dX9_banks_0 rfl rfl ?_
  refine c_iload_n (i := 1) dX9_banks_1 rfl rfl ?_
  refine c_callX (as := [.inl x1]) (rs := []) (ev_X9_requireBatch 6 (Nat.le_refl _) x1 M) rfl (Nat.lt_of_lt_of_le (by decide) hlev) mw_X9_requireBatch wi_X9_requireBatch wv_X9_requireBatch (blk_get0 KSx_b0) (by decide) rfl wl_RX9_138 mn_X9_requireBatch rfl (by decide) (Nat.le_of_ble_eq_true rfl) rfl dX9_banks_2 (fun v1 M2 _ => ?_)
  refine c_aload_n (i := 0) dX9_banks_5 rfl rfl ?_
  refine c_chk (fun h3 => ?_)
  refine gf_RX9_23 (blk_get0 KSx_b0) h3.1 dX9_banks_6 ?_
  refine gf_RX9_147 (blk_get0 (blk_of h3.2)) dX9_banks_9 ?_
  refine c_iload_n (i := 1) dX9_banks_12 rfl rfl ?_
  refine c_chk (fun h4 => ?_)
  refine c_iald (blk_get0 (blk_sub (C := [(20, 12)]) (i := 2) (blk_of h3.2) rfl)) h4 dX9_banks_13 ?_
  exact c_xret rfl dX9_banks_14

abbrev mdX9_requireBank : MD := (yX9_requireBank, cX9_requireBank, 2, none)
theorem mw_X9_requireBank : mdW mdX9_requireBank := ⟨wm_X9_requireBank, w0_RX9, by decide, by decide⟩
theorem mn_X9_requireBank : (parseMethodDescriptor yX9_requireBank.desc).map (fun d => d.parameters.length) = some 1 := by decide +kernel
def j_X9_requireBank_15 (M : Mem) : Option ((Int32 ⊕ String) × Mem) := some (rEx "java/lang/IndexOutOfBoundsException", M)
set_option maxRecDepth 20000 in
set_option maxHeartbeats 2000000 in
theorem jo_X9_requireBank_15 (d : Nat) (hlev : 6 ≤ d) (M : Mem) : CorX KSx ST1 RX9 cX9_requireBank 2 none d 15 [] [] M (j_X9_requireBank_15 M) := by
  unfold j_X9_requireBank_15
  exact th_77w (List.mem_of_getElem? (i := 6) rfl) (Nat.le_trans (by decide) hlev) (Nat.le_of_ble_eq_true rfl) dX9_requireBank_15 dX9_requireBank_18 dX9_requireBank_19 dX9_requireBank_22 dX9_requireBank_25
def f_X9_requireBank (x1 : Int32) (M : Mem) : Option ((Int32 ⊕ String) × Mem) := if x1 < 0 then j_X9_requireBank_15 M else if ¬ M 0 5 < 0 ∧ blkD KSx (ix (M 0 5)) blk4 then if x1 < (M (ix (M 0 5)) 0) then some (rOk 0, M) else j_X9_requireBank_15 M else none
set_option maxRecDepth 20000 in
set_option maxHeartbeats 2000000 in
theorem ev_X9_requireBank (d : Nat) (hlev : 6 ≤ d) (x1 : Int32) (M : Mem) : EvX KSx ST1 mdX9_requireBank d [.inr 0, .inl x1] M (f_X9_requireBank x1 M) := by
  refine evX_of rfl (Nat.le_of_ble_eq_true rfl) ?_
  show CorX KSx ST1 RX9 cX9_requireBank 2 none d 0 [(0, .inr 0), (1, .inl x1)] [] M (f_X9_requireBank x1 M)
  unfold f_X9_requireBank
  refine c_iload_n (i := 1) dX9_requireBank_0 rfl rfl ?_
  refine c_if_lt (tgt := 15) dX9_requireBank_1 rfl (fun h1 => ?_) (fun h1 => ?_)
  · refine c_keep [] (ls2 := []) rfl ?_
    exact jo_X9_requireBank_15 d hlev M
  · refine c_iload_n (i := 1) dX9_requireBank_4 rfl rfl ?_
    refine c_aload_n (i := 0) dX9_requireBank_5 rfl rfl ?_
    refine c_chk (fun h2 => ?_)
    refine gf_RX9_23 (blk_get0 KSx_b0) h2.1 dX9_requireBank_6 ?_
    refine gf_RX9_105 (blk_get0 (blk_of h2.2)) dX9_requireBank_9 ?_
    refine c_icmp_lt (tgt := 26) dX9_requireBank_12 rfl (fun h3 => ?_) (fun h3 => ?_)
    · exact c_xvret rfl dX9_requireBank_26
    · refine c_keep [] (ls2 := []) rfl ?_
      exact jo_X9_requireBank_15 d hlev M

abbrev mdX9_requireRow : MD := (yX9_requireRow, cX9_requireRow, 3, none)
theorem mw_X9_requireRow : mdW mdX9_requireRow := ⟨wm_X9_requireRow, w0_RX9, by decide, by decide⟩
theorem mn_X9_requireRow : (parseMethodDescriptor yX9_requireRow.desc).map (fun d => d.parameters.length) = some 2 := by decide +kernel
def j_X9_requireRow_20 (M : Mem) : Option ((Int32 ⊕ String) × Mem) := some (rEx "java/lang/IndexOutOfBoundsException", M)
set_option maxRecDepth 20000 in
set_option maxHeartbeats 2000000 in
theorem jo_X9_requireRow_20 (d : Nat) (hlev : 7 ≤ d) (M : Mem) : CorX KSx ST1 RX9 cX9_requireRow 3 none d 20 [] [] M (j_X9_requireRow_20 M) := by
  unfold j_X9_requireRow_20
  exact th_77w (List.mem_of_getElem? (i := 7) rfl) (Nat.le_trans (by decide) hlev) (Nat.le_of_ble_eq_true rfl) dX9_requireRow_20 dX9_requireRow_23 dX9_requireRow_24 dX9_requireRow_27 dX9_requireRow_30
def f_X9_requireRow (x1 : Int32) (x2 : Int32) (M : Mem) : Option ((Int32 ⊕ String) × Mem) := bndX (f_X9_requireBank x1 M) (fun _ M2 => if x2 < 0 then j_X9_requireRow_20 M2 else if ¬ M2 0 5 < 0 ∧ blkD KSx (ix (M2 0 5)) blk4 then if x2 < (M2 (ix (M2 0 5)) 1) then some (rOk 0, M2) else j_X9_requireRow_20 M2 else none)
set_option maxRecDepth 20000 in
set_option maxHeartbeats 2000000 in
theorem ev_X9_requireRow (d : Nat) (hlev : 7 ≤ d) (x1 : Int32) (x2 : Int32) (M : Mem) : EvX KSx ST1 mdX9_requireRow d [.inr 0, .inl x1, .inl x2] M (f_X9_requireRow x1 x2 M) := by
  refine evX_of rfl (Nat.le_of_ble_eq_true rfl) ?_
  show CorX KSx ST1 RX9 cX9_requireRow 3 none d 0 [(0, .inr 0), (1, .inl x1), (2, .inl x2)] [] M (f_X9_requireRow x1 x2 M)
  unfold f_X9_requireRow
  refine c_aload_n (i := 0) dX9_requireRow_0 rfl rfl ?_
  refine c_iload_n (i := 1) dX9_requireRow_1 rfl rfl ?_
  refine c_callX (as := [.inl x1]) (rs := []) (ev_X9_requireBank 6 (Nat.le_refl _) x1 M) rfl (Nat.lt_of_lt_of_le (by decide) hlev) mw_X9_requireBank wi_X9_requireBank wv_X9_requireBank (blk_get0 KSx_b0) (by decide) rfl wl_RX9_251 mn_X9_requireBank rfl (by decide) (Nat.le_of_ble_eq_true rfl) rfl dX9_requireRow_2 (fun v1 M2 _ => ?_)
  refine c_iload_n (i := 2) dX9_requireRow_5 rfl rfl ?_
  refine c_if_lt (tgt := 20) dX9_requireRow_6 rfl (fun h3 => ?_) (fun h3 => ?_)
  · refine c_keep [] (ls2 := []) rfl ?_
    exact jo_X9_requireRow_20 d hlev M2
  · refine c_iload_n (i := 2) dX9_requireRow_9 rfl rfl ?_
    refine c_aload_n (i := 0) dX9_requireRow_10 rfl rfl ?_
    refine c_chk (fun h4 => ?_)
    refine gf_RX9_23 (blk_get0 KSx_b0) h4.1 dX9_requireRow_11 ?_
    refine gf_RX9_108 (blk_get0 (blk_of h4.2)) dX9_requireRow_14 ?_
    refine c_icmp_lt (tgt := 31) dX9_requireRow_17 rfl (fun h5 => ?_) (fun h5 => ?_)
    · exact c_xvret rfl dX9_requireRow_31
    · refine c_keep [] (ls2 := []) rfl ?_
      exact jo_X9_requireRow_20 d hlev M2

abbrev mdX9_requireWord : MD := (yX9_requireWord, cX9_requireWord, 4, none)
theorem mw_X9_requireWord : mdW mdX9_requireWord := ⟨wm_X9_requireWord, w0_RX9, by decide, by decide⟩
theorem mn_X9_requireWord : (parseMethodDescriptor yX9_requireWord.desc).map (fun d => d.parameters.length) = some 3 := by decide +kernel
def j_X9_requireWord_21 (M : Mem) : Option ((Int32 ⊕ String) × Mem) := some (rEx "java/lang/IndexOutOfBoundsException", M)
set_option maxRecDepth 20000 in
set_option maxHeartbeats 2000000 in
theorem jo_X9_requireWord_21 (d : Nat) (hlev : 8 ≤ d) (M : Mem) : CorX KSx ST1 RX9 cX9_requireWord 4 none d 21 [] [] M (j_X9_requireWord_21 M) := by
  unfold j_X9_requireWord_21
  exact th_77w (List.mem_of_getElem? (i := 8) rfl) (Nat.le_trans (by decide) hlev) (Nat.le_of_ble_eq_true rfl) dX9_requireWord_21 dX9_requireWord_24 dX9_requireWord_25 dX9_requireWord_28 dX9_requireWord_31
def f_X9_requireWord (x1 : Int32) (x2 : Int32) (x3 : Int32) (M : Mem) : Option ((Int32 ⊕ String) × Mem) := bndX (f_X9_requireRow x1 x2 M) (fun _ M2 => if x3 < 0 then j_X9_requireWord_21 M2 else if ¬ M2 0 5 < 0 ∧ blkD KSx (ix (M2 0 5)) blk4 then if x3 < (M2 (ix (M2 0 5)) 2) then some (rOk 0, M2) else j_X9_requireWord_21 M2 else none)
set_option maxRecDepth 20000 in
set_option maxHeartbeats 2000000 in
theorem ev_X9_requireWord (d : Nat) (hlev : 8 ≤ d) (x1 : Int32) (x2 : Int32) (x3 : Int32) (M : Mem) : EvX KSx ST1 mdX9_requireWord d [.inr 0, .inl x1, .inl x2, .inl x3] M (f_X9_requireWord x1 x2 x3 M) := by
  refine evX_of rfl (Nat.le_of_ble_eq_true rfl) ?_
  show CorX KSx ST1 RX9 cX9_requireWord 4 none d 0 [(0, .inr 0), (1, .inl x1), (2, .inl x2), (3, .inl x3)] [] M (f_X9_requireWord x1 x2 x3 M)
  unfold f_X9_requireWord
  refine c_aload_n (i := 0) dX9_requireWord_0 rfl rfl ?_
  refine c_iload_n (i := 1) dX9_requireWord_1 rfl rfl ?_
  refine c_iload_n (i := 2) dX9_requireWord_2 rfl rfl ?_
  refine c_callX (as := [.inl x1, .inl x2]) (rs := []) (ev_X9_requireRow 7 (Nat.le_refl _) x1 x2 M) rfl (Nat.lt_of_lt_of_le (by decide) hlev) mw_X9_requireRow wi_X9_requireRow wv_X9_requireRow (blk_get0 KSx_b0) (by decide) rfl wl_RX9_167 mn_X9_requireRow rfl (by decide) (Nat.le_of_ble_eq_true rfl) rfl dX9_requireWord_3 (fun v1 M2 _ => ?_)
  refine c_iload_n (i := 3) dX9_requireWord_6 rfl rfl ?_
  refine c_if_lt (tgt := 21) dX9_requireWord_7 rfl (fun h3 => ?_) (fun h3 => ?_)
  · refine c_keep [] (ls2 := []) rfl ?_
    exact jo_X9_requireWord_21 d hlev M2
  · refine c_iload_n (i := 3) dX9_requireWord_10 rfl rfl ?_
    refine c_aload_n (i := 0) dX9_requireWord_11 rfl rfl ?_
    refine c_chk (fun h4 => ?_)
    refine gf_RX9_23 (blk_get0 KSx_b0) h4.1 dX9_requireWord_12 ?_
    refine gf_RX9_111 (blk_get0 (blk_of h4.2)) dX9_requireWord_15 ?_
    refine c_icmp_lt (tgt := 32) dX9_requireWord_18 rfl (fun h5 => ?_) (fun h5 => ?_)
    · exact c_xvret rfl dX9_requireWord_32
    · refine c_keep [] (ls2 := []) rfl ?_
      exact jo_X9_requireWord_21 d hlev M2

abbrev mdX9_memory : MD := (yX9_memory, cX9_memory, 4, (some .int))
theorem mw_X9_memory : mdW mdX9_memory := ⟨wm_X9_memory, w0_RX9, by decide, by decide⟩
theorem mn_X9_memory : (parseMethodDescriptor yX9_memory.desc).map (fun d => d.parameters.length) = some 3 := by decide +kernel
def f_X9_memory (x1 : Int32) (x2 : Int32) (x3 : Int32) (M : Mem) : Option ((Int32 ⊕ String) × Mem) := bndX (f_X9_requireWord x1 x2 x3 M) (fun _ M2 => if inb (p_X9_wordPlace x1 x2 x3) 1024 then some (rOk (M2 35 (ix (p_X9_wordPlace x1 x2 x3))), M2) else none)
set_option maxRecDepth 20000 in
set_option maxHeartbeats 2000000 in
theorem ev_X9_memory (d : Nat) (hlev : 9 ≤ d) (x1 : Int32) (x2 : Int32) (x3 : Int32) (M : Mem) : EvX KSx ST1 mdX9_memory d [.inr 0, .inl x1, .inl x2, .inl x3] M (f_X9_memory x1 x2 x3 M) := by
  refine evX_of rfl (Nat.le_of_ble_eq_true rfl) ?_
  show CorX KSx ST1 RX9 cX9_memory 4 (some .int) d 0 [(0, .inr 0), (1, .inl x1), (2, .inl x2), (3, .inl x3)] [] M (f_X9_memory x1 x2 x3 M)
  unfold f_X9_memory
  refine c_aload_n (i := 0) dX9_memory_0 rfl rfl ?_
  refine c_iload_n (i := 1) dX9_memory_1 rfl rfl ?_
  refine c_iload_n (i := 2) dX9_memory_2 rfl rfl ?_
  refine c_iload_n (i := 3) dX9_memory_3 rfl rfl ?_
  refine c_callX (as := [.inl x1, .inl x2, .inl x3]) (rs := []) (ev_X9_requireWord 8 (Nat.le_refl _) x1 x2 x3 M) rfl (Nat.lt_of_lt_of_le (by decide) hlev) mw_X9_requireWord wi_X9_requireWord wv_X9_requireWord (blk_get0 KSx_b0) (by decide) rfl wl_RX9_150 mn_X9_requireWord rfl (by decide) (Nat.le_of_ble_eq_true rfl) rfl dX9_memory_4 (fun v1 M2 _ => ?_)
  refine c_aload_n (i := 0) dX9_memory_7 rfl rfl ?_
  refine gf_RX9_33 (blk_get0 KSx_b0) dX9_memory_8 ?_
  refine gf_RX9_154 (blk_get0 (blk_sub (C := blk5) (i := 33) KSx_b0 rfl)) dX9_memory_11 ?_
  refine gf_RX9_158 (blk_get0 (blk_sub (C := blk8) (i := 1) (blk_sub (C := blk5) (i := 33) KSx_b0 rfl) rfl)) dX9_memory_14 ?_
  refine c_iload_n (i := 1) dX9_memory_17 rfl rfl ?_
  refine c_iload_n (i := 2) dX9_memory_18 rfl rfl ?_
  refine c_iload_n (i := 3) dX9_memory_19 rfl rfl ?_
  refine c_callSp (as := [.inl x1, .inl x2, .inl x3]) (rs := [.inr 35]) (ev_X9_wordPlace 0 (Nat.le_refl _) x1 x2 x3 M2) rfl (Nat.lt_of_lt_of_le (by decide) hlev) mw_X9_wordPlace ws_X9_wordPlace wl_RX9_163 mn_X9_wordPlace rfl (by decide) (Nat.le_of_ble_eq_true rfl) ⟨_, rfl⟩ dX9_memory_20 ?_
  refine c_chk (fun h3 => ?_)
  refine c_iald (blk_get0 (blk_sub (C := [(20, 1024)]) (i := 1) (blk_sub (C := blk8) (i := 1) (blk_sub (C := blk5) (i := 33) KSx_b0 rfl) rfl) rfl)) h3 dX9_memory_23 ?_
  exact c_xret rfl dX9_memory_24

abbrev mdX9_fill : MD := (yX9_fill, cX9_fill, 6, (some .int))
theorem mw_X9_fill : mdW mdX9_fill := ⟨wm_X9_fill, w0_RX9, by decide, by decide⟩
theorem mn_X9_fill : (parseMethodDescriptor yX9_fill.desc).map (fun d => d.parameters.length) = some 4 := by decide +kernel
def j_X9_fill_85 (x3 : Int32) (x4 : Int32) (M : Mem) : Option ((Int32 ⊕ String) × Mem) := if ¬ M 0 5 < 0 ∧ blkD KSx (ix (M 0 5)) blk4 then some (rOk (x3 + (((M (ix (M 0 5)) 2) - 1) * x4)), M) else none
set_option maxRecDepth 20000 in
set_option maxHeartbeats 2000000 in
theorem jo_X9_fill_85 (d : Nat) (hlev : 8 ≤ d) (x3 : Int32) (x4 : Int32) (M : Mem) : CorX KSx ST1 RX9 cX9_fill 6 (some .int) d 85 [(0, .inr 0), (3, .inl x3), (4, .inl x4)] [] M (j_X9_fill_85 x3 x4 M) := by
  unfold j_X9_fill_85
  refine c_iload_n (i := 3) dX9_fill_85 rfl rfl ?_
  refine c_aload_n (i := 0) dX9_fill_86 rfl rfl ?_
  refine c_chk (fun h6 => ?_)
  refine gf_RX9_23 (blk_get0 KSx_b0) h6.1 dX9_fill_87 ?_
  refine gf_RX9_111 (blk_get0 (blk_of h6.2)) dX9_fill_90 ?_
  refine c_iconst dX9_fill_93 (v := 1) rfl ?_
  refine c_isub dX9_fill_94 ?_
  refine c_iload dX9_fill_95 rfl ?_
  refine c_imul dX9_fill_97 ?_
  refine c_iadd dX9_fill_98 ?_
  exact c_xret rfl dX9_fill_99
def l_X9_fill_9 (x1 : Int32) (x2 : Int32) (x3 : Int32) (x4 : Int32) (K9 : Int32 × Mem → Option ((Int32 ⊕ String) × Mem)) : Int32 × Mem → Option ((Int32 ⊕ String) × Mem) := fun s => match s with
  | (x5, M) => if ¬ M 0 5 < 0 ∧ blkD KSx (ix (M 0 5)) blk4 then if (M (ix (M 0 5)) 2) ≤ x5 then if (M 33 4) = 0 then j_X9_fill_85 x3 x4 M else bnd (f_X1_lineOf 45 x1 x2 M) (fun v7 M8 => bnd (f_X1_removeLine 45 v7 M8) (fun v9 M10 => j_X9_fill_85 x3 x4 M10)) else if inb (p_X9_wordPlace x1 x2 x5) 1024 then wrt (up M 35 (ix (p_X9_wordPlace x1 x2 x5)) (x3 + (x5 * x4))) (fun M12 => K9 (x5 + 1, M12)) else none else none
set_option maxRecDepth 20000 in
set_option maxHeartbeats 2000000 in
theorem lo_X9_fill_9 (d : Nat) (hlev : 8 ≤ d) (x1 : Int32) (x2 : Int32) (x3 : Int32) (x4 : Int32) (s : Int32 × Mem) : CorX KSx ST1 RX9 cX9_fill 6 (some .int) d 9 [(0, .inr 0), (1, .inl x1), (2, .inl x2), (3, .inl x3), (4, .inl x4), (5, .inl s.1)] [] s.2 (loopC (l_X9_fill_9 x1 x2 x3 x4) fuelL s) := by
  refine c_loop (L := fun s : Int32 × Mem => [(0, .inr 0), (1, .inl x1), (2, .inl x2), (3, .inl x3), (4, .inl x4), (5, .inl s.1)]) (Mf := fun s : Int32 × Mem => s.2) (fun K9 hK9 s => ?_) fuelL s
  obtain ⟨x5, M⟩ := s
  show CorX KSx ST1 RX9 cX9_fill 6 (some .int) d 9 [(0, .inr 0), (1, .inl x1), (2, .inl x2), (3, .inl x3), (4, .inl x4), (5, .inl x5)] [] M (l_X9_fill_9 x1 x2 x3 x4 K9 (x5, M))
  unfold l_X9_fill_9
  refine c_iload dX9_fill_9 rfl ?_
  refine c_aload_n (i := 0) dX9_fill_11 rfl rfl ?_
  refine c_chk (fun h3 => ?_)
  refine gf_RX9_23 (blk_get0 KSx_b0) h3.1 dX9_fill_12 ?_
  refine gf_RX9_111 (blk_get0 (blk_of h3.2)) dX9_fill_15 ?_
  refine c_icmp_ge (tgt := 52) dX9_fill_18 rfl (fun h4 => ?_) (fun h4 => ?_)
  · refine c_aload_n (i := 0) dX9_fill_52 rfl rfl ?_
    refine gf_RX9_33 (blk_get0 KSx_b0) dX9_fill_53 ?_
    refine gf_RX9_171 (blk_get0 (blk_sub (C := blk5) (i := 33) KSx_b0 rfl)) dX9_fill_56 ?_
    refine c_if_eq (tgt := 85) dX9_fill_59 rfl (fun h5 => ?_) (fun h5 => ?_)
    · refine c_keep [0, 3, 4] (ls2 := [(0, .inr 0), (3, .inl x3), (4, .inl x4)]) rfl ?_
      exact jo_X9_fill_85 d hlev x3 x4 M
    · refine c_aload_n (i := 0) dX9_fill_62 rfl rfl ?_
      refine gf_RX9_33 (blk_get0 KSx_b0) dX9_fill_63 ?_
      refine gf_RX9_126 (blk_get0 (blk_sub (C := blk5) (i := 33) KSx_b0 rfl)) dX9_fill_66 ?_
      refine c_aload_n (i := 0) dX9_fill_69 rfl rfl ?_
      refine gf_RX9_33 (blk_get0 KSx_b0) dX9_fill_70 ?_
      refine gf_RX9_126 (blk_get0 (blk_sub (C := blk5) (i := 33) KSx_b0 rfl)) dX9_fill_73 ?_
      refine c_iload_n (i := 1) dX9_fill_76 rfl rfl ?_
      refine c_iload_n (i := 2) dX9_fill_77 rfl rfl ?_
      refine c_callV (as := [.inl x1, .inl x2]) (rs := [.inr 45]) (ev_X1_lineOf 1 (Nat.le_refl _) 45 (blk_sub (C := blk1) (i := 12) (blk_sub (C := blk5) (i := 33) KSx_b0 rfl) rfl) x1 x2 M) rfl (Nat.lt_of_lt_of_le (by decide) hlev) mw_X1_lineOf wi_X1_lineOf wv_X1_lineOf (blk_get0 (blk_sub (C := blk1) (i := 12) (blk_sub (C := blk5) (i := 33) KSx_b0 rfl) rfl)) (by decide) rfl wl_RX9_175 mn_X1_lineOf rfl (by decide) (Nat.le_of_ble_eq_true rfl) ⟨_, rfl⟩ dX9_fill_78 (fun v7 M8 _ => ?_)
      refine c_callV (as := [.inl v7]) (rs := []) (ev_X1_removeLine 0 (Nat.le_refl _) 45 (blk_sub (C := blk1) (i := 12) (blk_sub (C := blk5) (i := 33) KSx_b0 rfl) rfl) v7 M8) rfl (Nat.lt_of_lt_of_le (by decide) hlev) mw_X1_removeLine wi_X1_removeLine wv_X1_removeLine (blk_get0 (blk_sub (C := blk1) (i := 12) (blk_sub (C := blk5) (i := 33) KSx_b0 rfl) rfl)) (by decide) rfl wl_RX9_179 mn_X1_removeLine rfl (by decide) (Nat.le_of_ble_eq_true rfl) ⟨_, rfl⟩ dX9_fill_81 (fun v9 M10 _ => ?_)
      refine c_pop dX9_fill_84 ?_
      refine c_keep [0, 3, 4] (ls2 := [(0, .inr 0), (3, .inl x3), (4, .inl x4)]) rfl ?_
      exact jo_X9_fill_85 d hlev x3 x4 M10
  · refine c_aload_n (i := 0) dX9_fill_21 rfl rfl ?_
    refine gf_RX9_33 (blk_get0 KSx_b0) dX9_fill_22 ?_
    refine gf_RX9_154 (blk_get0 (blk_sub (C := blk5) (i := 33) KSx_b0 rfl)) dX9_fill_25 ?_
    refine gf_RX9_158 (blk_get0 (blk_sub (C := blk8) (i := 1) (blk_sub (C := blk5) (i := 33) KSx_b0 rfl) rfl)) dX9_fill_28 ?_
    refine c_iload_n (i := 1) dX9_fill_31 rfl rfl ?_
    refine c_iload_n (i := 2) dX9_fill_32 rfl rfl ?_
    refine c_iload dX9_fill_33 rfl ?_
    refine c_callSp (as := [.inl x1, .inl x2, .inl x5]) (rs := [.inr 35]) (ev_X9_wordPlace 0 (Nat.le_refl _) x1 x2 x5 M) rfl (Nat.lt_of_lt_of_le (by decide) hlev) mw_X9_wordPlace ws_X9_wordPlace wl_RX9_163 mn_X9_wordPlace rfl (by decide) (Nat.le_of_ble_eq_true rfl) ⟨_, rfl⟩ dX9_fill_35 ?_
    refine c_iload_n (i := 3) dX9_fill_38 rfl rfl ?_
    refine c_iload dX9_fill_39 rfl ?_
    refine c_iload dX9_fill_41 rfl ?_
    refine c_imul dX9_fill_43 ?_
    refine c_iadd dX9_fill_44 ?_
    refine c_chk (fun h11 => ?_)
    refine c_iast (blk_get0 (blk_sub (C := [(20, 1024)]) (i := 1) (blk_sub (C := blk8) (i := 1) (blk_sub (C := blk5) (i := 33) KSx_b0 rfl) rfl) rfl)) h11 dX9_fill_45 ?_
    refine c_wrt (fun M12 => ?_)
    refine c_iinc dX9_fill_46 rfl (v := 1) rfl (by decide) (ls2 := [(0, .inr 0), (1, .inl x1), (2, .inl x2), (3, .inl x3), (4, .inl x4), (5, .inl (x5 + 1))]) rfl ?_
    refine c_goto (tgt := 9) dX9_fill_49 rfl ?_
    refine c_keep [0, 1, 2, 3, 4, 5] (ls2 := [(0, .inr 0), (1, .inl x1), (2, .inl x2), (3, .inl x3), (4, .inl x4), (5, .inl (x5 + 1))]) rfl ?_
    exact hK9 (x5 + 1, M12)
def f_X9_fill (x1 : Int32) (x2 : Int32) (x3 : Int32) (x4 : Int32) (M : Mem) : Option ((Int32 ⊕ String) × Mem) := bndX (f_X9_requireRow x1 x2 M) (fun _ M2 => loopC (l_X9_fill_9 x1 x2 x3 x4) fuelL (0, M2))
set_option maxRecDepth 20000 in
set_option maxHeartbeats 2000000 in
theorem ev_X9_fill (d : Nat) (hlev : 8 ≤ d) (x1 : Int32) (x2 : Int32) (x3 : Int32) (x4 : Int32) (M : Mem) : EvX KSx ST1 mdX9_fill d [.inr 0, .inl x1, .inl x2, .inl x3, .inl x4] M (f_X9_fill x1 x2 x3 x4 M) := by
  refine evX_of rfl (Nat.le_of_ble_eq_true rfl) ?_
  show CorX KSx ST1 RX9 cX9_fill 6 (some .int) d 0 [(0, .inr 0), (1, .inl x1), (2, .inl x2), (3, .inl x3), (4, .inl x4)] [] M (f_X9_fill x1 x2 x3 x4 M)
  unfold f_X9_fill
  refine c_aload_n (i := 0) dX9_fill_0 rfl rfl ?_
  refine c_iload_n (i := 1) dX9_fill_1 rfl rfl ?_
  refine c_iload_n (i := 2) dX9_fill_2 rfl rfl ?_
  refine c_callX (as := [.inl x1, .inl x2]) (rs := []) (ev_X9_requireRow 7 (Nat.le_refl _) x1 x2 M) rfl (Nat.lt_of_lt_of_le (by decide) hlev) mw_X9_requireRow wi_X9_requireRow wv_X9_requireRow (blk_get0 KSx_b0) (by decide) rfl wl_RX9_167 mn_X9_requireRow rfl (by decide) (Nat.le_of_ble_eq_true rfl) rfl dX9_fill_3 (fun v1 M2 _ => ?_)
  refine c_iconst dX9_fill_6 (v := 0) rfl ?_
  refine c_istore dX9_fill_7 (by decide) (ls2 := [(0, .inr 0), (1, .inl x1), (2, .inl x2), (3, .inl x3), (4, .inl x4), (5, .inl 0)]) rfl ?_
  refine c_keep [0, 1, 2, 3, 4, 5] (ls2 := [(0, .inr 0), (1, .inl x1), (2, .inl x2), (3, .inl x3), (4, .inl x4), (5, .inl 0)]) rfl ?_
  exact lo_X9_fill_9 d hlev x1 x2 x3 x4 (0, M2)

abbrev mdX9_requireRegister : MD := (yX9_requireRegister, cX9_requireRegister, 3, none)
theorem mw_X9_requireRegister : mdW mdX9_requireRegister := ⟨wm_X9_requireRegister, w0_RX9, by decide, by decide⟩
theorem mn_X9_requireRegister : (parseMethodDescriptor yX9_requireRegister.desc).map (fun d => d.parameters.length) = some 2 := by decide +kernel
def j_X9_requireRegister_14 (M : Mem) : Option ((Int32 ⊕ String) × Mem) := some (rEx "java/lang/IndexOutOfBoundsException", M)
set_option maxRecDepth 20000 in
set_option maxHeartbeats 2000000 in
theorem jo_X9_requireRegister_14 (d : Nat) (hlev : 7 ≤ d) (M : Mem) : CorX KSx ST1 RX9 cX9_requireRegister 3 none d 14 [] [] M (j_X9_requireRegister_14 M) := by
  unfold j_X9_requireRegister_14
  exact th_77w (List.mem_of_getElem? (i := 9) rfl) (Nat.le_trans (by decide) hlev) (Nat.le_of_ble_eq_true rfl) dX9_requireRegister_14 dX9_requireRegister_17 dX9_requireRegister_18 dX9_requireRegister_21 dX9_requireRegister_24
def f_X9_requireRegister (x1 : Int32) (x2 : Int32) (M : Mem) : Option ((Int32 ⊕ String) × Mem) := bndX (f_X9_requireBank x1 M) (fun _ M2 => if x2 < 0 then j_X9_requireRegister_14 M2 else if x2 < 4 then some (rOk 0, M2) else j_X9_requireRegister_14 M2)
set_option maxRecDepth 20000 in
set_option maxHeartbeats 2000000 in
theorem ev_X9_requireRegister (d : Nat) (hlev : 7 ≤ d) (x1 : Int32) (x2 : Int32) (M : Mem) : EvX KSx ST1 mdX9_requireRegister d [.inr 0, .inl x1, .inl x2] M (f_X9_requireRegister x1 x2 M) := by
  refine evX_of rfl (Nat.le_of_ble_eq_true rfl) ?_
  show CorX KSx ST1 RX9 cX9_requireRegister 3 none d 0 [(0, .inr 0), (1, .inl x1), (2, .inl x2)] [] M (f_X9_requireRegister x1 x2 M)
  unfold f_X9_requireRegister
  refine c_aload_n (i := 0) dX9_requireRegister_0 rfl rfl ?_
  refine c_iload_n (i := 1) dX9_requireRegister_1 rfl rfl ?_
  refine c_callX (as := [.inl x1]) (rs := []) (ev_X9_requireBank 6 (Nat.le_refl _) x1 M) rfl (Nat.lt_of_lt_of_le (by decide) hlev) mw_X9_requireBank wi_X9_requireBank wv_X9_requireBank (blk_get0 KSx_b0) (by decide) rfl wl_RX9_251 mn_X9_requireBank rfl (by decide) (Nat.le_of_ble_eq_true rfl) rfl dX9_requireRegister_2 (fun v1 M2 _ => ?_)
  refine c_iload_n (i := 2) dX9_requireRegister_5 rfl rfl ?_
  refine c_if_lt (tgt := 14) dX9_requireRegister_6 rfl (fun h3 => ?_) (fun h3 => ?_)
  · refine c_keep [] (ls2 := []) rfl ?_
    exact jo_X9_requireRegister_14 d hlev M2
  · refine c_iload_n (i := 2) dX9_requireRegister_9 rfl rfl ?_
    refine c_iconst dX9_requireRegister_10 (v := 4) rfl ?_
    refine c_icmp_lt (tgt := 25) dX9_requireRegister_11 rfl (fun h4 => ?_) (fun h4 => ?_)
    · exact c_xvret rfl dX9_requireRegister_25
    · refine c_keep [] (ls2 := []) rfl ?_
      exact jo_X9_requireRegister_14 d hlev M2

abbrev mdX9_requireLane : MD := (yX9_requireLane, cX9_requireLane, 4, none)
theorem mw_X9_requireLane : mdW mdX9_requireLane := ⟨wm_X9_requireLane, w0_RX9, by decide, by decide⟩
theorem mn_X9_requireLane : (parseMethodDescriptor yX9_requireLane.desc).map (fun d => d.parameters.length) = some 3 := by decide +kernel
def j_X9_requireLane_21 (M : Mem) : Option ((Int32 ⊕ String) × Mem) := some (rEx "java/lang/IndexOutOfBoundsException", M)
set_option maxRecDepth 20000 in
set_option maxHeartbeats 2000000 in
theorem jo_X9_requireLane_21 (d : Nat) (hlev : 8 ≤ d) (M : Mem) : CorX KSx ST1 RX9 cX9_requireLane 4 none d 21 [] [] M (j_X9_requireLane_21 M) := by
  unfold j_X9_requireLane_21
  exact th_77w (List.mem_of_getElem? (i := 10) rfl) (Nat.le_trans (by decide) hlev) (Nat.le_of_ble_eq_true rfl) dX9_requireLane_21 dX9_requireLane_24 dX9_requireLane_25 dX9_requireLane_28 dX9_requireLane_31
def f_X9_requireLane (x1 : Int32) (x2 : Int32) (x3 : Int32) (M : Mem) : Option ((Int32 ⊕ String) × Mem) := bndX (f_X9_requireRegister x1 x2 M) (fun _ M2 => if x3 < 0 then j_X9_requireLane_21 M2 else if ¬ M2 0 5 < 0 ∧ blkD KSx (ix (M2 0 5)) blk4 then if x3 < (M2 (ix (M2 0 5)) 2) then some (rOk 0, M2) else j_X9_requireLane_21 M2 else none)
set_option maxRecDepth 20000 in
set_option maxHeartbeats 2000000 in
theorem ev_X9_requireLane (d : Nat) (hlev : 8 ≤ d) (x1 : Int32) (x2 : Int32) (x3 : Int32) (M : Mem) : EvX KSx ST1 mdX9_requireLane d [.inr 0, .inl x1, .inl x2, .inl x3] M (f_X9_requireLane x1 x2 x3 M) := by
  refine evX_of rfl (Nat.le_of_ble_eq_true rfl) ?_
  show CorX KSx ST1 RX9 cX9_requireLane 4 none d 0 [(0, .inr 0), (1, .inl x1), (2, .inl x2), (3, .inl x3)] [] M (f_X9_requireLane x1 x2 x3 M)
  unfold f_X9_requireLane
  refine c_aload_n (i := 0) dX9_requireLane_0 rfl rfl ?_
  refine c_iload_n (i := 1) dX9_requireLane_1 rfl rfl ?_
  refine c_iload_n (i := 2) dX9_requireLane_2 rfl rfl ?_
  refine c_callX (as := [.inl x1, .inl x2]) (rs := []) (ev_X9_requireRegister 7 (Nat.le_refl _) x1 x2 M) rfl (Nat.lt_of_lt_of_le (by decide) hlev) mw_X9_requireRegister wi_X9_requireRegister wv_X9_requireRegister (blk_get0 KSx_b0) (by decide) rfl wl_RX9_263 mn_X9_requireRegister rfl (by decide) (Nat.le_of_ble_eq_true rfl) rfl dX9_requireLane_3 (fun v1 M2 _ => ?_)
  refine c_iload_n (i := 3) dX9_requireLane_6 rfl rfl ?_
  refine c_if_lt (tgt := 21) dX9_requireLane_7 rfl (fun h3 => ?_) (fun h3 => ?_)
  · refine c_keep [] (ls2 := []) rfl ?_
    exact jo_X9_requireLane_21 d hlev M2
  · refine c_iload_n (i := 3) dX9_requireLane_10 rfl rfl ?_
    refine c_aload_n (i := 0) dX9_requireLane_11 rfl rfl ?_
    refine c_chk (fun h4 => ?_)
    refine gf_RX9_23 (blk_get0 KSx_b0) h4.1 dX9_requireLane_12 ?_
    refine gf_RX9_111 (blk_get0 (blk_of h4.2)) dX9_requireLane_15 ?_
    refine c_icmp_lt (tgt := 32) dX9_requireLane_18 rfl (fun h5 => ?_) (fun h5 => ?_)
    · exact c_xvret rfl dX9_requireLane_32
    · refine c_keep [] (ls2 := []) rfl ?_
      exact jo_X9_requireLane_21 d hlev M2

abbrev mdX9_register : MD := (yX9_register, cX9_register, 4, (some .int))
theorem mw_X9_register : mdW mdX9_register := ⟨wm_X9_register, w0_RX9, by decide, by decide⟩
theorem mn_X9_register : (parseMethodDescriptor yX9_register.desc).map (fun d => d.parameters.length) = some 3 := by decide +kernel
def f_X9_register (x1 : Int32) (x2 : Int32) (x3 : Int32) (M : Mem) : Option ((Int32 ⊕ String) × Mem) := bndX (f_X9_requireLane x1 x2 x3 M) (fun _ M2 => if inb (p_X9_lanePlace x1 x2 x3) 256 then some (rOk (M2 36 (ix (p_X9_lanePlace x1 x2 x3))), M2) else none)
set_option maxRecDepth 20000 in
set_option maxHeartbeats 2000000 in
theorem ev_X9_register (d : Nat) (hlev : 9 ≤ d) (x1 : Int32) (x2 : Int32) (x3 : Int32) (M : Mem) : EvX KSx ST1 mdX9_register d [.inr 0, .inl x1, .inl x2, .inl x3] M (f_X9_register x1 x2 x3 M) := by
  refine evX_of rfl (Nat.le_of_ble_eq_true rfl) ?_
  show CorX KSx ST1 RX9 cX9_register 4 (some .int) d 0 [(0, .inr 0), (1, .inl x1), (2, .inl x2), (3, .inl x3)] [] M (f_X9_register x1 x2 x3 M)
  unfold f_X9_register
  refine c_aload_n (i := 0) dX9_register_0 rfl rfl ?_
  refine c_iload_n (i := 1) dX9_register_1 rfl rfl ?_
  refine c_iload_n (i := 2) dX9_register_2 rfl rfl ?_
  refine c_iload_n (i := 3) dX9_register_3 rfl rfl ?_
  refine c_callX (as := [.inl x1, .inl x2, .inl x3]) (rs := []) (ev_X9_requireLane 8 (Nat.le_refl _) x1 x2 x3 M) rfl (Nat.lt_of_lt_of_le (by decide) hlev) mw_X9_requireLane wi_X9_requireLane wv_X9_requireLane (blk_get0 KSx_b0) (by decide) rfl wl_RX9_183 mn_X9_requireLane rfl (by decide) (Nat.le_of_ble_eq_true rfl) rfl dX9_register_4 (fun v1 M2 _ => ?_)
  refine c_aload_n (i := 0) dX9_register_7 rfl rfl ?_
  refine gf_RX9_33 (blk_get0 KSx_b0) dX9_register_8 ?_
  refine gf_RX9_154 (blk_get0 (blk_sub (C := blk5) (i := 33) KSx_b0 rfl)) dX9_register_11 ?_
  refine gf_RX9_186 (blk_get0 (blk_sub (C := blk8) (i := 1) (blk_sub (C := blk5) (i := 33) KSx_b0 rfl) rfl)) dX9_register_14 ?_
  refine c_iload_n (i := 1) dX9_register_17 rfl rfl ?_
  refine c_iload_n (i := 2) dX9_register_18 rfl rfl ?_
  refine c_iload_n (i := 3) dX9_register_19 rfl rfl ?_
  refine c_callSp (as := [.inl x1, .inl x2, .inl x3]) (rs := [.inr 36]) (ev_X9_lanePlace 0 (Nat.le_refl _) x1 x2 x3 M2) rfl (Nat.lt_of_lt_of_le (by decide) hlev) mw_X9_lanePlace ws_X9_lanePlace wl_RX9_189 mn_X9_lanePlace rfl (by decide) (Nat.le_of_ble_eq_true rfl) ⟨_, rfl⟩ dX9_register_20 ?_
  refine c_chk (fun h3 => ?_)
  refine c_iald (blk_get0 (blk_sub (C := [(20, 256)]) (i := 2) (blk_sub (C := blk8) (i := 1) (blk_sub (C := blk5) (i := 33) KSx_b0 rfl) rfl) rfl)) h3 dX9_register_23 ?_
  exact c_xret rfl dX9_register_24
