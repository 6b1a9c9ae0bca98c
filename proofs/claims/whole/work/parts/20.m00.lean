abbrev mdX0_clear : MD := (yX0_clear, cX0_clear, 1, none)
theorem mw_X0_clear : mdW mdX0_clear := ⟨wm_X0_clear, w0_RX0, by decide, by decide⟩
theorem mn_X0_clear : (parseMethodDescriptor yX0_clear.desc).map (fun d => d.parameters.length) = some 0 := by decide +kernel
def f_X0_clear (t0 : Nat) (M : Mem) : Option (Int32 × Mem) := wrt (up M t0 1 0) (fun M1 => wrt (up M1 t0 3 0) (fun M2 => some (0, M2)))
set_option maxRecDepth 20000 in
set_option maxHeartbeats 2000000 in
theorem ev_X0_clear (d : Nat) (hlev : 0 ≤ d) (t0 : Nat) (h_t0 : blkAt KSx t0 blk0) (M : Mem) : Ev KSx ST1 mdX0_clear d [.inr t0] M (f_X0_clear t0 M) := by
  refine ev_of rfl (Nat.le_of_ble_eq_true rfl) ?_
  show CorM KSx ST1 RX0 cX0_clear 1 none d 0 [(0, .inr t0)] [] M (f_X0_clear t0 M)
  unfold f_X0_clear
  refine c_aload_n (i := 0) dX0_clear_0 rfl rfl ?_
  refine c_iconst dX0_clear_1 (v := 0) rfl ?_
  refine pf_RX0_18 (blk_get0 h_t0) dX0_clear_2 ?_
  refine c_wrt (fun M1 => ?_)
  refine c_aload_n (i := 0) dX0_clear_5 rfl rfl ?_
  refine c_iconst dX0_clear_6 (v := 0) rfl ?_
  refine pf_RX0_22 (blk_get0 h_t0) dX0_clear_7 ?_
  refine c_wrt (fun M2 => ?_)
  exact c_vret rfl dX0_clear_10

abbrev mdX0_copyFrom : MD := (yX0_copyFrom, cX0_copyFrom, 2, none)
theorem mw_X0_copyFrom : mdW mdX0_copyFrom := ⟨wm_X0_copyFrom, w0_RX0, by decide, by decide⟩
theorem mn_X0_copyFrom : (parseMethodDescriptor yX0_copyFrom.desc).map (fun d => d.parameters.length) = some 1 := by decide +kernel
def f_X0_copyFrom (t0 : Nat) (t1 : Nat) (M : Mem) : Option (Int32 × Mem) := wrt (cpy M (t1 + 1) 0 (t0 + 1) 0 16) (fun M1 => wrt (cpy M1 (t1 + 2) 0 (t0 + 2) 0 120) (fun M2 => wrt (up M2 t0 1 (M2 t1 1)) (fun M3 => wrt (up M3 t0 3 (M3 t1 3)) (fun M4 => some (0, M4)))))
set_option maxRecDepth 20000 in
set_option maxHeartbeats 2000000 in
theorem ev_X0_copyFrom (d : Nat) (hlev : 1 ≤ d) (t0 : Nat) (h_t0 : blkAt KSx t0 blk0) (t1 : Nat) (h_t1 : blkAt KSx t1 blk0) (M : Mem) : Ev KSx ST1 mdX0_copyFrom d [.inr t0, .inr t1] M (f_X0_copyFrom t0 t1 M) := by
  refine ev_of rfl (Nat.le_of_ble_eq_true rfl) ?_
  show CorM KSx ST1 RX0 cX0_copyFrom 2 none d 0 [(0, .inr t0), (1, .inr t1)] [] M (f_X0_copyFrom t0 t1 M)
  unfold f_X0_copyFrom
  refine c_aload_n (i := 1) dX0_copyFrom_0 rfl rfl ?_
  refine gf_RX0_9 (blk_get0 h_t1) dX0_copyFrom_1 ?_
  refine c_iconst dX0_copyFrom_4 (v := 0) rfl ?_
  refine c_aload_n (i := 0) dX0_copyFrom_5 rfl rfl ?_
  refine gf_RX0_9 (blk_get0 h_t0) dX0_copyFrom_6 ?_
  refine c_iconst dX0_copyFrom_9 (v := 0) rfl ?_
  refine c_bipush dX0_copyFrom_10 (v := 16) rfl ?_
  refine c_copy wl_RX0_25 (blk_get0 (blk_sub (C := [(20, 16)]) (i := 1) h_t1 rfl)) (blk_get0 (blk_sub (C := [(20, 16)]) (i := 1) h_t0 rfl)) (by decide) (Nat.lt_of_lt_of_le (by decide) hlev) (Nat.le_of_ble_eq_true rfl) dX0_copyFrom_12 ?_
  refine c_wrt (fun M1 => ?_)
  refine c_aload_n (i := 1) dX0_copyFrom_15 rfl rfl ?_
  refine gf_RX0_15 (blk_get0 h_t1) dX0_copyFrom_16 ?_
  refine c_iconst dX0_copyFrom_19 (v := 0) rfl ?_
  refine c_aload_n (i := 0) dX0_copyFrom_20 rfl rfl ?_
  refine gf_RX0_15 (blk_get0 h_t0) dX0_copyFrom_21 ?_
  refine c_iconst dX0_copyFrom_24 (v := 0) rfl ?_
  refine c_aload_n (i := 0) dX0_copyFrom_25 rfl rfl ?_
  refine gf_RX0_15 (blk_get0 h_t0) dX0_copyFrom_26 ?_
  refine c_alen (blk_get0 (blk_sub (C := [(20, 120)]) (i := 2) h_t0 rfl)) (Or.inl rfl) (v := 120) rfl dX0_copyFrom_29 ?_
  refine c_copy wl_RX0_25 (blk_get0 (blk_sub (C := [(20, 120)]) (i := 2) h_t1 rfl)) (blk_get0 (blk_sub (C := [(20, 120)]) (i := 2) h_t0 rfl)) (by decide) (Nat.lt_of_lt_of_le (by decide) hlev) (Nat.le_of_ble_eq_true rfl) dX0_copyFrom_30 ?_
  refine c_wrt (fun M2 => ?_)
  refine c_aload_n (i := 0) dX0_copyFrom_33 rfl rfl ?_
  refine c_aload_n (i := 1) dX0_copyFrom_34 rfl rfl ?_
  refine gf_RX0_18 (blk_get0 h_t1) dX0_copyFrom_35 ?_
  refine pf_RX0_18 (blk_get0 h_t0) dX0_copyFrom_38 ?_
  refine c_wrt (fun M3 => ?_)
  refine c_aload_n (i := 0) dX0_copyFrom_41 rfl rfl ?_
  refine c_aload_n (i := 1) dX0_copyFrom_42 rfl rfl ?_
  refine gf_RX0_22 (blk_get0 h_t1) dX0_copyFrom_43 ?_
  refine pf_RX0_22 (blk_get0 h_t0) dX0_copyFrom_46 ?_
  refine c_wrt (fun M4 => ?_)
  exact c_vret rfl dX0_copyFrom_49

abbrev mdX0_addBatch : MD := (yX0_addBatch, cX0_addBatch, 2, none)
theorem mw_X0_addBatch : mdW mdX0_addBatch := ⟨wm_X0_addBatch, w0_RX0, by decide, by decide⟩
theorem mn_X0_addBatch : (parseMethodDescriptor yX0_addBatch.desc).map (fun d => d.parameters.length) = some 1 := by decide +kernel
def f_X0_addBatch (t0 : Nat) (x1 : Int32) (M : Mem) : Option (Int32 × Mem) := if inb (M t0 1) 16 then wrt (up M (t0 + 1) (ix (M t0 1)) x1) (fun M2 => wrt (up M2 t0 1 ((M2 t0 1) + 1)) (fun M3 => some (0, M3))) else none
set_option maxRecDepth 20000 in
set_option maxHeartbeats 2000000 in
theorem ev_X0_addBatch (d : Nat) (hlev : 0 ≤ d) (t0 : Nat) (h_t0 : blkAt KSx t0 blk0) (x1 : Int32) (M : Mem) : Ev KSx ST1 mdX0_addBatch d [.inr t0, .inl x1] M (f_X0_addBatch t0 x1 M) := by
  refine ev_of rfl (Nat.le_of_ble_eq_true rfl) ?_
  show CorM KSx ST1 RX0 cX0_addBatch 2 none d 0 [(0, .inr t0), (1, .inl x1)] [] M (f_X0_addBatch t0 x1 M)
  unfold f_X0_addBatch
  refine c_aload_n (i := 0) dX0_addBatch_0 rfl rfl ?_
  refine gf_RX0_9 (blk_get0 h_t0) dX0_addBatch_1 ?_
  refine c_aload_n (i := 0) dX0_addBatch_4 rfl rfl ?_
  refine gf_RX0_18 (blk_get0 h_t0) dX0_addBatch_5 ?_
  refine c_iload_n (i := 1) dX0_addBatch_8 rfl rfl ?_
  refine c_chk (fun h1 => ?_)
  refine c_iast (blk_get0 (blk_sub (C := [(20, 16)]) (i := 1) h_t0 rfl)) h1 dX0_addBatch_9 ?_
  refine c_wrt (fun M2 => ?_)
  refine c_aload_n (i := 0) dX0_addBatch_10 rfl rfl ?_
  refine c_dup dX0_addBatch_11 ?_
  refine gf_RX0_18 (blk_get0 h_t0) dX0_addBatch_12 ?_
  refine c_iconst dX0_addBatch_15 (v := 1) rfl ?_
  refine c_iadd dX0_addBatch_16 ?_
  refine pf_RX0_18 (blk_get0 h_t0) dX0_addBatch_17 ?_
  refine c_wrt (fun M3 => ?_)
  exact c_vret rfl dX0_addBatch_20

abbrev mdX0_takeFirst : MD := (yX0_takeFirst, cX0_takeFirst, 2, (some .int))
theorem mw_X0_takeFirst : mdW mdX0_takeFirst := ⟨wm_X0_takeFirst, w0_RX0, by decide, by decide⟩
theorem mn_X0_takeFirst : (parseMethodDescriptor yX0_takeFirst.desc).map (fun d => d.parameters.length) = some 0 := by decide +kernel
def f_X0_takeFirst (t0 : Nat) (M : Mem) : Option (Int32 × Mem) := wrt (up M t0 1 ((M t0 1) - 1)) (fun M1 => if cpOk 16 16 1 0 (M1 t0 1) then wrt (cpy M1 (t0 + 1) 1 (t0 + 1) 0 (M1 t0 1)) (fun M3 => some (M (t0 + 1) 0, M3)) else none)
set_option maxRecDepth 20000 in
set_option maxHeartbeats 2000000 in
theorem ev_X0_takeFirst (d : Nat) (hlev : 1 ≤ d) (t0 : Nat) (h_t0 : blkAt KSx t0 blk0) (M : Mem) : Ev KSx ST1 mdX0_takeFirst d [.inr t0] M (f_X0_takeFirst t0 M) := by
  refine ev_of rfl (Nat.le_of_ble_eq_true rfl) ?_
  show CorM KSx ST1 RX0 cX0_takeFirst 2 (some .int) d 0 [(0, .inr t0)] [] M (f_X0_takeFirst t0 M)
  unfold f_X0_takeFirst
  refine c_aload_n (i := 0) dX0_takeFirst_0 rfl rfl ?_
  refine gf_RX0_9 (blk_get0 h_t0) dX0_takeFirst_1 ?_
  refine c_iconst dX0_takeFirst_4 (v := 0) rfl ?_
  refine c_iald (blk_get0 (blk_sub (C := [(20, 16)]) (i := 1) h_t0 rfl)) (by decide) dX0_takeFirst_5 ?_
  refine c_istore_n (i := 1) dX0_takeFirst_6 rfl (by decide) (ls2 := [(0, .inr t0), (1, .inl (M (t0 + 1) 0))]) rfl ?_
  refine c_aload_n (i := 0) dX0_takeFirst_7 rfl rfl ?_
  refine c_dup dX0_takeFirst_8 ?_
  refine gf_RX0_18 (blk_get0 h_t0) dX0_takeFirst_9 ?_
  refine c_iconst dX0_takeFirst_12 (v := 1) rfl ?_
  refine c_isub dX0_takeFirst_13 ?_
  refine pf_RX0_18 (blk_get0 h_t0) dX0_takeFirst_14 ?_
  refine c_wrt (fun M1 => ?_)
  refine c_aload_n (i := 0) dX0_takeFirst_17 rfl rfl ?_
  refine gf_RX0_9 (blk_get0 h_t0) dX0_takeFirst_18 ?_
  refine c_iconst dX0_takeFirst_21 (v := 1) rfl ?_
  refine c_aload_n (i := 0) dX0_takeFirst_22 rfl rfl ?_
  refine gf_RX0_9 (blk_get0 h_t0) dX0_takeFirst_23 ?_
  refine c_iconst dX0_takeFirst_26 (v := 0) rfl ?_
  refine c_aload_n (i := 0) dX0_takeFirst_27 rfl rfl ?_
  refine gf_RX0_18 (blk_get0 h_t0) dX0_takeFirst_28 ?_
  refine c_chk (fun h2 => ?_)
  refine c_copy wl_RX0_25 (blk_get0 (blk_sub (C := [(20, 16)]) (i := 1) h_t0 rfl)) (blk_get0 (blk_sub (C := [(20, 16)]) (i := 1) h_t0 rfl)) h2 (Nat.lt_of_lt_of_le (by decide) hlev) (Nat.le_of_ble_eq_true rfl) dX0_takeFirst_31 ?_
  refine c_wrt (fun M3 => ?_)
  refine c_iload_n (i := 1) dX0_takeFirst_34 rfl rfl ?_
  exact c_iret rfl dX0_takeFirst_35

abbrev mdJ9_floorMod_7cf53 : MD := (yJ9_floorMod_7cf53, cJ9_floorMod_7cf53, 3, (some .int))
theorem mw_J9_floorMod_7cf53 : mdW mdJ9_floorMod_7cf53 := ⟨wm_J9_floorMod_7cf53, w0_RJ9, by decide, by decide⟩
theorem mn_J9_floorMod_7cf53 : (parseMethodDescriptor yJ9_floorMod_7cf53.desc).map (fun d => d.parameters.length) = some 2 := by decide +kernel
def j_J9_floorMod_7cf53_18 (x2 : Int32) (M : Mem) : Option (Int32 × Mem) := some (x2, M)
set_option maxRecDepth 20000 in
set_option maxHeartbeats 2000000 in
theorem jo_J9_floorMod_7cf53_18 (d : Nat) (hlev : 0 ≤ d) (x2 : Int32) (M : Mem) : CorM KSx ST1 RJ9 cJ9_floorMod_7cf53 3 (some .int) d 18 [(2, .inl x2)] [] M (j_J9_floorMod_7cf53_18 x2 M) := by
  unfold j_J9_floorMod_7cf53_18
  refine c_iload_n (i := 2) dJ9_floorMod_7cf53_18 rfl rfl ?_
  exact c_iret rfl dJ9_floorMod_7cf53_19
def f_J9_floorMod_7cf53 (x0 : Int32) (x1 : Int32) (M : Mem) : Option (Int32 × Mem) := if ¬ x1 = 0 then if 0 ≤ (x0 ^^^ x1) then j_J9_floorMod_7cf53_18 (jrem x0 x1) M else if (jrem x0 x1) = 0 then j_J9_floorMod_7cf53_18 (jrem x0 x1) M else some ((jrem x0 x1) + x1, M) else none
set_option maxRecDepth 20000 in
set_option maxHeartbeats 2000000 in
theorem ev_J9_floorMod_7cf53 (d : Nat) (hlev : 0 ≤ d) (x0 : Int32) (x1 : Int32) (M : Mem) : Ev KSx ST1 mdJ9_floorMod_7cf53 d [.inl x0, .inl x1] M (f_J9_floorMod_7cf53 x0 x1 M) := by
  refine ev_ofF (by decide +kernel) (Nat.le_of_ble_eq_true rfl) ?_
  show CorM KSx ST1 RJ9 cJ9_floorMod_7cf53 3 (some .int) d 0 [(0, .inl x0), (1, .inl x1)] [] M (f_J9_floorMod_7cf53 x0 x1 M)
  unfold f_J9_floorMod_7cf53
  refine c_iload_n (i := 0) dJ9_floorMod_7cf53_0 rfl rfl ?_
  refine c_iload_n (i := 1) dJ9_floorMod_7cf53_1 rfl rfl ?_
  refine c_chk (fun h1 => ?_)
  refine c_irem dJ9_floorMod_7cf53_2 h1 ?_
  refine c_istore_n (i := 2) dJ9_floorMod_7cf53_3 rfl (by decide) (ls2 := [(0, .inl x0), (1, .inl x1), (2, .inl (jrem x0 x1))]) rfl ?_
  refine c_iload_n (i := 0) dJ9_floorMod_7cf53_4 rfl rfl ?_
  refine c_iload_n (i := 1) dJ9_floorMod_7cf53_5 rfl rfl ?_
  refine c_ixor dJ9_floorMod_7cf53_6 ?_
  refine c_if_ge (tgt := 18) dJ9_floorMod_7cf53_7 rfl (fun h2 => ?_) (fun h2 => ?_)
  · refine c_keep [2] (ls2 := [(2, .inl (jrem x0 x1))]) rfl ?_
    exact jo_J9_floorMod_7cf53_18 d hlev (jrem x0 x1) M
  · refine c_iload_n (i := 2) dJ9_floorMod_7cf53_10 rfl rfl ?_
    refine c_if_eq (tgt := 18) dJ9_floorMod_7cf53_11 rfl (fun h3 => ?_) (fun h3 => ?_)
    · refine c_keep [2] (ls2 := [(2, .inl (jrem x0 x1))]) rfl ?_
      exact jo_J9_floorMod_7cf53_18 d hlev (jrem x0 x1) M
    · refine c_iload_n (i := 2) dJ9_floorMod_7cf53_14 rfl rfl ?_
      refine c_iload_n (i := 1) dJ9_floorMod_7cf53_15 rfl rfl ?_
      refine c_iadd dJ9_floorMod_7cf53_16 ?_
      exact c_iret rfl dJ9_floorMod_7cf53_17

abbrev mdX0_noteRun : MD := (yX0_noteRun, cX0_noteRun, 5, none)
theorem mw_X0_noteRun : mdW mdX0_noteRun := ⟨wm_X0_noteRun, w0_RX0, by decide, by decide⟩
theorem mn_X0_noteRun : (parseMethodDescriptor yX0_noteRun.desc).map (fun d => d.parameters.length) = some 3 := by decide +kernel
def f_X0_noteRun (t0 : Nat) (x1 : Int32) (x2 : Int32) (x3 : Int32) (M : Mem) : Option (Int32 × Mem) := bnd (f_J9_floorMod_7cf53 (M t0 3) 40 M) (fun v1 M2 => if inb (v1 * 3) 120 then wrt (up M2 (t0 + 2) (ix (v1 * 3)) x1) (fun M4 => if inb ((v1 * 3) + 1) 120 then wrt (up M4 (t0 + 2) (ix ((v1 * 3) + 1)) x2) (fun M6 => if inb ((v1 * 3) + 2) 120 then wrt (up M6 (t0 + 2) (ix ((v1 * 3) + 2)) x3) (fun M8 => wrt (up M8 t0 3 ((M8 t0 3) + 1)) (fun M9 => some (0, M9))) else none) else none) else none)
set_option maxRecDepth 20000 in
set_option maxHeartbeats 2000000 in
theorem ev_X0_noteRun (d : Nat) (hlev : 1 ≤ d) (t0 : Nat) (h_t0 : blkAt KSx t0 blk0) (x1 : Int32) (x2 : Int32) (x3 : Int32) (M : Mem) : Ev KSx ST1 mdX0_noteRun d [.inr t0, .inl x1, .inl x2, .inl x3] M (f_X0_noteRun t0 x1 x2 x3 M) := by
  refine ev_of rfl (Nat.le_of_ble_eq_true rfl) ?_
  show CorM KSx ST1 RX0 cX0_noteRun 5 none d 0 [(0, .inr t0), (1, .inl x1), (2, .inl x2), (3, .inl x3)] [] M (f_X0_noteRun t0 x1 x2 x3 M)
  unfold f_X0_noteRun
  refine c_aload_n (i := 0) dX0_noteRun_0 rfl rfl ?_
  refine gf_RX0_22 (blk_get0 h_t0) dX0_noteRun_1 ?_
  refine c_bipush dX0_noteRun_4 (v := 40) rfl ?_
  refine c_callS (as := [.inl (M t0 3), .inl 40]) (rs := []) (ev_J9_floorMod_7cf53 0 (Nat.le_refl _) (M t0 3) 40 M) rfl (Nat.lt_of_lt_of_le (by decide) hlev) mw_J9_floorMod_7cf53 ws_J9_floorMod_7cf53 wl_RX0_31 mn_J9_floorMod_7cf53 rfl (by decide) (Nat.le_of_ble_eq_true rfl) ⟨_, rfl⟩ dX0_noteRun_6 (fun v1 M2 _ => ?_)
  refine c_iconst dX0_noteRun_9 (v := 3) rfl ?_
  refine c_imul dX0_noteRun_10 ?_
  refine c_istore dX0_noteRun_11 (by decide) (ls2 := [(0, .inr t0), (1, .inl x1), (2, .inl x2), (3, .inl x3), (4, .inl (v1 * 3))]) rfl ?_
  refine c_aload_n (i := 0) dX0_noteRun_13 rfl rfl ?_
  refine gf_RX0_15 (blk_get0 h_t0) dX0_noteRun_14 ?_
  refine c_iload dX0_noteRun_17 rfl ?_
  refine c_iload_n (i := 1) dX0_noteRun_19 rfl rfl ?_
  refine c_chk (fun h3 => ?_)
  refine c_iast (blk_get0 (blk_sub (C := [(20, 120)]) (i := 2) h_t0 rfl)) h3 dX0_noteRun_20 ?_
  refine c_wrt (fun M4 => ?_)
  refine c_aload_n (i := 0) dX0_noteRun_21 rfl rfl ?_
  refine gf_RX0_15 (blk_get0 h_t0) dX0_noteRun_22 ?_
  refine c_iload dX0_noteRun_25 rfl ?_
  refine c_iconst dX0_noteRun_27 (v := 1) rfl ?_
  refine c_iadd dX0_noteRun_28 ?_
  refine c_iload_n (i := 2) dX0_noteRun_29 rfl rfl ?_
  refine c_chk (fun h5 => ?_)
  refine c_iast (blk_get0 (blk_sub (C := [(20, 120)]) (i := 2) h_t0 rfl)) h5 dX0_noteRun_30 ?_
  refine c_wrt (fun M6 => ?_)
  refine c_aload_n (i := 0) dX0_noteRun_31 rfl rfl ?_
  refine gf_RX0_15 (blk_get0 h_t0) dX0_noteRun_32 ?_
  refine c_iload dX0_noteRun_35 rfl ?_
  refine c_iconst dX0_noteRun_37 (v := 2) rfl ?_
  refine c_iadd dX0_noteRun_38 ?_
  refine c_iload_n (i := 3) dX0_noteRun_39 rfl rfl ?_
  refine c_chk (fun h7 => ?_)
  refine c_iast (blk_get0 (blk_sub (C := [(20, 120)]) (i := 2) h_t0 rfl)) h7 dX0_noteRun_40 ?_
  refine c_wrt (fun M8 => ?_)
  refine c_aload_n (i := 0) dX0_noteRun_41 rfl rfl ?_
  refine c_dup dX0_noteRun_42 ?_
  refine gf_RX0_22 (blk_get0 h_t0) dX0_noteRun_43 ?_
  refine c_iconst dX0_noteRun_46 (v := 1) rfl ?_
  refine c_iadd dX0_noteRun_47 ?_
  refine pf_RX0_22 (blk_get0 h_t0) dX0_noteRun_48 ?_
  refine c_wrt (fun M9 => ?_)
  exact c_vret rfl dX0_noteRun_51

abbrev mdX1_removeLine : MD := (yX1_removeLine, cX1_removeLine, 2, (some .boolean))
theorem mw_X1_removeLine : mdW mdX1_removeLine := ⟨wm_X1_removeLine, w0_RX1, by decide, by decide⟩
theorem mn_X1_removeLine : (parseMethodDescriptor yX1_removeLine.desc).map (fun d => d.parameters.length) = some 1 := by decide +kernel
def f_X1_removeLine (t0 : Nat) (x1 : Int32) (M : Mem) : Option (Int32 × Mem) := if ¬ x1 = (-1) then if inb x1 8 then wrt (up M (t0 + 1) (ix x1) (-1)) (fun M3 => some (1, M3)) else none else some (0, M)
set_option maxRecDepth 20000 in
set_option maxHeartbeats 2000000 in
theorem ev_X1_removeLine (d : Nat) (hlev : 0 ≤ d) (t0 : Nat) (h_t0 : blkAt KSx t0 blk1) (x1 : Int32) (M : Mem) : Ev KSx ST1 mdX1_removeLine d [.inr t0, .inl x1] M (f_X1_removeLine t0 x1 M) := by
  refine ev_of rfl (Nat.le_of_ble_eq_true rfl) ?_
  show CorM KSx ST1 RX1 cX1_removeLine 2 (some .boolean) d 0 [(0, .inr t0), (1, .inl x1)] [] M (f_X1_removeLine t0 x1 M)
  unfold f_X1_removeLine
  refine c_iload_n (i := 1) dX1_removeLine_0 rfl rfl ?_
  refine c_iconst dX1_removeLine_1 (v := (-1)) rfl ?_
  refine c_icmp_ne (tgt := 7) dX1_removeLine_2 rfl (fun h1 => ?_) (fun h1 => ?_)
  · refine c_aload_n (i := 0) dX1_removeLine_7 rfl rfl ?_
    refine gf_RX1_9 (blk_get0 h_t0) dX1_removeLine_8 ?_
    refine c_iload_n (i := 1) dX1_removeLine_11 rfl rfl ?_
    refine c_iconst dX1_removeLine_12 (v := (-1)) rfl ?_
    refine c_chk (fun h2 => ?_)
    refine c_iast (blk_get0 (blk_sub (C := [(20, 8)]) (i := 1) h_t0 rfl)) h2 dX1_removeLine_13 ?_
    refine c_wrt (fun M3 => ?_)
    refine c_iconst dX1_removeLine_14 (v := 1) rfl ?_
    exact c_zret rfl (Or.inr rfl) dX1_removeLine_15
  · refine c_iconst dX1_removeLine_5 (v := 0) rfl ?_
    exact c_zret rfl (Or.inl rfl) dX1_removeLine_6

abbrev mdX1_clear : MD := (yX1_clear, cX1_clear, 2, none)
theorem mw_X1_clear : mdW mdX1_clear := ⟨wm_X1_clear, w0_RX1, by decide, by decide⟩
theorem mn_X1_clear : (parseMethodDescriptor yX1_clear.desc).map (fun d => d.parameters.length) = some 0 := by decide +kernel
def l_X1_clear_2 (t0 : Nat) (K2 : Int32 × Mem → Option (Int32 × Mem)) : Int32 × Mem → Option (Int32 × Mem) := fun s => match s with
  | (x1, M) => if 8 ≤ x1 then wrt (up M t0 4 0) (fun M2 => wrt (up M2 t0 5 0) (fun M3 => wrt (up M3 t0 6 0) (fun M4 => some (0, M4)))) else bnd (f_X1_removeLine t0 x1 M) (fun v5 M6 => K2 (x1 + 1, M6))
set_option maxRecDepth 20000 in
set_option maxHeartbeats 2000000 in
theorem lo_X1_clear_2 (d : Nat) (hlev : 1 ≤ d) (t0 : Nat) (h_t0 : blkAt KSx t0 blk1) (s : Int32 × Mem) : CorM KSx ST1 RX1 cX1_clear 2 none d 2 [(0, .inr t0), (1, .inl s.1)] [] s.2 (loopC (l_X1_clear_2 t0) fuelL s) := by
  refine c_loop (L := fun s : Int32 × Mem => [(0, .inr t0), (1, .inl s.1)]) (Mf := fun s : Int32 × Mem => s.2) (fun K2 hK2 s => ?_) fuelL s
  obtain ⟨x1, M⟩ := s
  show CorM KSx ST1 RX1 cX1_clear 2 none d 2 [(0, .inr t0), (1, .inl x1)] [] M (l_X1_clear_2 t0 K2 (x1, M))
  unfold l_X1_clear_2
  refine c_iload_n (i := 1) dX1_clear_2 rfl rfl ?_
  refine c_bipush dX1_clear_3 (v := 8) rfl ?_
  refine c_icmp_ge (tgt := 20) dX1_clear_5 rfl (fun h1 => ?_) (fun h1 => ?_)
  · refine c_aload_n (i := 0) dX1_clear_20 rfl rfl ?_
    refine c_iconst dX1_clear_21 (v := 0) rfl ?_
    refine pf_RX1_29 (blk_get0 h_t0) dX1_clear_22 ?_
    refine c_wrt (fun M2 => ?_)
    refine c_aload_n (i := 0) dX1_clear_25 rfl rfl ?_
    refine c_iconst dX1_clear_26 (v := 0) rfl ?_
    refine pf_RX1_33 (blk_get0 h_t0) dX1_clear_27 ?_
    refine c_wrt (fun M3 => ?_)
    refine c_aload_n (i := 0) dX1_clear_30 rfl rfl ?_
    refine c_iconst dX1_clear_31 (v := 0) rfl ?_
    refine pf_RX1_36 (blk_get0 h_t0) dX1_clear_32 ?_
    refine c_wrt (fun M4 => ?_)
    exact c_vret rfl dX1_clear_35
  · refine c_aload_n (i := 0) dX1_clear_8 rfl rfl ?_
    refine c_iload_n (i := 1) dX1_clear_9 rfl rfl ?_
    refine c_callV (as := [.inl x1]) (rs := []) (ev_X1_removeLine 0 (Nat.le_refl _) t0 h_t0 x1 M) rfl (Nat.lt_of_lt_of_le (by decide) hlev) mw_X1_removeLine wi_X1_removeLine wv_X1_removeLine (blk_get0 h_t0) (by decide) rfl wl_RX1_25 mn_X1_removeLine rfl (by decide) (Nat.le_of_ble_eq_true rfl) ⟨_, rfl⟩ dX1_clear_10 (fun v5 M6 _ => ?_)
    refine c_pop dX1_clear_13 ?_
    refine c_iinc dX1_clear_14 rfl (v := 1) rfl (by decide) (ls2 := [(0, .inr t0), (1, .inl (x1 + 1))]) rfl ?_
    refine c_goto (tgt := 2) dX1_clear_17 rfl ?_
    refine c_keep [0, 1] (ls2 := [(0, .inr t0), (1, .inl (x1 + 1))]) rfl ?_
    exact hK2 (x1 + 1, M6)
def f_X1_clear (t0 : Nat) (M : Mem) : Option (Int32 × Mem) := loopC (l_X1_clear_2 t0) fuelL (0, M)
set_option maxRecDepth 20000 in
set_option maxHeartbeats 2000000 in
theorem ev_X1_clear (d : Nat) (hlev : 1 ≤ d) (t0 : Nat) (h_t0 : blkAt KSx t0 blk1) (M : Mem) : Ev KSx ST1 mdX1_clear d [.inr t0] M (f_X1_clear t0 M) := by
  refine ev_of rfl (Nat.le_of_ble_eq_true rfl) ?_
  show CorM KSx ST1 RX1 cX1_clear 2 none d 0 [(0, .inr t0)] [] M (f_X1_clear t0 M)
  unfold f_X1_clear
  refine c_iconst dX1_clear_0 (v := 0) rfl ?_
  refine c_istore_n (i := 1) dX1_clear_1 rfl (by decide) (ls2 := [(0, .inr t0), (1, .inl 0)]) rfl ?_
  refine c_keep [0, 1] (ls2 := [(0, .inr t0), (1, .inl 0)]) rfl ?_
  exact lo_X1_clear_2 d hlev t0 h_t0 (0, M)

abbrev mdX1_copyFrom : MD := (yX1_copyFrom, cX1_copyFrom, 3, none)
theorem mw_X1_copyFrom : mdW mdX1_copyFrom := ⟨wm_X1_copyFrom, w0_RX1, by decide, by decide⟩
theorem mn_X1_copyFrom : (parseMethodDescriptor yX1_copyFrom.desc).map (fun d => d.parameters.length) = some 1 := by decide +kernel
def l_X1_copyFrom_2 (t0 : Nat) (t1 : Nat) (K2 : Int32 × Mem → Option (Int32 × Mem)) : Int32 × Mem → Option (Int32 × Mem) := fun s => match s with
  | (x2, M) => if 8 ≤ x2 then wrt (cpy M (t1 + 4) 0 (t0 + 4) 0 64) (fun M2 => wrt (up M2 t0 4 (M2 t1 4)) (fun M3 => wrt (up M3 t0 5 (M3 t1 5)) (fun M4 => wrt (up M4 t0 6 (M4 t1 6)) (fun M5 => some (0, M5))))) else if inb x2 8 then if inb x2 8 then wrt (up M (t0 + 1) (ix x2) (M (t1 + 1) (ix x2))) (fun M8 => if inb x2 8 then if isB (M8 (t1 + 2) (ix x2)) then if inb x2 8 then wrt (up M8 (t0 + 2) (ix x2) (M8 (t1 + 2) (ix x2))) (fun M12 => if inb x2 8 then if inb x2 8 then wrt (up M12 (t0 + 3) (ix x2) (M12 (t1 + 3) (ix x2))) (fun M15 => K2 (x2 + 1, M15)) else none else none) else none else none else none) else none else none
set_option maxRecDepth 20000 in
set_option maxHeartbeats 2000000 in
theorem lo_X1_copyFrom_2 (d : Nat) (hlev : 1 ≤ d) (t0 : Nat) (h_t0 : blkAt KSx t0 blk1) (t1 : Nat) (h_t1 : blkAt KSx t1 blk1) (s : Int32 × Mem) : CorM KSx ST1 RX1 cX1_copyFrom 3 none d 2 [(0, .inr t0), (1, .inr t1), (2, .inl s.1)] [] s.2 (loopC (l_X1_copyFrom_2 t0 t1) fuelL s) := by
  refine c_loop (L := fun s : Int32 × Mem => [(0, .inr t0), (1, .inr t1), (2, .inl s.1)]) (Mf := fun s : Int32 × Mem => s.2) (fun K2 hK2 s => ?_) fuelL s
  obtain ⟨x2, M⟩ := s
  show CorM KSx ST1 RX1 cX1_copyFrom 3 none d 2 [(0, .inr t0), (1, .inr t1), (2, .inl x2)] [] M (l_X1_copyFrom_2 t0 t1 K2 (x2, M))
  unfold l_X1_copyFrom_2
  refine c_iload_n (i := 2) dX1_copyFrom_2 rfl rfl ?_
  refine c_bipush dX1_copyFrom_3 (v := 8) rfl ?_
  refine c_icmp_ge (tgt := 50) dX1_copyFrom_5 rfl (fun h1 => ?_) (fun h1 => ?_)
  · refine c_aload_n (i := 1) dX1_copyFrom_50 rfl rfl ?_
    refine gf_RX1_22 (blk_get0 h_t1) dX1_copyFrom_51 ?_
    refine c_iconst dX1_copyFrom_54 (v := 0) rfl ?_
    refine c_aload_n (i := 0) dX1_copyFrom_55 rfl rfl ?_
    refine gf_RX1_22 (blk_get0 h_t0) dX1_copyFrom_56 ?_
    refine c_iconst dX1_copyFrom_59 (v := 0) rfl ?_
    refine c_aload_n (i := 0) dX1_copyFrom_60 rfl rfl ?_
    refine gf_RX1_22 (blk_get0 h_t0) dX1_copyFrom_61 ?_
    refine c_alen (blk_get0 (blk_sub (C := [(20, 64)]) (i := 4) h_t0 rfl)) (Or.inl rfl) (v := 64) rfl dX1_copyFrom_64 ?_
    refine c_copy wl_RX1_39 (blk_get0 (blk_sub (C := [(20, 64)]) (i := 4) h_t1 rfl)) (blk_get0 (blk_sub (C := [(20, 64)]) (i := 4) h_t0 rfl)) (by decide) (Nat.lt_of_lt_of_le (by decide) hlev) (Nat.le_of_ble_eq_true rfl) dX1_copyFrom_65 ?_
    refine c_wrt (fun M2 => ?_)
    refine c_aload_n (i := 0) dX1_copyFrom_68 rfl rfl ?_
    refine c_aload_n (i := 1) dX1_copyFrom_69 rfl rfl ?_
    refine gf_RX1_29 (blk_get0 h_t1) dX1_copyFrom_70 ?_
    refine pf_RX1_29 (blk_get0 h_t0) dX1_copyFrom_73 ?_
    refine c_wrt (fun M3 => ?_)
    refine c_aload_n (i := 0) dX1_copyFrom_76 rfl rfl ?_
    refine c_aload_n (i := 1) dX1_copyFrom_77 rfl rfl ?_
    refine gf_RX1_33 (blk_get0 h_t1) dX1_copyFrom_78 ?_
    refine pf_RX1_33 (blk_get0 h_t0) dX1_copyFrom_81 ?_
    refine c_wrt (fun M4 => ?_)
    refine c_aload_n (i := 0) dX1_copyFrom_84 rfl rfl ?_
    refine c_aload_n (i := 1) dX1_copyFrom_85 rfl rfl ?_
    refine gf_RX1_36 (blk_get0 h_t1) dX1_copyFrom_86 ?_
    refine pf_RX1_36 (blk_get0 h_t0) dX1_copyFrom_89 ?_
    refine c_wrt (fun M5 => ?_)
    exact c_vret rfl dX1_copyFrom_92
  · refine c_aload_n (i := 0) dX1_copyFrom_8 rfl rfl ?_
    refine gf_RX1_9 (blk_get0 h_t0) dX1_copyFrom_9 ?_
    refine c_iload_n (i := 2) dX1_copyFrom_12 rfl rfl ?_
    refine c_aload_n (i := 1) dX1_copyFrom_13 rfl rfl ?_
    refine gf_RX1_9 (blk_get0 h_t1) dX1_copyFrom_14 ?_
    refine c_iload_n (i := 2) dX1_copyFrom_17 rfl rfl ?_
    refine c_chk (fun h6 => ?_)
    refine c_iald (blk_get0 (blk_sub (C := [(20, 8)]) (i := 1) h_t1 rfl)) h6 dX1_copyFrom_18 ?_
    refine c_chk (fun h7 => ?_)
    refine c_iast (blk_get0 (blk_sub (C := [(20, 8)]) (i := 1) h_t0 rfl)) h7 dX1_copyFrom_19 ?_
    refine c_wrt (fun M8 => ?_)
    refine c_aload_n (i := 0) dX1_copyFrom_20 rfl rfl ?_
    refine gf_RX1_15 (blk_get0 h_t0) dX1_copyFrom_21 ?_
    refine c_iload_n (i := 2) dX1_copyFrom_24 rfl rfl ?_
    refine c_aload_n (i := 1) dX1_copyFrom_25 rfl rfl ?_
    refine gf_RX1_15 (blk_get0 h_t1) dX1_copyFrom_26 ?_
    refine c_iload_n (i := 2) dX1_copyFrom_29 rfl rfl ?_
    refine c_chk (fun h9 => ?_)
    refine c_zald (blk_get0 (blk_sub (C := [(21, 8)]) (i := 2) h_t1 rfl)) h9 dX1_copyFrom_30 ?_
    refine c_chk (fun h10 => ?_)
    refine c_chk (fun h11 => ?_)
    refine c_zast (blk_get0 (blk_sub (C := [(21, 8)]) (i := 2) h_t0 rfl)) h11 h10 dX1_copyFrom_31 ?_
    refine c_wrt (fun M12 => ?_)
    refine c_aload_n (i := 0) dX1_copyFrom_32 rfl rfl ?_
    refine gf_RX1_19 (blk_get0 h_t0) dX1_copyFrom_33 ?_
    refine c_iload_n (i := 2) dX1_copyFrom_36 rfl rfl ?_
    refine c_aload_n (i := 1) dX1_copyFrom_37 rfl rfl ?_
    refine gf_RX1_19 (blk_get0 h_t1) dX1_copyFrom_38 ?_
    refine c_iload_n (i := 2) dX1_copyFrom_41 rfl rfl ?_
    refine c_chk (fun h13 => ?_)
    refine c_iald (blk_get0 (blk_sub (C := [(20, 8)]) (i := 3) h_t1 rfl)) h13 dX1_copyFrom_42 ?_
    refine c_chk (fun h14 => ?_)
    refine c_iast (blk_get0 (blk_sub (C := [(20, 8)]) (i := 3) h_t0 rfl)) h14 dX1_copyFrom_43 ?_
    refine c_wrt (fun M15 => ?_)
    refine c_iinc dX1_copyFrom_44 rfl (v := 1) rfl (by decide) (ls2 := [(0, .inr t0), (1, .inr t1), (2, .inl (x2 + 1))]) rfl ?_
    refine c_goto (tgt := 2) dX1_copyFrom_47 rfl ?_
    refine c_keep [0, 1, 2] (ls2 := [(0, .inr t0), (1, .inr t1), (2, .inl (x2 + 1))]) rfl ?_
    exact hK2 (x2 + 1, M15)
def f_X1_copyFrom (t0 : Nat) (t1 : Nat) (M : Mem) : Option (Int32 × Mem) := loopC (l_X1_copyFrom_2 t0 t1) fuelL (0, M)
set_option maxRecDepth 20000 in
set_option maxHeartbeats 2000000 in
theorem ev_X1_copyFrom (d : Nat) (hlev : 1 ≤ d) (t0 : Nat) (h_t0 : blkAt KSx t0 blk1) (t1 : Nat) (h_t1 : blkAt KSx t1 blk1) (M : Mem) : Ev KSx ST1 mdX1_copyFrom d [.inr t0, .inr t1] M (f_X1_copyFrom t0 t1 M) := by
  refine ev_of rfl (Nat.le_of_ble_eq_true rfl) ?_
  show CorM KSx ST1 RX1 cX1_copyFrom 3 none d 0 [(0, .inr t0), (1, .inr t1)] [] M (f_X1_copyFrom t0 t1 M)
  unfold f_X1_copyFrom
  refine c_iconst dX1_copyFrom_0 (v := 0) rfl ?_
  refine c_istore_n (i := 2) dX1_copyFrom_1 rfl (by decide) (ls2 := [(0, .inr t0), (1, .inr t1), (2, .inl 0)]) rfl ?_
  refine c_keep [0, 1, 2] (ls2 := [(0, .inr t0), (1, .inr t1), (2, .inl 0)]) rfl ?_
  exact lo_X1_copyFrom_2 d hlev t0 h_t0 t1 h_t1 (0, M)

abbrev mdX1_lineCount : MD := (yX1_lineCount, cX1_lineCount, 3, (some .int))
theorem mw_X1_lineCount : mdW mdX1_lineCount := ⟨wm_X1_lineCount, w0_RX1, by decide, by decide⟩
theorem mn_X1_lineCount : (parseMethodDescriptor yX1_lineCount.desc).map (fun d => d.parameters.length) = some 0 := by decide +kernel
def l_X1_lineCount_4 (t0 : Nat) (K4 : Int32 × Int32 × Mem → Option (Int32 × Mem)) : Int32 × Int32 × Mem → Option (Int32 × Mem) := fun s => match s with
  | (x1, x2, M) => if 8 ≤ x2 then some (x1, M) else if inb x2 8 then K4 ((if (M (t0 + 1) (ix x2)) = (-1) then x1 else x1 + 1), x2 + 1, M) else none
set_option maxRecDepth 20000 in
set_option maxHeartbeats 2000000 in
theorem lo_X1_lineCount_4 (d : Nat) (hlev : 0 ≤ d) (t0 : Nat) (h_t0 : blkAt KSx t0 blk1) (s : Int32 × Int32 × Mem) : CorM KSx ST1 RX1 cX1_lineCount 3 (some .int) d 4 [(0, .inr t0), (1, .inl s.1), (2, .inl s.2.1)] [] s.2.2 (loopC (l_X1_lineCount_4 t0) fuelL s) := by
  refine c_loop (L := fun s : Int32 × Int32 × Mem => [(0, .inr t0), (1, .inl s.1), (2, .inl s.2.1)]) (Mf := fun s : Int32 × Int32 × Mem => s.2.2) (fun K4 hK4 s => ?_) fuelL s
  obtain ⟨x1, x2, M⟩ := s
  show CorM KSx ST1 RX1 cX1_lineCount 3 (some .int) d 4 [(0, .inr t0), (1, .inl x1), (2, .inl x2)] [] M (l_X1_lineCount_4 t0 K4 (x1, x2, M))
  unfold l_X1_lineCount_4
  refine c_iload_n (i := 2) dX1_lineCount_4 rfl rfl ?_
  refine c_bipush dX1_lineCount_5 (v := 8) rfl ?_
  refine c_icmp_ge (tgt := 29) dX1_lineCount_7 rfl (fun h1 => ?_) (fun h1 => ?_)
  · refine c_iload_n (i := 1) dX1_lineCount_29 rfl rfl ?_
    exact c_iret rfl dX1_lineCount_30
  · refine c_aload_n (i := 0) dX1_lineCount_10 rfl rfl ?_
    refine gf_RX1_9 (blk_get0 h_t0) dX1_lineCount_11 ?_
    refine c_iload_n (i := 2) dX1_lineCount_14 rfl rfl ?_
    refine c_chk (fun h2 => ?_)
    refine c_iald (blk_get0 (blk_sub (C := [(20, 8)]) (i := 1) h_t0 rfl)) h2 dX1_lineCount_15 ?_
    refine c_iconst dX1_lineCount_16 (v := (-1)) rfl ?_
    have J_z3 : ∀ z3 : Int32, CorM KSx ST1 RX1 cX1_lineCount 3 (some .int) d 23 [(0, .inr t0), (1, .inl z3), (2, .inl x2)] [] M (K4 (z3, x2 + 1, M)) := by
      intro z3
      refine c_iinc dX1_lineCount_23 rfl (v := 1) rfl (by decide) (ls2 := [(0, .inr t0), (1, .inl z3), (2, .inl (x2 + 1))]) rfl ?_
      refine c_goto (tgt := 4) dX1_lineCount_26 rfl ?_
      refine c_keep [0, 1, 2] (ls2 := [(0, .inr t0), (1, .inl z3), (2, .inl (x2 + 1))]) rfl ?_
      exact hK4 (z3, x2 + 1, M)
    refine c_val (b := (M (t0 + 1) (ix x2)) = (-1)) (v1 := x1) (v2 := x1 + 1) (F := fun z3 => K4 (z3, x2 + 1, M)) (fun h4 => ?_) (fun h4 => ?_)
    · refine c_T h4 (c_icmp_eq (tgt := 23) dX1_lineCount_17 rfl (fun _ => ?_) (fun q => absurd h4 q))
      refine c_keep [0, 1, 2] (ls2 := [(0, .inr t0), (1, .inl x1), (2, .inl x2)]) rfl ?_
      exact J_z3 x1
    · refine c_Fl h4 (c_icmp_eq (tgt := 23) dX1_lineCount_17 rfl (fun q => absurd q h4) (fun _ => ?_))
      refine c_iinc dX1_lineCount_20 rfl (v := 1) rfl (by decide) (ls2 := [(0, .inr t0), (1, .inl (x1 + 1)), (2, .inl x2)]) rfl ?_
      refine c_keep [0, 1, 2] (ls2 := [(0, .inr t0), (1, .inl (x1 + 1)), (2, .inl x2)]) rfl ?_
      exact J_z3 (x1 + 1)
def f_X1_lineCount (t0 : Nat) (M : Mem) : Option (Int32 × Mem) := loopC (l_X1_lineCount_4 t0) fuelL (0, 0, M)
set_option maxRecDepth 20000 in
set_option maxHeartbeats 2000000 in
theorem ev_X1_lineCount (d : Nat) (hlev : 0 ≤ d) (t0 : Nat) (h_t0 : blkAt KSx t0 blk1) (M : Mem) : Ev KSx ST1 mdX1_lineCount d [.inr t0] M (f_X1_lineCount t0 M) := by
  refine ev_of rfl (Nat.le_of_ble_eq_true rfl) ?_
  show CorM KSx ST1 RX1 cX1_lineCount 3 (some .int) d 0 [(0, .inr t0)] [] M (f_X1_lineCount t0 M)
  unfold f_X1_lineCount
  refine c_iconst dX1_lineCount_0 (v := 0) rfl ?_
  refine c_istore_n (i := 1) dX1_lineCount_1 rfl (by decide) (ls2 := [(0, .inr t0), (1, .inl 0)]) rfl ?_
  refine c_iconst dX1_lineCount_2 (v := 0) rfl ?_
  refine c_istore_n (i := 2) dX1_lineCount_3 rfl (by decide) (ls2 := [(0, .inr t0), (1, .inl 0), (2, .inl 0)]) rfl ?_
  refine c_keep [0, 1, 2] (ls2 := [(0, .inr t0), (1, .inl 0), (2, .inl 0)]) rfl ?_
  exact lo_X1_lineCount_4 d hlev t0 h_t0 (0, 0, M)

abbrev mdX1_lineWith : MD := (yX1_lineWith, cX1_lineWith, 3, (some .int))
theorem mw_X1_lineWith : mdW mdX1_lineWith := ⟨wm_X1_lineWith, w0_RX1, by decide, by decide⟩
theorem mn_X1_lineWith : (parseMethodDescriptor yX1_lineWith.desc).map (fun d => d.parameters.length) = some 1 := by decide +kernel
def l_X1_lineWith_2 (t0 : Nat) (x1 : Int32) (K2 : Int32 × Mem → Option (Int32 × Mem)) : Int32 × Mem → Option (Int32 × Mem) := fun s => match s with
  | (x2, M) => if 8 ≤ x2 then some ((-1), M) else if inb x2 8 then if ¬ (M (t0 + 1) (ix x2)) = x1 then K2 (x2 + 1, M) else some (x2, M) else none
set_option maxRecDepth 20000 in
set_option maxHeartbeats 2000000 in
theorem lo_X1_lineWith_2 (d : Nat) (hlev : 0 ≤ d) (t0 : Nat) (h_t0 : blkAt KSx t0 blk1) (x1 : Int32) (s : Int32 × Mem) : CorM KSx ST1 RX1 cX1_lineWith 3 (some .int) d 2 [(0, .inr t0), (1, .inl x1), (2, .inl s.1)] [] s.2 (loopC (l_X1_lineWith_2 t0 x1) fuelL s) := by
  refine c_loop (L := fun s : Int32 × Mem => [(0, .inr t0), (1, .inl x1), (2, .inl s.1)]) (Mf := fun s : Int32 × Mem => s.2) (fun K2 hK2 s => ?_) fuelL s
  obtain ⟨x2, M⟩ := s
  show CorM KSx ST1 RX1 cX1_lineWith 3 (some .int) d 2 [(0, .inr t0), (1, .inl x1), (2, .inl x2)] [] M (l_X1_lineWith_2 t0 x1 K2 (x2, M))
  unfold l_X1_lineWith_2
  refine c_iload_n (i := 2) dX1_lineWith_2 rfl rfl ?_
  refine c_bipush dX1_lineWith_3 (v := 8) rfl ?_
  refine c_icmp_ge (tgt := 26) dX1_lineWith_5 rfl (fun h1 => ?_) (fun h1 => ?_)
  · refine c_iconst dX1_lineWith_26 (v := (-1)) rfl ?_
    exact c_iret rfl dX1_lineWith_27
  · refine c_aload_n (i := 0) dX1_lineWith_8 rfl rfl ?_
    refine gf_RX1_9 (blk_get0 h_t0) dX1_lineWith_9 ?_
    refine c_iload_n (i := 2) dX1_lineWith_12 rfl rfl ?_
    refine c_chk (fun h2 => ?_)
    refine c_iald (blk_get0 (blk_sub (C := [(20, 8)]) (i := 1) h_t0 rfl)) h2 dX1_lineWith_13 ?_
    refine c_iload_n (i := 1) dX1_lineWith_14 rfl rfl ?_
    refine c_icmp_ne (tgt := 20) dX1_lineWith_15 rfl (fun h3 => ?_) (fun h3 => ?_)
    · refine c_iinc dX1_lineWith_20 rfl (v := 1) rfl (by decide) (ls2 := [(0, .inr t0), (1, .inl x1), (2, .inl (x2 + 1))]) rfl ?_
      refine c_goto (tgt := 2) dX1_lineWith_23 rfl ?_
      refine c_keep [0, 1, 2] (ls2 := [(0, .inr t0), (1, .inl x1), (2, .inl (x2 + 1))]) rfl ?_
      exact hK2 (x2 + 1, M)
    · refine c_iload_n (i := 2) dX1_lineWith_18 rfl rfl ?_
      exact c_iret rfl dX1_lineWith_19
def f_X1_lineWith (t0 : Nat) (x1 : Int32) (M : Mem) : Option (Int32 × Mem) := loopC (l_X1_lineWith_2 t0 x1) fuelL (0, M)
set_option maxRecDepth 20000 in
set_option maxHeartbeats 2000000 in
theorem ev_X1_lineWith (d : Nat) (hlev : 0 ≤ d) (t0 : Nat) (h_t0 : blkAt KSx t0 blk1) (x1 : Int32) (M : Mem) : Ev KSx ST1 mdX1_lineWith d [.inr t0, .inl x1] M (f_X1_lineWith t0 x1 M) := by
  refine ev_of rfl (Nat.le_of_ble_eq_true rfl) ?_
  show CorM KSx ST1 RX1 cX1_lineWith 3 (some .int) d 0 [(0, .inr t0), (1, .inl x1)] [] M (f_X1_lineWith t0 x1 M)
  unfold f_X1_lineWith
  refine c_iconst dX1_lineWith_0 (v := 0) rfl ?_
  refine c_istore_n (i := 2) dX1_lineWith_1 rfl (by decide) (ls2 := [(0, .inr t0), (1, .inl x1), (2, .inl 0)]) rfl ?_
  refine c_keep [0, 1, 2] (ls2 := [(0, .inr t0), (1, .inl x1), (2, .inl 0)]) rfl ?_
  exact lo_X1_lineWith_2 d hlev t0 h_t0 x1 (0, M)

abbrev mdX1_lineOf : MD := (yX1_lineOf, cX1_lineOf, 3, (some .int))
theorem mw_X1_lineOf : mdW mdX1_lineOf := ⟨wm_X1_lineOf, w0_RX1, by decide, by decide⟩
theorem mn_X1_lineOf : (parseMethodDescriptor yX1_lineOf.desc).map (fun d => d.parameters.length) = some 2 := by decide +kernel
def f_X1_lineOf (t0 : Nat) (x1 : Int32) (x2 : Int32) (M : Mem) : Option (Int32 × Mem) := bnd (f_X1_lineWith t0 ((x1 * 16) + x2) M) (fun v1 M2 => some (v1, M2))
set_option maxRecDepth 20000 in
set_option maxHeartbeats 2000000 in
theorem ev_X1_lineOf (d : Nat) (hlev : 1 ≤ d) (t0 : Nat) (h_t0 : blkAt KSx t0 blk1) (x1 : Int32) (x2 : Int32) (M : Mem) : Ev KSx ST1 mdX1_lineOf d [.inr t0, .inl x1, .inl x2] M (f_X1_lineOf t0 x1 x2 M) := by
  refine ev_of rfl (Nat.le_of_ble_eq_true rfl) ?_
  show CorM KSx ST1 RX1 cX1_lineOf 3 (some .int) d 0 [(0, .inr t0), (1, .inl x1), (2, .inl x2)] [] M (f_X1_lineOf t0 x1 x2 M)
  unfold f_X1_lineOf
  refine c_aload_n (i := 0) dX1_lineOf_0 rfl rfl ?_
  refine c_iload_n (i := 1) dX1_lineOf_1 rfl rfl ?_
  refine c_bipush dX1_lineOf_2 (v := 16) rfl ?_
  refine c_imul dX1_lineOf_4 ?_
  refine c_iload_n (i := 2) dX1_lineOf_5 rfl rfl ?_
  refine c_iadd dX1_lineOf_6 ?_
  refine c_callV (as := [.inl ((x1 * 16) + x2)]) (rs := []) (ev_X1_lineWith 0 (Nat.le_refl _) t0 h_t0 ((x1 * 16) + x2) M) rfl (Nat.lt_of_lt_of_le (by decide) hlev) mw_X1_lineWith wi_X1_lineWith wv_X1_lineWith (blk_get0 h_t0) (by decide) rfl wl_RX1_45 mn_X1_lineWith rfl (by decide) (Nat.le_of_ble_eq_true rfl) ⟨_, rfl⟩ dX1_lineOf_7 (fun v1 M2 _ => ?_)
  exact c_iret rfl dX1_lineOf_10

abbrev mdX1_oldestLine : MD := (yX1_oldestLine, cX1_oldestLine, 4, (some .int))
theorem mw_X1_oldestLine : mdW mdX1_oldestLine := ⟨wm_X1_oldestLine, w0_RX1, by decide, by decide⟩
theorem mn_X1_oldestLine : (parseMethodDescriptor yX1_oldestLine.desc).map (fun d => d.parameters.length) = some 0 := by decide +kernel
def j_X1_oldestLine_40 (t0 : Nat) (x1 : Int32) (x2 : Int32) (w0 : Int32) (K4 : Int32 × Int32 × Mem → Option (Int32 × Mem)) (M : Mem) : Option (Int32 × Mem) := if inb x2 8 then K4 ((if (M (t0 + 1) (ix x2)) = (-1) then x1 else if w0 = 0 then x1 else x2), x2 + 1, M) else none
set_option maxRecDepth 20000 in
set_option maxHeartbeats 2000000 in
theorem jo_X1_oldestLine_40 (d : Nat) (hlev : 0 ≤ d) (t0 : Nat) (h_t0 : blkAt KSx t0 blk1) (x1 : Int32) (x2 : Int32) (w0 : Int32) (K4 : Int32 × Int32 × Mem → Option (Int32 × Mem)) (hK4 : ∀ s : Int32 × Int32 × Mem, CorM KSx ST1 RX1 cX1_oldestLine 4 (some .int) d 4 [(0, .inr t0), (1, .inl s.1), (2, .inl s.2.1)] [] s.2.2 (K4 s)) (M : Mem) : CorM KSx ST1 RX1 cX1_oldestLine 4 (some .int) d 40 [(0, .inr t0), (1, .inl x1), (2, .inl x2)] [.inl w0] M (j_X1_oldestLine_40 t0 x1 x2 w0 K4 M) := by
  unfold j_X1_oldestLine_40
  refine c_istore_n (i := 3) dX1_oldestLine_40 rfl (by decide) (ls2 := [(0, .inr t0), (1, .inl x1), (2, .inl x2), (3, .inl w0)]) rfl ?_
  refine c_aload_n (i := 0) dX1_oldestLine_41 rfl rfl ?_
  refine gf_RX1_9 (blk_get0 h_t0) dX1_oldestLine_42 ?_
  refine c_iload_n (i := 2) dX1_oldestLine_45 rfl rfl ?_
  refine c_chk (fun h4 => ?_)
  refine c_iald (blk_get0 (blk_sub (C := [(20, 8)]) (i := 1) h_t0 rfl)) h4 dX1_oldestLine_46 ?_
  refine c_iconst dX1_oldestLine_47 (v := (-1)) rfl ?_
  have J_z5 : ∀ z5 : Int32, CorM KSx ST1 RX1 cX1_oldestLine 4 (some .int) d 57 [(0, .inr t0), (1, .inl z5), (2, .inl x2)] [] M (K4 (z5, x2 + 1, M)) := by
    intro z5
    refine c_iinc dX1_oldestLine_57 rfl (v := 1) rfl (by decide) (ls2 := [(0, .inr t0), (1, .inl z5), (2, .inl (x2 + 1))]) rfl ?_
    refine c_goto (tgt := 4) dX1_oldestLine_60 rfl ?_
    refine c_keep [0, 1, 2] (ls2 := [(0, .inr t0), (1, .inl z5), (2, .inl (x2 + 1))]) rfl ?_
    exact hK4 (z5, x2 + 1, M)
  refine c_val (b := (M (t0 + 1) (ix x2)) = (-1)) (v1 := x1) (v2 := if w0 = 0 then x1 else x2) (F := fun z5 => K4 (z5, x2 + 1, M)) (fun h6 => ?_) (fun h6 => ?_)
  · refine c_T h6 (c_icmp_eq (tgt := 57) dX1_oldestLine_48 rfl (fun _ => ?_) (fun q => absurd h6 q))
    refine c_keep [0, 1, 2] (ls2 := [(0, .inr t0), (1, .inl x1), (2, .inl x2)]) rfl ?_
    exact J_z5 x1
  · refine c_Fl h6 (c_icmp_eq (tgt := 57) dX1_oldestLine_48 rfl (fun q => absurd q h6) (fun _ => ?_))
    refine c_iload_n (i := 3) dX1_oldestLine_51 rfl rfl ?_
    refine c_val (b := w0 = 0) (v1 := x1) (v2 := x2) (F := fun z5 => K4 (z5, x2 + 1, M)) (fun h7 => ?_) (fun h7 => ?_)
    · refine c_T h7 (c_if_eq (tgt := 57) dX1_oldestLine_52 rfl (fun _ => ?_) (fun q => absurd h7 q))
      refine c_keep [0, 1, 2] (ls2 := [(0, .inr t0), (1, .inl x1), (2, .inl x2)]) rfl ?_
      exact J_z5 x1
    · refine c_Fl h7 (c_if_eq (tgt := 57) dX1_oldestLine_52 rfl (fun q => absurd q h7) (fun _ => ?_))
      refine c_iload_n (i := 2) dX1_oldestLine_55 rfl rfl ?_
      refine c_istore_n (i := 1) dX1_oldestLine_56 rfl (by decide) (ls2 := [(0, .inr t0), (1, .inl x2), (2, .inl x2), (3, .inl w0)]) rfl ?_
      refine c_keep [0, 1, 2] (ls2 := [(0, .inr t0), (1, .inl x2), (2, .inl x2)]) rfl ?_
      exact J_z5 x2
def j_X1_oldestLine_35 (t0 : Nat) (x1 : Int32) (x2 : Int32) (K4 : Int32 × Int32 × Mem → Option (Int32 × Mem)) (M : Mem) : Option (Int32 × Mem) := j_X1_oldestLine_40 t0 x1 x2 1 K4 M
set_option maxRecDepth 20000 in
set_option maxHeartbeats 2000000 in
theorem jo_X1_oldestLine_35 (d : Nat) (hlev : 0 ≤ d) (t0 : Nat) (h_t0 : blkAt KSx t0 blk1) (x1 : Int32) (x2 : Int32) (K4 : Int32 × Int32 × Mem → Option (Int32 × Mem)) (hK4 : ∀ s : Int32 × Int32 × Mem, CorM KSx ST1 RX1 cX1_oldestLine 4 (some .int) d 4 [(0, .inr t0), (1, .inl s.1), (2, .inl s.2.1)] [] s.2.2 (K4 s)) (M : Mem) : CorM KSx ST1 RX1 cX1_oldestLine 4 (some .int) d 35 [(0, .inr t0), (1, .inl x1), (2, .inl x2)] [] M (j_X1_oldestLine_35 t0 x1 x2 K4 M) := by
  unfold j_X1_oldestLine_35
  refine c_iconst dX1_oldestLine_35 (v := 1) rfl ?_
  refine c_goto (tgt := 40) dX1_oldestLine_36 rfl ?_
  refine c_keep [0, 1, 2] (ls2 := [(0, .inr t0), (1, .inl x1), (2, .inl x2)]) rfl ?_
  exact jo_X1_oldestLine_40 d hlev t0 h_t0 x1 x2 1 K4 hK4 M
def l_X1_oldestLine_4 (t0 : Nat) (K4 : Int32 × Int32 × Mem → Option (Int32 × Mem)) : Int32 × Int32 × Mem → Option (Int32 × Mem) := fun s => match s with
  | (x1, x2, M) => if 8 ≤ x2 then some (x1, M) else if inb x1 8 then if (M (t0 + 1) (ix x1)) = (-1) then j_X1_oldestLine_35 t0 x1 x2 K4 M else if inb x2 8 then if inb x1 8 then if inb x2 8 then K4 ((if (M (t0 + 1) (ix x2)) = (-1) then x1 else if (if (M (t0 + 3) (ix x1)) ≤ (M (t0 + 3) (ix x2)) then (0 : Int32) else (1 : Int32)) = 0 then x1 else x2), x2 + 1, M) else none else none else none else none
set_option maxRecDepth 20000 in
set_option maxHeartbeats 2000000 in
theorem lo_X1_oldestLine_4 (d : Nat) (hlev : 0 ≤ d) (t0 : Nat) (h_t0 : blkAt KSx t0 blk1) (s : Int32 × Int32 × Mem) : CorM KSx ST1 RX1 cX1_oldestLine 4 (some .int) d 4 [(0, .inr t0), (1, .inl s.1), (2, .inl s.2.1)] [] s.2.2 (loopC (l_X1_oldestLine_4 t0) fuelL s) := by
  refine c_loop (L := fun s : Int32 × Int32 × Mem => [(0, .inr t0), (1, .inl s.1), (2, .inl s.2.1)]) (Mf := fun s : Int32 × Int32 × Mem => s.2.2) (fun K4 hK4 s => ?_) fuelL s
  obtain ⟨x1, x2, M⟩ := s
  show CorM KSx ST1 RX1 cX1_oldestLine 4 (some .int) d 4 [(0, .inr t0), (1, .inl x1), (2, .inl x2)] [] M (l_X1_oldestLine_4 t0 K4 (x1, x2, M))
  unfold l_X1_oldestLine_4
  refine c_iload_n (i := 2) dX1_oldestLine_4 rfl rfl ?_
  refine c_bipush dX1_oldestLine_5 (v := 8) rfl ?_
  refine c_icmp_ge (tgt := 63) dX1_oldestLine_7 rfl (fun h1 => ?_) (fun h1 => ?_)
  · refine c_iload_n (i := 1) dX1_oldestLine_63 rfl rfl ?_
    exact c_iret rfl dX1_oldestLine_64
  · refine c_aload_n (i := 0) dX1_oldestLine_10 rfl rfl ?_
    refine gf_RX1_9 (blk_get0 h_t0) dX1_oldestLine_11 ?_
    refine c_iload_n (i := 1) dX1_oldestLine_14 rfl rfl ?_
    refine c_chk (fun h2 => ?_)
    refine c_iald (blk_get0 (blk_sub (C := [(20, 8)]) (i := 1) h_t0 rfl)) h2 dX1_oldestLine_15 ?_
    refine c_iconst dX1_oldestLine_16 (v := (-1)) rfl ?_
    refine c_icmp_eq (tgt := 35) dX1_oldestLine_17 rfl (fun h3 => ?_) (fun h3 => ?_)
    · refine c_keep [0, 1, 2] (ls2 := [(0, .inr t0), (1, .inl x1), (2, .inl x2)]) rfl ?_
      exact jo_X1_oldestLine_35 d hlev t0 h_t0 x1 x2 K4 hK4 M
    · refine c_aload_n (i := 0) dX1_oldestLine_20 rfl rfl ?_
      refine gf_RX1_19 (blk_get0 h_t0) dX1_oldestLine_21 ?_
      refine c_iload_n (i := 2) dX1_oldestLine_24 rfl rfl ?_
      refine c_chk (fun h8 => ?_)
      refine c_iald (blk_get0 (blk_sub (C := [(20, 8)]) (i := 3) h_t0 rfl)) h8 dX1_oldestLine_25 ?_
      refine c_aload_n (i := 0) dX1_oldestLine_26 rfl rfl ?_
      refine gf_RX1_19 (blk_get0 h_t0) dX1_oldestLine_27 ?_
      refine c_iload_n (i := 1) dX1_oldestLine_30 rfl rfl ?_
      refine c_chk (fun h9 => ?_)
      refine c_iald (blk_get0 (blk_sub (C := [(20, 8)]) (i := 3) h_t0 rfl)) h9 dX1_oldestLine_31 ?_
      have J_z10 : ∀ z10 : Int32, isB z10 → CorM KSx ST1 RX1 cX1_oldestLine 4 (some .int) d 40 [(0, .inr t0), (1, .inl x1), (2, .inl x2)] [.inl z10] M (if inb x2 8 then K4 ((if (M (t0 + 1) (ix x2)) = (-1) then x1 else if z10 = 0 then x1 else x2), x2 + 1, M) else none) := by
        intro z10 h_z10
        refine c_istore_n (i := 3) dX1_oldestLine_40 rfl (by decide) (ls2 := [(0, .inr t0), (1, .inl x1), (2, .inl x2), (3, .inl z10)]) rfl ?_
        refine c_aload_n (i := 0) dX1_oldestLine_41 rfl rfl ?_
        refine gf_RX1_9 (blk_get0 h_t0) dX1_oldestLine_42 ?_
        refine c_iload_n (i := 2) dX1_oldestLine_45 rfl rfl ?_
        refine c_chk (fun h11 => ?_)
        refine c_iald (blk_get0 (blk_sub (C := [(20, 8)]) (i := 1) h_t0 rfl)) h11 dX1_oldestLine_46 ?_
        refine c_iconst dX1_oldestLine_47 (v := (-1)) rfl ?_
        have J_z12 : ∀ z12 : Int32, CorM KSx ST1 RX1 cX1_oldestLine 4 (some .int) d 57 [(0, .inr t0), (1, .inl z12), (2, .inl x2)] [] M (K4 (z12, x2 + 1, M)) := by
          intro z12
          refine c_iinc dX1_oldestLine_57 rfl (v := 1) rfl (by decide) (ls2 := [(0, .inr t0), (1, .inl z12), (2, .inl (x2 + 1))]) rfl ?_
          refine c_goto (tgt := 4) dX1_oldestLine_60 rfl ?_
          refine c_keep [0, 1, 2] (ls2 := [(0, .inr t0), (1, .inl z12), (2, .inl (x2 + 1))]) rfl ?_
          exact hK4 (z12, x2 + 1, M)
        refine c_val (b := (M (t0 + 1) (ix x2)) = (-1)) (v1 := x1) (v2 := if z10 = 0 then x1 else x2) (F := fun z12 => K4 (z12, x2 + 1, M)) (fun h13 => ?_) (fun h13 => ?_)
        · refine c_T h13 (c_icmp_eq (tgt := 57) dX1_oldestLine_48 rfl (fun _ => ?_) (fun q => absurd h13 q))
          refine c_keep [0, 1, 2] (ls2 := [(0, .inr t0), (1, .inl x1), (2, .inl x2)]) rfl ?_
          exact J_z12 x1
        · refine c_Fl h13 (c_icmp_eq (tgt := 57) dX1_oldestLine_48 rfl (fun q => absurd q h13) (fun _ => ?_))
          refine c_iload_n (i := 3) dX1_oldestLine_51 rfl rfl ?_
          refine c_val (b := z10 = 0) (v1 := x1) (v2 := x2) (F := fun z12 => K4 (z12, x2 + 1, M)) (fun h14 => ?_) (fun h14 => ?_)
          · refine c_T h14 (c_if_eq (tgt := 57) dX1_oldestLine_52 rfl (fun _ => ?_) (fun q => absurd h14 q))
            refine c_keep [0, 1, 2] (ls2 := [(0, .inr t0), (1, .inl x1), (2, .inl x2)]) rfl ?_
            exact J_z12 x1
          · refine c_Fl h14 (c_if_eq (tgt := 57) dX1_oldestLine_52 rfl (fun q => absurd q h14) (fun _ => ?_))
            refine c_iload_n (i := 2) dX1_oldestLine_55 rfl rfl ?_
            refine c_istore_n (i := 1) dX1_oldestLine_56 rfl (by decide) (ls2 := [(0, .inr t0), (1, .inl x2), (2, .inl x2), (3, .inl z10)]) rfl ?_
            refine c_keep [0, 1, 2] (ls2 := [(0, .inr t0), (1, .inl x2), (2, .inl x2)]) rfl ?_
            exact J_z12 x2
      refine c_val (b := (M (t0 + 3) (ix x1)) ≤ (M (t0 + 3) (ix x2))) (v1 := (0 : Int32)) (v2 := (1 : Int32)) (F := fun z10 => if inb x2 8 then K4 ((if (M (t0 + 1) (ix x2)) = (-1) then x1 else if z10 = 0 then x1 else x2), x2 + 1, M) else none) (fun h15 => ?_) (fun h15 => ?_)
      · refine c_T h15 (c_icmp_ge (tgt := 39) dX1_oldestLine_32 rfl (fun _ => ?_) (fun q => absurd h15 q))
        refine c_iconst dX1_oldestLine_39 (v := 0) rfl ?_
        refine c_keep [0, 1, 2] (ls2 := [(0, .inr t0), (1, .inl x1), (2, .inl x2)]) rfl ?_
        exact J_z10 0 (Or.inl rfl)
      · refine c_Fl h15 (c_icmp_ge (tgt := 39) dX1_oldestLine_32 rfl (fun q => absurd q h15) (fun _ => ?_))
        refine c_iconst dX1_oldestLine_35 (v := 1) rfl ?_
        refine c_goto (tgt := 40) dX1_oldestLine_36 rfl ?_
        refine c_keep [0, 1, 2] (ls2 := [(0, .inr t0), (1, .inl x1), (2, .inl x2)]) rfl ?_
        exact J_z10 1 (Or.inr rfl)
def f_X1_oldestLine (t0 : Nat) (M : Mem) : Option (Int32 × Mem) := loopC (l_X1_oldestLine_4 t0) fuelL (0, 1, M)
set_option maxRecDepth 20000 in
set_option maxHeartbeats 2000000 in
theorem ev_X1_oldestLine (d : Nat) (hlev : 0 ≤ d) (t0 : Nat) (h_t0 : blkAt KSx t0 blk1) (M : Mem) : Ev KSx ST1 mdX1_oldestLine d [.inr t0] M (f_X1_oldestLine t0 M) := by
  refine ev_of rfl (Nat.le_of_ble_eq_true rfl) ?_
  show CorM KSx ST1 RX1 cX1_oldestLine 4 (some .int) d 0 [(0, .inr t0)] [] M (f_X1_oldestLine t0 M)
  unfold f_X1_oldestLine
  refine c_iconst dX1_oldestLine_0 (v := 0) rfl ?_
  refine c_istore_n (i := 1) dX1_oldestLine_1 rfl (by decide) (ls2 := [(0, .inr t0), (1, .inl 0)]) rfl ?_
  refine c_iconst dX1_oldestLine_2 (v := 1) rfl ?_
  refine c_istore_n (i := 2) dX1_oldestLine_3 rfl (by decide) (ls2 := [(0, .inr t0), (1, .inl 0), (2, .inl 1)]) rfl ?_
  refine c_keep [0, 1, 2] (ls2 := [(0, .inr t0), (1, .inl 0), (2, .inl 1)]) rfl ?_
  exact lo_X1_oldestLine_4 d hlev t0 h_t0 (0, 1, M)

abbrev mdX9_copyWords : MD := (yX9_copyWords, cX9_copyWords, 4, none)
theorem mw_X9_copyWords : mdW mdX9_copyWords := ⟨wm_X9_copyWords, w0_RX9, by decide, by decide⟩
theorem mn_X9_copyWords : (parseMethodDescriptor yX9_copyWords.desc).map (fun d => d.parameters.length) = some 4 := by decide +kernel
def f_X9_copyWords (t0 : Nat) (x1 : Int32) (t2 : Nat) (x3 : Int32) (M : Mem) : Option (Int32 × Mem) := if cpOk (lenK KSx t0) (lenK KSx t2) x1 x3 8 then wrt (cpy M t0 x1 t2 x3 8) (fun M2 => some (0, M2)) else none
set_option maxRecDepth 20000 in
set_option maxHeartbeats 2000000 in
theorem ev_X9_copyWords (d : Nat) (hlev : 1 ≤ d) (t0 : Nat) (h_t0 : KSx[t0]? = some (20, lenK KSx t0)) (x1 : Int32) (t2 : Nat) (h_t2 : KSx[t2]? = some (20, lenK KSx t2)) (x3 : Int32) (M : Mem) : Ev KSx ST1 mdX9_copyWords d [.inr t0, .inl x1, .inr t2, .inl x3] M (f_X9_copyWords t0 x1 t2 x3 M) := by
  refine ev_of rfl (Nat.le_of_ble_eq_true rfl) ?_
  show CorM KSx ST1 RX9 cX9_copyWords 4 none d 0 [(0, .inr t0), (1, .inl x1), (2, .inr t2), (3, .inl x3)] [] M (f_X9_copyWords t0 x1 t2 x3 M)
  unfold f_X9_copyWords
  refine c_aload_n (i := 0) dX9_copyWords_0 rfl rfl ?_
  refine c_iload_n (i := 1) dX9_copyWords_1 rfl rfl ?_
  refine c_aload_n (i := 2) dX9_copyWords_2 rfl rfl ?_
  refine c_iload_n (i := 3) dX9_copyWords_3 rfl rfl ?_
  refine c_bipush dX9_copyWords_4 (v := 8) rfl ?_
  refine c_chk (fun h1 => ?_)
  refine c_copy wl_RX9_363 h_t0 h_t2 h1 (Nat.lt_of_lt_of_le (by decide) hlev) (Nat.le_of_ble_eq_true rfl) dX9_copyWords_6 ?_
  refine c_wrt (fun M2 => ?_)
  exact c_vret rfl dX9_copyWords_9

abbrev mdX1_writeBack : MD := (yX1_writeBack, cX1_writeBack, 3, (some .boolean))
theorem mw_X1_writeBack : mdW mdX1_writeBack := ⟨wm_X1_writeBack, w0_RX1, by decide, by decide⟩
theorem mn_X1_writeBack : (parseMethodDescriptor yX1_writeBack.desc).map (fun d => d.parameters.length) = some 2 := by decide +kernel
def j_X1_writeBack_24 (M : Mem) : Option (Int32 × Mem) := some (0, M)
set_option maxRecDepth 20000 in
set_option maxHeartbeats 2000000 in
theorem jo_X1_writeBack_24 (d : Nat) (hlev : 2 ≤ d) (M : Mem) : CorM KSx ST1 RX1 cX1_writeBack 3 (some .boolean) d 24 [] [] M (j_X1_writeBack_24 M) := by
  unfold j_X1_writeBack_24
  refine c_iconst dX1_writeBack_24 (v := 0) rfl ?_
  exact c_zret rfl (Or.inl rfl) dX1_writeBack_25
def f_X1_writeBack (t0 : Nat) (x1 : Int32) (t2 : Nat) (M : Mem) : Option (Int32 × Mem) := if x1 = (-1) then j_X1_writeBack_24 M else if inb x1 8 then if (M (t0 + 1) (ix x1)) = (-1) then j_X1_writeBack_24 M else if inb x1 8 then if ¬ (M (t0 + 2) (ix x1)) = 0 then if inb x1 8 then bnd (f_X9_copyWords (t0 + 4) (x1 * 8) (t2 + 1) ((M (t0 + 1) (ix x1)) * 8) M) (fun _ M8 => if inb x1 8 then wrt (up M8 (t0 + 2) (ix x1) 0) (fun M10 => wrt (up M10 t0 6 ((M10 t0 6) + 1)) (fun M11 => some (1, M11))) else none) else none else j_X1_writeBack_24 M else none else none
set_option maxRecDepth 20000 in
set_option maxHeartbeats 2000000 in
theorem ev_X1_writeBack (d : Nat) (hlev : 2 ≤ d) (t0 : Nat) (h_t0 : blkAt KSx t0 blk1) (x1 : Int32) (t2 : Nat) (h_t2 : blkAt KSx t2 blk8) (M : Mem) : Ev KSx ST1 mdX1_writeBack d [.inr t0, .inl x1, .inr t2] M (f_X1_writeBack t0 x1 t2 M) := by
  refine ev_of rfl (Nat.le_of_ble_eq_true rfl) ?_
  show CorM KSx ST1 RX1 cX1_writeBack 3 (some .boolean) d 0 [(0, .inr t0), (1, .inl x1), (2, .inr t2)] [] M (f_X1_writeBack t0 x1 t2 M)
  unfold f_X1_writeBack
  refine c_iload_n (i := 1) dX1_writeBack_0 rfl rfl ?_
  refine c_iconst dX1_writeBack_1 (v := (-1)) rfl ?_
  refine c_icmp_eq (tgt := 24) dX1_writeBack_2 rfl (fun h1 => ?_) (fun h1 => ?_)
  · refine c_keep [] (ls2 := []) rfl ?_
    exact jo_X1_writeBack_24 d hlev M
  · refine c_aload_n (i := 0) dX1_writeBack_5 rfl rfl ?_
    refine gf_RX1_9 (blk_get0 h_t0) dX1_writeBack_6 ?_
    refine c_iload_n (i := 1) dX1_writeBack_9 rfl rfl ?_
    refine c_chk (fun h2 => ?_)
    refine c_iald (blk_get0 (blk_sub (C := [(20, 8)]) (i := 1) h_t0 rfl)) h2 dX1_writeBack_10 ?_
    refine c_iconst dX1_writeBack_11 (v := (-1)) rfl ?_
    refine c_icmp_eq (tgt := 24) dX1_writeBack_12 rfl (fun h3 => ?_) (fun h3 => ?_)
    · refine c_keep [] (ls2 := []) rfl ?_
      exact jo_X1_writeBack_24 d hlev M
    · refine c_aload_n (i := 0) dX1_writeBack_15 rfl rfl ?_
      refine gf_RX1_15 (blk_get0 h_t0) dX1_writeBack_16 ?_
      refine c_iload_n (i := 1) dX1_writeBack_19 rfl rfl ?_
      refine c_chk (fun h4 => ?_)
      refine c_zald (blk_get0 (blk_sub (C := [(21, 8)]) (i := 2) h_t0 rfl)) h4 dX1_writeBack_20 ?_
      refine c_if_ne (tgt := 26) dX1_writeBack_21 rfl (fun h5 => ?_) (fun h5 => ?_)
      · refine c_aload_n (i := 0) dX1_writeBack_26 rfl rfl ?_
        refine gf_RX1_22 (blk_get0 h_t0) dX1_writeBack_27 ?_
        refine c_iload_n (i := 1) dX1_writeBack_30 rfl rfl ?_
        refine c_bipush dX1_writeBack_31 (v := 8) rfl ?_
        refine c_imul dX1_writeBack_33 ?_
        refine c_aload_n (i := 2) dX1_writeBack_34 rfl rfl ?_
        refine gf_RX1_68 (blk_get0 h_t2) dX1_writeBack_35 ?_
        refine c_aload_n (i := 0) dX1_writeBack_38 rfl rfl ?_
        refine gf_RX1_9 (blk_get0 h_t0) dX1_writeBack_39 ?_
        refine c_iload_n (i := 1) dX1_writeBack_42 rfl rfl ?_
        refine c_chk (fun h6 => ?_)
        refine c_iald (blk_get0 (blk_sub (C := [(20, 8)]) (i := 1) h_t0 rfl)) h6 dX1_writeBack_43 ?_
        refine c_bipush dX1_writeBack_44 (v := 8) rfl ?_
        refine c_imul dX1_writeBack_46 ?_
        refine c_callNv (as := [.inr (t0 + 4), .inl (x1 * 8), .inr (t2 + 1), .inl ((M (t0 + 1) (ix x1)) * 8)]) (rs := []) (ev_X9_copyWords 1 (Nat.le_refl _) (t0 + 4) (arrp_of (blk_get0 (blk_sub (C := [(20, 64)]) (i := 4) h_t0 rfl))) (x1 * 8) (t2 + 1) (arrp_of (blk_get0 (blk_sub (C := [(20, 1024)]) (i := 1) h_t2 rfl))) ((M (t0 + 1) (ix x1)) * 8) M) rfl (Nat.lt_of_lt_of_le (by decide) hlev) mw_X9_copyWords ws_X9_copyWords wl_RX1_71 mn_X9_copyWords rfl (by decide) (Nat.le_of_ble_eq_true rfl) rfl dX1_writeBack_47 (fun v7 M8 _ => ?_)
        refine c_aload_n (i := 0) dX1_writeBack_50 rfl rfl ?_
        refine gf_RX1_15 (blk_get0 h_t0) dX1_writeBack_51 ?_
        refine c_iload_n (i := 1) dX1_writeBack_54 rfl rfl ?_
        refine c_iconst dX1_writeBack_55 (v := 0) rfl ?_
        refine c_chk (fun h9 => ?_)
        refine c_zast (blk_get0 (blk_sub (C := [(21, 8)]) (i := 2) h_t0 rfl)) h9 (Or.inl rfl) dX1_writeBack_56 ?_
        refine c_wrt (fun M10 => ?_)
        refine c_aload_n (i := 0) dX1_writeBack_57 rfl rfl ?_
        refine c_dup dX1_writeBack_58 ?_
        refine gf_RX1_36 (blk_get0 h_t0) dX1_writeBack_59 ?_
        refine c_iconst dX1_writeBack_62 (v := 1) rfl ?_
        refine c_iadd dX1_writeBack_63 ?_
        refine pf_RX1_36 (blk_get0 h_t0) dX1_writeBack_64 ?_
        refine c_wrt (fun M11 => ?_)
        refine c_iconst dX1_writeBack_67 (v := 1) rfl ?_
        exact c_zret rfl (Or.inr rfl) dX1_writeBack_68
      · refine c_keep [] (ls2 := []) rfl ?_
        exact jo_X1_writeBack_24 d hlev M

abbrev mdX1_makeLine : MD := (yX1_makeLine, cX1_makeLine, 5, (some .int))
theorem mw_X1_makeLine : mdW mdX1_makeLine := ⟨wm_X1_makeLine, w0_RX1, by decide, by decide⟩
theorem mn_X1_makeLine : (parseMethodDescriptor yX1_makeLine.desc).map (fun d => d.parameters.length) = some 3 := by decide +kernel
def j_X1_makeLine_20 (t0 : Nat) (x1 : Int32) (t3 : Nat) (w0 : Int32) (M : Mem) : Option (Int32 × Mem) := bnd (f_X1_writeBack t0 w0 t3 M) (fun v6 M7 => if inb w0 8 then wrt (up M7 (t0 + 1) (ix w0) x1) (fun M9 => if inb w0 8 then wrt (up M9 (t0 + 2) (ix w0) 0) (fun M11 => bnd (f_X9_copyWords (t3 + 1) (x1 * 8) (t0 + 4) (w0 * 8) M11) (fun _ M13 => some (w0, M13))) else none) else none)
set_option maxRecDepth 20000 in
set_option maxHeartbeats 2000000 in
theorem jo_X1_makeLine_20 (d : Nat) (hlev : 3 ≤ d) (t0 : Nat) (h_t0 : blkAt KSx t0 blk1) (x1 : Int32) (t3 : Nat) (h_t3 : blkAt KSx t3 blk8) (w0 : Int32) (M : Mem) : CorM KSx ST1 RX1 cX1_makeLine 5 (some .int) d 20 [(0, .inr t0), (1, .inl x1), (3, .inr t3)] [.inl w0] M (j_X1_makeLine_20 t0 x1 t3 w0 M) := by
  unfold j_X1_makeLine_20
  refine c_istore dX1_makeLine_20 (by decide) (ls2 := [(0, .inr t0), (1, .inl x1), (3, .inr t3), (4, .inl w0)]) rfl ?_
  refine c_aload_n (i := 0) dX1_makeLine_22 rfl rfl ?_
  refine c_iload dX1_makeLine_23 rfl ?_
  refine c_aload_n (i := 3) dX1_makeLine_25 rfl rfl ?_
  refine c_callV (as := [.inl w0, .inr t3]) (rs := []) (ev_X1_writeBack 2 (Nat.le_refl _) t0 h_t0 w0 t3 h_t3 M) rfl (Nat.lt_of_lt_of_le (by decide) hlev) mw_X1_writeBack wi_X1_writeBack wv_X1_writeBack (blk_get0 h_t0) (by decide) rfl wl_RX1_64 mn_X1_writeBack rfl (by decide) (Nat.le_of_ble_eq_true rfl) ⟨_, rfl⟩ dX1_makeLine_26 (fun v6 M7 _ => ?_)
  refine c_pop dX1_makeLine_29 ?_
  refine c_aload_n (i := 0) dX1_makeLine_30 rfl rfl ?_
  refine gf_RX1_9 (blk_get0 h_t0) dX1_makeLine_31 ?_
  refine c_iload dX1_makeLine_34 rfl ?_
  refine c_iload_n (i := 1) dX1_makeLine_36 rfl rfl ?_
  refine c_chk (fun h8 => ?_)
  refine c_iast (blk_get0 (blk_sub (C := [(20, 8)]) (i := 1) h_t0 rfl)) h8 dX1_makeLine_37 ?_
  refine c_wrt (fun M9 => ?_)
  refine c_aload_n (i := 0) dX1_makeLine_38 rfl rfl ?_
  refine gf_RX1_15 (blk_get0 h_t0) dX1_makeLine_39 ?_
  refine c_iload dX1_makeLine_42 rfl ?_
  refine c_iconst dX1_makeLine_44 (v := 0) rfl ?_
  refine c_chk (fun h10 => ?_)
  refine c_zast (blk_get0 (blk_sub (C := [(21, 8)]) (i := 2) h_t0 rfl)) h10 (Or.inl rfl) dX1_makeLine_45 ?_
  refine c_wrt (fun M11 => ?_)
  refine c_aload_n (i := 3) dX1_makeLine_46 rfl rfl ?_
  refine gf_RX1_68 (blk_get0 h_t3) dX1_makeLine_47 ?_
  refine c_iload_n (i := 1) dX1_makeLine_50 rfl rfl ?_
  refine c_bipush dX1_makeLine_51 (v := 8) rfl ?_
  refine c_imul dX1_makeLine_53 ?_
  refine c_aload_n (i := 0) dX1_makeLine_54 rfl rfl ?_
  refine gf_RX1_22 (blk_get0 h_t0) dX1_makeLine_55 ?_
  refine c_iload dX1_makeLine_58 rfl ?_
  refine c_bipush dX1_makeLine_60 (v := 8) rfl ?_
  refine c_imul dX1_makeLine_62 ?_
  refine c_callNv (as := [.inr (t3 + 1), .inl (x1 * 8), .inr (t0 + 4), .inl (w0 * 8)]) (rs := []) (ev_X9_copyWords 1 (Nat.le_refl _) (t3 + 1) (arrp_of (blk_get0 (blk_sub (C := [(20, 1024)]) (i := 1) h_t3 rfl))) (x1 * 8) (t0 + 4) (arrp_of (blk_get0 (blk_sub (C := [(20, 64)]) (i := 4) h_t0 rfl))) (w0 * 8) M11) rfl (Nat.lt_of_lt_of_le (by decide) hlev) mw_X9_copyWords ws_X9_copyWords wl_RX1_71 mn_X9_copyWords rfl (by decide) (Nat.le_of_ble_eq_true rfl) rfl dX1_makeLine_63 (fun v12 M13 _ => ?_)
  refine c_iload dX1_makeLine_66 rfl ?_
  exact c_iret rfl dX1_makeLine_68
def f_X1_makeLine (t0 : Nat) (x1 : Int32) (x2 : Int32) (t3 : Nat) (M : Mem) : Option (Int32 × Mem) := bnd (f_X1_lineCount t0 M) (fun v1 M2 => if x2 ≤ v1 then bnd (f_X1_oldestLine t0 M2) (fun v4 M5 => j_X1_makeLine_20 t0 x1 t3 v4 M5) else bnd (f_X1_lineWith t0 (-1) M2) (fun v14 M15 => j_X1_makeLine_20 t0 x1 t3 v14 M15))
set_option maxRecDepth 20000 in
set_option maxHeartbeats 2000000 in
theorem ev_X1_makeLine (d : Nat) (hlev : 3 ≤ d) (t0 : Nat) (h_t0 : blkAt KSx t0 blk1) (x1 : Int32) (x2 : Int32) (t3 : Nat) (h_t3 : blkAt KSx t3 blk8) (M : Mem) : Ev KSx ST1 mdX1_makeLine d [.inr t0, .inl x1, .inl x2, .inr t3] M (f_X1_makeLine t0 x1 x2 t3 M) := by
  refine ev_of rfl (Nat.le_of_ble_eq_true rfl) ?_
  show CorM KSx ST1 RX1 cX1_makeLine 5 (some .int) d 0 [(0, .inr t0), (1, .inl x1), (2, .inl x2), (3, .inr t3)] [] M (f_X1_makeLine t0 x1 x2 t3 M)
  unfold f_X1_makeLine
  refine c_aload_n (i := 0) dX1_makeLine_0 rfl rfl ?_
  refine c_callV (as := []) (rs := []) (ev_X1_lineCount 0 (Nat.le_refl _) t0 h_t0 M) rfl (Nat.lt_of_lt_of_le (by decide) hlev) mw_X1_lineCount wi_X1_lineCount wv_X1_lineCount (blk_get0 h_t0) (by decide) rfl wl_RX1_57 mn_X1_lineCount rfl (by decide) (Nat.le_of_ble_eq_true rfl) ⟨_, rfl⟩ dX1_makeLine_1 (fun v1 M2 _ => ?_)
  refine c_iload_n (i := 2) dX1_makeLine_4 rfl rfl ?_
  refine c_icmp_ge (tgt := 16) dX1_makeLine_5 rfl (fun h3 => ?_) (fun h3 => ?_)
  · refine c_aload_n (i := 0) dX1_makeLine_16 rfl rfl ?_
    refine c_callV (as := []) (rs := []) (ev_X1_oldestLine 0 (Nat.le_refl _) t0 h_t0 M2) rfl (Nat.lt_of_lt_of_le (by decide) hlev) mw_X1_oldestLine wi_X1_oldestLine wv_X1_oldestLine (blk_get0 h_t0) (by decide) rfl wl_RX1_61 mn_X1_oldestLine rfl (by decide) (Nat.le_of_ble_eq_true rfl) ⟨_, rfl⟩ dX1_makeLine_17 (fun v4 M5 _ => ?_)
    refine c_keep [0, 1, 3] (ls2 := [(0, .inr t0), (1, .inl x1), (3, .inr t3)]) rfl ?_
    exact jo_X1_makeLine_20 d hlev t0 h_t0 x1 t3 h_t3 v4 M5
  · refine c_aload_n (i := 0) dX1_makeLine_8 rfl rfl ?_
    refine c_iconst dX1_makeLine_9 (v := (-1)) rfl ?_
    refine c_callV (as := [.inl (-1)]) (rs := []) (ev_X1_lineWith 0 (Nat.le_refl _) t0 h_t0 (-1) M2) rfl (Nat.lt_of_lt_of_le (by decide) hlev) mw_X1_lineWith wi_X1_lineWith wv_X1_lineWith (blk_get0 h_t0) (by decide) rfl wl_RX1_45 mn_X1_lineWith rfl (by decide) (Nat.le_of_ble_eq_true rfl) ⟨_, rfl⟩ dX1_makeLine_10 (fun v14 M15 _ => ?_)
    refine c_goto (tgt := 20) dX1_makeLine_13 rfl ?_
    refine c_keep [0, 1, 3] (ls2 := [(0, .inr t0), (1, .inl x1), (3, .inr t3)]) rfl ?_
    exact jo_X1_makeLine_20 d hlev t0 h_t0 x1 t3 h_t3 v14 M15

abbrev mdX1_useLine : MD := (yX1_useLine, cX1_useLine, 6, (some .int))
theorem mw_X1_useLine : mdW mdX1_useLine := ⟨wm_X1_useLine, w0_RX1, by decide, by decide⟩
theorem mn_X1_useLine : (parseMethodDescriptor yX1_useLine.desc).map (fun d => d.parameters.length) = some 4 := by decide +kernel
def j_X1_useLine_58 (t0 : Nat) (x5 : Int32) (M : Mem) : Option (Int32 × Mem) := if inb x5 8 then wrt (up M (t0 + 3) (ix x5) ((M t0 4) + (M t0 5))) (fun M9 => some (x5, M9)) else none
set_option maxRecDepth 20000 in
set_option maxHeartbeats 2000000 in
theorem jo_X1_useLine_58 (d : Nat) (hlev : 4 ≤ d) (t0 : Nat) (h_t0 : blkAt KSx t0 blk1) (x5 : Int32) (M : Mem) : CorM KSx ST1 RX1 cX1_useLine 6 (some .int) d 58 [(0, .inr t0), (5, .inl x5)] [] M (j_X1_useLine_58 t0 x5 M) := by
  unfold j_X1_useLine_58
  refine c_aload_n (i := 0) dX1_useLine_58 rfl rfl ?_
  refine gf_RX1_19 (blk_get0 h_t0) dX1_useLine_59 ?_
  refine c_iload dX1_useLine_62 rfl ?_
  refine c_aload_n (i := 0) dX1_useLine_64 rfl rfl ?_
  refine gf_RX1_29 (blk_get0 h_t0) dX1_useLine_65 ?_
  refine c_aload_n (i := 0) dX1_useLine_68 rfl rfl ?_
  refine gf_RX1_33 (blk_get0 h_t0) dX1_useLine_69 ?_
  refine c_iadd dX1_useLine_72 ?_
  refine c_chk (fun h8 => ?_)
  refine c_iast (blk_get0 (blk_sub (C := [(20, 8)]) (i := 3) h_t0 rfl)) h8 dX1_useLine_73 ?_
  refine c_wrt (fun M9 => ?_)
  refine c_iload dX1_useLine_74 rfl ?_
  exact c_iret rfl dX1_useLine_76
def f_X1_useLine (t0 : Nat) (x1 : Int32) (x2 : Int32) (x3 : Int32) (t4 : Nat) (M : Mem) : Option (Int32 × Mem) := bnd (f_X1_lineOf t0 x1 x2 M) (fun v1 M2 => if v1 = (-1) then wrt (up M2 t0 5 ((M2 t0 5) + 1)) (fun M4 => if ¬ x3 = 0 then bnd (f_X1_makeLine t0 ((x1 * 16) + x2) x3 t4 M4) (fun v6 M7 => j_X1_useLine_58 t0 v6 M7) else some ((-1), M4)) else wrt (up M2 t0 4 ((M2 t0 4) + 1)) (fun M10 => j_X1_useLine_58 t0 v1 M10))
set_option maxRecDepth 20000 in
set_option maxHeartbeats 2000000 in
theorem ev_X1_useLine (d : Nat) (hlev : 4 ≤ d) (t0 : Nat) (h_t0 : blkAt KSx t0 blk1) (x1 : Int32) (x2 : Int32) (x3 : Int32) (t4 : Nat) (h_t4 : blkAt KSx t4 blk8) (M : Mem) : Ev KSx ST1 mdX1_useLine d [.inr t0, .inl x1, .inl x2, .inl x3, .inr t4] M (f_X1_useLine t0 x1 x2 x3 t4 M) := by
  refine ev_of rfl (Nat.le_of_ble_eq_true rfl) ?_
  show CorM KSx ST1 RX1 cX1_useLine 6 (some .int) d 0 [(0, .inr t0), (1, .inl x1), (2, .inl x2), (3, .inl x3), (4, .inr t4)] [] M (f_X1_useLine t0 x1 x2 x3 t4 M)
  unfold f_X1_useLine
  refine c_aload_n (i := 0) dX1_useLine_0 rfl rfl ?_
  refine c_iload_n (i := 1) dX1_useLine_1 rfl rfl ?_
  refine c_iload_n (i := 2) dX1_useLine_2 rfl rfl ?_
  refine c_callV (as := [.inl x1, .inl x2]) (rs := []) (ev_X1_lineOf 1 (Nat.le_refl _) t0 h_t0 x1 x2 M) rfl (Nat.lt_of_lt_of_le (by decide) hlev) mw_X1_lineOf wi_X1_lineOf wv_X1_lineOf (blk_get0 h_t0) (by decide) rfl wl_RX1_49 mn_X1_lineOf rfl (by decide) (Nat.le_of_ble_eq_true rfl) ⟨_, rfl⟩ dX1_useLine_3 (fun v1 M2 _ => ?_)
  refine c_istore dX1_useLine_6 (by decide) (ls2 := [(0, .inr t0), (1, .inl x1), (2, .inl x2), (3, .inl x3), (4, .inr t4), (5, .inl v1)]) rfl ?_
  refine c_iload dX1_useLine_8 rfl ?_
  refine c_iconst dX1_useLine_10 (v := (-1)) rfl ?_
  refine c_icmp_eq (tgt := 27) dX1_useLine_11 rfl (fun h3 => ?_) (fun h3 => ?_)
  · refine c_aload_n (i := 0) dX1_useLine_27 rfl rfl ?_
    refine c_dup dX1_useLine_28 ?_
    refine gf_RX1_33 (blk_get0 h_t0) dX1_useLine_29 ?_
    refine c_iconst dX1_useLine_32 (v := 1) rfl ?_
    refine c_iadd dX1_useLine_33 ?_
    refine pf_RX1_33 (blk_get0 h_t0) dX1_useLine_34 ?_
    refine c_wrt (fun M4 => ?_)
    refine c_iload_n (i := 3) dX1_useLine_37 rfl rfl ?_
    refine c_if_ne (tgt := 43) dX1_useLine_38 rfl (fun h5 => ?_) (fun h5 => ?_)
    · refine c_aload_n (i := 0) dX1_useLine_43 rfl rfl ?_
      refine c_iload_n (i := 1) dX1_useLine_44 rfl rfl ?_
      refine c_bipush dX1_useLine_45 (v := 16) rfl ?_
      refine c_imul dX1_useLine_47 ?_
      refine c_iload_n (i := 2) dX1_useLine_48 rfl rfl ?_
      refine c_iadd dX1_useLine_49 ?_
      refine c_iload_n (i := 3) dX1_useLine_50 rfl rfl ?_
      refine c_aload dX1_useLine_51 rfl ?_
      refine c_callV (as := [.inl ((x1 * 16) + x2), .inl x3, .inr t4]) (rs := []) (ev_X1_makeLine 3 (Nat.le_refl _) t0 h_t0 ((x1 * 16) + x2) x3 t4 h_t4 M4) rfl (Nat.lt_of_lt_of_le (by decide) hlev) mw_X1_makeLine wi_X1_makeLine wv_X1_makeLine (blk_get0 h_t0) (by decide) rfl wl_RX1_53 mn_X1_makeLine rfl (by decide) (Nat.le_of_ble_eq_true rfl) ⟨_, rfl⟩ dX1_useLine_53 (fun v6 M7 _ => ?_)
      refine c_istore dX1_useLine_56 (by decide) (ls2 := [(0, .inr t0), (1, .inl x1), (2, .inl x2), (3, .inl x3), (4, .inr t4), (5, .inl v6)]) rfl ?_
      refine c_keep [0, 5] (ls2 := [(0, .inr t0), (5, .inl v6)]) rfl ?_
      exact jo_X1_useLine_58 d hlev t0 h_t0 v6 M7
    · refine c_iconst dX1_useLine_41 (v := (-1)) rfl ?_
      exact c_iret rfl dX1_useLine_42
  · refine c_aload_n (i := 0) dX1_useLine_14 rfl rfl ?_
    refine c_dup dX1_useLine_15 ?_
    refine gf_RX1_29 (blk_get0 h_t0) dX1_useLine_16 ?_
    refine c_iconst dX1_useLine_19 (v := 1) rfl ?_
    refine c_iadd dX1_useLine_20 ?_
    refine pf_RX1_29 (blk_get0 h_t0) dX1_useLine_21 ?_
    refine c_wrt (fun M10 => ?_)
    refine c_goto (tgt := 58) dX1_useLine_24 rfl ?_
    refine c_keep [0, 5] (ls2 := [(0, .inr t0), (5, .inl v1)]) rfl ?_
    exact jo_X1_useLine_58 d hlev t0 h_t0 v1 M10
