abbrev mdX5_clear : MD := (yX5_clear, cX5_clear, 1, none)
theorem mw_X5_clear : mdW mdX5_clear := ⟨wm_X5_clear, w0_RX5, by decide, by decide⟩
theorem mn_X5_clear : (parseMethodDescriptor yX5_clear.desc).map (fun d => d.parameters.length) = some 0 := by decide +kernel
def f_X5_clear (t0 : Nat) (M : Mem) : Option (Int32 × Mem) := bnd (f_X8_clear (t0 + 1) M) (fun _ M2 => bnd (f_X6_clear (t0 + 4) M2) (fun _ M4 => bnd (f_X1_clear (t0 + 12) M4) (fun _ M6 => bnd (f_X0_clear (t0 + 17) M6) (fun _ M8 => wrt (up M8 t0 4 0) (fun M9 => some (0, M9))))))
set_option maxRecDepth 20000 in
set_option maxHeartbeats 2000000 in
theorem ev_X5_clear (d : Nat) (hlev : 2 ≤ d) (t0 : Nat) (h_t0 : blkAt KSx t0 blk5) (M : Mem) : Ev KSx ST1 mdX5_clear d [.inr t0] M (f_X5_clear t0 M) := by
  refine ev_of rfl (Nat.le_of_ble_eq_true rfl) ?_
  show CorM KSx ST1 RX5 cX5_clear 1 none d 0 [(0, .inr t0)] [] M (f_X5_clear t0 M)
  unfold f_X5_clear
  refine c_aload_n (i := 0) dX5_clear_0 rfl rfl ?_
  refine gf_RX5_12 (blk_get0 h_t0) dX5_clear_1 ?_
  refine c_callVv (as := []) (rs := []) (ev_X8_clear 1 (Nat.le_refl _) (t0 + 1) (blk_sub (C := blk8) (i := 1) h_t0 rfl) M) rfl (Nat.lt_of_lt_of_le (by decide) hlev) mw_X8_clear wi_X8_clear wv_X8_clear (blk_get0 (blk_sub (C := blk8) (i := 1) h_t0 rfl)) (by decide) rfl wl_RX5_39 mn_X8_clear rfl (by decide) (Nat.le_of_ble_eq_true rfl) rfl dX5_clear_4 (fun v1 M2 _ => ?_)
  refine c_aload_n (i := 0) dX5_clear_7 rfl rfl ?_
  refine gf_RX5_21 (blk_get0 h_t0) dX5_clear_8 ?_
  refine c_callVv (as := []) (rs := []) (ev_X6_clear 1 (Nat.le_refl _) (t0 + 4) (blk_sub (C := blk6) (i := 4) h_t0 rfl) M2) rfl (Nat.lt_of_lt_of_le (by decide) hlev) mw_X6_clear wi_X6_clear wv_X6_clear (blk_get0 (blk_sub (C := blk6) (i := 4) h_t0 rfl)) (by decide) rfl wl_RX5_42 mn_X6_clear rfl (by decide) (Nat.le_of_ble_eq_true rfl) rfl dX5_clear_11 (fun v3 M4 _ => ?_)
  refine c_aload_n (i := 0) dX5_clear_14 rfl rfl ?_
  refine gf_RX5_28 (blk_get0 h_t0) dX5_clear_15 ?_
  refine c_callVv (as := []) (rs := []) (ev_X1_clear 1 (Nat.le_refl _) (t0 + 12) (blk_sub (C := blk1) (i := 12) h_t0 rfl) M4) rfl (Nat.lt_of_lt_of_le (by decide) hlev) mw_X1_clear wi_X1_clear wv_X1_clear (blk_get0 (blk_sub (C := blk1) (i := 12) h_t0 rfl)) (by decide) rfl wl_RX5_43 mn_X1_clear rfl (by decide) (Nat.le_of_ble_eq_true rfl) rfl dX5_clear_18 (fun v5 M6 _ => ?_)
  refine c_aload_n (i := 0) dX5_clear_21 rfl rfl ?_
  refine gf_RX5_35 (blk_get0 h_t0) dX5_clear_22 ?_
  refine c_callVv (as := []) (rs := []) (ev_X0_clear 0 (Nat.le_refl _) (t0 + 17) (blk_sub (C := blk0) (i := 17) h_t0 rfl) M6) rfl (Nat.lt_of_lt_of_le (by decide) hlev) mw_X0_clear wi_X0_clear wv_X0_clear (blk_get0 (blk_sub (C := blk0) (i := 17) h_t0 rfl)) (by decide) rfl wl_RX5_44 mn_X0_clear rfl (by decide) (Nat.le_of_ble_eq_true rfl) rfl dX5_clear_25 (fun v7 M8 _ => ?_)
  refine c_aload_n (i := 0) dX5_clear_28 rfl rfl ?_
  refine c_iconst dX5_clear_29 (v := 0) rfl ?_
  refine pf_RX5_45 (blk_get0 h_t0) (Or.inl rfl) dX5_clear_30 ?_
  refine c_wrt (fun M9 => ?_)
  exact c_vret rfl dX5_clear_33

abbrev mdX8_copyFrom : MD := (yX8_copyFrom, cX8_copyFrom, 2, none)
theorem mw_X8_copyFrom : mdW mdX8_copyFrom := ⟨wm_X8_copyFrom, w0_RX8, by decide, by decide⟩
theorem mn_X8_copyFrom : (parseMethodDescriptor yX8_copyFrom.desc).map (fun d => d.parameters.length) = some 1 := by decide +kernel
def f_X8_copyFrom (t0 : Nat) (t1 : Nat) (M : Mem) : Option (Int32 × Mem) := wrt (cpy M (t1 + 1) 0 (t0 + 1) 0 1024) (fun M1 => wrt (cpy M1 (t1 + 2) 0 (t0 + 2) 0 256) (fun M2 => some (0, M2)))
set_option maxRecDepth 20000 in
set_option maxHeartbeats 2000000 in
theorem ev_X8_copyFrom (d : Nat) (hlev : 1 ≤ d) (t0 : Nat) (h_t0 : blkAt KSx t0 blk8) (t1 : Nat) (h_t1 : blkAt KSx t1 blk8) (M : Mem) : Ev KSx ST1 mdX8_copyFrom d [.inr t0, .inr t1] M (f_X8_copyFrom t0 t1 M) := by
  refine ev_of rfl (Nat.le_of_ble_eq_true rfl) ?_
  show CorM KSx ST1 RX8 cX8_copyFrom 2 none d 0 [(0, .inr t0), (1, .inr t1)] [] M (f_X8_copyFrom t0 t1 M)
  unfold f_X8_copyFrom
  refine c_aload_n (i := 1) dX8_copyFrom_0 rfl rfl ?_
  refine gf_RX8_9 (blk_get0 h_t1) dX8_copyFrom_1 ?_
  refine c_iconst dX8_copyFrom_4 (v := 0) rfl ?_
  refine c_aload_n (i := 0) dX8_copyFrom_5 rfl rfl ?_
  refine gf_RX8_9 (blk_get0 h_t0) dX8_copyFrom_6 ?_
  refine c_iconst dX8_copyFrom_9 (v := 0) rfl ?_
  refine c_aload_n (i := 0) dX8_copyFrom_10 rfl rfl ?_
  refine gf_RX8_9 (blk_get0 h_t0) dX8_copyFrom_11 ?_
  refine c_alen (blk_get0 (blk_sub (C := [(20, 1024)]) (i := 1) h_t0 rfl)) (Or.inl rfl) (v := 1024) rfl dX8_copyFrom_14 ?_
  refine c_copy wl_RX8_24 (blk_get0 (blk_sub (C := [(20, 1024)]) (i := 1) h_t1 rfl)) (blk_get0 (blk_sub (C := [(20, 1024)]) (i := 1) h_t0 rfl)) (by decide) (Nat.lt_of_lt_of_le (by decide) hlev) (Nat.le_of_ble_eq_true rfl) dX8_copyFrom_15 ?_
  refine c_wrt (fun M1 => ?_)
  refine c_aload_n (i := 1) dX8_copyFrom_18 rfl rfl ?_
  refine gf_RX8_15 (blk_get0 h_t1) dX8_copyFrom_19 ?_
  refine c_iconst dX8_copyFrom_22 (v := 0) rfl ?_
  refine c_aload_n (i := 0) dX8_copyFrom_23 rfl rfl ?_
  refine gf_RX8_15 (blk_get0 h_t0) dX8_copyFrom_24 ?_
  refine c_iconst dX8_copyFrom_27 (v := 0) rfl ?_
  refine c_aload_n (i := 0) dX8_copyFrom_28 rfl rfl ?_
  refine gf_RX8_15 (blk_get0 h_t0) dX8_copyFrom_29 ?_
  refine c_alen (blk_get0 (blk_sub (C := [(20, 256)]) (i := 2) h_t0 rfl)) (Or.inl rfl) (v := 256) rfl dX8_copyFrom_32 ?_
  refine c_copy wl_RX8_24 (blk_get0 (blk_sub (C := [(20, 256)]) (i := 2) h_t1 rfl)) (blk_get0 (blk_sub (C := [(20, 256)]) (i := 2) h_t0 rfl)) (by decide) (Nat.lt_of_lt_of_le (by decide) hlev) (Nat.le_of_ble_eq_true rfl) dX8_copyFrom_33 ?_
  refine c_wrt (fun M2 => ?_)
  exact c_vret rfl dX8_copyFrom_36

abbrev mdX5_copyValuesFrom : MD := (yX5_copyValuesFrom, cX5_copyValuesFrom, 2, none)
theorem mw_X5_copyValuesFrom : mdW mdX5_copyValuesFrom := ⟨wm_X5_copyValuesFrom, w0_RX5, by decide, by decide⟩
theorem mn_X5_copyValuesFrom : (parseMethodDescriptor yX5_copyValuesFrom.desc).map (fun d => d.parameters.length) = some 1 := by decide +kernel
def f_X5_copyValuesFrom (t0 : Nat) (t1 : Nat) (M : Mem) : Option (Int32 × Mem) := bnd (f_X8_copyFrom (t0 + 1) (t1 + 1) M) (fun _ M2 => bnd (f_X1_copyFrom (t0 + 12) (t1 + 12) M2) (fun _ M4 => if isB (M4 t1 4) then wrt (up M4 t0 4 (M4 t1 4)) (fun M6 => some (0, M6)) else none))
set_option maxRecDepth 20000 in
set_option maxHeartbeats 2000000 in
theorem ev_X5_copyValuesFrom (d : Nat) (hlev : 2 ≤ d) (t0 : Nat) (h_t0 : blkAt KSx t0 blk5) (t1 : Nat) (h_t1 : blkAt KSx t1 blk5) (M : Mem) : Ev KSx ST1 mdX5_copyValuesFrom d [.inr t0, .inr t1] M (f_X5_copyValuesFrom t0 t1 M) := by
  refine ev_of rfl (Nat.le_of_ble_eq_true rfl) ?_
  show CorM KSx ST1 RX5 cX5_copyValuesFrom 2 none d 0 [(0, .inr t0), (1, .inr t1)] [] M (f_X5_copyValuesFrom t0 t1 M)
  unfold f_X5_copyValuesFrom
  refine c_aload_n (i := 0) dX5_copyValuesFrom_0 rfl rfl ?_
  refine gf_RX5_12 (blk_get0 h_t0) dX5_copyValuesFrom_1 ?_
  refine c_aload_n (i := 1) dX5_copyValuesFrom_4 rfl rfl ?_
  refine gf_RX5_12 (blk_get0 h_t1) dX5_copyValuesFrom_5 ?_
  refine c_callVv (as := [.inr (t1 + 1)]) (rs := []) (ev_X8_copyFrom 1 (Nat.le_refl _) (t0 + 1) (blk_sub (C := blk8) (i := 1) h_t0 rfl) (t1 + 1) (blk_sub (C := blk8) (i := 1) h_t1 rfl) M) rfl (Nat.lt_of_lt_of_le (by decide) hlev) mw_X8_copyFrom wi_X8_copyFrom wv_X8_copyFrom (blk_get0 (blk_sub (C := blk8) (i := 1) h_t0 rfl)) (by decide) rfl wl_RX5_60 mn_X8_copyFrom rfl (by decide) (Nat.le_of_ble_eq_true rfl) rfl dX5_copyValuesFrom_8 (fun v1 M2 _ => ?_)
  refine c_aload_n (i := 0) dX5_copyValuesFrom_11 rfl rfl ?_
  refine gf_RX5_28 (blk_get0 h_t0) dX5_copyValuesFrom_12 ?_
  refine c_aload_n (i := 1) dX5_copyValuesFrom_15 rfl rfl ?_
  refine gf_RX5_28 (blk_get0 h_t1) dX5_copyValuesFrom_16 ?_
  refine c_callVv (as := [.inr (t1 + 12)]) (rs := []) (ev_X1_copyFrom 1 (Nat.le_refl _) (t0 + 12) (blk_sub (C := blk1) (i := 12) h_t0 rfl) (t1 + 12) (blk_sub (C := blk1) (i := 12) h_t1 rfl) M2) rfl (Nat.lt_of_lt_of_le (by decide) hlev) mw_X1_copyFrom wi_X1_copyFrom wv_X1_copyFrom (blk_get0 (blk_sub (C := blk1) (i := 12) h_t0 rfl)) (by decide) rfl wl_RX5_63 mn_X1_copyFrom rfl (by decide) (Nat.le_of_ble_eq_true rfl) rfl dX5_copyValuesFrom_19 (fun v3 M4 _ => ?_)
  refine c_aload_n (i := 0) dX5_copyValuesFrom_22 rfl rfl ?_
  refine c_aload_n (i := 1) dX5_copyValuesFrom_23 rfl rfl ?_
  refine gf_RX5_45 (blk_get0 h_t1) dX5_copyValuesFrom_24 ?_
  refine c_chk (fun h5 => ?_)
  refine pf_RX5_45 (blk_get0 h_t0) h5 dX5_copyValuesFrom_27 ?_
  refine c_wrt (fun M6 => ?_)
  exact c_vret rfl dX5_copyValuesFrom_30

abbrev mdX5_copyFrom : MD := (yX5_copyFrom, cX5_copyFrom, 2, none)
theorem mw_X5_copyFrom : mdW mdX5_copyFrom := ⟨wm_X5_copyFrom, w0_RX5, by decide, by decide⟩
theorem mn_X5_copyFrom : (parseMethodDescriptor yX5_copyFrom.desc).map (fun d => d.parameters.length) = some 1 := by decide +kernel
def f_X5_copyFrom (t0 : Nat) (t1 : Nat) (M : Mem) : Option (Int32 × Mem) := bnd (f_X5_copyValuesFrom t0 t1 M) (fun _ M2 => bnd (f_X6_copyFrom (t0 + 4) (t1 + 4) M2) (fun _ M4 => bnd (f_X0_copyFrom (t0 + 17) (t1 + 17) M4) (fun _ M6 => some (0, M6))))
set_option maxRecDepth 20000 in
set_option maxHeartbeats 2000000 in
theorem ev_X5_copyFrom (d : Nat) (hlev : 3 ≤ d) (t0 : Nat) (h_t0 : blkAt KSx t0 blk5) (t1 : Nat) (h_t1 : blkAt KSx t1 blk5) (M : Mem) : Ev KSx ST1 mdX5_copyFrom d [.inr t0, .inr t1] M (f_X5_copyFrom t0 t1 M) := by
  refine ev_of rfl (Nat.le_of_ble_eq_true rfl) ?_
  show CorM KSx ST1 RX5 cX5_copyFrom 2 none d 0 [(0, .inr t0), (1, .inr t1)] [] M (f_X5_copyFrom t0 t1 M)
  unfold f_X5_copyFrom
  refine c_aload_n (i := 0) dX5_copyFrom_0 rfl rfl ?_
  refine c_aload_n (i := 1) dX5_copyFrom_1 rfl rfl ?_
  refine c_callVv (as := [.inr t1]) (rs := []) (ev_X5_copyValuesFrom 2 (Nat.le_refl _) t0 h_t0 t1 h_t1 M) rfl (Nat.lt_of_lt_of_le (by decide) hlev) mw_X5_copyValuesFrom wi_X5_copyValuesFrom wv_X5_copyValuesFrom (blk_get0 h_t0) (by decide) rfl wl_RX5_49 mn_X5_copyValuesFrom rfl (by decide) (Nat.le_of_ble_eq_true rfl) rfl dX5_copyFrom_2 (fun v1 M2 _ => ?_)
  refine c_aload_n (i := 0) dX5_copyFrom_5 rfl rfl ?_
  refine gf_RX5_21 (blk_get0 h_t0) dX5_copyFrom_6 ?_
  refine c_aload_n (i := 1) dX5_copyFrom_9 rfl rfl ?_
  refine gf_RX5_21 (blk_get0 h_t1) dX5_copyFrom_10 ?_
  refine c_callVv (as := [.inr (t1 + 4)]) (rs := []) (ev_X6_copyFrom 1 (Nat.le_refl _) (t0 + 4) (blk_sub (C := blk6) (i := 4) h_t0 rfl) (t1 + 4) (blk_sub (C := blk6) (i := 4) h_t1 rfl) M2) rfl (Nat.lt_of_lt_of_le (by decide) hlev) mw_X6_copyFrom wi_X6_copyFrom wv_X6_copyFrom (blk_get0 (blk_sub (C := blk6) (i := 4) h_t0 rfl)) (by decide) rfl wl_RX5_53 mn_X6_copyFrom rfl (by decide) (Nat.le_of_ble_eq_true rfl) rfl dX5_copyFrom_13 (fun v3 M4 _ => ?_)
  refine c_aload_n (i := 0) dX5_copyFrom_16 rfl rfl ?_
  refine gf_RX5_35 (blk_get0 h_t0) dX5_copyFrom_17 ?_
  refine c_aload_n (i := 1) dX5_copyFrom_20 rfl rfl ?_
  refine gf_RX5_35 (blk_get0 h_t1) dX5_copyFrom_21 ?_
  refine c_callVv (as := [.inr (t1 + 17)]) (rs := []) (ev_X0_copyFrom 1 (Nat.le_refl _) (t0 + 17) (blk_sub (C := blk0) (i := 17) h_t0 rfl) (t1 + 17) (blk_sub (C := blk0) (i := 17) h_t1 rfl) M4) rfl (Nat.lt_of_lt_of_le (by decide) hlev) mw_X0_copyFrom wi_X0_copyFrom wv_X0_copyFrom (blk_get0 (blk_sub (C := blk0) (i := 17) h_t0 rfl)) (by decide) rfl wl_RX5_57 mn_X0_copyFrom rfl (by decide) (Nat.le_of_ble_eq_true rfl) rfl dX5_copyFrom_24 (fun v5 M6 _ => ?_)
  exact c_vret rfl dX5_copyFrom_27

abbrev mdX6_earliestClock : MD := (yX6_earliestClock, cX6_earliestClock, 4, (some .int))
theorem mw_X6_earliestClock : mdW mdX6_earliestClock := ⟨wm_X6_earliestClock, w0_RX6, by decide, by decide⟩
theorem mn_X6_earliestClock : (parseMethodDescriptor yX6_earliestClock.desc).map (fun d => d.parameters.length) = some 1 := by decide +kernel
def j_X6_earliestClock_37 (t0 : Nat) (x1 : Int32) (x2 : Int32) (x3 : Int32) (K12 : Int32 × Int32 × Mem → Option (Int32 × Mem)) (M : Mem) : Option (Int32 × Mem) := K12 (x2, x3 + 1, M)
set_option maxRecDepth 20000 in
set_option maxHeartbeats 2000000 in
theorem jo_X6_earliestClock_37 (d : Nat) (hlev : 2 ≤ d) (t0 : Nat) (h_t0 : blkAt KSx t0 blk6) (x1 : Int32) (x2 : Int32) (x3 : Int32) (K12 : Int32 × Int32 × Mem → Option (Int32 × Mem)) (hK12 : ∀ s : Int32 × Int32 × Mem, CorM KSx ST1 RX6 cX6_earliestClock 4 (some .int) d 12 [(0, .inr t0), (1, .inl x1), (2, .inl s.1), (3, .inl s.2.1)] [] s.2.2 (K12 s)) (M : Mem) : CorM KSx ST1 RX6 cX6_earliestClock 4 (some .int) d 37 [(0, .inr t0), (1, .inl x1), (2, .inl x2), (3, .inl x3)] [] M (j_X6_earliestClock_37 t0 x1 x2 x3 K12 M) := by
  unfold j_X6_earliestClock_37
  refine c_iinc dX6_earliestClock_37 rfl (v := 1) rfl (by decide) (ls2 := [(0, .inr t0), (1, .inl x1), (2, .inl x2), (3, .inl (x3 + 1))]) rfl ?_
  refine c_goto (tgt := 12) dX6_earliestClock_40 rfl ?_
  refine c_keep [0, 1, 2, 3] (ls2 := [(0, .inr t0), (1, .inl x1), (2, .inl x2), (3, .inl (x3 + 1))]) rfl ?_
  exact hK12 (x2, x3 + 1, M)
def l_X6_earliestClock_12 (t0 : Nat) (x1 : Int32) (K12 : Int32 × Int32 × Mem → Option (Int32 × Mem)) : Int32 × Int32 × Mem → Option (Int32 × Mem) := fun s => match s with
  | (x2, x3, M) => if 8 ≤ x3 then some (x2, M) else if (p_X9_isIn x3 x1) = 0 then j_X6_earliestClock_37 t0 x1 x2 x3 K12 M else if inb x3 8 then j_X6_earliestClock_37 t0 x1 (imin x2 (M (t0 + 1) (ix x3))) x3 K12 M else none
set_option maxRecDepth 20000 in
set_option maxHeartbeats 2000000 in
theorem lo_X6_earliestClock_12 (d : Nat) (hlev : 2 ≤ d) (t0 : Nat) (h_t0 : blkAt KSx t0 blk6) (x1 : Int32) (s : Int32 × Int32 × Mem) : CorM KSx ST1 RX6 cX6_earliestClock 4 (some .int) d 12 [(0, .inr t0), (1, .inl x1), (2, .inl s.1), (3, .inl s.2.1)] [] s.2.2 (loopC (l_X6_earliestClock_12 t0 x1) fuelL s) := by
  refine c_loop (L := fun s : Int32 × Int32 × Mem => [(0, .inr t0), (1, .inl x1), (2, .inl s.1), (3, .inl s.2.1)]) (Mf := fun s : Int32 × Int32 × Mem => s.2.2) (fun K12 hK12 s => ?_) fuelL s
  obtain ⟨x2, x3, M⟩ := s
  show CorM KSx ST1 RX6 cX6_earliestClock 4 (some .int) d 12 [(0, .inr t0), (1, .inl x1), (2, .inl x2), (3, .inl x3)] [] M (l_X6_earliestClock_12 t0 x1 K12 (x2, x3, M))
  unfold l_X6_earliestClock_12
  refine c_iload_n (i := 3) dX6_earliestClock_12 rfl rfl ?_
  refine c_bipush dX6_earliestClock_13 (v := 8) rfl ?_
  refine c_icmp_ge (tgt := 43) dX6_earliestClock_15 rfl (fun h4 => ?_) (fun h4 => ?_)
  · refine c_iload_n (i := 2) dX6_earliestClock_43 rfl rfl ?_
    exact c_iret rfl dX6_earliestClock_44
  · refine c_iload_n (i := 3) dX6_earliestClock_18 rfl rfl ?_
    refine c_iload_n (i := 1) dX6_earliestClock_19 rfl rfl ?_
    refine c_callNp (as := [.inl x3, .inl x1]) (rs := []) (ev_X9_isIn 0 (Nat.le_refl _) x3 x1 M) rfl (Nat.lt_of_lt_of_le (by decide) hlev) mw_X9_isIn ws_X9_isIn wl_RX6_49 mn_X9_isIn rfl (by decide) (Nat.le_of_ble_eq_true rfl) ⟨_, rfl⟩ dX6_earliestClock_20 ?_
    refine c_if_eq (tgt := 37) dX6_earliestClock_23 rfl (fun h5 => ?_) (fun h5 => ?_)
    · refine c_keep [0, 1, 2, 3] (ls2 := [(0, .inr t0), (1, .inl x1), (2, .inl x2), (3, .inl x3)]) rfl ?_
      exact jo_X6_earliestClock_37 d hlev t0 h_t0 x1 x2 x3 K12 hK12 M
    · refine c_iload_n (i := 2) dX6_earliestClock_26 rfl rfl ?_
      refine c_aload_n (i := 0) dX6_earliestClock_27 rfl rfl ?_
      refine gf_RX6_9 (blk_get0 h_t0) dX6_earliestClock_28 ?_
      refine c_iload_n (i := 3) dX6_earliestClock_31 rfl rfl ?_
      refine c_chk (fun h6 => ?_)
      refine c_iald (blk_get0 (blk_sub (C := [(20, 8)]) (i := 1) h_t0 rfl)) h6 dX6_earliestClock_32 ?_
      refine c_min wl_RX6_53 (Nat.lt_of_lt_of_le (by decide) hlev) (Nat.le_of_ble_eq_true rfl) dX6_earliestClock_33 ?_
      refine c_istore_n (i := 2) dX6_earliestClock_36 rfl (by decide) (ls2 := [(0, .inr t0), (1, .inl x1), (2, .inl (imin x2 (M (t0 + 1) (ix x3)))), (3, .inl x3)]) rfl ?_
      refine c_keep [0, 1, 2, 3] (ls2 := [(0, .inr t0), (1, .inl x1), (2, .inl (imin x2 (M (t0 + 1) (ix x3)))), (3, .inl x3)]) rfl ?_
      exact jo_X6_earliestClock_37 d hlev t0 h_t0 x1 (imin x2 (M (t0 + 1) (ix x3))) x3 K12 hK12 M
def f_X6_earliestClock (t0 : Nat) (x1 : Int32) (M : Mem) : Option (Int32 × Mem) := bnd (f_X9_lowestBank x1 M) (fun v1 M2 => if inb v1 8 then loopC (l_X6_earliestClock_12 t0 x1) fuelL (M2 (t0 + 1) (ix v1), 0, M2) else none)
set_option maxRecDepth 20000 in
set_option maxHeartbeats 2000000 in
theorem ev_X6_earliestClock (d : Nat) (hlev : 2 ≤ d) (t0 : Nat) (h_t0 : blkAt KSx t0 blk6) (x1 : Int32) (M : Mem) : Ev KSx ST1 mdX6_earliestClock d [.inr t0, .inl x1] M (f_X6_earliestClock t0 x1 M) := by
  refine ev_of rfl (Nat.le_of_ble_eq_true rfl) ?_
  show CorM KSx ST1 RX6 cX6_earliestClock 4 (some .int) d 0 [(0, .inr t0), (1, .inl x1)] [] M (f_X6_earliestClock t0 x1 M)
  unfold f_X6_earliestClock
  refine c_aload_n (i := 0) dX6_earliestClock_0 rfl rfl ?_
  refine gf_RX6_9 (blk_get0 h_t0) dX6_earliestClock_1 ?_
  refine c_iload_n (i := 1) dX6_earliestClock_4 rfl rfl ?_
  refine c_callN (as := [.inl x1]) (rs := [.inr (t0 + 1)]) (ev_X9_lowestBank 1 (Nat.le_refl _) x1 M) rfl (Nat.lt_of_lt_of_le (by decide) hlev) mw_X9_lowestBank ws_X9_lowestBank wl_RX6_45 mn_X9_lowestBank rfl (by decide) (Nat.le_of_ble_eq_true rfl) ⟨_, rfl⟩ dX6_earliestClock_5 (fun v1 M2 _ => ?_)
  refine c_chk (fun h3 => ?_)
  refine c_iald (blk_get0 (blk_sub (C := [(20, 8)]) (i := 1) h_t0 rfl)) h3 dX6_earliestClock_8 ?_
  refine c_istore_n (i := 2) dX6_earliestClock_9 rfl (by decide) (ls2 := [(0, .inr t0), (1, .inl x1), (2, .inl (M2 (t0 + 1) (ix v1)))]) rfl ?_
  refine c_iconst dX6_earliestClock_10 (v := 0) rfl ?_
  refine c_istore_n (i := 3) dX6_earliestClock_11 rfl (by decide) (ls2 := [(0, .inr t0), (1, .inl x1), (2, .inl (M2 (t0 + 1) (ix v1))), (3, .inl 0)]) rfl ?_
  refine c_keep [0, 1, 2, 3] (ls2 := [(0, .inr t0), (1, .inl x1), (2, .inl (M2 (t0 + 1) (ix v1))), (3, .inl 0)]) rfl ?_
  exact lo_X6_earliestClock_12 d hlev t0 h_t0 x1 (M2 (t0 + 1) (ix v1), 0, M2)

abbrev mdX9_lanePlace : MD := (yX9_lanePlace, cX9_lanePlace, 3, (some .int))
theorem mw_X9_lanePlace : mdW mdX9_lanePlace := ⟨wm_X9_lanePlace, w0_RX9, by decide, by decide⟩
theorem mn_X9_lanePlace : (parseMethodDescriptor yX9_lanePlace.desc).map (fun d => d.parameters.length) = some 3 := by decide +kernel
def p_X9_lanePlace (x0 : Int32) (x1 : Int32) (x2 : Int32) : Int32 := (((x0 * 4) + x1) * 8) + x2
set_option maxRecDepth 20000 in
set_option maxHeartbeats 2000000 in
theorem ev_X9_lanePlace (d : Nat) (hlev : 0 ≤ d) (x0 : Int32) (x1 : Int32) (x2 : Int32) (M : Mem) : Ev KSx ST1 mdX9_lanePlace d [.inl x0, .inl x1, .inl x2] M (some (p_X9_lanePlace x0 x1 x2, M)) := by
  refine ev_of rfl (Nat.le_of_ble_eq_true rfl) ?_
  show CorM KSx ST1 RX9 cX9_lanePlace 3 (some .int) d 0 [(0, .inl x0), (1, .inl x1), (2, .inl x2)] [] M (some (p_X9_lanePlace x0 x1 x2, M))
  unfold p_X9_lanePlace
  refine c_iload_n (i := 0) dX9_lanePlace_0 rfl rfl ?_
  refine c_iconst dX9_lanePlace_1 (v := 4) rfl ?_
  refine c_imul dX9_lanePlace_2 ?_
  refine c_iload_n (i := 1) dX9_lanePlace_3 rfl rfl ?_
  refine c_iadd dX9_lanePlace_4 ?_
  refine c_bipush dX9_lanePlace_5 (v := 8) rfl ?_
  refine c_imul dX9_lanePlace_7 ?_
  refine c_iload_n (i := 2) dX9_lanePlace_8 rfl rfl ?_
  refine c_iadd dX9_lanePlace_9 ?_
  exact c_iret rfl dX9_lanePlace_10

abbrev mdX9_wordPlace : MD := (yX9_wordPlace, cX9_wordPlace, 3, (some .int))
theorem mw_X9_wordPlace : mdW mdX9_wordPlace := ⟨wm_X9_wordPlace, w0_RX9, by decide, by decide⟩
theorem mn_X9_wordPlace : (parseMethodDescriptor yX9_wordPlace.desc).map (fun d => d.parameters.length) = some 3 := by decide +kernel
def p_X9_wordPlace (x0 : Int32) (x1 : Int32) (x2 : Int32) : Int32 := (((x0 * 16) + x1) * 8) + x2
set_option maxRecDepth 20000 in
set_option maxHeartbeats 2000000 in
theorem ev_X9_wordPlace (d : Nat) (hlev : 0 ≤ d) (x0 : Int32) (x1 : Int32) (x2 : Int32) (M : Mem) : Ev KSx ST1 mdX9_wordPlace d [.inl x0, .inl x1, .inl x2] M (some (p_X9_wordPlace x0 x1 x2, M)) := by
  refine ev_of rfl (Nat.le_of_ble_eq_true rfl) ?_
  show CorM KSx ST1 RX9 cX9_wordPlace 3 (some .int) d 0 [(0, .inl x0), (1, .inl x1), (2, .inl x2)] [] M (some (p_X9_wordPlace x0 x1 x2, M))
  unfold p_X9_wordPlace
  refine c_iload_n (i := 0) dX9_wordPlace_0 rfl rfl ?_
  refine c_bipush dX9_wordPlace_1 (v := 16) rfl ?_
  refine c_imul dX9_wordPlace_3 ?_
  refine c_iload_n (i := 1) dX9_wordPlace_4 rfl rfl ?_
  refine c_iadd dX9_wordPlace_5 ?_
  refine c_bipush dX9_wordPlace_6 (v := 8) rfl ?_
  refine c_imul dX9_wordPlace_8 ?_
  refine c_iload_n (i := 2) dX9_wordPlace_9 rfl rfl ?_
  refine c_iadd dX9_wordPlace_10 ?_
  exact c_iret rfl dX9_wordPlace_11

abbrev mdX8_setLanes : MD := (yX8_setLanes, cX8_setLanes, 4, none)
theorem mw_X8_setLanes : mdW mdX8_setLanes := ⟨wm_X8_setLanes, w0_RX8, by decide, by decide⟩
theorem mn_X8_setLanes : (parseMethodDescriptor yX8_setLanes.desc).map (fun d => d.parameters.length) = some 2 := by decide +kernel
def l_X8_setLanes_2 (t0 : Nat) (x1 : Int32) (x2 : Int32) (K2 : Int32 × Mem → Option (Int32 × Mem)) : Int32 × Mem → Option (Int32 × Mem) := fun s => match s with
  | (x3, M) => if 8 ≤ x3 then some (0, M) else if inb (x1 + x3) 256 then wrt (up M (t0 + 2) (ix (x1 + x3)) x2) (fun M3 => K2 (x3 + 1, M3)) else none
set_option maxRecDepth 20000 in
set_option maxHeartbeats 2000000 in
theorem lo_X8_setLanes_2 (d : Nat) (hlev : 0 ≤ d) (t0 : Nat) (h_t0 : blkAt KSx t0 blk8) (x1 : Int32) (x2 : Int32) (s : Int32 × Mem) : CorM KSx ST1 RX8 cX8_setLanes 4 none d 2 [(0, .inr t0), (1, .inl x1), (2, .inl x2), (3, .inl s.1)] [] s.2 (loopC (l_X8_setLanes_2 t0 x1 x2) fuelL s) := by
  refine c_loop (L := fun s : Int32 × Mem => [(0, .inr t0), (1, .inl x1), (2, .inl x2), (3, .inl s.1)]) (Mf := fun s : Int32 × Mem => s.2) (fun K2 hK2 s => ?_) fuelL s
  obtain ⟨x3, M⟩ := s
  show CorM KSx ST1 RX8 cX8_setLanes 4 none d 2 [(0, .inr t0), (1, .inl x1), (2, .inl x2), (3, .inl x3)] [] M (l_X8_setLanes_2 t0 x1 x2 K2 (x3, M))
  unfold l_X8_setLanes_2
  refine c_iload_n (i := 3) dX8_setLanes_2 rfl rfl ?_
  refine c_bipush dX8_setLanes_3 (v := 8) rfl ?_
  refine c_icmp_ge (tgt := 23) dX8_setLanes_5 rfl (fun h1 => ?_) (fun h1 => ?_)
  · exact c_vret rfl dX8_setLanes_23
  · refine c_aload_n (i := 0) dX8_setLanes_8 rfl rfl ?_
    refine gf_RX8_15 (blk_get0 h_t0) dX8_setLanes_9 ?_
    refine c_iload_n (i := 1) dX8_setLanes_12 rfl rfl ?_
    refine c_iload_n (i := 3) dX8_setLanes_13 rfl rfl ?_
    refine c_iadd dX8_setLanes_14 ?_
    refine c_iload_n (i := 2) dX8_setLanes_15 rfl rfl ?_
    refine c_chk (fun h2 => ?_)
    refine c_iast (blk_get0 (blk_sub (C := [(20, 256)]) (i := 2) h_t0 rfl)) h2 dX8_setLanes_16 ?_
    refine c_wrt (fun M3 => ?_)
    refine c_iinc dX8_setLanes_17 rfl (v := 1) rfl (by decide) (ls2 := [(0, .inr t0), (1, .inl x1), (2, .inl x2), (3, .inl (x3 + 1))]) rfl ?_
    refine c_goto (tgt := 2) dX8_setLanes_20 rfl ?_
    refine c_keep [0, 1, 2, 3] (ls2 := [(0, .inr t0), (1, .inl x1), (2, .inl x2), (3, .inl (x3 + 1))]) rfl ?_
    exact hK2 (x3 + 1, M3)
def f_X8_setLanes (t0 : Nat) (x1 : Int32) (x2 : Int32) (M : Mem) : Option (Int32 × Mem) := loopC (l_X8_setLanes_2 t0 x1 x2) fuelL (0, M)
set_option maxRecDepth 20000 in
set_option maxHeartbeats 2000000 in
theorem ev_X8_setLanes (d : Nat) (hlev : 0 ≤ d) (t0 : Nat) (h_t0 : blkAt KSx t0 blk8) (x1 : Int32) (x2 : Int32) (M : Mem) : Ev KSx ST1 mdX8_setLanes d [.inr t0, .inl x1, .inl x2] M (f_X8_setLanes t0 x1 x2 M) := by
  refine ev_of rfl (Nat.le_of_ble_eq_true rfl) ?_
  show CorM KSx ST1 RX8 cX8_setLanes 4 none d 0 [(0, .inr t0), (1, .inl x1), (2, .inl x2)] [] M (f_X8_setLanes t0 x1 x2 M)
  unfold f_X8_setLanes
  refine c_iconst dX8_setLanes_0 (v := 0) rfl ?_
  refine c_istore_n (i := 3) dX8_setLanes_1 rfl (by decide) (ls2 := [(0, .inr t0), (1, .inl x1), (2, .inl x2), (3, .inl 0)]) rfl ?_
  refine c_keep [0, 1, 2, 3] (ls2 := [(0, .inr t0), (1, .inl x1), (2, .inl x2), (3, .inl 0)]) rfl ?_
  exact lo_X8_setLanes_2 d hlev t0 h_t0 x1 x2 (0, M)

abbrev mdX9_combine : MD := (yX9_combine, cX9_combine, 3, (some .int))
theorem mw_X9_combine : mdW mdX9_combine := ⟨wm_X9_combine, w0_RX9, by decide, by decide⟩
theorem mn_X9_combine : (parseMethodDescriptor yX9_combine.desc).map (fun d => d.parameters.length) = some 3 := by decide +kernel
def p_X9_combine (x0 : Int32) (x1 : Int32) (x2 : Int32) : Int32 := if x0 = 15 then x1 + x2 else if x0 = 16 then x1 * x2 else if x0 = 17 then (if x2 ≤ x1 then x2 else x1) else if x0 = 18 then (if x1 ≤ x2 then x2 else x1) else if x0 = 19 then x1 &&& x2 else if x0 = 20 then x1 ||| x2 else if x0 = 21 then x1 ^^^ x2 else if x0 = 22 then x1 - x2 else x1
set_option maxRecDepth 20000 in
set_option maxHeartbeats 2000000 in
theorem ev_X9_combine (d : Nat) (hlev : 0 ≤ d) (x0 : Int32) (x1 : Int32) (x2 : Int32) (M : Mem) : Ev KSx ST1 mdX9_combine d [.inl x0, .inl x1, .inl x2] M (some (p_X9_combine x0 x1 x2, M)) := by
  refine ev_of rfl (Nat.le_of_ble_eq_true rfl) ?_
  show CorM KSx ST1 RX9 cX9_combine 3 (some .int) d 0 [(0, .inl x0), (1, .inl x1), (2, .inl x2)] [] M (some (p_X9_combine x0 x1 x2, M))
  unfold p_X9_combine
  refine c_iload_n (i := 0) dX9_combine_0 rfl rfl ?_
  refine c_val (F := fun z => some (z, M)) (fun h1 => ?_) (fun h1 => ?_)
  · refine c_tableIn (tgt := 48) dX9_combine_1 (by rw [h1] <;> decide) (by rw [h1] <;> decide) (by rw [h1] <;> rfl) rfl ?_
    refine c_iload_n (i := 1) dX9_combine_48 rfl rfl ?_
    refine c_iload_n (i := 2) dX9_combine_49 rfl rfl ?_
    refine c_iadd dX9_combine_50 ?_
    exact c_iret rfl dX9_combine_51
  · refine c_val (F := fun z => some (z, M)) (fun h2 => ?_) (fun h2 => ?_)
    · refine c_tableIn (tgt := 52) dX9_combine_1 (by rw [h2] <;> decide) (by rw [h2] <;> decide) (by rw [h2] <;> rfl) rfl ?_
      refine c_iload_n (i := 1) dX9_combine_52 rfl rfl ?_
      refine c_iload_n (i := 2) dX9_combine_53 rfl rfl ?_
      refine c_imul dX9_combine_54 ?_
      exact c_iret rfl dX9_combine_55
    · refine c_val (F := fun z => some (z, M)) (fun h3 => ?_) (fun h3 => ?_)
      · refine c_tableIn (tgt := 56) dX9_combine_1 (by rw [h3] <;> decide) (by rw [h3] <;> decide) (by rw [h3] <;> rfl) rfl ?_
        refine c_iload_n (i := 1) dX9_combine_56 rfl rfl ?_
        refine c_iload_n (i := 2) dX9_combine_57 rfl rfl ?_
        have J_z4 : ∀ z4 : Int32, CorM KSx ST1 RX9 cX9_combine 3 (some .int) d 66 [] [.inl z4] M (some (z4, M)) := by
          intro z4
          exact c_iret rfl dX9_combine_66
        refine c_val (b := x2 ≤ x1) (v1 := x2) (v2 := x1) (F := fun z4 => some (z4, M)) (fun h5 => ?_) (fun h5 => ?_)
        · refine c_T h5 (c_icmp_ge (tgt := 65) dX9_combine_58 rfl (fun _ => ?_) (fun q => absurd h5 q))
          refine c_iload_n (i := 2) dX9_combine_65 rfl rfl ?_
          refine c_keep [] (ls2 := []) rfl ?_
          exact J_z4 x2
        · refine c_Fl h5 (c_icmp_ge (tgt := 65) dX9_combine_58 rfl (fun q => absurd q h5) (fun _ => ?_))
          refine c_iload_n (i := 1) dX9_combine_61 rfl rfl ?_
          refine c_goto (tgt := 66) dX9_combine_62 rfl ?_
          refine c_keep [] (ls2 := []) rfl ?_
          exact J_z4 x1
      · refine c_val (F := fun z => some (z, M)) (fun h6 => ?_) (fun h6 => ?_)
        · refine c_tableIn (tgt := 67) dX9_combine_1 (by rw [h6] <;> decide) (by rw [h6] <;> decide) (by rw [h6] <;> rfl) rfl ?_
          refine c_iload_n (i := 1) dX9_combine_67 rfl rfl ?_
          refine c_iload_n (i := 2) dX9_combine_68 rfl rfl ?_
          have J_z7 : ∀ z7 : Int32, CorM KSx ST1 RX9 cX9_combine 3 (some .int) d 77 [] [.inl z7] M (some (z7, M)) := by
            intro z7
            exact c_iret rfl dX9_combine_77
          refine c_val (b := x1 ≤ x2) (v1 := x2) (v2 := x1) (F := fun z7 => some (z7, M)) (fun h8 => ?_) (fun h8 => ?_)
          · refine c_T h8 (c_icmp_le (tgt := 76) dX9_combine_69 rfl (fun _ => ?_) (fun q => absurd h8 q))
            refine c_iload_n (i := 2) dX9_combine_76 rfl rfl ?_
            refine c_keep [] (ls2 := []) rfl ?_
            exact J_z7 x2
          · refine c_Fl h8 (c_icmp_le (tgt := 76) dX9_combine_69 rfl (fun q => absurd q h8) (fun _ => ?_))
            refine c_iload_n (i := 1) dX9_combine_72 rfl rfl ?_
            refine c_goto (tgt := 77) dX9_combine_73 rfl ?_
            refine c_keep [] (ls2 := []) rfl ?_
            exact J_z7 x1
        · refine c_val (F := fun z => some (z, M)) (fun h9 => ?_) (fun h9 => ?_)
          · refine c_tableIn (tgt := 78) dX9_combine_1 (by rw [h9] <;> decide) (by rw [h9] <;> decide) (by rw [h9] <;> rfl) rfl ?_
            refine c_iload_n (i := 1) dX9_combine_78 rfl rfl ?_
            refine c_iload_n (i := 2) dX9_combine_79 rfl rfl ?_
            refine c_iand dX9_combine_80 ?_
            exact c_iret rfl dX9_combine_81
          · refine c_val (F := fun z => some (z, M)) (fun h10 => ?_) (fun h10 => ?_)
            · refine c_tableIn (tgt := 82) dX9_combine_1 (by rw [h10] <;> decide) (by rw [h10] <;> decide) (by rw [h10] <;> rfl) rfl ?_
              refine c_iload_n (i := 1) dX9_combine_82 rfl rfl ?_
              refine c_iload_n (i := 2) dX9_combine_83 rfl rfl ?_
              refine c_ior dX9_combine_84 ?_
              exact c_iret rfl dX9_combine_85
            · refine c_val (F := fun z => some (z, M)) (fun h11 => ?_) (fun h11 => ?_)
              · refine c_tableIn (tgt := 86) dX9_combine_1 (by rw [h11] <;> decide) (by rw [h11] <;> decide) (by rw [h11] <;> rfl) rfl ?_
                refine c_iload_n (i := 1) dX9_combine_86 rfl rfl ?_
                refine c_iload_n (i := 2) dX9_combine_87 rfl rfl ?_
                refine c_ixor dX9_combine_88 ?_
                exact c_iret rfl dX9_combine_89
              · refine c_val (F := fun z => some (z, M)) (fun h12 => ?_) (fun h12 => ?_)
                · refine c_tableIn (tgt := 90) dX9_combine_1 (by rw [h12] <;> decide) (by rw [h12] <;> decide) (by rw [h12] <;> rfl) rfl ?_
                  refine c_iload_n (i := 1) dX9_combine_90 rfl rfl ?_
                  refine c_iload_n (i := 2) dX9_combine_91 rfl rfl ?_
                  refine c_isub dX9_combine_92 ?_
                  exact c_iret rfl dX9_combine_93
                · refine c_tableOut (tgt := 94) dX9_combine_1 (sw_tab 15 8 (ks := [15, 16, 17, 18, 19, 20, 21, 22]) (List.forall_mem_cons.mpr ⟨h1, (List.forall_mem_cons.mpr ⟨h2, (List.forall_mem_cons.mpr ⟨h3, (List.forall_mem_cons.mpr ⟨h6, (List.forall_mem_cons.mpr ⟨h9, (List.forall_mem_cons.mpr ⟨h10, (List.forall_mem_cons.mpr ⟨h11, (List.forall_mem_cons.mpr ⟨h12, (fun _ q => absurd q List.not_mem_nil)⟩)⟩)⟩)⟩)⟩)⟩)⟩)⟩) (by decide)) rfl ?_
                  refine c_iload_n (i := 1) dX9_combine_94 rfl rfl ?_
                  exact c_iret rfl dX9_combine_95

abbrev mdX8_combineRegisters : MD := (yX8_combineRegisters, cX8_combineRegisters, 8, none)
theorem mw_X8_combineRegisters : mdW mdX8_combineRegisters := ⟨wm_X8_combineRegisters, w0_RX8, by decide, by decide⟩
theorem mn_X8_combineRegisters : (parseMethodDescriptor yX8_combineRegisters.desc).map (fun d => d.parameters.length) = some 5 := by decide +kernel
def l_X8_combineRegisters_11 (t0 : Nat) (t1 : Nat) (x3 : Int32) (x4 : Int32) (x5 : Int32) (x6 : Int32) (K11 : Int32 × Mem → Option (Int32 × Mem)) : Int32 × Mem → Option (Int32 × Mem) := fun s => match s with
  | (x7, M) => if (M t1 2) ≤ x7 then some (0, M) else if inb (x4 + x7) 256 then if inb (x5 + x7) 256 then if inb (x3 + x7) 256 then wrt (up M (t0 + 2) (ix (x3 + x7)) (p_X9_combine x6 (M (t0 + 2) (ix (x4 + x7))) (M (t0 + 2) (ix (x5 + x7))))) (fun M6 => K11 (x7 + 1, M6)) else none else none else none
set_option maxRecDepth 20000 in
set_option maxHeartbeats 2000000 in
theorem lo_X8_combineRegisters_11 (d : Nat) (hlev : 1 ≤ d) (t0 : Nat) (h_t0 : blkAt KSx t0 blk8) (t1 : Nat) (h_t1 : blkAt KSx t1 blk4) (x3 : Int32) (x4 : Int32) (x5 : Int32) (x6 : Int32) (s : Int32 × Mem) : CorM KSx ST1 RX8 cX8_combineRegisters 8 none d 11 [(0, .inr t0), (1, .inr t1), (3, .inl x3), (4, .inl x4), (5, .inl x5), (6, .inl x6), (7, .inl s.1)] [] s.2 (loopC (l_X8_combineRegisters_11 t0 t1 x3 x4 x5 x6) fuelL s) := by
  refine c_loop (L := fun s : Int32 × Mem => [(0, .inr t0), (1, .inr t1), (3, .inl x3), (4, .inl x4), (5, .inl x5), (6, .inl x6), (7, .inl s.1)]) (Mf := fun s : Int32 × Mem => s.2) (fun K11 hK11 s => ?_) fuelL s
  obtain ⟨x7, M⟩ := s
  show CorM KSx ST1 RX8 cX8_combineRegisters 8 none d 11 [(0, .inr t0), (1, .inr t1), (3, .inl x3), (4, .inl x4), (5, .inl x5), (6, .inl x6), (7, .inl x7)] [] M (l_X8_combineRegisters_11 t0 t1 x3 x4 x5 x6 K11 (x7, M))
  unfold l_X8_combineRegisters_11
  refine c_iload dX8_combineRegisters_11 rfl ?_
  refine c_aload_n (i := 1) dX8_combineRegisters_13 rfl rfl ?_
  refine gf_RX8_91 (blk_get0 h_t1) dX8_combineRegisters_14 ?_
  refine c_icmp_ge (tgt := 60) dX8_combineRegisters_17 rfl (fun h2 => ?_) (fun h2 => ?_)
  · exact c_vret rfl dX8_combineRegisters_60
  · refine c_aload_n (i := 0) dX8_combineRegisters_20 rfl rfl ?_
    refine gf_RX8_15 (blk_get0 h_t0) dX8_combineRegisters_21 ?_
    refine c_iload_n (i := 3) dX8_combineRegisters_24 rfl rfl ?_
    refine c_iload dX8_combineRegisters_25 rfl ?_
    refine c_iadd dX8_combineRegisters_27 ?_
    refine c_iload dX8_combineRegisters_28 rfl ?_
    refine c_aload_n (i := 0) dX8_combineRegisters_30 rfl rfl ?_
    refine gf_RX8_15 (blk_get0 h_t0) dX8_combineRegisters_31 ?_
    refine c_iload dX8_combineRegisters_34 rfl ?_
    refine c_iload dX8_combineRegisters_36 rfl ?_
    refine c_iadd dX8_combineRegisters_38 ?_
    refine c_chk (fun h3 => ?_)
    refine c_iald (blk_get0 (blk_sub (C := [(20, 256)]) (i := 2) h_t0 rfl)) h3 dX8_combineRegisters_39 ?_
    refine c_aload_n (i := 0) dX8_combineRegisters_40 rfl rfl ?_
    refine gf_RX8_15 (blk_get0 h_t0) dX8_combineRegisters_41 ?_
    refine c_iload dX8_combineRegisters_44 rfl ?_
    refine c_iload dX8_combineRegisters_46 rfl ?_
    refine c_iadd dX8_combineRegisters_48 ?_
    refine c_chk (fun h4 => ?_)
    refine c_iald (blk_get0 (blk_sub (C := [(20, 256)]) (i := 2) h_t0 rfl)) h4 dX8_combineRegisters_49 ?_
    refine c_callNp (as := [.inl x6, .inl (M (t0 + 2) (ix (x4 + x7))), .inl (M (t0 + 2) (ix (x5 + x7)))]) (rs := [.inl (x3 + x7), .inr (t0 + 2)]) (ev_X9_combine 0 (Nat.le_refl _) x6 (M (t0 + 2) (ix (x4 + x7))) (M (t0 + 2) (ix (x5 + x7))) M) rfl (Nat.lt_of_lt_of_le (by decide) hlev) mw_X9_combine ws_X9_combine wl_RX8_95 mn_X9_combine rfl (by decide) (Nat.le_of_ble_eq_true rfl) ⟨_, rfl⟩ dX8_combineRegisters_50 ?_
    refine c_chk (fun h5 => ?_)
    refine c_iast (blk_get0 (blk_sub (C := [(20, 256)]) (i := 2) h_t0 rfl)) h5 dX8_combineRegisters_53 ?_
    refine c_wrt (fun M6 => ?_)
    refine c_iinc dX8_combineRegisters_54 rfl (v := 1) rfl (by decide) (ls2 := [(0, .inr t0), (1, .inr t1), (3, .inl x3), (4, .inl x4), (5, .inl x5), (6, .inl x6), (7, .inl (x7 + 1))]) rfl ?_
    refine c_goto (tgt := 11) dX8_combineRegisters_57 rfl ?_
    refine c_keep [0, 1, 3, 4, 5, 6, 7] (ls2 := [(0, .inr t0), (1, .inr t1), (3, .inl x3), (4, .inl x4), (5, .inl x5), (6, .inl x6), (7, .inl (x7 + 1))]) rfl ?_
    exact hK11 (x7 + 1, M6)
def f_X8_combineRegisters (t0 : Nat) (t1 : Nat) (x2 : Int32) (x3 : Int32) (x4 : Int32) (x5 : Int32) (M : Mem) : Option (Int32 × Mem) := if inb x2 60 then loopC (l_X8_combineRegisters_11 t0 t1 x3 x4 x5 (M (t1 + 6) (ix x2))) fuelL (0, M) else none
set_option maxRecDepth 20000 in
set_option maxHeartbeats 2000000 in
theorem ev_X8_combineRegisters (d : Nat) (hlev : 1 ≤ d) (t0 : Nat) (h_t0 : blkAt KSx t0 blk8) (t1 : Nat) (h_t1 : blkAt KSx t1 blk4) (x2 : Int32) (x3 : Int32) (x4 : Int32) (x5 : Int32) (M : Mem) : Ev KSx ST1 mdX8_combineRegisters d [.inr t0, .inr t1, .inl x2, .inl x3, .inl x4, .inl x5] M (f_X8_combineRegisters t0 t1 x2 x3 x4 x5 M) := by
  refine ev_of rfl (Nat.le_of_ble_eq_true rfl) ?_
  show CorM KSx ST1 RX8 cX8_combineRegisters 8 none d 0 [(0, .inr t0), (1, .inr t1), (2, .inl x2), (3, .inl x3), (4, .inl x4), (5, .inl x5)] [] M (f_X8_combineRegisters t0 t1 x2 x3 x4 x5 M)
  unfold f_X8_combineRegisters
  refine c_aload_n (i := 1) dX8_combineRegisters_0 rfl rfl ?_
  refine gf_RX8_88 (blk_get0 h_t1) dX8_combineRegisters_1 ?_
  refine c_iload_n (i := 2) dX8_combineRegisters_4 rfl rfl ?_
  refine c_chk (fun h1 => ?_)
  refine c_iald (blk_get0 (blk_sub (C := [(20, 60)]) (i := 6) h_t1 rfl)) h1 dX8_combineRegisters_5 ?_
  refine c_istore dX8_combineRegisters_6 (by decide) (ls2 := [(0, .inr t0), (1, .inr t1), (2, .inl x2), (3, .inl x3), (4, .inl x4), (5, .inl x5), (6, .inl (M (t1 + 6) (ix x2)))]) rfl ?_
  refine c_iconst dX8_combineRegisters_8 (v := 0) rfl ?_
  refine c_istore dX8_combineRegisters_9 (by decide) (ls2 := [(0, .inr t0), (1, .inr t1), (2, .inl x2), (3, .inl x3), (4, .inl x4), (5, .inl x5), (6, .inl (M (t1 + 6) (ix x2))), (7, .inl 0)]) rfl ?_
  refine c_keep [0, 1, 3, 4, 5, 6, 7] (ls2 := [(0, .inr t0), (1, .inr t1), (3, .inl x3), (4, .inl x4), (5, .inl x5), (6, .inl (M (t1 + 6) (ix x2))), (7, .inl 0)]) rfl ?_
  exact lo_X8_combineRegisters_11 d hlev t0 h_t0 t1 h_t1 x3 x4 x5 (M (t1 + 6) (ix x2)) (0, M)

abbrev mdX8_combineLanes : MD := (yX8_combineLanes, cX8_combineLanes, 6, none)
theorem mw_X8_combineLanes : mdW mdX8_combineLanes := ⟨wm_X8_combineLanes, w0_RX8, by decide, by decide⟩
theorem mn_X8_combineLanes : (parseMethodDescriptor yX8_combineLanes.desc).map (fun d => d.parameters.length) = some 3 := by decide +kernel
def l_X8_combineLanes_11 (t0 : Nat) (t1 : Nat) (x3 : Int32) (x4 : Int32) (K11 : Int32 × Mem → Option (Int32 × Mem)) : Int32 × Mem → Option (Int32 × Mem) := fun s => match s with
  | (x5, M) => if (M t1 2) ≤ x5 then some (0, M) else if inb x3 256 then if inb (x3 + x5) 256 then if inb x3 256 then wrt (up M (t0 + 2) (ix x3) (p_X9_combine x4 (M (t0 + 2) (ix x3)) (M (t0 + 2) (ix (x3 + x5))))) (fun M6 => K11 (x5 + 1, M6)) else none else none else none
set_option maxRecDepth 20000 in
set_option maxHeartbeats 2000000 in
theorem lo_X8_combineLanes_11 (d : Nat) (hlev : 1 ≤ d) (t0 : Nat) (h_t0 : blkAt KSx t0 blk8) (t1 : Nat) (h_t1 : blkAt KSx t1 blk4) (x3 : Int32) (x4 : Int32) (s : Int32 × Mem) : CorM KSx ST1 RX8 cX8_combineLanes 6 none d 11 [(0, .inr t0), (1, .inr t1), (3, .inl x3), (4, .inl x4), (5, .inl s.1)] [] s.2 (loopC (l_X8_combineLanes_11 t0 t1 x3 x4) fuelL s) := by
  refine c_loop (L := fun s : Int32 × Mem => [(0, .inr t0), (1, .inr t1), (3, .inl x3), (4, .inl x4), (5, .inl s.1)]) (Mf := fun s : Int32 × Mem => s.2) (fun K11 hK11 s => ?_) fuelL s
  obtain ⟨x5, M⟩ := s
  show CorM KSx ST1 RX8 cX8_combineLanes 6 none d 11 [(0, .inr t0), (1, .inr t1), (3, .inl x3), (4, .inl x4), (5, .inl x5)] [] M (l_X8_combineLanes_11 t0 t1 x3 x4 K11 (x5, M))
  unfold l_X8_combineLanes_11
  refine c_iload dX8_combineLanes_11 rfl ?_
  refine c_aload_n (i := 1) dX8_combineLanes_13 rfl rfl ?_
  refine gf_RX8_91 (blk_get0 h_t1) dX8_combineLanes_14 ?_
  refine c_icmp_ge (tgt := 52) dX8_combineLanes_17 rfl (fun h2 => ?_) (fun h2 => ?_)
  · exact c_vret rfl dX8_combineLanes_52
  · refine c_aload_n (i := 0) dX8_combineLanes_20 rfl rfl ?_
    refine gf_RX8_15 (blk_get0 h_t0) dX8_combineLanes_21 ?_
    refine c_iload_n (i := 3) dX8_combineLanes_24 rfl rfl ?_
    refine c_iload dX8_combineLanes_25 rfl ?_
    refine c_aload_n (i := 0) dX8_combineLanes_27 rfl rfl ?_
    refine gf_RX8_15 (blk_get0 h_t0) dX8_combineLanes_28 ?_
    refine c_iload_n (i := 3) dX8_combineLanes_31 rfl rfl ?_
    refine c_chk (fun h3 => ?_)
    refine c_iald (blk_get0 (blk_sub (C := [(20, 256)]) (i := 2) h_t0 rfl)) h3 dX8_combineLanes_32 ?_
    refine c_aload_n (i := 0) dX8_combineLanes_33 rfl rfl ?_
    refine gf_RX8_15 (blk_get0 h_t0) dX8_combineLanes_34 ?_
    refine c_iload_n (i := 3) dX8_combineLanes_37 rfl rfl ?_
    refine c_iload dX8_combineLanes_38 rfl ?_
    refine c_iadd dX8_combineLanes_40 ?_
    refine c_chk (fun h4 => ?_)
    refine c_iald (blk_get0 (blk_sub (C := [(20, 256)]) (i := 2) h_t0 rfl)) h4 dX8_combineLanes_41 ?_
    refine c_callNp (as := [.inl x4, .inl (M (t0 + 2) (ix x3)), .inl (M (t0 + 2) (ix (x3 + x5)))]) (rs := [.inl x3, .inr (t0 + 2)]) (ev_X9_combine 0 (Nat.le_refl _) x4 (M (t0 + 2) (ix x3)) (M (t0 + 2) (ix (x3 + x5))) M) rfl (Nat.lt_of_lt_of_le (by decide) hlev) mw_X9_combine ws_X9_combine wl_RX8_95 mn_X9_combine rfl (by decide) (Nat.le_of_ble_eq_true rfl) ⟨_, rfl⟩ dX8_combineLanes_42 ?_
    refine c_chk (fun h5 => ?_)
    refine c_iast (blk_get0 (blk_sub (C := [(20, 256)]) (i := 2) h_t0 rfl)) h5 dX8_combineLanes_45 ?_
    refine c_wrt (fun M6 => ?_)
    refine c_iinc dX8_combineLanes_46 rfl (v := 1) rfl (by decide) (ls2 := [(0, .inr t0), (1, .inr t1), (3, .inl x3), (4, .inl x4), (5, .inl (x5 + 1))]) rfl ?_
    refine c_goto (tgt := 11) dX8_combineLanes_49 rfl ?_
    refine c_keep [0, 1, 3, 4, 5] (ls2 := [(0, .inr t0), (1, .inr t1), (3, .inl x3), (4, .inl x4), (5, .inl (x5 + 1))]) rfl ?_
    exact hK11 (x5 + 1, M6)
def f_X8_combineLanes (t0 : Nat) (t1 : Nat) (x2 : Int32) (x3 : Int32) (M : Mem) : Option (Int32 × Mem) := if inb x2 60 then loopC (l_X8_combineLanes_11 t0 t1 x3 (M (t1 + 6) (ix x2))) fuelL (1, M) else none
set_option maxRecDepth 20000 in
set_option maxHeartbeats 2000000 in
theorem ev_X8_combineLanes (d : Nat) (hlev : 1 ≤ d) (t0 : Nat) (h_t0 : blkAt KSx t0 blk8) (t1 : Nat) (h_t1 : blkAt KSx t1 blk4) (x2 : Int32) (x3 : Int32) (M : Mem) : Ev KSx ST1 mdX8_combineLanes d [.inr t0, .inr t1, .inl x2, .inl x3] M (f_X8_combineLanes t0 t1 x2 x3 M) := by
  refine ev_of rfl (Nat.le_of_ble_eq_true rfl) ?_
  show CorM KSx ST1 RX8 cX8_combineLanes 6 none d 0 [(0, .inr t0), (1, .inr t1), (2, .inl x2), (3, .inl x3)] [] M (f_X8_combineLanes t0 t1 x2 x3 M)
  unfold f_X8_combineLanes
  refine c_aload_n (i := 1) dX8_combineLanes_0 rfl rfl ?_
  refine gf_RX8_88 (blk_get0 h_t1) dX8_combineLanes_1 ?_
  refine c_iload_n (i := 2) dX8_combineLanes_4 rfl rfl ?_
  refine c_chk (fun h1 => ?_)
  refine c_iald (blk_get0 (blk_sub (C := [(20, 60)]) (i := 6) h_t1 rfl)) h1 dX8_combineLanes_5 ?_
  refine c_istore dX8_combineLanes_6 (by decide) (ls2 := [(0, .inr t0), (1, .inr t1), (2, .inl x2), (3, .inl x3), (4, .inl (M (t1 + 6) (ix x2)))]) rfl ?_
  refine c_iconst dX8_combineLanes_8 (v := 1) rfl ?_
  refine c_istore dX8_combineLanes_9 (by decide) (ls2 := [(0, .inr t0), (1, .inr t1), (2, .inl x2), (3, .inl x3), (4, .inl (M (t1 + 6) (ix x2))), (5, .inl 1)]) rfl ?_
  refine c_keep [0, 1, 3, 4, 5] (ls2 := [(0, .inr t0), (1, .inr t1), (3, .inl x3), (4, .inl (M (t1 + 6) (ix x2))), (5, .inl 1)]) rfl ?_
  exact lo_X8_combineLanes_11 d hlev t0 h_t0 t1 h_t1 x3 (M (t1 + 6) (ix x2)) (1, M)

abbrev mdX8_execute : MD := (yX8_execute, cX8_execute, 8, none)
theorem mw_X8_execute : mdW mdX8_execute := ⟨wm_X8_execute, w0_RX8, by decide, by decide⟩
theorem mn_X8_execute : (parseMethodDescriptor yX8_execute.desc).map (fun d => d.parameters.length) = some 4 := by decide +kernel
def j_X8_execute_244 (M : Mem) : Option (Int32 × Mem) := some (0, M)
set_option maxRecDepth 20000 in
set_option maxHeartbeats 2000000 in
theorem jo_X8_execute_244 (d : Nat) (hlev : 2 ≤ d) (M : Mem) : CorM KSx ST1 RX8 cX8_execute 8 none d 244 [] [] M (j_X8_execute_244 M) := by
  unfold j_X8_execute_244
  exact c_vret rfl dX8_execute_244
def f_X8_execute (t0 : Nat) (t1 : Nat) (x2 : Int32) (x3 : Int32) (x4 : Int32) (M : Mem) : Option (Int32 × Mem) := if inb x2 60 then if inb x2 60 then if inb x2 60 then if inb x2 60 then if (M (t1 + 5) (ix x2)) = 8 then if x3 = x4 then j_X8_execute_244 M else bnd (f_X8_combineRegisters t0 t1 x2 (p_X9_lanePlace x4 (M (t1 + 7) (ix x2)) 0) (p_X9_lanePlace x4 (M (t1 + 7) (ix x2)) 0) (p_X9_lanePlace x3 (M (t1 + 7) (ix x2)) 0) M) (fun _ M8 => j_X8_execute_244 M8) else if (M (t1 + 5) (ix x2)) = 9 then bnd (f_X9_copyWords (t0 + 1) (p_X9_wordPlace x3 (M (t1 + 8) (ix x2)) 0) (t0 + 2) (p_X9_lanePlace x3 (M (t1 + 7) (ix x2)) 0) M) (fun _ M11 => j_X8_execute_244 M11) else if (M (t1 + 5) (ix x2)) = 10 then bnd (f_X9_copyWords (t0 + 2) (p_X9_lanePlace x3 (M (t1 + 7) (ix x2)) 0) (t0 + 1) (p_X9_wordPlace x3 (M (t1 + 8) (ix x2)) 0) M) (fun _ M14 => j_X8_execute_244 M14) else if (M (t1 + 5) (ix x2)) = 11 then bnd (f_X8_setLanes t0 (p_X9_lanePlace x3 (M (t1 + 7) (ix x2)) 0) (M (t1 + 8) (ix x2)) M) (fun _ M17 => j_X8_execute_244 M17) else if (M (t1 + 5) (ix x2)) = 12 then bnd (f_X8_combineLanes t0 t1 x2 (p_X9_lanePlace x3 (M (t1 + 7) (ix x2)) 0) M) (fun _ M20 => j_X8_execute_244 M20) else if (M (t1 + 5) (ix x2)) = 13 then bnd (f_X9_copyWords (t0 + 2) (p_X9_lanePlace x4 (M (t1 + 7) (ix x2)) 0) (t0 + 2) (p_X9_lanePlace x3 (M (t1 + 7) (ix x2)) 0) M) (fun _ M23 => j_X8_execute_244 M23) else if (M (t1 + 5) (ix x2)) = 34 then if inb x2 60 then bnd (f_X8_combineRegisters t0 t1 x2 (p_X9_lanePlace x3 (M (t1 + 7) (ix x2)) 0) (p_X9_lanePlace x3 (M (t1 + 8) (ix x2)) 0) (p_X9_lanePlace x3 (M (t1 + 9) (ix x2)) 0) M) (fun _ M27 => j_X8_execute_244 M27) else none else j_X8_execute_244 M else none else none else none else none
set_option maxRecDepth 20000 in
set_option maxHeartbeats 2000000 in
theorem ev_X8_execute (d : Nat) (hlev : 2 ≤ d) (t0 : Nat) (h_t0 : blkAt KSx t0 blk8) (t1 : Nat) (h_t1 : blkAt KSx t1 blk4) (x2 : Int32) (x3 : Int32) (x4 : Int32) (M : Mem) : Ev KSx ST1 mdX8_execute d [.inr t0, .inr t1, .inl x2, .inl x3, .inl x4] M (f_X8_execute t0 t1 x2 x3 x4 M) := by
  refine ev_of rfl (Nat.le_of_ble_eq_true rfl) ?_
  show CorM KSx ST1 RX8 cX8_execute 8 none d 0 [(0, .inr t0), (1, .inr t1), (2, .inl x2), (3, .inl x3), (4, .inl x4)] [] M (f_X8_execute t0 t1 x2 x3 x4 M)
  unfold f_X8_execute
  refine c_aload_n (i := 1) dX8_execute_0 rfl rfl ?_
  refine gf_RX8_53 (blk_get0 h_t1) dX8_execute_1 ?_
  refine c_iload_n (i := 2) dX8_execute_4 rfl rfl ?_
  refine c_chk (fun h1 => ?_)
  refine c_iald (blk_get0 (blk_sub (C := [(20, 60)]) (i := 8) h_t1 rfl)) h1 dX8_execute_5 ?_
  refine c_istore dX8_execute_6 (by decide) (ls2 := [(0, .inr t0), (1, .inr t1), (2, .inl x2), (3, .inl x3), (4, .inl x4), (5, .inl (M (t1 + 8) (ix x2)))]) rfl ?_
  refine c_iload_n (i := 3) dX8_execute_8 rfl rfl ?_
  refine c_aload_n (i := 1) dX8_execute_9 rfl rfl ?_
  refine gf_RX8_56 (blk_get0 h_t1) dX8_execute_10 ?_
  refine c_iload_n (i := 2) dX8_execute_13 rfl rfl ?_
  refine c_chk (fun h2 => ?_)
  refine c_iald (blk_get0 (blk_sub (C := [(20, 60)]) (i := 7) h_t1 rfl)) h2 dX8_execute_14 ?_
  refine c_iconst dX8_execute_15 (v := 0) rfl ?_
  refine c_callNp (as := [.inl x3, .inl (M (t1 + 7) (ix x2)), .inl 0]) (rs := []) (ev_X9_lanePlace 0 (Nat.le_refl _) x3 (M (t1 + 7) (ix x2)) 0 M) rfl (Nat.lt_of_lt_of_le (by decide) hlev) mw_X9_lanePlace ws_X9_lanePlace wl_RX8_59 mn_X9_lanePlace rfl (by decide) (Nat.le_of_ble_eq_true rfl) ⟨_, rfl⟩ dX8_execute_16 ?_
  refine c_istore dX8_execute_19 (by decide) (ls2 := [(0, .inr t0), (1, .inr t1), (2, .inl x2), (3, .inl x3), (4, .inl x4), (5, .inl (M (t1 + 8) (ix x2))), (6, .inl (p_X9_lanePlace x3 (M (t1 + 7) (ix x2)) 0))]) rfl ?_
  refine c_iload dX8_execute_21 rfl ?_
  refine c_aload_n (i := 1) dX8_execute_23 rfl rfl ?_
  refine gf_RX8_56 (blk_get0 h_t1) dX8_execute_24 ?_
  refine c_iload_n (i := 2) dX8_execute_27 rfl rfl ?_
  refine c_chk (fun h3 => ?_)
  refine c_iald (blk_get0 (blk_sub (C := [(20, 60)]) (i := 7) h_t1 rfl)) h3 dX8_execute_28 ?_
  refine c_iconst dX8_execute_29 (v := 0) rfl ?_
  refine c_callNp (as := [.inl x4, .inl (M (t1 + 7) (ix x2)), .inl 0]) (rs := []) (ev_X9_lanePlace 0 (Nat.le_refl _) x4 (M (t1 + 7) (ix x2)) 0 M) rfl (Nat.lt_of_lt_of_le (by decide) hlev) mw_X9_lanePlace ws_X9_lanePlace wl_RX8_59 mn_X9_lanePlace rfl (by decide) (Nat.le_of_ble_eq_true rfl) ⟨_, rfl⟩ dX8_execute_30 ?_
  refine c_istore dX8_execute_33 (by decide) (ls2 := [(0, .inr t0), (1, .inr t1), (2, .inl x2), (3, .inl x3), (4, .inl x4), (5, .inl (M (t1 + 8) (ix x2))), (6, .inl (p_X9_lanePlace x3 (M (t1 + 7) (ix x2)) 0)), (7, .inl (p_X9_lanePlace x4 (M (t1 + 7) (ix x2)) 0))]) rfl ?_
  refine c_aload_n (i := 1) dX8_execute_35 rfl rfl ?_
  refine gf_RX8_63 (blk_get0 h_t1) dX8_execute_36 ?_
  refine c_iload_n (i := 2) dX8_execute_39 rfl rfl ?_
  refine c_chk (fun h4 => ?_)
  refine c_iald (blk_get0 (blk_sub (C := [(20, 60)]) (i := 5) h_t1 rfl)) h4 dX8_execute_40 ?_
  refine c_ite (fun h5 => ?_) (fun h5 => ?_)
  · refine c_lookup (tgt := 205) dX8_execute_41 (by decide) (by rw [h5] <;> rfl) rfl ?_
    refine c_iload_n (i := 3) dX8_execute_205 rfl rfl ?_
    refine c_iload dX8_execute_206 rfl ?_
    refine c_icmp_eq (tgt := 244) dX8_execute_208 rfl (fun h6 => ?_) (fun h6 => ?_)
    · refine c_keep [] (ls2 := []) rfl ?_
      exact jo_X8_execute_244 d hlev M
    · refine c_aload_n (i := 0) dX8_execute_211 rfl rfl ?_
      refine c_aload_n (i := 1) dX8_execute_212 rfl rfl ?_
      refine c_iload_n (i := 2) dX8_execute_213 rfl rfl ?_
      refine c_iload dX8_execute_214 rfl ?_
      refine c_iload dX8_execute_216 rfl ?_
      refine c_iload dX8_execute_218 rfl ?_
      refine c_callVv (as := [.inr t1, .inl x2, .inl (p_X9_lanePlace x4 (M (t1 + 7) (ix x2)) 0), .inl (p_X9_lanePlace x4 (M (t1 + 7) (ix x2)) 0), .inl (p_X9_lanePlace x3 (M (t1 + 7) (ix x2)) 0)]) (rs := []) (ev_X8_combineRegisters 1 (Nat.le_refl _) t0 h_t0 t1 h_t1 x2 (p_X9_lanePlace x4 (M (t1 + 7) (ix x2)) 0) (p_X9_lanePlace x4 (M (t1 + 7) (ix x2)) 0) (p_X9_lanePlace x3 (M (t1 + 7) (ix x2)) 0) M) rfl (Nat.lt_of_lt_of_le (by decide) hlev) mw_X8_combineRegisters wi_X8_combineRegisters wv_X8_combineRegisters (blk_get0 h_t0) (by decide) rfl wl_RX8_80 mn_X8_combineRegisters rfl (by decide) (Nat.le_of_ble_eq_true rfl) rfl dX8_execute_220 (fun v7 M8 _ => ?_)
      refine c_goto (tgt := 244) dX8_execute_223 rfl ?_
      refine c_keep [] (ls2 := []) rfl ?_
      exact jo_X8_execute_244 d hlev M8
  · refine c_ite (fun h9 => ?_) (fun h9 => ?_)
    · refine c_lookup (tgt := 108) dX8_execute_41 (by decide) (by rw [h9] <;> rfl) rfl ?_
      refine c_aload_n (i := 0) dX8_execute_108 rfl rfl ?_
      refine gf_RX8_9 (blk_get0 h_t0) dX8_execute_109 ?_
      refine c_iload_n (i := 3) dX8_execute_112 rfl rfl ?_
      refine c_iload dX8_execute_113 rfl ?_
      refine c_iconst dX8_execute_115 (v := 0) rfl ?_
      refine c_callNp (as := [.inl x3, .inl (M (t1 + 8) (ix x2)), .inl 0]) (rs := [.inr (t0 + 1)]) (ev_X9_wordPlace 0 (Nat.le_refl _) x3 (M (t1 + 8) (ix x2)) 0 M) rfl (Nat.lt_of_lt_of_le (by decide) hlev) mw_X9_wordPlace ws_X9_wordPlace wl_RX8_66 mn_X9_wordPlace rfl (by decide) (Nat.le_of_ble_eq_true rfl) ⟨_, rfl⟩ dX8_execute_116 ?_
      refine c_aload_n (i := 0) dX8_execute_119 rfl rfl ?_
      refine gf_RX8_15 (blk_get0 h_t0) dX8_execute_120 ?_
      refine c_iload dX8_execute_123 rfl ?_
      refine c_callNv (as := [.inr (t0 + 1), .inl (p_X9_wordPlace x3 (M (t1 + 8) (ix x2)) 0), .inr (t0 + 2), .inl (p_X9_lanePlace x3 (M (t1 + 7) (ix x2)) 0)]) (rs := []) (ev_X9_copyWords 1 (Nat.le_refl _) (t0 + 1) (arrp_of (blk_get0 (blk_sub (C := [(20, 1024)]) (i := 1) h_t0 rfl))) (p_X9_wordPlace x3 (M (t1 + 8) (ix x2)) 0) (t0 + 2) (arrp_of (blk_get0 (blk_sub (C := [(20, 256)]) (i := 2) h_t0 rfl))) (p_X9_lanePlace x3 (M (t1 + 7) (ix x2)) 0) M) rfl (Nat.lt_of_lt_of_le (by decide) hlev) mw_X9_copyWords ws_X9_copyWords wl_RX8_69 mn_X9_copyWords rfl (by decide) (Nat.le_of_ble_eq_true rfl) rfl dX8_execute_125 (fun v10 M11 _ => ?_)
      refine c_goto (tgt := 244) dX8_execute_128 rfl ?_
      refine c_keep [] (ls2 := []) rfl ?_
      exact jo_X8_execute_244 d hlev M11
    · refine c_ite (fun h12 => ?_) (fun h12 => ?_)
      · refine c_lookup (tgt := 131) dX8_execute_41 (by decide) (by rw [h12] <;> rfl) rfl ?_
        refine c_aload_n (i := 0) dX8_execute_131 rfl rfl ?_
        refine gf_RX8_15 (blk_get0 h_t0) dX8_execute_132 ?_
        refine c_iload dX8_execute_135 rfl ?_
        refine c_aload_n (i := 0) dX8_execute_137 rfl rfl ?_
        refine gf_RX8_9 (blk_get0 h_t0) dX8_execute_138 ?_
        refine c_iload_n (i := 3) dX8_execute_141 rfl rfl ?_
        refine c_iload dX8_execute_142 rfl ?_
        refine c_iconst dX8_execute_144 (v := 0) rfl ?_
        refine c_callNp (as := [.inl x3, .inl (M (t1 + 8) (ix x2)), .inl 0]) (rs := [.inr (t0 + 1), .inl (p_X9_lanePlace x3 (M (t1 + 7) (ix x2)) 0), .inr (t0 + 2)]) (ev_X9_wordPlace 0 (Nat.le_refl _) x3 (M (t1 + 8) (ix x2)) 0 M) rfl (Nat.lt_of_lt_of_le (by decide) hlev) mw_X9_wordPlace ws_X9_wordPlace wl_RX8_66 mn_X9_wordPlace rfl (by decide) (Nat.le_of_ble_eq_true rfl) ⟨_, rfl⟩ dX8_execute_145 ?_
        refine c_callNv (as := [.inr (t0 + 2), .inl (p_X9_lanePlace x3 (M (t1 + 7) (ix x2)) 0), .inr (t0 + 1), .inl (p_X9_wordPlace x3 (M (t1 + 8) (ix x2)) 0)]) (rs := []) (ev_X9_copyWords 1 (Nat.le_refl _) (t0 + 2) (arrp_of (blk_get0 (blk_sub (C := [(20, 256)]) (i := 2) h_t0 rfl))) (p_X9_lanePlace x3 (M (t1 + 7) (ix x2)) 0) (t0 + 1) (arrp_of (blk_get0 (blk_sub (C := [(20, 1024)]) (i := 1) h_t0 rfl))) (p_X9_wordPlace x3 (M (t1 + 8) (ix x2)) 0) M) rfl (Nat.lt_of_lt_of_le (by decide) hlev) mw_X9_copyWords ws_X9_copyWords wl_RX8_69 mn_X9_copyWords rfl (by decide) (Nat.le_of_ble_eq_true rfl) rfl dX8_execute_148 (fun v13 M14 _ => ?_)
        refine c_goto (tgt := 244) dX8_execute_151 rfl ?_
        refine c_keep [] (ls2 := []) rfl ?_
        exact jo_X8_execute_244 d hlev M14
      · refine c_ite (fun h15 => ?_) (fun h15 => ?_)
        · refine c_lookup (tgt := 154) dX8_execute_41 (by decide) (by rw [h15] <;> rfl) rfl ?_
          refine c_aload_n (i := 0) dX8_execute_154 rfl rfl ?_
          refine c_iload dX8_execute_155 rfl ?_
          refine c_iload dX8_execute_157 rfl ?_
          refine c_callVv (as := [.inl (p_X9_lanePlace x3 (M (t1 + 7) (ix x2)) 0), .inl (M (t1 + 8) (ix x2))]) (rs := []) (ev_X8_setLanes 0 (Nat.le_refl _) t0 h_t0 (p_X9_lanePlace x3 (M (t1 + 7) (ix x2)) 0) (M (t1 + 8) (ix x2)) M) rfl (Nat.lt_of_lt_of_le (by decide) hlev) mw_X8_setLanes wi_X8_setLanes wv_X8_setLanes (blk_get0 h_t0) (by decide) rfl wl_RX8_73 mn_X8_setLanes rfl (by decide) (Nat.le_of_ble_eq_true rfl) rfl dX8_execute_159 (fun v16 M17 _ => ?_)
          refine c_goto (tgt := 244) dX8_execute_162 rfl ?_
          refine c_keep [] (ls2 := []) rfl ?_
          exact jo_X8_execute_244 d hlev M17
        · refine c_ite (fun h18 => ?_) (fun h18 => ?_)
          · refine c_lookup (tgt := 194) dX8_execute_41 (by decide) (by rw [h18] <;> rfl) rfl ?_
            refine c_aload_n (i := 0) dX8_execute_194 rfl rfl ?_
            refine c_aload_n (i := 1) dX8_execute_195 rfl rfl ?_
            refine c_iload_n (i := 2) dX8_execute_196 rfl rfl ?_
            refine c_iload dX8_execute_197 rfl ?_
            refine c_callVv (as := [.inr t1, .inl x2, .inl (p_X9_lanePlace x3 (M (t1 + 7) (ix x2)) 0)]) (rs := []) (ev_X8_combineLanes 1 (Nat.le_refl _) t0 h_t0 t1 h_t1 x2 (p_X9_lanePlace x3 (M (t1 + 7) (ix x2)) 0) M) rfl (Nat.lt_of_lt_of_le (by decide) hlev) mw_X8_combineLanes wi_X8_combineLanes wv_X8_combineLanes (blk_get0 h_t0) (by decide) rfl wl_RX8_84 mn_X8_combineLanes rfl (by decide) (Nat.le_of_ble_eq_true rfl) rfl dX8_execute_199 (fun v19 M20 _ => ?_)
            refine c_goto (tgt := 244) dX8_execute_202 rfl ?_
            refine c_keep [] (ls2 := []) rfl ?_
            exact jo_X8_execute_244 d hlev M20
          · refine c_ite (fun h21 => ?_) (fun h21 => ?_)
            · refine c_lookup (tgt := 226) dX8_execute_41 (by decide) (by rw [h21] <;> rfl) rfl ?_
              refine c_aload_n (i := 0) dX8_execute_226 rfl rfl ?_
              refine gf_RX8_15 (blk_get0 h_t0) dX8_execute_227 ?_
              refine c_iload dX8_execute_230 rfl ?_
              refine c_aload_n (i := 0) dX8_execute_232 rfl rfl ?_
              refine gf_RX8_15 (blk_get0 h_t0) dX8_execute_233 ?_
              refine c_iload dX8_execute_236 rfl ?_
              refine c_callNv (as := [.inr (t0 + 2), .inl (p_X9_lanePlace x4 (M (t1 + 7) (ix x2)) 0), .inr (t0 + 2), .inl (p_X9_lanePlace x3 (M (t1 + 7) (ix x2)) 0)]) (rs := []) (ev_X9_copyWords 1 (Nat.le_refl _) (t0 + 2) (arrp_of (blk_get0 (blk_sub (C := [(20, 256)]) (i := 2) h_t0 rfl))) (p_X9_lanePlace x4 (M (t1 + 7) (ix x2)) 0) (t0 + 2) (arrp_of (blk_get0 (blk_sub (C := [(20, 256)]) (i := 2) h_t0 rfl))) (p_X9_lanePlace x3 (M (t1 + 7) (ix x2)) 0) M) rfl (Nat.lt_of_lt_of_le (by decide) hlev) mw_X9_copyWords ws_X9_copyWords wl_RX8_69 mn_X9_copyWords rfl (by decide) (Nat.le_of_ble_eq_true rfl) rfl dX8_execute_238 (fun v22 M23 _ => ?_)
              refine c_goto (tgt := 244) dX8_execute_241 rfl ?_
              refine c_keep [] (ls2 := []) rfl ?_
              exact jo_X8_execute_244 d hlev M23
            · refine c_ite (fun h24 => ?_) (fun h24 => ?_)
              · refine c_lookup (tgt := 165) dX8_execute_41 (by decide) (by rw [h24] <;> rfl) rfl ?_
                refine c_aload_n (i := 0) dX8_execute_165 rfl rfl ?_
                refine c_aload_n (i := 1) dX8_execute_166 rfl rfl ?_
                refine c_iload_n (i := 2) dX8_execute_167 rfl rfl ?_
                refine c_iload dX8_execute_168 rfl ?_
                refine c_iload_n (i := 3) dX8_execute_170 rfl rfl ?_
                refine c_iload dX8_execute_171 rfl ?_
                refine c_iconst dX8_execute_173 (v := 0) rfl ?_
                refine c_callNp (as := [.inl x3, .inl (M (t1 + 8) (ix x2)), .inl 0]) (rs := [.inl (p_X9_lanePlace x3 (M (t1 + 7) (ix x2)) 0), .inl x2, .inr t1, .inr t0]) (ev_X9_lanePlace 0 (Nat.le_refl _) x3 (M (t1 + 8) (ix x2)) 0 M) rfl (Nat.lt_of_lt_of_le (by decide) hlev) mw_X9_lanePlace ws_X9_lanePlace wl_RX8_59 mn_X9_lanePlace rfl (by decide) (Nat.le_of_ble_eq_true rfl) ⟨_, rfl⟩ dX8_execute_174 ?_
                refine c_iload_n (i := 3) dX8_execute_177 rfl rfl ?_
                refine c_aload_n (i := 1) dX8_execute_178 rfl rfl ?_
                refine gf_RX8_77 (blk_get0 h_t1) dX8_execute_179 ?_
                refine c_iload_n (i := 2) dX8_execute_182 rfl rfl ?_
                refine c_chk (fun h25 => ?_)
                refine c_iald (blk_get0 (blk_sub (C := [(20, 60)]) (i := 9) h_t1 rfl)) h25 dX8_execute_183 ?_
                refine c_iconst dX8_execute_184 (v := 0) rfl ?_
                refine c_callNp (as := [.inl x3, .inl (M (t1 + 9) (ix x2)), .inl 0]) (rs := [.inl (p_X9_lanePlace x3 (M (t1 + 8) (ix x2)) 0), .inl (p_X9_lanePlace x3 (M (t1 + 7) (ix x2)) 0), .inl x2, .inr t1, .inr t0]) (ev_X9_lanePlace 0 (Nat.le_refl _) x3 (M (t1 + 9) (ix x2)) 0 M) rfl (Nat.lt_of_lt_of_le (by decide) hlev) mw_X9_lanePlace ws_X9_lanePlace wl_RX8_59 mn_X9_lanePlace rfl (by decide) (Nat.le_of_ble_eq_true rfl) ⟨_, rfl⟩ dX8_execute_185 ?_
                refine c_callVv (as := [.inr t1, .inl x2, .inl (p_X9_lanePlace x3 (M (t1 + 7) (ix x2)) 0), .inl (p_X9_lanePlace x3 (M (t1 + 8) (ix x2)) 0), .inl (p_X9_lanePlace x3 (M (t1 + 9) (ix x2)) 0)]) (rs := []) (ev_X8_combineRegisters 1 (Nat.le_refl _) t0 h_t0 t1 h_t1 x2 (p_X9_lanePlace x3 (M (t1 + 7) (ix x2)) 0) (p_X9_lanePlace x3 (M (t1 + 8) (ix x2)) 0) (p_X9_lanePlace x3 (M (t1 + 9) (ix x2)) 0) M) rfl (Nat.lt_of_lt_of_le (by decide) hlev) mw_X8_combineRegisters wi_X8_combineRegisters wv_X8_combineRegisters (blk_get0 h_t0) (by decide) rfl wl_RX8_80 mn_X8_combineRegisters rfl (by decide) (Nat.le_of_ble_eq_true rfl) rfl dX8_execute_188 (fun v26 M27 _ => ?_)
                refine c_goto (tgt := 244) dX8_execute_191 rfl ?_
                refine c_keep [] (ls2 := []) rfl ?_
                exact jo_X8_execute_244 d hlev M27
              · refine c_lookup (tgt := 244) dX8_execute_41 (by decide) (sw_lk (ks := [8, 9, 10, 11, 12, 13, 34]) (List.forall_mem_cons.mpr ⟨h5, (List.forall_mem_cons.mpr ⟨h9, (List.forall_mem_cons.mpr ⟨h12, (List.forall_mem_cons.mpr ⟨h15, (List.forall_mem_cons.mpr ⟨h18, (List.forall_mem_cons.mpr ⟨h21, (List.forall_mem_cons.mpr ⟨h24, (fun _ q => absurd q List.not_mem_nil)⟩)⟩)⟩)⟩)⟩)⟩)⟩) (by decide)) rfl ?_
                refine c_keep [] (ls2 := []) rfl ?_
                exact jo_X8_execute_244 d hlev M

abbrev mdX8_runBatch : MD := (yX8_runBatch, cX8_runBatch, 7, none)
theorem mw_X8_runBatch : mdW mdX8_runBatch := ⟨wm_X8_runBatch, w0_RX8, by decide, by decide⟩
theorem mn_X8_runBatch : (parseMethodDescriptor yX8_runBatch.desc).map (fun d => d.parameters.length) = some 2 := by decide +kernel
def j_X8_runBatch_63 (t0 : Nat) (t1 : Nat) (x2 : Int32) (x3 : Int32) (x4 : Int32) (x5 : Int32) (x6 : Int32) (K21 : Int32 × Mem → Option (Int32 × Mem)) (K36 : Int32 × Mem → Option (Int32 × Mem)) (M : Mem) : Option (Int32 × Mem) := K36 (x6 + 1, M)
set_option maxRecDepth 20000 in
set_option maxHeartbeats 2000000 in
theorem jo_X8_runBatch_63 (d : Nat) (hlev : 3 ≤ d) (t0 : Nat) (h_t0 : blkAt KSx t0 blk8) (t1 : Nat) (h_t1 : blkAt KSx t1 blk4) (x2 : Int32) (x3 : Int32) (x4 : Int32) (x5 : Int32) (x6 : Int32) (K21 : Int32 × Mem → Option (Int32 × Mem)) (hK21 : ∀ s : Int32 × Mem, CorM KSx ST1 RX8 cX8_runBatch 7 none d 21 [(0, .inr t0), (1, .inr t1), (2, .inl x2), (3, .inl x3), (4, .inl x4), (5, .inl s.1)] [] s.2 (K21 s)) (K36 : Int32 × Mem → Option (Int32 × Mem)) (hK36 : ∀ s : Int32 × Mem, CorM KSx ST1 RX8 cX8_runBatch 7 none d 36 [(0, .inr t0), (1, .inr t1), (2, .inl x2), (3, .inl x3), (4, .inl x4), (5, .inl x5), (6, .inl s.1)] [] s.2 (K36 s)) (M : Mem) : CorM KSx ST1 RX8 cX8_runBatch 7 none d 63 [(0, .inr t0), (1, .inr t1), (2, .inl x2), (3, .inl x3), (4, .inl x4), (5, .inl x5), (6, .inl x6)] [] M (j_X8_runBatch_63 t0 t1 x2 x3 x4 x5 x6 K21 K36 M) := by
  unfold j_X8_runBatch_63
  refine c_iinc dX8_runBatch_63 rfl (v := 1) rfl (by decide) (ls2 := [(0, .inr t0), (1, .inr t1), (2, .inl x2), (3, .inl x3), (4, .inl x4), (5, .inl x5), (6, .inl (x6 + 1))]) rfl ?_
  refine c_goto (tgt := 36) dX8_runBatch_66 rfl ?_
  refine c_keep [0, 1, 2, 3, 4, 5, 6] (ls2 := [(0, .inr t0), (1, .inr t1), (2, .inl x2), (3, .inl x3), (4, .inl x4), (5, .inl x5), (6, .inl (x6 + 1))]) rfl ?_
  exact hK36 (x6 + 1, M)
def l_X8_runBatch_36 (t0 : Nat) (t1 : Nat) (x2 : Int32) (x3 : Int32) (x4 : Int32) (x5 : Int32) (K21 : Int32 × Mem → Option (Int32 × Mem)) (K36 : Int32 × Mem → Option (Int32 × Mem)) : Int32 × Mem → Option (Int32 × Mem) := fun s => match s with
  | (x6, M) => if 8 ≤ x6 then K21 (x5 + 1, M) else if (p_X9_isIn x6 x3) = 0 then j_X8_runBatch_63 t0 t1 x2 x3 x4 x5 x6 K21 K36 M else bnd (f_X8_execute t0 t1 x5 x6 x4 M) (fun _ M10 => j_X8_runBatch_63 t0 t1 x2 x3 x4 x5 x6 K21 K36 M10)
set_option maxRecDepth 20000 in
set_option maxHeartbeats 2000000 in
theorem lo_X8_runBatch_36 (d : Nat) (hlev : 3 ≤ d) (t0 : Nat) (h_t0 : blkAt KSx t0 blk8) (t1 : Nat) (h_t1 : blkAt KSx t1 blk4) (x2 : Int32) (x3 : Int32) (x4 : Int32) (x5 : Int32) (K21 : Int32 × Mem → Option (Int32 × Mem)) (hK21 : ∀ s : Int32 × Mem, CorM KSx ST1 RX8 cX8_runBatch 7 none d 21 [(0, .inr t0), (1, .inr t1), (2, .inl x2), (3, .inl x3), (4, .inl x4), (5, .inl s.1)] [] s.2 (K21 s)) (s : Int32 × Mem) : CorM KSx ST1 RX8 cX8_runBatch 7 none d 36 [(0, .inr t0), (1, .inr t1), (2, .inl x2), (3, .inl x3), (4, .inl x4), (5, .inl x5), (6, .inl s.1)] [] s.2 (loopC (l_X8_runBatch_36 t0 t1 x2 x3 x4 x5 K21) fuelL s) := by
  refine c_loop (L := fun s : Int32 × Mem => [(0, .inr t0), (1, .inr t1), (2, .inl x2), (3, .inl x3), (4, .inl x4), (5, .inl x5), (6, .inl s.1)]) (Mf := fun s : Int32 × Mem => s.2) (fun K36 hK36 s => ?_) fuelL s
  obtain ⟨x6, M⟩ := s
  show CorM KSx ST1 RX8 cX8_runBatch 7 none d 36 [(0, .inr t0), (1, .inr t1), (2, .inl x2), (3, .inl x3), (4, .inl x4), (5, .inl x5), (6, .inl x6)] [] M (l_X8_runBatch_36 t0 t1 x2 x3 x4 x5 K21 K36 (x6, M))
  unfold l_X8_runBatch_36
  refine c_iload dX8_runBatch_36 rfl ?_
  refine c_bipush dX8_runBatch_38 (v := 8) rfl ?_
  refine c_icmp_ge (tgt := 69) dX8_runBatch_40 rfl (fun h7 => ?_) (fun h7 => ?_)
  · refine c_iinc dX8_runBatch_69 rfl (v := 1) rfl (by decide) (ls2 := [(0, .inr t0), (1, .inr t1), (2, .inl x2), (3, .inl x3), (4, .inl x4), (5, .inl (x5 + 1)), (6, .inl x6)]) rfl ?_
    refine c_goto (tgt := 21) dX8_runBatch_72 rfl ?_
    refine c_keep [0, 1, 2, 3, 4, 5] (ls2 := [(0, .inr t0), (1, .inr t1), (2, .inl x2), (3, .inl x3), (4, .inl x4), (5, .inl (x5 + 1))]) rfl ?_
    exact hK21 (x5 + 1, M)
  · refine c_iload dX8_runBatch_43 rfl ?_
    refine c_iload_n (i := 3) dX8_runBatch_45 rfl rfl ?_
    refine c_callNp (as := [.inl x6, .inl x3]) (rs := []) (ev_X9_isIn 0 (Nat.le_refl _) x6 x3 M) rfl (Nat.lt_of_lt_of_le (by decide) hlev) mw_X9_isIn ws_X9_isIn wl_RX8_45 mn_X9_isIn rfl (by decide) (Nat.le_of_ble_eq_true rfl) ⟨_, rfl⟩ dX8_runBatch_46 ?_
    refine c_if_eq (tgt := 63) dX8_runBatch_49 rfl (fun h8 => ?_) (fun h8 => ?_)
    · refine c_keep [0, 1, 2, 3, 4, 5, 6] (ls2 := [(0, .inr t0), (1, .inr t1), (2, .inl x2), (3, .inl x3), (4, .inl x4), (5, .inl x5), (6, .inl x6)]) rfl ?_
      exact jo_X8_runBatch_63 d hlev t0 h_t0 t1 h_t1 x2 x3 x4 x5 x6 K21 hK21 K36 hK36 M
    · refine c_aload_n (i := 0) dX8_runBatch_52 rfl rfl ?_
      refine c_aload_n (i := 1) dX8_runBatch_53 rfl rfl ?_
      refine c_iload dX8_runBatch_54 rfl ?_
      refine c_iload dX8_runBatch_56 rfl ?_
      refine c_iload dX8_runBatch_58 rfl ?_
      refine c_callVv (as := [.inr t1, .inl x5, .inl x6, .inl x4]) (rs := []) (ev_X8_execute 2 (Nat.le_refl _) t0 h_t0 t1 h_t1 x5 x6 x4 M) rfl (Nat.lt_of_lt_of_le (by decide) hlev) mw_X8_execute wi_X8_execute wv_X8_execute (blk_get0 h_t0) (by decide) rfl wl_RX8_49 mn_X8_execute rfl (by decide) (Nat.le_of_ble_eq_true rfl) rfl dX8_runBatch_60 (fun v9 M10 _ => ?_)
      refine c_keep [0, 1, 2, 3, 4, 5, 6] (ls2 := [(0, .inr t0), (1, .inr t1), (2, .inl x2), (3, .inl x3), (4, .inl x4), (5, .inl x5), (6, .inl x6)]) rfl ?_
      exact jo_X8_runBatch_63 d hlev t0 h_t0 t1 h_t1 x2 x3 x4 x5 x6 K21 hK21 K36 hK36 M10
def l_X8_runBatch_21 (t0 : Nat) (t1 : Nat) (x2 : Int32) (x3 : Int32) (x4 : Int32) (K21 : Int32 × Mem → Option (Int32 × Mem)) : Int32 × Mem → Option (Int32 × Mem) := fun s => match s with
  | (x5, M) => if inb x2 12 then if (M (t1 + 4) (ix x2)) ≤ x5 then some (0, M) else loopC (l_X8_runBatch_36 t0 t1 x2 x3 x4 x5 K21) fuelL (x4, M) else none
set_option maxRecDepth 20000 in
set_option maxHeartbeats 2000000 in
theorem lo_X8_runBatch_21 (d : Nat) (hlev : 3 ≤ d) (t0 : Nat) (h_t0 : blkAt KSx t0 blk8) (t1 : Nat) (h_t1 : blkAt KSx t1 blk4) (x2 : Int32) (x3 : Int32) (x4 : Int32) (s : Int32 × Mem) : CorM KSx ST1 RX8 cX8_runBatch 7 none d 21 [(0, .inr t0), (1, .inr t1), (2, .inl x2), (3, .inl x3), (4, .inl x4), (5, .inl s.1)] [] s.2 (loopC (l_X8_runBatch_21 t0 t1 x2 x3 x4) fuelL s) := by
  refine c_loop (L := fun s : Int32 × Mem => [(0, .inr t0), (1, .inr t1), (2, .inl x2), (3, .inl x3), (4, .inl x4), (5, .inl s.1)]) (Mf := fun s : Int32 × Mem => s.2) (fun K21 hK21 s => ?_) fuelL s
  obtain ⟨x5, M⟩ := s
  show CorM KSx ST1 RX8 cX8_runBatch 7 none d 21 [(0, .inr t0), (1, .inr t1), (2, .inl x2), (3, .inl x3), (4, .inl x4), (5, .inl x5)] [] M (l_X8_runBatch_21 t0 t1 x2 x3 x4 K21 (x5, M))
  unfold l_X8_runBatch_21
  refine c_iload dX8_runBatch_21 rfl ?_
  refine c_aload_n (i := 1) dX8_runBatch_23 rfl rfl ?_
  refine gf_RX8_42 (blk_get0 h_t1) dX8_runBatch_24 ?_
  refine c_iload_n (i := 2) dX8_runBatch_27 rfl rfl ?_
  refine c_chk (fun h5 => ?_)
  refine c_iald (blk_get0 (blk_sub (C := [(20, 12)]) (i := 4) h_t1 rfl)) h5 dX8_runBatch_28 ?_
  refine c_icmp_ge (tgt := 75) dX8_runBatch_29 rfl (fun h6 => ?_) (fun h6 => ?_)
  · exact c_vret rfl dX8_runBatch_75
  · refine c_iload dX8_runBatch_32 rfl ?_
    refine c_istore dX8_runBatch_34 (by decide) (ls2 := [(0, .inr t0), (1, .inr t1), (2, .inl x2), (3, .inl x3), (4, .inl x4), (5, .inl x5), (6, .inl x4)]) rfl ?_
    refine c_keep [0, 1, 2, 3, 4, 5, 6] (ls2 := [(0, .inr t0), (1, .inr t1), (2, .inl x2), (3, .inl x3), (4, .inl x4), (5, .inl x5), (6, .inl x4)]) rfl ?_
    exact lo_X8_runBatch_36 d hlev t0 h_t0 t1 h_t1 x2 x3 x4 x5 K21 hK21 (x4, M)
def f_X8_runBatch (t0 : Nat) (t1 : Nat) (x2 : Int32) (M : Mem) : Option (Int32 × Mem) := if inb x2 12 then bnd (f_X9_lowestBank (M (t1 + 2) (ix x2)) M) (fun v2 M3 => if inb x2 12 then loopC (l_X8_runBatch_21 t0 t1 x2 (M (t1 + 2) (ix x2)) v2) fuelL (M3 (t1 + 3) (ix x2), M3) else none) else none
set_option maxRecDepth 20000 in
set_option maxHeartbeats 2000000 in
theorem ev_X8_runBatch (d : Nat) (hlev : 3 ≤ d) (t0 : Nat) (h_t0 : blkAt KSx t0 blk8) (t1 : Nat) (h_t1 : blkAt KSx t1 blk4) (x2 : Int32) (M : Mem) : Ev KSx ST1 mdX8_runBatch d [.inr t0, .inr t1, .inl x2] M (f_X8_runBatch t0 t1 x2 M) := by
  refine ev_of rfl (Nat.le_of_ble_eq_true rfl) ?_
  show CorM KSx ST1 RX8 cX8_runBatch 7 none d 0 [(0, .inr t0), (1, .inr t1), (2, .inl x2)] [] M (f_X8_runBatch t0 t1 x2 M)
  unfold f_X8_runBatch
  refine c_aload_n (i := 1) dX8_runBatch_0 rfl rfl ?_
  refine gf_RX8_30 (blk_get0 h_t1) dX8_runBatch_1 ?_
  refine c_iload_n (i := 2) dX8_runBatch_4 rfl rfl ?_
  refine c_chk (fun h1 => ?_)
  refine c_iald (blk_get0 (blk_sub (C := [(20, 12)]) (i := 2) h_t1 rfl)) h1 dX8_runBatch_5 ?_
  refine c_istore_n (i := 3) dX8_runBatch_6 rfl (by decide) (ls2 := [(0, .inr t0), (1, .inr t1), (2, .inl x2), (3, .inl (M (t1 + 2) (ix x2)))]) rfl ?_
  refine c_iload_n (i := 3) dX8_runBatch_7 rfl rfl ?_
  refine c_callN (as := [.inl (M (t1 + 2) (ix x2))]) (rs := []) (ev_X9_lowestBank 1 (Nat.le_refl _) (M (t1 + 2) (ix x2)) M) rfl (Nat.lt_of_lt_of_le (by decide) hlev) mw_X9_lowestBank ws_X9_lowestBank wl_RX8_35 mn_X9_lowestBank rfl (by decide) (Nat.le_of_ble_eq_true rfl) ⟨_, rfl⟩ dX8_runBatch_8 (fun v2 M3 _ => ?_)
  refine c_istore dX8_runBatch_11 (by decide) (ls2 := [(0, .inr t0), (1, .inr t1), (2, .inl x2), (3, .inl (M (t1 + 2) (ix x2))), (4, .inl v2)]) rfl ?_
  refine c_aload_n (i := 1) dX8_runBatch_13 rfl rfl ?_
  refine gf_RX8_39 (blk_get0 h_t1) dX8_runBatch_14 ?_
  refine c_iload_n (i := 2) dX8_runBatch_17 rfl rfl ?_
  refine c_chk (fun h4 => ?_)
  refine c_iald (blk_get0 (blk_sub (C := [(20, 12)]) (i := 3) h_t1 rfl)) h4 dX8_runBatch_18 ?_
  refine c_istore dX8_runBatch_19 (by decide) (ls2 := [(0, .inr t0), (1, .inr t1), (2, .inl x2), (3, .inl (M (t1 + 2) (ix x2))), (4, .inl v2), (5, .inl (M3 (t1 + 3) (ix x2)))]) rfl ?_
  refine c_keep [0, 1, 2, 3, 4, 5] (ls2 := [(0, .inr t0), (1, .inr t1), (2, .inl x2), (3, .inl (M (t1 + 2) (ix x2))), (4, .inl v2), (5, .inl (M3 (t1 + 3) (ix x2)))]) rfl ?_
  exact lo_X8_runBatch_21 d hlev t0 h_t0 t1 h_t1 x2 (M (t1 + 2) (ix x2)) v2 (M3 (t1 + 3) (ix x2), M3)
