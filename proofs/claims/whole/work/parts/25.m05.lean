abbrev mdX6_latest : MD := (yX6_latest, cX6_latest, 5, (some .int))
theorem mw_X6_latest : mdW mdX6_latest := ⟨wm_X6_latest, w0_RX6, by decide, by decide⟩
theorem mn_X6_latest : (parseMethodDescriptor yX6_latest.desc).map (fun d => d.parameters.length) = some 1 := by decide +kernel
def j_X6_latest_60 (t0 : Nat) (x1 : Int32) (x2 : Int32) (x3 : Int32) (K4 : Int32 × Int32 × Mem → Option (Int32 × Mem)) (M : Mem) : Option (Int32 × Mem) := K4 (x2, x3 + 1, M)
set_option maxRecDepth 20000 in
set_option maxHeartbeats 2000000 in
theorem jo_X6_latest_60 (d : Nat) (hlev : 1 ≤ d) (t0 : Nat) (h_t0 : blkAt KSx t0 blk6) (x1 : Int32) (x2 : Int32) (x3 : Int32) (K4 : Int32 × Int32 × Mem → Option (Int32 × Mem)) (hK4 : ∀ s : Int32 × Int32 × Mem, CorM KSx ST1 RX6 cX6_latest 5 (some .int) d 4 [(0, .inr t0), (1, .inl x1), (2, .inl s.1), (3, .inl s.2.1)] [] s.2.2 (K4 s)) (M : Mem) : CorM KSx ST1 RX6 cX6_latest 5 (some .int) d 60 [(0, .inr t0), (1, .inl x1), (2, .inl x2), (3, .inl x3)] [] M (j_X6_latest_60 t0 x1 x2 x3 K4 M) := by
  unfold j_X6_latest_60
  refine c_iinc dX6_latest_60 rfl (v := 1) rfl (by decide) (ls2 := [(0, .inr t0), (1, .inl x1), (2, .inl x2), (3, .inl (x3 + 1))]) rfl ?_
  refine c_goto (tgt := 4) dX6_latest_63 rfl ?_
  refine c_keep [0, 1, 2, 3] (ls2 := [(0, .inr t0), (1, .inl x1), (2, .inl x2), (3, .inl (x3 + 1))]) rfl ?_
  exact hK4 (x2, x3 + 1, M)
def l_X6_latest_32 (t0 : Nat) (x1 : Int32) (x3 : Int32) (K4 : Int32 × Int32 × Mem → Option (Int32 × Mem)) (K32 : Int32 × Int32 × Mem → Option (Int32 × Mem)) : Int32 × Int32 × Mem → Option (Int32 × Mem) := fun s => match s with
  | (x2, x4, M) => if 4 ≤ x4 then j_X6_latest_60 t0 x1 x2 x3 K4 M else if inb ((x3 * 4) + x4) 32 then K32 (imax x2 (M (t0 + 2) (ix ((x3 * 4) + x4))), x4 + 1, M) else none
set_option maxRecDepth 20000 in
set_option maxHeartbeats 2000000 in
theorem lo_X6_latest_32 (d : Nat) (hlev : 1 ≤ d) (t0 : Nat) (h_t0 : blkAt KSx t0 blk6) (x1 : Int32) (x3 : Int32) (K4 : Int32 × Int32 × Mem → Option (Int32 × Mem)) (hK4 : ∀ s : Int32 × Int32 × Mem, CorM KSx ST1 RX6 cX6_latest 5 (some .int) d 4 [(0, .inr t0), (1, .inl x1), (2, .inl s.1), (3, .inl s.2.1)] [] s.2.2 (K4 s)) (s : Int32 × Int32 × Mem) : CorM KSx ST1 RX6 cX6_latest 5 (some .int) d 32 [(0, .inr t0), (1, .inl x1), (2, .inl s.1), (3, .inl x3), (4, .inl s.2.1)] [] s.2.2 (loopC (l_X6_latest_32 t0 x1 x3 K4) fuelL s) := by
  refine c_loop (L := fun s : Int32 × Int32 × Mem => [(0, .inr t0), (1, .inl x1), (2, .inl s.1), (3, .inl x3), (4, .inl s.2.1)]) (Mf := fun s : Int32 × Int32 × Mem => s.2.2) (fun K32 hK32 s => ?_) fuelL s
  obtain ⟨x2, x4, M⟩ := s
  show CorM KSx ST1 RX6 cX6_latest 5 (some .int) d 32 [(0, .inr t0), (1, .inl x1), (2, .inl x2), (3, .inl x3), (4, .inl x4)] [] M (l_X6_latest_32 t0 x1 x3 K4 K32 (x2, x4, M))
  unfold l_X6_latest_32
  refine c_iload dX6_latest_32 rfl ?_
  refine c_iconst dX6_latest_34 (v := 4) rfl ?_
  refine c_icmp_ge (tgt := 60) dX6_latest_35 rfl (fun h4 => ?_) (fun h4 => ?_)
  · refine c_keep [0, 1, 2, 3] (ls2 := [(0, .inr t0), (1, .inl x1), (2, .inl x2), (3, .inl x3)]) rfl ?_
    exact jo_X6_latest_60 d hlev t0 h_t0 x1 x2 x3 K4 hK4 M
  · refine c_iload_n (i := 2) dX6_latest_38 rfl rfl ?_
    refine c_aload_n (i := 0) dX6_latest_39 rfl rfl ?_
    refine gf_RX6_15 (blk_get0 h_t0) dX6_latest_40 ?_
    refine c_iload_n (i := 3) dX6_latest_43 rfl rfl ?_
    refine c_iconst dX6_latest_44 (v := 4) rfl ?_
    refine c_imul dX6_latest_45 ?_
    refine c_iload dX6_latest_46 rfl ?_
    refine c_iadd dX6_latest_48 ?_
    refine c_chk (fun h5 => ?_)
    refine c_iald (blk_get0 (blk_sub (C := [(20, 32)]) (i := 2) h_t0 rfl)) h5 dX6_latest_49 ?_
    refine c_max wl_RX6_59 (Nat.lt_of_lt_of_le (by decide) hlev) (Nat.le_of_ble_eq_true rfl) dX6_latest_50 ?_
    refine c_istore_n (i := 2) dX6_latest_53 rfl (by decide) (ls2 := [(0, .inr t0), (1, .inl x1), (2, .inl (imax x2 (M (t0 + 2) (ix ((x3 * 4) + x4))))), (3, .inl x3), (4, .inl x4)]) rfl ?_
    refine c_iinc dX6_latest_54 rfl (v := 1) rfl (by decide) (ls2 := [(0, .inr t0), (1, .inl x1), (2, .inl (imax x2 (M (t0 + 2) (ix ((x3 * 4) + x4))))), (3, .inl x3), (4, .inl (x4 + 1))]) rfl ?_
    refine c_goto (tgt := 32) dX6_latest_57 rfl ?_
    refine c_keep [0, 1, 2, 3, 4] (ls2 := [(0, .inr t0), (1, .inl x1), (2, .inl (imax x2 (M (t0 + 2) (ix ((x3 * 4) + x4))))), (3, .inl x3), (4, .inl (x4 + 1))]) rfl ?_
    exact hK32 (imax x2 (M (t0 + 2) (ix ((x3 * 4) + x4))), x4 + 1, M)
def l_X6_latest_4 (t0 : Nat) (x1 : Int32) (K4 : Int32 × Int32 × Mem → Option (Int32 × Mem)) : Int32 × Int32 × Mem → Option (Int32 × Mem) := fun s => match s with
  | (x2, x3, M) => if 8 ≤ x3 then some (x2, M) else if (p_X9_isIn x3 x1) = 0 then j_X6_latest_60 t0 x1 x2 x3 K4 M else if inb x3 8 then loopC (l_X6_latest_32 t0 x1 x3 K4) fuelL (imax x2 (M (t0 + 1) (ix x3)), 0, M) else none
set_option maxRecDepth 20000 in
set_option maxHeartbeats 2000000 in
theorem lo_X6_latest_4 (d : Nat) (hlev : 1 ≤ d) (t0 : Nat) (h_t0 : blkAt KSx t0 blk6) (x1 : Int32) (s : Int32 × Int32 × Mem) : CorM KSx ST1 RX6 cX6_latest 5 (some .int) d 4 [(0, .inr t0), (1, .inl x1), (2, .inl s.1), (3, .inl s.2.1)] [] s.2.2 (loopC (l_X6_latest_4 t0 x1) fuelL s) := by
  refine c_loop (L := fun s : Int32 × Int32 × Mem => [(0, .inr t0), (1, .inl x1), (2, .inl s.1), (3, .inl s.2.1)]) (Mf := fun s : Int32 × Int32 × Mem => s.2.2) (fun K4 hK4 s => ?_) fuelL s
  obtain ⟨x2, x3, M⟩ := s
  show CorM KSx ST1 RX6 cX6_latest 5 (some .int) d 4 [(0, .inr t0), (1, .inl x1), (2, .inl x2), (3, .inl x3)] [] M (l_X6_latest_4 t0 x1 K4 (x2, x3, M))
  unfold l_X6_latest_4
  refine c_iload_n (i := 3) dX6_latest_4 rfl rfl ?_
  refine c_bipush dX6_latest_5 (v := 8) rfl ?_
  refine c_icmp_ge (tgt := 66) dX6_latest_7 rfl (fun h1 => ?_) (fun h1 => ?_)
  · refine c_iload_n (i := 2) dX6_latest_66 rfl rfl ?_
    exact c_iret rfl dX6_latest_67
  · refine c_iload_n (i := 3) dX6_latest_10 rfl rfl ?_
    refine c_iload_n (i := 1) dX6_latest_11 rfl rfl ?_
    refine c_callNp (as := [.inl x3, .inl x1]) (rs := []) (ev_X9_isIn 0 (Nat.le_refl _) x3 x1 M) rfl (Nat.lt_of_lt_of_le (by decide) hlev) mw_X9_isIn ws_X9_isIn wl_RX6_49 mn_X9_isIn rfl (by decide) (Nat.le_of_ble_eq_true rfl) ⟨_, rfl⟩ dX6_latest_12 ?_
    refine c_if_eq (tgt := 60) dX6_latest_15 rfl (fun h2 => ?_) (fun h2 => ?_)
    · refine c_keep [0, 1, 2, 3] (ls2 := [(0, .inr t0), (1, .inl x1), (2, .inl x2), (3, .inl x3)]) rfl ?_
      exact jo_X6_latest_60 d hlev t0 h_t0 x1 x2 x3 K4 hK4 M
    · refine c_iload_n (i := 2) dX6_latest_18 rfl rfl ?_
      refine c_aload_n (i := 0) dX6_latest_19 rfl rfl ?_
      refine gf_RX6_9 (blk_get0 h_t0) dX6_latest_20 ?_
      refine c_iload_n (i := 3) dX6_latest_23 rfl rfl ?_
      refine c_chk (fun h3 => ?_)
      refine c_iald (blk_get0 (blk_sub (C := [(20, 8)]) (i := 1) h_t0 rfl)) h3 dX6_latest_24 ?_
      refine c_max wl_RX6_59 (Nat.lt_of_lt_of_le (by decide) hlev) (Nat.le_of_ble_eq_true rfl) dX6_latest_25 ?_
      refine c_istore_n (i := 2) dX6_latest_28 rfl (by decide) (ls2 := [(0, .inr t0), (1, .inl x1), (2, .inl (imax x2 (M (t0 + 1) (ix x3)))), (3, .inl x3)]) rfl ?_
      refine c_iconst dX6_latest_29 (v := 0) rfl ?_
      refine c_istore dX6_latest_30 (by decide) (ls2 := [(0, .inr t0), (1, .inl x1), (2, .inl (imax x2 (M (t0 + 1) (ix x3)))), (3, .inl x3), (4, .inl 0)]) rfl ?_
      refine c_keep [0, 1, 2, 3, 4] (ls2 := [(0, .inr t0), (1, .inl x1), (2, .inl (imax x2 (M (t0 + 1) (ix x3)))), (3, .inl x3), (4, .inl 0)]) rfl ?_
      exact lo_X6_latest_32 d hlev t0 h_t0 x1 x3 K4 hK4 (imax x2 (M (t0 + 1) (ix x3)), 0, M)
def f_X6_latest (t0 : Nat) (x1 : Int32) (M : Mem) : Option (Int32 × Mem) := loopC (l_X6_latest_4 t0 x1) fuelL (0, 0, M)
set_option maxRecDepth 20000 in
set_option maxHeartbeats 2000000 in
theorem ev_X6_latest (d : Nat) (hlev : 1 ≤ d) (t0 : Nat) (h_t0 : blkAt KSx t0 blk6) (x1 : Int32) (M : Mem) : Ev KSx ST1 mdX6_latest d [.inr t0, .inl x1] M (f_X6_latest t0 x1 M) := by
  refine ev_of rfl (Nat.le_of_ble_eq_true rfl) ?_
  show CorM KSx ST1 RX6 cX6_latest 5 (some .int) d 0 [(0, .inr t0), (1, .inl x1)] [] M (f_X6_latest t0 x1 M)
  unfold f_X6_latest
  refine c_iconst dX6_latest_0 (v := 0) rfl ?_
  refine c_istore_n (i := 2) dX6_latest_1 rfl (by decide) (ls2 := [(0, .inr t0), (1, .inl x1), (2, .inl 0)]) rfl ?_
  refine c_iconst dX6_latest_2 (v := 0) rfl ?_
  refine c_istore_n (i := 3) dX6_latest_3 rfl (by decide) (ls2 := [(0, .inr t0), (1, .inl x1), (2, .inl 0), (3, .inl 0)]) rfl ?_
  refine c_keep [0, 1, 2, 3] (ls2 := [(0, .inr t0), (1, .inl x1), (2, .inl 0), (3, .inl 0)]) rfl ?_
  exact lo_X6_latest_4 d hlev t0 h_t0 x1 (0, 0, M)

abbrev mdX3_keepOrder : MD := (yX3_keepOrder, cX3_keepOrder, 2, none)
theorem mw_X3_keepOrder : mdW mdX3_keepOrder := ⟨wm_X3_keepOrder, w0_RX3, by decide, by decide⟩
theorem mn_X3_keepOrder : (parseMethodDescriptor yX3_keepOrder.desc).map (fun d => d.parameters.length) = some 1 := by decide +kernel
def f_X3_keepOrder (x1 : Int32) (M : Mem) : Option (Int32 × Mem) := if inb x1 7 then bnd (f_X6_latest (120 + (1 + 8 * ix x1)) 255 M) (fun v2 M3 => wrt (up M3 114 1 v2) (fun M4 => if cpOk 6 6 0 0 x1 then wrt (cpy M4 116 0 115 0 x1) (fun M6 => some (0, M6)) else none)) else none
set_option maxRecDepth 20000 in
set_option maxHeartbeats 2000000 in
theorem ev_X3_keepOrder (d : Nat) (hlev : 2 ≤ d) (x1 : Int32) (M : Mem) : Ev KSx ST1 mdX3_keepOrder d [.inr 114, .inl x1] M (f_X3_keepOrder x1 M) := by
  refine ev_of rfl (Nat.le_of_ble_eq_true rfl) ?_
  show CorM KSx ST1 RX3 cX3_keepOrder 2 none d 0 [(0, .inr 114), (1, .inl x1)] [] M (f_X3_keepOrder x1 M)
  unfold f_X3_keepOrder
  refine c_aload_n (i := 0) dX3_keepOrder_0 rfl rfl ?_
  refine c_aload_n (i := 0) dX3_keepOrder_1 rfl rfl ?_
  refine gf_RX3_29 (blk_get0 KSx_b114) dX3_keepOrder_2 ?_
  refine c_iload_n (i := 1) dX3_keepOrder_5 rfl rfl ?_
  refine c_chk (fun h1 => ?_)
  refine c_aald23 (blk_get0 (blk_sub (C := [(23, 7)]) (i := 6) KSx_b114 rfl)) h1 dX3_keepOrder_6 ?_
  refine c_sipush dX3_keepOrder_7 (v := 255) rfl ?_
  refine c_callV (as := [.inl 255]) (rs := [.inr 114]) (ev_X6_latest 1 (Nat.le_refl _) (120 + (1 + 8 * ix x1)) (blk23_at h1) 255 M) rfl (Nat.lt_of_lt_of_le (by decide) hlev) mw_X6_latest wi_X6_latest wv_X6_latest (blk_get0 (blk23_at h1)) (by decide) rfl wl_RX3_100 mn_X6_latest rfl (by decide) (Nat.le_of_ble_eq_true rfl) ⟨_, rfl⟩ dX3_keepOrder_10 (fun v2 M3 _ => ?_)
  refine pf_RX3_50 (blk_get0 KSx_b114) dX3_keepOrder_13 ?_
  refine c_wrt (fun M4 => ?_)
  refine c_aload_n (i := 0) dX3_keepOrder_16 rfl rfl ?_
  refine gf_RX3_15 (blk_get0 KSx_b114) dX3_keepOrder_17 ?_
  refine c_iconst dX3_keepOrder_20 (v := 0) rfl ?_
  refine c_aload_n (i := 0) dX3_keepOrder_21 rfl rfl ?_
  refine gf_RX3_9 (blk_get0 KSx_b114) dX3_keepOrder_22 ?_
  refine c_iconst dX3_keepOrder_25 (v := 0) rfl ?_
  refine c_iload_n (i := 1) dX3_keepOrder_26 rfl rfl ?_
  refine c_chk (fun h5 => ?_)
  refine c_copy wl_RX3_104 (blk_get0 (blk_sub (C := [(20, 6)]) (i := 2) KSx_b114 rfl)) (blk_get0 (blk_sub (C := [(20, 6)]) (i := 1) KSx_b114 rfl)) h5 (Nat.lt_of_lt_of_le (by decide) hlev) (Nat.le_of_ble_eq_true rfl) dX3_keepOrder_27 ?_
  refine c_wrt (fun M6 => ?_)
  exact c_vret rfl dX3_keepOrder_30

abbrev mdX6_isJoint : MD := (yX6_isJoint, cX6_isJoint, 1, (some .boolean))
theorem mw_X6_isJoint : mdW mdX6_isJoint := ⟨wm_X6_isJoint, w0_RX6, by decide, by decide⟩
theorem mn_X6_isJoint : (parseMethodDescriptor yX6_isJoint.desc).map (fun d => d.parameters.length) = some 1 := by decide +kernel
def p_X6_isJoint (x0 : Int32) : Int32 := (if x0 = 8 then (1 : Int32) else if x0 = 13 then (1 : Int32) else if ¬ x0 = 14 then (0 : Int32) else (1 : Int32))
theorem pz_X6_isJoint (x0 : Int32) : isB (p_X6_isJoint x0) := by
  unfold p_X6_isJoint
  repeat' (first | apply isB_ite | exact Or.inl rfl | exact Or.inr rfl | apply_assumption)
set_option maxRecDepth 20000 in
set_option maxHeartbeats 2000000 in
theorem ev_X6_isJoint (d : Nat) (hlev : 0 ≤ d) (x0 : Int32) (M : Mem) : Ev KSx ST1 mdX6_isJoint d [.inl x0] M (some (p_X6_isJoint x0, M)) := by
  refine ev_of rfl (Nat.le_of_ble_eq_true rfl) ?_
  show CorM KSx ST1 RX6 cX6_isJoint 1 (some .boolean) d 0 [(0, .inl x0)] [] M (some (p_X6_isJoint x0, M))
  unfold p_X6_isJoint
  refine c_iload_n (i := 0) dX6_isJoint_0 rfl rfl ?_
  refine c_bipush dX6_isJoint_1 (v := 8) rfl ?_
  have J_z1 : ∀ z1 : Int32, isB z1 → CorM KSx ST1 RX6 cX6_isJoint 1 (some .boolean) d 23 [] [.inl z1] M (some (z1, M)) := by
    intro z1 h_z1
    exact c_zret rfl h_z1 dX6_isJoint_23
  refine c_val (b := x0 = 8) (v1 := (1 : Int32)) (v2 := if x0 = 13 then (1 : Int32) else if ¬ x0 = 14 then (0 : Int32) else (1 : Int32)) (F := fun z1 => some (z1, M)) (fun h2 => ?_) (fun h2 => ?_)
  · refine c_T h2 (c_icmp_eq (tgt := 18) dX6_isJoint_3 rfl (fun _ => ?_) (fun q => absurd h2 q))
    refine c_iconst dX6_isJoint_18 (v := 1) rfl ?_
    refine c_goto (tgt := 23) dX6_isJoint_19 rfl ?_
    refine c_keep [] (ls2 := []) rfl ?_
    exact J_z1 1 (Or.inr rfl)
  · refine c_Fl h2 (c_icmp_eq (tgt := 18) dX6_isJoint_3 rfl (fun q => absurd q h2) (fun _ => ?_))
    refine c_iload_n (i := 0) dX6_isJoint_6 rfl rfl ?_
    refine c_bipush dX6_isJoint_7 (v := 13) rfl ?_
    refine c_val (b := x0 = 13) (v1 := (1 : Int32)) (v2 := if ¬ x0 = 14 then (0 : Int32) else (1 : Int32)) (F := fun z1 => some (z1, M)) (fun h3 => ?_) (fun h3 => ?_)
    · refine c_T h3 (c_icmp_eq (tgt := 18) dX6_isJoint_9 rfl (fun _ => ?_) (fun q => absurd h3 q))
      refine c_iconst dX6_isJoint_18 (v := 1) rfl ?_
      refine c_goto (tgt := 23) dX6_isJoint_19 rfl ?_
      refine c_keep [] (ls2 := []) rfl ?_
      exact J_z1 1 (Or.inr rfl)
    · refine c_Fl h3 (c_icmp_eq (tgt := 18) dX6_isJoint_9 rfl (fun q => absurd q h3) (fun _ => ?_))
      refine c_iload_n (i := 0) dX6_isJoint_12 rfl rfl ?_
      refine c_bipush dX6_isJoint_13 (v := 14) rfl ?_
      refine c_val (b := ¬ x0 = 14) (v1 := (0 : Int32)) (v2 := (1 : Int32)) (F := fun z1 => some (z1, M)) (fun h4 => ?_) (fun h4 => ?_)
      · refine c_T h4 (c_icmp_ne (tgt := 22) dX6_isJoint_15 rfl (fun _ => ?_) (fun q => absurd h4 q))
        refine c_iconst dX6_isJoint_22 (v := 0) rfl ?_
        refine c_keep [] (ls2 := []) rfl ?_
        exact J_z1 0 (Or.inl rfl)
      · refine c_Fl h4 (c_icmp_ne (tgt := 22) dX6_isJoint_15 rfl (fun q => absurd q h4) (fun _ => ?_))
        refine c_iconst dX6_isJoint_18 (v := 1) rfl ?_
        refine c_goto (tgt := 23) dX6_isJoint_19 rfl ?_
        refine c_keep [] (ls2 := []) rfl ?_
        exact J_z1 1 (Or.inr rfl)

abbrev mdX6_latestOf : MD := (yX6_latestOf, cX6_latestOf, 6, (some .int))
theorem mw_X6_latestOf : mdW mdX6_latestOf := ⟨wm_X6_latestOf, w0_RX6, by decide, by decide⟩
theorem mn_X6_latestOf : (parseMethodDescriptor yX6_latestOf.desc).map (fun d => d.parameters.length) = some 2 := by decide +kernel
def j_X6_latestOf_51 (t0 : Nat) (x1 : Int32) (x2 : Int32) (x3 : Int32) (x4 : Int32) (K5 : Int32 × Int32 × Mem → Option (Int32 × Mem)) (M : Mem) : Option (Int32 × Mem) := K5 (x3, x4 + 1, M)
set_option maxRecDepth 20000 in
set_option maxHeartbeats 2000000 in
theorem jo_X6_latestOf_51 (d : Nat) (hlev : 1 ≤ d) (t0 : Nat) (h_t0 : blkAt KSx t0 blk6) (x1 : Int32) (x2 : Int32) (x3 : Int32) (x4 : Int32) (K5 : Int32 × Int32 × Mem → Option (Int32 × Mem)) (hK5 : ∀ s : Int32 × Int32 × Mem, CorM KSx ST1 RX6 cX6_latestOf 6 (some .int) d 5 [(0, .inr t0), (1, .inl x1), (2, .inl x2), (3, .inl s.1), (4, .inl s.2.1)] [] s.2.2 (K5 s)) (M : Mem) : CorM KSx ST1 RX6 cX6_latestOf 6 (some .int) d 51 [(0, .inr t0), (1, .inl x1), (2, .inl x2), (3, .inl x3), (4, .inl x4)] [] M (j_X6_latestOf_51 t0 x1 x2 x3 x4 K5 M) := by
  unfold j_X6_latestOf_51
  refine c_iinc dX6_latestOf_51 rfl (v := 1) rfl (by decide) (ls2 := [(0, .inr t0), (1, .inl x1), (2, .inl x2), (3, .inl x3), (4, .inl (x4 + 1))]) rfl ?_
  refine c_goto (tgt := 5) dX6_latestOf_54 rfl ?_
  refine c_keep [0, 1, 2, 3, 4] (ls2 := [(0, .inr t0), (1, .inl x1), (2, .inl x2), (3, .inl x3), (4, .inl (x4 + 1))]) rfl ?_
  exact hK5 (x3, x4 + 1, M)
def l_X6_latestOf_5 (t0 : Nat) (x1 : Int32) (x2 : Int32) (K5 : Int32 × Int32 × Mem → Option (Int32 × Mem)) : Int32 × Int32 × Mem → Option (Int32 × Mem) := fun s => match s with
  | (x3, x4, M) => if 8 ≤ x4 then some (x3, M) else if (p_X9_isIn x4 x2) = 0 then j_X6_latestOf_51 t0 x1 x2 x3 x4 K5 M else if inb ((x4 * 4) + x1) 32 then if inb x4 8 then j_X6_latestOf_51 t0 x1 x2 (imax x3 (imax (M (t0 + 1) (ix x4)) (M (t0 + 2) (ix ((x4 * 4) + x1))))) x4 K5 M else none else none
set_option maxRecDepth 20000 in
set_option maxHeartbeats 2000000 in
theorem lo_X6_latestOf_5 (d : Nat) (hlev : 1 ≤ d) (t0 : Nat) (h_t0 : blkAt KSx t0 blk6) (x1 : Int32) (x2 : Int32) (s : Int32 × Int32 × Mem) : CorM KSx ST1 RX6 cX6_latestOf 6 (some .int) d 5 [(0, .inr t0), (1, .inl x1), (2, .inl x2), (3, .inl s.1), (4, .inl s.2.1)] [] s.2.2 (loopC (l_X6_latestOf_5 t0 x1 x2) fuelL s) := by
  refine c_loop (L := fun s : Int32 × Int32 × Mem => [(0, .inr t0), (1, .inl x1), (2, .inl x2), (3, .inl s.1), (4, .inl s.2.1)]) (Mf := fun s : Int32 × Int32 × Mem => s.2.2) (fun K5 hK5 s => ?_) fuelL s
  obtain ⟨x3, x4, M⟩ := s
  show CorM KSx ST1 RX6 cX6_latestOf 6 (some .int) d 5 [(0, .inr t0), (1, .inl x1), (2, .inl x2), (3, .inl x3), (4, .inl x4)] [] M (l_X6_latestOf_5 t0 x1 x2 K5 (x3, x4, M))
  unfold l_X6_latestOf_5
  refine c_iload dX6_latestOf_5 rfl ?_
  refine c_bipush dX6_latestOf_7 (v := 8) rfl ?_
  refine c_icmp_ge (tgt := 57) dX6_latestOf_9 rfl (fun h1 => ?_) (fun h1 => ?_)
  · refine c_iload_n (i := 3) dX6_latestOf_57 rfl rfl ?_
    exact c_iret rfl dX6_latestOf_58
  · refine c_iload dX6_latestOf_12 rfl ?_
    refine c_iload_n (i := 2) dX6_latestOf_14 rfl rfl ?_
    refine c_callNp (as := [.inl x4, .inl x2]) (rs := []) (ev_X9_isIn 0 (Nat.le_refl _) x4 x2 M) rfl (Nat.lt_of_lt_of_le (by decide) hlev) mw_X9_isIn ws_X9_isIn wl_RX6_49 mn_X9_isIn rfl (by decide) (Nat.le_of_ble_eq_true rfl) ⟨_, rfl⟩ dX6_latestOf_15 ?_
    refine c_if_eq (tgt := 51) dX6_latestOf_18 rfl (fun h2 => ?_) (fun h2 => ?_)
    · refine c_keep [0, 1, 2, 3, 4] (ls2 := [(0, .inr t0), (1, .inl x1), (2, .inl x2), (3, .inl x3), (4, .inl x4)]) rfl ?_
      exact jo_X6_latestOf_51 d hlev t0 h_t0 x1 x2 x3 x4 K5 hK5 M
    · refine c_aload_n (i := 0) dX6_latestOf_21 rfl rfl ?_
      refine gf_RX6_15 (blk_get0 h_t0) dX6_latestOf_22 ?_
      refine c_iload dX6_latestOf_25 rfl ?_
      refine c_iconst dX6_latestOf_27 (v := 4) rfl ?_
      refine c_imul dX6_latestOf_28 ?_
      refine c_iload_n (i := 1) dX6_latestOf_29 rfl rfl ?_
      refine c_iadd dX6_latestOf_30 ?_
      refine c_chk (fun h3 => ?_)
      refine c_iald (blk_get0 (blk_sub (C := [(20, 32)]) (i := 2) h_t0 rfl)) h3 dX6_latestOf_31 ?_
      refine c_istore dX6_latestOf_32 (by decide) (ls2 := [(0, .inr t0), (1, .inl x1), (2, .inl x2), (3, .inl x3), (4, .inl x4), (5, .inl (M (t0 + 2) (ix ((x4 * 4) + x1))))]) rfl ?_
      refine c_iload_n (i := 3) dX6_latestOf_34 rfl rfl ?_
      refine c_aload_n (i := 0) dX6_latestOf_35 rfl rfl ?_
      refine gf_RX6_9 (blk_get0 h_t0) dX6_latestOf_36 ?_
      refine c_iload dX6_latestOf_39 rfl ?_
      refine c_chk (fun h4 => ?_)
      refine c_iald (blk_get0 (blk_sub (C := [(20, 8)]) (i := 1) h_t0 rfl)) h4 dX6_latestOf_41 ?_
      refine c_iload dX6_latestOf_42 rfl ?_
      refine c_max wl_RX6_59 (Nat.lt_of_lt_of_le (by decide) hlev) (Nat.le_of_ble_eq_true rfl) dX6_latestOf_44 ?_
      refine c_max wl_RX6_59 (Nat.lt_of_lt_of_le (by decide) hlev) (Nat.le_of_ble_eq_true rfl) dX6_latestOf_47 ?_
      refine c_istore_n (i := 3) dX6_latestOf_50 rfl (by decide) (ls2 := [(0, .inr t0), (1, .inl x1), (2, .inl x2), (3, .inl (imax x3 (imax (M (t0 + 1) (ix x4)) (M (t0 + 2) (ix ((x4 * 4) + x1)))))), (4, .inl x4), (5, .inl (M (t0 + 2) (ix ((x4 * 4) + x1))))]) rfl ?_
      refine c_keep [0, 1, 2, 3, 4] (ls2 := [(0, .inr t0), (1, .inl x1), (2, .inl x2), (3, .inl (imax x3 (imax (M (t0 + 1) (ix x4)) (M (t0 + 2) (ix ((x4 * 4) + x1)))))), (4, .inl x4)]) rfl ?_
      exact jo_X6_latestOf_51 d hlev t0 h_t0 x1 x2 (imax x3 (imax (M (t0 + 1) (ix x4)) (M (t0 + 2) (ix ((x4 * 4) + x1))))) x4 K5 hK5 M
def f_X6_latestOf (t0 : Nat) (x1 : Int32) (x2 : Int32) (M : Mem) : Option (Int32 × Mem) := loopC (l_X6_latestOf_5 t0 x1 x2) fuelL (0, 0, M)
set_option maxRecDepth 20000 in
set_option maxHeartbeats 2000000 in
theorem ev_X6_latestOf (d : Nat) (hlev : 1 ≤ d) (t0 : Nat) (h_t0 : blkAt KSx t0 blk6) (x1 : Int32) (x2 : Int32) (M : Mem) : Ev KSx ST1 mdX6_latestOf d [.inr t0, .inl x1, .inl x2] M (f_X6_latestOf t0 x1 x2 M) := by
  refine ev_of rfl (Nat.le_of_ble_eq_true rfl) ?_
  show CorM KSx ST1 RX6 cX6_latestOf 6 (some .int) d 0 [(0, .inr t0), (1, .inl x1), (2, .inl x2)] [] M (f_X6_latestOf t0 x1 x2 M)
  unfold f_X6_latestOf
  refine c_iconst dX6_latestOf_0 (v := 0) rfl ?_
  refine c_istore_n (i := 3) dX6_latestOf_1 rfl (by decide) (ls2 := [(0, .inr t0), (1, .inl x1), (2, .inl x2), (3, .inl 0)]) rfl ?_
  refine c_iconst dX6_latestOf_2 (v := 0) rfl ?_
  refine c_istore dX6_latestOf_3 (by decide) (ls2 := [(0, .inr t0), (1, .inl x1), (2, .inl x2), (3, .inl 0), (4, .inl 0)]) rfl ?_
  refine c_keep [0, 1, 2, 3, 4] (ls2 := [(0, .inr t0), (1, .inl x1), (2, .inl x2), (3, .inl 0), (4, .inl 0)]) rfl ?_
  exact lo_X6_latestOf_5 d hlev t0 h_t0 x1 x2 (0, 0, M)

abbrev mdX6_executeJointly : MD := (yX6_executeJointly, cX6_executeJointly, 10, none)
theorem mw_X6_executeJointly : mdW mdX6_executeJointly := ⟨wm_X6_executeJointly, w0_RX6, by decide, by decide⟩
theorem mn_X6_executeJointly : (parseMethodDescriptor yX6_executeJointly.desc).map (fun d => d.parameters.length) = some 3 := by decide +kernel
def j_X6_executeJointly_145 (t0 : Nat) (x3 : Int32) (x4 : Int32) (x5 : Int32) (x6 : Int32) (x7 : Int32) (x8 : Int32) (x9 : Int32) (K61 : Int32 × Mem → Option (Int32 × Mem)) (M : Mem) : Option (Int32 × Mem) := K61 (x9 + 1, M)
set_option maxRecDepth 20000 in
set_option maxHeartbeats 2000000 in
theorem jo_X6_executeJointly_145 (d : Nat) (hlev : 2 ≤ d) (t0 : Nat) (h_t0 : blkAt KSx t0 blk6) (x3 : Int32) (x4 : Int32) (x5 : Int32) (x6 : Int32) (x7 : Int32) (x8 : Int32) (x9 : Int32) (K61 : Int32 × Mem → Option (Int32 × Mem)) (hK61 : ∀ s : Int32 × Mem, CorM KSx ST1 RX6 cX6_executeJointly 10 none d 61 [(0, .inr t0), (3, .inl x3), (4, .inl x4), (5, .inl x5), (6, .inl x6), (7, .inl x7), (8, .inl x8), (9, .inl s.1)] [] s.2 (K61 s)) (M : Mem) : CorM KSx ST1 RX6 cX6_executeJointly 10 none d 145 [(0, .inr t0), (3, .inl x3), (4, .inl x4), (5, .inl x5), (6, .inl x6), (7, .inl x7), (8, .inl x8), (9, .inl x9)] [] M (j_X6_executeJointly_145 t0 x3 x4 x5 x6 x7 x8 x9 K61 M) := by
  unfold j_X6_executeJointly_145
  refine c_iinc dX6_executeJointly_145 rfl (v := 1) rfl (by decide) (ls2 := [(0, .inr t0), (3, .inl x3), (4, .inl x4), (5, .inl x5), (6, .inl x6), (7, .inl x7), (8, .inl x8), (9, .inl (x9 + 1))]) rfl ?_
  refine c_goto (tgt := 61) dX6_executeJointly_148 rfl ?_
  refine c_keep [0, 3, 4, 5, 6, 7, 8, 9] (ls2 := [(0, .inr t0), (3, .inl x3), (4, .inl x4), (5, .inl x5), (6, .inl x6), (7, .inl x7), (8, .inl x8), (9, .inl (x9 + 1))]) rfl ?_
  exact hK61 (x9 + 1, M)
def j_X6_executeJointly_131 (t0 : Nat) (x3 : Int32) (x4 : Int32) (x5 : Int32) (x6 : Int32) (x7 : Int32) (x8 : Int32) (x9 : Int32) (K61 : Int32 × Mem → Option (Int32 × Mem)) (M : Mem) : Option (Int32 × Mem) := if inb ((x9 * 4) + x5) 32 then wrt (up M (t0 + 2) (ix ((x9 * 4) + x5)) x7) (fun M19 => j_X6_executeJointly_145 t0 x3 x4 x5 x6 x7 x8 x9 K61 M19) else none
set_option maxRecDepth 20000 in
set_option maxHeartbeats 2000000 in
theorem jo_X6_executeJointly_131 (d : Nat) (hlev : 2 ≤ d) (t0 : Nat) (h_t0 : blkAt KSx t0 blk6) (x3 : Int32) (x4 : Int32) (x5 : Int32) (x6 : Int32) (x7 : Int32) (x8 : Int32) (x9 : Int32) (K61 : Int32 × Mem → Option (Int32 × Mem)) (hK61 : ∀ s : Int32 × Mem, CorM KSx ST1 RX6 cX6_executeJointly 10 none d 61 [(0, .inr t0), (3, .inl x3), (4, .inl x4), (5, .inl x5), (6, .inl x6), (7, .inl x7), (8, .inl x8), (9, .inl s.1)] [] s.2 (K61 s)) (M : Mem) : CorM KSx ST1 RX6 cX6_executeJointly 10 none d 131 [(0, .inr t0), (3, .inl x3), (4, .inl x4), (5, .inl x5), (6, .inl x6), (7, .inl x7), (8, .inl x8), (9, .inl x9)] [] M (j_X6_executeJointly_131 t0 x3 x4 x5 x6 x7 x8 x9 K61 M) := by
  unfold j_X6_executeJointly_131
  refine c_aload_n (i := 0) dX6_executeJointly_131 rfl rfl ?_
  refine gf_RX6_15 (blk_get0 h_t0) dX6_executeJointly_132 ?_
  refine c_iload dX6_executeJointly_135 rfl ?_
  refine c_iconst dX6_executeJointly_137 (v := 4) rfl ?_
  refine c_imul dX6_executeJointly_138 ?_
  refine c_iload dX6_executeJointly_139 rfl ?_
  refine c_iadd dX6_executeJointly_141 ?_
  refine c_iload dX6_executeJointly_142 rfl ?_
  refine c_chk (fun h18 => ?_)
  refine c_iast (blk_get0 (blk_sub (C := [(20, 32)]) (i := 2) h_t0 rfl)) h18 dX6_executeJointly_144 ?_
  refine c_wrt (fun M19 => ?_)
  refine c_keep [0, 3, 4, 5, 6, 7, 8, 9] (ls2 := [(0, .inr t0), (3, .inl x3), (4, .inl x4), (5, .inl x5), (6, .inl x6), (7, .inl x7), (8, .inl x8), (9, .inl x9)]) rfl ?_
  exact jo_X6_executeJointly_145 d hlev t0 h_t0 x3 x4 x5 x6 x7 x8 x9 K61 hK61 M19
def l_X6_executeJointly_61 (t0 : Nat) (x3 : Int32) (x4 : Int32) (x5 : Int32) (x6 : Int32) (x7 : Int32) (x8 : Int32) (K61 : Int32 × Mem → Option (Int32 × Mem)) : Int32 × Mem → Option (Int32 × Mem) := fun s => match s with
  | (x9, M) => if 8 ≤ x9 then some (0, M) else if (p_X9_isIn x9 x3) = 0 then j_X6_executeJointly_145 t0 x3 x4 x5 x6 x7 x8 x9 K61 M else if inb ((x9 * 4) + 3) 32 then if inb x9 8 then if inb ((x9 * 4) + 3) 32 then wrt (up M (t0 + 6) (ix ((x9 * 4) + 3)) ((M (t0 + 6) (ix ((x9 * 4) + 3))) + (x6 - (M (t0 + 1) (ix x9))))) (fun M14 => if inb x9 8 then wrt (up M14 (t0 + 1) (ix x9) x7) (fun M16 => if x4 = 13 then j_X6_executeJointly_131 t0 x3 x4 x5 x6 x7 x8 x9 K61 M16 else if ¬ x4 = 8 then j_X6_executeJointly_145 t0 x3 x4 x5 x6 x7 x8 x9 K61 M16 else if ¬ x9 = x8 then j_X6_executeJointly_145 t0 x3 x4 x5 x6 x7 x8 x9 K61 M16 else j_X6_executeJointly_131 t0 x3 x4 x5 x6 x7 x8 x9 K61 M16) else none) else none else none else none
set_option maxRecDepth 20000 in
set_option maxHeartbeats 2000000 in
theorem lo_X6_executeJointly_61 (d : Nat) (hlev : 2 ≤ d) (t0 : Nat) (h_t0 : blkAt KSx t0 blk6) (x3 : Int32) (x4 : Int32) (x5 : Int32) (x6 : Int32) (x7 : Int32) (x8 : Int32) (s : Int32 × Mem) : CorM KSx ST1 RX6 cX6_executeJointly 10 none d 61 [(0, .inr t0), (3, .inl x3), (4, .inl x4), (5, .inl x5), (6, .inl x6), (7, .inl x7), (8, .inl x8), (9, .inl s.1)] [] s.2 (loopC (l_X6_executeJointly_61 t0 x3 x4 x5 x6 x7 x8) fuelL s) := by
  refine c_loop (L := fun s : Int32 × Mem => [(0, .inr t0), (3, .inl x3), (4, .inl x4), (5, .inl x5), (6, .inl x6), (7, .inl x7), (8, .inl x8), (9, .inl s.1)]) (Mf := fun s : Int32 × Mem => s.2) (fun K61 hK61 s => ?_) fuelL s
  obtain ⟨x9, M⟩ := s
  show CorM KSx ST1 RX6 cX6_executeJointly 10 none d 61 [(0, .inr t0), (3, .inl x3), (4, .inl x4), (5, .inl x5), (6, .inl x6), (7, .inl x7), (8, .inl x8), (9, .inl x9)] [] M (l_X6_executeJointly_61 t0 x3 x4 x5 x6 x7 x8 K61 (x9, M))
  unfold l_X6_executeJointly_61
  refine c_iload dX6_executeJointly_61 rfl ?_
  refine c_bipush dX6_executeJointly_63 (v := 8) rfl ?_
  refine c_icmp_ge (tgt := 151) dX6_executeJointly_65 rfl (fun h9 => ?_) (fun h9 => ?_)
  · exact c_vret rfl dX6_executeJointly_151
  · refine c_iload dX6_executeJointly_68 rfl ?_
    refine c_iload_n (i := 3) dX6_executeJointly_70 rfl rfl ?_
    refine c_callNp (as := [.inl x9, .inl x3]) (rs := []) (ev_X9_isIn 0 (Nat.le_refl _) x9 x3 M) rfl (Nat.lt_of_lt_of_le (by decide) hlev) mw_X9_isIn ws_X9_isIn wl_RX6_49 mn_X9_isIn rfl (by decide) (Nat.le_of_ble_eq_true rfl) ⟨_, rfl⟩ dX6_executeJointly_71 ?_
    refine c_if_eq (tgt := 145) dX6_executeJointly_74 rfl (fun h10 => ?_) (fun h10 => ?_)
    · refine c_keep [0, 3, 4, 5, 6, 7, 8, 9] (ls2 := [(0, .inr t0), (3, .inl x3), (4, .inl x4), (5, .inl x5), (6, .inl x6), (7, .inl x7), (8, .inl x8), (9, .inl x9)]) rfl ?_
      exact jo_X6_executeJointly_145 d hlev t0 h_t0 x3 x4 x5 x6 x7 x8 x9 K61 hK61 M
    · refine c_aload_n (i := 0) dX6_executeJointly_77 rfl rfl ?_
      refine gf_RX6_27 (blk_get0 h_t0) dX6_executeJointly_78 ?_
      refine c_iload dX6_executeJointly_81 rfl ?_
      refine c_iconst dX6_executeJointly_83 (v := 4) rfl ?_
      refine c_imul dX6_executeJointly_84 ?_
      refine c_iconst dX6_executeJointly_85 (v := 3) rfl ?_
      refine c_iadd dX6_executeJointly_86 ?_
      refine c_dup2 dX6_executeJointly_87 ?_
      refine c_chk (fun h11 => ?_)
      refine c_iald (blk_get0 (blk_sub (C := [(20, 32)]) (i := 6) h_t0 rfl)) h11 dX6_executeJointly_88 ?_
      refine c_iload dX6_executeJointly_89 rfl ?_
      refine c_aload_n (i := 0) dX6_executeJointly_91 rfl rfl ?_
      refine gf_RX6_9 (blk_get0 h_t0) dX6_executeJointly_92 ?_
      refine c_iload dX6_executeJointly_95 rfl ?_
      refine c_chk (fun h12 => ?_)
      refine c_iald (blk_get0 (blk_sub (C := [(20, 8)]) (i := 1) h_t0 rfl)) h12 dX6_executeJointly_97 ?_
      refine c_isub dX6_executeJointly_98 ?_
      refine c_iadd dX6_executeJointly_99 ?_
      refine c_chk (fun h13 => ?_)
      refine c_iast (blk_get0 (blk_sub (C := [(20, 32)]) (i := 6) h_t0 rfl)) h13 dX6_executeJointly_100 ?_
      refine c_wrt (fun M14 => ?_)
      refine c_aload_n (i := 0) dX6_executeJointly_101 rfl rfl ?_
      refine gf_RX6_9 (blk_get0 h_t0) dX6_executeJointly_102 ?_
      refine c_iload dX6_executeJointly_105 rfl ?_
      refine c_iload dX6_executeJointly_107 rfl ?_
      refine c_chk (fun h15 => ?_)
      refine c_iast (blk_get0 (blk_sub (C := [(20, 8)]) (i := 1) h_t0 rfl)) h15 dX6_executeJointly_109 ?_
      refine c_wrt (fun M16 => ?_)
      refine c_iload dX6_executeJointly_110 rfl ?_
      refine c_bipush dX6_executeJointly_112 (v := 13) rfl ?_
      refine c_icmp_eq (tgt := 131) dX6_executeJointly_114 rfl (fun h17 => ?_) (fun h17 => ?_)
      · refine c_keep [0, 3, 4, 5, 6, 7, 8, 9] (ls2 := [(0, .inr t0), (3, .inl x3), (4, .inl x4), (5, .inl x5), (6, .inl x6), (7, .inl x7), (8, .inl x8), (9, .inl x9)]) rfl ?_
        exact jo_X6_executeJointly_131 d hlev t0 h_t0 x3 x4 x5 x6 x7 x8 x9 K61 hK61 M16
      · refine c_iload dX6_executeJointly_117 rfl ?_
        refine c_bipush dX6_executeJointly_119 (v := 8) rfl ?_
        refine c_icmp_ne (tgt := 145) dX6_executeJointly_121 rfl (fun h20 => ?_) (fun h20 => ?_)
        · refine c_keep [0, 3, 4, 5, 6, 7, 8, 9] (ls2 := [(0, .inr t0), (3, .inl x3), (4, .inl x4), (5, .inl x5), (6, .inl x6), (7, .inl x7), (8, .inl x8), (9, .inl x9)]) rfl ?_
          exact jo_X6_executeJointly_145 d hlev t0 h_t0 x3 x4 x5 x6 x7 x8 x9 K61 hK61 M16
        · refine c_iload dX6_executeJointly_124 rfl ?_
          refine c_iload dX6_executeJointly_126 rfl ?_
          refine c_icmp_ne (tgt := 145) dX6_executeJointly_128 rfl (fun h21 => ?_) (fun h21 => ?_)
          · refine c_keep [0, 3, 4, 5, 6, 7, 8, 9] (ls2 := [(0, .inr t0), (3, .inl x3), (4, .inl x4), (5, .inl x5), (6, .inl x6), (7, .inl x7), (8, .inl x8), (9, .inl x9)]) rfl ?_
            exact jo_X6_executeJointly_145 d hlev t0 h_t0 x3 x4 x5 x6 x7 x8 x9 K61 hK61 M16
          · refine c_keep [0, 3, 4, 5, 6, 7, 8, 9] (ls2 := [(0, .inr t0), (3, .inl x3), (4, .inl x4), (5, .inl x5), (6, .inl x6), (7, .inl x7), (8, .inl x8), (9, .inl x9)]) rfl ?_
            exact jo_X6_executeJointly_131 d hlev t0 h_t0 x3 x4 x5 x6 x7 x8 x9 K61 hK61 M16
def j_X6_executeJointly_38 (t0 : Nat) (t1 : Nat) (x2 : Int32) (x3 : Int32) (x4 : Int32) (x5 : Int32) (w0 : Int32) (M : Mem) : Option (Int32 × Mem) := if inb x2 60 then bnd (f_X9_lowestBank x3 M) (fun v7 M8 => loopC (l_X6_executeJointly_61 t0 x3 x4 x5 w0 (w0 + (M (t1 + 10) (ix x2))) v7) fuelL (v7, M8)) else none
set_option maxRecDepth 20000 in
set_option maxHeartbeats 2000000 in
theorem jo_X6_executeJointly_38 (d : Nat) (hlev : 2 ≤ d) (t0 : Nat) (h_t0 : blkAt KSx t0 blk6) (t1 : Nat) (h_t1 : blkAt KSx t1 blk4) (x2 : Int32) (x3 : Int32) (x4 : Int32) (x5 : Int32) (w0 : Int32) (M : Mem) : CorM KSx ST1 RX6 cX6_executeJointly 10 none d 38 [(0, .inr t0), (1, .inr t1), (2, .inl x2), (3, .inl x3), (4, .inl x4), (5, .inl x5)] [.inl w0] M (j_X6_executeJointly_38 t0 t1 x2 x3 x4 x5 w0 M) := by
  unfold j_X6_executeJointly_38
  refine c_istore dX6_executeJointly_38 (by decide) (ls2 := [(0, .inr t0), (1, .inr t1), (2, .inl x2), (3, .inl x3), (4, .inl x4), (5, .inl x5), (6, .inl w0)]) rfl ?_
  refine c_iload dX6_executeJointly_40 rfl ?_
  refine c_aload_n (i := 1) dX6_executeJointly_42 rfl rfl ?_
  refine gf_RX6_101 (blk_get0 h_t1) dX6_executeJointly_43 ?_
  refine c_iload_n (i := 2) dX6_executeJointly_46 rfl rfl ?_
  refine c_chk (fun h6 => ?_)
  refine c_iald (blk_get0 (blk_sub (C := [(20, 60)]) (i := 10) h_t1 rfl)) h6 dX6_executeJointly_47 ?_
  refine c_iadd dX6_executeJointly_48 ?_
  refine c_istore dX6_executeJointly_49 (by decide) (ls2 := [(0, .inr t0), (1, .inr t1), (2, .inl x2), (3, .inl x3), (4, .inl x4), (5, .inl x5), (6, .inl w0), (7, .inl (w0 + (M (t1 + 10) (ix x2))))]) rfl ?_
  refine c_iload_n (i := 3) dX6_executeJointly_51 rfl rfl ?_
  refine c_callN (as := [.inl x3]) (rs := []) (ev_X9_lowestBank 1 (Nat.le_refl _) x3 M) rfl (Nat.lt_of_lt_of_le (by decide) hlev) mw_X9_lowestBank ws_X9_lowestBank wl_RX6_45 mn_X9_lowestBank rfl (by decide) (Nat.le_of_ble_eq_true rfl) ⟨_, rfl⟩ dX6_executeJointly_52 (fun v7 M8 _ => ?_)
  refine c_istore dX6_executeJointly_55 (by decide) (ls2 := [(0, .inr t0), (1, .inr t1), (2, .inl x2), (3, .inl x3), (4, .inl x4), (5, .inl x5), (6, .inl w0), (7, .inl (w0 + (M (t1 + 10) (ix x2)))), (8, .inl v7)]) rfl ?_
  refine c_iload dX6_executeJointly_57 rfl ?_
  refine c_istore dX6_executeJointly_59 (by decide) (ls2 := [(0, .inr t0), (1, .inr t1), (2, .inl x2), (3, .inl x3), (4, .inl x4), (5, .inl x5), (6, .inl w0), (7, .inl (w0 + (M (t1 + 10) (ix x2)))), (8, .inl v7), (9, .inl v7)]) rfl ?_
  refine c_keep [0, 3, 4, 5, 6, 7, 8, 9] (ls2 := [(0, .inr t0), (3, .inl x3), (4, .inl x4), (5, .inl x5), (6, .inl w0), (7, .inl (w0 + (M (t1 + 10) (ix x2)))), (8, .inl v7), (9, .inl v7)]) rfl ?_
  exact lo_X6_executeJointly_61 d hlev t0 h_t0 x3 x4 x5 w0 (w0 + (M (t1 + 10) (ix x2))) v7 (v7, M8)
def f_X6_executeJointly (t0 : Nat) (t1 : Nat) (x2 : Int32) (x3 : Int32) (M : Mem) : Option (Int32 × Mem) := if inb x2 60 then if inb x2 60 then if ¬ (M (t1 + 5) (ix x2)) = 14 then bnd (f_X6_latestOf t0 (M (t1 + 7) (ix x2)) x3 M) (fun v4 M5 => j_X6_executeJointly_38 t0 t1 x2 x3 (M (t1 + 5) (ix x2)) (M (t1 + 7) (ix x2)) v4 M5) else bnd (f_X6_latest t0 x3 M) (fun v22 M23 => j_X6_executeJointly_38 t0 t1 x2 x3 (M (t1 + 5) (ix x2)) (M (t1 + 7) (ix x2)) v22 M23) else none else none
set_option maxRecDepth 20000 in
set_option maxHeartbeats 2000000 in
theorem ev_X6_executeJointly (d : Nat) (hlev : 2 ≤ d) (t0 : Nat) (h_t0 : blkAt KSx t0 blk6) (t1 : Nat) (h_t1 : blkAt KSx t1 blk4) (x2 : Int32) (x3 : Int32) (M : Mem) : Ev KSx ST1 mdX6_executeJointly d [.inr t0, .inr t1, .inl x2, .inl x3] M (f_X6_executeJointly t0 t1 x2 x3 M) := by
  refine ev_of rfl (Nat.le_of_ble_eq_true rfl) ?_
  show CorM KSx ST1 RX6 cX6_executeJointly 10 none d 0 [(0, .inr t0), (1, .inr t1), (2, .inl x2), (3, .inl x3)] [] M (f_X6_executeJointly t0 t1 x2 x3 M)
  unfold f_X6_executeJointly
  refine c_aload_n (i := 1) dX6_executeJointly_0 rfl rfl ?_
  refine gf_RX6_73 (blk_get0 h_t1) dX6_executeJointly_1 ?_
  refine c_iload_n (i := 2) dX6_executeJointly_4 rfl rfl ?_
  refine c_chk (fun h1 => ?_)
  refine c_iald (blk_get0 (blk_sub (C := [(20, 60)]) (i := 5) h_t1 rfl)) h1 dX6_executeJointly_5 ?_
  refine c_istore dX6_executeJointly_6 (by decide) (ls2 := [(0, .inr t0), (1, .inr t1), (2, .inl x2), (3, .inl x3), (4, .inl (M (t1 + 5) (ix x2)))]) rfl ?_
  refine c_aload_n (i := 1) dX6_executeJointly_8 rfl rfl ?_
  refine gf_RX6_92 (blk_get0 h_t1) dX6_executeJointly_9 ?_
  refine c_iload_n (i := 2) dX6_executeJointly_12 rfl rfl ?_
  refine c_chk (fun h2 => ?_)
  refine c_iald (blk_get0 (blk_sub (C := [(20, 60)]) (i := 7) h_t1 rfl)) h2 dX6_executeJointly_13 ?_
  refine c_istore dX6_executeJointly_14 (by decide) (ls2 := [(0, .inr t0), (1, .inr t1), (2, .inl x2), (3, .inl x3), (4, .inl (M (t1 + 5) (ix x2))), (5, .inl (M (t1 + 7) (ix x2)))]) rfl ?_
  refine c_iload dX6_executeJointly_16 rfl ?_
  refine c_bipush dX6_executeJointly_18 (v := 14) rfl ?_
  refine c_icmp_ne (tgt := 31) dX6_executeJointly_20 rfl (fun h3 => ?_) (fun h3 => ?_)
  · refine c_aload_n (i := 0) dX6_executeJointly_31 rfl rfl ?_
    refine c_iload dX6_executeJointly_32 rfl ?_
    refine c_iload_n (i := 3) dX6_executeJointly_34 rfl rfl ?_
    refine c_callV (as := [.inl (M (t1 + 7) (ix x2)), .inl x3]) (rs := []) (ev_X6_latestOf 1 (Nat.le_refl _) t0 h_t0 (M (t1 + 7) (ix x2)) x3 M) rfl (Nat.lt_of_lt_of_le (by decide) hlev) mw_X6_latestOf wi_X6_latestOf wv_X6_latestOf (blk_get0 h_t0) (by decide) rfl wl_RX6_98 mn_X6_latestOf rfl (by decide) (Nat.le_of_ble_eq_true rfl) ⟨_, rfl⟩ dX6_executeJointly_35 (fun v4 M5 _ => ?_)
    refine c_keep [0, 1, 2, 3, 4, 5] (ls2 := [(0, .inr t0), (1, .inr t1), (2, .inl x2), (3, .inl x3), (4, .inl (M (t1 + 5) (ix x2))), (5, .inl (M (t1 + 7) (ix x2)))]) rfl ?_
    exact jo_X6_executeJointly_38 d hlev t0 h_t0 t1 h_t1 x2 x3 (M (t1 + 5) (ix x2)) (M (t1 + 7) (ix x2)) v4 M5
  · refine c_aload_n (i := 0) dX6_executeJointly_23 rfl rfl ?_
    refine c_iload_n (i := 3) dX6_executeJointly_24 rfl rfl ?_
    refine c_callV (as := [.inl x3]) (rs := []) (ev_X6_latest 1 (Nat.le_refl _) t0 h_t0 x3 M) rfl (Nat.lt_of_lt_of_le (by decide) hlev) mw_X6_latest wi_X6_latest wv_X6_latest (blk_get0 h_t0) (by decide) rfl wl_RX6_95 mn_X6_latest rfl (by decide) (Nat.le_of_ble_eq_true rfl) ⟨_, rfl⟩ dX6_executeJointly_25 (fun v22 M23 _ => ?_)
    refine c_goto (tgt := 38) dX6_executeJointly_28 rfl ?_
    refine c_keep [0, 1, 2, 3, 4, 5] (ls2 := [(0, .inr t0), (1, .inr t1), (2, .inl x2), (3, .inl x3), (4, .inl (M (t1 + 5) (ix x2))), (5, .inl (M (t1 + 7) (ix x2)))]) rfl ?_
    exact jo_X6_executeJointly_38 d hlev t0 h_t0 t1 h_t1 x2 x3 (M (t1 + 5) (ix x2)) (M (t1 + 7) (ix x2)) v22 M23

abbrev mdX6_beginOf : MD := (yX6_beginOf, cX6_beginOf, 6, (some .int))
theorem mw_X6_beginOf : mdW mdX6_beginOf := ⟨wm_X6_beginOf, w0_RX6, by decide, by decide⟩
theorem mn_X6_beginOf : (parseMethodDescriptor yX6_beginOf.desc).map (fun d => d.parameters.length) = some 3 := by decide +kernel
def j_X6_beginOf_83 (x5 : Int32) (M : Mem) : Option (Int32 × Mem) := some (x5, M)
set_option maxRecDepth 20000 in
set_option maxHeartbeats 2000000 in
theorem jo_X6_beginOf_83 (d : Nat) (hlev : 1 ≤ d) (x5 : Int32) (M : Mem) : CorM KSx ST1 RX6 cX6_beginOf 6 (some .int) d 83 [(5, .inl x5)] [] M (j_X6_beginOf_83 x5 M) := by
  unfold j_X6_beginOf_83
  refine c_iload dX6_beginOf_83 rfl ?_
  exact c_iret rfl dX6_beginOf_85
def f_X6_beginOf (t0 : Nat) (t1 : Nat) (x2 : Int32) (x3 : Int32) (M : Mem) : Option (Int32 × Mem) := if inb x3 8 then if inb x2 60 then if inb ((x3 * 4) + (M (t1 + 7) (ix x2))) 32 then if inb x2 60 then if ¬ (M (t1 + 5) (ix x2)) = 34 then j_X6_beginOf_83 (imax (M (t0 + 1) (ix x3)) (M (t0 + 2) (ix ((x3 * 4) + (M (t1 + 7) (ix x2)))))) M else if inb x2 60 then if inb ((x3 * 4) + (M (t1 + 8) (ix x2))) 32 then if inb x2 60 then if inb ((x3 * 4) + (M (t1 + 9) (ix x2))) 32 then j_X6_beginOf_83 (imax (imax (imax (M (t0 + 1) (ix x3)) (M (t0 + 2) (ix ((x3 * 4) + (M (t1 + 7) (ix x2)))))) (M (t0 + 2) (ix ((x3 * 4) + (M (t1 + 8) (ix x2)))))) (M (t0 + 2) (ix ((x3 * 4) + (M (t1 + 9) (ix x2)))))) M else none else none else none else none else none else none else none else none
set_option maxRecDepth 20000 in
set_option maxHeartbeats 2000000 in
theorem ev_X6_beginOf (d : Nat) (hlev : 1 ≤ d) (t0 : Nat) (h_t0 : blkAt KSx t0 blk6) (t1 : Nat) (h_t1 : blkAt KSx t1 blk4) (x2 : Int32) (x3 : Int32) (M : Mem) : Ev KSx ST1 mdX6_beginOf d [.inr t0, .inr t1, .inl x2, .inl x3] M (f_X6_beginOf t0 t1 x2 x3 M) := by
  refine ev_of rfl (Nat.le_of_ble_eq_true rfl) ?_
  show CorM KSx ST1 RX6 cX6_beginOf 6 (some .int) d 0 [(0, .inr t0), (1, .inr t1), (2, .inl x2), (3, .inl x3)] [] M (f_X6_beginOf t0 t1 x2 x3 M)
  unfold f_X6_beginOf
  refine c_iload_n (i := 3) dX6_beginOf_0 rfl rfl ?_
  refine c_iconst dX6_beginOf_1 (v := 4) rfl ?_
  refine c_imul dX6_beginOf_2 ?_
  refine c_istore dX6_beginOf_3 (by decide) (ls2 := [(0, .inr t0), (1, .inr t1), (2, .inl x2), (3, .inl x3), (4, .inl (x3 * 4))]) rfl ?_
  refine c_aload_n (i := 0) dX6_beginOf_5 rfl rfl ?_
  refine gf_RX6_9 (blk_get0 h_t0) dX6_beginOf_6 ?_
  refine c_iload_n (i := 3) dX6_beginOf_9 rfl rfl ?_
  refine c_chk (fun h1 => ?_)
  refine c_iald (blk_get0 (blk_sub (C := [(20, 8)]) (i := 1) h_t0 rfl)) h1 dX6_beginOf_10 ?_
  refine c_aload_n (i := 0) dX6_beginOf_11 rfl rfl ?_
  refine gf_RX6_15 (blk_get0 h_t0) dX6_beginOf_12 ?_
  refine c_iload dX6_beginOf_15 rfl ?_
  refine c_aload_n (i := 1) dX6_beginOf_17 rfl rfl ?_
  refine gf_RX6_92 (blk_get0 h_t1) dX6_beginOf_18 ?_
  refine c_iload_n (i := 2) dX6_beginOf_21 rfl rfl ?_
  refine c_chk (fun h2 => ?_)
  refine c_iald (blk_get0 (blk_sub (C := [(20, 60)]) (i := 7) h_t1 rfl)) h2 dX6_beginOf_22 ?_
  refine c_iadd dX6_beginOf_23 ?_
  refine c_chk (fun h3 => ?_)
  refine c_iald (blk_get0 (blk_sub (C := [(20, 32)]) (i := 2) h_t0 rfl)) h3 dX6_beginOf_24 ?_
  refine c_max wl_RX6_59 (Nat.lt_of_lt_of_le (by decide) hlev) (Nat.le_of_ble_eq_true rfl) dX6_beginOf_25 ?_
  refine c_istore dX6_beginOf_28 (by decide) (ls2 := [(0, .inr t0), (1, .inr t1), (2, .inl x2), (3, .inl x3), (4, .inl (x3 * 4)), (5, .inl (imax (M (t0 + 1) (ix x3)) (M (t0 + 2) (ix ((x3 * 4) + (M (t1 + 7) (ix x2)))))))]) rfl ?_
  refine c_aload_n (i := 1) dX6_beginOf_30 rfl rfl ?_
  refine gf_RX6_73 (blk_get0 h_t1) dX6_beginOf_31 ?_
  refine c_iload_n (i := 2) dX6_beginOf_34 rfl rfl ?_
  refine c_chk (fun h4 => ?_)
  refine c_iald (blk_get0 (blk_sub (C := [(20, 60)]) (i := 5) h_t1 rfl)) h4 dX6_beginOf_35 ?_
  refine c_bipush dX6_beginOf_36 (v := 34) rfl ?_
  refine c_icmp_ne (tgt := 83) dX6_beginOf_38 rfl (fun h5 => ?_) (fun h5 => ?_)
  · refine c_keep [5] (ls2 := [(5, .inl (imax (M (t0 + 1) (ix x3)) (M (t0 + 2) (ix ((x3 * 4) + (M (t1 + 7) (ix x2)))))))]) rfl ?_
    exact jo_X6_beginOf_83 d hlev (imax (M (t0 + 1) (ix x3)) (M (t0 + 2) (ix ((x3 * 4) + (M (t1 + 7) (ix x2)))))) M
  · refine c_iload dX6_beginOf_41 rfl ?_
    refine c_aload_n (i := 0) dX6_beginOf_43 rfl rfl ?_
    refine gf_RX6_15 (blk_get0 h_t0) dX6_beginOf_44 ?_
    refine c_iload dX6_beginOf_47 rfl ?_
    refine c_aload_n (i := 1) dX6_beginOf_49 rfl rfl ?_
    refine gf_RX6_115 (blk_get0 h_t1) dX6_beginOf_50 ?_
    refine c_iload_n (i := 2) dX6_beginOf_53 rfl rfl ?_
    refine c_chk (fun h6 => ?_)
    refine c_iald (blk_get0 (blk_sub (C := [(20, 60)]) (i := 8) h_t1 rfl)) h6 dX6_beginOf_54 ?_
    refine c_iadd dX6_beginOf_55 ?_
    refine c_chk (fun h7 => ?_)
    refine c_iald (blk_get0 (blk_sub (C := [(20, 32)]) (i := 2) h_t0 rfl)) h7 dX6_beginOf_56 ?_
    refine c_max wl_RX6_59 (Nat.lt_of_lt_of_le (by decide) hlev) (Nat.le_of_ble_eq_true rfl) dX6_beginOf_57 ?_
    refine c_istore dX6_beginOf_60 (by decide) (ls2 := [(0, .inr t0), (1, .inr t1), (2, .inl x2), (3, .inl x3), (4, .inl (x3 * 4)), (5, .inl (imax (imax (M (t0 + 1) (ix x3)) (M (t0 + 2) (ix ((x3 * 4) + (M (t1 + 7) (ix x2)))))) (M (t0 + 2) (ix ((x3 * 4) + (M (t1 + 8) (ix x2)))))))]) rfl ?_
    refine c_iload dX6_beginOf_62 rfl ?_
    refine c_aload_n (i := 0) dX6_beginOf_64 rfl rfl ?_
    refine gf_RX6_15 (blk_get0 h_t0) dX6_beginOf_65 ?_
    refine c_iload dX6_beginOf_68 rfl ?_
    refine c_aload_n (i := 1) dX6_beginOf_70 rfl rfl ?_
    refine gf_RX6_118 (blk_get0 h_t1) dX6_beginOf_71 ?_
    refine c_iload_n (i := 2) dX6_beginOf_74 rfl rfl ?_
    refine c_chk (fun h8 => ?_)
    refine c_iald (blk_get0 (blk_sub (C := [(20, 60)]) (i := 9) h_t1 rfl)) h8 dX6_beginOf_75 ?_
    refine c_iadd dX6_beginOf_76 ?_
    refine c_chk (fun h9 => ?_)
    refine c_iald (blk_get0 (blk_sub (C := [(20, 32)]) (i := 2) h_t0 rfl)) h9 dX6_beginOf_77 ?_
    refine c_max wl_RX6_59 (Nat.lt_of_lt_of_le (by decide) hlev) (Nat.le_of_ble_eq_true rfl) dX6_beginOf_78 ?_
    refine c_istore dX6_beginOf_81 (by decide) (ls2 := [(0, .inr t0), (1, .inr t1), (2, .inl x2), (3, .inl x3), (4, .inl (x3 * 4)), (5, .inl (imax (imax (imax (M (t0 + 1) (ix x3)) (M (t0 + 2) (ix ((x3 * 4) + (M (t1 + 7) (ix x2)))))) (M (t0 + 2) (ix ((x3 * 4) + (M (t1 + 8) (ix x2)))))) (M (t0 + 2) (ix ((x3 * 4) + (M (t1 + 9) (ix x2)))))))]) rfl ?_
    refine c_keep [5] (ls2 := [(5, .inl (imax (imax (imax (M (t0 + 1) (ix x3)) (M (t0 + 2) (ix ((x3 * 4) + (M (t1 + 7) (ix x2)))))) (M (t0 + 2) (ix ((x3 * 4) + (M (t1 + 8) (ix x2)))))) (M (t0 + 2) (ix ((x3 * 4) + (M (t1 + 9) (ix x2)))))))]) rfl ?_
    exact jo_X6_beginOf_83 d hlev (imax (imax (imax (M (t0 + 1) (ix x3)) (M (t0 + 2) (ix ((x3 * 4) + (M (t1 + 7) (ix x2)))))) (M (t0 + 2) (ix ((x3 * 4) + (M (t1 + 8) (ix x2)))))) (M (t0 + 2) (ix ((x3 * 4) + (M (t1 + 9) (ix x2)))))) M

abbrev mdX6_startPlace : MD := (yX6_startPlace, cX6_startPlace, 2, (some .int))
theorem mw_X6_startPlace : mdW mdX6_startPlace := ⟨wm_X6_startPlace, w0_RX6, by decide, by decide⟩
theorem mn_X6_startPlace : (parseMethodDescriptor yX6_startPlace.desc).map (fun d => d.parameters.length) = some 2 := by decide +kernel
def p_X6_startPlace (x0 : Int32) (x1 : Int32) : Int32 := (x0 * 8) + (x1 &&& 7)
set_option maxRecDepth 20000 in
set_option maxHeartbeats 2000000 in
theorem ev_X6_startPlace (d : Nat) (hlev : 0 ≤ d) (x0 : Int32) (x1 : Int32) (M : Mem) : Ev KSx ST1 mdX6_startPlace d [.inl x0, .inl x1] M (some (p_X6_startPlace x0 x1, M)) := by
  refine ev_of rfl (Nat.le_of_ble_eq_true rfl) ?_
  show CorM KSx ST1 RX6 cX6_startPlace 2 (some .int) d 0 [(0, .inl x0), (1, .inl x1)] [] M (some (p_X6_startPlace x0 x1, M))
  unfold p_X6_startPlace
  refine c_iload_n (i := 0) dX6_startPlace_0 rfl rfl ?_
  refine c_bipush dX6_startPlace_1 (v := 8) rfl ?_
  refine c_imul dX6_startPlace_3 ?_
  refine c_iload_n (i := 1) dX6_startPlace_4 rfl rfl ?_
  refine c_bipush dX6_startPlace_5 (v := 7) rfl ?_
  refine c_iand dX6_startPlace_7 ?_
  refine c_iadd dX6_startPlace_8 ?_
  exact c_iret rfl dX6_startPlace_9

abbrev mdX6_openFor : MD := (yX6_openFor, cX6_openFor, 11, (some .int))
theorem mw_X6_openFor : mdW mdX6_openFor := ⟨wm_X6_openFor, w0_RX6, by decide, by decide⟩
theorem mn_X6_openFor : (parseMethodDescriptor yX6_openFor.desc).map (fun d => d.parameters.length) = some 5 := by decide +kernel
def j_X6_openFor_96 (t0 : Nat) (t1 : Nat) (x3 : Int32) (x4 : Int32) (x7 : Int32) (x8 : Int32) (x9 : Int32) (M : Mem) : Option (Int32 × Mem) := if inb (p_X6_startPlace x3 x9) 64 then wrt (up M (t0 + 5) (ix (p_X6_startPlace x3 x9)) x8) (fun M9 => if inb x3 8 then if inb x3 8 then wrt (up M9 (t0 + 4) (ix x3) ((M9 (t0 + 4) (ix x3)) + 1)) (fun M12 => if inb x3 8 then wrt (up M12 (t0 + 3) (ix x3) x7) (fun M14 => if inb ((x3 * 4) + 1) 32 then if inb ((x3 * 4) + 1) 32 then wrt (up M14 (t0 + 6) (ix ((x3 * 4) + 1)) ((M14 (t0 + 6) (ix ((x3 * 4) + 1))) + (M14 (t1 + 1) 0))) (fun M17 => if inb ((x3 * 4) + 2) 32 then if inb ((x3 * 4) + 2) 32 then wrt (up M17 (t0 + 6) (ix ((x3 * 4) + 2)) ((M17 (t0 + 6) (ix ((x3 * 4) + 2))) + (x8 - x4))) (fun M20 => some (x8 + (M20 (t1 + 1) 0), M20)) else none else none) else none else none) else none) else none else none) else none
set_option maxRecDepth 20000 in
set_option maxHeartbeats 2000000 in
theorem jo_X6_openFor_96 (d : Nat) (hlev : 1 ≤ d) (t0 : Nat) (h_t0 : blkAt KSx t0 blk6) (t1 : Nat) (h_t1 : blkAt KSx t1 blk4) (x3 : Int32) (x4 : Int32) (x7 : Int32) (x8 : Int32) (x9 : Int32) (M : Mem) : CorM KSx ST1 RX6 cX6_openFor 11 (some .int) d 96 [(0, .inr t0), (1, .inr t1), (3, .inl x3), (4, .inl x4), (7, .inl x7), (8, .inl x8), (9, .inl x9)] [] M (j_X6_openFor_96 t0 t1 x3 x4 x7 x8 x9 M) := by
  unfold j_X6_openFor_96
  refine c_aload_n (i := 0) dX6_openFor_96 rfl rfl ?_
  refine gf_RX6_24 (blk_get0 h_t0) dX6_openFor_97 ?_
  refine c_iload_n (i := 3) dX6_openFor_100 rfl rfl ?_
  refine c_iload dX6_openFor_101 rfl ?_
  refine c_callSp (as := [.inl x3, .inl x9]) (rs := [.inr (t0 + 5)]) (ev_X6_startPlace 0 (Nat.le_refl _) x3 x9 M) rfl (Nat.lt_of_lt_of_le (by decide) hlev) mw_X6_startPlace ws_X6_startPlace wl_RX6_121 mn_X6_startPlace rfl (by decide) (Nat.le_of_ble_eq_true rfl) ⟨_, rfl⟩ dX6_openFor_103 ?_
  refine c_iload dX6_openFor_106 rfl ?_
  refine c_chk (fun h8 => ?_)
  refine c_iast (blk_get0 (blk_sub (C := [(20, 64)]) (i := 5) h_t0 rfl)) h8 dX6_openFor_108 ?_
  refine c_wrt (fun M9 => ?_)
  refine c_aload_n (i := 0) dX6_openFor_109 rfl rfl ?_
  refine gf_RX6_21 (blk_get0 h_t0) dX6_openFor_110 ?_
  refine c_iload_n (i := 3) dX6_openFor_113 rfl rfl ?_
  refine c_dup2 dX6_openFor_114 ?_
  refine c_chk (fun h10 => ?_)
  refine c_iald (blk_get0 (blk_sub (C := [(20, 8)]) (i := 4) h_t0 rfl)) h10 dX6_openFor_115 ?_
  refine c_iconst dX6_openFor_116 (v := 1) rfl ?_
  refine c_iadd dX6_openFor_117 ?_
  refine c_chk (fun h11 => ?_)
  refine c_iast (blk_get0 (blk_sub (C := [(20, 8)]) (i := 4) h_t0 rfl)) h11 dX6_openFor_118 ?_
  refine c_wrt (fun M12 => ?_)
  refine c_aload_n (i := 0) dX6_openFor_119 rfl rfl ?_
  refine gf_RX6_18 (blk_get0 h_t0) dX6_openFor_120 ?_
  refine c_iload_n (i := 3) dX6_openFor_123 rfl rfl ?_
  refine c_iload dX6_openFor_124 rfl ?_
  refine c_chk (fun h13 => ?_)
  refine c_iast (blk_get0 (blk_sub (C := [(20, 8)]) (i := 3) h_t0 rfl)) h13 dX6_openFor_126 ?_
  refine c_wrt (fun M14 => ?_)
  refine c_aload_n (i := 0) dX6_openFor_127 rfl rfl ?_
  refine gf_RX6_27 (blk_get0 h_t0) dX6_openFor_128 ?_
  refine c_iload_n (i := 3) dX6_openFor_131 rfl rfl ?_
  refine c_iconst dX6_openFor_132 (v := 4) rfl ?_
  refine c_imul dX6_openFor_133 ?_
  refine c_iconst dX6_openFor_134 (v := 1) rfl ?_
  refine c_iadd dX6_openFor_135 ?_
  refine c_dup2 dX6_openFor_136 ?_
  refine c_chk (fun h15 => ?_)
  refine c_iald (blk_get0 (blk_sub (C := [(20, 32)]) (i := 6) h_t0 rfl)) h15 dX6_openFor_137 ?_
  refine c_aload_n (i := 1) dX6_openFor_138 rfl rfl ?_
  refine gf_RX6_124 (blk_get0 h_t1) dX6_openFor_139 ?_
  refine c_iconst dX6_openFor_142 (v := 0) rfl ?_
  refine c_iald (blk_get0 (blk_sub (C := [(20, 9)]) (i := 1) h_t1 rfl)) (by decide) dX6_openFor_143 ?_
  refine c_iadd dX6_openFor_144 ?_
  refine c_chk (fun h16 => ?_)
  refine c_iast (blk_get0 (blk_sub (C := [(20, 32)]) (i := 6) h_t0 rfl)) h16 dX6_openFor_145 ?_
  refine c_wrt (fun M17 => ?_)
  refine c_aload_n (i := 0) dX6_openFor_146 rfl rfl ?_
  refine gf_RX6_27 (blk_get0 h_t0) dX6_openFor_147 ?_
  refine c_iload_n (i := 3) dX6_openFor_150 rfl rfl ?_
  refine c_iconst dX6_openFor_151 (v := 4) rfl ?_
  refine c_imul dX6_openFor_152 ?_
  refine c_iconst dX6_openFor_153 (v := 2) rfl ?_
  refine c_iadd dX6_openFor_154 ?_
  refine c_dup2 dX6_openFor_155 ?_
  refine c_chk (fun h18 => ?_)
  refine c_iald (blk_get0 (blk_sub (C := [(20, 32)]) (i := 6) h_t0 rfl)) h18 dX6_openFor_156 ?_
  refine c_iload dX6_openFor_157 rfl ?_
  refine c_iload dX6_openFor_159 rfl ?_
  refine c_isub dX6_openFor_161 ?_
  refine c_iadd dX6_openFor_162 ?_
  refine c_chk (fun h19 => ?_)
  refine c_iast (blk_get0 (blk_sub (C := [(20, 32)]) (i := 6) h_t0 rfl)) h19 dX6_openFor_163 ?_
  refine c_wrt (fun M20 => ?_)
  refine c_iload dX6_openFor_164 rfl ?_
  refine c_aload_n (i := 1) dX6_openFor_166 rfl rfl ?_
  refine gf_RX6_124 (blk_get0 h_t1) dX6_openFor_167 ?_
  refine c_iconst dX6_openFor_170 (v := 0) rfl ?_
  refine c_iald (blk_get0 (blk_sub (C := [(20, 9)]) (i := 1) h_t1 rfl)) (by decide) dX6_openFor_171 ?_
  refine c_iadd dX6_openFor_172 ?_
  exact c_iret rfl dX6_openFor_173
def j_X6_openFor_41 (x4 : Int32) (M : Mem) : Option (Int32 × Mem) := some (x4, M)
set_option maxRecDepth 20000 in
set_option maxHeartbeats 2000000 in
theorem jo_X6_openFor_41 (d : Nat) (hlev : 1 ≤ d) (x4 : Int32) (M : Mem) : CorM KSx ST1 RX6 cX6_openFor 11 (some .int) d 41 [(4, .inl x4)] [] M (j_X6_openFor_41 x4 M) := by
  unfold j_X6_openFor_41
  refine c_iload dX6_openFor_41 rfl ?_
  exact c_iret rfl dX6_openFor_43
def j_X6_openFor_30 (t0 : Nat) (t1 : Nat) (x3 : Int32) (x4 : Int32) (x5 : Int32) (x7 : Int32) (M : Mem) : Option (Int32 × Mem) := if inb x3 8 then if ¬ (M (t0 + 3) (ix x3)) = x7 then if inb x3 8 then if (M (t0 + 4) (ix x3)) < x5 then j_X6_openFor_96 t0 t1 x3 x4 x7 x4 (M (t0 + 4) (ix x3)) M else if inb (p_X6_startPlace x3 ((M (t0 + 4) (ix x3)) - x5)) 64 then j_X6_openFor_96 t0 t1 x3 x4 x7 (imax x4 ((M (t0 + 5) (ix (p_X6_startPlace x3 ((M (t0 + 4) (ix x3)) - x5)))) + (M (t1 + 1) 6))) (M (t0 + 4) (ix x3)) M else none else none else j_X6_openFor_41 x4 M else none
set_option maxRecDepth 20000 in
set_option maxHeartbeats 2000000 in
theorem jo_X6_openFor_30 (d : Nat) (hlev : 1 ≤ d) (t0 : Nat) (h_t0 : blkAt KSx t0 blk6) (t1 : Nat) (h_t1 : blkAt KSx t1 blk4) (x3 : Int32) (x4 : Int32) (x5 : Int32) (x7 : Int32) (M : Mem) : CorM KSx ST1 RX6 cX6_openFor 11 (some .int) d 30 [(0, .inr t0), (1, .inr t1), (3, .inl x3), (4, .inl x4), (5, .inl x5), (7, .inl x7)] [] M (j_X6_openFor_30 t0 t1 x3 x4 x5 x7 M) := by
  unfold j_X6_openFor_30
  refine c_aload_n (i := 0) dX6_openFor_30 rfl rfl ?_
  refine gf_RX6_18 (blk_get0 h_t0) dX6_openFor_31 ?_
  refine c_iload_n (i := 3) dX6_openFor_34 rfl rfl ?_
  refine c_chk (fun h4 => ?_)
  refine c_iald (blk_get0 (blk_sub (C := [(20, 8)]) (i := 3) h_t0 rfl)) h4 dX6_openFor_35 ?_
  refine c_iload dX6_openFor_36 rfl ?_
  refine c_icmp_ne (tgt := 44) dX6_openFor_38 rfl (fun h5 => ?_) (fun h5 => ?_)
  · refine c_iload dX6_openFor_44 rfl ?_
    refine c_istore dX6_openFor_46 (by decide) (ls2 := [(0, .inr t0), (1, .inr t1), (3, .inl x3), (4, .inl x4), (5, .inl x5), (7, .inl x7), (8, .inl x4)]) rfl ?_
    refine c_aload_n (i := 0) dX6_openFor_48 rfl rfl ?_
    refine gf_RX6_21 (blk_get0 h_t0) dX6_openFor_49 ?_
    refine c_iload_n (i := 3) dX6_openFor_52 rfl rfl ?_
    refine c_chk (fun h6 => ?_)
    refine c_iald (blk_get0 (blk_sub (C := [(20, 8)]) (i := 4) h_t0 rfl)) h6 dX6_openFor_53 ?_
    refine c_istore dX6_openFor_54 (by decide) (ls2 := [(0, .inr t0), (1, .inr t1), (3, .inl x3), (4, .inl x4), (5, .inl x5), (7, .inl x7), (8, .inl x4), (9, .inl (M (t0 + 4) (ix x3)))]) rfl ?_
    refine c_iload dX6_openFor_56 rfl ?_
    refine c_iload dX6_openFor_58 rfl ?_
    refine c_icmp_lt (tgt := 96) dX6_openFor_60 rfl (fun h7 => ?_) (fun h7 => ?_)
    · refine c_keep [0, 1, 3, 4, 7, 8, 9] (ls2 := [(0, .inr t0), (1, .inr t1), (3, .inl x3), (4, .inl x4), (7, .inl x7), (8, .inl x4), (9, .inl (M (t0 + 4) (ix x3)))]) rfl ?_
      exact jo_X6_openFor_96 d hlev t0 h_t0 t1 h_t1 x3 x4 x7 x4 (M (t0 + 4) (ix x3)) M
    · refine c_aload_n (i := 0) dX6_openFor_63 rfl rfl ?_
      refine gf_RX6_24 (blk_get0 h_t0) dX6_openFor_64 ?_
      refine c_iload_n (i := 3) dX6_openFor_67 rfl rfl ?_
      refine c_iload dX6_openFor_68 rfl ?_
      refine c_iload dX6_openFor_70 rfl ?_
      refine c_isub dX6_openFor_72 ?_
      refine c_callSp (as := [.inl x3, .inl ((M (t0 + 4) (ix x3)) - x5)]) (rs := [.inr (t0 + 5)]) (ev_X6_startPlace 0 (Nat.le_refl _) x3 ((M (t0 + 4) (ix x3)) - x5) M) rfl (Nat.lt_of_lt_of_le (by decide) hlev) mw_X6_startPlace ws_X6_startPlace wl_RX6_121 mn_X6_startPlace rfl (by decide) (Nat.le_of_ble_eq_true rfl) ⟨_, rfl⟩ dX6_openFor_73 ?_
      refine c_chk (fun h21 => ?_)
      refine c_iald (blk_get0 (blk_sub (C := [(20, 64)]) (i := 5) h_t0 rfl)) h21 dX6_openFor_76 ?_
      refine c_istore dX6_openFor_77 (by decide) (ls2 := [(0, .inr t0), (1, .inr t1), (3, .inl x3), (4, .inl x4), (5, .inl x5), (7, .inl x7), (8, .inl x4), (9, .inl (M (t0 + 4) (ix x3))), (10, .inl (M (t0 + 5) (ix (p_X6_startPlace x3 ((M (t0 + 4) (ix x3)) - x5)))))]) rfl ?_
      refine c_iload dX6_openFor_79 rfl ?_
      refine c_iload dX6_openFor_81 rfl ?_
      refine c_aload_n (i := 1) dX6_openFor_83 rfl rfl ?_
      refine gf_RX6_124 (blk_get0 h_t1) dX6_openFor_84 ?_
      refine c_bipush dX6_openFor_87 (v := 6) rfl ?_
      refine c_iald (blk_get0 (blk_sub (C := [(20, 9)]) (i := 1) h_t1 rfl)) (by decide) dX6_openFor_89 ?_
      refine c_iadd dX6_openFor_90 ?_
      refine c_max wl_RX6_59 (Nat.lt_of_lt_of_le (by decide) hlev) (Nat.le_of_ble_eq_true rfl) dX6_openFor_91 ?_
      refine c_istore dX6_openFor_94 (by decide) (ls2 := [(0, .inr t0), (1, .inr t1), (3, .inl x3), (4, .inl x4), (5, .inl x5), (7, .inl x7), (8, .inl (imax x4 ((M (t0 + 5) (ix (p_X6_startPlace x3 ((M (t0 + 4) (ix x3)) - x5)))) + (M (t1 + 1) 6)))), (9, .inl (M (t0 + 4) (ix x3))), (10, .inl (M (t0 + 5) (ix (p_X6_startPlace x3 ((M (t0 + 4) (ix x3)) - x5)))))]) rfl ?_
      refine c_keep [0, 1, 3, 4, 7, 8, 9] (ls2 := [(0, .inr t0), (1, .inr t1), (3, .inl x3), (4, .inl x4), (7, .inl x7), (8, .inl (imax x4 ((M (t0 + 5) (ix (p_X6_startPlace x3 ((M (t0 + 4) (ix x3)) - x5)))) + (M (t1 + 1) 6)))), (9, .inl (M (t0 + 4) (ix x3)))]) rfl ?_
      exact jo_X6_openFor_96 d hlev t0 h_t0 t1 h_t1 x3 x4 x7 (imax x4 ((M (t0 + 5) (ix (p_X6_startPlace x3 ((M (t0 + 4) (ix x3)) - x5)))) + (M (t1 + 1) 6))) (M (t0 + 4) (ix x3)) M
  · refine c_keep [4] (ls2 := [(4, .inl x4)]) rfl ?_
    exact jo_X6_openFor_41 d hlev x4 M
def f_X6_openFor (t0 : Nat) (t1 : Nat) (x2 : Int32) (x3 : Int32) (x4 : Int32) (x5 : Int32) (M : Mem) : Option (Int32 × Mem) := if inb x2 60 then if inb x2 60 then if (M (t1 + 5) (ix x2)) = 9 then j_X6_openFor_30 t0 t1 x3 x4 x5 (M (t1 + 8) (ix x2)) M else if ¬ (M (t1 + 5) (ix x2)) = 10 then j_X6_openFor_41 x4 M else j_X6_openFor_30 t0 t1 x3 x4 x5 (M (t1 + 8) (ix x2)) M else none else none
set_option maxRecDepth 20000 in
set_option maxHeartbeats 2000000 in
theorem ev_X6_openFor (d : Nat) (hlev : 1 ≤ d) (t0 : Nat) (h_t0 : blkAt KSx t0 blk6) (t1 : Nat) (h_t1 : blkAt KSx t1 blk4) (x2 : Int32) (x3 : Int32) (x4 : Int32) (x5 : Int32) (M : Mem) : Ev KSx ST1 mdX6_openFor d [.inr t0, .inr t1, .inl x2, .inl x3, .inl x4, .inl x5] M (f_X6_openFor t0 t1 x2 x3 x4 x5 M) := by
  refine ev_of rfl (Nat.le_of_ble_eq_true rfl) ?_
  show CorM KSx ST1 RX6 cX6_openFor 11 (some .int) d 0 [(0, .inr t0), (1, .inr t1), (2, .inl x2), (3, .inl x3), (4, .inl x4), (5, .inl x5)] [] M (f_X6_openFor t0 t1 x2 x3 x4 x5 M)
  unfold f_X6_openFor
  refine c_aload_n (i := 1) dX6_openFor_0 rfl rfl ?_
  refine gf_RX6_73 (blk_get0 h_t1) dX6_openFor_1 ?_
  refine c_iload_n (i := 2) dX6_openFor_4 rfl rfl ?_
  refine c_chk (fun h1 => ?_)
  refine c_iald (blk_get0 (blk_sub (C := [(20, 60)]) (i := 5) h_t1 rfl)) h1 dX6_openFor_5 ?_
  refine c_istore dX6_openFor_6 (by decide) (ls2 := [(0, .inr t0), (1, .inr t1), (2, .inl x2), (3, .inl x3), (4, .inl x4), (5, .inl x5), (6, .inl (M (t1 + 5) (ix x2)))]) rfl ?_
  refine c_aload_n (i := 1) dX6_openFor_8 rfl rfl ?_
  refine gf_RX6_115 (blk_get0 h_t1) dX6_openFor_9 ?_
  refine c_iload_n (i := 2) dX6_openFor_12 rfl rfl ?_
  refine c_chk (fun h2 => ?_)
  refine c_iald (blk_get0 (blk_sub (C := [(20, 60)]) (i := 8) h_t1 rfl)) h2 dX6_openFor_13 ?_
  refine c_istore dX6_openFor_14 (by decide) (ls2 := [(0, .inr t0), (1, .inr t1), (2, .inl x2), (3, .inl x3), (4, .inl x4), (5, .inl x5), (6, .inl (M (t1 + 5) (ix x2))), (7, .inl (M (t1 + 8) (ix x2)))]) rfl ?_
  refine c_iload dX6_openFor_16 rfl ?_
  refine c_bipush dX6_openFor_18 (v := 9) rfl ?_
  refine c_icmp_eq (tgt := 30) dX6_openFor_20 rfl (fun h3 => ?_) (fun h3 => ?_)
  · refine c_keep [0, 1, 3, 4, 5, 7] (ls2 := [(0, .inr t0), (1, .inr t1), (3, .inl x3), (4, .inl x4), (5, .inl x5), (7, .inl (M (t1 + 8) (ix x2)))]) rfl ?_
    exact jo_X6_openFor_30 d hlev t0 h_t0 t1 h_t1 x3 x4 x5 (M (t1 + 8) (ix x2)) M
  · refine c_iload dX6_openFor_23 rfl ?_
    refine c_bipush dX6_openFor_25 (v := 10) rfl ?_
    refine c_icmp_ne (tgt := 41) dX6_openFor_27 rfl (fun h22 => ?_) (fun h22 => ?_)
    · refine c_keep [4] (ls2 := [(4, .inl x4)]) rfl ?_
      exact jo_X6_openFor_41 d hlev x4 M
    · refine c_keep [0, 1, 3, 4, 5, 7] (ls2 := [(0, .inr t0), (1, .inr t1), (3, .inl x3), (4, .inl x4), (5, .inl x5), (7, .inl (M (t1 + 8) (ix x2)))]) rfl ?_
      exact jo_X6_openFor_30 d hlev t0 h_t0 t1 h_t1 x3 x4 x5 (M (t1 + 8) (ix x2)) M

abbrev mdX6_execute : MD := (yX6_execute, cX6_execute, 6, none)
theorem mw_X6_execute : mdW mdX6_execute := ⟨wm_X6_execute, w0_RX6, by decide, by decide⟩
theorem mn_X6_execute : (parseMethodDescriptor yX6_execute.desc).map (fun d => d.parameters.length) = some 4 := by decide +kernel
def j_X6_execute_60 (M : Mem) : Option (Int32 × Mem) := some (0, M)
set_option maxRecDepth 20000 in
set_option maxHeartbeats 2000000 in
theorem jo_X6_execute_60 (d : Nat) (hlev : 0 ≤ d) (M : Mem) : CorM KSx ST1 RX6 cX6_execute 6 none d 60 [] [] M (j_X6_execute_60 M) := by
  unfold j_X6_execute_60
  exact c_vret rfl dX6_execute_60
def f_X6_execute (t0 : Nat) (t1 : Nat) (x2 : Int32) (x3 : Int32) (x4 : Int32) (M : Mem) : Option (Int32 × Mem) := if inb x2 60 then if inb x2 60 then if ¬ (M (t1 + 5) (ix x2)) = 10 then if inb x3 8 then wrt (up M (t0 + 1) (ix x3) (x4 + 1)) (fun M5 => if inb x2 60 then if inb ((x3 * 4) + (M5 (t1 + 7) (ix x2))) 32 then wrt (up M5 (t0 + 2) (ix ((x3 * 4) + (M5 (t1 + 7) (ix x2)))) (x4 + (M (t1 + 10) (ix x2)))) (fun M8 => j_X6_execute_60 M8) else none else none) else none else if inb x3 8 then wrt (up M (t0 + 1) (ix x3) (x4 + (M (t1 + 10) (ix x2)))) (fun M10 => j_X6_execute_60 M10) else none else none else none
set_option maxRecDepth 20000 in
set_option maxHeartbeats 2000000 in
theorem ev_X6_execute (d : Nat) (hlev : 0 ≤ d) (t0 : Nat) (h_t0 : blkAt KSx t0 blk6) (t1 : Nat) (h_t1 : blkAt KSx t1 blk4) (x2 : Int32) (x3 : Int32) (x4 : Int32) (M : Mem) : Ev KSx ST1 mdX6_execute d [.inr t0, .inr t1, .inl x2, .inl x3, .inl x4] M (f_X6_execute t0 t1 x2 x3 x4 M) := by
  refine ev_of rfl (Nat.le_of_ble_eq_true rfl) ?_
  show CorM KSx ST1 RX6 cX6_execute 6 none d 0 [(0, .inr t0), (1, .inr t1), (2, .inl x2), (3, .inl x3), (4, .inl x4)] [] M (f_X6_execute t0 t1 x2 x3 x4 M)
  unfold f_X6_execute
  refine c_iload dX6_execute_0 rfl ?_
  refine c_aload_n (i := 1) dX6_execute_2 rfl rfl ?_
  refine gf_RX6_101 (blk_get0 h_t1) dX6_execute_3 ?_
  refine c_iload_n (i := 2) dX6_execute_6 rfl rfl ?_
  refine c_chk (fun h1 => ?_)
  refine c_iald (blk_get0 (blk_sub (C := [(20, 60)]) (i := 10) h_t1 rfl)) h1 dX6_execute_7 ?_
  refine c_iadd dX6_execute_8 ?_
  refine c_istore dX6_execute_9 (by decide) (ls2 := [(0, .inr t0), (1, .inr t1), (2, .inl x2), (3, .inl x3), (4, .inl x4), (5, .inl (x4 + (M (t1 + 10) (ix x2))))]) rfl ?_
  refine c_aload_n (i := 1) dX6_execute_11 rfl rfl ?_
  refine gf_RX6_73 (blk_get0 h_t1) dX6_execute_12 ?_
  refine c_iload_n (i := 2) dX6_execute_15 rfl rfl ?_
  refine c_chk (fun h2 => ?_)
  refine c_iald (blk_get0 (blk_sub (C := [(20, 60)]) (i := 5) h_t1 rfl)) h2 dX6_execute_16 ?_
  refine c_bipush dX6_execute_17 (v := 10) rfl ?_
  refine c_icmp_ne (tgt := 33) dX6_execute_19 rfl (fun h3 => ?_) (fun h3 => ?_)
  · refine c_aload_n (i := 0) dX6_execute_33 rfl rfl ?_
    refine gf_RX6_9 (blk_get0 h_t0) dX6_execute_34 ?_
    refine c_iload_n (i := 3) dX6_execute_37 rfl rfl ?_
    refine c_iload dX6_execute_38 rfl ?_
    refine c_iconst dX6_execute_40 (v := 1) rfl ?_
    refine c_iadd dX6_execute_41 ?_
    refine c_chk (fun h4 => ?_)
    refine c_iast (blk_get0 (blk_sub (C := [(20, 8)]) (i := 1) h_t0 rfl)) h4 dX6_execute_42 ?_
    refine c_wrt (fun M5 => ?_)
    refine c_aload_n (i := 0) dX6_execute_43 rfl rfl ?_
    refine gf_RX6_15 (blk_get0 h_t0) dX6_execute_44 ?_
    refine c_iload_n (i := 3) dX6_execute_47 rfl rfl ?_
    refine c_iconst dX6_execute_48 (v := 4) rfl ?_
    refine c_imul dX6_execute_49 ?_
    refine c_aload_n (i := 1) dX6_execute_50 rfl rfl ?_
    refine gf_RX6_92 (blk_get0 h_t1) dX6_execute_51 ?_
    refine c_iload_n (i := 2) dX6_execute_54 rfl rfl ?_
    refine c_chk (fun h6 => ?_)
    refine c_iald (blk_get0 (blk_sub (C := [(20, 60)]) (i := 7) h_t1 rfl)) h6 dX6_execute_55 ?_
    refine c_iadd dX6_execute_56 ?_
    refine c_iload dX6_execute_57 rfl ?_
    refine c_chk (fun h7 => ?_)
    refine c_iast (blk_get0 (blk_sub (C := [(20, 32)]) (i := 2) h_t0 rfl)) h7 dX6_execute_59 ?_
    refine c_wrt (fun M8 => ?_)
    refine c_keep [] (ls2 := []) rfl ?_
    exact jo_X6_execute_60 d hlev M8
  · refine c_aload_n (i := 0) dX6_execute_22 rfl rfl ?_
    refine gf_RX6_9 (blk_get0 h_t0) dX6_execute_23 ?_
    refine c_iload_n (i := 3) dX6_execute_26 rfl rfl ?_
    refine c_iload dX6_execute_27 rfl ?_
    refine c_chk (fun h9 => ?_)
    refine c_iast (blk_get0 (blk_sub (C := [(20, 8)]) (i := 1) h_t0 rfl)) h9 dX6_execute_29 ?_
    refine c_wrt (fun M10 => ?_)
    refine c_goto (tgt := 60) dX6_execute_30 rfl ?_
    refine c_keep [] (ls2 := []) rfl ?_
    exact jo_X6_execute_60 d hlev M10
