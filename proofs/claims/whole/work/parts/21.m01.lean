abbrev mdX1_differs : MD := (yX1_differs, cX1_differs, 5, (some .boolean))
theorem mw_X1_differs : mdW mdX1_differs := ⟨wm_X1_differs, w0_RX1, by decide, by decide⟩
theorem mn_X1_differs : (parseMethodDescriptor yX1_differs.desc).map (fun d => d.parameters.length) = some 3 := by decide +kernel
def l_X1_differs_3 (t0 : Nat) (x1 : Int32) (x2 : Int32) (t3 : Nat) (K3 : Int32 × Mem → Option (Int32 × Mem)) : Int32 × Mem → Option (Int32 × Mem) := fun s => match s with
  | (x4, M) => if x2 ≤ x4 then some (0, M) else if inb ((x1 * 8) + x4) 64 then if inb x1 8 then if inb (((M (t0 + 1) (ix x1)) * 8) + x4) 1024 then if (M (t0 + 4) (ix ((x1 * 8) + x4))) = (M (t3 + 1) (ix (((M (t0 + 1) (ix x1)) * 8) + x4))) then K3 (x4 + 1, M) else some (1, M) else none else none else none
set_option maxRecDepth 20000 in
set_option maxHeartbeats 2000000 in
theorem lo_X1_differs_3 (d : Nat) (hlev : 0 ≤ d) (t0 : Nat) (h_t0 : blkAt KSx t0 blk1) (x1 : Int32) (x2 : Int32) (t3 : Nat) (h_t3 : blkAt KSx t3 blk8) (s : Int32 × Mem) : CorM KSx ST1 RX1 cX1_differs 5 (some .boolean) d 3 [(0, .inr t0), (1, .inl x1), (2, .inl x2), (3, .inr t3), (4, .inl s.1)] [] s.2 (loopC (l_X1_differs_3 t0 x1 x2 t3) fuelL s) := by
  refine c_loop (L := fun s : Int32 × Mem => [(0, .inr t0), (1, .inl x1), (2, .inl x2), (3, .inr t3), (4, .inl s.1)]) (Mf := fun s : Int32 × Mem => s.2) (fun K3 hK3 s => ?_) fuelL s
  obtain ⟨x4, M⟩ := s
  show CorM KSx ST1 RX1 cX1_differs 5 (some .boolean) d 3 [(0, .inr t0), (1, .inl x1), (2, .inl x2), (3, .inr t3), (4, .inl x4)] [] M (l_X1_differs_3 t0 x1 x2 t3 K3 (x4, M))
  unfold l_X1_differs_3
  refine c_iload dX1_differs_3 rfl ?_
  refine c_iload_n (i := 2) dX1_differs_5 rfl rfl ?_
  refine c_icmp_ge (tgt := 49) dX1_differs_6 rfl (fun h1 => ?_) (fun h1 => ?_)
  · refine c_iconst dX1_differs_49 (v := 0) rfl ?_
    exact c_zret rfl (Or.inl rfl) dX1_differs_50
  · refine c_aload_n (i := 0) dX1_differs_9 rfl rfl ?_
    refine gf_RX1_22 (blk_get0 h_t0) dX1_differs_10 ?_
    refine c_iload_n (i := 1) dX1_differs_13 rfl rfl ?_
    refine c_bipush dX1_differs_14 (v := 8) rfl ?_
    refine c_imul dX1_differs_16 ?_
    refine c_iload dX1_differs_17 rfl ?_
    refine c_iadd dX1_differs_19 ?_
    refine c_chk (fun h2 => ?_)
    refine c_iald (blk_get0 (blk_sub (C := [(20, 64)]) (i := 4) h_t0 rfl)) h2 dX1_differs_20 ?_
    refine c_aload_n (i := 3) dX1_differs_21 rfl rfl ?_
    refine gf_RX1_68 (blk_get0 h_t3) dX1_differs_22 ?_
    refine c_aload_n (i := 0) dX1_differs_25 rfl rfl ?_
    refine gf_RX1_9 (blk_get0 h_t0) dX1_differs_26 ?_
    refine c_iload_n (i := 1) dX1_differs_29 rfl rfl ?_
    refine c_chk (fun h3 => ?_)
    refine c_iald (blk_get0 (blk_sub (C := [(20, 8)]) (i := 1) h_t0 rfl)) h3 dX1_differs_30 ?_
    refine c_bipush dX1_differs_31 (v := 8) rfl ?_
    refine c_imul dX1_differs_33 ?_
    refine c_iload dX1_differs_34 rfl ?_
    refine c_iadd dX1_differs_36 ?_
    refine c_chk (fun h4 => ?_)
    refine c_iald (blk_get0 (blk_sub (C := [(20, 1024)]) (i := 1) h_t3 rfl)) h4 dX1_differs_37 ?_
    refine c_icmp_eq (tgt := 43) dX1_differs_38 rfl (fun h5 => ?_) (fun h5 => ?_)
    · refine c_iinc dX1_differs_43 rfl (v := 1) rfl (by decide) (ls2 := [(0, .inr t0), (1, .inl x1), (2, .inl x2), (3, .inr t3), (4, .inl (x4 + 1))]) rfl ?_
      refine c_goto (tgt := 3) dX1_differs_46 rfl ?_
      refine c_keep [0, 1, 2, 3, 4] (ls2 := [(0, .inr t0), (1, .inl x1), (2, .inl x2), (3, .inr t3), (4, .inl (x4 + 1))]) rfl ?_
      exact hK3 (x4 + 1, M)
    · refine c_iconst dX1_differs_41 (v := 1) rfl ?_
      exact c_zret rfl (Or.inr rfl) dX1_differs_42
def f_X1_differs (t0 : Nat) (x1 : Int32) (x2 : Int32) (t3 : Nat) (M : Mem) : Option (Int32 × Mem) := loopC (l_X1_differs_3 t0 x1 x2 t3) fuelL (0, M)
set_option maxRecDepth 20000 in
set_option maxHeartbeats 2000000 in
theorem ev_X1_differs (d : Nat) (hlev : 0 ≤ d) (t0 : Nat) (h_t0 : blkAt KSx t0 blk1) (x1 : Int32) (x2 : Int32) (t3 : Nat) (h_t3 : blkAt KSx t3 blk8) (M : Mem) : Ev KSx ST1 mdX1_differs d [.inr t0, .inl x1, .inl x2, .inr t3] M (f_X1_differs t0 x1 x2 t3 M) := by
  refine ev_of rfl (Nat.le_of_ble_eq_true rfl) ?_
  show CorM KSx ST1 RX1 cX1_differs 5 (some .boolean) d 0 [(0, .inr t0), (1, .inl x1), (2, .inl x2), (3, .inr t3)] [] M (f_X1_differs t0 x1 x2 t3 M)
  unfold f_X1_differs
  refine c_iconst dX1_differs_0 (v := 0) rfl ?_
  refine c_istore dX1_differs_1 (by decide) (ls2 := [(0, .inr t0), (1, .inl x1), (2, .inl x2), (3, .inr t3), (4, .inl 0)]) rfl ?_
  refine c_keep [0, 1, 2, 3, 4] (ls2 := [(0, .inr t0), (1, .inl x1), (2, .inl x2), (3, .inr t3), (4, .inl 0)]) rfl ?_
  exact lo_X1_differs_3 d hlev t0 h_t0 x1 x2 t3 h_t3 (0, M)

abbrev mdX4_rowBit : MD := (yX4_rowBit, cX4_rowBit, 1, (some .int))
theorem mw_X4_rowBit : mdW mdX4_rowBit := ⟨wm_X4_rowBit, w0_RX4, by decide, by decide⟩
theorem mn_X4_rowBit : (parseMethodDescriptor yX4_rowBit.desc).map (fun d => d.parameters.length) = some 1 := by decide +kernel
def p_X4_rowBit (x0 : Int32) : Int32 := 1 <<< ((4 + x0) &&& 31)
set_option maxRecDepth 20000 in
set_option maxHeartbeats 2000000 in
theorem ev_X4_rowBit (d : Nat) (hlev : 0 ≤ d) (x0 : Int32) (M : Mem) : Ev KSx ST1 mdX4_rowBit d [.inl x0] M (some (p_X4_rowBit x0, M)) := by
  refine ev_of rfl (Nat.le_of_ble_eq_true rfl) ?_
  show CorM KSx ST1 RX4 cX4_rowBit 1 (some .int) d 0 [(0, .inl x0)] [] M (some (p_X4_rowBit x0, M))
  unfold p_X4_rowBit
  refine c_iconst dX4_rowBit_0 (v := 1) rfl ?_
  refine c_iconst dX4_rowBit_1 (v := 4) rfl ?_
  refine c_iload_n (i := 0) dX4_rowBit_2 rfl rfl ?_
  refine c_iadd dX4_rowBit_3 ?_
  refine c_ishl dX4_rowBit_4 ?_
  exact c_iret rfl dX4_rowBit_5

abbrev mdX4_accessesRow : MD := (yX4_accessesRow, cX4_accessesRow, 5, (some .boolean))
theorem mw_X4_accessesRow : mdW mdX4_accessesRow := ⟨wm_X4_accessesRow, w0_RX4, by decide, by decide⟩
theorem mn_X4_accessesRow : (parseMethodDescriptor yX4_accessesRow.desc).map (fun d => d.parameters.length) = some 3 := by decide +kernel
def f_X4_accessesRow (t0 : Nat) (x1 : Int32) (x2 : Int32) (x3 : Int32) (M : Mem) : Option (Int32 × Mem) := if inb ((x1 * 8) + x2) 96 then if inb ((x1 * 8) + x2) 96 then some ((if (((M (t0 + 11) (ix ((x1 * 8) + x2))) ||| (M (t0 + 12) (ix ((x1 * 8) + x2)))) &&& (p_X4_rowBit x3)) = 0 then (0 : Int32) else (1 : Int32)), M) else none else none
set_option maxRecDepth 20000 in
set_option maxHeartbeats 2000000 in
theorem ev_X4_accessesRow (d : Nat) (hlev : 1 ≤ d) (t0 : Nat) (h_t0 : blkAt KSx t0 blk4) (x1 : Int32) (x2 : Int32) (x3 : Int32) (M : Mem) : Ev KSx ST1 mdX4_accessesRow d [.inr t0, .inl x1, .inl x2, .inl x3] M (f_X4_accessesRow t0 x1 x2 x3 M) := by
  refine ev_of rfl (Nat.le_of_ble_eq_true rfl) ?_
  show CorM KSx ST1 RX4 cX4_accessesRow 5 (some .boolean) d 0 [(0, .inr t0), (1, .inl x1), (2, .inl x2), (3, .inl x3)] [] M (f_X4_accessesRow t0 x1 x2 x3 M)
  unfold f_X4_accessesRow
  refine c_iload_n (i := 1) dX4_accessesRow_0 rfl rfl ?_
  refine c_bipush dX4_accessesRow_1 (v := 8) rfl ?_
  refine c_imul dX4_accessesRow_3 ?_
  refine c_iload_n (i := 2) dX4_accessesRow_4 rfl rfl ?_
  refine c_iadd dX4_accessesRow_5 ?_
  refine c_istore dX4_accessesRow_6 (by decide) (ls2 := [(0, .inr t0), (1, .inl x1), (2, .inl x2), (3, .inl x3), (4, .inl ((x1 * 8) + x2))]) rfl ?_
  refine c_aload_n (i := 0) dX4_accessesRow_8 rfl rfl ?_
  refine gf_RX4_42 (blk_get0 h_t0) dX4_accessesRow_9 ?_
  refine c_iload dX4_accessesRow_12 rfl ?_
  refine c_chk (fun h1 => ?_)
  refine c_iald (blk_get0 (blk_sub (C := [(20, 96)]) (i := 11) h_t0 rfl)) h1 dX4_accessesRow_14 ?_
  refine c_aload_n (i := 0) dX4_accessesRow_15 rfl rfl ?_
  refine gf_RX4_45 (blk_get0 h_t0) dX4_accessesRow_16 ?_
  refine c_iload dX4_accessesRow_19 rfl ?_
  refine c_chk (fun h2 => ?_)
  refine c_iald (blk_get0 (blk_sub (C := [(20, 96)]) (i := 12) h_t0 rfl)) h2 dX4_accessesRow_21 ?_
  refine c_ior dX4_accessesRow_22 ?_
  refine c_iload_n (i := 3) dX4_accessesRow_23 rfl rfl ?_
  refine c_callSp (as := [.inl x3]) (rs := [.inl ((M (t0 + 11) (ix ((x1 * 8) + x2))) ||| (M (t0 + 12) (ix ((x1 * 8) + x2))))]) (ev_X4_rowBit 0 (Nat.le_refl _) x3 M) rfl (Nat.lt_of_lt_of_le (by decide) hlev) mw_X4_rowBit ws_X4_rowBit wl_RX4_109 mn_X4_rowBit rfl (by decide) (Nat.le_of_ble_eq_true rfl) ⟨_, rfl⟩ dX4_accessesRow_24 ?_
  refine c_iand dX4_accessesRow_27 ?_
  have J_z3 : ∀ z3 : Int32, isB z3 → CorM KSx ST1 RX4 cX4_accessesRow 5 (some .boolean) d 36 [] [.inl z3] M (some (z3, M)) := by
    intro z3 h_z3
    exact c_zret rfl h_z3 dX4_accessesRow_36
  refine c_val (b := (((M (t0 + 11) (ix ((x1 * 8) + x2))) ||| (M (t0 + 12) (ix ((x1 * 8) + x2)))) &&& (p_X4_rowBit x3)) = 0) (v1 := (0 : Int32)) (v2 := (1 : Int32)) (F := fun z3 => some (z3, M)) (fun h4 => ?_) (fun h4 => ?_)
  · refine c_T h4 (c_if_eq (tgt := 35) dX4_accessesRow_28 rfl (fun _ => ?_) (fun q => absurd h4 q))
    refine c_iconst dX4_accessesRow_35 (v := 0) rfl ?_
    refine c_keep [] (ls2 := []) rfl ?_
    exact J_z3 0 (Or.inl rfl)
  · refine c_Fl h4 (c_if_eq (tgt := 35) dX4_accessesRow_28 rfl (fun q => absurd q h4) (fun _ => ?_))
    refine c_iconst dX4_accessesRow_31 (v := 1) rfl ?_
    refine c_goto (tgt := 36) dX4_accessesRow_32 rfl ?_
    refine c_keep [] (ls2 := []) rfl ?_
    exact J_z3 1 (Or.inr rfl)

abbrev mdX1_writeBackAccessed : MD := (yX1_writeBackAccessed, cX1_writeBackAccessed, 6, none)
theorem mw_X1_writeBackAccessed : mdW mdX1_writeBackAccessed := ⟨wm_X1_writeBackAccessed, w0_RX1, by decide, by decide⟩
theorem mn_X1_writeBackAccessed : (parseMethodDescriptor yX1_writeBackAccessed.desc).map (fun d => d.parameters.length) = some 3 := by decide +kernel
def j_X1_writeBackAccessed_51 (t0 : Nat) (t1 : Nat) (x2 : Int32) (t3 : Nat) (x4 : Int32) (K3 : Int32 × Mem → Option (Int32 × Mem)) (M : Mem) : Option (Int32 × Mem) := K3 (x4 + 1, M)
set_option maxRecDepth 20000 in
set_option maxHeartbeats 2000000 in
theorem jo_X1_writeBackAccessed_51 (d : Nat) (hlev : 3 ≤ d) (t0 : Nat) (h_t0 : blkAt KSx t0 blk1) (t1 : Nat) (h_t1 : blkAt KSx t1 blk4) (x2 : Int32) (t3 : Nat) (h_t3 : blkAt KSx t3 blk8) (x4 : Int32) (K3 : Int32 × Mem → Option (Int32 × Mem)) (hK3 : ∀ s : Int32 × Mem, CorM KSx ST1 RX1 cX1_writeBackAccessed 6 none d 3 [(0, .inr t0), (1, .inr t1), (2, .inl x2), (3, .inr t3), (4, .inl s.1)] [] s.2 (K3 s)) (M : Mem) : CorM KSx ST1 RX1 cX1_writeBackAccessed 6 none d 51 [(0, .inr t0), (1, .inr t1), (2, .inl x2), (3, .inr t3), (4, .inl x4)] [] M (j_X1_writeBackAccessed_51 t0 t1 x2 t3 x4 K3 M) := by
  unfold j_X1_writeBackAccessed_51
  refine c_iinc dX1_writeBackAccessed_51 rfl (v := 1) rfl (by decide) (ls2 := [(0, .inr t0), (1, .inr t1), (2, .inl x2), (3, .inr t3), (4, .inl (x4 + 1))]) rfl ?_
  refine c_goto (tgt := 3) dX1_writeBackAccessed_54 rfl ?_
  refine c_keep [0, 1, 2, 3, 4] (ls2 := [(0, .inr t0), (1, .inr t1), (2, .inl x2), (3, .inr t3), (4, .inl (x4 + 1))]) rfl ?_
  exact hK3 (x4 + 1, M)
def l_X1_writeBackAccessed_3 (t0 : Nat) (t1 : Nat) (x2 : Int32) (t3 : Nat) (K3 : Int32 × Mem → Option (Int32 × Mem)) : Int32 × Mem → Option (Int32 × Mem) := fun s => match s with
  | (x4, M) => if 8 ≤ x4 then some (0, M) else if inb x4 8 then if (M (t0 + 1) (ix x4)) = (-1) then j_X1_writeBackAccessed_51 t0 t1 x2 t3 x4 K3 M else bnd (f_X4_accessesRow t1 x2 ((M (t0 + 1) (ix x4)) / 16) (jrem (M (t0 + 1) (ix x4)) 16) M) (fun v4 M5 => if v4 = 0 then j_X1_writeBackAccessed_51 t0 t1 x2 t3 x4 K3 M5 else bnd (f_X1_writeBack t0 x4 t3 M5) (fun v7 M8 => j_X1_writeBackAccessed_51 t0 t1 x2 t3 x4 K3 M8)) else none
set_option maxRecDepth 20000 in
set_option maxHeartbeats 2000000 in
theorem lo_X1_writeBackAccessed_3 (d : Nat) (hlev : 3 ≤ d) (t0 : Nat) (h_t0 : blkAt KSx t0 blk1) (t1 : Nat) (h_t1 : blkAt KSx t1 blk4) (x2 : Int32) (t3 : Nat) (h_t3 : blkAt KSx t3 blk8) (s : Int32 × Mem) : CorM KSx ST1 RX1 cX1_writeBackAccessed 6 none d 3 [(0, .inr t0), (1, .inr t1), (2, .inl x2), (3, .inr t3), (4, .inl s.1)] [] s.2 (loopC (l_X1_writeBackAccessed_3 t0 t1 x2 t3) fuelL s) := by
  refine c_loop (L := fun s : Int32 × Mem => [(0, .inr t0), (1, .inr t1), (2, .inl x2), (3, .inr t3), (4, .inl s.1)]) (Mf := fun s : Int32 × Mem => s.2) (fun K3 hK3 s => ?_) fuelL s
  obtain ⟨x4, M⟩ := s
  show CorM KSx ST1 RX1 cX1_writeBackAccessed 6 none d 3 [(0, .inr t0), (1, .inr t1), (2, .inl x2), (3, .inr t3), (4, .inl x4)] [] M (l_X1_writeBackAccessed_3 t0 t1 x2 t3 K3 (x4, M))
  unfold l_X1_writeBackAccessed_3
  refine c_iload dX1_writeBackAccessed_3 rfl ?_
  refine c_bipush dX1_writeBackAccessed_5 (v := 8) rfl ?_
  refine c_icmp_ge (tgt := 57) dX1_writeBackAccessed_7 rfl (fun h1 => ?_) (fun h1 => ?_)
  · exact c_vret rfl dX1_writeBackAccessed_57
  · refine c_aload_n (i := 0) dX1_writeBackAccessed_10 rfl rfl ?_
    refine gf_RX1_9 (blk_get0 h_t0) dX1_writeBackAccessed_11 ?_
    refine c_iload dX1_writeBackAccessed_14 rfl ?_
    refine c_chk (fun h2 => ?_)
    refine c_iald (blk_get0 (blk_sub (C := [(20, 8)]) (i := 1) h_t0 rfl)) h2 dX1_writeBackAccessed_16 ?_
    refine c_istore dX1_writeBackAccessed_17 (by decide) (ls2 := [(0, .inr t0), (1, .inr t1), (2, .inl x2), (3, .inr t3), (4, .inl x4), (5, .inl (M (t0 + 1) (ix x4)))]) rfl ?_
    refine c_iload dX1_writeBackAccessed_19 rfl ?_
    refine c_iconst dX1_writeBackAccessed_21 (v := (-1)) rfl ?_
    refine c_icmp_eq (tgt := 51) dX1_writeBackAccessed_22 rfl (fun h3 => ?_) (fun h3 => ?_)
    · refine c_keep [0, 1, 2, 3, 4] (ls2 := [(0, .inr t0), (1, .inr t1), (2, .inl x2), (3, .inr t3), (4, .inl x4)]) rfl ?_
      exact jo_X1_writeBackAccessed_51 d hlev t0 h_t0 t1 h_t1 x2 t3 h_t3 x4 K3 hK3 M
    · refine c_aload_n (i := 1) dX1_writeBackAccessed_25 rfl rfl ?_
      refine c_iload_n (i := 2) dX1_writeBackAccessed_26 rfl rfl ?_
      refine c_iload dX1_writeBackAccessed_27 rfl ?_
      refine c_bipush dX1_writeBackAccessed_29 (v := 16) rfl ?_
      refine c_idiv dX1_writeBackAccessed_31 (by decide) ?_
      refine c_iload dX1_writeBackAccessed_32 rfl ?_
      refine c_bipush dX1_writeBackAccessed_34 (v := 16) rfl ?_
      refine c_irem dX1_writeBackAccessed_36 (by decide) ?_
      refine c_callV (as := [.inl x2, .inl ((M (t0 + 1) (ix x4)) / 16), .inl (jrem (M (t0 + 1) (ix x4)) 16)]) (rs := []) (ev_X4_accessesRow 1 (Nat.le_refl _) t1 h_t1 x2 ((M (t0 + 1) (ix x4)) / 16) (jrem (M (t0 + 1) (ix x4)) 16) M) rfl (Nat.lt_of_lt_of_le (by decide) hlev) mw_X4_accessesRow wi_X4_accessesRow wv_X4_accessesRow (blk_get0 h_t1) (by decide) rfl wl_RX1_75 mn_X4_accessesRow rfl (by decide) (Nat.le_of_ble_eq_true rfl) ⟨_, rfl⟩ dX1_writeBackAccessed_37 (fun v4 M5 _ => ?_)
      refine c_if_eq (tgt := 51) dX1_writeBackAccessed_40 rfl (fun h6 => ?_) (fun h6 => ?_)
      · refine c_keep [0, 1, 2, 3, 4] (ls2 := [(0, .inr t0), (1, .inr t1), (2, .inl x2), (3, .inr t3), (4, .inl x4)]) rfl ?_
        exact jo_X1_writeBackAccessed_51 d hlev t0 h_t0 t1 h_t1 x2 t3 h_t3 x4 K3 hK3 M5
      · refine c_aload_n (i := 0) dX1_writeBackAccessed_43 rfl rfl ?_
        refine c_iload dX1_writeBackAccessed_44 rfl ?_
        refine c_aload_n (i := 3) dX1_writeBackAccessed_46 rfl rfl ?_
        refine c_callV (as := [.inl x4, .inr t3]) (rs := []) (ev_X1_writeBack 2 (Nat.le_refl _) t0 h_t0 x4 t3 h_t3 M5) rfl (Nat.lt_of_lt_of_le (by decide) hlev) mw_X1_writeBack wi_X1_writeBack wv_X1_writeBack (blk_get0 h_t0) (by decide) rfl wl_RX1_64 mn_X1_writeBack rfl (by decide) (Nat.le_of_ble_eq_true rfl) ⟨_, rfl⟩ dX1_writeBackAccessed_47 (fun v7 M8 _ => ?_)
        refine c_pop dX1_writeBackAccessed_50 ?_
        refine c_keep [0, 1, 2, 3, 4] (ls2 := [(0, .inr t0), (1, .inr t1), (2, .inl x2), (3, .inr t3), (4, .inl x4)]) rfl ?_
        exact jo_X1_writeBackAccessed_51 d hlev t0 h_t0 t1 h_t1 x2 t3 h_t3 x4 K3 hK3 M8
def f_X1_writeBackAccessed (t0 : Nat) (t1 : Nat) (x2 : Int32) (t3 : Nat) (M : Mem) : Option (Int32 × Mem) := loopC (l_X1_writeBackAccessed_3 t0 t1 x2 t3) fuelL (0, M)
set_option maxRecDepth 20000 in
set_option maxHeartbeats 2000000 in
theorem ev_X1_writeBackAccessed (d : Nat) (hlev : 3 ≤ d) (t0 : Nat) (h_t0 : blkAt KSx t0 blk1) (t1 : Nat) (h_t1 : blkAt KSx t1 blk4) (x2 : Int32) (t3 : Nat) (h_t3 : blkAt KSx t3 blk8) (M : Mem) : Ev KSx ST1 mdX1_writeBackAccessed d [.inr t0, .inr t1, .inl x2, .inr t3] M (f_X1_writeBackAccessed t0 t1 x2 t3 M) := by
  refine ev_of rfl (Nat.le_of_ble_eq_true rfl) ?_
  show CorM KSx ST1 RX1 cX1_writeBackAccessed 6 none d 0 [(0, .inr t0), (1, .inr t1), (2, .inl x2), (3, .inr t3)] [] M (f_X1_writeBackAccessed t0 t1 x2 t3 M)
  unfold f_X1_writeBackAccessed
  refine c_iconst dX1_writeBackAccessed_0 (v := 0) rfl ?_
  refine c_istore dX1_writeBackAccessed_1 (by decide) (ls2 := [(0, .inr t0), (1, .inr t1), (2, .inl x2), (3, .inr t3), (4, .inl 0)]) rfl ?_
  refine c_keep [0, 1, 2, 3, 4] (ls2 := [(0, .inr t0), (1, .inr t1), (2, .inl x2), (3, .inr t3), (4, .inl 0)]) rfl ?_
  exact lo_X1_writeBackAccessed_3 d hlev t0 h_t0 t1 h_t1 x2 t3 h_t3 (0, M)

abbrev mdX4_storesRow : MD := (yX4_storesRow, cX4_storesRow, 4, (some .boolean))
theorem mw_X4_storesRow : mdW mdX4_storesRow := ⟨wm_X4_storesRow, w0_RX4, by decide, by decide⟩
theorem mn_X4_storesRow : (parseMethodDescriptor yX4_storesRow.desc).map (fun d => d.parameters.length) = some 3 := by decide +kernel
def f_X4_storesRow (t0 : Nat) (x1 : Int32) (x2 : Int32) (x3 : Int32) (M : Mem) : Option (Int32 × Mem) := if inb ((x1 * 8) + x2) 96 then some ((if ((M (t0 + 12) (ix ((x1 * 8) + x2))) &&& (p_X4_rowBit x3)) = 0 then (0 : Int32) else (1 : Int32)), M) else none
set_option maxRecDepth 20000 in
set_option maxHeartbeats 2000000 in
theorem ev_X4_storesRow (d : Nat) (hlev : 1 ≤ d) (t0 : Nat) (h_t0 : blkAt KSx t0 blk4) (x1 : Int32) (x2 : Int32) (x3 : Int32) (M : Mem) : Ev KSx ST1 mdX4_storesRow d [.inr t0, .inl x1, .inl x2, .inl x3] M (f_X4_storesRow t0 x1 x2 x3 M) := by
  refine ev_of rfl (Nat.le_of_ble_eq_true rfl) ?_
  show CorM KSx ST1 RX4 cX4_storesRow 4 (some .boolean) d 0 [(0, .inr t0), (1, .inl x1), (2, .inl x2), (3, .inl x3)] [] M (f_X4_storesRow t0 x1 x2 x3 M)
  unfold f_X4_storesRow
  refine c_aload_n (i := 0) dX4_storesRow_0 rfl rfl ?_
  refine gf_RX4_45 (blk_get0 h_t0) dX4_storesRow_1 ?_
  refine c_iload_n (i := 1) dX4_storesRow_4 rfl rfl ?_
  refine c_bipush dX4_storesRow_5 (v := 8) rfl ?_
  refine c_imul dX4_storesRow_7 ?_
  refine c_iload_n (i := 2) dX4_storesRow_8 rfl rfl ?_
  refine c_iadd dX4_storesRow_9 ?_
  refine c_chk (fun h1 => ?_)
  refine c_iald (blk_get0 (blk_sub (C := [(20, 96)]) (i := 12) h_t0 rfl)) h1 dX4_storesRow_10 ?_
  refine c_iload_n (i := 3) dX4_storesRow_11 rfl rfl ?_
  refine c_callSp (as := [.inl x3]) (rs := [.inl (M (t0 + 12) (ix ((x1 * 8) + x2)))]) (ev_X4_rowBit 0 (Nat.le_refl _) x3 M) rfl (Nat.lt_of_lt_of_le (by decide) hlev) mw_X4_rowBit ws_X4_rowBit wl_RX4_109 mn_X4_rowBit rfl (by decide) (Nat.le_of_ble_eq_true rfl) ⟨_, rfl⟩ dX4_storesRow_12 ?_
  refine c_iand dX4_storesRow_15 ?_
  have J_z2 : ∀ z2 : Int32, isB z2 → CorM KSx ST1 RX4 cX4_storesRow 4 (some .boolean) d 24 [] [.inl z2] M (some (z2, M)) := by
    intro z2 h_z2
    exact c_zret rfl h_z2 dX4_storesRow_24
  refine c_val (b := ((M (t0 + 12) (ix ((x1 * 8) + x2))) &&& (p_X4_rowBit x3)) = 0) (v1 := (0 : Int32)) (v2 := (1 : Int32)) (F := fun z2 => some (z2, M)) (fun h3 => ?_) (fun h3 => ?_)
  · refine c_T h3 (c_if_eq (tgt := 23) dX4_storesRow_16 rfl (fun _ => ?_) (fun q => absurd h3 q))
    refine c_iconst dX4_storesRow_23 (v := 0) rfl ?_
    refine c_keep [] (ls2 := []) rfl ?_
    exact J_z2 0 (Or.inl rfl)
  · refine c_Fl h3 (c_if_eq (tgt := 23) dX4_storesRow_16 rfl (fun q => absurd q h3) (fun _ => ?_))
    refine c_iconst dX4_storesRow_19 (v := 1) rfl ?_
    refine c_goto (tgt := 24) dX4_storesRow_20 rfl ?_
    refine c_keep [] (ls2 := []) rfl ?_
    exact J_z2 1 (Or.inr rfl)

abbrev mdX1_removeStored : MD := (yX1_removeStored, cX1_removeStored, 5, none)
theorem mw_X1_removeStored : mdW mdX1_removeStored := ⟨wm_X1_removeStored, w0_RX1, by decide, by decide⟩
theorem mn_X1_removeStored : (parseMethodDescriptor yX1_removeStored.desc).map (fun d => d.parameters.length) = some 2 := by decide +kernel
def j_X1_removeStored_46 (t0 : Nat) (t1 : Nat) (x2 : Int32) (x3 : Int32) (K2 : Int32 × Mem → Option (Int32 × Mem)) (M : Mem) : Option (Int32 × Mem) := K2 (x3 + 1, M)
set_option maxRecDepth 20000 in
set_option maxHeartbeats 2000000 in
theorem jo_X1_removeStored_46 (d : Nat) (hlev : 2 ≤ d) (t0 : Nat) (h_t0 : blkAt KSx t0 blk1) (t1 : Nat) (h_t1 : blkAt KSx t1 blk4) (x2 : Int32) (x3 : Int32) (K2 : Int32 × Mem → Option (Int32 × Mem)) (hK2 : ∀ s : Int32 × Mem, CorM KSx ST1 RX1 cX1_removeStored 5 none d 2 [(0, .inr t0), (1, .inr t1), (2, .inl x2), (3, .inl s.1)] [] s.2 (K2 s)) (M : Mem) : CorM KSx ST1 RX1 cX1_removeStored 5 none d 46 [(0, .inr t0), (1, .inr t1), (2, .inl x2), (3, .inl x3)] [] M (j_X1_removeStored_46 t0 t1 x2 x3 K2 M) := by
  unfold j_X1_removeStored_46
  refine c_iinc dX1_removeStored_46 rfl (v := 1) rfl (by decide) (ls2 := [(0, .inr t0), (1, .inr t1), (2, .inl x2), (3, .inl (x3 + 1))]) rfl ?_
  refine c_goto (tgt := 2) dX1_removeStored_49 rfl ?_
  refine c_keep [0, 1, 2, 3] (ls2 := [(0, .inr t0), (1, .inr t1), (2, .inl x2), (3, .inl (x3 + 1))]) rfl ?_
  exact hK2 (x3 + 1, M)
def l_X1_removeStored_2 (t0 : Nat) (t1 : Nat) (x2 : Int32) (K2 : Int32 × Mem → Option (Int32 × Mem)) : Int32 × Mem → Option (Int32 × Mem) := fun s => match s with
  | (x3, M) => if 8 ≤ x3 then some (0, M) else if inb x3 8 then if (M (t0 + 1) (ix x3)) = (-1) then j_X1_removeStored_46 t0 t1 x2 x3 K2 M else bnd (f_X4_storesRow t1 x2 ((M (t0 + 1) (ix x3)) / 16) (jrem (M (t0 + 1) (ix x3)) 16) M) (fun v4 M5 => if v4 = 0 then j_X1_removeStored_46 t0 t1 x2 x3 K2 M5 else bnd (f_X1_removeLine t0 x3 M5) (fun v7 M8 => j_X1_removeStored_46 t0 t1 x2 x3 K2 M8)) else none
set_option maxRecDepth 20000 in
set_option maxHeartbeats 2000000 in
theorem lo_X1_removeStored_2 (d : Nat) (hlev : 2 ≤ d) (t0 : Nat) (h_t0 : blkAt KSx t0 blk1) (t1 : Nat) (h_t1 : blkAt KSx t1 blk4) (x2 : Int32) (s : Int32 × Mem) : CorM KSx ST1 RX1 cX1_removeStored 5 none d 2 [(0, .inr t0), (1, .inr t1), (2, .inl x2), (3, .inl s.1)] [] s.2 (loopC (l_X1_removeStored_2 t0 t1 x2) fuelL s) := by
  refine c_loop (L := fun s : Int32 × Mem => [(0, .inr t0), (1, .inr t1), (2, .inl x2), (3, .inl s.1)]) (Mf := fun s : Int32 × Mem => s.2) (fun K2 hK2 s => ?_) fuelL s
  obtain ⟨x3, M⟩ := s
  show CorM KSx ST1 RX1 cX1_removeStored 5 none d 2 [(0, .inr t0), (1, .inr t1), (2, .inl x2), (3, .inl x3)] [] M (l_X1_removeStored_2 t0 t1 x2 K2 (x3, M))
  unfold l_X1_removeStored_2
  refine c_iload_n (i := 3) dX1_removeStored_2 rfl rfl ?_
  refine c_bipush dX1_removeStored_3 (v := 8) rfl ?_
  refine c_icmp_ge (tgt := 52) dX1_removeStored_5 rfl (fun h1 => ?_) (fun h1 => ?_)
  · exact c_vret rfl dX1_removeStored_52
  · refine c_aload_n (i := 0) dX1_removeStored_8 rfl rfl ?_
    refine gf_RX1_9 (blk_get0 h_t0) dX1_removeStored_9 ?_
    refine c_iload_n (i := 3) dX1_removeStored_12 rfl rfl ?_
    refine c_chk (fun h2 => ?_)
    refine c_iald (blk_get0 (blk_sub (C := [(20, 8)]) (i := 1) h_t0 rfl)) h2 dX1_removeStored_13 ?_
    refine c_istore dX1_removeStored_14 (by decide) (ls2 := [(0, .inr t0), (1, .inr t1), (2, .inl x2), (3, .inl x3), (4, .inl (M (t0 + 1) (ix x3)))]) rfl ?_
    refine c_iload dX1_removeStored_16 rfl ?_
    refine c_iconst dX1_removeStored_18 (v := (-1)) rfl ?_
    refine c_icmp_eq (tgt := 46) dX1_removeStored_19 rfl (fun h3 => ?_) (fun h3 => ?_)
    · refine c_keep [0, 1, 2, 3] (ls2 := [(0, .inr t0), (1, .inr t1), (2, .inl x2), (3, .inl x3)]) rfl ?_
      exact jo_X1_removeStored_46 d hlev t0 h_t0 t1 h_t1 x2 x3 K2 hK2 M
    · refine c_aload_n (i := 1) dX1_removeStored_22 rfl rfl ?_
      refine c_iload_n (i := 2) dX1_removeStored_23 rfl rfl ?_
      refine c_iload dX1_removeStored_24 rfl ?_
      refine c_bipush dX1_removeStored_26 (v := 16) rfl ?_
      refine c_idiv dX1_removeStored_28 (by decide) ?_
      refine c_iload dX1_removeStored_29 rfl ?_
      refine c_bipush dX1_removeStored_31 (v := 16) rfl ?_
      refine c_irem dX1_removeStored_33 (by decide) ?_
      refine c_callV (as := [.inl x2, .inl ((M (t0 + 1) (ix x3)) / 16), .inl (jrem (M (t0 + 1) (ix x3)) 16)]) (rs := []) (ev_X4_storesRow 1 (Nat.le_refl _) t1 h_t1 x2 ((M (t0 + 1) (ix x3)) / 16) (jrem (M (t0 + 1) (ix x3)) 16) M) rfl (Nat.lt_of_lt_of_le (by decide) hlev) mw_X4_storesRow wi_X4_storesRow wv_X4_storesRow (blk_get0 h_t1) (by decide) rfl wl_RX1_81 mn_X4_storesRow rfl (by decide) (Nat.le_of_ble_eq_true rfl) ⟨_, rfl⟩ dX1_removeStored_34 (fun v4 M5 _ => ?_)
      refine c_if_eq (tgt := 46) dX1_removeStored_37 rfl (fun h6 => ?_) (fun h6 => ?_)
      · refine c_keep [0, 1, 2, 3] (ls2 := [(0, .inr t0), (1, .inr t1), (2, .inl x2), (3, .inl x3)]) rfl ?_
        exact jo_X1_removeStored_46 d hlev t0 h_t0 t1 h_t1 x2 x3 K2 hK2 M5
      · refine c_aload_n (i := 0) dX1_removeStored_40 rfl rfl ?_
        refine c_iload_n (i := 3) dX1_removeStored_41 rfl rfl ?_
        refine c_callV (as := [.inl x3]) (rs := []) (ev_X1_removeLine 0 (Nat.le_refl _) t0 h_t0 x3 M5) rfl (Nat.lt_of_lt_of_le (by decide) hlev) mw_X1_removeLine wi_X1_removeLine wv_X1_removeLine (blk_get0 h_t0) (by decide) rfl wl_RX1_25 mn_X1_removeLine rfl (by decide) (Nat.le_of_ble_eq_true rfl) ⟨_, rfl⟩ dX1_removeStored_42 (fun v7 M8 _ => ?_)
        refine c_pop dX1_removeStored_45 ?_
        refine c_keep [0, 1, 2, 3] (ls2 := [(0, .inr t0), (1, .inr t1), (2, .inl x2), (3, .inl x3)]) rfl ?_
        exact jo_X1_removeStored_46 d hlev t0 h_t0 t1 h_t1 x2 x3 K2 hK2 M8
def f_X1_removeStored (t0 : Nat) (t1 : Nat) (x2 : Int32) (M : Mem) : Option (Int32 × Mem) := loopC (l_X1_removeStored_2 t0 t1 x2) fuelL (0, M)
set_option maxRecDepth 20000 in
set_option maxHeartbeats 2000000 in
theorem ev_X1_removeStored (d : Nat) (hlev : 2 ≤ d) (t0 : Nat) (h_t0 : blkAt KSx t0 blk1) (t1 : Nat) (h_t1 : blkAt KSx t1 blk4) (x2 : Int32) (M : Mem) : Ev KSx ST1 mdX1_removeStored d [.inr t0, .inr t1, .inl x2] M (f_X1_removeStored t0 t1 x2 M) := by
  refine ev_of rfl (Nat.le_of_ble_eq_true rfl) ?_
  show CorM KSx ST1 RX1 cX1_removeStored 5 none d 0 [(0, .inr t0), (1, .inr t1), (2, .inl x2)] [] M (f_X1_removeStored t0 t1 x2 M)
  unfold f_X1_removeStored
  refine c_iconst dX1_removeStored_0 (v := 0) rfl ?_
  refine c_istore_n (i := 3) dX1_removeStored_1 rfl (by decide) (ls2 := [(0, .inr t0), (1, .inr t1), (2, .inl x2), (3, .inl 0)]) rfl ?_
  refine c_keep [0, 1, 2, 3] (ls2 := [(0, .inr t0), (1, .inr t1), (2, .inl x2), (3, .inl 0)]) rfl ?_
  exact lo_X1_removeStored_2 d hlev t0 h_t0 t1 h_t1 x2 (0, M)

abbrev mdX7_isLetter : MD := (yX7_isLetter, cX7_isLetter, 1, (some .boolean))
theorem mw_X7_isLetter : mdW mdX7_isLetter := ⟨wm_X7_isLetter, w0_RX7, by decide, by decide⟩
theorem mn_X7_isLetter : (parseMethodDescriptor yX7_isLetter.desc).map (fun d => d.parameters.length) = some 1 := by decide +kernel
def p_X7_isLetter (x0 : Int32) : Int32 := (if x0 < 97 then (0 : Int32) else if 122 < x0 then (0 : Int32) else (1 : Int32))
theorem pz_X7_isLetter (x0 : Int32) : isB (p_X7_isLetter x0) := by
  unfold p_X7_isLetter
  repeat' (first | apply isB_ite | exact Or.inl rfl | exact Or.inr rfl | apply_assumption)
set_option maxRecDepth 20000 in
set_option maxHeartbeats 2000000 in
theorem ev_X7_isLetter (d : Nat) (hlev : 0 ≤ d) (x0 : Int32) (M : Mem) : Ev KSx ST1 mdX7_isLetter d [.inl x0] M (some (p_X7_isLetter x0, M)) := by
  refine ev_of rfl (Nat.le_of_ble_eq_true rfl) ?_
  show CorM KSx ST1 RX7 cX7_isLetter 1 (some .boolean) d 0 [(0, .inl x0)] [] M (some (p_X7_isLetter x0, M))
  unfold p_X7_isLetter
  refine c_iload_n (i := 0) dX7_isLetter_0 rfl rfl ?_
  refine c_bipush dX7_isLetter_1 (v := 97) rfl ?_
  have J_z1 : ∀ z1 : Int32, isB z1 → CorM KSx ST1 RX7 cX7_isLetter 1 (some .boolean) d 17 [] [.inl z1] M (some (z1, M)) := by
    intro z1 h_z1
    exact c_zret rfl h_z1 dX7_isLetter_17
  refine c_val (b := x0 < 97) (v1 := (0 : Int32)) (v2 := if 122 < x0 then (0 : Int32) else (1 : Int32)) (F := fun z1 => some (z1, M)) (fun h2 => ?_) (fun h2 => ?_)
  · refine c_T h2 (c_icmp_lt (tgt := 16) dX7_isLetter_3 rfl (fun _ => ?_) (fun q => absurd h2 q))
    refine c_iconst dX7_isLetter_16 (v := 0) rfl ?_
    refine c_keep [] (ls2 := []) rfl ?_
    exact J_z1 0 (Or.inl rfl)
  · refine c_Fl h2 (c_icmp_lt (tgt := 16) dX7_isLetter_3 rfl (fun q => absurd q h2) (fun _ => ?_))
    refine c_iload_n (i := 0) dX7_isLetter_6 rfl rfl ?_
    refine c_bipush dX7_isLetter_7 (v := 122) rfl ?_
    refine c_val (b := 122 < x0) (v1 := (0 : Int32)) (v2 := (1 : Int32)) (F := fun z1 => some (z1, M)) (fun h3 => ?_) (fun h3 => ?_)
    · refine c_T h3 (c_icmp_gt (tgt := 16) dX7_isLetter_9 rfl (fun _ => ?_) (fun q => absurd h3 q))
      refine c_iconst dX7_isLetter_16 (v := 0) rfl ?_
      refine c_keep [] (ls2 := []) rfl ?_
      exact J_z1 0 (Or.inl rfl)
    · refine c_Fl h3 (c_icmp_gt (tgt := 16) dX7_isLetter_9 rfl (fun q => absurd q h3) (fun _ => ?_))
      refine c_iconst dX7_isLetter_12 (v := 1) rfl ?_
      refine c_goto (tgt := 17) dX7_isLetter_13 rfl ?_
      refine c_keep [] (ls2 := []) rfl ?_
      exact J_z1 1 (Or.inr rfl)

abbrev mdX7_isWordAt : MD := (yX7_isWordAt, cX7_isWordAt, 5, (some .boolean))
theorem mw_X7_isWordAt : mdW mdX7_isWordAt := ⟨wm_X7_isWordAt, w0_RX7, by decide, by decide⟩
theorem mn_X7_isWordAt : (parseMethodDescriptor yX7_isWordAt.desc).map (fun d => d.parameters.length) = some 4 := by decide +kernel
def l_X7_isWordAt_3 (x0 : Int32) (t1 : Nat) (x2 : Int32) (x3 : Int32) (K3 : Int32 × Mem → Option (Int32 × Mem)) : Int32 × Mem → Option (Int32 × Mem) := fun s => match s with
  | (x4, M) => if x3 ≤ x4 then some (1, M) else if inb x4 (lenK KSx t1) then if inb ((x0 + x4) - x2) (slen 1002) then if (M t1 (ix x4)) = (schr 1002 (ix ((x0 + x4) - x2))) then K3 (x4 + 1, M) else some (0, M) else none else none
set_option maxRecDepth 20000 in
set_option maxHeartbeats 2000000 in
theorem lo_X7_isWordAt_3 (d : Nat) (hlev : 4 ≤ d) (x0 : Int32) (t1 : Nat) (h_t1 : KSx[t1]? = some (20, lenK KSx t1)) (x2 : Int32) (x3 : Int32) (s : Int32 × Mem) : CorM KSx ST1 RX7 cX7_isWordAt 5 (some .boolean) d 3 [(0, .inl x0), (1, .inr t1), (2, .inl x2), (3, .inl x3), (4, .inl s.1)] [] s.2 (loopC (l_X7_isWordAt_3 x0 t1 x2 x3) fuelL s) := by
  refine c_loop (L := fun s : Int32 × Mem => [(0, .inl x0), (1, .inr t1), (2, .inl x2), (3, .inl x3), (4, .inl s.1)]) (Mf := fun s : Int32 × Mem => s.2) (fun K3 hK3 s => ?_) fuelL s
  obtain ⟨x4, M⟩ := s
  show CorM KSx ST1 RX7 cX7_isWordAt 5 (some .boolean) d 3 [(0, .inl x0), (1, .inr t1), (2, .inl x2), (3, .inl x3), (4, .inl x4)] [] M (l_X7_isWordAt_3 x0 t1 x2 x3 K3 (x4, M))
  unfold l_X7_isWordAt_3
  refine c_iload dX7_isWordAt_3 rfl ?_
  refine c_iload_n (i := 3) dX7_isWordAt_5 rfl rfl ?_
  refine c_icmp_ge (tgt := 35) dX7_isWordAt_6 rfl (fun h1 => ?_) (fun h1 => ?_)
  · refine c_iconst dX7_isWordAt_35 (v := 1) rfl ?_
    exact c_zret rfl (Or.inr rfl) dX7_isWordAt_36
  · refine c_aload_n (i := 1) dX7_isWordAt_9 rfl rfl ?_
    refine c_iload dX7_isWordAt_10 rfl ?_
    refine c_chk (fun h2 => ?_)
    refine c_iald h_t1 h2 dX7_isWordAt_12 ?_
    refine c_ldcS (text := "activate access compute multiply transfer budget window cache reduce load store set lanes broadcast barrier add mul min max and or xor sub banks rows columns batch end ") (j := 1002) (List.mem_of_getElem? (i := 2) rfl) dX7_isWordAt_13 ?_
    refine c_iload_n (i := 0) dX7_isWordAt_15 rfl rfl ?_
    refine c_iload dX7_isWordAt_16 rfl ?_
    refine c_iadd dX7_isWordAt_18 ?_
    refine c_iload_n (i := 2) dX7_isWordAt_19 rfl rfl ?_
    refine c_isub dX7_isWordAt_20 ?_
    refine c_chk (fun h3 => ?_)
    refine c_callStr (as := [.inl ((x0 + x4) - x2)]) (rs := [.inl (M t1 (ix x4))]) (by decide) (ev_J0_chr KSx ST1 3 (Nat.le_refl _) (by decide) ((x0 + x4) - x2) M h3) rfl (Nat.lt_of_lt_of_le (by decide) hlev) mw_J0_charAt wi_J0_charAt_5068e wv_J0_charAt_5068e wl_RX7_62 (n := 1) (by decide +kernel) rfl (by decide) (Nat.le_of_ble_eq_true rfl) ⟨_, rfl⟩ dX7_isWordAt_21 ?_
    refine c_icmp_eq (tgt := 29) dX7_isWordAt_24 rfl (fun h4 => ?_) (fun h4 => ?_)
    · refine c_iinc dX7_isWordAt_29 rfl (v := 1) rfl (by decide) (ls2 := [(0, .inl x0), (1, .inr t1), (2, .inl x2), (3, .inl x3), (4, .inl (x4 + 1))]) rfl ?_
      refine c_goto (tgt := 3) dX7_isWordAt_32 rfl ?_
      refine c_keep [0, 1, 2, 3, 4] (ls2 := [(0, .inl x0), (1, .inr t1), (2, .inl x2), (3, .inl x3), (4, .inl (x4 + 1))]) rfl ?_
      exact hK3 (x4 + 1, M)
    · refine c_iconst dX7_isWordAt_27 (v := 0) rfl ?_
      exact c_zret rfl (Or.inl rfl) dX7_isWordAt_28
def f_X7_isWordAt (x0 : Int32) (t1 : Nat) (x2 : Int32) (x3 : Int32) (M : Mem) : Option (Int32 × Mem) := loopC (l_X7_isWordAt_3 x0 t1 x2 x3) fuelL (x2, M)
set_option maxRecDepth 20000 in
set_option maxHeartbeats 2000000 in
theorem ev_X7_isWordAt (d : Nat) (hlev : 4 ≤ d) (x0 : Int32) (t1 : Nat) (h_t1 : KSx[t1]? = some (20, lenK KSx t1)) (x2 : Int32) (x3 : Int32) (M : Mem) : Ev KSx ST1 mdX7_isWordAt d [.inl x0, .inr t1, .inl x2, .inl x3] M (f_X7_isWordAt x0 t1 x2 x3 M) := by
  refine ev_of rfl (Nat.le_of_ble_eq_true rfl) ?_
  show CorM KSx ST1 RX7 cX7_isWordAt 5 (some .boolean) d 0 [(0, .inl x0), (1, .inr t1), (2, .inl x2), (3, .inl x3)] [] M (f_X7_isWordAt x0 t1 x2 x3 M)
  unfold f_X7_isWordAt
  refine c_iload_n (i := 2) dX7_isWordAt_0 rfl rfl ?_
  refine c_istore dX7_isWordAt_1 (by decide) (ls2 := [(0, .inl x0), (1, .inr t1), (2, .inl x2), (3, .inl x3), (4, .inl x2)]) rfl ?_
  refine c_keep [0, 1, 2, 3, 4] (ls2 := [(0, .inl x0), (1, .inr t1), (2, .inl x2), (3, .inl x3), (4, .inl x2)]) rfl ?_
  exact lo_X7_isWordAt_3 d hlev x0 t1 h_t1 x2 x3 (x2, M)

abbrev mdX7_kindOfWord : MD := (yX7_kindOfWord, cX7_kindOfWord, 6, (some .int))
theorem mw_X7_kindOfWord : mdW mdX7_kindOfWord := ⟨wm_X7_kindOfWord, w0_RX7, by decide, by decide⟩
theorem mn_X7_kindOfWord : (parseMethodDescriptor yX7_kindOfWord.desc).map (fun d => d.parameters.length) = some 3 := by decide +kernel
def j_X7_kindOfWord_63 (t0 : Nat) (x1 : Int32) (x2 : Int32) (x3 : Int32) (x4 : Int32) (x5 : Int32) (K8 : Int32 × Int32 × Int32 × Mem → Option (Int32 × Mem)) (M : Mem) : Option (Int32 × Mem) := K8 (x3, x4, x5 + 1, M)
set_option maxRecDepth 20000 in
set_option maxHeartbeats 2000000 in
theorem jo_X7_kindOfWord_63 (d : Nat) (hlev : 5 ≤ d) (t0 : Nat) (h_t0 : KSx[t0]? = some (20, lenK KSx t0)) (x1 : Int32) (x2 : Int32) (x3 : Int32) (x4 : Int32) (x5 : Int32) (K8 : Int32 × Int32 × Int32 × Mem → Option (Int32 × Mem)) (hK8 : ∀ s : Int32 × Int32 × Int32 × Mem, CorM KSx ST1 RX7 cX7_kindOfWord 6 (some .int) d 8 [(0, .inr t0), (1, .inl x1), (2, .inl x2), (3, .inl s.1), (4, .inl s.2.1), (5, .inl s.2.2.1)] [] s.2.2.2 (K8 s)) (M : Mem) : CorM KSx ST1 RX7 cX7_kindOfWord 6 (some .int) d 63 [(0, .inr t0), (1, .inl x1), (2, .inl x2), (3, .inl x3), (4, .inl x4), (5, .inl x5)] [] M (j_X7_kindOfWord_63 t0 x1 x2 x3 x4 x5 K8 M) := by
  unfold j_X7_kindOfWord_63
  refine c_iinc dX7_kindOfWord_63 rfl (v := 1) rfl (by decide) (ls2 := [(0, .inr t0), (1, .inl x1), (2, .inl x2), (3, .inl x3), (4, .inl x4), (5, .inl (x5 + 1))]) rfl ?_
  refine c_goto (tgt := 8) dX7_kindOfWord_66 rfl ?_
  refine c_keep [0, 1, 2, 3, 4, 5] (ls2 := [(0, .inr t0), (1, .inl x1), (2, .inl x2), (3, .inl x3), (4, .inl x4), (5, .inl (x5 + 1))]) rfl ?_
  exact hK8 (x3, x4, x5 + 1, M)
def j_X7_kindOfWord_54 (t0 : Nat) (x1 : Int32) (x2 : Int32) (x3 : Int32) (x5 : Int32) (K8 : Int32 × Int32 × Int32 × Mem → Option (Int32 × Mem)) (M : Mem) : Option (Int32 × Mem) := j_X7_kindOfWord_63 t0 x1 x2 (x3 + 1) (x5 + 1) x5 K8 M
set_option maxRecDepth 20000 in
set_option maxHeartbeats 2000000 in
theorem jo_X7_kindOfWord_54 (d : Nat) (hlev : 5 ≤ d) (t0 : Nat) (h_t0 : KSx[t0]? = some (20, lenK KSx t0)) (x1 : Int32) (x2 : Int32) (x3 : Int32) (x5 : Int32) (K8 : Int32 × Int32 × Int32 × Mem → Option (Int32 × Mem)) (hK8 : ∀ s : Int32 × Int32 × Int32 × Mem, CorM KSx ST1 RX7 cX7_kindOfWord 6 (some .int) d 8 [(0, .inr t0), (1, .inl x1), (2, .inl x2), (3, .inl s.1), (4, .inl s.2.1), (5, .inl s.2.2.1)] [] s.2.2.2 (K8 s)) (M : Mem) : CorM KSx ST1 RX7 cX7_kindOfWord 6 (some .int) d 54 [(0, .inr t0), (1, .inl x1), (2, .inl x2), (3, .inl x3), (5, .inl x5)] [] M (j_X7_kindOfWord_54 t0 x1 x2 x3 x5 K8 M) := by
  unfold j_X7_kindOfWord_54
  refine c_iinc dX7_kindOfWord_54 rfl (v := 1) rfl (by decide) (ls2 := [(0, .inr t0), (1, .inl x1), (2, .inl x2), (3, .inl (x3 + 1)), (5, .inl x5)]) rfl ?_
  refine c_iload dX7_kindOfWord_57 rfl ?_
  refine c_iconst dX7_kindOfWord_59 (v := 1) rfl ?_
  refine c_iadd dX7_kindOfWord_60 ?_
  refine c_istore dX7_kindOfWord_61 (by decide) (ls2 := [(0, .inr t0), (1, .inl x1), (2, .inl x2), (3, .inl (x3 + 1)), (4, .inl (x5 + 1)), (5, .inl x5)]) rfl ?_
  refine c_keep [0, 1, 2, 3, 4, 5] (ls2 := [(0, .inr t0), (1, .inl x1), (2, .inl x2), (3, .inl (x3 + 1)), (4, .inl (x5 + 1)), (5, .inl x5)]) rfl ?_
  exact jo_X7_kindOfWord_63 d hlev t0 h_t0 x1 x2 (x3 + 1) (x5 + 1) x5 K8 hK8 M
def l_X7_kindOfWord_8 (t0 : Nat) (x1 : Int32) (x2 : Int32) (K8 : Int32 × Int32 × Int32 × Mem → Option (Int32 × Mem)) : Int32 × Int32 × Int32 × Mem → Option (Int32 × Mem) := fun s => match s with
  | (x3, x4, x5, M) => if (nI (slen 1002)) ≤ x5 then some (33, M) else if inb x5 (slen 1002) then if ¬ (schr 1002 (ix x5)) = 32 then j_X7_kindOfWord_63 t0 x1 x2 x3 x4 x5 K8 M else if ¬ (x5 - x4) = (x2 - x1) then j_X7_kindOfWord_54 t0 x1 x2 x3 x5 K8 M else bnd (f_X7_isWordAt x4 t0 x1 x2 M) (fun v5 M6 => if v5 = 0 then j_X7_kindOfWord_54 t0 x1 x2 x3 x5 K8 M6 else some (x3, M6)) else none
set_option maxRecDepth 20000 in
set_option maxHeartbeats 2000000 in
theorem lo_X7_kindOfWord_8 (d : Nat) (hlev : 5 ≤ d) (t0 : Nat) (h_t0 : KSx[t0]? = some (20, lenK KSx t0)) (x1 : Int32) (x2 : Int32) (s : Int32 × Int32 × Int32 × Mem) : CorM KSx ST1 RX7 cX7_kindOfWord 6 (some .int) d 8 [(0, .inr t0), (1, .inl x1), (2, .inl x2), (3, .inl s.1), (4, .inl s.2.1), (5, .inl s.2.2.1)] [] s.2.2.2 (loopC (l_X7_kindOfWord_8 t0 x1 x2) fuelL s) := by
  refine c_loop (L := fun s : Int32 × Int32 × Int32 × Mem => [(0, .inr t0), (1, .inl x1), (2, .inl x2), (3, .inl s.1), (4, .inl s.2.1), (5, .inl s.2.2.1)]) (Mf := fun s : Int32 × Int32 × Int32 × Mem => s.2.2.2) (fun K8 hK8 s => ?_) fuelL s
  obtain ⟨x3, x4, x5, M⟩ := s
  show CorM KSx ST1 RX7 cX7_kindOfWord 6 (some .int) d 8 [(0, .inr t0), (1, .inl x1), (2, .inl x2), (3, .inl x3), (4, .inl x4), (5, .inl x5)] [] M (l_X7_kindOfWord_8 t0 x1 x2 K8 (x3, x4, x5, M))
  unfold l_X7_kindOfWord_8
  refine c_iload dX7_kindOfWord_8 rfl ?_
  refine c_ldcS (text := "activate access compute multiply transfer budget window cache reduce load store set lanes broadcast barrier add mul min max and or xor sub banks rows columns batch end ") (j := 1002) (List.mem_of_getElem? (i := 2) rfl) dX7_kindOfWord_10 ?_
  refine c_callStr (as := []) (rs := [.inl x5]) (by decide) (ev_J0_len KSx ST1 1 (Nat.le_refl _) (by decide) M) rfl (Nat.lt_of_lt_of_le (by decide) hlev) mw_J0_length wi_J0_length_8abf5 wv_J0_length_8abf5 wl_RX7_56 (n := 0) (by decide +kernel) rfl (by decide) (Nat.le_of_ble_eq_true rfl) ⟨_, rfl⟩ dX7_kindOfWord_12 ?_
  refine c_icmp_ge (tgt := 69) dX7_kindOfWord_15 rfl (fun h1 => ?_) (fun h1 => ?_)
  · refine c_bipush dX7_kindOfWord_69 (v := 33) rfl ?_
    exact c_iret rfl dX7_kindOfWord_71
  · refine c_ldcS (text := "activate access compute multiply transfer budget window cache reduce load store set lanes broadcast barrier add mul min max and or xor sub banks rows columns batch end ") (j := 1002) (List.mem_of_getElem? (i := 2) rfl) dX7_kindOfWord_18 ?_
    refine c_iload dX7_kindOfWord_20 rfl ?_
    refine c_chk (fun h2 => ?_)
    refine c_callStr (as := [.inl x5]) (rs := []) (by decide) (ev_J0_chr KSx ST1 3 (Nat.le_refl _) (by decide) x5 M h2) rfl (Nat.lt_of_lt_of_le (by decide) hlev) mw_J0_charAt wi_J0_charAt_5068e wv_J0_charAt_5068e wl_RX7_62 (n := 1) (by decide +kernel) rfl (by decide) (Nat.le_of_ble_eq_true rfl) ⟨_, rfl⟩ dX7_kindOfWord_22 ?_
    refine c_bipush dX7_kindOfWord_25 (v := 32) rfl ?_
    refine c_icmp_ne (tgt := 63) dX7_kindOfWord_27 rfl (fun h3 => ?_) (fun h3 => ?_)
    · refine c_keep [0, 1, 2, 3, 4, 5] (ls2 := [(0, .inr t0), (1, .inl x1), (2, .inl x2), (3, .inl x3), (4, .inl x4), (5, .inl x5)]) rfl ?_
      exact jo_X7_kindOfWord_63 d hlev t0 h_t0 x1 x2 x3 x4 x5 K8 hK8 M
    · refine c_iload dX7_kindOfWord_30 rfl ?_
      refine c_iload dX7_kindOfWord_32 rfl ?_
      refine c_isub dX7_kindOfWord_34 ?_
      refine c_iload_n (i := 2) dX7_kindOfWord_35 rfl rfl ?_
      refine c_iload_n (i := 1) dX7_kindOfWord_36 rfl rfl ?_
      refine c_isub dX7_kindOfWord_37 ?_
      refine c_icmp_ne (tgt := 54) dX7_kindOfWord_38 rfl (fun h4 => ?_) (fun h4 => ?_)
      · refine c_keep [0, 1, 2, 3, 5] (ls2 := [(0, .inr t0), (1, .inl x1), (2, .inl x2), (3, .inl x3), (5, .inl x5)]) rfl ?_
        exact jo_X7_kindOfWord_54 d hlev t0 h_t0 x1 x2 x3 x5 K8 hK8 M
      · refine c_iload dX7_kindOfWord_41 rfl ?_
        refine c_aload_n (i := 0) dX7_kindOfWord_43 rfl rfl ?_
        refine c_iload_n (i := 1) dX7_kindOfWord_44 rfl rfl ?_
        refine c_iload_n (i := 2) dX7_kindOfWord_45 rfl rfl ?_
        refine c_callS (as := [.inl x4, .inr t0, .inl x1, .inl x2]) (rs := []) (ev_X7_isWordAt 4 (Nat.le_refl _) x4 t0 h_t0 x1 x2 M) rfl (Nat.lt_of_lt_of_le (by decide) hlev) mw_X7_isWordAt ws_X7_isWordAt wl_RX7_66 mn_X7_isWordAt rfl (by decide) (Nat.le_of_ble_eq_true rfl) ⟨_, rfl⟩ dX7_kindOfWord_46 (fun v5 M6 _ => ?_)
        refine c_if_eq (tgt := 54) dX7_kindOfWord_49 rfl (fun h7 => ?_) (fun h7 => ?_)
        · refine c_keep [0, 1, 2, 3, 5] (ls2 := [(0, .inr t0), (1, .inl x1), (2, .inl x2), (3, .inl x3), (5, .inl x5)]) rfl ?_
          exact jo_X7_kindOfWord_54 d hlev t0 h_t0 x1 x2 x3 x5 K8 hK8 M6
        · refine c_iload_n (i := 3) dX7_kindOfWord_52 rfl rfl ?_
          exact c_iret rfl dX7_kindOfWord_53
def f_X7_kindOfWord (t0 : Nat) (x1 : Int32) (x2 : Int32) (M : Mem) : Option (Int32 × Mem) := loopC (l_X7_kindOfWord_8 t0 x1 x2) fuelL (0, 0, 0, M)
set_option maxRecDepth 20000 in
set_option maxHeartbeats 2000000 in
theorem ev_X7_kindOfWord (d : Nat) (hlev : 5 ≤ d) (t0 : Nat) (h_t0 : KSx[t0]? = some (20, lenK KSx t0)) (x1 : Int32) (x2 : Int32) (M : Mem) : Ev KSx ST1 mdX7_kindOfWord d [.inr t0, .inl x1, .inl x2] M (f_X7_kindOfWord t0 x1 x2 M) := by
  refine ev_of rfl (Nat.le_of_ble_eq_true rfl) ?_
  show CorM KSx ST1 RX7 cX7_kindOfWord 6 (some .int) d 0 [(0, .inr t0), (1, .inl x1), (2, .inl x2)] [] M (f_X7_kindOfWord t0 x1 x2 M)
  unfold f_X7_kindOfWord
  refine c_iconst dX7_kindOfWord_0 (v := 0) rfl ?_
  refine c_istore_n (i := 3) dX7_kindOfWord_1 rfl (by decide) (ls2 := [(0, .inr t0), (1, .inl x1), (2, .inl x2), (3, .inl 0)]) rfl ?_
  refine c_iconst dX7_kindOfWord_2 (v := 0) rfl ?_
  refine c_istore dX7_kindOfWord_3 (by decide) (ls2 := [(0, .inr t0), (1, .inl x1), (2, .inl x2), (3, .inl 0), (4, .inl 0)]) rfl ?_
  refine c_iconst dX7_kindOfWord_5 (v := 0) rfl ?_
  refine c_istore dX7_kindOfWord_6 (by decide) (ls2 := [(0, .inr t0), (1, .inl x1), (2, .inl x2), (3, .inl 0), (4, .inl 0), (5, .inl 0)]) rfl ?_
  refine c_keep [0, 1, 2, 3, 4, 5] (ls2 := [(0, .inr t0), (1, .inl x1), (2, .inl x2), (3, .inl 0), (4, .inl 0), (5, .inl 0)]) rfl ?_
  exact lo_X7_kindOfWord_8 d hlev t0 h_t0 x1 x2 (0, 0, 0, M)

abbrev mdX7_addToken : MD := (yX7_addToken, cX7_addToken, 4, none)
theorem mw_X7_addToken : mdW mdX7_addToken := ⟨wm_X7_addToken, w0_RX7, by decide, by decide⟩
theorem mn_X7_addToken : (parseMethodDescriptor yX7_addToken.desc).map (fun d => d.parameters.length) = some 3 := by decide +kernel
def f_X7_addToken (x1 : Int32) (x2 : Int32) (x3 : Int32) (M : Mem) : Option (Int32 × Mem) := if inb (M 3 3) 901 then wrt (up M 4 (ix (M 3 3)) x1) (fun M2 => if inb (M2 3 3) 901 then wrt (up M2 5 (ix (M2 3 3)) x2) (fun M4 => if inb (M4 3 3) 901 then wrt (up M4 6 (ix (M4 3 3)) x3) (fun M6 => wrt (up M6 3 3 ((M6 3 3) + 1)) (fun M7 => some (0, M7))) else none) else none) else none
set_option maxRecDepth 20000 in
set_option maxHeartbeats 2000000 in
theorem ev_X7_addToken (d : Nat) (hlev : 0 ≤ d) (x1 : Int32) (x2 : Int32) (x3 : Int32) (M : Mem) : Ev KSx ST1 mdX7_addToken d [.inr 3, .inl x1, .inl x2, .inl x3] M (f_X7_addToken x1 x2 x3 M) := by
  refine ev_of rfl (Nat.le_of_ble_eq_true rfl) ?_
  show CorM KSx ST1 RX7 cX7_addToken 4 none d 0 [(0, .inr 3), (1, .inl x1), (2, .inl x2), (3, .inl x3)] [] M (f_X7_addToken x1 x2 x3 M)
  unfold f_X7_addToken
  refine c_aload_n (i := 0) dX7_addToken_0 rfl rfl ?_
  refine gf_RX7_9 (blk_get0 KSx_b3) dX7_addToken_1 ?_
  refine c_aload_n (i := 0) dX7_addToken_4 rfl rfl ?_
  refine gf_RX7_21 (blk_get0 KSx_b3) dX7_addToken_5 ?_
  refine c_iload_n (i := 1) dX7_addToken_8 rfl rfl ?_
  refine c_chk (fun h1 => ?_)
  refine c_iast (blk_get0 (blk_sub (C := [(20, 901)]) (i := 1) KSx_b3 rfl)) h1 dX7_addToken_9 ?_
  refine c_wrt (fun M2 => ?_)
  refine c_aload_n (i := 0) dX7_addToken_10 rfl rfl ?_
  refine gf_RX7_15 (blk_get0 KSx_b3) dX7_addToken_11 ?_
  refine c_aload_n (i := 0) dX7_addToken_14 rfl rfl ?_
  refine gf_RX7_21 (blk_get0 KSx_b3) dX7_addToken_15 ?_
  refine c_iload_n (i := 2) dX7_addToken_18 rfl rfl ?_
  refine c_chk (fun h3 => ?_)
  refine c_iast (blk_get0 (blk_sub (C := [(20, 901)]) (i := 2) KSx_b3 rfl)) h3 dX7_addToken_19 ?_
  refine c_wrt (fun M4 => ?_)
  refine c_aload_n (i := 0) dX7_addToken_20 rfl rfl ?_
  refine gf_RX7_18 (blk_get0 KSx_b3) dX7_addToken_21 ?_
  refine c_aload_n (i := 0) dX7_addToken_24 rfl rfl ?_
  refine gf_RX7_21 (blk_get0 KSx_b3) dX7_addToken_25 ?_
  refine c_iload_n (i := 3) dX7_addToken_28 rfl rfl ?_
  refine c_chk (fun h5 => ?_)
  refine c_iast (blk_get0 (blk_sub (C := [(20, 901)]) (i := 3) KSx_b3 rfl)) h5 dX7_addToken_29 ?_
  refine c_wrt (fun M6 => ?_)
  refine c_aload_n (i := 0) dX7_addToken_30 rfl rfl ?_
  refine c_dup dX7_addToken_31 ?_
  refine gf_RX7_21 (blk_get0 KSx_b3) dX7_addToken_32 ?_
  refine c_iconst dX7_addToken_35 (v := 1) rfl ?_
  refine c_iadd dX7_addToken_36 ?_
  refine pf_RX7_21 (blk_get0 KSx_b3) dX7_addToken_37 ?_
  refine c_wrt (fun M7 => ?_)
  exact c_vret rfl dX7_addToken_40

abbrev mdX7_addWord : MD := (yX7_addWord, cX7_addWord, 5, none)
theorem mw_X7_addWord : mdW mdX7_addWord := ⟨wm_X7_addWord, w0_RX7, by decide, by decide⟩
theorem mn_X7_addWord : (parseMethodDescriptor yX7_addWord.desc).map (fun d => d.parameters.length) = some 3 := by decide +kernel
def j_X7_addWord_25 (t1 : Nat) (x2 : Int32) (x4 : Int32) (M : Mem) : Option (Int32 × Mem) := bnd (f_X7_kindOfWord t1 x2 x4 M) (fun v2 M3 => bnd (f_X7_addToken v2 x2 0 M3) (fun _ M5 => some (0, M5)))
set_option maxRecDepth 20000 in
set_option maxHeartbeats 2000000 in
theorem jo_X7_addWord_25 (d : Nat) (hlev : 6 ≤ d) (t1 : Nat) (h_t1 : KSx[t1]? = some (20, lenK KSx t1)) (x2 : Int32) (x4 : Int32) (M : Mem) : CorM KSx ST1 RX7 cX7_addWord 5 none d 25 [(0, .inr 3), (1, .inr t1), (2, .inl x2), (4, .inl x4)] [] M (j_X7_addWord_25 t1 x2 x4 M) := by
  unfold j_X7_addWord_25
  refine c_aload_n (i := 0) dX7_addWord_25 rfl rfl ?_
  refine c_aload_n (i := 1) dX7_addWord_26 rfl rfl ?_
  refine c_iload_n (i := 2) dX7_addWord_27 rfl rfl ?_
  refine c_iload dX7_addWord_28 rfl ?_
  refine c_callS (as := [.inr t1, .inl x2, .inl x4]) (rs := [.inr 3]) (ev_X7_kindOfWord 5 (Nat.le_refl _) t1 h_t1 x2 x4 M) rfl (Nat.lt_of_lt_of_le (by decide) hlev) mw_X7_kindOfWord ws_X7_kindOfWord wl_RX7_50 mn_X7_kindOfWord rfl (by decide) (Nat.le_of_ble_eq_true rfl) ⟨_, rfl⟩ dX7_addWord_30 (fun v2 M3 _ => ?_)
  refine c_iload_n (i := 2) dX7_addWord_33 rfl rfl ?_
  refine c_iconst dX7_addWord_34 (v := 0) rfl ?_
  refine c_callVv (as := [.inl v2, .inl x2, .inl 0]) (rs := []) (ev_X7_addToken 0 (Nat.le_refl _) v2 x2 0 M3) rfl (Nat.lt_of_lt_of_le (by decide) hlev) mw_X7_addToken wi_X7_addToken wv_X7_addToken (blk_get0 KSx_b3) (by decide) rfl wl_RX7_46 mn_X7_addToken rfl (by decide) (Nat.le_of_ble_eq_true rfl) rfl dX7_addWord_35 (fun v4 M5 _ => ?_)
  exact c_vret rfl dX7_addWord_38
def l_X7_addWord_3 (t1 : Nat) (x2 : Int32) (x3 : Int32) (K3 : Int32 × Mem → Option (Int32 × Mem)) : Int32 × Mem → Option (Int32 × Mem) := fun s => match s with
  | (x4, M) => if x3 ≤ x4 then j_X7_addWord_25 t1 x2 x4 M else if inb x4 (lenK KSx t1) then if (p_X7_isLetter (M t1 (ix x4))) = 0 then j_X7_addWord_25 t1 x2 x4 M else K3 (x4 + 1, M) else none
set_option maxRecDepth 20000 in
set_option maxHeartbeats 2000000 in
theorem lo_X7_addWord_3 (d : Nat) (hlev : 6 ≤ d) (t1 : Nat) (h_t1 : KSx[t1]? = some (20, lenK KSx t1)) (x2 : Int32) (x3 : Int32) (s : Int32 × Mem) : CorM KSx ST1 RX7 cX7_addWord 5 none d 3 [(0, .inr 3), (1, .inr t1), (2, .inl x2), (3, .inl x3), (4, .inl s.1)] [] s.2 (loopC (l_X7_addWord_3 t1 x2 x3) fuelL s) := by
  refine c_loop (L := fun s : Int32 × Mem => [(0, .inr 3), (1, .inr t1), (2, .inl x2), (3, .inl x3), (4, .inl s.1)]) (Mf := fun s : Int32 × Mem => s.2) (fun K3 hK3 s => ?_) fuelL s
  obtain ⟨x4, M⟩ := s
  show CorM KSx ST1 RX7 cX7_addWord 5 none d 3 [(0, .inr 3), (1, .inr t1), (2, .inl x2), (3, .inl x3), (4, .inl x4)] [] M (l_X7_addWord_3 t1 x2 x3 K3 (x4, M))
  unfold l_X7_addWord_3
  refine c_iload dX7_addWord_3 rfl ?_
  refine c_iload_n (i := 3) dX7_addWord_5 rfl rfl ?_
  refine c_icmp_ge (tgt := 25) dX7_addWord_6 rfl (fun h1 => ?_) (fun h1 => ?_)
  · refine c_keep [0, 1, 2, 4] (ls2 := [(0, .inr 3), (1, .inr t1), (2, .inl x2), (4, .inl x4)]) rfl ?_
    exact jo_X7_addWord_25 d hlev t1 h_t1 x2 x4 M
  · refine c_aload_n (i := 1) dX7_addWord_9 rfl rfl ?_
    refine c_iload dX7_addWord_10 rfl ?_
    refine c_chk (fun h6 => ?_)
    refine c_iald h_t1 h6 dX7_addWord_12 ?_
    refine c_callSp (as := [.inl (M t1 (ix x4))]) (rs := []) (ev_X7_isLetter 0 (Nat.le_refl _) (M t1 (ix x4)) M) rfl (Nat.lt_of_lt_of_le (by decide) hlev) mw_X7_isLetter ws_X7_isLetter wl_RX7_25 mn_X7_isLetter rfl (by decide) (Nat.le_of_ble_eq_true rfl) ⟨_, rfl⟩ dX7_addWord_13 ?_
    refine c_if_eq (tgt := 25) dX7_addWord_16 rfl (fun h7 => ?_) (fun h7 => ?_)
    · refine c_keep [0, 1, 2, 4] (ls2 := [(0, .inr 3), (1, .inr t1), (2, .inl x2), (4, .inl x4)]) rfl ?_
      exact jo_X7_addWord_25 d hlev t1 h_t1 x2 x4 M
    · refine c_iinc dX7_addWord_19 rfl (v := 1) rfl (by decide) (ls2 := [(0, .inr 3), (1, .inr t1), (2, .inl x2), (3, .inl x3), (4, .inl (x4 + 1))]) rfl ?_
      refine c_goto (tgt := 3) dX7_addWord_22 rfl ?_
      refine c_keep [0, 1, 2, 3, 4] (ls2 := [(0, .inr 3), (1, .inr t1), (2, .inl x2), (3, .inl x3), (4, .inl (x4 + 1))]) rfl ?_
      exact hK3 (x4 + 1, M)
def f_X7_addWord (t1 : Nat) (x2 : Int32) (x3 : Int32) (M : Mem) : Option (Int32 × Mem) := loopC (l_X7_addWord_3 t1 x2 x3) fuelL (x2, M)
set_option maxRecDepth 20000 in
set_option maxHeartbeats 2000000 in
theorem ev_X7_addWord (d : Nat) (hlev : 6 ≤ d) (t1 : Nat) (h_t1 : KSx[t1]? = some (20, lenK KSx t1)) (x2 : Int32) (x3 : Int32) (M : Mem) : Ev KSx ST1 mdX7_addWord d [.inr 3, .inr t1, .inl x2, .inl x3] M (f_X7_addWord t1 x2 x3 M) := by
  refine ev_of rfl (Nat.le_of_ble_eq_true rfl) ?_
  show CorM KSx ST1 RX7 cX7_addWord 5 none d 0 [(0, .inr 3), (1, .inr t1), (2, .inl x2), (3, .inl x3)] [] M (f_X7_addWord t1 x2 x3 M)
  unfold f_X7_addWord
  refine c_iload_n (i := 2) dX7_addWord_0 rfl rfl ?_
  refine c_istore dX7_addWord_1 (by decide) (ls2 := [(0, .inr 3), (1, .inr t1), (2, .inl x2), (3, .inl x3), (4, .inl x2)]) rfl ?_
  refine c_keep [0, 1, 2, 3, 4] (ls2 := [(0, .inr 3), (1, .inr t1), (2, .inl x2), (3, .inl x3), (4, .inl x2)]) rfl ?_
  exact lo_X7_addWord_3 d hlev t1 h_t1 x2 x3 (x2, M)

abbrev mdX7_isDigit : MD := (yX7_isDigit, cX7_isDigit, 1, (some .boolean))
theorem mw_X7_isDigit : mdW mdX7_isDigit := ⟨wm_X7_isDigit, w0_RX7, by decide, by decide⟩
theorem mn_X7_isDigit : (parseMethodDescriptor yX7_isDigit.desc).map (fun d => d.parameters.length) = some 1 := by decide +kernel
def p_X7_isDigit (x0 : Int32) : Int32 := (if x0 < 48 then (0 : Int32) else if 57 < x0 then (0 : Int32) else (1 : Int32))
theorem pz_X7_isDigit (x0 : Int32) : isB (p_X7_isDigit x0) := by
  unfold p_X7_isDigit
  repeat' (first | apply isB_ite | exact Or.inl rfl | exact Or.inr rfl | apply_assumption)
set_option maxRecDepth 20000 in
set_option maxHeartbeats 2000000 in
theorem ev_X7_isDigit (d : Nat) (hlev : 0 ≤ d) (x0 : Int32) (M : Mem) : Ev KSx ST1 mdX7_isDigit d [.inl x0] M (some (p_X7_isDigit x0, M)) := by
  refine ev_of rfl (Nat.le_of_ble_eq_true rfl) ?_
  show CorM KSx ST1 RX7 cX7_isDigit 1 (some .boolean) d 0 [(0, .inl x0)] [] M (some (p_X7_isDigit x0, M))
  unfold p_X7_isDigit
  refine c_iload_n (i := 0) dX7_isDigit_0 rfl rfl ?_
  refine c_bipush dX7_isDigit_1 (v := 48) rfl ?_
  have J_z1 : ∀ z1 : Int32, isB z1 → CorM KSx ST1 RX7 cX7_isDigit 1 (some .boolean) d 17 [] [.inl z1] M (some (z1, M)) := by
    intro z1 h_z1
    exact c_zret rfl h_z1 dX7_isDigit_17
  refine c_val (b := x0 < 48) (v1 := (0 : Int32)) (v2 := if 57 < x0 then (0 : Int32) else (1 : Int32)) (F := fun z1 => some (z1, M)) (fun h2 => ?_) (fun h2 => ?_)
  · refine c_T h2 (c_icmp_lt (tgt := 16) dX7_isDigit_3 rfl (fun _ => ?_) (fun q => absurd h2 q))
    refine c_iconst dX7_isDigit_16 (v := 0) rfl ?_
    refine c_keep [] (ls2 := []) rfl ?_
    exact J_z1 0 (Or.inl rfl)
  · refine c_Fl h2 (c_icmp_lt (tgt := 16) dX7_isDigit_3 rfl (fun q => absurd q h2) (fun _ => ?_))
    refine c_iload_n (i := 0) dX7_isDigit_6 rfl rfl ?_
    refine c_bipush dX7_isDigit_7 (v := 57) rfl ?_
    refine c_val (b := 57 < x0) (v1 := (0 : Int32)) (v2 := (1 : Int32)) (F := fun z1 => some (z1, M)) (fun h3 => ?_) (fun h3 => ?_)
    · refine c_T h3 (c_icmp_gt (tgt := 16) dX7_isDigit_9 rfl (fun _ => ?_) (fun q => absurd h3 q))
      refine c_iconst dX7_isDigit_16 (v := 0) rfl ?_
      refine c_keep [] (ls2 := []) rfl ?_
      exact J_z1 0 (Or.inl rfl)
    · refine c_Fl h3 (c_icmp_gt (tgt := 16) dX7_isDigit_9 rfl (fun q => absurd q h3) (fun _ => ?_))
      refine c_iconst dX7_isDigit_12 (v := 1) rfl ?_
      refine c_goto (tgt := 17) dX7_isDigit_13 rfl ?_
      refine c_keep [] (ls2 := []) rfl ?_
      exact J_z1 1 (Or.inr rfl)

abbrev mdX7_addNumber : MD := (yX7_addNumber, cX7_addNumber, 6, none)
theorem mw_X7_addNumber : mdW mdX7_addNumber := ⟨wm_X7_addNumber, w0_RX7, by decide, by decide⟩
theorem mn_X7_addNumber : (parseMethodDescriptor yX7_addNumber.desc).map (fun d => d.parameters.length) = some 3 := by decide +kernel
def j_X7_addNumber_43 (x2 : Int32) (x4 : Int32) (x5 : Int32) (M : Mem) : Option (Int32 × Mem) := bnd (f_X7_addToken (if 6 < (x5 - x2) then (33 : Int32) else (28 : Int32)) x2 x4 M) (fun _ M4 => some (0, M4))
set_option maxRecDepth 20000 in
set_option maxHeartbeats 2000000 in
theorem jo_X7_addNumber_43 (d : Nat) (hlev : 1 ≤ d) (x2 : Int32) (x4 : Int32) (x5 : Int32) (M : Mem) : CorM KSx ST1 RX7 cX7_addNumber 6 none d 43 [(0, .inr 3), (2, .inl x2), (4, .inl x4), (5, .inl x5)] [] M (j_X7_addNumber_43 x2 x4 x5 M) := by
  unfold j_X7_addNumber_43
  refine c_aload_n (i := 0) dX7_addNumber_43 rfl rfl ?_
  refine c_iload dX7_addNumber_44 rfl ?_
  refine c_iload_n (i := 2) dX7_addNumber_46 rfl rfl ?_
  refine c_isub dX7_addNumber_47 ?_
  refine c_bipush dX7_addNumber_48 (v := 6) rfl ?_
  have J_z2 : ∀ z2 : Int32, CorM KSx ST1 RX7 cX7_addNumber 6 none d 60 [(2, .inl x2), (4, .inl x4)] [.inl z2, .inr 3] M (bnd (f_X7_addToken z2 x2 x4 M) (fun _ M4 => some (0, M4))) := by
    intro z2
    refine c_iload_n (i := 2) dX7_addNumber_60 rfl rfl ?_
    refine c_iload dX7_addNumber_61 rfl ?_
    refine c_callVv (as := [.inl z2, .inl x2, .inl x4]) (rs := []) (ev_X7_addToken 0 (Nat.le_refl _) z2 x2 x4 M) rfl (Nat.lt_of_lt_of_le (by decide) hlev) mw_X7_addToken wi_X7_addToken wv_X7_addToken (blk_get0 KSx_b3) (by decide) rfl wl_RX7_46 mn_X7_addToken rfl (by decide) (Nat.le_of_ble_eq_true rfl) rfl dX7_addNumber_63 (fun v3 M4 _ => ?_)
    exact c_vret rfl dX7_addNumber_66
  refine c_val (b := 6 < (x5 - x2)) (v1 := (33 : Int32)) (v2 := (28 : Int32)) (F := fun z2 => bnd (f_X7_addToken z2 x2 x4 M) (fun _ M4 => some (0, M4))) (fun h5 => ?_) (fun h5 => ?_)
  · refine c_T h5 (c_icmp_gt (tgt := 58) dX7_addNumber_50 rfl (fun _ => ?_) (fun q => absurd h5 q))
    refine c_bipush dX7_addNumber_58 (v := 33) rfl ?_
    refine c_keep [2, 4] (ls2 := [(2, .inl x2), (4, .inl x4)]) rfl ?_
    exact J_z2 33
  · refine c_Fl h5 (c_icmp_gt (tgt := 58) dX7_addNumber_50 rfl (fun q => absurd q h5) (fun _ => ?_))
    refine c_bipush dX7_addNumber_53 (v := 28) rfl ?_
    refine c_goto (tgt := 60) dX7_addNumber_55 rfl ?_
    refine c_keep [2, 4] (ls2 := [(2, .inl x2), (4, .inl x4)]) rfl ?_
    exact J_z2 28
def l_X7_addNumber_6 (t1 : Nat) (x2 : Int32) (x3 : Int32) (K6 : Int32 × Int32 × Mem → Option (Int32 × Mem)) : Int32 × Int32 × Mem → Option (Int32 × Mem) := fun s => match s with
  | (x4, x5, M) => if x3 ≤ x5 then j_X7_addNumber_43 x2 x4 x5 M else if inb x5 (lenK KSx t1) then if (p_X7_isDigit (M t1 (ix x5))) = 0 then j_X7_addNumber_43 x2 x4 x5 M else if inb x5 (lenK KSx t1) then K6 (((x4 * 10) + (M t1 (ix x5))) - 48, x5 + 1, M) else none else none
set_option maxRecDepth 20000 in
set_option maxHeartbeats 2000000 in
theorem lo_X7_addNumber_6 (d : Nat) (hlev : 1 ≤ d) (t1 : Nat) (h_t1 : KSx[t1]? = some (20, lenK KSx t1)) (x2 : Int32) (x3 : Int32) (s : Int32 × Int32 × Mem) : CorM KSx ST1 RX7 cX7_addNumber 6 none d 6 [(0, .inr 3), (1, .inr t1), (2, .inl x2), (3, .inl x3), (4, .inl s.1), (5, .inl s.2.1)] [] s.2.2 (loopC (l_X7_addNumber_6 t1 x2 x3) fuelL s) := by
  refine c_loop (L := fun s : Int32 × Int32 × Mem => [(0, .inr 3), (1, .inr t1), (2, .inl x2), (3, .inl x3), (4, .inl s.1), (5, .inl s.2.1)]) (Mf := fun s : Int32 × Int32 × Mem => s.2.2) (fun K6 hK6 s => ?_) fuelL s
  obtain ⟨x4, x5, M⟩ := s
  show CorM KSx ST1 RX7 cX7_addNumber 6 none d 6 [(0, .inr 3), (1, .inr t1), (2, .inl x2), (3, .inl x3), (4, .inl x4), (5, .inl x5)] [] M (l_X7_addNumber_6 t1 x2 x3 K6 (x4, x5, M))
  unfold l_X7_addNumber_6
  refine c_iload dX7_addNumber_6 rfl ?_
  refine c_iload_n (i := 3) dX7_addNumber_8 rfl rfl ?_
  refine c_icmp_ge (tgt := 43) dX7_addNumber_9 rfl (fun h1 => ?_) (fun h1 => ?_)
  · refine c_keep [0, 2, 4, 5] (ls2 := [(0, .inr 3), (2, .inl x2), (4, .inl x4), (5, .inl x5)]) rfl ?_
    exact jo_X7_addNumber_43 d hlev x2 x4 x5 M
  · refine c_aload_n (i := 1) dX7_addNumber_12 rfl rfl ?_
    refine c_iload dX7_addNumber_13 rfl ?_
    refine c_chk (fun h6 => ?_)
    refine c_iald h_t1 h6 dX7_addNumber_15 ?_
    refine c_callSp (as := [.inl (M t1 (ix x5))]) (rs := []) (ev_X7_isDigit 0 (Nat.le_refl _) (M t1 (ix x5)) M) rfl (Nat.lt_of_lt_of_le (by decide) hlev) mw_X7_isDigit ws_X7_isDigit wl_RX7_33 mn_X7_isDigit rfl (by decide) (Nat.le_of_ble_eq_true rfl) ⟨_, rfl⟩ dX7_addNumber_16 ?_
    refine c_if_eq (tgt := 43) dX7_addNumber_19 rfl (fun h7 => ?_) (fun h7 => ?_)
    · refine c_keep [0, 2, 4, 5] (ls2 := [(0, .inr 3), (2, .inl x2), (4, .inl x4), (5, .inl x5)]) rfl ?_
      exact jo_X7_addNumber_43 d hlev x2 x4 x5 M
    · refine c_iload dX7_addNumber_22 rfl ?_
      refine c_bipush dX7_addNumber_24 (v := 10) rfl ?_
      refine c_imul dX7_addNumber_26 ?_
      refine c_aload_n (i := 1) dX7_addNumber_27 rfl rfl ?_
      refine c_iload dX7_addNumber_28 rfl ?_
      refine c_chk (fun h8 => ?_)
      refine c_iald h_t1 h8 dX7_addNumber_30 ?_
      refine c_iadd dX7_addNumber_31 ?_
      refine c_bipush dX7_addNumber_32 (v := 48) rfl ?_
      refine c_isub dX7_addNumber_34 ?_
      refine c_istore dX7_addNumber_35 (by decide) (ls2 := [(0, .inr 3), (1, .inr t1), (2, .inl x2), (3, .inl x3), (4, .inl (((x4 * 10) + (M t1 (ix x5))) - 48)), (5, .inl x5)]) rfl ?_
      refine c_iinc dX7_addNumber_37 rfl (v := 1) rfl (by decide) (ls2 := [(0, .inr 3), (1, .inr t1), (2, .inl x2), (3, .inl x3), (4, .inl (((x4 * 10) + (M t1 (ix x5))) - 48)), (5, .inl (x5 + 1))]) rfl ?_
      refine c_goto (tgt := 6) dX7_addNumber_40 rfl ?_
      refine c_keep [0, 1, 2, 3, 4, 5] (ls2 := [(0, .inr 3), (1, .inr t1), (2, .inl x2), (3, .inl x3), (4, .inl (((x4 * 10) + (M t1 (ix x5))) - 48)), (5, .inl (x5 + 1))]) rfl ?_
      exact hK6 (((x4 * 10) + (M t1 (ix x5))) - 48, x5 + 1, M)
def f_X7_addNumber (t1 : Nat) (x2 : Int32) (x3 : Int32) (M : Mem) : Option (Int32 × Mem) := loopC (l_X7_addNumber_6 t1 x2 x3) fuelL (0, x2, M)
set_option maxRecDepth 20000 in
set_option maxHeartbeats 2000000 in
theorem ev_X7_addNumber (d : Nat) (hlev : 1 ≤ d) (t1 : Nat) (h_t1 : KSx[t1]? = some (20, lenK KSx t1)) (x2 : Int32) (x3 : Int32) (M : Mem) : Ev KSx ST1 mdX7_addNumber d [.inr 3, .inr t1, .inl x2, .inl x3] M (f_X7_addNumber t1 x2 x3 M) := by
  refine ev_of rfl (Nat.le_of_ble_eq_true rfl) ?_
  show CorM KSx ST1 RX7 cX7_addNumber 6 none d 0 [(0, .inr 3), (1, .inr t1), (2, .inl x2), (3, .inl x3)] [] M (f_X7_addNumber t1 x2 x3 M)
  unfold f_X7_addNumber
  refine c_iconst dX7_addNumber_0 (v := 0) rfl ?_
  refine c_istore dX7_addNumber_1 (by decide) (ls2 := [(0, .inr 3), (1, .inr t1), (2, .inl x2), (3, .inl x3), (4, .inl 0)]) rfl ?_
  refine c_iload_n (i := 2) dX7_addNumber_3 rfl rfl ?_
  refine c_istore dX7_addNumber_4 (by decide) (ls2 := [(0, .inr 3), (1, .inr t1), (2, .inl x2), (3, .inl x3), (4, .inl 0), (5, .inl x2)]) rfl ?_
  refine c_keep [0, 1, 2, 3, 4, 5] (ls2 := [(0, .inr 3), (1, .inr t1), (2, .inl x2), (3, .inl x3), (4, .inl 0), (5, .inl x2)]) rfl ?_
  exact lo_X7_addNumber_6 d hlev t1 h_t1 x2 x3 (0, x2, M)

abbrev mdX7_isBlank : MD := (yX7_isBlank, cX7_isBlank, 1, (some .boolean))
theorem mw_X7_isBlank : mdW mdX7_isBlank := ⟨wm_X7_isBlank, w0_RX7, by decide, by decide⟩
theorem mn_X7_isBlank : (parseMethodDescriptor yX7_isBlank.desc).map (fun d => d.parameters.length) = some 1 := by decide +kernel
def p_X7_isBlank (x0 : Int32) : Int32 := (if x0 = 10 then (1 : Int32) else if ¬ x0 = 32 then (0 : Int32) else (1 : Int32))
theorem pz_X7_isBlank (x0 : Int32) : isB (p_X7_isBlank x0) := by
  unfold p_X7_isBlank
  repeat' (first | apply isB_ite | exact Or.inl rfl | exact Or.inr rfl | apply_assumption)
set_option maxRecDepth 20000 in
set_option maxHeartbeats 2000000 in
theorem ev_X7_isBlank (d : Nat) (hlev : 0 ≤ d) (x0 : Int32) (M : Mem) : Ev KSx ST1 mdX7_isBlank d [.inl x0] M (some (p_X7_isBlank x0, M)) := by
  refine ev_of rfl (Nat.le_of_ble_eq_true rfl) ?_
  show CorM KSx ST1 RX7 cX7_isBlank 1 (some .boolean) d 0 [(0, .inl x0)] [] M (some (p_X7_isBlank x0, M))
  unfold p_X7_isBlank
  refine c_iload_n (i := 0) dX7_isBlank_0 rfl rfl ?_
  refine c_bipush dX7_isBlank_1 (v := 10) rfl ?_
  have J_z1 : ∀ z1 : Int32, isB z1 → CorM KSx ST1 RX7 cX7_isBlank 1 (some .boolean) d 17 [] [.inl z1] M (some (z1, M)) := by
    intro z1 h_z1
    exact c_zret rfl h_z1 dX7_isBlank_17
  refine c_val (b := x0 = 10) (v1 := (1 : Int32)) (v2 := if ¬ x0 = 32 then (0 : Int32) else (1 : Int32)) (F := fun z1 => some (z1, M)) (fun h2 => ?_) (fun h2 => ?_)
  · refine c_T h2 (c_icmp_eq (tgt := 12) dX7_isBlank_3 rfl (fun _ => ?_) (fun q => absurd h2 q))
    refine c_iconst dX7_isBlank_12 (v := 1) rfl ?_
    refine c_goto (tgt := 17) dX7_isBlank_13 rfl ?_
    refine c_keep [] (ls2 := []) rfl ?_
    exact J_z1 1 (Or.inr rfl)
  · refine c_Fl h2 (c_icmp_eq (tgt := 12) dX7_isBlank_3 rfl (fun q => absurd q h2) (fun _ => ?_))
    refine c_iload_n (i := 0) dX7_isBlank_6 rfl rfl ?_
    refine c_bipush dX7_isBlank_7 (v := 32) rfl ?_
    refine c_val (b := ¬ x0 = 32) (v1 := (0 : Int32)) (v2 := (1 : Int32)) (F := fun z1 => some (z1, M)) (fun h3 => ?_) (fun h3 => ?_)
    · refine c_T h3 (c_icmp_ne (tgt := 16) dX7_isBlank_9 rfl (fun _ => ?_) (fun q => absurd h3 q))
      refine c_iconst dX7_isBlank_16 (v := 0) rfl ?_
      refine c_keep [] (ls2 := []) rfl ?_
      exact J_z1 0 (Or.inl rfl)
    · refine c_Fl h3 (c_icmp_ne (tgt := 16) dX7_isBlank_9 rfl (fun q => absurd q h3) (fun _ => ?_))
      refine c_iconst dX7_isBlank_12 (v := 1) rfl ?_
      refine c_goto (tgt := 17) dX7_isBlank_13 rfl ?_
      refine c_keep [] (ls2 := []) rfl ?_
      exact J_z1 1 (Or.inr rfl)

abbrev mdX7_kindOfSign : MD := (yX7_kindOfSign, cX7_kindOfSign, 1, (some .int))
theorem mw_X7_kindOfSign : mdW mdX7_kindOfSign := ⟨wm_X7_kindOfSign, w0_RX7, by decide, by decide⟩
theorem mn_X7_kindOfSign : (parseMethodDescriptor yX7_kindOfSign.desc).map (fun d => d.parameters.length) = some 1 := by decide +kernel
def p_X7_kindOfSign (x0 : Int32) : Int32 := if x0 = 45 then 31 else if x0 = 58 then 29 else if x0 = 59 then 30 else 33
set_option maxRecDepth 20000 in
set_option maxHeartbeats 2000000 in
theorem ev_X7_kindOfSign (d : Nat) (hlev : 0 ≤ d) (x0 : Int32) (M : Mem) : Ev KSx ST1 mdX7_kindOfSign d [.inl x0] M (some (p_X7_kindOfSign x0, M)) := by
  refine ev_of rfl (Nat.le_of_ble_eq_true rfl) ?_
  show CorM KSx ST1 RX7 cX7_kindOfSign 1 (some .int) d 0 [(0, .inl x0)] [] M (some (p_X7_kindOfSign x0, M))
  unfold p_X7_kindOfSign
  refine c_iload_n (i := 0) dX7_kindOfSign_0 rfl rfl ?_
  refine c_val (F := fun z => some (z, M)) (fun h1 => ?_) (fun h1 => ?_)
  · refine c_lookup (tgt := 42) dX7_kindOfSign_1 (by decide) (by rw [h1] <;> rfl) rfl ?_
    refine c_bipush dX7_kindOfSign_42 (v := 31) rfl ?_
    exact c_iret rfl dX7_kindOfSign_44
  · refine c_val (F := fun z => some (z, M)) (fun h2 => ?_) (fun h2 => ?_)
    · refine c_lookup (tgt := 36) dX7_kindOfSign_1 (by decide) (by rw [h2] <;> rfl) rfl ?_
      refine c_bipush dX7_kindOfSign_36 (v := 29) rfl ?_
      exact c_iret rfl dX7_kindOfSign_38
    · refine c_val (F := fun z => some (z, M)) (fun h3 => ?_) (fun h3 => ?_)
      · refine c_lookup (tgt := 39) dX7_kindOfSign_1 (by decide) (by rw [h3] <;> rfl) rfl ?_
        refine c_bipush dX7_kindOfSign_39 (v := 30) rfl ?_
        exact c_iret rfl dX7_kindOfSign_41
      · refine c_lookup (tgt := 45) dX7_kindOfSign_1 (by decide) (sw_lk (ks := [45, 58, 59]) (List.forall_mem_cons.mpr ⟨h1, (List.forall_mem_cons.mpr ⟨h2, (List.forall_mem_cons.mpr ⟨h3, (fun _ q => absurd q List.not_mem_nil)⟩)⟩)⟩) (by decide)) rfl ?_
        refine c_bipush dX7_kindOfSign_45 (v := 33) rfl ?_
        exact c_iret rfl dX7_kindOfSign_47
