abbrev mdX4_noteUses : MD := (yX4_noteUses, cX4_noteUses, 6, none)
theorem mw_X4_noteUses : mdW mdX4_noteUses := ⟨wm_X4_noteUses, w0_RX4, by decide, by decide⟩
theorem mn_X4_noteUses : (parseMethodDescriptor yX4_noteUses.desc).map (fun d => d.parameters.length) = some 1 := by decide +kernel
def j_X4_noteUses_98 (t0 : Nat) (x1 : Int32) (x2 : Int32) (x3 : Int32) (x4 : Int32) (K18 : Int32 × Mem → Option (Int32 × Mem)) (M : Mem) : Option (Int32 × Mem) := K18 (x4 + 1, M)
set_option maxRecDepth 20000 in
set_option maxHeartbeats 2000000 in
theorem jo_X4_noteUses_98 (d : Nat) (hlev : 2 ≤ d) (t0 : Nat) (h_t0 : blkAt KSx t0 blk4) (x1 : Int32) (x2 : Int32) (x3 : Int32) (x4 : Int32) (K18 : Int32 × Mem → Option (Int32 × Mem)) (hK18 : ∀ s : Int32 × Mem, CorM KSx ST1 RX4 cX4_noteUses 6 none d 18 [(0, .inr t0), (1, .inl x1), (2, .inl x2), (3, .inl x3), (4, .inl s.1)] [] s.2 (K18 s)) (M : Mem) : CorM KSx ST1 RX4 cX4_noteUses 6 none d 98 [(0, .inr t0), (1, .inl x1), (2, .inl x2), (3, .inl x3), (4, .inl x4)] [] M (j_X4_noteUses_98 t0 x1 x2 x3 x4 K18 M) := by
  unfold j_X4_noteUses_98
  refine c_iinc dX4_noteUses_98 rfl (v := 1) rfl (by decide) (ls2 := [(0, .inr t0), (1, .inl x1), (2, .inl x2), (3, .inl x3), (4, .inl (x4 + 1))]) rfl ?_
  refine c_goto (tgt := 18) dX4_noteUses_101 rfl ?_
  refine c_keep [0, 1, 2, 3, 4] (ls2 := [(0, .inr t0), (1, .inl x1), (2, .inl x2), (3, .inl x3), (4, .inl (x4 + 1))]) rfl ?_
  exact hK18 (x4 + 1, M)
def l_X4_noteUses_18 (t0 : Nat) (x1 : Int32) (x2 : Int32) (x3 : Int32) (K18 : Int32 × Mem → Option (Int32 × Mem)) : Int32 × Mem → Option (Int32 × Mem) := fun s => match s with
  | (x4, M) => if 8 ≤ x4 then some (0, M) else if (p_X9_isIn x4 x2) = 0 then j_X4_noteUses_98 t0 x1 x2 x3 x4 K18 M else if inb (((M t0 4) * 8) + x4) 96 then bnd (f_X4_readBy t0 x1 (if ¬ x4 = x3 then (0 : Int32) else (1 : Int32)) M) (fun v8 M9 => if inb (((M t0 4) * 8) + x4) 96 then wrt (up M9 (t0 + 11) (ix (((M t0 4) * 8) + x4)) ((M (t0 + 11) (ix (((M t0 4) * 8) + x4))) ||| v8)) (fun M11 => if inb (((M t0 4) * 8) + x4) 96 then bnd (f_X4_writtenBy t0 x1 (if ¬ x4 = x3 then (0 : Int32) else (1 : Int32)) M11) (fun v14 M15 => if inb (((M t0 4) * 8) + x4) 96 then wrt (up M15 (t0 + 12) (ix (((M t0 4) * 8) + x4)) ((M11 (t0 + 12) (ix (((M t0 4) * 8) + x4))) ||| v14)) (fun M17 => j_X4_noteUses_98 t0 x1 x2 x3 x4 K18 M17) else none) else none) else none) else none
set_option maxRecDepth 20000 in
set_option maxHeartbeats 2000000 in
theorem lo_X4_noteUses_18 (d : Nat) (hlev : 2 ≤ d) (t0 : Nat) (h_t0 : blkAt KSx t0 blk4) (x1 : Int32) (x2 : Int32) (x3 : Int32) (s : Int32 × Mem) : CorM KSx ST1 RX4 cX4_noteUses 6 none d 18 [(0, .inr t0), (1, .inl x1), (2, .inl x2), (3, .inl x3), (4, .inl s.1)] [] s.2 (loopC (l_X4_noteUses_18 t0 x1 x2 x3) fuelL s) := by
  refine c_loop (L := fun s : Int32 × Mem => [(0, .inr t0), (1, .inl x1), (2, .inl x2), (3, .inl x3), (4, .inl s.1)]) (Mf := fun s : Int32 × Mem => s.2) (fun K18 hK18 s => ?_) fuelL s
  obtain ⟨x4, M⟩ := s
  show CorM KSx ST1 RX4 cX4_noteUses 6 none d 18 [(0, .inr t0), (1, .inl x1), (2, .inl x2), (3, .inl x3), (4, .inl x4)] [] M (l_X4_noteUses_18 t0 x1 x2 x3 K18 (x4, M))
  unfold l_X4_noteUses_18
  refine c_iload dX4_noteUses_18 rfl ?_
  refine c_bipush dX4_noteUses_20 (v := 8) rfl ?_
  refine c_icmp_ge (tgt := 104) dX4_noteUses_22 rfl (fun h4 => ?_) (fun h4 => ?_)
  · exact c_vret rfl dX4_noteUses_104
  · refine c_iload dX4_noteUses_25 rfl ?_
    refine c_iload_n (i := 2) dX4_noteUses_27 rfl rfl ?_
    refine c_callNp (as := [.inl x4, .inl x2]) (rs := []) (ev_X9_isIn 0 (Nat.le_refl _) x4 x2 M) rfl (Nat.lt_of_lt_of_le (by decide) hlev) mw_X9_isIn ws_X9_isIn wl_RX4_98 mn_X9_isIn rfl (by decide) (Nat.le_of_ble_eq_true rfl) ⟨_, rfl⟩ dX4_noteUses_28 ?_
    refine c_if_eq (tgt := 98) dX4_noteUses_31 rfl (fun h5 => ?_) (fun h5 => ?_)
    · refine c_keep [0, 1, 2, 3, 4] (ls2 := [(0, .inr t0), (1, .inl x1), (2, .inl x2), (3, .inl x3), (4, .inl x4)]) rfl ?_
      exact jo_X4_noteUses_98 d hlev t0 h_t0 x1 x2 x3 x4 K18 hK18 M
    · refine c_aload_n (i := 0) dX4_noteUses_34 rfl rfl ?_
      refine gf_RX4_67 (blk_get0 h_t0) dX4_noteUses_35 ?_
      refine c_bipush dX4_noteUses_38 (v := 8) rfl ?_
      refine c_imul dX4_noteUses_40 ?_
      refine c_iload dX4_noteUses_41 rfl ?_
      refine c_iadd dX4_noteUses_43 ?_
      refine c_istore dX4_noteUses_44 (by decide) (ls2 := [(0, .inr t0), (1, .inl x1), (2, .inl x2), (3, .inl x3), (4, .inl x4), (5, .inl (((M t0 4) * 8) + x4))]) rfl ?_
      refine c_aload_n (i := 0) dX4_noteUses_46 rfl rfl ?_
      refine gf_RX4_42 (blk_get0 h_t0) dX4_noteUses_47 ?_
      refine c_iload dX4_noteUses_50 rfl ?_
      refine c_dup2 dX4_noteUses_52 ?_
      refine c_chk (fun h6 => ?_)
      refine c_iald (blk_get0 (blk_sub (C := [(20, 96)]) (i := 11) h_t0 rfl)) h6 dX4_noteUses_53 ?_
      refine c_aload_n (i := 0) dX4_noteUses_54 rfl rfl ?_
      refine c_iload_n (i := 1) dX4_noteUses_55 rfl rfl ?_
      refine c_iload dX4_noteUses_56 rfl ?_
      refine c_iload_n (i := 3) dX4_noteUses_58 rfl rfl ?_
      have J_z7 : ∀ z7 : Int32, isB z7 → CorM KSx ST1 RX4 cX4_noteUses 6 none d 67 [(0, .inr t0), (1, .inl x1), (2, .inl x2), (3, .inl x3), (4, .inl x4), (5, .inl (((M t0 4) * 8) + x4))] [.inl z7, .inl x1, .inr t0, .inl (M (t0 + 11) (ix (((M t0 4) * 8) + x4))), .inl (((M t0 4) * 8) + x4), .inr (t0 + 11)] M (bnd (f_X4_readBy t0 x1 z7 M) (fun v8 M9 => if inb (((M t0 4) * 8) + x4) 96 then wrt (up M9 (t0 + 11) (ix (((M t0 4) * 8) + x4)) ((M (t0 + 11) (ix (((M t0 4) * 8) + x4))) ||| v8)) (fun M11 => if inb (((M t0 4) * 8) + x4) 96 then bnd (f_X4_writtenBy t0 x1 (if ¬ x4 = x3 then (0 : Int32) else (1 : Int32)) M11) (fun v14 M15 => if inb (((M t0 4) * 8) + x4) 96 then wrt (up M15 (t0 + 12) (ix (((M t0 4) * 8) + x4)) ((M11 (t0 + 12) (ix (((M t0 4) * 8) + x4))) ||| v14)) (fun M17 => j_X4_noteUses_98 t0 x1 x2 x3 x4 K18 M17) else none) else none) else none)) := by
        intro z7 h_z7
        refine c_callV (as := [.inl x1, .inl z7]) (rs := [.inl (M (t0 + 11) (ix (((M t0 4) * 8) + x4))), .inl (((M t0 4) * 8) + x4), .inr (t0 + 11)]) (ev_X4_readBy 1 (Nat.le_refl _) t0 h_t0 x1 z7 M) rfl (Nat.lt_of_lt_of_le (by decide) hlev) mw_X4_readBy wi_X4_readBy wv_X4_readBy (blk_get0 h_t0) (by decide) rfl wl_RX4_102 mn_X4_readBy rfl (by decide) (Nat.le_of_ble_eq_true rfl) ⟨_, rfl⟩ dX4_noteUses_67 (fun v8 M9 _ => ?_)
        refine c_ior dX4_noteUses_70 ?_
        refine c_chk (fun h10 => ?_)
        refine c_iast (blk_get0 (blk_sub (C := [(20, 96)]) (i := 11) h_t0 rfl)) h10 dX4_noteUses_71 ?_
        refine c_wrt (fun M11 => ?_)
        refine c_aload_n (i := 0) dX4_noteUses_72 rfl rfl ?_
        refine gf_RX4_45 (blk_get0 h_t0) dX4_noteUses_73 ?_
        refine c_iload dX4_noteUses_76 rfl ?_
        refine c_dup2 dX4_noteUses_78 ?_
        refine c_chk (fun h12 => ?_)
        refine c_iald (blk_get0 (blk_sub (C := [(20, 96)]) (i := 12) h_t0 rfl)) h12 dX4_noteUses_79 ?_
        refine c_aload_n (i := 0) dX4_noteUses_80 rfl rfl ?_
        refine c_iload_n (i := 1) dX4_noteUses_81 rfl rfl ?_
        refine c_iload dX4_noteUses_82 rfl ?_
        refine c_iload_n (i := 3) dX4_noteUses_84 rfl rfl ?_
        have J_z13 : ∀ z13 : Int32, isB z13 → CorM KSx ST1 RX4 cX4_noteUses 6 none d 93 [(0, .inr t0), (1, .inl x1), (2, .inl x2), (3, .inl x3), (4, .inl x4)] [.inl z13, .inl x1, .inr t0, .inl (M11 (t0 + 12) (ix (((M t0 4) * 8) + x4))), .inl (((M t0 4) * 8) + x4), .inr (t0 + 12)] M11 (bnd (f_X4_writtenBy t0 x1 z13 M11) (fun v14 M15 => if inb (((M t0 4) * 8) + x4) 96 then wrt (up M15 (t0 + 12) (ix (((M t0 4) * 8) + x4)) ((M11 (t0 + 12) (ix (((M t0 4) * 8) + x4))) ||| v14)) (fun M17 => j_X4_noteUses_98 t0 x1 x2 x3 x4 K18 M17) else none)) := by
          intro z13 h_z13
          refine c_callV (as := [.inl x1, .inl z13]) (rs := [.inl (M11 (t0 + 12) (ix (((M t0 4) * 8) + x4))), .inl (((M t0 4) * 8) + x4), .inr (t0 + 12)]) (ev_X4_writtenBy 1 (Nat.le_refl _) t0 h_t0 x1 z13 M11) rfl (Nat.lt_of_lt_of_le (by decide) hlev) mw_X4_writtenBy wi_X4_writtenBy wv_X4_writtenBy (blk_get0 h_t0) (by decide) rfl wl_RX4_106 mn_X4_writtenBy rfl (by decide) (Nat.le_of_ble_eq_true rfl) ⟨_, rfl⟩ dX4_noteUses_93 (fun v14 M15 _ => ?_)
          refine c_ior dX4_noteUses_96 ?_
          refine c_chk (fun h16 => ?_)
          refine c_iast (blk_get0 (blk_sub (C := [(20, 96)]) (i := 12) h_t0 rfl)) h16 dX4_noteUses_97 ?_
          refine c_wrt (fun M17 => ?_)
          refine c_keep [0, 1, 2, 3, 4] (ls2 := [(0, .inr t0), (1, .inl x1), (2, .inl x2), (3, .inl x3), (4, .inl x4)]) rfl ?_
          exact jo_X4_noteUses_98 d hlev t0 h_t0 x1 x2 x3 x4 K18 hK18 M17
        refine c_val (b := ¬ x4 = x3) (v1 := (0 : Int32)) (v2 := (1 : Int32)) (F := fun z13 => bnd (f_X4_writtenBy t0 x1 z13 M11) (fun v14 M15 => if inb (((M t0 4) * 8) + x4) 96 then wrt (up M15 (t0 + 12) (ix (((M t0 4) * 8) + x4)) ((M11 (t0 + 12) (ix (((M t0 4) * 8) + x4))) ||| v14)) (fun M17 => j_X4_noteUses_98 t0 x1 x2 x3 x4 K18 M17) else none)) (fun h18 => ?_) (fun h18 => ?_)
        · refine c_T h18 (c_icmp_ne (tgt := 92) dX4_noteUses_85 rfl (fun _ => ?_) (fun q => absurd h18 q))
          refine c_iconst dX4_noteUses_92 (v := 0) rfl ?_
          refine c_keep [0, 1, 2, 3, 4] (ls2 := [(0, .inr t0), (1, .inl x1), (2, .inl x2), (3, .inl x3), (4, .inl x4)]) rfl ?_
          exact J_z13 0 (Or.inl rfl)
        · refine c_Fl h18 (c_icmp_ne (tgt := 92) dX4_noteUses_85 rfl (fun q => absurd q h18) (fun _ => ?_))
          refine c_iconst dX4_noteUses_88 (v := 1) rfl ?_
          refine c_goto (tgt := 93) dX4_noteUses_89 rfl ?_
          refine c_keep [0, 1, 2, 3, 4] (ls2 := [(0, .inr t0), (1, .inl x1), (2, .inl x2), (3, .inl x3), (4, .inl x4)]) rfl ?_
          exact J_z13 1 (Or.inr rfl)
      refine c_val (b := ¬ x4 = x3) (v1 := (0 : Int32)) (v2 := (1 : Int32)) (F := fun z7 => bnd (f_X4_readBy t0 x1 z7 M) (fun v8 M9 => if inb (((M t0 4) * 8) + x4) 96 then wrt (up M9 (t0 + 11) (ix (((M t0 4) * 8) + x4)) ((M (t0 + 11) (ix (((M t0 4) * 8) + x4))) ||| v8)) (fun M11 => if inb (((M t0 4) * 8) + x4) 96 then bnd (f_X4_writtenBy t0 x1 (if ¬ x4 = x3 then (0 : Int32) else (1 : Int32)) M11) (fun v14 M15 => if inb (((M t0 4) * 8) + x4) 96 then wrt (up M15 (t0 + 12) (ix (((M t0 4) * 8) + x4)) ((M11 (t0 + 12) (ix (((M t0 4) * 8) + x4))) ||| v14)) (fun M17 => j_X4_noteUses_98 t0 x1 x2 x3 x4 K18 M17) else none) else none) else none)) (fun h19 => ?_) (fun h19 => ?_)
      · refine c_T h19 (c_icmp_ne (tgt := 66) dX4_noteUses_59 rfl (fun _ => ?_) (fun q => absurd h19 q))
        refine c_iconst dX4_noteUses_66 (v := 0) rfl ?_
        refine c_keep [0, 1, 2, 3, 4, 5] (ls2 := [(0, .inr t0), (1, .inl x1), (2, .inl x2), (3, .inl x3), (4, .inl x4), (5, .inl (((M t0 4) * 8) + x4))]) rfl ?_
        exact J_z7 0 (Or.inl rfl)
      · refine c_Fl h19 (c_icmp_ne (tgt := 66) dX4_noteUses_59 rfl (fun q => absurd q h19) (fun _ => ?_))
        refine c_iconst dX4_noteUses_62 (v := 1) rfl ?_
        refine c_goto (tgt := 67) dX4_noteUses_63 rfl ?_
        refine c_keep [0, 1, 2, 3, 4, 5] (ls2 := [(0, .inr t0), (1, .inl x1), (2, .inl x2), (3, .inl x3), (4, .inl x4), (5, .inl (((M t0 4) * 8) + x4))]) rfl ?_
        exact J_z7 1 (Or.inr rfl)
def f_X4_noteUses (t0 : Nat) (x1 : Int32) (M : Mem) : Option (Int32 × Mem) := if inb (M t0 4) 12 then bnd (f_X9_lowestBank (M (t0 + 2) (ix (M t0 4))) M) (fun v2 M3 => loopC (l_X4_noteUses_18 t0 x1 (M (t0 + 2) (ix (M t0 4))) v2) fuelL (v2, M3)) else none
set_option maxRecDepth 20000 in
set_option maxHeartbeats 2000000 in
theorem ev_X4_noteUses (d : Nat) (hlev : 2 ≤ d) (t0 : Nat) (h_t0 : blkAt KSx t0 blk4) (x1 : Int32) (M : Mem) : Ev KSx ST1 mdX4_noteUses d [.inr t0, .inl x1] M (f_X4_noteUses t0 x1 M) := by
  refine ev_of rfl (Nat.le_of_ble_eq_true rfl) ?_
  show CorM KSx ST1 RX4 cX4_noteUses 6 none d 0 [(0, .inr t0), (1, .inl x1)] [] M (f_X4_noteUses t0 x1 M)
  unfold f_X4_noteUses
  refine c_aload_n (i := 0) dX4_noteUses_0 rfl rfl ?_
  refine gf_RX4_15 (blk_get0 h_t0) dX4_noteUses_1 ?_
  refine c_aload_n (i := 0) dX4_noteUses_4 rfl rfl ?_
  refine gf_RX4_67 (blk_get0 h_t0) dX4_noteUses_5 ?_
  refine c_chk (fun h1 => ?_)
  refine c_iald (blk_get0 (blk_sub (C := [(20, 12)]) (i := 2) h_t0 rfl)) h1 dX4_noteUses_8 ?_
  refine c_istore_n (i := 2) dX4_noteUses_9 rfl (by decide) (ls2 := [(0, .inr t0), (1, .inl x1), (2, .inl (M (t0 + 2) (ix (M t0 4))))]) rfl ?_
  refine c_iload_n (i := 2) dX4_noteUses_10 rfl rfl ?_
  refine c_callN (as := [.inl (M (t0 + 2) (ix (M t0 4)))]) (rs := []) (ev_X9_lowestBank 1 (Nat.le_refl _) (M (t0 + 2) (ix (M t0 4))) M) rfl (Nat.lt_of_lt_of_le (by decide) hlev) mw_X9_lowestBank ws_X9_lowestBank wl_RX4_95 mn_X9_lowestBank rfl (by decide) (Nat.le_of_ble_eq_true rfl) ⟨_, rfl⟩ dX4_noteUses_11 (fun v2 M3 _ => ?_)
  refine c_istore_n (i := 3) dX4_noteUses_14 rfl (by decide) (ls2 := [(0, .inr t0), (1, .inl x1), (2, .inl (M (t0 + 2) (ix (M t0 4)))), (3, .inl v2)]) rfl ?_
  refine c_iload_n (i := 3) dX4_noteUses_15 rfl rfl ?_
  refine c_istore dX4_noteUses_16 (by decide) (ls2 := [(0, .inr t0), (1, .inl x1), (2, .inl (M (t0 + 2) (ix (M t0 4)))), (3, .inl v2), (4, .inl v2)]) rfl ?_
  refine c_keep [0, 1, 2, 3, 4] (ls2 := [(0, .inr t0), (1, .inl x1), (2, .inl (M (t0 + 2) (ix (M t0 4)))), (3, .inl v2), (4, .inl v2)]) rfl ?_
  exact lo_X4_noteUses_18 d hlev t0 h_t0 x1 (M (t0 + 2) (ix (M t0 4))) v2 (v2, M3)

abbrev mdX4_endBatch : MD := (yX4_endBatch, cX4_endBatch, 2, none)
theorem mw_X4_endBatch : mdW mdX4_endBatch := ⟨wm_X4_endBatch, w0_RX4, by decide, by decide⟩
theorem mn_X4_endBatch : (parseMethodDescriptor yX4_endBatch.desc).map (fun d => d.parameters.length) = some 0 := by decide +kernel
def l_X4_endBatch_23 (t0 : Nat) (K23 : Int32 × Mem → Option (Int32 × Mem)) : Int32 × Mem → Option (Int32 × Mem) := fun s => match s with
  | (x1, M) => if (M t0 5) ≤ x1 then wrt (up M t0 4 ((M t0 4) + 1)) (fun M5 => some (0, M5)) else bnd (f_X4_delayOf t0 x1 M) (fun v6 M7 => if inb x1 60 then wrt (up M7 (t0 + 10) (ix x1) v6) (fun M9 => bnd (f_X4_noteUses t0 x1 M9) (fun _ M11 => K23 (x1 + 1, M11))) else none)
set_option maxRecDepth 20000 in
set_option maxHeartbeats 2000000 in
theorem lo_X4_endBatch_23 (d : Nat) (hlev : 3 ≤ d) (t0 : Nat) (h_t0 : blkAt KSx t0 blk4) (s : Int32 × Mem) : CorM KSx ST1 RX4 cX4_endBatch 2 none d 23 [(0, .inr t0), (1, .inl s.1)] [] s.2 (loopC (l_X4_endBatch_23 t0) fuelL s) := by
  refine c_loop (L := fun s : Int32 × Mem => [(0, .inr t0), (1, .inl s.1)]) (Mf := fun s : Int32 × Mem => s.2) (fun K23 hK23 s => ?_) fuelL s
  obtain ⟨x1, M⟩ := s
  show CorM KSx ST1 RX4 cX4_endBatch 2 none d 23 [(0, .inr t0), (1, .inl x1)] [] M (l_X4_endBatch_23 t0 K23 (x1, M))
  unfold l_X4_endBatch_23
  refine c_iload_n (i := 1) dX4_endBatch_23 rfl rfl ?_
  refine c_aload_n (i := 0) dX4_endBatch_24 rfl rfl ?_
  refine gf_RX4_70 (blk_get0 h_t0) dX4_endBatch_25 ?_
  refine c_icmp_ge (tgt := 53) dX4_endBatch_28 rfl (fun h4 => ?_) (fun h4 => ?_)
  · refine c_aload_n (i := 0) dX4_endBatch_53 rfl rfl ?_
    refine c_dup dX4_endBatch_54 ?_
    refine gf_RX4_67 (blk_get0 h_t0) dX4_endBatch_55 ?_
    refine c_iconst dX4_endBatch_58 (v := 1) rfl ?_
    refine c_iadd dX4_endBatch_59 ?_
    refine pf_RX4_67 (blk_get0 h_t0) dX4_endBatch_60 ?_
    refine c_wrt (fun M5 => ?_)
    exact c_vret rfl dX4_endBatch_63
  · refine c_aload_n (i := 0) dX4_endBatch_31 rfl rfl ?_
    refine gf_RX4_39 (blk_get0 h_t0) dX4_endBatch_32 ?_
    refine c_iload_n (i := 1) dX4_endBatch_35 rfl rfl ?_
    refine c_aload_n (i := 0) dX4_endBatch_36 rfl rfl ?_
    refine c_iload_n (i := 1) dX4_endBatch_37 rfl rfl ?_
    refine c_callV (as := [.inl x1]) (rs := [.inl x1, .inr (t0 + 10)]) (ev_X4_delayOf 1 (Nat.le_refl _) t0 h_t0 x1 M) rfl (Nat.lt_of_lt_of_le (by decide) hlev) mw_X4_delayOf wi_X4_delayOf wv_X4_delayOf (blk_get0 h_t0) (by decide) rfl wl_RX4_79 mn_X4_delayOf rfl (by decide) (Nat.le_of_ble_eq_true rfl) ⟨_, rfl⟩ dX4_endBatch_38 (fun v6 M7 _ => ?_)
    refine c_chk (fun h8 => ?_)
    refine c_iast (blk_get0 (blk_sub (C := [(20, 60)]) (i := 10) h_t0 rfl)) h8 dX4_endBatch_41 ?_
    refine c_wrt (fun M9 => ?_)
    refine c_aload_n (i := 0) dX4_endBatch_42 rfl rfl ?_
    refine c_iload_n (i := 1) dX4_endBatch_43 rfl rfl ?_
    refine c_callVv (as := [.inl x1]) (rs := []) (ev_X4_noteUses 2 (Nat.le_refl _) t0 h_t0 x1 M9) rfl (Nat.lt_of_lt_of_le (by decide) hlev) mw_X4_noteUses wi_X4_noteUses wv_X4_noteUses (blk_get0 h_t0) (by decide) rfl wl_RX4_83 mn_X4_noteUses rfl (by decide) (Nat.le_of_ble_eq_true rfl) rfl dX4_endBatch_44 (fun v10 M11 _ => ?_)
    refine c_iinc dX4_endBatch_47 rfl (v := 1) rfl (by decide) (ls2 := [(0, .inr t0), (1, .inl (x1 + 1))]) rfl ?_
    refine c_goto (tgt := 23) dX4_endBatch_50 rfl ?_
    refine c_keep [0, 1] (ls2 := [(0, .inr t0), (1, .inl (x1 + 1))]) rfl ?_
    exact hK23 (x1 + 1, M11)
def f_X4_endBatch (t0 : Nat) (M : Mem) : Option (Int32 × Mem) := if inb (M t0 4) 12 then wrt (up M (t0 + 4) (ix (M t0 4)) (M t0 5)) (fun M2 => if inb (M2 t0 4) 12 then loopC (l_X4_endBatch_23 t0) fuelL (M2 (t0 + 3) (ix (M2 t0 4)), M2) else none) else none
set_option maxRecDepth 20000 in
set_option maxHeartbeats 2000000 in
theorem ev_X4_endBatch (d : Nat) (hlev : 3 ≤ d) (t0 : Nat) (h_t0 : blkAt KSx t0 blk4) (M : Mem) : Ev KSx ST1 mdX4_endBatch d [.inr t0] M (f_X4_endBatch t0 M) := by
  refine ev_of rfl (Nat.le_of_ble_eq_true rfl) ?_
  show CorM KSx ST1 RX4 cX4_endBatch 2 none d 0 [(0, .inr t0)] [] M (f_X4_endBatch t0 M)
  unfold f_X4_endBatch
  refine c_aload_n (i := 0) dX4_endBatch_0 rfl rfl ?_
  refine gf_RX4_21 (blk_get0 h_t0) dX4_endBatch_1 ?_
  refine c_aload_n (i := 0) dX4_endBatch_4 rfl rfl ?_
  refine gf_RX4_67 (blk_get0 h_t0) dX4_endBatch_5 ?_
  refine c_aload_n (i := 0) dX4_endBatch_8 rfl rfl ?_
  refine gf_RX4_70 (blk_get0 h_t0) dX4_endBatch_9 ?_
  refine c_chk (fun h1 => ?_)
  refine c_iast (blk_get0 (blk_sub (C := [(20, 12)]) (i := 4) h_t0 rfl)) h1 dX4_endBatch_12 ?_
  refine c_wrt (fun M2 => ?_)
  refine c_aload_n (i := 0) dX4_endBatch_13 rfl rfl ?_
  refine gf_RX4_18 (blk_get0 h_t0) dX4_endBatch_14 ?_
  refine c_aload_n (i := 0) dX4_endBatch_17 rfl rfl ?_
  refine gf_RX4_67 (blk_get0 h_t0) dX4_endBatch_18 ?_
  refine c_chk (fun h3 => ?_)
  refine c_iald (blk_get0 (blk_sub (C := [(20, 12)]) (i := 3) h_t0 rfl)) h3 dX4_endBatch_21 ?_
  refine c_istore_n (i := 1) dX4_endBatch_22 rfl (by decide) (ls2 := [(0, .inr t0), (1, .inl (M2 (t0 + 3) (ix (M2 t0 4))))]) rfl ?_
  refine c_keep [0, 1] (ls2 := [(0, .inr t0), (1, .inl (M2 (t0 + 3) (ix (M2 t0 4))))]) rfl ?_
  exact lo_X4_endBatch_23 d hlev t0 h_t0 (M2 (t0 + 3) (ix (M2 t0 4)), M2)

abbrev mdX2_parseBatch : MD := (yX2_parseBatch, cX2_parseBatch, 2, none)
theorem mw_X2_parseBatch : mdW mdX2_parseBatch := ⟨wm_X2_parseBatch, w0_RX2, by decide, by decide⟩
theorem mn_X2_parseBatch : (parseMethodDescriptor yX2_parseBatch.desc).map (fun d => d.parameters.length) = some 0 := by decide +kernel
def j_X2_parseBatch_92 (x1 : Int32) (K66 : Int32 × Mem → Option (Int32 × Mem)) (M : Mem) : Option (Int32 × Mem) := K66 (x1 + 1, M)
set_option maxRecDepth 20000 in
set_option maxHeartbeats 2000000 in
theorem jo_X2_parseBatch_92 (d : Nat) (hlev : 5 ≤ d) (x1 : Int32) (K66 : Int32 × Mem → Option (Int32 × Mem)) (hK66 : ∀ s : Int32 × Mem, CorM KSx ST1 RX2 cX2_parseBatch 2 none d 66 [(0, .inr 2), (1, .inl s.1)] [] s.2 (K66 s)) (M : Mem) : CorM KSx ST1 RX2 cX2_parseBatch 2 none d 92 [(0, .inr 2), (1, .inl x1)] [] M (j_X2_parseBatch_92 x1 K66 M) := by
  unfold j_X2_parseBatch_92
  refine c_iinc dX2_parseBatch_92 rfl (v := 1) rfl (by decide) (ls2 := [(0, .inr 2), (1, .inl (x1 + 1))]) rfl ?_
  refine c_goto (tgt := 66) dX2_parseBatch_95 rfl ?_
  refine c_keep [0, 1] (ls2 := [(0, .inr 2), (1, .inl (x1 + 1))]) rfl ?_
  exact hK66 (x1 + 1, M)
def l_X2_parseBatch_66 (K66 : Int32 × Mem → Option (Int32 × Mem)) : Int32 × Mem → Option (Int32 × Mem) := fun s => match s with
  | (x1, M) => if 60 < x1 then bnd (f_X2_take 27 M) (fun _ M15 => bnd (f_X2_take 30 M15) (fun _ M17 => if ¬ M17 2 1 < 0 ∧ blkD KSx (ix (M17 2 1)) blk4 then bnd (f_X4_endBatch (ix (M17 2 1)) M17) (fun _ M20 => some (0, M20)) else none)) else if ¬ (M 2 5) = 0 then j_X2_parseBatch_92 x1 K66 M else if (M 2 3) = 27 then j_X2_parseBatch_92 x1 K66 M else bnd (f_X2_parseCommand M) (fun _ M24 => j_X2_parseBatch_92 x1 K66 M24)
set_option maxRecDepth 20000 in
set_option maxHeartbeats 2000000 in
theorem lo_X2_parseBatch_66 (d : Nat) (hlev : 5 ≤ d) (s : Int32 × Mem) : CorM KSx ST1 RX2 cX2_parseBatch 2 none d 66 [(0, .inr 2), (1, .inl s.1)] [] s.2 (loopC (l_X2_parseBatch_66) fuelL s) := by
  refine c_loop (L := fun s : Int32 × Mem => [(0, .inr 2), (1, .inl s.1)]) (Mf := fun s : Int32 × Mem => s.2) (fun K66 hK66 s => ?_) fuelL s
  obtain ⟨x1, M⟩ := s
  show CorM KSx ST1 RX2 cX2_parseBatch 2 none d 66 [(0, .inr 2), (1, .inl x1)] [] M (l_X2_parseBatch_66 K66 (x1, M))
  unfold l_X2_parseBatch_66
  refine c_iload_n (i := 1) dX2_parseBatch_66 rfl rfl ?_
  refine c_bipush dX2_parseBatch_67 (v := 60) rfl ?_
  refine c_icmp_gt (tgt := 98) dX2_parseBatch_69 rfl (fun h13 => ?_) (fun h13 => ?_)
  · refine c_aload_n (i := 0) dX2_parseBatch_98 rfl rfl ?_
    refine c_bipush dX2_parseBatch_99 (v := 27) rfl ?_
    refine c_callVv (as := [.inl 27]) (rs := []) (ev_X2_take 1 (Nat.le_refl _) 27 M) rfl (Nat.lt_of_lt_of_le (by decide) hlev) mw_X2_take wi_X2_take wv_X2_take (blk_get0 KSx_b2) (by decide) rfl wl_RX2_54 mn_X2_take rfl (by decide) (Nat.le_of_ble_eq_true rfl) rfl dX2_parseBatch_101 (fun v14 M15 _ => ?_)
    refine c_aload_n (i := 0) dX2_parseBatch_104 rfl rfl ?_
    refine c_bipush dX2_parseBatch_105 (v := 30) rfl ?_
    refine c_callVv (as := [.inl 30]) (rs := []) (ev_X2_take 1 (Nat.le_refl _) 30 M15) rfl (Nat.lt_of_lt_of_le (by decide) hlev) mw_X2_take wi_X2_take wv_X2_take (blk_get0 KSx_b2) (by decide) rfl wl_RX2_54 mn_X2_take rfl (by decide) (Nat.le_of_ble_eq_true rfl) rfl dX2_parseBatch_107 (fun v16 M17 _ => ?_)
    refine c_aload_n (i := 0) dX2_parseBatch_110 rfl rfl ?_
    refine c_chk (fun h18 => ?_)
    refine gf_RX2_22 (blk_get0 KSx_b2) h18.1 dX2_parseBatch_111 ?_
    refine c_callVv (as := []) (rs := []) (ev_X4_endBatch 3 (Nat.le_refl _) (ix (M17 2 1)) (blk_of h18.2) M17) rfl (Nat.lt_of_lt_of_le (by decide) hlev) mw_X4_endBatch wi_X4_endBatch wv_X4_endBatch (blk_get0 (blk_of h18.2)) (by decide) rfl wl_RX2_100 mn_X4_endBatch rfl (by decide) (Nat.le_of_ble_eq_true rfl) rfl dX2_parseBatch_114 (fun v19 M20 _ => ?_)
    exact c_vret rfl dX2_parseBatch_117
  · refine c_aload_n (i := 0) dX2_parseBatch_72 rfl rfl ?_
    refine gf_RX2_31 (blk_get0 KSx_b2) dX2_parseBatch_73 ?_
    refine c_if_ne (tgt := 92) dX2_parseBatch_76 rfl (fun h21 => ?_) (fun h21 => ?_)
    · refine c_keep [0, 1] (ls2 := [(0, .inr 2), (1, .inl x1)]) rfl ?_
      exact jo_X2_parseBatch_92 d hlev x1 K66 hK66 M
    · refine c_aload_n (i := 0) dX2_parseBatch_79 rfl rfl ?_
      refine gf_RX2_48 (blk_get0 KSx_b2) dX2_parseBatch_80 ?_
      refine c_bipush dX2_parseBatch_83 (v := 27) rfl ?_
      refine c_icmp_eq (tgt := 92) dX2_parseBatch_85 rfl (fun h22 => ?_) (fun h22 => ?_)
      · refine c_keep [0, 1] (ls2 := [(0, .inr 2), (1, .inl x1)]) rfl ?_
        exact jo_X2_parseBatch_92 d hlev x1 K66 hK66 M
      · refine c_aload_n (i := 0) dX2_parseBatch_88 rfl rfl ?_
        refine c_callVv (as := []) (rs := []) (ev_X2_parseCommand 4 (Nat.le_refl _) M) rfl (Nat.lt_of_lt_of_le (by decide) hlev) mw_X2_parseCommand wi_X2_parseCommand wv_X2_parseCommand (blk_get0 KSx_b2) (by decide) rfl wl_RX2_97 mn_X2_parseCommand rfl (by decide) (Nat.le_of_ble_eq_true rfl) rfl dX2_parseBatch_89 (fun v23 M24 _ => ?_)
        refine c_keep [0, 1] (ls2 := [(0, .inr 2), (1, .inl x1)]) rfl ?_
        exact jo_X2_parseBatch_92 d hlev x1 K66 hK66 M24
def f_X2_parseBatch (M : Mem) : Option (Int32 × Mem) := if (M 2 3) = 26 then if ¬ M 2 1 < 0 ∧ blkD KSx (ix (M 2 1)) blk4 then if (M (ix (M 2 1)) 4) < 12 then bnd (f_X2_take 26 M) (fun _ M5 => if ¬ M5 2 1 < 0 ∧ blkD KSx (ix (M5 2 1)) blk4 then bnd (f_X2_takeBanks M5) (fun v7 M8 => bnd (f_X4_beginBatch (ix (M5 2 1)) v7 M8) (fun _ M10 => bnd (f_X2_take 29 M10) (fun _ M12 => loopC (l_X2_parseBatch_66) fuelL (0, M12)))) else none) else bnd (f_X2_fail 4 (M 2 4) M) (fun _ M26 => some (0, M26)) else none else bnd (f_X2_fail 1 (M 2 4) M) (fun _ M28 => some (0, M28))
set_option maxRecDepth 20000 in
set_option maxHeartbeats 2000000 in
theorem ev_X2_parseBatch (d : Nat) (hlev : 5 ≤ d) (M : Mem) : Ev KSx ST1 mdX2_parseBatch d [.inr 2] M (f_X2_parseBatch M) := by
  refine ev_of rfl (Nat.le_of_ble_eq_true rfl) ?_
  show CorM KSx ST1 RX2 cX2_parseBatch 2 none d 0 [(0, .inr 2)] [] M (f_X2_parseBatch M)
  unfold f_X2_parseBatch
  refine c_aload_n (i := 0) dX2_parseBatch_0 rfl rfl ?_
  refine gf_RX2_48 (blk_get0 KSx_b2) dX2_parseBatch_1 ?_
  refine c_bipush dX2_parseBatch_4 (v := 26) rfl ?_
  refine c_icmp_eq (tgt := 19) dX2_parseBatch_6 rfl (fun h1 => ?_) (fun h1 => ?_)
  · refine c_aload_n (i := 0) dX2_parseBatch_19 rfl rfl ?_
    refine c_chk (fun h2 => ?_)
    refine gf_RX2_22 (blk_get0 KSx_b2) h2.1 dX2_parseBatch_20 ?_
    refine gf_RX2_87 (blk_get0 (blk_of h2.2)) dX2_parseBatch_23 ?_
    refine c_bipush dX2_parseBatch_26 (v := 12) rfl ?_
    refine c_icmp_lt (tgt := 41) dX2_parseBatch_28 rfl (fun h3 => ?_) (fun h3 => ?_)
    · refine c_aload_n (i := 0) dX2_parseBatch_41 rfl rfl ?_
      refine c_bipush dX2_parseBatch_42 (v := 26) rfl ?_
      refine c_callVv (as := [.inl 26]) (rs := []) (ev_X2_take 1 (Nat.le_refl _) 26 M) rfl (Nat.lt_of_lt_of_le (by decide) hlev) mw_X2_take wi_X2_take wv_X2_take (blk_get0 KSx_b2) (by decide) rfl wl_RX2_54 mn_X2_take rfl (by decide) (Nat.le_of_ble_eq_true rfl) rfl dX2_parseBatch_44 (fun v4 M5 _ => ?_)
      refine c_aload_n (i := 0) dX2_parseBatch_47 rfl rfl ?_
      refine c_chk (fun h6 => ?_)
      refine gf_RX2_22 (blk_get0 KSx_b2) h6.1 dX2_parseBatch_48 ?_
      refine c_aload_n (i := 0) dX2_parseBatch_51 rfl rfl ?_
      refine c_callV (as := []) (rs := [.inr (ix (M5 2 1))]) (ev_X2_takeBanks 2 (Nat.le_refl _) M5) rfl (Nat.lt_of_lt_of_le (by decide) hlev) mw_X2_takeBanks wi_X2_takeBanks wv_X2_takeBanks (blk_get0 KSx_b2) (by decide) rfl wl_RX2_90 mn_X2_takeBanks rfl (by decide) (Nat.le_of_ble_eq_true rfl) ⟨_, rfl⟩ dX2_parseBatch_52 (fun v7 M8 _ => ?_)
      refine c_callVv (as := [.inl v7]) (rs := []) (ev_X4_beginBatch 0 (Nat.le_refl _) (ix (M5 2 1)) (blk_of h6.2) v7 M8) rfl (Nat.lt_of_lt_of_le (by decide) hlev) mw_X4_beginBatch wi_X4_beginBatch wv_X4_beginBatch (blk_get0 (blk_of h6.2)) (by decide) rfl wl_RX2_94 mn_X4_beginBatch rfl (by decide) (Nat.le_of_ble_eq_true rfl) rfl dX2_parseBatch_55 (fun v9 M10 _ => ?_)
      refine c_aload_n (i := 0) dX2_parseBatch_58 rfl rfl ?_
      refine c_bipush dX2_parseBatch_59 (v := 29) rfl ?_
      refine c_callVv (as := [.inl 29]) (rs := []) (ev_X2_take 1 (Nat.le_refl _) 29 M10) rfl (Nat.lt_of_lt_of_le (by decide) hlev) mw_X2_take wi_X2_take wv_X2_take (blk_get0 KSx_b2) (by decide) rfl wl_RX2_54 mn_X2_take rfl (by decide) (Nat.le_of_ble_eq_true rfl) rfl dX2_parseBatch_61 (fun v11 M12 _ => ?_)
      refine c_iconst dX2_parseBatch_64 (v := 0) rfl ?_
      refine c_istore_n (i := 1) dX2_parseBatch_65 rfl (by decide) (ls2 := [(0, .inr 2), (1, .inl 0)]) rfl ?_
      refine c_keep [0, 1] (ls2 := [(0, .inr 2), (1, .inl 0)]) rfl ?_
      exact lo_X2_parseBatch_66 d hlev (0, M12)
    · refine c_aload_n (i := 0) dX2_parseBatch_31 rfl rfl ?_
      refine c_iconst dX2_parseBatch_32 (v := 4) rfl ?_
      refine c_aload_n (i := 0) dX2_parseBatch_33 rfl rfl ?_
      refine gf_RX2_70 (blk_get0 KSx_b2) dX2_parseBatch_34 ?_
      refine c_callVv (as := [.inl 4, .inl (M 2 4)]) (rs := []) (ev_X2_fail 0 (Nat.le_refl _) 4 (M 2 4) M) rfl (Nat.lt_of_lt_of_le (by decide) hlev) mw_X2_fail wi_X2_fail wv_X2_fail (blk_get0 KSx_b2) (by decide) rfl wl_RX2_73 mn_X2_fail rfl (by decide) (Nat.le_of_ble_eq_true rfl) rfl dX2_parseBatch_37 (fun v25 M26 _ => ?_)
      exact c_vret rfl dX2_parseBatch_40
  · refine c_aload_n (i := 0) dX2_parseBatch_9 rfl rfl ?_
    refine c_iconst dX2_parseBatch_10 (v := 1) rfl ?_
    refine c_aload_n (i := 0) dX2_parseBatch_11 rfl rfl ?_
    refine gf_RX2_70 (blk_get0 KSx_b2) dX2_parseBatch_12 ?_
    refine c_callVv (as := [.inl 1, .inl (M 2 4)]) (rs := []) (ev_X2_fail 0 (Nat.le_refl _) 1 (M 2 4) M) rfl (Nat.lt_of_lt_of_le (by decide) hlev) mw_X2_fail wi_X2_fail wv_X2_fail (blk_get0 KSx_b2) (by decide) rfl wl_RX2_73 mn_X2_fail rfl (by decide) (Nat.le_of_ble_eq_true rfl) rfl dX2_parseBatch_15 (fun v27 M28 _ => ?_)
    exact c_vret rfl dX2_parseBatch_18

abbrev mdX2_parse : MD := (yX2_parse, cX2_parse, 5, none)
theorem mw_X2_parse : mdW mdX2_parse := ⟨wm_X2_parse, w0_RX2, by decide, by decide⟩
theorem mn_X2_parse : (parseMethodDescriptor yX2_parse.desc).map (fun d => d.parameters.length) = some 3 := by decide +kernel
def j_X2_parse_74 (x4 : Int32) (K47 : Int32 × Mem → Option (Int32 × Mem)) (M : Mem) : Option (Int32 × Mem) := K47 (x4 + 1, M)
set_option maxRecDepth 20000 in
set_option maxHeartbeats 2000000 in
theorem jo_X2_parse_74 (d : Nat) (hlev : 8 ≤ d) (x4 : Int32) (K47 : Int32 × Mem → Option (Int32 × Mem)) (hK47 : ∀ s : Int32 × Mem, CorM KSx ST1 RX2 cX2_parse 5 none d 47 [(0, .inr 2), (4, .inl s.1)] [] s.2 (K47 s)) (M : Mem) : CorM KSx ST1 RX2 cX2_parse 5 none d 74 [(0, .inr 2), (4, .inl x4)] [] M (j_X2_parse_74 x4 K47 M) := by
  unfold j_X2_parse_74
  refine c_iinc dX2_parse_74 rfl (v := 1) rfl (by decide) (ls2 := [(0, .inr 2), (4, .inl (x4 + 1))]) rfl ?_
  refine c_goto (tgt := 47) dX2_parse_77 rfl ?_
  refine c_keep [0, 4] (ls2 := [(0, .inr 2), (4, .inl (x4 + 1))]) rfl ?_
  exact hK47 (x4 + 1, M)
def l_X2_parse_47 (K47 : Int32 × Mem → Option (Int32 × Mem)) : Int32 × Mem → Option (Int32 × Mem) := fun s => match s with
  | (x4, M) => if 12 < x4 then some (0, M) else if ¬ (M 2 5) = 0 then j_X2_parse_74 x4 K47 M else if (M 2 3) = 32 then j_X2_parse_74 x4 K47 M else bnd (f_X2_parseBatch M) (fun _ M19 => j_X2_parse_74 x4 K47 M19)
set_option maxRecDepth 20000 in
set_option maxHeartbeats 2000000 in
theorem lo_X2_parse_47 (d : Nat) (hlev : 8 ≤ d) (s : Int32 × Mem) : CorM KSx ST1 RX2 cX2_parse 5 none d 47 [(0, .inr 2), (4, .inl s.1)] [] s.2 (loopC (l_X2_parse_47) fuelL s) := by
  refine c_loop (L := fun s : Int32 × Mem => [(0, .inr 2), (4, .inl s.1)]) (Mf := fun s : Int32 × Mem => s.2) (fun K47 hK47 s => ?_) fuelL s
  obtain ⟨x4, M⟩ := s
  show CorM KSx ST1 RX2 cX2_parse 5 none d 47 [(0, .inr 2), (4, .inl x4)] [] M (l_X2_parse_47 K47 (x4, M))
  unfold l_X2_parse_47
  refine c_iload dX2_parse_47 rfl ?_
  refine c_bipush dX2_parse_49 (v := 12) rfl ?_
  refine c_icmp_gt (tgt := 80) dX2_parse_51 rfl (fun h15 => ?_) (fun h15 => ?_)
  · exact c_vret rfl dX2_parse_80
  · refine c_aload_n (i := 0) dX2_parse_54 rfl rfl ?_
    refine gf_RX2_31 (blk_get0 KSx_b2) dX2_parse_55 ?_
    refine c_if_ne (tgt := 74) dX2_parse_58 rfl (fun h16 => ?_) (fun h16 => ?_)
    · refine c_keep [0, 4] (ls2 := [(0, .inr 2), (4, .inl x4)]) rfl ?_
      exact jo_X2_parse_74 d hlev x4 K47 hK47 M
    · refine c_aload_n (i := 0) dX2_parse_61 rfl rfl ?_
      refine gf_RX2_48 (blk_get0 KSx_b2) dX2_parse_62 ?_
      refine c_bipush dX2_parse_65 (v := 32) rfl ?_
      refine c_icmp_eq (tgt := 74) dX2_parse_67 rfl (fun h17 => ?_) (fun h17 => ?_)
      · refine c_keep [0, 4] (ls2 := [(0, .inr 2), (4, .inl x4)]) rfl ?_
        exact jo_X2_parse_74 d hlev x4 K47 hK47 M
      · refine c_aload_n (i := 0) dX2_parse_70 rfl rfl ?_
        refine c_callVv (as := []) (rs := []) (ev_X2_parseBatch 5 (Nat.le_refl _) M) rfl (Nat.lt_of_lt_of_le (by decide) hlev) mw_X2_parseBatch wi_X2_parseBatch wv_X2_parseBatch (blk_get0 KSx_b2) (by decide) rfl wl_RX2_51 mn_X2_parseBatch rfl (by decide) (Nat.le_of_ble_eq_true rfl) rfl dX2_parse_71 (fun v18 M19 _ => ?_)
        refine c_keep [0, 4] (ls2 := [(0, .inr 2), (4, .inl x4)]) rfl ?_
        exact jo_X2_parse_74 d hlev x4 K47 hK47 M19
def f_X2_parse (t1 : Nat) (x2 : Int32) (t3 : Nat) (M : Mem) : Option (Int32 × Mem) := bnd (f_X7_scan t1 x2 M) (fun _ M2 => wrt (up M2 2 1 (nI t3)) (fun M3 => if ¬ M3 2 1 < 0 ∧ blkD KSx (ix (M3 2 1)) blk4 then bnd (f_X4_clear (ix (M3 2 1)) M3) (fun _ M6 => wrt (up M6 2 5 0) (fun M7 => wrt (up M7 2 6 (-1)) (fun M8 => bnd (f_X2_goTo 0 M8) (fun _ M10 => bnd (f_X2_parseSizes M10) (fun _ M12 => bnd (f_X2_parseSettings M12) (fun _ M14 => loopC (l_X2_parse_47) fuelL (0, M14))))))) else none))
set_option maxRecDepth 20000 in
set_option maxHeartbeats 2000000 in
theorem ev_X2_parse (d : Nat) (hlev : 8 ≤ d) (t1 : Nat) (h_t1 : KSx[t1]? = some (20, lenK KSx t1)) (x2 : Int32) (t3 : Nat) (h_t3 : blkAt KSx t3 blk4) (M : Mem) : Ev KSx ST1 mdX2_parse d [.inr 2, .inr t1, .inl x2, .inr t3] M (f_X2_parse t1 x2 t3 M) := by
  refine ev_of rfl (Nat.le_of_ble_eq_true rfl) ?_
  show CorM KSx ST1 RX2 cX2_parse 5 none d 0 [(0, .inr 2), (1, .inr t1), (2, .inl x2), (3, .inr t3)] [] M (f_X2_parse t1 x2 t3 M)
  unfold f_X2_parse
  refine c_aload_n (i := 0) dX2_parse_0 rfl rfl ?_
  refine gf_RX2_12 (blk_get0 KSx_b2) dX2_parse_1 ?_
  refine c_aload_n (i := 1) dX2_parse_4 rfl rfl ?_
  refine c_iload_n (i := 2) dX2_parse_5 rfl rfl ?_
  refine c_callVv (as := [.inr t1, .inl x2]) (rs := []) (ev_X7_scan 7 (Nat.le_refl _) t1 h_t1 x2 M) rfl (Nat.lt_of_lt_of_le (by decide) hlev) mw_X7_scan wi_X7_scan wv_X7_scan (blk_get0 (blk_sub (C := blk7) (i := 1) KSx_b2 rfl)) (by decide) rfl wl_RX2_18 mn_X7_scan rfl (by decide) (Nat.le_of_ble_eq_true rfl) rfl dX2_parse_6 (fun v1 M2 _ => ?_)
  refine c_aload_n (i := 0) dX2_parse_9 rfl rfl ?_
  refine c_aload_n (i := 3) dX2_parse_10 rfl rfl ?_
  refine pf_RX2_22 (blk_get0 KSx_b2) (KSx_lt h_t3) dX2_parse_11 ?_
  refine c_wrt (fun M3 => ?_)
  refine c_aload_n (i := 0) dX2_parse_14 rfl rfl ?_
  refine c_chk (fun h4 => ?_)
  refine gf_RX2_22 (blk_get0 KSx_b2) h4.1 dX2_parse_15 ?_
  refine c_callVv (as := []) (rs := []) (ev_X4_clear 1 (Nat.le_refl _) (ix (M3 2 1)) (blk_of h4.2) M3) rfl (Nat.lt_of_lt_of_le (by decide) hlev) mw_X4_clear wi_X4_clear wv_X4_clear (blk_get0 (blk_of h4.2)) (by decide) rfl wl_RX2_26 mn_X4_clear rfl (by decide) (Nat.le_of_ble_eq_true rfl) rfl dX2_parse_18 (fun v5 M6 _ => ?_)
  refine c_aload_n (i := 0) dX2_parse_21 rfl rfl ?_
  refine c_iconst dX2_parse_22 (v := 0) rfl ?_
  refine pf_RX2_31 (blk_get0 KSx_b2) dX2_parse_23 ?_
  refine c_wrt (fun M7 => ?_)
  refine c_aload_n (i := 0) dX2_parse_26 rfl rfl ?_
  refine c_iconst dX2_parse_27 (v := (-1)) rfl ?_
  refine pf_RX2_35 (blk_get0 KSx_b2) dX2_parse_28 ?_
  refine c_wrt (fun M8 => ?_)
  refine c_aload_n (i := 0) dX2_parse_31 rfl rfl ?_
  refine c_iconst dX2_parse_32 (v := 0) rfl ?_
  refine c_callVv (as := [.inl 0]) (rs := []) (ev_X2_goTo 0 (Nat.le_refl _) 0 M8) rfl (Nat.lt_of_lt_of_le (by decide) hlev) mw_X2_goTo wi_X2_goTo wv_X2_goTo (blk_get0 KSx_b2) (by decide) rfl wl_RX2_38 mn_X2_goTo rfl (by decide) (Nat.le_of_ble_eq_true rfl) rfl dX2_parse_33 (fun v9 M10 _ => ?_)
  refine c_aload_n (i := 0) dX2_parse_36 rfl rfl ?_
  refine c_callVv (as := []) (rs := []) (ev_X2_parseSizes 2 (Nat.le_refl _) M10) rfl (Nat.lt_of_lt_of_le (by decide) hlev) mw_X2_parseSizes wi_X2_parseSizes wv_X2_parseSizes (blk_get0 KSx_b2) (by decide) rfl wl_RX2_42 mn_X2_parseSizes rfl (by decide) (Nat.le_of_ble_eq_true rfl) rfl dX2_parse_37 (fun v11 M12 _ => ?_)
  refine c_aload_n (i := 0) dX2_parse_40 rfl rfl ?_
  refine c_callVv (as := []) (rs := []) (ev_X2_parseSettings 2 (Nat.le_refl _) M12) rfl (Nat.lt_of_lt_of_le (by decide) hlev) mw_X2_parseSettings wi_X2_parseSettings wv_X2_parseSettings (blk_get0 KSx_b2) (by decide) rfl wl_RX2_45 mn_X2_parseSettings rfl (by decide) (Nat.le_of_ble_eq_true rfl) rfl dX2_parse_41 (fun v13 M14 _ => ?_)
  refine c_iconst dX2_parse_44 (v := 0) rfl ?_
  refine c_istore dX2_parse_45 (by decide) (ls2 := [(0, .inr 2), (1, .inr t1), (2, .inl x2), (3, .inr t3), (4, .inl 0)]) rfl ?_
  refine c_keep [0, 4] (ls2 := [(0, .inr 2), (4, .inl 0)]) rfl ?_
  exact lo_X2_parse_47 d hlev (0, M14)

abbrev mdX3_forgetPlan : MD := (yX3_forgetPlan, cX3_forgetPlan, 1, none)
theorem mw_X3_forgetPlan : mdW mdX3_forgetPlan := ⟨wm_X3_forgetPlan, w0_RX3, by decide, by decide⟩
theorem mn_X3_forgetPlan : (parseMethodDescriptor yX3_forgetPlan.desc).map (fun d => d.parameters.length) = some 0 := by decide +kernel
def f_X3_forgetPlan (M : Mem) : Option (Int32 × Mem) := wrt (up M 114 0 0) (fun M1 => some (0, M1))
set_option maxRecDepth 20000 in
set_option maxHeartbeats 2000000 in
theorem ev_X3_forgetPlan (d : Nat) (hlev : 0 ≤ d) (M : Mem) : Ev KSx ST1 mdX3_forgetPlan d [.inr 114] M (f_X3_forgetPlan M) := by
  refine ev_of rfl (Nat.le_of_ble_eq_true rfl) ?_
  show CorM KSx ST1 RX3 cX3_forgetPlan 1 none d 0 [(0, .inr 114)] [] M (f_X3_forgetPlan M)
  unfold f_X3_forgetPlan
  refine c_aload_n (i := 0) dX3_forgetPlan_0 rfl rfl ?_
  refine c_iconst dX3_forgetPlan_1 (v := 0) rfl ?_
  refine pf_RX3_34 (blk_get0 KSx_b114) (Or.inl rfl) dX3_forgetPlan_2 ?_
  refine c_wrt (fun M1 => ?_)
  exact c_vret rfl dX3_forgetPlan_5

abbrev mdX6_copyFrom : MD := (yX6_copyFrom, cX6_copyFrom, 2, none)
theorem mw_X6_copyFrom : mdW mdX6_copyFrom := ⟨wm_X6_copyFrom, w0_RX6, by decide, by decide⟩
theorem mn_X6_copyFrom : (parseMethodDescriptor yX6_copyFrom.desc).map (fun d => d.parameters.length) = some 1 := by decide +kernel
def f_X6_copyFrom (t0 : Nat) (t1 : Nat) (M : Mem) : Option (Int32 × Mem) := wrt (cpy M (t1 + 1) 0 (t0 + 1) 0 8) (fun M1 => wrt (cpy M1 (t1 + 2) 0 (t0 + 2) 0 32) (fun M2 => wrt (cpy M2 (t1 + 3) 0 (t0 + 3) 0 8) (fun M3 => wrt (cpy M3 (t1 + 4) 0 (t0 + 4) 0 8) (fun M4 => wrt (cpy M4 (t1 + 5) 0 (t0 + 5) 0 64) (fun M5 => wrt (cpy M5 (t1 + 6) 0 (t0 + 6) 0 32) (fun M6 => wrt (cpy M6 (t1 + 7) 0 (t0 + 7) 0 8) (fun M7 => some (0, M7))))))))
set_option maxRecDepth 20000 in
set_option maxHeartbeats 2000000 in
theorem ev_X6_copyFrom (d : Nat) (hlev : 1 ≤ d) (t0 : Nat) (h_t0 : blkAt KSx t0 blk6) (t1 : Nat) (h_t1 : blkAt KSx t1 blk6) (M : Mem) : Ev KSx ST1 mdX6_copyFrom d [.inr t0, .inr t1] M (f_X6_copyFrom t0 t1 M) := by
  refine ev_of rfl (Nat.le_of_ble_eq_true rfl) ?_
  show CorM KSx ST1 RX6 cX6_copyFrom 2 none d 0 [(0, .inr t0), (1, .inr t1)] [] M (f_X6_copyFrom t0 t1 M)
  unfold f_X6_copyFrom
  refine c_aload_n (i := 1) dX6_copyFrom_0 rfl rfl ?_
  refine gf_RX6_9 (blk_get0 h_t1) dX6_copyFrom_1 ?_
  refine c_iconst dX6_copyFrom_4 (v := 0) rfl ?_
  refine c_aload_n (i := 0) dX6_copyFrom_5 rfl rfl ?_
  refine gf_RX6_9 (blk_get0 h_t0) dX6_copyFrom_6 ?_
  refine c_iconst dX6_copyFrom_9 (v := 0) rfl ?_
  refine c_aload_n (i := 0) dX6_copyFrom_10 rfl rfl ?_
  refine gf_RX6_9 (blk_get0 h_t0) dX6_copyFrom_11 ?_
  refine c_alen (blk_get0 (blk_sub (C := [(20, 8)]) (i := 1) h_t0 rfl)) (Or.inl rfl) (v := 8) rfl dX6_copyFrom_14 ?_
  refine c_copy wl_RX6_39 (blk_get0 (blk_sub (C := [(20, 8)]) (i := 1) h_t1 rfl)) (blk_get0 (blk_sub (C := [(20, 8)]) (i := 1) h_t0 rfl)) (by decide) (Nat.lt_of_lt_of_le (by decide) hlev) (Nat.le_of_ble_eq_true rfl) dX6_copyFrom_15 ?_
  refine c_wrt (fun M1 => ?_)
  refine c_aload_n (i := 1) dX6_copyFrom_18 rfl rfl ?_
  refine gf_RX6_15 (blk_get0 h_t1) dX6_copyFrom_19 ?_
  refine c_iconst dX6_copyFrom_22 (v := 0) rfl ?_
  refine c_aload_n (i := 0) dX6_copyFrom_23 rfl rfl ?_
  refine gf_RX6_15 (blk_get0 h_t0) dX6_copyFrom_24 ?_
  refine c_iconst dX6_copyFrom_27 (v := 0) rfl ?_
  refine c_aload_n (i := 0) dX6_copyFrom_28 rfl rfl ?_
  refine gf_RX6_15 (blk_get0 h_t0) dX6_copyFrom_29 ?_
  refine c_alen (blk_get0 (blk_sub (C := [(20, 32)]) (i := 2) h_t0 rfl)) (Or.inl rfl) (v := 32) rfl dX6_copyFrom_32 ?_
  refine c_copy wl_RX6_39 (blk_get0 (blk_sub (C := [(20, 32)]) (i := 2) h_t1 rfl)) (blk_get0 (blk_sub (C := [(20, 32)]) (i := 2) h_t0 rfl)) (by decide) (Nat.lt_of_lt_of_le (by decide) hlev) (Nat.le_of_ble_eq_true rfl) dX6_copyFrom_33 ?_
  refine c_wrt (fun M2 => ?_)
  refine c_aload_n (i := 1) dX6_copyFrom_36 rfl rfl ?_
  refine gf_RX6_18 (blk_get0 h_t1) dX6_copyFrom_37 ?_
  refine c_iconst dX6_copyFrom_40 (v := 0) rfl ?_
  refine c_aload_n (i := 0) dX6_copyFrom_41 rfl rfl ?_
  refine gf_RX6_18 (blk_get0 h_t0) dX6_copyFrom_42 ?_
  refine c_iconst dX6_copyFrom_45 (v := 0) rfl ?_
  refine c_aload_n (i := 0) dX6_copyFrom_46 rfl rfl ?_
  refine gf_RX6_18 (blk_get0 h_t0) dX6_copyFrom_47 ?_
  refine c_alen (blk_get0 (blk_sub (C := [(20, 8)]) (i := 3) h_t0 rfl)) (Or.inl rfl) (v := 8) rfl dX6_copyFrom_50 ?_
  refine c_copy wl_RX6_39 (blk_get0 (blk_sub (C := [(20, 8)]) (i := 3) h_t1 rfl)) (blk_get0 (blk_sub (C := [(20, 8)]) (i := 3) h_t0 rfl)) (by decide) (Nat.lt_of_lt_of_le (by decide) hlev) (Nat.le_of_ble_eq_true rfl) dX6_copyFrom_51 ?_
  refine c_wrt (fun M3 => ?_)
  refine c_aload_n (i := 1) dX6_copyFrom_54 rfl rfl ?_
  refine gf_RX6_21 (blk_get0 h_t1) dX6_copyFrom_55 ?_
  refine c_iconst dX6_copyFrom_58 (v := 0) rfl ?_
  refine c_aload_n (i := 0) dX6_copyFrom_59 rfl rfl ?_
  refine gf_RX6_21 (blk_get0 h_t0) dX6_copyFrom_60 ?_
  refine c_iconst dX6_copyFrom_63 (v := 0) rfl ?_
  refine c_aload_n (i := 0) dX6_copyFrom_64 rfl rfl ?_
  refine gf_RX6_21 (blk_get0 h_t0) dX6_copyFrom_65 ?_
  refine c_alen (blk_get0 (blk_sub (C := [(20, 8)]) (i := 4) h_t0 rfl)) (Or.inl rfl) (v := 8) rfl dX6_copyFrom_68 ?_
  refine c_copy wl_RX6_39 (blk_get0 (blk_sub (C := [(20, 8)]) (i := 4) h_t1 rfl)) (blk_get0 (blk_sub (C := [(20, 8)]) (i := 4) h_t0 rfl)) (by decide) (Nat.lt_of_lt_of_le (by decide) hlev) (Nat.le_of_ble_eq_true rfl) dX6_copyFrom_69 ?_
  refine c_wrt (fun M4 => ?_)
  refine c_aload_n (i := 1) dX6_copyFrom_72 rfl rfl ?_
  refine gf_RX6_24 (blk_get0 h_t1) dX6_copyFrom_73 ?_
  refine c_iconst dX6_copyFrom_76 (v := 0) rfl ?_
  refine c_aload_n (i := 0) dX6_copyFrom_77 rfl rfl ?_
  refine gf_RX6_24 (blk_get0 h_t0) dX6_copyFrom_78 ?_
  refine c_iconst dX6_copyFrom_81 (v := 0) rfl ?_
  refine c_aload_n (i := 0) dX6_copyFrom_82 rfl rfl ?_
  refine gf_RX6_24 (blk_get0 h_t0) dX6_copyFrom_83 ?_
  refine c_alen (blk_get0 (blk_sub (C := [(20, 64)]) (i := 5) h_t0 rfl)) (Or.inl rfl) (v := 64) rfl dX6_copyFrom_86 ?_
  refine c_copy wl_RX6_39 (blk_get0 (blk_sub (C := [(20, 64)]) (i := 5) h_t1 rfl)) (blk_get0 (blk_sub (C := [(20, 64)]) (i := 5) h_t0 rfl)) (by decide) (Nat.lt_of_lt_of_le (by decide) hlev) (Nat.le_of_ble_eq_true rfl) dX6_copyFrom_87 ?_
  refine c_wrt (fun M5 => ?_)
  refine c_aload_n (i := 1) dX6_copyFrom_90 rfl rfl ?_
  refine gf_RX6_27 (blk_get0 h_t1) dX6_copyFrom_91 ?_
  refine c_iconst dX6_copyFrom_94 (v := 0) rfl ?_
  refine c_aload_n (i := 0) dX6_copyFrom_95 rfl rfl ?_
  refine gf_RX6_27 (blk_get0 h_t0) dX6_copyFrom_96 ?_
  refine c_iconst dX6_copyFrom_99 (v := 0) rfl ?_
  refine c_aload_n (i := 0) dX6_copyFrom_100 rfl rfl ?_
  refine gf_RX6_27 (blk_get0 h_t0) dX6_copyFrom_101 ?_
  refine c_alen (blk_get0 (blk_sub (C := [(20, 32)]) (i := 6) h_t0 rfl)) (Or.inl rfl) (v := 32) rfl dX6_copyFrom_104 ?_
  refine c_copy wl_RX6_39 (blk_get0 (blk_sub (C := [(20, 32)]) (i := 6) h_t1 rfl)) (blk_get0 (blk_sub (C := [(20, 32)]) (i := 6) h_t0 rfl)) (by decide) (Nat.lt_of_lt_of_le (by decide) hlev) (Nat.le_of_ble_eq_true rfl) dX6_copyFrom_105 ?_
  refine c_wrt (fun M6 => ?_)
  refine c_aload_n (i := 1) dX6_copyFrom_108 rfl rfl ?_
  refine gf_RX6_30 (blk_get0 h_t1) dX6_copyFrom_109 ?_
  refine c_iconst dX6_copyFrom_112 (v := 0) rfl ?_
  refine c_aload_n (i := 0) dX6_copyFrom_113 rfl rfl ?_
  refine gf_RX6_30 (blk_get0 h_t0) dX6_copyFrom_114 ?_
  refine c_iconst dX6_copyFrom_117 (v := 0) rfl ?_
  refine c_aload_n (i := 0) dX6_copyFrom_118 rfl rfl ?_
  refine gf_RX6_30 (blk_get0 h_t0) dX6_copyFrom_119 ?_
  refine c_alen (blk_get0 (blk_sub (C := [(20, 8)]) (i := 7) h_t0 rfl)) (Or.inl rfl) (v := 8) rfl dX6_copyFrom_122 ?_
  refine c_copy wl_RX6_39 (blk_get0 (blk_sub (C := [(20, 8)]) (i := 7) h_t1 rfl)) (blk_get0 (blk_sub (C := [(20, 8)]) (i := 7) h_t0 rfl)) (by decide) (Nat.lt_of_lt_of_le (by decide) hlev) (Nat.le_of_ble_eq_true rfl) dX6_copyFrom_123 ?_
  refine c_wrt (fun M7 => ?_)
  exact c_vret rfl dX6_copyFrom_126

abbrev mdX4_areConflicting : MD := (yX4_areConflicting, cX4_areConflicting, 6, (some .boolean))
theorem mw_X4_areConflicting : mdW mdX4_areConflicting := ⟨wm_X4_areConflicting, w0_RX4, by decide, by decide⟩
theorem mn_X4_areConflicting : (parseMethodDescriptor yX4_areConflicting.desc).map (fun d => d.parameters.length) = some 2 := by decide +kernel
def j_X4_areConflicting_68 (M : Mem) : Option (Int32 × Mem) := some (1, M)
set_option maxRecDepth 20000 in
set_option maxHeartbeats 2000000 in
theorem jo_X4_areConflicting_68 (d : Nat) (hlev : 0 ≤ d) (M : Mem) : CorM KSx ST1 RX4 cX4_areConflicting 6 (some .boolean) d 68 [] [] M (j_X4_areConflicting_68 M) := by
  unfold j_X4_areConflicting_68
  refine c_iconst dX4_areConflicting_68 (v := 1) rfl ?_
  exact c_zret rfl (Or.inr rfl) dX4_areConflicting_69
def l_X4_areConflicting_2 (t0 : Nat) (x1 : Int32) (x2 : Int32) (K2 : Int32 × Mem → Option (Int32 × Mem)) : Int32 × Mem → Option (Int32 × Mem) := fun s => match s with
  | (x3, M) => if 8 ≤ x3 then some (0, M) else if inb ((x1 * 8) + x3) 96 then if inb ((x2 * 8) + x3) 96 then if inb ((x2 * 8) + x3) 96 then if ¬ ((M (t0 + 12) (ix ((x1 * 8) + x3))) &&& ((M (t0 + 11) (ix ((x2 * 8) + x3))) ||| (M (t0 + 12) (ix ((x2 * 8) + x3))))) = 0 then j_X4_areConflicting_68 M else if inb ((x2 * 8) + x3) 96 then if inb ((x1 * 8) + x3) 96 then if ((M (t0 + 12) (ix ((x2 * 8) + x3))) &&& (M (t0 + 11) (ix ((x1 * 8) + x3)))) = 0 then K2 (x3 + 1, M) else j_X4_areConflicting_68 M else none else none else none else none else none
set_option maxRecDepth 20000 in
set_option maxHeartbeats 2000000 in
theorem lo_X4_areConflicting_2 (d : Nat) (hlev : 0 ≤ d) (t0 : Nat) (h_t0 : blkAt KSx t0 blk4) (x1 : Int32) (x2 : Int32) (s : Int32 × Mem) : CorM KSx ST1 RX4 cX4_areConflicting 6 (some .boolean) d 2 [(0, .inr t0), (1, .inl x1), (2, .inl x2), (3, .inl s.1)] [] s.2 (loopC (l_X4_areConflicting_2 t0 x1 x2) fuelL s) := by
  refine c_loop (L := fun s : Int32 × Mem => [(0, .inr t0), (1, .inl x1), (2, .inl x2), (3, .inl s.1)]) (Mf := fun s : Int32 × Mem => s.2) (fun K2 hK2 s => ?_) fuelL s
  obtain ⟨x3, M⟩ := s
  show CorM KSx ST1 RX4 cX4_areConflicting 6 (some .boolean) d 2 [(0, .inr t0), (1, .inl x1), (2, .inl x2), (3, .inl x3)] [] M (l_X4_areConflicting_2 t0 x1 x2 K2 (x3, M))
  unfold l_X4_areConflicting_2
  refine c_iload_n (i := 3) dX4_areConflicting_2 rfl rfl ?_
  refine c_bipush dX4_areConflicting_3 (v := 8) rfl ?_
  refine c_icmp_ge (tgt := 76) dX4_areConflicting_5 rfl (fun h1 => ?_) (fun h1 => ?_)
  · refine c_iconst dX4_areConflicting_76 (v := 0) rfl ?_
    exact c_zret rfl (Or.inl rfl) dX4_areConflicting_77
  · refine c_iload_n (i := 1) dX4_areConflicting_8 rfl rfl ?_
    refine c_bipush dX4_areConflicting_9 (v := 8) rfl ?_
    refine c_imul dX4_areConflicting_11 ?_
    refine c_iload_n (i := 3) dX4_areConflicting_12 rfl rfl ?_
    refine c_iadd dX4_areConflicting_13 ?_
    refine c_istore dX4_areConflicting_14 (by decide) (ls2 := [(0, .inr t0), (1, .inl x1), (2, .inl x2), (3, .inl x3), (4, .inl ((x1 * 8) + x3))]) rfl ?_
    refine c_iload_n (i := 2) dX4_areConflicting_16 rfl rfl ?_
    refine c_bipush dX4_areConflicting_17 (v := 8) rfl ?_
    refine c_imul dX4_areConflicting_19 ?_
    refine c_iload_n (i := 3) dX4_areConflicting_20 rfl rfl ?_
    refine c_iadd dX4_areConflicting_21 ?_
    refine c_istore dX4_areConflicting_22 (by decide) (ls2 := [(0, .inr t0), (1, .inl x1), (2, .inl x2), (3, .inl x3), (4, .inl ((x1 * 8) + x3)), (5, .inl ((x2 * 8) + x3))]) rfl ?_
    refine c_aload_n (i := 0) dX4_areConflicting_24 rfl rfl ?_
    refine gf_RX4_45 (blk_get0 h_t0) dX4_areConflicting_25 ?_
    refine c_iload dX4_areConflicting_28 rfl ?_
    refine c_chk (fun h2 => ?_)
    refine c_iald (blk_get0 (blk_sub (C := [(20, 96)]) (i := 12) h_t0 rfl)) h2 dX4_areConflicting_30 ?_
    refine c_aload_n (i := 0) dX4_areConflicting_31 rfl rfl ?_
    refine gf_RX4_42 (blk_get0 h_t0) dX4_areConflicting_32 ?_
    refine c_iload dX4_areConflicting_35 rfl ?_
    refine c_chk (fun h3 => ?_)
    refine c_iald (blk_get0 (blk_sub (C := [(20, 96)]) (i := 11) h_t0 rfl)) h3 dX4_areConflicting_37 ?_
    refine c_aload_n (i := 0) dX4_areConflicting_38 rfl rfl ?_
    refine gf_RX4_45 (blk_get0 h_t0) dX4_areConflicting_39 ?_
    refine c_iload dX4_areConflicting_42 rfl ?_
    refine c_chk (fun h4 => ?_)
    refine c_iald (blk_get0 (blk_sub (C := [(20, 96)]) (i := 12) h_t0 rfl)) h4 dX4_areConflicting_44 ?_
    refine c_ior dX4_areConflicting_45 ?_
    refine c_iand dX4_areConflicting_46 ?_
    refine c_if_ne (tgt := 68) dX4_areConflicting_47 rfl (fun h5 => ?_) (fun h5 => ?_)
    · refine c_keep [] (ls2 := []) rfl ?_
      exact jo_X4_areConflicting_68 d hlev M
    · refine c_aload_n (i := 0) dX4_areConflicting_50 rfl rfl ?_
      refine gf_RX4_45 (blk_get0 h_t0) dX4_areConflicting_51 ?_
      refine c_iload dX4_areConflicting_54 rfl ?_
      refine c_chk (fun h6 => ?_)
      refine c_iald (blk_get0 (blk_sub (C := [(20, 96)]) (i := 12) h_t0 rfl)) h6 dX4_areConflicting_56 ?_
      refine c_aload_n (i := 0) dX4_areConflicting_57 rfl rfl ?_
      refine gf_RX4_42 (blk_get0 h_t0) dX4_areConflicting_58 ?_
      refine c_iload dX4_areConflicting_61 rfl ?_
      refine c_chk (fun h7 => ?_)
      refine c_iald (blk_get0 (blk_sub (C := [(20, 96)]) (i := 11) h_t0 rfl)) h7 dX4_areConflicting_63 ?_
      refine c_iand dX4_areConflicting_64 ?_
      refine c_if_eq (tgt := 70) dX4_areConflicting_65 rfl (fun h8 => ?_) (fun h8 => ?_)
      · refine c_iinc dX4_areConflicting_70 rfl (v := 1) rfl (by decide) (ls2 := [(0, .inr t0), (1, .inl x1), (2, .inl x2), (3, .inl (x3 + 1)), (4, .inl ((x1 * 8) + x3)), (5, .inl ((x2 * 8) + x3))]) rfl ?_
        refine c_goto (tgt := 2) dX4_areConflicting_73 rfl ?_
        refine c_keep [0, 1, 2, 3] (ls2 := [(0, .inr t0), (1, .inl x1), (2, .inl x2), (3, .inl (x3 + 1))]) rfl ?_
        exact hK2 (x3 + 1, M)
      · refine c_keep [] (ls2 := []) rfl ?_
        exact jo_X4_areConflicting_68 d hlev M
def f_X4_areConflicting (t0 : Nat) (x1 : Int32) (x2 : Int32) (M : Mem) : Option (Int32 × Mem) := loopC (l_X4_areConflicting_2 t0 x1 x2) fuelL (0, M)
set_option maxRecDepth 20000 in
set_option maxHeartbeats 2000000 in
theorem ev_X4_areConflicting (d : Nat) (hlev : 0 ≤ d) (t0 : Nat) (h_t0 : blkAt KSx t0 blk4) (x1 : Int32) (x2 : Int32) (M : Mem) : Ev KSx ST1 mdX4_areConflicting d [.inr t0, .inl x1, .inl x2] M (f_X4_areConflicting t0 x1 x2 M) := by
  refine ev_of rfl (Nat.le_of_ble_eq_true rfl) ?_
  show CorM KSx ST1 RX4 cX4_areConflicting 6 (some .boolean) d 0 [(0, .inr t0), (1, .inl x1), (2, .inl x2)] [] M (f_X4_areConflicting t0 x1 x2 M)
  unfold f_X4_areConflicting
  refine c_iconst dX4_areConflicting_0 (v := 0) rfl ?_
  refine c_istore_n (i := 3) dX4_areConflicting_1 rfl (by decide) (ls2 := [(0, .inr t0), (1, .inl x1), (2, .inl x2), (3, .inl 0)]) rfl ?_
  refine c_keep [0, 1, 2, 3] (ls2 := [(0, .inr t0), (1, .inl x1), (2, .inl x2), (3, .inl 0)]) rfl ?_
  exact lo_X4_areConflicting_2 d hlev t0 h_t0 x1 x2 (0, M)

abbrev mdX3_findPredecessors : MD := (yX3_findPredecessors, cX3_findPredecessors, 5, none)
theorem mw_X3_findPredecessors : mdW mdX3_findPredecessors := ⟨wm_X3_findPredecessors, w0_RX3, by decide, by decide⟩
theorem mn_X3_findPredecessors : (parseMethodDescriptor yX3_findPredecessors.desc).map (fun d => d.parameters.length) = some 0 := by decide +kernel
def j_X3_findPredecessors_79 (x1 : Int32) (x2 : Int32) (K2 : Int32 × Mem → Option (Int32 × Mem)) (K22 : Int32 × Mem → Option (Int32 × Mem)) (M : Mem) : Option (Int32 × Mem) := K22 (x2 + 1, M)
set_option maxRecDepth 20000 in
set_option maxHeartbeats 2000000 in
theorem jo_X3_findPredecessors_79 (d : Nat) (hlev : 1 ≤ d) (x1 : Int32) (x2 : Int32) (K2 : Int32 × Mem → Option (Int32 × Mem)) (hK2 : ∀ s : Int32 × Mem, CorM KSx ST1 RX3 cX3_findPredecessors 5 none d 2 [(0, .inr 114), (1, .inl s.1)] [] s.2 (K2 s)) (K22 : Int32 × Mem → Option (Int32 × Mem)) (hK22 : ∀ s : Int32 × Mem, CorM KSx ST1 RX3 cX3_findPredecessors 5 none d 22 [(0, .inr 114), (1, .inl x1), (2, .inl s.1)] [] s.2 (K22 s)) (M : Mem) : CorM KSx ST1 RX3 cX3_findPredecessors 5 none d 79 [(0, .inr 114), (1, .inl x1), (2, .inl x2)] [] M (j_X3_findPredecessors_79 x1 x2 K2 K22 M) := by
  unfold j_X3_findPredecessors_79
  refine c_iinc dX3_findPredecessors_79 rfl (v := 1) rfl (by decide) (ls2 := [(0, .inr 114), (1, .inl x1), (2, .inl (x2 + 1))]) rfl ?_
  refine c_goto (tgt := 22) dX3_findPredecessors_82 rfl ?_
  refine c_keep [0, 1, 2] (ls2 := [(0, .inr 114), (1, .inl x1), (2, .inl (x2 + 1))]) rfl ?_
  exact hK22 (x2 + 1, M)
def j_X3_findPredecessors_67 (x1 : Int32) (x2 : Int32) (K2 : Int32 × Mem → Option (Int32 × Mem)) (K22 : Int32 × Mem → Option (Int32 × Mem)) (M : Mem) : Option (Int32 × Mem) := if inb x1 6 then if inb x1 6 then wrt (up M 117 (ix x1) ((M 117 (ix x1)) ||| (1 <<< (x2 &&& 31)))) (fun M13 => j_X3_findPredecessors_79 x1 x2 K2 K22 M13) else none else none
set_option maxRecDepth 20000 in
set_option maxHeartbeats 2000000 in
theorem jo_X3_findPredecessors_67 (d : Nat) (hlev : 1 ≤ d) (x1 : Int32) (x2 : Int32) (K2 : Int32 × Mem → Option (Int32 × Mem)) (hK2 : ∀ s : Int32 × Mem, CorM KSx ST1 RX3 cX3_findPredecessors 5 none d 2 [(0, .inr 114), (1, .inl s.1)] [] s.2 (K2 s)) (K22 : Int32 × Mem → Option (Int32 × Mem)) (hK22 : ∀ s : Int32 × Mem, CorM KSx ST1 RX3 cX3_findPredecessors 5 none d 22 [(0, .inr 114), (1, .inl x1), (2, .inl s.1)] [] s.2 (K22 s)) (M : Mem) : CorM KSx ST1 RX3 cX3_findPredecessors 5 none d 67 [(0, .inr 114), (1, .inl x1), (2, .inl x2)] [] M (j_X3_findPredecessors_67 x1 x2 K2 K22 M) := by
  unfold j_X3_findPredecessors_67
  refine c_aload_n (i := 0) dX3_findPredecessors_67 rfl rfl ?_
  refine gf_RX3_18 (blk_get0 KSx_b114) dX3_findPredecessors_68 ?_
  refine c_iload_n (i := 1) dX3_findPredecessors_71 rfl rfl ?_
  refine c_dup2 dX3_findPredecessors_72 ?_
  refine c_chk (fun h11 => ?_)
  refine c_iald (blk_get0 (blk_sub (C := [(20, 6)]) (i := 3) KSx_b114 rfl)) h11 dX3_findPredecessors_73 ?_
  refine c_iconst dX3_findPredecessors_74 (v := 1) rfl ?_
  refine c_iload_n (i := 2) dX3_findPredecessors_75 rfl rfl ?_
  refine c_ishl dX3_findPredecessors_76 ?_
  refine c_ior dX3_findPredecessors_77 ?_
  refine c_chk (fun h12 => ?_)
  refine c_iast (blk_get0 (blk_sub (C := [(20, 6)]) (i := 3) KSx_b114 rfl)) h12 dX3_findPredecessors_78 ?_
  refine c_wrt (fun M13 => ?_)
  refine c_keep [0, 1, 2] (ls2 := [(0, .inr 114), (1, .inl x1), (2, .inl x2)]) rfl ?_
  exact jo_X3_findPredecessors_79 d hlev x1 x2 K2 hK2 K22 hK22 M13
def l_X3_findPredecessors_22 (x1 : Int32) (K2 : Int32 × Mem → Option (Int32 × Mem)) (K22 : Int32 × Mem → Option (Int32 × Mem)) : Int32 × Mem → Option (Int32 × Mem) := fun s => match s with
  | (x2, M) => if x1 ≤ x2 then K2 (x1 + 1, M) else if ¬ M 114 10 < 0 ∧ blkD KSx (ix (M 114 10)) blk0 then if inb x2 16 then if ¬ M 114 10 < 0 ∧ blkD KSx (ix (M 114 10)) blk0 then if inb x1 16 then if (M (ix (M 114 10) + 1) (ix x2)) = (M (ix (M 114 10) + 1) (ix x1)) then j_X3_findPredecessors_67 x1 x2 K2 K22 M else if ¬ M 114 9 < 0 ∧ blkD KSx (ix (M 114 9)) blk4 then bnd (f_X4_areConflicting (ix (M 114 9)) (M (ix (M 114 10) + 1) (ix x2)) (M (ix (M 114 10) + 1) (ix x1)) M) (fun v15 M16 => if v15 = 0 then j_X3_findPredecessors_79 x1 x2 K2 K22 M16 else j_X3_findPredecessors_67 x1 x2 K2 K22 M16) else none else none else none else none else none
set_option maxRecDepth 20000 in
set_option maxHeartbeats 2000000 in
theorem lo_X3_findPredecessors_22 (d : Nat) (hlev : 1 ≤ d) (x1 : Int32) (K2 : Int32 × Mem → Option (Int32 × Mem)) (hK2 : ∀ s : Int32 × Mem, CorM KSx ST1 RX3 cX3_findPredecessors 5 none d 2 [(0, .inr 114), (1, .inl s.1)] [] s.2 (K2 s)) (s : Int32 × Mem) : CorM KSx ST1 RX3 cX3_findPredecessors 5 none d 22 [(0, .inr 114), (1, .inl x1), (2, .inl s.1)] [] s.2 (loopC (l_X3_findPredecessors_22 x1 K2) fuelL s) := by
  refine c_loop (L := fun s : Int32 × Mem => [(0, .inr 114), (1, .inl x1), (2, .inl s.1)]) (Mf := fun s : Int32 × Mem => s.2) (fun K22 hK22 s => ?_) fuelL s
  obtain ⟨x2, M⟩ := s
  show CorM KSx ST1 RX3 cX3_findPredecessors 5 none d 22 [(0, .inr 114), (1, .inl x1), (2, .inl x2)] [] M (l_X3_findPredecessors_22 x1 K2 K22 (x2, M))
  unfold l_X3_findPredecessors_22
  refine c_iload_n (i := 2) dX3_findPredecessors_22 rfl rfl ?_
  refine c_iload_n (i := 1) dX3_findPredecessors_23 rfl rfl ?_
  refine c_icmp_ge (tgt := 85) dX3_findPredecessors_24 rfl (fun h5 => ?_) (fun h5 => ?_)
  · refine c_iinc dX3_findPredecessors_85 rfl (v := 1) rfl (by decide) (ls2 := [(0, .inr 114), (1, .inl (x1 + 1)), (2, .inl x2)]) rfl ?_
    refine c_goto (tgt := 2) dX3_findPredecessors_88 rfl ?_
    refine c_keep [0, 1] (ls2 := [(0, .inr 114), (1, .inl (x1 + 1))]) rfl ?_
    exact hK2 (x1 + 1, M)
  · refine c_aload_n (i := 0) dX3_findPredecessors_27 rfl rfl ?_
    refine c_chk (fun h6 => ?_)
    refine gf_RX3_48 (blk_get0 KSx_b114) h6.1 dX3_findPredecessors_28 ?_
    refine gf_RX3_77 (blk_get0 (blk_of h6.2)) dX3_findPredecessors_31 ?_
    refine c_iload_n (i := 2) dX3_findPredecessors_34 rfl rfl ?_
    refine c_chk (fun h7 => ?_)
    refine c_iald (blk_get0 (blk_sub (C := [(20, 16)]) (i := 1) (blk_of h6.2) rfl)) h7 dX3_findPredecessors_35 ?_
    refine c_istore_n (i := 3) dX3_findPredecessors_36 rfl (by decide) (ls2 := [(0, .inr 114), (1, .inl x1), (2, .inl x2), (3, .inl (M (ix (M 114 10) + 1) (ix x2)))]) rfl ?_
    refine c_aload_n (i := 0) dX3_findPredecessors_37 rfl rfl ?_
    refine c_chk (fun h8 => ?_)
    refine gf_RX3_48 (blk_get0 KSx_b114) h8.1 dX3_findPredecessors_38 ?_
    refine gf_RX3_77 (blk_get0 (blk_of h8.2)) dX3_findPredecessors_41 ?_
    refine c_iload_n (i := 1) dX3_findPredecessors_44 rfl rfl ?_
    refine c_chk (fun h9 => ?_)
    refine c_iald (blk_get0 (blk_sub (C := [(20, 16)]) (i := 1) (blk_of h8.2) rfl)) h9 dX3_findPredecessors_45 ?_
    refine c_istore dX3_findPredecessors_46 (by decide) (ls2 := [(0, .inr 114), (1, .inl x1), (2, .inl x2), (3, .inl (M (ix (M 114 10) + 1) (ix x2))), (4, .inl (M (ix (M 114 10) + 1) (ix x1)))]) rfl ?_
    refine c_iload_n (i := 3) dX3_findPredecessors_48 rfl rfl ?_
    refine c_iload dX3_findPredecessors_49 rfl ?_
    refine c_icmp_eq (tgt := 67) dX3_findPredecessors_51 rfl (fun h10 => ?_) (fun h10 => ?_)
    · refine c_keep [0, 1, 2] (ls2 := [(0, .inr 114), (1, .inl x1), (2, .inl x2)]) rfl ?_
      exact jo_X3_findPredecessors_67 d hlev x1 x2 K2 hK2 K22 hK22 M
    · refine c_aload_n (i := 0) dX3_findPredecessors_54 rfl rfl ?_
      refine c_chk (fun h14 => ?_)
      refine gf_RX3_38 (blk_get0 KSx_b114) h14.1 dX3_findPredecessors_55 ?_
      refine c_iload_n (i := 3) dX3_findPredecessors_58 rfl rfl ?_
      refine c_iload dX3_findPredecessors_59 rfl ?_
      refine c_callV (as := [.inl (M (ix (M 114 10) + 1) (ix x2)), .inl (M (ix (M 114 10) + 1) (ix x1))]) (rs := []) (ev_X4_areConflicting 0 (Nat.le_refl _) (ix (M 114 9)) (blk_of h14.2) (M (ix (M 114 10) + 1) (ix x2)) (M (ix (M 114 10) + 1) (ix x1)) M) rfl (Nat.lt_of_lt_of_le (by decide) hlev) mw_X4_areConflicting wi_X4_areConflicting wv_X4_areConflicting (blk_get0 (blk_of h14.2)) (by decide) rfl wl_RX3_80 mn_X4_areConflicting rfl (by decide) (Nat.le_of_ble_eq_true rfl) ⟨_, rfl⟩ dX3_findPredecessors_61 (fun v15 M16 _ => ?_)
      refine c_if_eq (tgt := 79) dX3_findPredecessors_64 rfl (fun h17 => ?_) (fun h17 => ?_)
      · refine c_keep [0, 1, 2] (ls2 := [(0, .inr 114), (1, .inl x1), (2, .inl x2)]) rfl ?_
        exact jo_X3_findPredecessors_79 d hlev x1 x2 K2 hK2 K22 hK22 M16
      · refine c_keep [0, 1, 2] (ls2 := [(0, .inr 114), (1, .inl x1), (2, .inl x2)]) rfl ?_
        exact jo_X3_findPredecessors_67 d hlev x1 x2 K2 hK2 K22 hK22 M16
def l_X3_findPredecessors_2 (K2 : Int32 × Mem → Option (Int32 × Mem)) : Int32 × Mem → Option (Int32 × Mem) := fun s => match s with
  | (x1, M) => if ¬ M 114 10 < 0 ∧ blkD KSx (ix (M 114 10)) blk0 then if (M (ix (M 114 10)) 1) ≤ x1 then some (0, M) else if inb x1 6 then wrt (up M 117 (ix x1) 0) (fun M4 => loopC (l_X3_findPredecessors_22 x1 K2) fuelL (0, M4)) else none else none
set_option maxRecDepth 20000 in
set_option maxHeartbeats 2000000 in
theorem lo_X3_findPredecessors_2 (d : Nat) (hlev : 1 ≤ d) (s : Int32 × Mem) : CorM KSx ST1 RX3 cX3_findPredecessors 5 none d 2 [(0, .inr 114), (1, .inl s.1)] [] s.2 (loopC (l_X3_findPredecessors_2) fuelL s) := by
  refine c_loop (L := fun s : Int32 × Mem => [(0, .inr 114), (1, .inl s.1)]) (Mf := fun s : Int32 × Mem => s.2) (fun K2 hK2 s => ?_) fuelL s
  obtain ⟨x1, M⟩ := s
  show CorM KSx ST1 RX3 cX3_findPredecessors 5 none d 2 [(0, .inr 114), (1, .inl x1)] [] M (l_X3_findPredecessors_2 K2 (x1, M))
  unfold l_X3_findPredecessors_2
  refine c_iload_n (i := 1) dX3_findPredecessors_2 rfl rfl ?_
  refine c_aload_n (i := 0) dX3_findPredecessors_3 rfl rfl ?_
  refine c_chk (fun h1 => ?_)
  refine gf_RX3_48 (blk_get0 KSx_b114) h1.1 dX3_findPredecessors_4 ?_
  refine gf_RX3_72 (blk_get0 (blk_of h1.2)) dX3_findPredecessors_7 ?_
  refine c_icmp_ge (tgt := 91) dX3_findPredecessors_10 rfl (fun h2 => ?_) (fun h2 => ?_)
  · exact c_vret rfl dX3_findPredecessors_91
  · refine c_aload_n (i := 0) dX3_findPredecessors_13 rfl rfl ?_
    refine gf_RX3_18 (blk_get0 KSx_b114) dX3_findPredecessors_14 ?_
    refine c_iload_n (i := 1) dX3_findPredecessors_17 rfl rfl ?_
    refine c_iconst dX3_findPredecessors_18 (v := 0) rfl ?_
    refine c_chk (fun h3 => ?_)
    refine c_iast (blk_get0 (blk_sub (C := [(20, 6)]) (i := 3) KSx_b114 rfl)) h3 dX3_findPredecessors_19 ?_
    refine c_wrt (fun M4 => ?_)
    refine c_iconst dX3_findPredecessors_20 (v := 0) rfl ?_
    refine c_istore_n (i := 2) dX3_findPredecessors_21 rfl (by decide) (ls2 := [(0, .inr 114), (1, .inl x1), (2, .inl 0)]) rfl ?_
    refine c_keep [0, 1, 2] (ls2 := [(0, .inr 114), (1, .inl x1), (2, .inl 0)]) rfl ?_
    exact lo_X3_findPredecessors_22 d hlev x1 K2 hK2 (0, M4)
def f_X3_findPredecessors (M : Mem) : Option (Int32 × Mem) := loopC (l_X3_findPredecessors_2) fuelL (0, M)
set_option maxRecDepth 20000 in
set_option maxHeartbeats 2000000 in
theorem ev_X3_findPredecessors (d : Nat) (hlev : 1 ≤ d) (M : Mem) : Ev KSx ST1 mdX3_findPredecessors d [.inr 114] M (f_X3_findPredecessors M) := by
  refine ev_of rfl (Nat.le_of_ble_eq_true rfl) ?_
  show CorM KSx ST1 RX3 cX3_findPredecessors 5 none d 0 [(0, .inr 114)] [] M (f_X3_findPredecessors M)
  unfold f_X3_findPredecessors
  refine c_iconst dX3_findPredecessors_0 (v := 0) rfl ?_
  refine c_istore_n (i := 1) dX3_findPredecessors_1 rfl (by decide) (ls2 := [(0, .inr 114), (1, .inl 0)]) rfl ?_
  refine c_keep [0, 1] (ls2 := [(0, .inr 114), (1, .inl 0)]) rfl ?_
  exact lo_X3_findPredecessors_2 d hlev (0, M)
