abbrev mdX9_predictFinish : MD := (yX9_predictFinish, cX9_predictFinish, 5, (some .int))
theorem mw_X9_predictFinish : mdW mdX9_predictFinish := ⟨wm_X9_predictFinish, w0_RX9, by decide, by decide⟩
theorem mn_X9_predictFinish : (parseMethodDescriptor yX9_predictFinish.desc).map (fun d => d.parameters.length) = some 2 := by decide +kernel
def j_X9_predictFinish_80 (M : Mem) : Option (Int32 × Mem) := bnd (f_X6_latest 57 255 M) (fun v5 M6 => some (v5, M6))
set_option maxRecDepth 20000 in
set_option maxHeartbeats 2000000 in
theorem jo_X9_predictFinish_80 (d : Nat) (hlev : 4 ≤ d) (M : Mem) : CorM KSx ST1 RX9 cX9_predictFinish 5 (some .int) d 80 [(3, .inr 57)] [] M (j_X9_predictFinish_80 M) := by
  unfold j_X9_predictFinish_80
  refine c_aload_n (i := 3) dX9_predictFinish_80 rfl rfl ?_
  refine c_sipush dX9_predictFinish_81 (v := 255) rfl ?_
  refine c_callV (as := [.inl 255]) (rs := []) (ev_X6_latest 1 (Nat.le_refl _) 57 (blk_sub (C := blk6) (i := 4) (blk_sub (C := blk5) (i := 53) KSx_b0 rfl) rfl) 255 M) rfl (Nat.lt_of_lt_of_le (by decide) hlev) mw_X6_latest wi_X6_latest wv_X6_latest (blk_get0 (blk_sub (C := blk6) (i := 4) (blk_sub (C := blk5) (i := 53) KSx_b0 rfl) rfl)) (by decide) rfl wl_RX9_277 mn_X6_latest rfl (by decide) (Nat.le_of_ble_eq_true rfl) ⟨_, rfl⟩ dX9_predictFinish_84 (fun v5 M6 _ => ?_)
  exact c_iret rfl dX9_predictFinish_87
def l_X9_predictFinish_22 (x1 : Int32) (x2 : Int32) (K22 : Int32 × Mem → Option (Int32 × Mem)) : Int32 × Mem → Option (Int32 × Mem) := fun s => match s with
  | (x4, M) => if (M 50 1) ≤ x4 then if x1 = (-1) then j_X9_predictFinish_80 M else if ¬ M 0 5 < 0 ∧ blkD KSx (ix (M 0 5)) blk4 then bnd (f_X6_runBatch 57 (ix (M 0 5)) x1 x2 M) (fun _ M9 => j_X9_predictFinish_80 M9) else none else if ¬ M 0 5 < 0 ∧ blkD KSx (ix (M 0 5)) blk4 then if inb x4 16 then bnd (f_X6_runBatch 57 (ix (M 0 5)) (M 51 (ix x4)) x2 M) (fun _ M13 => K22 (x4 + 1, M13)) else none else none
set_option maxRecDepth 20000 in
set_option maxHeartbeats 2000000 in
theorem lo_X9_predictFinish_22 (d : Nat) (hlev : 4 ≤ d) (x1 : Int32) (x2 : Int32) (s : Int32 × Mem) : CorM KSx ST1 RX9 cX9_predictFinish 5 (some .int) d 22 [(0, .inr 0), (1, .inl x1), (2, .inl x2), (3, .inr 57), (4, .inl s.1)] [] s.2 (loopC (l_X9_predictFinish_22 x1 x2) fuelL s) := by
  refine c_loop (L := fun s : Int32 × Mem => [(0, .inr 0), (1, .inl x1), (2, .inl x2), (3, .inr 57), (4, .inl s.1)]) (Mf := fun s : Int32 × Mem => s.2) (fun K22 hK22 s => ?_) fuelL s
  obtain ⟨x4, M⟩ := s
  show CorM KSx ST1 RX9 cX9_predictFinish 5 (some .int) d 22 [(0, .inr 0), (1, .inl x1), (2, .inl x2), (3, .inr 57), (4, .inl x4)] [] M (l_X9_predictFinish_22 x1 x2 K22 (x4, M))
  unfold l_X9_predictFinish_22
  refine c_iload dX9_predictFinish_22 rfl ?_
  refine c_aload_n (i := 0) dX9_predictFinish_24 rfl rfl ?_
  refine gf_RX9_33 (blk_get0 KSx_b0) dX9_predictFinish_25 ?_
  refine gf_RX9_114 (blk_get0 (blk_sub (C := blk5) (i := 33) KSx_b0 rfl)) dX9_predictFinish_28 ?_
  refine gf_RX9_118 (blk_get0 (blk_sub (C := blk0) (i := 17) (blk_sub (C := blk5) (i := 33) KSx_b0 rfl) rfl)) dX9_predictFinish_31 ?_
  refine c_icmp_ge (tgt := 65) dX9_predictFinish_34 rfl (fun h3 => ?_) (fun h3 => ?_)
  · refine c_iload_n (i := 1) dX9_predictFinish_65 rfl rfl ?_
    refine c_iconst dX9_predictFinish_66 (v := (-1)) rfl ?_
    refine c_icmp_eq (tgt := 80) dX9_predictFinish_67 rfl (fun h4 => ?_) (fun h4 => ?_)
    · refine c_keep [3] (ls2 := [(3, .inr 57)]) rfl ?_
      exact jo_X9_predictFinish_80 d hlev M
    · refine c_aload_n (i := 3) dX9_predictFinish_70 rfl rfl ?_
      refine c_aload_n (i := 0) dX9_predictFinish_71 rfl rfl ?_
      refine c_chk (fun h7 => ?_)
      refine gf_RX9_23 (blk_get0 KSx_b0) h7.1 dX9_predictFinish_72 ?_
      refine c_iload_n (i := 1) dX9_predictFinish_75 rfl rfl ?_
      refine c_iload_n (i := 2) dX9_predictFinish_76 rfl rfl ?_
      refine c_callVv (as := [.inr (ix (M 0 5)), .inl x1, .inl x2]) (rs := []) (ev_X6_runBatch 3 (Nat.le_refl _) 57 (blk_sub (C := blk6) (i := 4) (blk_sub (C := blk5) (i := 53) KSx_b0 rfl) rfl) (ix (M 0 5)) (blk_of h7.2) x1 x2 M) rfl (Nat.lt_of_lt_of_le (by decide) hlev) mw_X6_runBatch wi_X6_runBatch wv_X6_runBatch (blk_get0 (blk_sub (C := blk6) (i := 4) (blk_sub (C := blk5) (i := 53) KSx_b0 rfl) rfl)) (by decide) rfl wl_RX9_296 mn_X6_runBatch rfl (by decide) (Nat.le_of_ble_eq_true rfl) rfl dX9_predictFinish_77 (fun v8 M9 _ => ?_)
      refine c_keep [3] (ls2 := [(3, .inr 57)]) rfl ?_
      exact jo_X9_predictFinish_80 d hlev M9
  · refine c_aload_n (i := 3) dX9_predictFinish_37 rfl rfl ?_
    refine c_aload_n (i := 0) dX9_predictFinish_38 rfl rfl ?_
    refine c_chk (fun h10 => ?_)
    refine gf_RX9_23 (blk_get0 KSx_b0) h10.1 dX9_predictFinish_39 ?_
    refine c_aload_n (i := 0) dX9_predictFinish_42 rfl rfl ?_
    refine gf_RX9_33 (blk_get0 KSx_b0) dX9_predictFinish_43 ?_
    refine gf_RX9_114 (blk_get0 (blk_sub (C := blk5) (i := 33) KSx_b0 rfl)) dX9_predictFinish_46 ?_
    refine gf_RX9_230 (blk_get0 (blk_sub (C := blk0) (i := 17) (blk_sub (C := blk5) (i := 33) KSx_b0 rfl) rfl)) dX9_predictFinish_49 ?_
    refine c_iload dX9_predictFinish_52 rfl ?_
    refine c_chk (fun h11 => ?_)
    refine c_iald (blk_get0 (blk_sub (C := [(20, 16)]) (i := 1) (blk_sub (C := blk0) (i := 17) (blk_sub (C := blk5) (i := 33) KSx_b0 rfl) rfl) rfl)) h11 dX9_predictFinish_54 ?_
    refine c_iload_n (i := 2) dX9_predictFinish_55 rfl rfl ?_
    refine c_callVv (as := [.inr (ix (M 0 5)), .inl (M 51 (ix x4)), .inl x2]) (rs := []) (ev_X6_runBatch 3 (Nat.le_refl _) 57 (blk_sub (C := blk6) (i := 4) (blk_sub (C := blk5) (i := 53) KSx_b0 rfl) rfl) (ix (M 0 5)) (blk_of h10.2) (M 51 (ix x4)) x2 M) rfl (Nat.lt_of_lt_of_le (by decide) hlev) mw_X6_runBatch wi_X6_runBatch wv_X6_runBatch (blk_get0 (blk_sub (C := blk6) (i := 4) (blk_sub (C := blk5) (i := 53) KSx_b0 rfl) rfl)) (by decide) rfl wl_RX9_296 mn_X6_runBatch rfl (by decide) (Nat.le_of_ble_eq_true rfl) rfl dX9_predictFinish_56 (fun v12 M13 _ => ?_)
    refine c_iinc dX9_predictFinish_59 rfl (v := 1) rfl (by decide) (ls2 := [(0, .inr 0), (1, .inl x1), (2, .inl x2), (3, .inr 57), (4, .inl (x4 + 1))]) rfl ?_
    refine c_goto (tgt := 22) dX9_predictFinish_62 rfl ?_
    refine c_keep [0, 1, 2, 3, 4] (ls2 := [(0, .inr 0), (1, .inl x1), (2, .inl x2), (3, .inr 57), (4, .inl (x4 + 1))]) rfl ?_
    exact hK22 (x4 + 1, M13)
def f_X9_predictFinish (x1 : Int32) (x2 : Int32) (M : Mem) : Option (Int32 × Mem) := bnd (f_X6_copyFrom 57 37 M) (fun _ M2 => loopC (l_X9_predictFinish_22 x1 x2) fuelL (0, M2))
set_option maxRecDepth 20000 in
set_option maxHeartbeats 2000000 in
theorem ev_X9_predictFinish (d : Nat) (hlev : 4 ≤ d) (x1 : Int32) (x2 : Int32) (M : Mem) : Ev KSx ST1 mdX9_predictFinish d [.inr 0, .inl x1, .inl x2] M (f_X9_predictFinish x1 x2 M) := by
  refine ev_of rfl (Nat.le_of_ble_eq_true rfl) ?_
  show CorM KSx ST1 RX9 cX9_predictFinish 5 (some .int) d 0 [(0, .inr 0), (1, .inl x1), (2, .inl x2)] [] M (f_X9_predictFinish x1 x2 M)
  unfold f_X9_predictFinish
  refine c_aload_n (i := 0) dX9_predictFinish_0 rfl rfl ?_
  refine gf_RX9_37 (blk_get0 KSx_b0) dX9_predictFinish_1 ?_
  refine gf_RX9_254 (blk_get0 (blk_sub (C := blk5) (i := 53) KSx_b0 rfl)) dX9_predictFinish_4 ?_
  refine c_astore_n (i := 3) dX9_predictFinish_7 rfl (by decide) (ls2 := [(0, .inr 0), (1, .inl x1), (2, .inl x2), (3, .inr 57)]) rfl ?_
  refine c_aload_n (i := 3) dX9_predictFinish_8 rfl rfl ?_
  refine c_aload_n (i := 0) dX9_predictFinish_9 rfl rfl ?_
  refine gf_RX9_33 (blk_get0 KSx_b0) dX9_predictFinish_10 ?_
  refine gf_RX9_254 (blk_get0 (blk_sub (C := blk5) (i := 33) KSx_b0 rfl)) dX9_predictFinish_13 ?_
  refine c_callVv (as := [.inr 37]) (rs := []) (ev_X6_copyFrom 1 (Nat.le_refl _) 57 (blk_sub (C := blk6) (i := 4) (blk_sub (C := blk5) (i := 53) KSx_b0 rfl) rfl) 37 (blk_sub (C := blk6) (i := 4) (blk_sub (C := blk5) (i := 33) KSx_b0 rfl) rfl) M) rfl (Nat.lt_of_lt_of_le (by decide) hlev) mw_X6_copyFrom wi_X6_copyFrom wv_X6_copyFrom (blk_get0 (blk_sub (C := blk6) (i := 4) (blk_sub (C := blk5) (i := 53) KSx_b0 rfl) rfl)) (by decide) rfl wl_RX9_292 mn_X6_copyFrom rfl (by decide) (Nat.le_of_ble_eq_true rfl) rfl dX9_predictFinish_16 (fun v1 M2 _ => ?_)
  refine c_iconst dX9_predictFinish_19 (v := 0) rfl ?_
  refine c_istore dX9_predictFinish_20 (by decide) (ls2 := [(0, .inr 0), (1, .inl x1), (2, .inl x2), (3, .inr 57), (4, .inl 0)]) rfl ?_
  refine c_keep [0, 1, 2, 3, 4] (ls2 := [(0, .inr 0), (1, .inl x1), (2, .inl x2), (3, .inr 57), (4, .inl 0)]) rfl ?_
  exact lo_X9_predictFinish_22 d hlev x1 x2 (0, M2)

abbrev mdX9_wouldFinish : MD := (yX9_wouldFinish, cX9_wouldFinish, 2, (some .int))
theorem mw_X9_wouldFinish : mdW mdX9_wouldFinish := ⟨wm_X9_wouldFinish, w0_RX9, by decide, by decide⟩
theorem mn_X9_wouldFinish : (parseMethodDescriptor yX9_wouldFinish.desc).map (fun d => d.parameters.length) = some 1 := by decide +kernel
def j_X9_wouldFinish_10 (x1 : Int32) (M : Mem) : Option ((Int32 ⊕ String) × Mem) := if ¬ M 0 5 < 0 ∧ blkD KSx (ix (M 0 5)) blk4 then bnd (f_X9_predictFinish x1 (M (ix (M 0 5) + 1) 5) M) (fun v3 M4 => some (rOk (v3), M4)) else none
set_option maxRecDepth 20000 in
set_option maxHeartbeats 2000000 in
theorem jo_X9_wouldFinish_10 (d : Nat) (hlev : 7 ≤ d) (x1 : Int32) (M : Mem) : CorX KSx ST1 RX9 cX9_wouldFinish 2 (some .int) d 10 [(0, .inr 0), (1, .inl x1)] [] M (j_X9_wouldFinish_10 x1 M) := by
  unfold j_X9_wouldFinish_10
  refine c_aload_n (i := 0) dX9_wouldFinish_10 rfl rfl ?_
  refine c_iload_n (i := 1) dX9_wouldFinish_11 rfl rfl ?_
  refine c_aload_n (i := 0) dX9_wouldFinish_12 rfl rfl ?_
  refine c_chk (fun h2 => ?_)
  refine gf_RX9_23 (blk_get0 KSx_b0) h2.1 dX9_wouldFinish_13 ?_
  refine gf_RX9_192 (blk_get0 (blk_of h2.2)) dX9_wouldFinish_16 ?_
  refine c_iconst dX9_wouldFinish_19 (v := 5) rfl ?_
  refine c_iald (blk_get0 (blk_sub (C := [(20, 9)]) (i := 1) (blk_of h2.2) rfl)) (by decide) dX9_wouldFinish_20 ?_
  refine c_callV (as := [.inl x1, .inl (M (ix (M 0 5) + 1) 5)]) (rs := []) (ev_X9_predictFinish 4 (Nat.le_refl _) x1 (M (ix (M 0 5) + 1) 5) M) rfl (Nat.lt_of_lt_of_le (by decide) hlev) mw_X9_predictFinish wi_X9_predictFinish wv_X9_predictFinish (blk_get0 KSx_b0) (by decide) rfl wl_RX9_289 mn_X9_predictFinish rfl (by decide) (Nat.le_of_ble_eq_true rfl) ⟨_, rfl⟩ dX9_wouldFinish_21 (fun v3 M4 _ => ?_)
  exact c_xret rfl dX9_wouldFinish_24
def f_X9_wouldFinish (x1 : Int32) (M : Mem) : Option ((Int32 ⊕ String) × Mem) := if x1 = (-1) then j_X9_wouldFinish_10 x1 M else bndX (f_X9_requireBatch x1 M) (fun _ M6 => j_X9_wouldFinish_10 x1 M6)
set_option maxRecDepth 20000 in
set_option maxHeartbeats 2000000 in
theorem ev_X9_wouldFinish (d : Nat) (hlev : 7 ≤ d) (x1 : Int32) (M : Mem) : EvX KSx ST1 mdX9_wouldFinish d [.inr 0, .inl x1] M (f_X9_wouldFinish x1 M) := by
  refine evX_of rfl (Nat.le_of_ble_eq_true rfl) ?_
  show CorX KSx ST1 RX9 cX9_wouldFinish 2 (some .int) d 0 [(0, .inr 0), (1, .inl x1)] [] M (f_X9_wouldFinish x1 M)
  unfold f_X9_wouldFinish
  refine c_iload_n (i := 1) dX9_wouldFinish_0 rfl rfl ?_
  refine c_iconst dX9_wouldFinish_1 (v := (-1)) rfl ?_
  refine c_icmp_eq (tgt := 10) dX9_wouldFinish_2 rfl (fun h1 => ?_) (fun h1 => ?_)
  · refine c_keep [0, 1] (ls2 := [(0, .inr 0), (1, .inl x1)]) rfl ?_
    exact jo_X9_wouldFinish_10 d hlev x1 M
  · refine c_aload_n (i := 0) dX9_wouldFinish_5 rfl rfl ?_
    refine c_iload_n (i := 1) dX9_wouldFinish_6 rfl rfl ?_
    refine c_callX (as := [.inl x1]) (rs := []) (ev_X9_requireBatch 6 (Nat.le_refl _) x1 M) rfl (Nat.lt_of_lt_of_le (by decide) hlev) mw_X9_requireBatch wi_X9_requireBatch wv_X9_requireBatch (blk_get0 KSx_b0) (by decide) rfl wl_RX9_138 mn_X9_requireBatch rfl (by decide) (Nat.le_of_ble_eq_true rfl) rfl dX9_wouldFinish_7 (fun v5 M6 _ => ?_)
    refine c_keep [0, 1] (ls2 := [(0, .inr 0), (1, .inl x1)]) rfl ?_
    exact jo_X9_wouldFinish_10 d hlev x1 M6

abbrev mdX9_wouldBe : MD := (yX9_wouldBe, cX9_wouldBe, 5, (some .int))
theorem mw_X9_wouldBe : mdW mdX9_wouldBe := ⟨wm_X9_wouldBe, w0_RX9, by decide, by decide⟩
theorem mn_X9_wouldBe : (parseMethodDescriptor yX9_wouldBe.desc).map (fun d => d.parameters.length) = some 3 := by decide +kernel
def l_X9_wouldBe_21 (x1 : Int32) (x2 : Int32) (x3 : Int32) (K21 : Int32 × Mem → Option ((Int32 ⊕ String) × Mem)) : Int32 × Mem → Option ((Int32 ⊕ String) × Mem) := fun s => match s with
  | (x4, M) => if (M 50 1) ≤ x4 then if inb (p_X9_lanePlace x1 x2 x3) 256 then some (rOk (M 56 (ix (p_X9_lanePlace x1 x2 x3))), M) else none else if ¬ M 0 5 < 0 ∧ blkD KSx (ix (M 0 5)) blk4 then if inb x4 16 then bnd (f_X5_computeBatch 53 (ix (M 0 5)) (M 51 (ix x4)) M) (fun _ M10 => K21 (x4 + 1, M10)) else none else none
set_option maxRecDepth 20000 in
set_option maxHeartbeats 2000000 in
theorem lo_X9_wouldBe_21 (d : Nat) (hlev : 9 ≤ d) (x1 : Int32) (x2 : Int32) (x3 : Int32) (s : Int32 × Mem) : CorX KSx ST1 RX9 cX9_wouldBe 5 (some .int) d 21 [(0, .inr 0), (1, .inl x1), (2, .inl x2), (3, .inl x3), (4, .inl s.1)] [] s.2 (loopC (l_X9_wouldBe_21 x1 x2 x3) fuelL s) := by
  refine c_loop (L := fun s : Int32 × Mem => [(0, .inr 0), (1, .inl x1), (2, .inl x2), (3, .inl x3), (4, .inl s.1)]) (Mf := fun s : Int32 × Mem => s.2) (fun K21 hK21 s => ?_) fuelL s
  obtain ⟨x4, M⟩ := s
  show CorX KSx ST1 RX9 cX9_wouldBe 5 (some .int) d 21 [(0, .inr 0), (1, .inl x1), (2, .inl x2), (3, .inl x3), (4, .inl x4)] [] M (l_X9_wouldBe_21 x1 x2 x3 K21 (x4, M))
  unfold l_X9_wouldBe_21
  refine c_iload dX9_wouldBe_21 rfl ?_
  refine c_aload_n (i := 0) dX9_wouldBe_23 rfl rfl ?_
  refine gf_RX9_33 (blk_get0 KSx_b0) dX9_wouldBe_24 ?_
  refine gf_RX9_114 (blk_get0 (blk_sub (C := blk5) (i := 33) KSx_b0 rfl)) dX9_wouldBe_27 ?_
  refine gf_RX9_118 (blk_get0 (blk_sub (C := blk0) (i := 17) (blk_sub (C := blk5) (i := 33) KSx_b0 rfl) rfl)) dX9_wouldBe_30 ?_
  refine c_icmp_ge (tgt := 66) dX9_wouldBe_33 rfl (fun h5 => ?_) (fun h5 => ?_)
  · refine c_aload_n (i := 0) dX9_wouldBe_66 rfl rfl ?_
    refine gf_RX9_37 (blk_get0 KSx_b0) dX9_wouldBe_67 ?_
    refine gf_RX9_154 (blk_get0 (blk_sub (C := blk5) (i := 53) KSx_b0 rfl)) dX9_wouldBe_70 ?_
    refine gf_RX9_186 (blk_get0 (blk_sub (C := blk8) (i := 1) (blk_sub (C := blk5) (i := 53) KSx_b0 rfl) rfl)) dX9_wouldBe_73 ?_
    refine c_iload_n (i := 1) dX9_wouldBe_76 rfl rfl ?_
    refine c_iload_n (i := 2) dX9_wouldBe_77 rfl rfl ?_
    refine c_iload_n (i := 3) dX9_wouldBe_78 rfl rfl ?_
    refine c_callSp (as := [.inl x1, .inl x2, .inl x3]) (rs := [.inr 56]) (ev_X9_lanePlace 0 (Nat.le_refl _) x1 x2 x3 M) rfl (Nat.lt_of_lt_of_le (by decide) hlev) mw_X9_lanePlace ws_X9_lanePlace wl_RX9_189 mn_X9_lanePlace rfl (by decide) (Nat.le_of_ble_eq_true rfl) ⟨_, rfl⟩ dX9_wouldBe_79 ?_
    refine c_chk (fun h6 => ?_)
    refine c_iald (blk_get0 (blk_sub (C := [(20, 256)]) (i := 2) (blk_sub (C := blk8) (i := 1) (blk_sub (C := blk5) (i := 53) KSx_b0 rfl) rfl) rfl)) h6 dX9_wouldBe_82 ?_
    exact c_xret rfl dX9_wouldBe_83
  · refine c_aload_n (i := 0) dX9_wouldBe_36 rfl rfl ?_
    refine gf_RX9_37 (blk_get0 KSx_b0) dX9_wouldBe_37 ?_
    refine c_aload_n (i := 0) dX9_wouldBe_40 rfl rfl ?_
    refine c_chk (fun h7 => ?_)
    refine gf_RX9_23 (blk_get0 KSx_b0) h7.1 dX9_wouldBe_41 ?_
    refine c_aload_n (i := 0) dX9_wouldBe_44 rfl rfl ?_
    refine gf_RX9_33 (blk_get0 KSx_b0) dX9_wouldBe_45 ?_
    refine gf_RX9_114 (blk_get0 (blk_sub (C := blk5) (i := 33) KSx_b0 rfl)) dX9_wouldBe_48 ?_
    refine gf_RX9_230 (blk_get0 (blk_sub (C := blk0) (i := 17) (blk_sub (C := blk5) (i := 33) KSx_b0 rfl) rfl)) dX9_wouldBe_51 ?_
    refine c_iload dX9_wouldBe_54 rfl ?_
    refine c_chk (fun h8 => ?_)
    refine c_iald (blk_get0 (blk_sub (C := [(20, 16)]) (i := 1) (blk_sub (C := blk0) (i := 17) (blk_sub (C := blk5) (i := 33) KSx_b0 rfl) rfl) rfl)) h8 dX9_wouldBe_56 ?_
    refine c_callVv (as := [.inr (ix (M 0 5)), .inl (M 51 (ix x4))]) (rs := []) (ev_X5_computeBatch 4 (Nat.le_refl _) 53 (blk_sub (C := blk5) (i := 53) KSx_b0 rfl) (ix (M 0 5)) (blk_of h7.2) (M 51 (ix x4)) M) rfl (Nat.lt_of_lt_of_le (by decide) hlev) mw_X5_computeBatch wi_X5_computeBatch wv_X5_computeBatch (blk_get0 (blk_sub (C := blk5) (i := 53) KSx_b0 rfl)) (by decide) rfl wl_RX9_304 mn_X5_computeBatch rfl (by decide) (Nat.le_of_ble_eq_true rfl) rfl dX9_wouldBe_57 (fun v9 M10 _ => ?_)
    refine c_iinc dX9_wouldBe_60 rfl (v := 1) rfl (by decide) (ls2 := [(0, .inr 0), (1, .inl x1), (2, .inl x2), (3, .inl x3), (4, .inl (x4 + 1))]) rfl ?_
    refine c_goto (tgt := 21) dX9_wouldBe_63 rfl ?_
    refine c_keep [0, 1, 2, 3, 4] (ls2 := [(0, .inr 0), (1, .inl x1), (2, .inl x2), (3, .inl x3), (4, .inl (x4 + 1))]) rfl ?_
    exact hK21 (x4 + 1, M10)
def f_X9_wouldBe (x1 : Int32) (x2 : Int32) (x3 : Int32) (M : Mem) : Option ((Int32 ⊕ String) × Mem) := bndX (f_X9_requireLane x1 x2 x3 M) (fun _ M2 => bnd (f_X5_copyValuesFrom 53 33 M2) (fun _ M4 => loopC (l_X9_wouldBe_21 x1 x2 x3) fuelL (0, M4)))
set_option maxRecDepth 20000 in
set_option maxHeartbeats 2000000 in
theorem ev_X9_wouldBe (d : Nat) (hlev : 9 ≤ d) (x1 : Int32) (x2 : Int32) (x3 : Int32) (M : Mem) : EvX KSx ST1 mdX9_wouldBe d [.inr 0, .inl x1, .inl x2, .inl x3] M (f_X9_wouldBe x1 x2 x3 M) := by
  refine evX_of rfl (Nat.le_of_ble_eq_true rfl) ?_
  show CorX KSx ST1 RX9 cX9_wouldBe 5 (some .int) d 0 [(0, .inr 0), (1, .inl x1), (2, .inl x2), (3, .inl x3)] [] M (f_X9_wouldBe x1 x2 x3 M)
  unfold f_X9_wouldBe
  refine c_aload_n (i := 0) dX9_wouldBe_0 rfl rfl ?_
  refine c_iload_n (i := 1) dX9_wouldBe_1 rfl rfl ?_
  refine c_iload_n (i := 2) dX9_wouldBe_2 rfl rfl ?_
  refine c_iload_n (i := 3) dX9_wouldBe_3 rfl rfl ?_
  refine c_callX (as := [.inl x1, .inl x2, .inl x3]) (rs := []) (ev_X9_requireLane 8 (Nat.le_refl _) x1 x2 x3 M) rfl (Nat.lt_of_lt_of_le (by decide) hlev) mw_X9_requireLane wi_X9_requireLane wv_X9_requireLane (blk_get0 KSx_b0) (by decide) rfl wl_RX9_183 mn_X9_requireLane rfl (by decide) (Nat.le_of_ble_eq_true rfl) rfl dX9_wouldBe_4 (fun v1 M2 _ => ?_)
  refine c_aload_n (i := 0) dX9_wouldBe_7 rfl rfl ?_
  refine gf_RX9_37 (blk_get0 KSx_b0) dX9_wouldBe_8 ?_
  refine c_aload_n (i := 0) dX9_wouldBe_11 rfl rfl ?_
  refine gf_RX9_33 (blk_get0 KSx_b0) dX9_wouldBe_12 ?_
  refine c_callVv (as := [.inr 33]) (rs := []) (ev_X5_copyValuesFrom 2 (Nat.le_refl _) 53 (blk_sub (C := blk5) (i := 53) KSx_b0 rfl) 33 (blk_sub (C := blk5) (i := 33) KSx_b0 rfl) M2) rfl (Nat.lt_of_lt_of_le (by decide) hlev) mw_X5_copyValuesFrom wi_X5_copyValuesFrom wv_X5_copyValuesFrom (blk_get0 (blk_sub (C := blk5) (i := 53) KSx_b0 rfl)) (by decide) rfl wl_RX9_300 mn_X5_copyValuesFrom rfl (by decide) (Nat.le_of_ble_eq_true rfl) rfl dX9_wouldBe_15 (fun v3 M4 _ => ?_)
  refine c_iconst dX9_wouldBe_18 (v := 0) rfl ?_
  refine c_istore dX9_wouldBe_19 (by decide) (ls2 := [(0, .inr 0), (1, .inl x1), (2, .inl x2), (3, .inl x3), (4, .inl 0)]) rfl ?_
  refine c_keep [0, 1, 2, 3, 4] (ls2 := [(0, .inr 0), (1, .inl x1), (2, .inl x2), (3, .inl x3), (4, .inl 0)]) rfl ?_
  exact lo_X9_wouldBe_21 d hlev x1 x2 x3 (0, M4)

abbrev mdX9_isConflict : MD := (yX9_isConflict, cX9_isConflict, 3, (some .boolean))
theorem mw_X9_isConflict : mdW mdX9_isConflict := ⟨wm_X9_isConflict, w0_RX9, by decide, by decide⟩
theorem mn_X9_isConflict : (parseMethodDescriptor yX9_isConflict.desc).map (fun d => d.parameters.length) = some 2 := by decide +kernel
def f_X9_isConflict (x1 : Int32) (x2 : Int32) (M : Mem) : Option ((Int32 ⊕ String) × Mem) := bndX (f_X9_requireBatch x1 M) (fun _ M2 => bndX (f_X9_requireBatch x2 M2) (fun _ M4 => if ¬ M4 0 5 < 0 ∧ blkD KSx (ix (M4 0 5)) blk4 then bnd (f_X4_areConflicting (ix (M4 0 5)) x1 x2 M4) (fun v6 M7 => if isB v6 then some (rOk (v6), M7) else none) else none))
set_option maxRecDepth 20000 in
set_option maxHeartbeats 2000000 in
theorem ev_X9_isConflict (d : Nat) (hlev : 7 ≤ d) (x1 : Int32) (x2 : Int32) (M : Mem) : EvX KSx ST1 mdX9_isConflict d [.inr 0, .inl x1, .inl x2] M (f_X9_isConflict x1 x2 M) := by
  refine evX_of rfl (Nat.le_of_ble_eq_true rfl) ?_
  show CorX KSx ST1 RX9 cX9_isConflict 3 (some .boolean) d 0 [(0, .inr 0), (1, .inl x1), (2, .inl x2)] [] M (f_X9_isConflict x1 x2 M)
  unfold f_X9_isConflict
  refine c_aload_n (i := 0) dX9_isConflict_0 rfl rfl ?_
  refine c_iload_n (i := 1) dX9_isConflict_1 rfl rfl ?_
  refine c_callX (as := [.inl x1]) (rs := []) (ev_X9_requireBatch 6 (Nat.le_refl _) x1 M) rfl (Nat.lt_of_lt_of_le (by decide) hlev) mw_X9_requireBatch wi_X9_requireBatch wv_X9_requireBatch (blk_get0 KSx_b0) (by decide) rfl wl_RX9_138 mn_X9_requireBatch rfl (by decide) (Nat.le_of_ble_eq_true rfl) rfl dX9_isConflict_2 (fun v1 M2 _ => ?_)
  refine c_aload_n (i := 0) dX9_isConflict_5 rfl rfl ?_
  refine c_iload_n (i := 2) dX9_isConflict_6 rfl rfl ?_
  refine c_callX (as := [.inl x2]) (rs := []) (ev_X9_requireBatch 6 (Nat.le_refl _) x2 M2) rfl (Nat.lt_of_lt_of_le (by decide) hlev) mw_X9_requireBatch wi_X9_requireBatch wv_X9_requireBatch (blk_get0 KSx_b0) (by decide) rfl wl_RX9_138 mn_X9_requireBatch rfl (by decide) (Nat.le_of_ble_eq_true rfl) rfl dX9_isConflict_7 (fun v3 M4 _ => ?_)
  refine c_aload_n (i := 0) dX9_isConflict_10 rfl rfl ?_
  refine c_chk (fun h5 => ?_)
  refine gf_RX9_23 (blk_get0 KSx_b0) h5.1 dX9_isConflict_11 ?_
  refine c_iload_n (i := 1) dX9_isConflict_14 rfl rfl ?_
  refine c_iload_n (i := 2) dX9_isConflict_15 rfl rfl ?_
  refine c_callV (as := [.inl x1, .inl x2]) (rs := []) (ev_X4_areConflicting 0 (Nat.le_refl _) (ix (M4 0 5)) (blk_of h5.2) x1 x2 M4) rfl (Nat.lt_of_lt_of_le (by decide) hlev) mw_X4_areConflicting wi_X4_areConflicting wv_X4_areConflicting (blk_get0 (blk_of h5.2)) (by decide) rfl wl_RX9_308 mn_X4_areConflicting rfl (by decide) (Nat.le_of_ble_eq_true rfl) ⟨_, rfl⟩ dX9_isConflict_16 (fun v6 M7 _ => ?_)
  refine c_chk (fun h8 => ?_)
  exact c_xzret rfl h8 dX9_isConflict_19

abbrev mdX9_longestChain : MD := (yX9_longestChain, cX9_longestChain, 1, (some .int))
theorem mw_X9_longestChain : mdW mdX9_longestChain := ⟨wm_X9_longestChain, w0_RX9, by decide, by decide⟩
theorem mn_X9_longestChain : (parseMethodDescriptor yX9_longestChain.desc).map (fun d => d.parameters.length) = some 0 := by decide +kernel
def f_X9_longestChain (M : Mem) : Option (Int32 × Mem) := if ¬ M 0 5 < 0 ∧ blkD KSx (ix (M 0 5)) blk4 then bnd (f_X3_chainLength (ix (M 0 5)) 50 M) (fun v2 M3 => some (v2, M3)) else none
set_option maxRecDepth 20000 in
set_option maxHeartbeats 2000000 in
theorem ev_X9_longestChain (d : Nat) (hlev : 2 ≤ d) (M : Mem) : Ev KSx ST1 mdX9_longestChain d [.inr 0] M (f_X9_longestChain M) := by
  refine ev_of rfl (Nat.le_of_ble_eq_true rfl) ?_
  show CorM KSx ST1 RX9 cX9_longestChain 1 (some .int) d 0 [(0, .inr 0)] [] M (f_X9_longestChain M)
  unfold f_X9_longestChain
  refine c_aload_n (i := 0) dX9_longestChain_0 rfl rfl ?_
  refine gf_RX9_47 (blk_get0 KSx_b0) dX9_longestChain_1 ?_
  refine c_aload_n (i := 0) dX9_longestChain_4 rfl rfl ?_
  refine c_chk (fun h1 => ?_)
  refine gf_RX9_23 (blk_get0 KSx_b0) h1.1 dX9_longestChain_5 ?_
  refine c_aload_n (i := 0) dX9_longestChain_8 rfl rfl ?_
  refine gf_RX9_33 (blk_get0 KSx_b0) dX9_longestChain_9 ?_
  refine gf_RX9_114 (blk_get0 (blk_sub (C := blk5) (i := 33) KSx_b0 rfl)) dX9_longestChain_12 ?_
  refine c_callV (as := [.inr (ix (M 0 5)), .inr 50]) (rs := []) (ev_X3_chainLength 1 (Nat.le_refl _) (ix (M 0 5)) (blk_of h1.2) 50 (blk_sub (C := blk0) (i := 17) (blk_sub (C := blk5) (i := 33) KSx_b0 rfl) rfl) M) rfl (Nat.lt_of_lt_of_le (by decide) hlev) mw_X3_chainLength wi_X3_chainLength wv_X3_chainLength (blk_get0 (blk_sub (C := blk3) (i := 114) KSx_b0 rfl)) (by decide) rfl wl_RX9_312 mn_X3_chainLength rfl (by decide) (Nat.le_of_ble_eq_true rfl) ⟨_, rfl⟩ dX9_longestChain_15 (fun v2 M3 _ => ?_)
  exact c_iret rfl dX9_longestChain_18

abbrev mdX9_requirePlannable : MD := (yX9_requirePlannable, cX9_requirePlannable, 1, none)
theorem mw_X9_requirePlannable : mdW mdX9_requirePlannable := ⟨wm_X9_requirePlannable, w0_RX9, by decide, by decide⟩
theorem mn_X9_requirePlannable : (parseMethodDescriptor yX9_requirePlannable.desc).map (fun d => d.parameters.length) = some 0 := by decide +kernel
def f_X9_requirePlannable (M : Mem) : Option ((Int32 ⊕ String) × Mem) := if (M 50 1) ≤ 6 then some (rOk 0, M) else some (rEx "java/lang/IllegalStateException", M)
set_option maxRecDepth 20000 in
set_option maxHeartbeats 2000000 in
theorem ev_X9_requirePlannable (d : Nat) (hlev : 6 ≤ d) (M : Mem) : EvX KSx ST1 mdX9_requirePlannable d [.inr 0] M (f_X9_requirePlannable M) := by
  refine evX_of rfl (Nat.le_of_ble_eq_true rfl) ?_
  show CorX KSx ST1 RX9 cX9_requirePlannable 1 none d 0 [(0, .inr 0)] [] M (f_X9_requirePlannable M)
  unfold f_X9_requirePlannable
  refine c_aload_n (i := 0) dX9_requirePlannable_0 rfl rfl ?_
  refine gf_RX9_33 (blk_get0 KSx_b0) dX9_requirePlannable_1 ?_
  refine gf_RX9_114 (blk_get0 (blk_sub (C := blk5) (i := 33) KSx_b0 rfl)) dX9_requirePlannable_4 ?_
  refine gf_RX9_118 (blk_get0 (blk_sub (C := blk0) (i := 17) (blk_sub (C := blk5) (i := 33) KSx_b0 rfl) rfl)) dX9_requirePlannable_7 ?_
  refine c_bipush dX9_requirePlannable_10 (v := 6) rfl ?_
  refine c_icmp_le (tgt := 26) dX9_requirePlannable_12 rfl (fun h1 => ?_) (fun h1 => ?_)
  · exact c_xvret rfl dX9_requirePlannable_26
  · exact th_66w (List.mem_of_getElem? (i := 19) rfl) (Nat.le_trans (by decide) hlev) (Nat.le_of_ble_eq_true rfl) dX9_requirePlannable_15 dX9_requirePlannable_18 dX9_requirePlannable_19 dX9_requirePlannable_22 dX9_requirePlannable_25

abbrev mdX9_bestFinish : MD := (yX9_bestFinish, cX9_bestFinish, 1, (some .int))
theorem mw_X9_bestFinish : mdW mdX9_bestFinish := ⟨wm_X9_bestFinish, w0_RX9, by decide, by decide⟩
theorem mn_X9_bestFinish : (parseMethodDescriptor yX9_bestFinish.desc).map (fun d => d.parameters.length) = some 0 := by decide +kernel
def f_X9_bestFinish (M : Mem) : Option ((Int32 ⊕ String) × Mem) := bndX (f_X9_requirePlannable M) (fun _ M2 => if ¬ M2 0 5 < 0 ∧ blkD KSx (ix (M2 0 5)) blk4 then bnd (f_X3_plan (ix (M2 0 5)) 33 M2) (fun _ M5 => some (rOk (M5 114 1), M5)) else none)
set_option maxRecDepth 20000 in
set_option maxHeartbeats 2000000 in
theorem ev_X9_bestFinish (d : Nat) (hlev : 23 ≤ d) (M : Mem) : EvX KSx ST1 mdX9_bestFinish d [.inr 0] M (f_X9_bestFinish M) := by
  refine evX_of rfl (Nat.le_of_ble_eq_true rfl) ?_
  show CorX KSx ST1 RX9 cX9_bestFinish 1 (some .int) d 0 [(0, .inr 0)] [] M (f_X9_bestFinish M)
  unfold f_X9_bestFinish
  refine c_aload_n (i := 0) dX9_bestFinish_0 rfl rfl ?_
  refine c_callX (as := []) (rs := []) (ev_X9_requirePlannable 6 (Nat.le_refl _) M) rfl (Nat.lt_of_lt_of_le (by decide) hlev) mw_X9_requirePlannable wi_X9_requirePlannable wv_X9_requirePlannable (blk_get0 KSx_b0) (by decide) rfl wl_RX9_316 mn_X9_requirePlannable rfl (by decide) (Nat.le_of_ble_eq_true rfl) rfl dX9_bestFinish_1 (fun v1 M2 _ => ?_)
  refine c_aload_n (i := 0) dX9_bestFinish_4 rfl rfl ?_
  refine gf_RX9_47 (blk_get0 KSx_b0) dX9_bestFinish_5 ?_
  refine c_aload_n (i := 0) dX9_bestFinish_8 rfl rfl ?_
  refine c_chk (fun h3 => ?_)
  refine gf_RX9_23 (blk_get0 KSx_b0) h3.1 dX9_bestFinish_9 ?_
  refine c_aload_n (i := 0) dX9_bestFinish_12 rfl rfl ?_
  refine gf_RX9_33 (blk_get0 KSx_b0) dX9_bestFinish_13 ?_
  refine c_callVv (as := [.inr (ix (M2 0 5)), .inr 33]) (rs := []) (ev_X3_plan 22 (Nat.le_refl _) (ix (M2 0 5)) (blk_of h3.2) 33 (blk_sub (C := blk5) (i := 33) KSx_b0 rfl) M2) rfl (Nat.lt_of_lt_of_le (by decide) hlev) mw_X3_plan wi_X3_plan wv_X3_plan (blk_get0 (blk_sub (C := blk3) (i := 114) KSx_b0 rfl)) (by decide) rfl wl_RX9_319 mn_X3_plan rfl (by decide) (Nat.le_of_ble_eq_true rfl) rfl dX9_bestFinish_16 (fun v4 M5 _ => ?_)
  refine c_aload_n (i := 0) dX9_bestFinish_19 rfl rfl ?_
  refine gf_RX9_47 (blk_get0 KSx_b0) dX9_bestFinish_20 ?_
  refine gf_RX9_323 (blk_get0 (blk_sub (C := blk3) (i := 114) KSx_b0 rfl)) dX9_bestFinish_23 ?_
  exact c_xret rfl dX9_bestFinish_26

abbrev mdX9_bestOrder : MD := (yX9_bestOrder, cX9_bestOrder, 2, (some .int))
theorem mw_X9_bestOrder : mdW mdX9_bestOrder := ⟨wm_X9_bestOrder, w0_RX9, by decide, by decide⟩
theorem mn_X9_bestOrder : (parseMethodDescriptor yX9_bestOrder.desc).map (fun d => d.parameters.length) = some 1 := by decide +kernel
def j_X9_bestOrder_37 (M : Mem) : Option ((Int32 ⊕ String) × Mem) := some (rEx "java/lang/IndexOutOfBoundsException", M)
set_option maxRecDepth 20000 in
set_option maxHeartbeats 2000000 in
theorem jo_X9_bestOrder_37 (d : Nat) (hlev : 23 ≤ d) (M : Mem) : CorX KSx ST1 RX9 cX9_bestOrder 2 (some .int) d 37 [] [] M (j_X9_bestOrder_37 M) := by
  unfold j_X9_bestOrder_37
  exact th_77w (List.mem_of_getElem? (i := 20) rfl) (Nat.le_trans (by decide) hlev) (Nat.le_of_ble_eq_true rfl) dX9_bestOrder_37 dX9_bestOrder_40 dX9_bestOrder_41 dX9_bestOrder_44 dX9_bestOrder_47
def f_X9_bestOrder (x1 : Int32) (M : Mem) : Option ((Int32 ⊕ String) × Mem) := bndX (f_X9_requirePlannable M) (fun _ M2 => if ¬ M2 0 5 < 0 ∧ blkD KSx (ix (M2 0 5)) blk4 then bnd (f_X3_plan (ix (M2 0 5)) 33 M2) (fun _ M5 => if x1 < 0 then j_X9_bestOrder_37 M5 else if x1 < (M5 50 1) then if inb x1 6 then some (rOk (M5 115 (ix x1)), M5) else none else j_X9_bestOrder_37 M5) else none)
set_option maxRecDepth 20000 in
set_option maxHeartbeats 2000000 in
theorem ev_X9_bestOrder (d : Nat) (hlev : 23 ≤ d) (x1 : Int32) (M : Mem) : EvX KSx ST1 mdX9_bestOrder d [.inr 0, .inl x1] M (f_X9_bestOrder x1 M) := by
  refine evX_of rfl (Nat.le_of_ble_eq_true rfl) ?_
  show CorX KSx ST1 RX9 cX9_bestOrder 2 (some .int) d 0 [(0, .inr 0), (1, .inl x1)] [] M (f_X9_bestOrder x1 M)
  unfold f_X9_bestOrder
  refine c_aload_n (i := 0) dX9_bestOrder_0 rfl rfl ?_
  refine c_callX (as := []) (rs := []) (ev_X9_requirePlannable 6 (Nat.le_refl _) M) rfl (Nat.lt_of_lt_of_le (by decide) hlev) mw_X9_requirePlannable wi_X9_requirePlannable wv_X9_requirePlannable (blk_get0 KSx_b0) (by decide) rfl wl_RX9_316 mn_X9_requirePlannable rfl (by decide) (Nat.le_of_ble_eq_true rfl) rfl dX9_bestOrder_1 (fun v1 M2 _ => ?_)
  refine c_aload_n (i := 0) dX9_bestOrder_4 rfl rfl ?_
  refine gf_RX9_47 (blk_get0 KSx_b0) dX9_bestOrder_5 ?_
  refine c_aload_n (i := 0) dX9_bestOrder_8 rfl rfl ?_
  refine c_chk (fun h3 => ?_)
  refine gf_RX9_23 (blk_get0 KSx_b0) h3.1 dX9_bestOrder_9 ?_
  refine c_aload_n (i := 0) dX9_bestOrder_12 rfl rfl ?_
  refine gf_RX9_33 (blk_get0 KSx_b0) dX9_bestOrder_13 ?_
  refine c_callVv (as := [.inr (ix (M2 0 5)), .inr 33]) (rs := []) (ev_X3_plan 22 (Nat.le_refl _) (ix (M2 0 5)) (blk_of h3.2) 33 (blk_sub (C := blk5) (i := 33) KSx_b0 rfl) M2) rfl (Nat.lt_of_lt_of_le (by decide) hlev) mw_X3_plan wi_X3_plan wv_X3_plan (blk_get0 (blk_sub (C := blk3) (i := 114) KSx_b0 rfl)) (by decide) rfl wl_RX9_319 mn_X3_plan rfl (by decide) (Nat.le_of_ble_eq_true rfl) rfl dX9_bestOrder_16 (fun v4 M5 _ => ?_)
  refine c_iload_n (i := 1) dX9_bestOrder_19 rfl rfl ?_
  refine c_if_lt (tgt := 37) dX9_bestOrder_20 rfl (fun h6 => ?_) (fun h6 => ?_)
  · refine c_keep [] (ls2 := []) rfl ?_
    exact jo_X9_bestOrder_37 d hlev M5
  · refine c_iload_n (i := 1) dX9_bestOrder_23 rfl rfl ?_
    refine c_aload_n (i := 0) dX9_bestOrder_24 rfl rfl ?_
    refine gf_RX9_33 (blk_get0 KSx_b0) dX9_bestOrder_25 ?_
    refine gf_RX9_114 (blk_get0 (blk_sub (C := blk5) (i := 33) KSx_b0 rfl)) dX9_bestOrder_28 ?_
    refine gf_RX9_118 (blk_get0 (blk_sub (C := blk0) (i := 17) (blk_sub (C := blk5) (i := 33) KSx_b0 rfl) rfl)) dX9_bestOrder_31 ?_
    refine c_icmp_lt (tgt := 48) dX9_bestOrder_34 rfl (fun h7 => ?_) (fun h7 => ?_)
    · refine c_aload_n (i := 0) dX9_bestOrder_48 rfl rfl ?_
      refine gf_RX9_47 (blk_get0 KSx_b0) dX9_bestOrder_49 ?_
      refine gf_RX9_328 (blk_get0 (blk_sub (C := blk3) (i := 114) KSx_b0 rfl)) dX9_bestOrder_52 ?_
      refine c_iload_n (i := 1) dX9_bestOrder_55 rfl rfl ?_
      refine c_chk (fun h8 => ?_)
      refine c_iald (blk_get0 (blk_sub (C := [(20, 6)]) (i := 1) (blk_sub (C := blk3) (i := 114) KSx_b0 rfl) rfl)) h8 dX9_bestOrder_56 ?_
      exact c_xret rfl dX9_bestOrder_57
    · refine c_keep [] (ls2 := []) rfl ?_
      exact jo_X9_bestOrder_37 d hlev M5

abbrev mdX9_reorder : MD := (yX9_reorder, cX9_reorder, 2, (some .int))
theorem mw_X9_reorder : mdW mdX9_reorder := ⟨wm_X9_reorder, w0_RX9, by decide, by decide⟩
theorem mn_X9_reorder : (parseMethodDescriptor yX9_reorder.desc).map (fun d => d.parameters.length) = some 0 := by decide +kernel
def f_X9_reorder (M : Mem) : Option ((Int32 ⊕ String) × Mem) := bndX (f_X9_requirePlannable M) (fun _ M2 => if ¬ M2 0 5 < 0 ∧ blkD KSx (ix (M2 0 5)) blk4 then bnd (f_X3_plan (ix (M2 0 5)) 33 M2) (fun _ M5 => if ¬ M5 0 5 < 0 ∧ blkD KSx (ix (M5 0 5)) blk4 then bnd (f_X9_predictFinish (-1) (M5 (ix (M5 0 5) + 1) 5) M5) (fun v7 M8 => bnd (f_X3_applyTo 50 M8) (fun _ M10 => bnd (f_X3_forgetPlan M10) (fun _ M12 => some (rOk (v7 - (M12 114 1)), M12)))) else none) else none)
set_option maxRecDepth 20000 in
set_option maxHeartbeats 2000000 in
theorem ev_X9_reorder (d : Nat) (hlev : 23 ≤ d) (M : Mem) : EvX KSx ST1 mdX9_reorder d [.inr 0] M (f_X9_reorder M) := by
  refine evX_of rfl (Nat.le_of_ble_eq_true rfl) ?_
  show CorX KSx ST1 RX9 cX9_reorder 2 (some .int) d 0 [(0, .inr 0)] [] M (f_X9_reorder M)
  unfold f_X9_reorder
  refine c_aload_n (i := 0) dX9_reorder_0 rfl rfl ?_
  refine c_callX (as := []) (rs := []) (ev_X9_requirePlannable 6 (Nat.le_refl _) M) rfl (Nat.lt_of_lt_of_le (by decide) hlev) mw_X9_requirePlannable wi_X9_requirePlannable wv_X9_requirePlannable (blk_get0 KSx_b0) (by decide) rfl wl_RX9_316 mn_X9_requirePlannable rfl (by decide) (Nat.le_of_ble_eq_true rfl) rfl dX9_reorder_1 (fun v1 M2 _ => ?_)
  refine c_aload_n (i := 0) dX9_reorder_4 rfl rfl ?_
  refine gf_RX9_47 (blk_get0 KSx_b0) dX9_reorder_5 ?_
  refine c_aload_n (i := 0) dX9_reorder_8 rfl rfl ?_
  refine c_chk (fun h3 => ?_)
  refine gf_RX9_23 (blk_get0 KSx_b0) h3.1 dX9_reorder_9 ?_
  refine c_aload_n (i := 0) dX9_reorder_12 rfl rfl ?_
  refine gf_RX9_33 (blk_get0 KSx_b0) dX9_reorder_13 ?_
  refine c_callVv (as := [.inr (ix (M2 0 5)), .inr 33]) (rs := []) (ev_X3_plan 22 (Nat.le_refl _) (ix (M2 0 5)) (blk_of h3.2) 33 (blk_sub (C := blk5) (i := 33) KSx_b0 rfl) M2) rfl (Nat.lt_of_lt_of_le (by decide) hlev) mw_X3_plan wi_X3_plan wv_X3_plan (blk_get0 (blk_sub (C := blk3) (i := 114) KSx_b0 rfl)) (by decide) rfl wl_RX9_319 mn_X3_plan rfl (by decide) (Nat.le_of_ble_eq_true rfl) rfl dX9_reorder_16 (fun v4 M5 _ => ?_)
  refine c_aload_n (i := 0) dX9_reorder_19 rfl rfl ?_
  refine c_iconst dX9_reorder_20 (v := (-1)) rfl ?_
  refine c_aload_n (i := 0) dX9_reorder_21 rfl rfl ?_
  refine c_chk (fun h6 => ?_)
  refine gf_RX9_23 (blk_get0 KSx_b0) h6.1 dX9_reorder_22 ?_
  refine gf_RX9_192 (blk_get0 (blk_of h6.2)) dX9_reorder_25 ?_
  refine c_iconst dX9_reorder_28 (v := 5) rfl ?_
  refine c_iald (blk_get0 (blk_sub (C := [(20, 9)]) (i := 1) (blk_of h6.2) rfl)) (by decide) dX9_reorder_29 ?_
  refine c_callV (as := [.inl (-1), .inl (M5 (ix (M5 0 5) + 1) 5)]) (rs := []) (ev_X9_predictFinish 4 (Nat.le_refl _) (-1) (M5 (ix (M5 0 5) + 1) 5) M5) rfl (Nat.lt_of_lt_of_le (by decide) hlev) mw_X9_predictFinish wi_X9_predictFinish wv_X9_predictFinish (blk_get0 KSx_b0) (by decide) rfl wl_RX9_289 mn_X9_predictFinish rfl (by decide) (Nat.le_of_ble_eq_true rfl) ⟨_, rfl⟩ dX9_reorder_30 (fun v7 M8 _ => ?_)
  refine c_istore_n (i := 1) dX9_reorder_33 rfl (by decide) (ls2 := [(0, .inr 0), (1, .inl v7)]) rfl ?_
  refine c_aload_n (i := 0) dX9_reorder_34 rfl rfl ?_
  refine gf_RX9_47 (blk_get0 KSx_b0) dX9_reorder_35 ?_
  refine c_aload_n (i := 0) dX9_reorder_38 rfl rfl ?_
  refine gf_RX9_33 (blk_get0 KSx_b0) dX9_reorder_39 ?_
  refine gf_RX9_114 (blk_get0 (blk_sub (C := blk5) (i := 33) KSx_b0 rfl)) dX9_reorder_42 ?_
  refine c_callVv (as := [.inr 50]) (rs := []) (ev_X3_applyTo 1 (Nat.le_refl _) 50 (blk_sub (C := blk0) (i := 17) (blk_sub (C := blk5) (i := 33) KSx_b0 rfl) rfl) M8) rfl (Nat.lt_of_lt_of_le (by decide) hlev) mw_X3_applyTo wi_X3_applyTo wv_X3_applyTo (blk_get0 (blk_sub (C := blk3) (i := 114) KSx_b0 rfl)) (by decide) rfl wl_RX9_331 mn_X3_applyTo rfl (by decide) (Nat.le_of_ble_eq_true rfl) rfl dX9_reorder_45 (fun v9 M10 _ => ?_)
  refine c_aload_n (i := 0) dX9_reorder_48 rfl rfl ?_
  refine gf_RX9_47 (blk_get0 KSx_b0) dX9_reorder_49 ?_
  refine c_callVv (as := []) (rs := []) (ev_X3_forgetPlan 0 (Nat.le_refl _) M10) rfl (Nat.lt_of_lt_of_le (by decide) hlev) mw_X3_forgetPlan wi_X3_forgetPlan wv_X3_forgetPlan (blk_get0 (blk_sub (C := blk3) (i := 114) KSx_b0 rfl)) (by decide) rfl wl_RX9_96 mn_X3_forgetPlan rfl (by decide) (Nat.le_of_ble_eq_true rfl) rfl dX9_reorder_52 (fun v11 M12 _ => ?_)
  refine c_iload_n (i := 1) dX9_reorder_55 rfl rfl ?_
  refine c_aload_n (i := 0) dX9_reorder_56 rfl rfl ?_
  refine gf_RX9_47 (blk_get0 KSx_b0) dX9_reorder_57 ?_
  refine gf_RX9_323 (blk_get0 (blk_sub (C := blk3) (i := 114) KSx_b0 rfl)) dX9_reorder_60 ?_
  refine c_isub dX9_reorder_63 ?_
  exact c_xret rfl dX9_reorder_64

abbrev mdX9_budgetFor : MD := (yX9_budgetFor, cX9_budgetFor, 3, (some .int))
theorem mw_X9_budgetFor : mdW mdX9_budgetFor := ⟨wm_X9_budgetFor, w0_RX9, by decide, by decide⟩
theorem mn_X9_budgetFor : (parseMethodDescriptor yX9_budgetFor.desc).map (fun d => d.parameters.length) = some 1 := by decide +kernel
def l_X9_budgetFor_2 (x1 : Int32) (K2 : Int32 × Mem → Option ((Int32 ⊕ String) × Mem)) : Int32 × Mem → Option ((Int32 ⊕ String) × Mem) := fun s => match s with
  | (x2, M) => if 8 < x2 then some (rEx "java/util/NoSuchElementException", M) else bnd (f_X9_predictFinish (-1) x2 M) (fun v2 M3 => if x1 < v2 then K2 (x2 + 1, M3) else some (rOk (x2), M3))
set_option maxRecDepth 20000 in
set_option maxHeartbeats 2000000 in
theorem lo_X9_budgetFor_2 (d : Nat) (hlev : 6 ≤ d) (x1 : Int32) (s : Int32 × Mem) : CorX KSx ST1 RX9 cX9_budgetFor 3 (some .int) d 2 [(0, .inr 0), (1, .inl x1), (2, .inl s.1)] [] s.2 (loopC (l_X9_budgetFor_2 x1) fuelL s) := by
  refine c_loop (L := fun s : Int32 × Mem => [(0, .inr 0), (1, .inl x1), (2, .inl s.1)]) (Mf := fun s : Int32 × Mem => s.2) (fun K2 hK2 s => ?_) fuelL s
  obtain ⟨x2, M⟩ := s
  show CorX KSx ST1 RX9 cX9_budgetFor 3 (some .int) d 2 [(0, .inr 0), (1, .inl x1), (2, .inl x2)] [] M (l_X9_budgetFor_2 x1 K2 (x2, M))
  unfold l_X9_budgetFor_2
  refine c_iload_n (i := 2) dX9_budgetFor_2 rfl rfl ?_
  refine c_bipush dX9_budgetFor_3 (v := 8) rfl ?_
  refine c_icmp_gt (tgt := 26) dX9_budgetFor_5 rfl (fun h1 => ?_) (fun h1 => ?_)
  · exact th_nsw (List.mem_of_getElem? (i := 21) rfl) (Nat.le_trans (by decide) hlev) (Nat.le_of_ble_eq_true rfl) dX9_budgetFor_26 dX9_budgetFor_29 dX9_budgetFor_30 dX9_budgetFor_33 dX9_budgetFor_36
  · refine c_aload_n (i := 0) dX9_budgetFor_8 rfl rfl ?_
    refine c_iconst dX9_budgetFor_9 (v := (-1)) rfl ?_
    refine c_iload_n (i := 2) dX9_budgetFor_10 rfl rfl ?_
    refine c_callV (as := [.inl (-1), .inl x2]) (rs := []) (ev_X9_predictFinish 4 (Nat.le_refl _) (-1) x2 M) rfl (Nat.lt_of_lt_of_le (by decide) hlev) mw_X9_predictFinish wi_X9_predictFinish wv_X9_predictFinish (blk_get0 KSx_b0) (by decide) rfl wl_RX9_289 mn_X9_predictFinish rfl (by decide) (Nat.le_of_ble_eq_true rfl) ⟨_, rfl⟩ dX9_budgetFor_11 (fun v2 M3 _ => ?_)
    refine c_iload_n (i := 1) dX9_budgetFor_14 rfl rfl ?_
    refine c_icmp_gt (tgt := 20) dX9_budgetFor_15 rfl (fun h4 => ?_) (fun h4 => ?_)
    · refine c_iinc dX9_budgetFor_20 rfl (v := 1) rfl (by decide) (ls2 := [(0, .inr 0), (1, .inl x1), (2, .inl (x2 + 1))]) rfl ?_
      refine c_goto (tgt := 2) dX9_budgetFor_23 rfl ?_
      refine c_keep [0, 1, 2] (ls2 := [(0, .inr 0), (1, .inl x1), (2, .inl (x2 + 1))]) rfl ?_
      exact hK2 (x2 + 1, M3)
    · refine c_iload_n (i := 2) dX9_budgetFor_18 rfl rfl ?_
      exact c_xret rfl dX9_budgetFor_19
def f_X9_budgetFor (x1 : Int32) (M : Mem) : Option ((Int32 ⊕ String) × Mem) := loopC (l_X9_budgetFor_2 x1) fuelL (1, M)
set_option maxRecDepth 20000 in
set_option maxHeartbeats 2000000 in
theorem ev_X9_budgetFor (d : Nat) (hlev : 6 ≤ d) (x1 : Int32) (M : Mem) : EvX KSx ST1 mdX9_budgetFor d [.inr 0, .inl x1] M (f_X9_budgetFor x1 M) := by
  refine evX_of rfl (Nat.le_of_ble_eq_true rfl) ?_
  show CorX KSx ST1 RX9 cX9_budgetFor 3 (some .int) d 0 [(0, .inr 0), (1, .inl x1)] [] M (f_X9_budgetFor x1 M)
  unfold f_X9_budgetFor
  refine c_iconst dX9_budgetFor_0 (v := 1) rfl ?_
  refine c_istore_n (i := 2) dX9_budgetFor_1 rfl (by decide) (ls2 := [(0, .inr 0), (1, .inl x1), (2, .inl 1)]) rfl ?_
  refine c_keep [0, 1, 2] (ls2 := [(0, .inr 0), (1, .inl x1), (2, .inl 1)]) rfl ?_
  exact lo_X9_budgetFor_2 d hlev x1 (1, M)

abbrev mdX9_requireSlot : MD := (yX9_requireSlot, cX9_requireSlot, 2, none)
theorem mw_X9_requireSlot : mdW mdX9_requireSlot := ⟨wm_X9_requireSlot, w0_RX9, by decide, by decide⟩
theorem mn_X9_requireSlot : (parseMethodDescriptor yX9_requireSlot.desc).map (fun d => d.parameters.length) = some 1 := by decide +kernel
def j_X9_requireSlot_9 (M : Mem) : Option ((Int32 ⊕ String) × Mem) := some (rEx "java/lang/IndexOutOfBoundsException", M)
set_option maxRecDepth 20000 in
set_option maxHeartbeats 2000000 in
theorem jo_X9_requireSlot_9 (d : Nat) (hlev : 6 ≤ d) (M : Mem) : CorX KSx ST1 RX9 cX9_requireSlot 2 none d 9 [] [] M (j_X9_requireSlot_9 M) := by
  unfold j_X9_requireSlot_9
  exact th_77w (List.mem_of_getElem? (i := 22) rfl) (Nat.le_trans (by decide) hlev) (Nat.le_of_ble_eq_true rfl) dX9_requireSlot_9 dX9_requireSlot_12 dX9_requireSlot_13 dX9_requireSlot_16 dX9_requireSlot_19
def f_X9_requireSlot (x1 : Int32) (M : Mem) : Option ((Int32 ⊕ String) × Mem) := if x1 < 0 then j_X9_requireSlot_9 M else if x1 < 2 then some (rOk 0, M) else j_X9_requireSlot_9 M
set_option maxRecDepth 20000 in
set_option maxHeartbeats 2000000 in
theorem ev_X9_requireSlot (d : Nat) (hlev : 6 ≤ d) (x1 : Int32) (M : Mem) : EvX KSx ST1 mdX9_requireSlot d [.inr 0, .inl x1] M (f_X9_requireSlot x1 M) := by
  refine evX_of rfl (Nat.le_of_ble_eq_true rfl) ?_
  show CorX KSx ST1 RX9 cX9_requireSlot 2 none d 0 [(0, .inr 0), (1, .inl x1)] [] M (f_X9_requireSlot x1 M)
  unfold f_X9_requireSlot
  refine c_iload_n (i := 1) dX9_requireSlot_0 rfl rfl ?_
  refine c_if_lt (tgt := 9) dX9_requireSlot_1 rfl (fun h1 => ?_) (fun h1 => ?_)
  · refine c_keep [] (ls2 := []) rfl ?_
    exact jo_X9_requireSlot_9 d hlev M
  · refine c_iload_n (i := 1) dX9_requireSlot_4 rfl rfl ?_
    refine c_iconst dX9_requireSlot_5 (v := 2) rfl ?_
    refine c_icmp_lt (tgt := 20) dX9_requireSlot_6 rfl (fun h2 => ?_) (fun h2 => ?_)
    · exact c_xvret rfl dX9_requireSlot_20
    · refine c_keep [] (ls2 := []) rfl ?_
      exact jo_X9_requireSlot_9 d hlev M

abbrev mdX9_save : MD := (yX9_save, cX9_save, 2, none)
theorem mw_X9_save : mdW mdX9_save := ⟨wm_X9_save, w0_RX9, by decide, by decide⟩
theorem mn_X9_save : (parseMethodDescriptor yX9_save.desc).map (fun d => d.parameters.length) = some 1 := by decide +kernel
def f_X9_save (x1 : Int32) (M : Mem) : Option ((Int32 ⊕ String) × Mem) := bndX (f_X9_requireSlot x1 M) (fun _ M2 => if inb x1 2 then bnd (f_X5_copyFrom (73 + (1 + 20 * ix x1)) 33 M2) (fun _ M5 => wrt (up M5 0 10 ((M5 0 10) ||| (1 <<< (x1 &&& 31)))) (fun M6 => some (rOk 0, M6))) else none)
set_option maxRecDepth 20000 in
set_option maxHeartbeats 2000000 in
theorem ev_X9_save (d : Nat) (hlev : 7 ≤ d) (x1 : Int32) (M : Mem) : EvX KSx ST1 mdX9_save d [.inr 0, .inl x1] M (f_X9_save x1 M) := by
  refine evX_of rfl (Nat.le_of_ble_eq_true rfl) ?_
  show CorX KSx ST1 RX9 cX9_save 2 none d 0 [(0, .inr 0), (1, .inl x1)] [] M (f_X9_save x1 M)
  unfold f_X9_save
  refine c_aload_n (i := 0) dX9_save_0 rfl rfl ?_
  refine c_iload_n (i := 1) dX9_save_1 rfl rfl ?_
  refine c_callX (as := [.inl x1]) (rs := []) (ev_X9_requireSlot 6 (Nat.le_refl _) x1 M) rfl (Nat.lt_of_lt_of_le (by decide) hlev) mw_X9_requireSlot wi_X9_requireSlot wv_X9_requireSlot (blk_get0 KSx_b0) (by decide) rfl wl_RX9_340 mn_X9_requireSlot rfl (by decide) (Nat.le_of_ble_eq_true rfl) rfl dX9_save_2 (fun v1 M2 _ => ?_)
  refine c_aload_n (i := 0) dX9_save_5 rfl rfl ?_
  refine gf_RX9_40 (blk_get0 KSx_b0) dX9_save_6 ?_
  refine c_iload_n (i := 1) dX9_save_9 rfl rfl ?_
  refine c_chk (fun h3 => ?_)
  refine c_aald22 (blk_get0 (blk_sub (C := [(22, 2)]) (i := 73) KSx_b0 rfl)) h3 dX9_save_10 ?_
  refine c_aload_n (i := 0) dX9_save_11 rfl rfl ?_
  refine gf_RX9_33 (blk_get0 KSx_b0) dX9_save_12 ?_
  refine c_callVv (as := [.inr 33]) (rs := []) (ev_X5_copyFrom 3 (Nat.le_refl _) (73 + (1 + 20 * ix x1)) (blk22_at h3) 33 (blk_sub (C := blk5) (i := 33) KSx_b0 rfl) M2) rfl (Nat.lt_of_lt_of_le (by decide) hlev) mw_X5_copyFrom wi_X5_copyFrom wv_X5_copyFrom (blk_get0 (blk22_at h3)) (by decide) rfl wl_RX9_343 mn_X5_copyFrom rfl (by decide) (Nat.le_of_ble_eq_true rfl) rfl dX9_save_15 (fun v4 M5 _ => ?_)
  refine c_aload_n (i := 0) dX9_save_18 rfl rfl ?_
  refine c_dup dX9_save_19 ?_
  refine gf_RX9_99 (blk_get0 KSx_b0) dX9_save_20 ?_
  refine c_iconst dX9_save_23 (v := 1) rfl ?_
  refine c_iload_n (i := 1) dX9_save_24 rfl rfl ?_
  refine c_ishl dX9_save_25 ?_
  refine c_ior dX9_save_26 ?_
  refine pf_RX9_99 (blk_get0 KSx_b0) dX9_save_27 ?_
  refine c_wrt (fun M6 => ?_)
  exact c_xvret rfl dX9_save_30

abbrev mdX9_restore : MD := (yX9_restore, cX9_restore, 2, none)
theorem mw_X9_restore : mdW mdX9_restore := ⟨wm_X9_restore, w0_RX9, by decide, by decide⟩
theorem mn_X9_restore : (parseMethodDescriptor yX9_restore.desc).map (fun d => d.parameters.length) = some 1 := by decide +kernel
def f_X9_restore (x1 : Int32) (M : Mem) : Option ((Int32 ⊕ String) × Mem) := bndX (f_X9_requireSlot x1 M) (fun _ M2 => if ¬ (((M2 0 10) >>> (x1 &&& 31)) &&& 1) = 0 then if inb x1 2 then bnd (f_X5_copyFrom 33 (73 + (1 + 20 * ix x1)) M2) (fun _ M6 => bnd (f_X3_forgetPlan M6) (fun _ M8 => some (rOk 0, M8))) else none else some (rEx "java/util/NoSuchElementException", M2))
set_option maxRecDepth 20000 in
set_option maxHeartbeats 2000000 in
theorem ev_X9_restore (d : Nat) (hlev : 7 ≤ d) (x1 : Int32) (M : Mem) : EvX KSx ST1 mdX9_restore d [.inr 0, .inl x1] M (f_X9_restore x1 M) := by
  refine evX_of rfl (Nat.le_of_ble_eq_true rfl) ?_
  show CorX KSx ST1 RX9 cX9_restore 2 none d 0 [(0, .inr 0), (1, .inl x1)] [] M (f_X9_restore x1 M)
  unfold f_X9_restore
  refine c_aload_n (i := 0) dX9_restore_0 rfl rfl ?_
  refine c_iload_n (i := 1) dX9_restore_1 rfl rfl ?_
  refine c_callX (as := [.inl x1]) (rs := []) (ev_X9_requireSlot 6 (Nat.le_refl _) x1 M) rfl (Nat.lt_of_lt_of_le (by decide) hlev) mw_X9_requireSlot wi_X9_requireSlot wv_X9_requireSlot (blk_get0 KSx_b0) (by decide) rfl wl_RX9_340 mn_X9_requireSlot rfl (by decide) (Nat.le_of_ble_eq_true rfl) rfl dX9_restore_2 (fun v1 M2 _ => ?_)
  refine c_aload_n (i := 0) dX9_restore_5 rfl rfl ?_
  refine gf_RX9_99 (blk_get0 KSx_b0) dX9_restore_6 ?_
  refine c_iload_n (i := 1) dX9_restore_9 rfl rfl ?_
  refine c_ishr dX9_restore_10 ?_
  refine c_iconst dX9_restore_11 (v := 1) rfl ?_
  refine c_iand dX9_restore_12 ?_
  refine c_if_ne (tgt := 27) dX9_restore_13 rfl (fun h3 => ?_) (fun h3 => ?_)
  · refine c_aload_n (i := 0) dX9_restore_27 rfl rfl ?_
    refine gf_RX9_33 (blk_get0 KSx_b0) dX9_restore_28 ?_
    refine c_aload_n (i := 0) dX9_restore_31 rfl rfl ?_
    refine gf_RX9_40 (blk_get0 KSx_b0) dX9_restore_32 ?_
    refine c_iload_n (i := 1) dX9_restore_35 rfl rfl ?_
    refine c_chk (fun h4 => ?_)
    refine c_aald22 (blk_get0 (blk_sub (C := [(22, 2)]) (i := 73) KSx_b0 rfl)) h4 dX9_restore_36 ?_
    refine c_callVv (as := [.inr (73 + (1 + 20 * ix x1))]) (rs := []) (ev_X5_copyFrom 3 (Nat.le_refl _) 33 (blk_sub (C := blk5) (i := 33) KSx_b0 rfl) (73 + (1 + 20 * ix x1)) (blk22_at h4) M2) rfl (Nat.lt_of_lt_of_le (by decide) hlev) mw_X5_copyFrom wi_X5_copyFrom wv_X5_copyFrom (blk_get0 (blk_sub (C := blk5) (i := 33) KSx_b0 rfl)) (by decide) rfl wl_RX9_343 mn_X5_copyFrom rfl (by decide) (Nat.le_of_ble_eq_true rfl) rfl dX9_restore_37 (fun v5 M6 _ => ?_)
    refine c_aload_n (i := 0) dX9_restore_40 rfl rfl ?_
    refine gf_RX9_47 (blk_get0 KSx_b0) dX9_restore_41 ?_
    refine c_callVv (as := []) (rs := []) (ev_X3_forgetPlan 0 (Nat.le_refl _) M6) rfl (Nat.lt_of_lt_of_le (by decide) hlev) mw_X3_forgetPlan wi_X3_forgetPlan wv_X3_forgetPlan (blk_get0 (blk_sub (C := blk3) (i := 114) KSx_b0 rfl)) (by decide) rfl wl_RX9_96 mn_X3_forgetPlan rfl (by decide) (Nat.le_of_ble_eq_true rfl) rfl dX9_restore_44 (fun v7 M8 _ => ?_)
    exact c_xvret rfl dX9_restore_47
  · exact th_nsw (List.mem_of_getElem? (i := 23) rfl) (Nat.le_trans (by decide) hlev) (Nat.le_of_ble_eq_true rfl) dX9_restore_16 dX9_restore_19 dX9_restore_20 dX9_restore_23 dX9_restore_26

abbrev mdX10_thrown : MD := (yX10_thrown, cX10_thrown, 1, (some .int))
theorem mw_X10_thrown : mdW mdX10_thrown := ⟨wm_X10_thrown, w0_RX10, by decide, by decide⟩
theorem mn_X10_thrown : (parseMethodDescriptor yX10_thrown.desc).map (fun d => d.parameters.length) = some 0 := by decide +kernel
def p_X10_thrown (M : Mem) : Int32 := M 0 0
set_option maxRecDepth 20000 in
set_option maxHeartbeats 2000000 in
theorem ev_X10_thrown (d : Nat) (hlev : 0 ≤ d) (M : Mem) : Ev KSm ST1 mdX10_thrown d [.inr 0] M (some (p_X10_thrown M, M)) := by
  refine ev_of rfl (Nat.le_of_ble_eq_true rfl) ?_
  show CorM KSm ST1 RX10 cX10_thrown 1 (some .int) d 0 [(0, .inr 0)] [] M (some (p_X10_thrown M, M))
  unfold p_X10_thrown
  refine c_aload_n (i := 0) dX10_thrown_0 rfl rfl ?_
  refine gf_RX10_60 (blk_get0 KSm_b0) dX10_thrown_1 ?_
  exact c_iret rfl dX10_thrown_4

abbrev mdX10_isIn : MD := (yX10_isIn, cX10_isIn, 3, (some .boolean))
theorem mw_X10_isIn : mdW mdX10_isIn := ⟨wm_X10_isIn, w0_RX10, by decide, by decide⟩
theorem mn_X10_isIn : (parseMethodDescriptor yX10_isIn.desc).map (fun d => d.parameters.length) = some 3 := by decide +kernel
def p_X10_isIn (x0 : Int32) (x1 : Int32) (x2 : Int32) : Int32 := (if x0 < x1 then (0 : Int32) else if x2 < x0 then (0 : Int32) else (1 : Int32))
theorem pz_X10_isIn (x0 : Int32) (x1 : Int32) (x2 : Int32) : isB (p_X10_isIn x0 x1 x2) := by
  unfold p_X10_isIn
  repeat' (first | apply isB_ite | exact Or.inl rfl | exact Or.inr rfl | apply_assumption)
set_option maxRecDepth 20000 in
set_option maxHeartbeats 2000000 in
theorem ev_X10_isIn (d : Nat) (hlev : 0 ≤ d) (x0 : Int32) (x1 : Int32) (x2 : Int32) (M : Mem) : Ev KSm ST1 mdX10_isIn d [.inl x0, .inl x1, .inl x2] M (some (p_X10_isIn x0 x1 x2, M)) := by
  refine ev_of rfl (Nat.le_of_ble_eq_true rfl) ?_
  show CorM KSm ST1 RX10 cX10_isIn 3 (some .boolean) d 0 [(0, .inl x0), (1, .inl x1), (2, .inl x2)] [] M (some (p_X10_isIn x0 x1 x2, M))
  unfold p_X10_isIn
  refine c_iload_n (i := 0) dX10_isIn_0 rfl rfl ?_
  refine c_iload_n (i := 1) dX10_isIn_1 rfl rfl ?_
  have J_z1 : ∀ z1 : Int32, isB z1 → CorM KSm ST1 RX10 cX10_isIn 3 (some .boolean) d 15 [] [.inl z1] M (some (z1, M)) := by
    intro z1 h_z1
    exact c_zret rfl h_z1 dX10_isIn_15
  refine c_val (b := x0 < x1) (v1 := (0 : Int32)) (v2 := if x2 < x0 then (0 : Int32) else (1 : Int32)) (F := fun z1 => some (z1, M)) (fun h2 => ?_) (fun h2 => ?_)
  · refine c_T h2 (c_icmp_lt (tgt := 14) dX10_isIn_2 rfl (fun _ => ?_) (fun q => absurd h2 q))
    refine c_iconst dX10_isIn_14 (v := 0) rfl ?_
    refine c_keep [] (ls2 := []) rfl ?_
    exact J_z1 0 (Or.inl rfl)
  · refine c_Fl h2 (c_icmp_lt (tgt := 14) dX10_isIn_2 rfl (fun q => absurd q h2) (fun _ => ?_))
    refine c_iload_n (i := 0) dX10_isIn_5 rfl rfl ?_
    refine c_iload_n (i := 2) dX10_isIn_6 rfl rfl ?_
    refine c_val (b := x2 < x0) (v1 := (0 : Int32)) (v2 := (1 : Int32)) (F := fun z1 => some (z1, M)) (fun h3 => ?_) (fun h3 => ?_)
    · refine c_T h3 (c_icmp_gt (tgt := 14) dX10_isIn_7 rfl (fun _ => ?_) (fun q => absurd h3 q))
      refine c_iconst dX10_isIn_14 (v := 0) rfl ?_
      refine c_keep [] (ls2 := []) rfl ?_
      exact J_z1 0 (Or.inl rfl)
    · refine c_Fl h3 (c_icmp_gt (tgt := 14) dX10_isIn_7 rfl (fun q => absurd q h3) (fun _ => ?_))
      refine c_iconst dX10_isIn_10 (v := 1) rfl ?_
      refine c_goto (tgt := 15) dX10_isIn_11 rfl ?_
      refine c_keep [] (ls2 := []) rfl ?_
      exact J_z1 1 (Or.inr rfl)

abbrev mdX10_may : MD := (yX10_may, cX10_may, 3, (some .boolean))
theorem mw_X10_may : mdW mdX10_may := ⟨wm_X10_may, w0_RX10, by decide, by decide⟩
theorem mn_X10_may : (parseMethodDescriptor yX10_may.desc).map (fun d => d.parameters.length) = some 2 := by decide +kernel
def j_X10_may_16 (M : Mem) : Option (Int32 × Mem) := some ((if ¬ (M 0 0) = 0 then (0 : Int32) else (1 : Int32)), M)
set_option maxRecDepth 20000 in
set_option maxHeartbeats 2000000 in
theorem jo_X10_may_16 (d : Nat) (hlev : 0 ≤ d) (M : Mem) : CorM KSm ST1 RX10 cX10_may 3 (some .boolean) d 16 [(0, .inr 0)] [] M (j_X10_may_16 M) := by
  unfold j_X10_may_16
  refine c_aload_n (i := 0) dX10_may_16 rfl rfl ?_
  refine gf_RX10_60 (blk_get0 KSm_b0) dX10_may_17 ?_
  have J_z2 : ∀ z2 : Int32, isB z2 → CorM KSm ST1 RX10 cX10_may 3 (some .boolean) d 28 [] [.inl z2] M (some (z2, M)) := by
    intro z2 h_z2
    exact c_zret rfl h_z2 dX10_may_28
  refine c_val (b := ¬ (M 0 0) = 0) (v1 := (0 : Int32)) (v2 := (1 : Int32)) (F := fun z2 => some (z2, M)) (fun h3 => ?_) (fun h3 => ?_)
  · refine c_T h3 (c_if_ne (tgt := 27) dX10_may_20 rfl (fun _ => ?_) (fun q => absurd h3 q))
    refine c_iconst dX10_may_27 (v := 0) rfl ?_
    refine c_keep [] (ls2 := []) rfl ?_
    exact J_z2 0 (Or.inl rfl)
  · refine c_Fl h3 (c_if_ne (tgt := 27) dX10_may_20 rfl (fun q => absurd q h3) (fun _ => ?_))
    refine c_iconst dX10_may_23 (v := 1) rfl ?_
    refine c_goto (tgt := 28) dX10_may_24 rfl ?_
    refine c_keep [] (ls2 := []) rfl ?_
    exact J_z2 1 (Or.inr rfl)
def f_X10_may (x1 : Int32) (x2 : Int32) (M : Mem) : Option (Int32 × Mem) := if ¬ x1 = 0 then j_X10_may_16 M else if ¬ (M 0 0) = 0 then j_X10_may_16 M else wrt (up M 0 0 x2) (fun M5 => j_X10_may_16 M5)
set_option maxRecDepth 20000 in
set_option maxHeartbeats 2000000 in
theorem ev_X10_may (d : Nat) (hlev : 0 ≤ d) (x1 : Int32) (x2 : Int32) (M : Mem) : Ev KSm ST1 mdX10_may d [.inr 0, .inl x1, .inl x2] M (f_X10_may x1 x2 M) := by
  refine ev_of rfl (Nat.le_of_ble_eq_true rfl) ?_
  show CorM KSm ST1 RX10 cX10_may 3 (some .boolean) d 0 [(0, .inr 0), (1, .inl x1), (2, .inl x2)] [] M (f_X10_may x1 x2 M)
  unfold f_X10_may
  refine c_iload_n (i := 1) dX10_may_0 rfl rfl ?_
  refine c_if_ne (tgt := 16) dX10_may_1 rfl (fun h1 => ?_) (fun h1 => ?_)
  · refine c_keep [0] (ls2 := [(0, .inr 0)]) rfl ?_
    exact jo_X10_may_16 d hlev M
  · refine c_aload_n (i := 0) dX10_may_4 rfl rfl ?_
    refine gf_RX10_60 (blk_get0 KSm_b0) dX10_may_5 ?_
    refine c_if_ne (tgt := 16) dX10_may_8 rfl (fun h4 => ?_) (fun h4 => ?_)
    · refine c_keep [0] (ls2 := [(0, .inr 0)]) rfl ?_
      exact jo_X10_may_16 d hlev M
    · refine c_aload_n (i := 0) dX10_may_11 rfl rfl ?_
      refine c_iload_n (i := 2) dX10_may_12 rfl rfl ?_
      refine pf_RX10_60 (blk_get0 KSm_b0) dX10_may_13 ?_
      refine c_wrt (fun M5 => ?_)
      refine c_keep [0] (ls2 := [(0, .inr 0)]) rfl ?_
      exact jo_X10_may_16 d hlev M5

abbrev mdX10_has : MD := (yX10_has, cX10_has, 2, (some .boolean))
theorem mw_X10_has : mdW mdX10_has := ⟨wm_X10_has, w0_RX10, by decide, by decide⟩
theorem mn_X10_has : (parseMethodDescriptor yX10_has.desc).map (fun d => d.parameters.length) = some 2 := by decide +kernel
def p_X10_has (x0 : Int32) (x1 : Int32) : Int32 := (if ¬ ((x0 >>> (x1 &&& 31)) &&& 1) = 1 then (0 : Int32) else (1 : Int32))
theorem pz_X10_has (x0 : Int32) (x1 : Int32) : isB (p_X10_has x0 x1) := by
  unfold p_X10_has
  repeat' (first | apply isB_ite | exact Or.inl rfl | exact Or.inr rfl | apply_assumption)
set_option maxRecDepth 20000 in
set_option maxHeartbeats 2000000 in
theorem ev_X10_has (d : Nat) (hlev : 0 ≤ d) (x0 : Int32) (x1 : Int32) (M : Mem) : Ev KSm ST1 mdX10_has d [.inl x0, .inl x1] M (some (p_X10_has x0 x1, M)) := by
  refine ev_of rfl (Nat.le_of_ble_eq_true rfl) ?_
  show CorM KSm ST1 RX10 cX10_has 2 (some .boolean) d 0 [(0, .inl x0), (1, .inl x1)] [] M (some (p_X10_has x0 x1, M))
  unfold p_X10_has
  refine c_iload_n (i := 0) dX10_has_0 rfl rfl ?_
  refine c_iload_n (i := 1) dX10_has_1 rfl rfl ?_
  refine c_ishr dX10_has_2 ?_
  refine c_iconst dX10_has_3 (v := 1) rfl ?_
  refine c_iand dX10_has_4 ?_
  refine c_iconst dX10_has_5 (v := 1) rfl ?_
  have J_z1 : ∀ z1 : Int32, isB z1 → CorM KSm ST1 RX10 cX10_has 2 (some .boolean) d 14 [] [.inl z1] M (some (z1, M)) := by
    intro z1 h_z1
    exact c_zret rfl h_z1 dX10_has_14
  refine c_val (b := ¬ ((x0 >>> (x1 &&& 31)) &&& 1) = 1) (v1 := (0 : Int32)) (v2 := (1 : Int32)) (F := fun z1 => some (z1, M)) (fun h2 => ?_) (fun h2 => ?_)
  · refine c_T h2 (c_icmp_ne (tgt := 13) dX10_has_6 rfl (fun _ => ?_) (fun q => absurd h2 q))
    refine c_iconst dX10_has_13 (v := 0) rfl ?_
    refine c_keep [] (ls2 := []) rfl ?_
    exact J_z1 0 (Or.inl rfl)
  · refine c_Fl h2 (c_icmp_ne (tgt := 13) dX10_has_6 rfl (fun q => absurd q h2) (fun _ => ?_))
    refine c_iconst dX10_has_9 (v := 1) rfl ?_
    refine c_goto (tgt := 14) dX10_has_10 rfl ?_
    refine c_keep [] (ls2 := []) rfl ?_
    exact J_z1 1 (Or.inr rfl)

abbrev mdX10_plain : MD := (yX10_plain, cX10_plain, 2, none)
theorem mw_X10_plain : mdW mdX10_plain := ⟨wm_X10_plain, w0_RX10, by decide, by decide⟩
theorem mn_X10_plain : (parseMethodDescriptor yX10_plain.desc).map (fun d => d.parameters.length) = some 0 := by decide +kernel
def l_X10_plain_2 (K2 : Int32 × Mem → Option (Int32 × Mem)) : Int32 × Mem → Option (Int32 × Mem) := fun s => match s with
  | (x1, M) => if 290 ≤ x1 then wrt (up M 6 0 1) (fun M2 => wrt (up M2 6 1 1) (fun M3 => wrt (up M3 6 2 1) (fun M4 => wrt (up M4 6 3 10) (fun M5 => wrt (up M5 6 4 4) (fun M6 => wrt (up M6 6 5 2) (fun M7 => wrt (up M7 6 6 5) (fun M8 => wrt (up M8 6 7 3) (fun M9 => wrt (up M9 6 8 6) (fun M10 => wrt (up M10 6 9 4) (fun M11 => wrt (up M11 6 10 50) (fun M12 => wrt (up M12 6 11 4) (fun M13 => some (0, M13))))))))))))) else if inb x1 290 then wrt (up M 6 (ix x1) 0) (fun M15 => K2 (x1 + 1, M15)) else none
set_option maxRecDepth 20000 in
set_option maxHeartbeats 2000000 in
theorem lo_X10_plain_2 (d : Nat) (hlev : 0 ≤ d) (s : Int32 × Mem) : CorM KSm ST1 RX10 cX10_plain 2 none d 2 [(0, .inr 0), (1, .inl s.1)] [] s.2 (loopC (l_X10_plain_2) fuelL s) := by
  refine c_loop (L := fun s : Int32 × Mem => [(0, .inr 0), (1, .inl s.1)]) (Mf := fun s : Int32 × Mem => s.2) (fun K2 hK2 s => ?_) fuelL s
  obtain ⟨x1, M⟩ := s
  show CorM KSm ST1 RX10 cX10_plain 2 none d 2 [(0, .inr 0), (1, .inl x1)] [] M (l_X10_plain_2 K2 (x1, M))
  unfold l_X10_plain_2
  refine c_iload_n (i := 1) dX10_plain_2 rfl rfl ?_
  refine c_sipush dX10_plain_3 (v := 290) rfl ?_
  refine c_icmp_ge (tgt := 22) dX10_plain_6 rfl (fun h1 => ?_) (fun h1 => ?_)
  · refine c_aload_n (i := 0) dX10_plain_22 rfl rfl ?_
    refine gf_RX10_26 (blk_get0 KSm_b0) dX10_plain_23 ?_
    refine c_iconst dX10_plain_26 (v := 0) rfl ?_
    refine c_iconst dX10_plain_27 (v := 1) rfl ?_
    refine c_iast (blk_get0 (blk_sub (C := [(20, 290)]) (i := 6) KSm_b0 rfl)) (by decide) dX10_plain_28 ?_
    refine c_wrt (fun M2 => ?_)
    refine c_aload_n (i := 0) dX10_plain_29 rfl rfl ?_
    refine gf_RX10_26 (blk_get0 KSm_b0) dX10_plain_30 ?_
    refine c_iconst dX10_plain_33 (v := 1) rfl ?_
    refine c_iconst dX10_plain_34 (v := 1) rfl ?_
    refine c_iast (blk_get0 (blk_sub (C := [(20, 290)]) (i := 6) KSm_b0 rfl)) (by decide) dX10_plain_35 ?_
    refine c_wrt (fun M3 => ?_)
    refine c_aload_n (i := 0) dX10_plain_36 rfl rfl ?_
    refine gf_RX10_26 (blk_get0 KSm_b0) dX10_plain_37 ?_
    refine c_iconst dX10_plain_40 (v := 2) rfl ?_
    refine c_iconst dX10_plain_41 (v := 1) rfl ?_
    refine c_iast (blk_get0 (blk_sub (C := [(20, 290)]) (i := 6) KSm_b0 rfl)) (by decide) dX10_plain_42 ?_
    refine c_wrt (fun M4 => ?_)
    refine c_aload_n (i := 0) dX10_plain_43 rfl rfl ?_
    refine gf_RX10_26 (blk_get0 KSm_b0) dX10_plain_44 ?_
    refine c_iconst dX10_plain_47 (v := 3) rfl ?_
    refine c_bipush dX10_plain_48 (v := 10) rfl ?_
    refine c_iast (blk_get0 (blk_sub (C := [(20, 290)]) (i := 6) KSm_b0 rfl)) (by decide) dX10_plain_50 ?_
    refine c_wrt (fun M5 => ?_)
    refine c_aload_n (i := 0) dX10_plain_51 rfl rfl ?_
    refine gf_RX10_26 (blk_get0 KSm_b0) dX10_plain_52 ?_
    refine c_iconst dX10_plain_55 (v := 4) rfl ?_
    refine c_iconst dX10_plain_56 (v := 4) rfl ?_
    refine c_iast (blk_get0 (blk_sub (C := [(20, 290)]) (i := 6) KSm_b0 rfl)) (by decide) dX10_plain_57 ?_
    refine c_wrt (fun M6 => ?_)
    refine c_aload_n (i := 0) dX10_plain_58 rfl rfl ?_
    refine gf_RX10_26 (blk_get0 KSm_b0) dX10_plain_59 ?_
    refine c_iconst dX10_plain_62 (v := 5) rfl ?_
    refine c_iconst dX10_plain_63 (v := 2) rfl ?_
    refine c_iast (blk_get0 (blk_sub (C := [(20, 290)]) (i := 6) KSm_b0 rfl)) (by decide) dX10_plain_64 ?_
    refine c_wrt (fun M7 => ?_)
    refine c_aload_n (i := 0) dX10_plain_65 rfl rfl ?_
    refine gf_RX10_26 (blk_get0 KSm_b0) dX10_plain_66 ?_
    refine c_bipush dX10_plain_69 (v := 6) rfl ?_
    refine c_iconst dX10_plain_71 (v := 5) rfl ?_
    refine c_iast (blk_get0 (blk_sub (C := [(20, 290)]) (i := 6) KSm_b0 rfl)) (by decide) dX10_plain_72 ?_
    refine c_wrt (fun M8 => ?_)
    refine c_aload_n (i := 0) dX10_plain_73 rfl rfl ?_
    refine gf_RX10_26 (blk_get0 KSm_b0) dX10_plain_74 ?_
    refine c_bipush dX10_plain_77 (v := 7) rfl ?_
    refine c_iconst dX10_plain_79 (v := 3) rfl ?_
    refine c_iast (blk_get0 (blk_sub (C := [(20, 290)]) (i := 6) KSm_b0 rfl)) (by decide) dX10_plain_80 ?_
    refine c_wrt (fun M9 => ?_)
    refine c_aload_n (i := 0) dX10_plain_81 rfl rfl ?_
    refine gf_RX10_26 (blk_get0 KSm_b0) dX10_plain_82 ?_
    refine c_bipush dX10_plain_85 (v := 8) rfl ?_
    refine c_bipush dX10_plain_87 (v := 6) rfl ?_
    refine c_iast (blk_get0 (blk_sub (C := [(20, 290)]) (i := 6) KSm_b0 rfl)) (by decide) dX10_plain_89 ?_
    refine c_wrt (fun M10 => ?_)
    refine c_aload_n (i := 0) dX10_plain_90 rfl rfl ?_
    refine gf_RX10_26 (blk_get0 KSm_b0) dX10_plain_91 ?_
    refine c_bipush dX10_plain_94 (v := 9) rfl ?_
    refine c_iconst dX10_plain_96 (v := 4) rfl ?_
    refine c_iast (blk_get0 (blk_sub (C := [(20, 290)]) (i := 6) KSm_b0 rfl)) (by decide) dX10_plain_97 ?_
    refine c_wrt (fun M11 => ?_)
    refine c_aload_n (i := 0) dX10_plain_98 rfl rfl ?_
    refine gf_RX10_26 (blk_get0 KSm_b0) dX10_plain_99 ?_
    refine c_bipush dX10_plain_102 (v := 10) rfl ?_
    refine c_bipush dX10_plain_104 (v := 50) rfl ?_
    refine c_iast (blk_get0 (blk_sub (C := [(20, 290)]) (i := 6) KSm_b0 rfl)) (by decide) dX10_plain_106 ?_
    refine c_wrt (fun M12 => ?_)
    refine c_aload_n (i := 0) dX10_plain_107 rfl rfl ?_
    refine gf_RX10_26 (blk_get0 KSm_b0) dX10_plain_108 ?_
    refine c_bipush dX10_plain_111 (v := 11) rfl ?_
    refine c_iconst dX10_plain_113 (v := 4) rfl ?_
    refine c_iast (blk_get0 (blk_sub (C := [(20, 290)]) (i := 6) KSm_b0 rfl)) (by decide) dX10_plain_114 ?_
    refine c_wrt (fun M13 => ?_)
    exact c_vret rfl dX10_plain_115
  · refine c_aload_n (i := 0) dX10_plain_9 rfl rfl ?_
    refine gf_RX10_26 (blk_get0 KSm_b0) dX10_plain_10 ?_
    refine c_iload_n (i := 1) dX10_plain_13 rfl rfl ?_
    refine c_iconst dX10_plain_14 (v := 0) rfl ?_
    refine c_chk (fun h14 => ?_)
    refine c_iast (blk_get0 (blk_sub (C := [(20, 290)]) (i := 6) KSm_b0 rfl)) h14 dX10_plain_15 ?_
    refine c_wrt (fun M15 => ?_)
    refine c_iinc dX10_plain_16 rfl (v := 1) rfl (by decide) (ls2 := [(0, .inr 0), (1, .inl (x1 + 1))]) rfl ?_
    refine c_goto (tgt := 2) dX10_plain_19 rfl ?_
    refine c_keep [0, 1] (ls2 := [(0, .inr 0), (1, .inl (x1 + 1))]) rfl ?_
    exact hK2 (x1 + 1, M15)
def f_X10_plain (M : Mem) : Option (Int32 × Mem) := loopC (l_X10_plain_2) fuelL (0, M)
set_option maxRecDepth 20000 in
set_option maxHeartbeats 2000000 in
theorem ev_X10_plain (d : Nat) (hlev : 0 ≤ d) (M : Mem) : Ev KSm ST1 mdX10_plain d [.inr 0] M (f_X10_plain M) := by
  refine ev_of rfl (Nat.le_of_ble_eq_true rfl) ?_
  show CorM KSm ST1 RX10 cX10_plain 2 none d 0 [(0, .inr 0)] [] M (f_X10_plain M)
  unfold f_X10_plain
  refine c_iconst dX10_plain_0 (v := 0) rfl ?_
  refine c_istore_n (i := 1) dX10_plain_1 rfl (by decide) (ls2 := [(0, .inr 0), (1, .inl 0)]) rfl ?_
  refine c_keep [0, 1] (ls2 := [(0, .inr 0), (1, .inl 0)]) rfl ?_
  exact lo_X10_plain_2 d hlev (0, M)

abbrev mdX10_takes : MD := (yX10_takes, cX10_takes, 2, none)
theorem mw_X10_takes : mdW mdX10_takes := ⟨wm_X10_takes, w0_RX10, by decide, by decide⟩
theorem mn_X10_takes : (parseMethodDescriptor yX10_takes.desc).map (fun d => d.parameters.length) = some 0 := by decide +kernel
def l_X10_takes_29 (K29 : Int32 × Mem → Option (Int32 × Mem)) : Int32 × Mem → Option (Int32 × Mem) := fun s => match s with
  | (x1, M) => if 1671 ≤ x1 then wrt (up M 4 0 0) (fun M3 => wrt (up M3 4 1 0) (fun M4 => some (0, M4))) else if inb x1 1671 then wrt (up M 1 (ix x1) 0) (fun M6 => K29 (x1 + 1, M6)) else none
set_option maxRecDepth 20000 in
set_option maxHeartbeats 2000000 in
theorem lo_X10_takes_29 (d : Nat) (hlev : 0 ≤ d) (s : Int32 × Mem) : CorM KSm ST1 RX10 cX10_takes 2 none d 29 [(0, .inr 0), (1, .inl s.1)] [] s.2 (loopC (l_X10_takes_29) fuelL s) := by
  refine c_loop (L := fun s : Int32 × Mem => [(0, .inr 0), (1, .inl s.1)]) (Mf := fun s : Int32 × Mem => s.2) (fun K29 hK29 s => ?_) fuelL s
  obtain ⟨x1, M⟩ := s
  show CorM KSm ST1 RX10 cX10_takes 2 none d 29 [(0, .inr 0), (1, .inl x1)] [] M (l_X10_takes_29 K29 (x1, M))
  unfold l_X10_takes_29
  refine c_iload_n (i := 1) dX10_takes_29 rfl rfl ?_
  refine c_sipush dX10_takes_30 (v := 1671) rfl ?_
  refine c_icmp_ge (tgt := 49) dX10_takes_33 rfl (fun h2 => ?_) (fun h2 => ?_)
  · refine c_aload_n (i := 0) dX10_takes_49 rfl rfl ?_
    refine gf_RX10_19 (blk_get0 KSm_b0) dX10_takes_50 ?_
    refine c_iconst dX10_takes_53 (v := 0) rfl ?_
    refine c_iconst dX10_takes_54 (v := 0) rfl ?_
    refine c_zast (blk_get0 (blk_sub (C := [(21, 2)]) (i := 4) KSm_b0 rfl)) (by decide) (Or.inl rfl) dX10_takes_55 ?_
    refine c_wrt (fun M3 => ?_)
    refine c_aload_n (i := 0) dX10_takes_56 rfl rfl ?_
    refine gf_RX10_19 (blk_get0 KSm_b0) dX10_takes_57 ?_
    refine c_iconst dX10_takes_60 (v := 1) rfl ?_
    refine c_iconst dX10_takes_61 (v := 0) rfl ?_
    refine c_zast (blk_get0 (blk_sub (C := [(21, 2)]) (i := 4) KSm_b0 rfl)) (by decide) (Or.inl rfl) dX10_takes_62 ?_
    refine c_wrt (fun M4 => ?_)
    exact c_vret rfl dX10_takes_63
  · refine c_aload_n (i := 0) dX10_takes_36 rfl rfl ?_
    refine gf_RX10_9 (blk_get0 KSm_b0) dX10_takes_37 ?_
    refine c_iload_n (i := 1) dX10_takes_40 rfl rfl ?_
    refine c_iconst dX10_takes_41 (v := 0) rfl ?_
    refine c_chk (fun h5 => ?_)
    refine c_iast (blk_get0 (blk_sub (C := [(20, 1671)]) (i := 1) KSm_b0 rfl)) h5 dX10_takes_42 ?_
    refine c_wrt (fun M6 => ?_)
    refine c_iinc dX10_takes_43 rfl (v := 1) rfl (by decide) (ls2 := [(0, .inr 0), (1, .inl (x1 + 1))]) rfl ?_
    refine c_goto (tgt := 29) dX10_takes_46 rfl ?_
    refine c_keep [0, 1] (ls2 := [(0, .inr 0), (1, .inl (x1 + 1))]) rfl ?_
    exact hK29 (x1 + 1, M6)
def l_X10_takes_2 (K2 : Int32 × Mem → Option (Int32 × Mem)) : Int32 × Mem → Option (Int32 × Mem) := fun s => match s with
  | (x1, M) => if 290 ≤ x1 then loopC (l_X10_takes_29) fuelL (0, M) else if inb x1 290 then if inb x1 290 then wrt (up M 5 (ix x1) (M 6 (ix x1))) (fun M9 => K2 (x1 + 1, M9)) else none else none
set_option maxRecDepth 20000 in
set_option maxHeartbeats 2000000 in
theorem lo_X10_takes_2 (d : Nat) (hlev : 0 ≤ d) (s : Int32 × Mem) : CorM KSm ST1 RX10 cX10_takes 2 none d 2 [(0, .inr 0), (1, .inl s.1)] [] s.2 (loopC (l_X10_takes_2) fuelL s) := by
  refine c_loop (L := fun s : Int32 × Mem => [(0, .inr 0), (1, .inl s.1)]) (Mf := fun s : Int32 × Mem => s.2) (fun K2 hK2 s => ?_) fuelL s
  obtain ⟨x1, M⟩ := s
  show CorM KSm ST1 RX10 cX10_takes 2 none d 2 [(0, .inr 0), (1, .inl x1)] [] M (l_X10_takes_2 K2 (x1, M))
  unfold l_X10_takes_2
  refine c_iload_n (i := 1) dX10_takes_2 rfl rfl ?_
  refine c_sipush dX10_takes_3 (v := 290) rfl ?_
  refine c_icmp_ge (tgt := 27) dX10_takes_6 rfl (fun h1 => ?_) (fun h1 => ?_)
  · refine c_iconst dX10_takes_27 (v := 0) rfl ?_
    refine c_istore_n (i := 1) dX10_takes_28 rfl (by decide) (ls2 := [(0, .inr 0), (1, .inl 0)]) rfl ?_
    refine c_keep [0, 1] (ls2 := [(0, .inr 0), (1, .inl 0)]) rfl ?_
    exact lo_X10_takes_29 d hlev (0, M)
  · refine c_aload_n (i := 0) dX10_takes_9 rfl rfl ?_
    refine gf_RX10_23 (blk_get0 KSm_b0) dX10_takes_10 ?_
    refine c_iload_n (i := 1) dX10_takes_13 rfl rfl ?_
    refine c_aload_n (i := 0) dX10_takes_14 rfl rfl ?_
    refine gf_RX10_26 (blk_get0 KSm_b0) dX10_takes_15 ?_
    refine c_iload_n (i := 1) dX10_takes_18 rfl rfl ?_
    refine c_chk (fun h7 => ?_)
    refine c_iald (blk_get0 (blk_sub (C := [(20, 290)]) (i := 6) KSm_b0 rfl)) h7 dX10_takes_19 ?_
    refine c_chk (fun h8 => ?_)
    refine c_iast (blk_get0 (blk_sub (C := [(20, 290)]) (i := 5) KSm_b0 rfl)) h8 dX10_takes_20 ?_
    refine c_wrt (fun M9 => ?_)
    refine c_iinc dX10_takes_21 rfl (v := 1) rfl (by decide) (ls2 := [(0, .inr 0), (1, .inl (x1 + 1))]) rfl ?_
    refine c_goto (tgt := 2) dX10_takes_24 rfl ?_
    refine c_keep [0, 1] (ls2 := [(0, .inr 0), (1, .inl (x1 + 1))]) rfl ?_
    exact hK2 (x1 + 1, M9)
def f_X10_takes (M : Mem) : Option (Int32 × Mem) := loopC (l_X10_takes_2) fuelL (0, M)
set_option maxRecDepth 20000 in
set_option maxHeartbeats 2000000 in
theorem ev_X10_takes (d : Nat) (hlev : 0 ≤ d) (M : Mem) : Ev KSm ST1 mdX10_takes d [.inr 0] M (f_X10_takes M) := by
  refine ev_of rfl (Nat.le_of_ble_eq_true rfl) ?_
  show CorM KSm ST1 RX10 cX10_takes 2 none d 0 [(0, .inr 0)] [] M (f_X10_takes M)
  unfold f_X10_takes
  refine c_iconst dX10_takes_0 (v := 0) rfl ?_
  refine c_istore_n (i := 1) dX10_takes_1 rfl (by decide) (ls2 := [(0, .inr 0), (1, .inl 0)]) rfl ?_
  refine c_keep [0, 1] (ls2 := [(0, .inr 0), (1, .inl 0)]) rfl ?_
  exact lo_X10_takes_2 d hlev (0, M)
