abbrev mdX10_isColumn : MD := (yX10_isColumn, cX10_isColumn, 2, (some .boolean))
theorem mw_X10_isColumn : mdW mdX10_isColumn := ⟨wm_X10_isColumn, w0_RX10, by decide, by decide⟩
theorem mn_X10_isColumn : (parseMethodDescriptor yX10_isColumn.desc).map (fun d => d.parameters.length) = some 1 := by decide +kernel
def p_X10_isColumn (x1 : Int32) (M : Mem) : Int32 := p_X10_isIn x1 0 ((M 5 2) - 1)
theorem pz_X10_isColumn (x1 : Int32) (M : Mem) : isB (p_X10_isColumn x1 M) := by
  unfold p_X10_isColumn
  repeat' (first | apply isB_ite | exact Or.inl rfl | exact Or.inr rfl | apply_assumption)
set_option maxRecDepth 20000 in
set_option maxHeartbeats 2000000 in
theorem ev_X10_isColumn (d : Nat) (hlev : 1 ≤ d) (x1 : Int32) (M : Mem) : Ev KSm ST1 mdX10_isColumn d [.inr 0, .inl x1] M (some (p_X10_isColumn x1 M, M)) := by
  refine ev_of rfl (Nat.le_of_ble_eq_true rfl) ?_
  show CorM KSm ST1 RX10 cX10_isColumn 2 (some .boolean) d 0 [(0, .inr 0), (1, .inl x1)] [] M (some (p_X10_isColumn x1 M, M))
  unfold p_X10_isColumn
  refine c_iload_n (i := 1) dX10_isColumn_0 rfl rfl ?_
  refine c_iconst dX10_isColumn_1 (v := 0) rfl ?_
  refine c_aload_n (i := 0) dX10_isColumn_2 rfl rfl ?_
  refine gf_RX10_23 (blk_get0 KSm_b0) dX10_isColumn_3 ?_
  refine c_iconst dX10_isColumn_6 (v := 2) rfl ?_
  refine c_iald (blk_get0 (blk_sub (C := [(20, 290)]) (i := 5) KSm_b0 rfl)) (by decide) dX10_isColumn_7 ?_
  refine c_iconst dX10_isColumn_8 (v := 1) rfl ?_
  refine c_isub dX10_isColumn_9 ?_
  refine c_callSp (as := [.inl x1, .inl 0, .inl ((M 5 2) - 1)]) (rs := []) (ev_X10_isIn 0 (Nat.le_refl _) x1 0 ((M 5 2) - 1) M) rfl (Nat.lt_of_lt_of_le (by decide) hlev) mw_X10_isIn ws_X10_isIn wl_RX10_70 mn_X10_isIn rfl (by decide) (Nat.le_of_ble_eq_true rfl) ⟨_, rfl⟩ dX10_isColumn_10 ?_
  exact c_zret rfl (pz_X10_isIn x1 0 ((M 5 2) - 1)) dX10_isColumn_13

abbrev mdX10_banksOf : MD := (yX10_banksOf, cX10_banksOf, 2, (some .int))
theorem mw_X10_banksOf : mdW mdX10_banksOf := ⟨wm_X10_banksOf, w0_RX10, by decide, by decide⟩
theorem mn_X10_banksOf : (parseMethodDescriptor yX10_banksOf.desc).map (fun d => d.parameters.length) = some 1 := by decide +kernel
def f_X10_banksOf (x1 : Int32) (M : Mem) : Option (Int32 × Mem) := if inb (14 + (3 * x1)) 290 then some (M 5 (ix (14 + (3 * x1))), M) else none
set_option maxRecDepth 20000 in
set_option maxHeartbeats 2000000 in
theorem ev_X10_banksOf (d : Nat) (hlev : 0 ≤ d) (x1 : Int32) (M : Mem) : Ev KSm ST1 mdX10_banksOf d [.inr 0, .inl x1] M (f_X10_banksOf x1 M) := by
  refine ev_of rfl (Nat.le_of_ble_eq_true rfl) ?_
  show CorM KSm ST1 RX10 cX10_banksOf 2 (some .int) d 0 [(0, .inr 0), (1, .inl x1)] [] M (f_X10_banksOf x1 M)
  unfold f_X10_banksOf
  refine c_aload_n (i := 0) dX10_banksOf_0 rfl rfl ?_
  refine gf_RX10_23 (blk_get0 KSm_b0) dX10_banksOf_1 ?_
  refine c_bipush dX10_banksOf_4 (v := 14) rfl ?_
  refine c_iconst dX10_banksOf_6 (v := 3) rfl ?_
  refine c_iload_n (i := 1) dX10_banksOf_7 rfl rfl ?_
  refine c_imul dX10_banksOf_8 ?_
  refine c_iadd dX10_banksOf_9 ?_
  refine c_chk (fun h1 => ?_)
  refine c_iald (blk_get0 (blk_sub (C := [(20, 290)]) (i := 5) KSm_b0 rfl)) h1 dX10_banksOf_10 ?_
  exact c_iret rfl dX10_banksOf_11

abbrev mdX10_firstOf : MD := (yX10_firstOf, cX10_firstOf, 2, (some .int))
theorem mw_X10_firstOf : mdW mdX10_firstOf := ⟨wm_X10_firstOf, w0_RX10, by decide, by decide⟩
theorem mn_X10_firstOf : (parseMethodDescriptor yX10_firstOf.desc).map (fun d => d.parameters.length) = some 1 := by decide +kernel
def f_X10_firstOf (x1 : Int32) (M : Mem) : Option (Int32 × Mem) := if inb ((14 + (3 * x1)) + 1) 290 then some (M 5 (ix ((14 + (3 * x1)) + 1)), M) else none
set_option maxRecDepth 20000 in
set_option maxHeartbeats 2000000 in
theorem ev_X10_firstOf (d : Nat) (hlev : 0 ≤ d) (x1 : Int32) (M : Mem) : Ev KSm ST1 mdX10_firstOf d [.inr 0, .inl x1] M (f_X10_firstOf x1 M) := by
  refine ev_of rfl (Nat.le_of_ble_eq_true rfl) ?_
  show CorM KSm ST1 RX10 cX10_firstOf 2 (some .int) d 0 [(0, .inr 0), (1, .inl x1)] [] M (f_X10_firstOf x1 M)
  unfold f_X10_firstOf
  refine c_aload_n (i := 0) dX10_firstOf_0 rfl rfl ?_
  refine gf_RX10_23 (blk_get0 KSm_b0) dX10_firstOf_1 ?_
  refine c_bipush dX10_firstOf_4 (v := 14) rfl ?_
  refine c_iconst dX10_firstOf_6 (v := 3) rfl ?_
  refine c_iload_n (i := 1) dX10_firstOf_7 rfl rfl ?_
  refine c_imul dX10_firstOf_8 ?_
  refine c_iadd dX10_firstOf_9 ?_
  refine c_iconst dX10_firstOf_10 (v := 1) rfl ?_
  refine c_iadd dX10_firstOf_11 ?_
  refine c_chk (fun h1 => ?_)
  refine c_iald (blk_get0 (blk_sub (C := [(20, 290)]) (i := 5) KSm_b0 rfl)) h1 dX10_firstOf_12 ?_
  exact c_iret rfl dX10_firstOf_13

abbrev mdX10_endOf : MD := (yX10_endOf, cX10_endOf, 2, (some .int))
theorem mw_X10_endOf : mdW mdX10_endOf := ⟨wm_X10_endOf, w0_RX10, by decide, by decide⟩
theorem mn_X10_endOf : (parseMethodDescriptor yX10_endOf.desc).map (fun d => d.parameters.length) = some 1 := by decide +kernel
def f_X10_endOf (x1 : Int32) (M : Mem) : Option (Int32 × Mem) := bnd (f_X10_firstOf x1 M) (fun v1 M2 => if inb ((14 + (3 * x1)) + 2) 290 then some (v1 + (M2 5 (ix ((14 + (3 * x1)) + 2))), M2) else none)
set_option maxRecDepth 20000 in
set_option maxHeartbeats 2000000 in
theorem ev_X10_endOf (d : Nat) (hlev : 1 ≤ d) (x1 : Int32) (M : Mem) : Ev KSm ST1 mdX10_endOf d [.inr 0, .inl x1] M (f_X10_endOf x1 M) := by
  refine ev_of rfl (Nat.le_of_ble_eq_true rfl) ?_
  show CorM KSm ST1 RX10 cX10_endOf 2 (some .int) d 0 [(0, .inr 0), (1, .inl x1)] [] M (f_X10_endOf x1 M)
  unfold f_X10_endOf
  refine c_aload_n (i := 0) dX10_endOf_0 rfl rfl ?_
  refine c_iload_n (i := 1) dX10_endOf_1 rfl rfl ?_
  refine c_callV (as := [.inl x1]) (rs := []) (ev_X10_firstOf 0 (Nat.le_refl _) x1 M) rfl (Nat.lt_of_lt_of_le (by decide) hlev) mw_X10_firstOf wi_X10_firstOf wv_X10_firstOf (blk_get0 KSm_b0) (by decide) rfl wl_RX10_230 mn_X10_firstOf rfl (by decide) (Nat.le_of_ble_eq_true rfl) ⟨_, rfl⟩ dX10_endOf_2 (fun v1 M2 _ => ?_)
  refine c_aload_n (i := 0) dX10_endOf_5 rfl rfl ?_
  refine gf_RX10_23 (blk_get0 KSm_b0) dX10_endOf_6 ?_
  refine c_bipush dX10_endOf_9 (v := 14) rfl ?_
  refine c_iconst dX10_endOf_11 (v := 3) rfl ?_
  refine c_iload_n (i := 1) dX10_endOf_12 rfl rfl ?_
  refine c_imul dX10_endOf_13 ?_
  refine c_iadd dX10_endOf_14 ?_
  refine c_iconst dX10_endOf_15 (v := 2) rfl ?_
  refine c_iadd dX10_endOf_16 ?_
  refine c_chk (fun h3 => ?_)
  refine c_iald (blk_get0 (blk_sub (C := [(20, 290)]) (i := 5) KSm_b0 rfl)) h3 dX10_endOf_17 ?_
  refine c_iadd dX10_endOf_18 ?_
  exact c_iret rfl dX10_endOf_19

abbrev mdX10_told : MD := (yX10_told, cX10_told, 3, (some .int))
theorem mw_X10_told : mdW mdX10_told := ⟨wm_X10_told, w0_RX10, by decide, by decide⟩
theorem mn_X10_told : (parseMethodDescriptor yX10_told.desc).map (fun d => d.parameters.length) = some 2 := by decide +kernel
def f_X10_told (x1 : Int32) (x2 : Int32) (M : Mem) : Option (Int32 × Mem) := if inb ((50 + (4 * x1)) + x2) 290 then some (M 5 (ix ((50 + (4 * x1)) + x2)), M) else none
set_option maxRecDepth 20000 in
set_option maxHeartbeats 2000000 in
theorem ev_X10_told (d : Nat) (hlev : 0 ≤ d) (x1 : Int32) (x2 : Int32) (M : Mem) : Ev KSm ST1 mdX10_told d [.inr 0, .inl x1, .inl x2] M (f_X10_told x1 x2 M) := by
  refine ev_of rfl (Nat.le_of_ble_eq_true rfl) ?_
  show CorM KSm ST1 RX10 cX10_told 3 (some .int) d 0 [(0, .inr 0), (1, .inl x1), (2, .inl x2)] [] M (f_X10_told x1 x2 M)
  unfold f_X10_told
  refine c_aload_n (i := 0) dX10_told_0 rfl rfl ?_
  refine gf_RX10_23 (blk_get0 KSm_b0) dX10_told_1 ?_
  refine c_bipush dX10_told_4 (v := 50) rfl ?_
  refine c_iconst dX10_told_6 (v := 4) rfl ?_
  refine c_iload_n (i := 1) dX10_told_7 rfl rfl ?_
  refine c_imul dX10_told_8 ?_
  refine c_iadd dX10_told_9 ?_
  refine c_iload_n (i := 2) dX10_told_10 rfl rfl ?_
  refine c_iadd dX10_told_11 ?_
  refine c_chk (fun h1 => ?_)
  refine c_iald (blk_get0 (blk_sub (C := [(20, 290)]) (i := 5) KSm_b0 rfl)) h1 dX10_told_12 ?_
  exact c_iret rfl dX10_told_13

abbrev mdX10_kindOf : MD := (yX10_kindOf, cX10_kindOf, 2, (some .int))
theorem mw_X10_kindOf : mdW mdX10_kindOf := ⟨wm_X10_kindOf, w0_RX10, by decide, by decide⟩
theorem mn_X10_kindOf : (parseMethodDescriptor yX10_kindOf.desc).map (fun d => d.parameters.length) = some 1 := by decide +kernel
def f_X10_kindOf (x1 : Int32) (M : Mem) : Option (Int32 × Mem) := bnd (f_X10_told x1 0 M) (fun v1 M2 => some (jrem v1 8, M2))
set_option maxRecDepth 20000 in
set_option maxHeartbeats 2000000 in
theorem ev_X10_kindOf (d : Nat) (hlev : 1 ≤ d) (x1 : Int32) (M : Mem) : Ev KSm ST1 mdX10_kindOf d [.inr 0, .inl x1] M (f_X10_kindOf x1 M) := by
  refine ev_of rfl (Nat.le_of_ble_eq_true rfl) ?_
  show CorM KSm ST1 RX10 cX10_kindOf 2 (some .int) d 0 [(0, .inr 0), (1, .inl x1)] [] M (f_X10_kindOf x1 M)
  unfold f_X10_kindOf
  refine c_aload_n (i := 0) dX10_kindOf_0 rfl rfl ?_
  refine c_iload_n (i := 1) dX10_kindOf_1 rfl rfl ?_
  refine c_iconst dX10_kindOf_2 (v := 0) rfl ?_
  refine c_callV (as := [.inl x1, .inl 0]) (rs := []) (ev_X10_told 0 (Nat.le_refl _) x1 0 M) rfl (Nat.lt_of_lt_of_le (by decide) hlev) mw_X10_told wi_X10_told wv_X10_told (blk_get0 KSm_b0) (by decide) rfl wl_RX10_233 mn_X10_told rfl (by decide) (Nat.le_of_ble_eq_true rfl) ⟨_, rfl⟩ dX10_kindOf_3 (fun v1 M2 _ => ?_)
  refine c_bipush dX10_kindOf_6 (v := 8) rfl ?_
  refine c_irem dX10_kindOf_8 (by decide) ?_
  exact c_iret rfl dX10_kindOf_9

abbrev mdX10_wayOf : MD := (yX10_wayOf, cX10_wayOf, 2, (some .int))
theorem mw_X10_wayOf : mdW mdX10_wayOf := ⟨wm_X10_wayOf, w0_RX10, by decide, by decide⟩
theorem mn_X10_wayOf : (parseMethodDescriptor yX10_wayOf.desc).map (fun d => d.parameters.length) = some 1 := by decide +kernel
def f_X10_wayOf (x1 : Int32) (M : Mem) : Option (Int32 × Mem) := bnd (f_X10_told x1 0 M) (fun v1 M2 => some (v1 / 8, M2))
set_option maxRecDepth 20000 in
set_option maxHeartbeats 2000000 in
theorem ev_X10_wayOf (d : Nat) (hlev : 1 ≤ d) (x1 : Int32) (M : Mem) : Ev KSm ST1 mdX10_wayOf d [.inr 0, .inl x1] M (f_X10_wayOf x1 M) := by
  refine ev_of rfl (Nat.le_of_ble_eq_true rfl) ?_
  show CorM KSm ST1 RX10 cX10_wayOf 2 (some .int) d 0 [(0, .inr 0), (1, .inl x1)] [] M (f_X10_wayOf x1 M)
  unfold f_X10_wayOf
  refine c_aload_n (i := 0) dX10_wayOf_0 rfl rfl ?_
  refine c_iload_n (i := 1) dX10_wayOf_1 rfl rfl ?_
  refine c_iconst dX10_wayOf_2 (v := 0) rfl ?_
  refine c_callV (as := [.inl x1, .inl 0]) (rs := []) (ev_X10_told 0 (Nat.le_refl _) x1 0 M) rfl (Nat.lt_of_lt_of_le (by decide) hlev) mw_X10_told wi_X10_told wv_X10_told (blk_get0 KSm_b0) (by decide) rfl wl_RX10_233 mn_X10_told rfl (by decide) (Nat.le_of_ble_eq_true rfl) ⟨_, rfl⟩ dX10_wayOf_3 (fun v1 M2 _ => ?_)
  refine c_bipush dX10_wayOf_6 (v := 8) rfl ?_
  refine c_idiv dX10_wayOf_8 (by decide) ?_
  exact c_iret rfl dX10_wayOf_9

abbrev mdX10_count : MD := (yX10_count, cX10_count, 2, (some .int))
theorem mw_X10_count : mdW mdX10_count := ⟨wm_X10_count, w0_RX10, by decide, by decide⟩
theorem mn_X10_count : (parseMethodDescriptor yX10_count.desc).map (fun d => d.parameters.length) = some 1 := by decide +kernel
def j_X10_count_93 (w0 : Int32) (M : Mem) : Option (Int32 × Mem) := some (w0, M)
set_option maxRecDepth 20000 in
set_option maxHeartbeats 2000000 in
theorem jo_X10_count_93 (d : Nat) (hlev : 1 ≤ d) (w0 : Int32) (M : Mem) : CorM KSm ST1 RX10 cX10_count 2 (some .int) d 93 [] [.inl w0] M (j_X10_count_93 w0 M) := by
  unfold j_X10_count_93
  exact c_iret rfl dX10_count_93
def f_X10_count (x1 : Int32) (M : Mem) : Option (Int32 × Mem) := wrt (up M 0 0 0) (fun M1 => bnd (f_X10_may (p_X10_isIn x1 0 6) 1 M1) (fun v2 M3 => if ¬ v2 = 0 then if 3 ≤ x1 then j_X10_count_93 (if ¬ x1 = 3 then if ¬ x1 = 4 then if ¬ x1 = 5 then M3 1 1578 else M3 1 1457 else M3 1 1440 else M3 5 12) M3 else if inb (0 + x1) 290 then j_X10_count_93 (M3 5 (ix (0 + x1))) M3 else none else some (0, M3)))
set_option maxRecDepth 20000 in
set_option maxHeartbeats 2000000 in
theorem ev_X10_count (d : Nat) (hlev : 1 ≤ d) (x1 : Int32) (M : Mem) : Ev KSm ST1 mdX10_count d [.inr 0, .inl x1] M (f_X10_count x1 M) := by
  refine ev_of rfl (Nat.le_of_ble_eq_true rfl) ?_
  show CorM KSm ST1 RX10 cX10_count 2 (some .int) d 0 [(0, .inr 0), (1, .inl x1)] [] M (f_X10_count x1 M)
  unfold f_X10_count
  refine c_aload_n (i := 0) dX10_count_0 rfl rfl ?_
  refine c_iconst dX10_count_1 (v := 0) rfl ?_
  refine pf_RX10_60 (blk_get0 KSm_b0) dX10_count_2 ?_
  refine c_wrt (fun M1 => ?_)
  refine c_aload_n (i := 0) dX10_count_5 rfl rfl ?_
  refine c_iload_n (i := 1) dX10_count_6 rfl rfl ?_
  refine c_iconst dX10_count_7 (v := 0) rfl ?_
  refine c_bipush dX10_count_8 (v := 6) rfl ?_
  refine c_callSp (as := [.inl x1, .inl 0, .inl 6]) (rs := [.inr 0]) (ev_X10_isIn 0 (Nat.le_refl _) x1 0 6 M1) rfl (Nat.lt_of_lt_of_le (by decide) hlev) mw_X10_isIn ws_X10_isIn wl_RX10_70 mn_X10_isIn rfl (by decide) (Nat.le_of_ble_eq_true rfl) ⟨_, rfl⟩ dX10_count_10 ?_
  refine c_iconst dX10_count_13 (v := 1) rfl ?_
  refine c_callV (as := [.inl (p_X10_isIn x1 0 6), .inl 1]) (rs := []) (ev_X10_may 0 (Nat.le_refl _) (p_X10_isIn x1 0 6) 1 M1) rfl (Nat.lt_of_lt_of_le (by decide) hlev) mw_X10_may wi_X10_may wv_X10_may (blk_get0 KSm_b0) (by decide) rfl wl_RX10_66 mn_X10_may rfl (by decide) (Nat.le_of_ble_eq_true rfl) ⟨_, rfl⟩ dX10_count_14 (fun v2 M3 _ => ?_)
  refine c_if_ne (tgt := 22) dX10_count_17 rfl (fun h4 => ?_) (fun h4 => ?_)
  · refine c_iload_n (i := 1) dX10_count_22 rfl rfl ?_
    refine c_iconst dX10_count_23 (v := 3) rfl ?_
    refine c_icmp_ge (tgt := 38) dX10_count_24 rfl (fun h5 => ?_) (fun h5 => ?_)
    · refine c_iload_n (i := 1) dX10_count_38 rfl rfl ?_
      refine c_iconst dX10_count_39 (v := 3) rfl ?_
      have J_z6 : ∀ z6 : Int32, CorM KSm ST1 RX10 cX10_count 2 (some .int) d 93 [] [.inl z6] M3 (j_X10_count_93 z6 M3) := by
        intro z6
        refine c_keep [] (ls2 := []) rfl ?_
        exact jo_X10_count_93 d hlev z6 M3
      refine c_val (b := ¬ x1 = 3) (v1 := if ¬ x1 = 4 then if ¬ x1 = 5 then M3 1 1578 else M3 1 1457 else M3 1 1440) (v2 := M3 5 12) (F := fun z6 => j_X10_count_93 z6 M3) (fun h7 => ?_) (fun h7 => ?_)
      · refine c_T h7 (c_icmp_ne (tgt := 53) dX10_count_40 rfl (fun _ => ?_) (fun q => absurd h7 q))
        refine c_iload_n (i := 1) dX10_count_53 rfl rfl ?_
        refine c_iconst dX10_count_54 (v := 4) rfl ?_
        refine c_val (b := ¬ x1 = 4) (v1 := if ¬ x1 = 5 then M3 1 1578 else M3 1 1457) (v2 := M3 1 1440) (F := fun z6 => j_X10_count_93 z6 M3) (fun h8 => ?_) (fun h8 => ?_)
        · refine c_T h8 (c_icmp_ne (tgt := 69) dX10_count_55 rfl (fun _ => ?_) (fun q => absurd h8 q))
          refine c_iload_n (i := 1) dX10_count_69 rfl rfl ?_
          refine c_iconst dX10_count_70 (v := 5) rfl ?_
          refine c_val (b := ¬ x1 = 5) (v1 := M3 1 1578) (v2 := M3 1 1457) (F := fun z6 => j_X10_count_93 z6 M3) (fun h9 => ?_) (fun h9 => ?_)
          · refine c_T h9 (c_icmp_ne (tgt := 85) dX10_count_71 rfl (fun _ => ?_) (fun q => absurd h9 q))
            refine c_aload_n (i := 0) dX10_count_85 rfl rfl ?_
            refine gf_RX10_9 (blk_get0 KSm_b0) dX10_count_86 ?_
            refine c_sipush dX10_count_89 (v := 1578) rfl ?_
            refine c_iald (blk_get0 (blk_sub (C := [(20, 1671)]) (i := 1) KSm_b0 rfl)) (by decide) dX10_count_92 ?_
            refine c_keep [] (ls2 := []) rfl ?_
            exact J_z6 (M3 1 1578)
          · refine c_Fl h9 (c_icmp_ne (tgt := 85) dX10_count_71 rfl (fun q => absurd q h9) (fun _ => ?_))
            refine c_aload_n (i := 0) dX10_count_74 rfl rfl ?_
            refine gf_RX10_9 (blk_get0 KSm_b0) dX10_count_75 ?_
            refine c_sipush dX10_count_78 (v := 1457) rfl ?_
            refine c_iald (blk_get0 (blk_sub (C := [(20, 1671)]) (i := 1) KSm_b0 rfl)) (by decide) dX10_count_81 ?_
            refine c_goto (tgt := 93) dX10_count_82 rfl ?_
            refine c_keep [] (ls2 := []) rfl ?_
            exact J_z6 (M3 1 1457)
        · refine c_Fl h8 (c_icmp_ne (tgt := 69) dX10_count_55 rfl (fun q => absurd q h8) (fun _ => ?_))
          refine c_aload_n (i := 0) dX10_count_58 rfl rfl ?_
          refine gf_RX10_9 (blk_get0 KSm_b0) dX10_count_59 ?_
          refine c_sipush dX10_count_62 (v := 1440) rfl ?_
          refine c_iald (blk_get0 (blk_sub (C := [(20, 1671)]) (i := 1) KSm_b0 rfl)) (by decide) dX10_count_65 ?_
          refine c_goto (tgt := 93) dX10_count_66 rfl ?_
          refine c_keep [] (ls2 := []) rfl ?_
          exact J_z6 (M3 1 1440)
      · refine c_Fl h7 (c_icmp_ne (tgt := 53) dX10_count_40 rfl (fun q => absurd q h7) (fun _ => ?_))
        refine c_aload_n (i := 0) dX10_count_43 rfl rfl ?_
        refine gf_RX10_23 (blk_get0 KSm_b0) dX10_count_44 ?_
        refine c_bipush dX10_count_47 (v := 12) rfl ?_
        refine c_iald (blk_get0 (blk_sub (C := [(20, 290)]) (i := 5) KSm_b0 rfl)) (by decide) dX10_count_49 ?_
        refine c_goto (tgt := 93) dX10_count_50 rfl ?_
        refine c_keep [] (ls2 := []) rfl ?_
        exact J_z6 (M3 5 12)
    · refine c_aload_n (i := 0) dX10_count_27 rfl rfl ?_
      refine gf_RX10_23 (blk_get0 KSm_b0) dX10_count_28 ?_
      refine c_iconst dX10_count_31 (v := 0) rfl ?_
      refine c_iload_n (i := 1) dX10_count_32 rfl rfl ?_
      refine c_iadd dX10_count_33 ?_
      refine c_chk (fun h10 => ?_)
      refine c_iald (blk_get0 (blk_sub (C := [(20, 290)]) (i := 5) KSm_b0 rfl)) h10 dX10_count_34 ?_
      refine c_goto (tgt := 93) dX10_count_35 rfl ?_
      refine c_keep [] (ls2 := []) rfl ?_
      exact jo_X10_count_93 d hlev (M3 5 (ix (0 + x1))) M3
  · refine c_iconst dX10_count_20 (v := 0) rfl ?_
    exact c_iret rfl dX10_count_21

abbrev mdX10_commands : MD := (yX10_commands, cX10_commands, 2, (some .int))
theorem mw_X10_commands : mdW mdX10_commands := ⟨wm_X10_commands, w0_RX10, by decide, by decide⟩
theorem mn_X10_commands : (parseMethodDescriptor yX10_commands.desc).map (fun d => d.parameters.length) = some 1 := by decide +kernel
def j_X10_commands_35 (w0 : Int32) (M : Mem) : Option (Int32 × Mem) := some (w0, M)
set_option maxRecDepth 20000 in
set_option maxHeartbeats 2000000 in
theorem jo_X10_commands_35 (d : Nat) (hlev : 2 ≤ d) (w0 : Int32) (M : Mem) : CorM KSm ST1 RX10 cX10_commands 2 (some .int) d 35 [] [.inl w0] M (j_X10_commands_35 w0 M) := by
  unfold j_X10_commands_35
  exact c_iret rfl dX10_commands_35
def f_X10_commands (x1 : Int32) (M : Mem) : Option (Int32 × Mem) := wrt (up M 0 0 0) (fun M1 => bnd (f_X10_may (p_X10_isBatch x1 M1) 1 M1) (fun v2 M3 => if v2 = 0 then j_X10_commands_35 0 M3 else if inb ((14 + (3 * x1)) + 2) 290 then j_X10_commands_35 (M3 5 (ix ((14 + (3 * x1)) + 2))) M3 else none))
set_option maxRecDepth 20000 in
set_option maxHeartbeats 2000000 in
theorem ev_X10_commands (d : Nat) (hlev : 2 ≤ d) (x1 : Int32) (M : Mem) : Ev KSm ST1 mdX10_commands d [.inr 0, .inl x1] M (f_X10_commands x1 M) := by
  refine ev_of rfl (Nat.le_of_ble_eq_true rfl) ?_
  show CorM KSm ST1 RX10 cX10_commands 2 (some .int) d 0 [(0, .inr 0), (1, .inl x1)] [] M (f_X10_commands x1 M)
  unfold f_X10_commands
  refine c_aload_n (i := 0) dX10_commands_0 rfl rfl ?_
  refine c_iconst dX10_commands_1 (v := 0) rfl ?_
  refine pf_RX10_60 (blk_get0 KSm_b0) dX10_commands_2 ?_
  refine c_wrt (fun M1 => ?_)
  refine c_aload_n (i := 0) dX10_commands_5 rfl rfl ?_
  refine c_aload_n (i := 0) dX10_commands_6 rfl rfl ?_
  refine c_iload_n (i := 1) dX10_commands_7 rfl rfl ?_
  refine c_callVp (as := [.inl x1]) (rs := [.inr 0]) (ev_X10_isBatch 1 (Nat.le_refl _) x1 M1) rfl (Nat.lt_of_lt_of_le (by decide) hlev) mw_X10_isBatch wi_X10_isBatch wv_X10_isBatch (blk_get0 KSm_b0) (by decide) rfl wl_RX10_235 mn_X10_isBatch rfl (by decide) (Nat.le_of_ble_eq_true rfl) ⟨_, rfl⟩ dX10_commands_8 ?_
  refine c_iconst dX10_commands_11 (v := 1) rfl ?_
  refine c_callV (as := [.inl (p_X10_isBatch x1 M1), .inl 1]) (rs := []) (ev_X10_may 0 (Nat.le_refl _) (p_X10_isBatch x1 M1) 1 M1) rfl (Nat.lt_of_lt_of_le (by decide) hlev) mw_X10_may wi_X10_may wv_X10_may (blk_get0 KSm_b0) (by decide) rfl wl_RX10_66 mn_X10_may rfl (by decide) (Nat.le_of_ble_eq_true rfl) ⟨_, rfl⟩ dX10_commands_12 (fun v2 M3 _ => ?_)
  refine c_if_eq (tgt := 34) dX10_commands_15 rfl (fun h4 => ?_) (fun h4 => ?_)
  · refine c_iconst dX10_commands_34 (v := 0) rfl ?_
    refine c_keep [] (ls2 := []) rfl ?_
    exact jo_X10_commands_35 d hlev 0 M3
  · refine c_aload_n (i := 0) dX10_commands_18 rfl rfl ?_
    refine gf_RX10_23 (blk_get0 KSm_b0) dX10_commands_19 ?_
    refine c_bipush dX10_commands_22 (v := 14) rfl ?_
    refine c_iconst dX10_commands_24 (v := 3) rfl ?_
    refine c_iload_n (i := 1) dX10_commands_25 rfl rfl ?_
    refine c_imul dX10_commands_26 ?_
    refine c_iadd dX10_commands_27 ?_
    refine c_iconst dX10_commands_28 (v := 2) rfl ?_
    refine c_iadd dX10_commands_29 ?_
    refine c_chk (fun h5 => ?_)
    refine c_iald (blk_get0 (blk_sub (C := [(20, 290)]) (i := 5) KSm_b0 rfl)) h5 dX10_commands_30 ?_
    refine c_goto (tgt := 35) dX10_commands_31 rfl ?_
    refine c_keep [] (ls2 := []) rfl ?_
    exact jo_X10_commands_35 d hlev (M3 5 (ix ((14 + (3 * x1)) + 2))) M3

abbrev mdX10_banks : MD := (yX10_banks, cX10_banks, 2, (some .int))
theorem mw_X10_banks : mdW mdX10_banks := ⟨wm_X10_banks, w0_RX10, by decide, by decide⟩
theorem mn_X10_banks : (parseMethodDescriptor yX10_banks.desc).map (fun d => d.parameters.length) = some 1 := by decide +kernel
def j_X10_banks_27 (w0 : Int32) (M : Mem) : Option (Int32 × Mem) := some (w0, M)
set_option maxRecDepth 20000 in
set_option maxHeartbeats 2000000 in
theorem jo_X10_banks_27 (d : Nat) (hlev : 2 ≤ d) (w0 : Int32) (M : Mem) : CorM KSm ST1 RX10 cX10_banks 2 (some .int) d 27 [] [.inl w0] M (j_X10_banks_27 w0 M) := by
  unfold j_X10_banks_27
  exact c_iret rfl dX10_banks_27
def f_X10_banks (x1 : Int32) (M : Mem) : Option (Int32 × Mem) := wrt (up M 0 0 0) (fun M1 => bnd (f_X10_may (p_X10_isBatch x1 M1) 1 M1) (fun v2 M3 => if v2 = 0 then j_X10_banks_27 0 M3 else bnd (f_X10_banksOf x1 M3) (fun v5 M6 => j_X10_banks_27 v5 M6)))
set_option maxRecDepth 20000 in
set_option maxHeartbeats 2000000 in
theorem ev_X10_banks (d : Nat) (hlev : 2 ≤ d) (x1 : Int32) (M : Mem) : Ev KSm ST1 mdX10_banks d [.inr 0, .inl x1] M (f_X10_banks x1 M) := by
  refine ev_of rfl (Nat.le_of_ble_eq_true rfl) ?_
  show CorM KSm ST1 RX10 cX10_banks 2 (some .int) d 0 [(0, .inr 0), (1, .inl x1)] [] M (f_X10_banks x1 M)
  unfold f_X10_banks
  refine c_aload_n (i := 0) dX10_banks_0 rfl rfl ?_
  refine c_iconst dX10_banks_1 (v := 0) rfl ?_
  refine pf_RX10_60 (blk_get0 KSm_b0) dX10_banks_2 ?_
  refine c_wrt (fun M1 => ?_)
  refine c_aload_n (i := 0) dX10_banks_5 rfl rfl ?_
  refine c_aload_n (i := 0) dX10_banks_6 rfl rfl ?_
  refine c_iload_n (i := 1) dX10_banks_7 rfl rfl ?_
  refine c_callVp (as := [.inl x1]) (rs := [.inr 0]) (ev_X10_isBatch 1 (Nat.le_refl _) x1 M1) rfl (Nat.lt_of_lt_of_le (by decide) hlev) mw_X10_isBatch wi_X10_isBatch wv_X10_isBatch (blk_get0 KSm_b0) (by decide) rfl wl_RX10_235 mn_X10_isBatch rfl (by decide) (Nat.le_of_ble_eq_true rfl) ⟨_, rfl⟩ dX10_banks_8 ?_
  refine c_iconst dX10_banks_11 (v := 1) rfl ?_
  refine c_callV (as := [.inl (p_X10_isBatch x1 M1), .inl 1]) (rs := []) (ev_X10_may 0 (Nat.le_refl _) (p_X10_isBatch x1 M1) 1 M1) rfl (Nat.lt_of_lt_of_le (by decide) hlev) mw_X10_may wi_X10_may wv_X10_may (blk_get0 KSm_b0) (by decide) rfl wl_RX10_66 mn_X10_may rfl (by decide) (Nat.le_of_ble_eq_true rfl) ⟨_, rfl⟩ dX10_banks_12 (fun v2 M3 _ => ?_)
  refine c_if_eq (tgt := 26) dX10_banks_15 rfl (fun h4 => ?_) (fun h4 => ?_)
  · refine c_iconst dX10_banks_26 (v := 0) rfl ?_
    refine c_keep [] (ls2 := []) rfl ?_
    exact jo_X10_banks_27 d hlev 0 M3
  · refine c_aload_n (i := 0) dX10_banks_18 rfl rfl ?_
    refine c_iload_n (i := 1) dX10_banks_19 rfl rfl ?_
    refine c_callV (as := [.inl x1]) (rs := []) (ev_X10_banksOf 0 (Nat.le_refl _) x1 M3) rfl (Nat.lt_of_lt_of_le (by decide) hlev) mw_X10_banksOf wi_X10_banksOf wv_X10_banksOf (blk_get0 KSm_b0) (by decide) rfl wl_RX10_238 mn_X10_banksOf rfl (by decide) (Nat.le_of_ble_eq_true rfl) ⟨_, rfl⟩ dX10_banks_20 (fun v5 M6 _ => ?_)
    refine c_goto (tgt := 27) dX10_banks_23 rfl ?_
    refine c_keep [] (ls2 := []) rfl ?_
    exact jo_X10_banks_27 d hlev v5 M6

abbrev mdX10_word : MD := (yX10_word, cX10_word, 3, (some .int))
theorem mw_X10_word : mdW mdX10_word := ⟨wm_X10_word, w0_RX10, by decide, by decide⟩
theorem mn_X10_word : (parseMethodDescriptor yX10_word.desc).map (fun d => d.parameters.length) = some 3 := by decide +kernel
def p_X10_word (x0 : Int32) (x1 : Int32) (x2 : Int32) : Int32 := (160 + (8 * ((16 * x0) + x1))) + x2
set_option maxRecDepth 20000 in
set_option maxHeartbeats 2000000 in
theorem ev_X10_word (d : Nat) (hlev : 0 ≤ d) (x0 : Int32) (x1 : Int32) (x2 : Int32) (M : Mem) : Ev KSm ST1 mdX10_word d [.inl x0, .inl x1, .inl x2] M (some (p_X10_word x0 x1 x2, M)) := by
  refine ev_of rfl (Nat.le_of_ble_eq_true rfl) ?_
  show CorM KSm ST1 RX10 cX10_word 3 (some .int) d 0 [(0, .inl x0), (1, .inl x1), (2, .inl x2)] [] M (some (p_X10_word x0 x1 x2, M))
  unfold p_X10_word
  refine c_sipush dX10_word_0 (v := 160) rfl ?_
  refine c_bipush dX10_word_3 (v := 8) rfl ?_
  refine c_bipush dX10_word_5 (v := 16) rfl ?_
  refine c_iload_n (i := 0) dX10_word_7 rfl rfl ?_
  refine c_imul dX10_word_8 ?_
  refine c_iload_n (i := 1) dX10_word_9 rfl rfl ?_
  refine c_iadd dX10_word_10 ?_
  refine c_imul dX10_word_11 ?_
  refine c_iadd dX10_word_12 ?_
  refine c_iload_n (i := 2) dX10_word_13 rfl rfl ?_
  refine c_iadd dX10_word_14 ?_
  exact c_iret rfl dX10_word_15

abbrev mdX10_lane : MD := (yX10_lane, cX10_lane, 3, (some .int))
theorem mw_X10_lane : mdW mdX10_lane := ⟨wm_X10_lane, w0_RX10, by decide, by decide⟩
theorem mn_X10_lane : (parseMethodDescriptor yX10_lane.desc).map (fun d => d.parameters.length) = some 3 := by decide +kernel
def p_X10_lane (x0 : Int32) (x1 : Int32) (x2 : Int32) : Int32 := (1184 + (8 * ((4 * x0) + x1))) + x2
set_option maxRecDepth 20000 in
set_option maxHeartbeats 2000000 in
theorem ev_X10_lane (d : Nat) (hlev : 0 ≤ d) (x0 : Int32) (x1 : Int32) (x2 : Int32) (M : Mem) : Ev KSm ST1 mdX10_lane d [.inl x0, .inl x1, .inl x2] M (some (p_X10_lane x0 x1 x2, M)) := by
  refine ev_of rfl (Nat.le_of_ble_eq_true rfl) ?_
  show CorM KSm ST1 RX10 cX10_lane 3 (some .int) d 0 [(0, .inl x0), (1, .inl x1), (2, .inl x2)] [] M (some (p_X10_lane x0 x1 x2, M))
  unfold p_X10_lane
  refine c_sipush dX10_lane_0 (v := 1184) rfl ?_
  refine c_bipush dX10_lane_3 (v := 8) rfl ?_
  refine c_iconst dX10_lane_5 (v := 4) rfl ?_
  refine c_iload_n (i := 0) dX10_lane_6 rfl rfl ?_
  refine c_imul dX10_lane_7 ?_
  refine c_iload_n (i := 1) dX10_lane_8 rfl rfl ?_
  refine c_iadd dX10_lane_9 ?_
  refine c_imul dX10_lane_10 ?_
  refine c_iadd dX10_lane_11 ?_
  refine c_iload_n (i := 2) dX10_lane_12 rfl rfl ?_
  refine c_iadd dX10_lane_13 ?_
  exact c_iret rfl dX10_lane_14

abbrev mdX10_memory : MD := (yX10_memory, cX10_memory, 4, (some .int))
theorem mw_X10_memory : mdW mdX10_memory := ⟨wm_X10_memory, w0_RX10, by decide, by decide⟩
theorem mn_X10_memory : (parseMethodDescriptor yX10_memory.desc).map (fun d => d.parameters.length) = some 3 := by decide +kernel
def j_X10_memory_50 (w0 : Int32) (M : Mem) : Option (Int32 × Mem) := some (w0, M)
set_option maxRecDepth 20000 in
set_option maxHeartbeats 2000000 in
theorem jo_X10_memory_50 (d : Nat) (hlev : 3 ≤ d) (w0 : Int32) (M : Mem) : CorM KSm ST1 RX10 cX10_memory 4 (some .int) d 50 [] [.inl w0] M (j_X10_memory_50 w0 M) := by
  unfold j_X10_memory_50
  exact c_iret rfl dX10_memory_50
def f_X10_memory (x1 : Int32) (x2 : Int32) (x3 : Int32) (M : Mem) : Option (Int32 × Mem) := wrt (up M 0 0 0) (fun M1 => bnd (f_X10_may (if (p_X10_isRow x1 x2 M1) = 0 then (0 : Int32) else if (p_X10_isColumn x3 M1) = 0 then (0 : Int32) else (1 : Int32)) 1 M1) (fun v3 M4 => if v3 = 0 then j_X10_memory_50 0 M4 else if inb (p_X10_word x1 x2 x3) 1671 then j_X10_memory_50 (M4 1 (ix (p_X10_word x1 x2 x3))) M4 else none))
set_option maxRecDepth 20000 in
set_option maxHeartbeats 2000000 in
theorem ev_X10_memory (d : Nat) (hlev : 3 ≤ d) (x1 : Int32) (x2 : Int32) (x3 : Int32) (M : Mem) : Ev KSm ST1 mdX10_memory d [.inr 0, .inl x1, .inl x2, .inl x3] M (f_X10_memory x1 x2 x3 M) := by
  refine ev_of rfl (Nat.le_of_ble_eq_true rfl) ?_
  show CorM KSm ST1 RX10 cX10_memory 4 (some .int) d 0 [(0, .inr 0), (1, .inl x1), (2, .inl x2), (3, .inl x3)] [] M (f_X10_memory x1 x2 x3 M)
  unfold f_X10_memory
  refine c_aload_n (i := 0) dX10_memory_0 rfl rfl ?_
  refine c_iconst dX10_memory_1 (v := 0) rfl ?_
  refine pf_RX10_60 (blk_get0 KSm_b0) dX10_memory_2 ?_
  refine c_wrt (fun M1 => ?_)
  refine c_aload_n (i := 0) dX10_memory_5 rfl rfl ?_
  refine c_aload_n (i := 0) dX10_memory_6 rfl rfl ?_
  refine c_iload_n (i := 1) dX10_memory_7 rfl rfl ?_
  refine c_iload_n (i := 2) dX10_memory_8 rfl rfl ?_
  refine c_callVp (as := [.inl x1, .inl x2]) (rs := [.inr 0]) (ev_X10_isRow 2 (Nat.le_refl _) x1 x2 M1) rfl (Nat.lt_of_lt_of_le (by decide) hlev) mw_X10_isRow wi_X10_isRow wv_X10_isRow (blk_get0 KSm_b0) (by decide) rfl wl_RX10_241 mn_X10_isRow rfl (by decide) (Nat.le_of_ble_eq_true rfl) ⟨_, rfl⟩ dX10_memory_9 ?_
  have J_z2 : ∀ z2 : Int32, isB z2 → CorM KSm ST1 RX10 cX10_memory 4 (some .int) d 28 [(0, .inr 0), (1, .inl x1), (2, .inl x2), (3, .inl x3)] [.inl z2, .inr 0] M1 (bnd (f_X10_may z2 1 M1) (fun v3 M4 => if v3 = 0 then j_X10_memory_50 0 M4 else if inb (p_X10_word x1 x2 x3) 1671 then j_X10_memory_50 (M4 1 (ix (p_X10_word x1 x2 x3))) M4 else none)) := by
    intro z2 h_z2
    refine c_iconst dX10_memory_28 (v := 1) rfl ?_
    refine c_callV (as := [.inl z2, .inl 1]) (rs := []) (ev_X10_may 0 (Nat.le_refl _) z2 1 M1) rfl (Nat.lt_of_lt_of_le (by decide) hlev) mw_X10_may wi_X10_may wv_X10_may (blk_get0 KSm_b0) (by decide) rfl wl_RX10_66 mn_X10_may rfl (by decide) (Nat.le_of_ble_eq_true rfl) ⟨_, rfl⟩ dX10_memory_29 (fun v3 M4 _ => ?_)
    refine c_if_eq (tgt := 49) dX10_memory_32 rfl (fun h5 => ?_) (fun h5 => ?_)
    · refine c_iconst dX10_memory_49 (v := 0) rfl ?_
      refine c_keep [] (ls2 := []) rfl ?_
      exact jo_X10_memory_50 d hlev 0 M4
    · refine c_aload_n (i := 0) dX10_memory_35 rfl rfl ?_
      refine gf_RX10_9 (blk_get0 KSm_b0) dX10_memory_36 ?_
      refine c_iload_n (i := 1) dX10_memory_39 rfl rfl ?_
      refine c_iload_n (i := 2) dX10_memory_40 rfl rfl ?_
      refine c_iload_n (i := 3) dX10_memory_41 rfl rfl ?_
      refine c_callSp (as := [.inl x1, .inl x2, .inl x3]) (rs := [.inr 1]) (ev_X10_word 0 (Nat.le_refl _) x1 x2 x3 M4) rfl (Nat.lt_of_lt_of_le (by decide) hlev) mw_X10_word ws_X10_word wl_RX10_247 mn_X10_word rfl (by decide) (Nat.le_of_ble_eq_true rfl) ⟨_, rfl⟩ dX10_memory_42 ?_
      refine c_chk (fun h6 => ?_)
      refine c_iald (blk_get0 (blk_sub (C := [(20, 1671)]) (i := 1) KSm_b0 rfl)) h6 dX10_memory_45 ?_
      refine c_goto (tgt := 50) dX10_memory_46 rfl ?_
      refine c_keep [] (ls2 := []) rfl ?_
      exact jo_X10_memory_50 d hlev (M4 1 (ix (p_X10_word x1 x2 x3))) M4
  refine c_val (b := (p_X10_isRow x1 x2 M1) = 0) (v1 := (0 : Int32)) (v2 := if (p_X10_isColumn x3 M1) = 0 then (0 : Int32) else (1 : Int32)) (F := fun z2 => bnd (f_X10_may z2 1 M1) (fun v3 M4 => if v3 = 0 then j_X10_memory_50 0 M4 else if inb (p_X10_word x1 x2 x3) 1671 then j_X10_memory_50 (M4 1 (ix (p_X10_word x1 x2 x3))) M4 else none)) (fun h7 => ?_) (fun h7 => ?_)
  · refine c_T h7 (c_if_eq (tgt := 27) dX10_memory_12 rfl (fun _ => ?_) (fun q => absurd h7 q))
    refine c_iconst dX10_memory_27 (v := 0) rfl ?_
    refine c_keep [0, 1, 2, 3] (ls2 := [(0, .inr 0), (1, .inl x1), (2, .inl x2), (3, .inl x3)]) rfl ?_
    exact J_z2 0 (Or.inl rfl)
  · refine c_Fl h7 (c_if_eq (tgt := 27) dX10_memory_12 rfl (fun q => absurd q h7) (fun _ => ?_))
    refine c_aload_n (i := 0) dX10_memory_15 rfl rfl ?_
    refine c_iload_n (i := 3) dX10_memory_16 rfl rfl ?_
    refine c_callVp (as := [.inl x3]) (rs := [.inr 0]) (ev_X10_isColumn 1 (Nat.le_refl _) x3 M1) rfl (Nat.lt_of_lt_of_le (by decide) hlev) mw_X10_isColumn wi_X10_isColumn wv_X10_isColumn (blk_get0 KSm_b0) (by decide) rfl wl_RX10_244 mn_X10_isColumn rfl (by decide) (Nat.le_of_ble_eq_true rfl) ⟨_, rfl⟩ dX10_memory_17 ?_
    refine c_val (b := (p_X10_isColumn x3 M1) = 0) (v1 := (0 : Int32)) (v2 := (1 : Int32)) (F := fun z2 => bnd (f_X10_may z2 1 M1) (fun v3 M4 => if v3 = 0 then j_X10_memory_50 0 M4 else if inb (p_X10_word x1 x2 x3) 1671 then j_X10_memory_50 (M4 1 (ix (p_X10_word x1 x2 x3))) M4 else none)) (fun h8 => ?_) (fun h8 => ?_)
    · refine c_T h8 (c_if_eq (tgt := 27) dX10_memory_20 rfl (fun _ => ?_) (fun q => absurd h8 q))
      refine c_iconst dX10_memory_27 (v := 0) rfl ?_
      refine c_keep [0, 1, 2, 3] (ls2 := [(0, .inr 0), (1, .inl x1), (2, .inl x2), (3, .inl x3)]) rfl ?_
      exact J_z2 0 (Or.inl rfl)
    · refine c_Fl h8 (c_if_eq (tgt := 27) dX10_memory_20 rfl (fun q => absurd q h8) (fun _ => ?_))
      refine c_iconst dX10_memory_23 (v := 1) rfl ?_
      refine c_goto (tgt := 28) dX10_memory_24 rfl ?_
      refine c_keep [0, 1, 2, 3] (ls2 := [(0, .inr 0), (1, .inl x1), (2, .inl x2), (3, .inl x3)]) rfl ?_
      exact J_z2 1 (Or.inr rfl)

abbrev mdX10_register_ : MD := (yX10_register_, cX10_register_, 4, (some .int))
theorem mw_X10_register_ : mdW mdX10_register_ := ⟨wm_X10_register_, w0_RX10, by decide, by decide⟩
theorem mn_X10_register_ : (parseMethodDescriptor yX10_register_.desc).map (fun d => d.parameters.length) = some 3 := by decide +kernel
def j_X10_register__58 (w0 : Int32) (M : Mem) : Option (Int32 × Mem) := some (w0, M)
set_option maxRecDepth 20000 in
set_option maxHeartbeats 2000000 in
theorem jo_X10_register__58 (d : Nat) (hlev : 2 ≤ d) (w0 : Int32) (M : Mem) : CorM KSm ST1 RX10 cX10_register_ 4 (some .int) d 58 [] [.inl w0] M (j_X10_register__58 w0 M) := by
  unfold j_X10_register__58
  exact c_iret rfl dX10_register__58
def f_X10_register_ (x1 : Int32) (x2 : Int32) (x3 : Int32) (M : Mem) : Option (Int32 × Mem) := wrt (up M 0 0 0) (fun M1 => bnd (f_X10_may (if (p_X10_isBank x1 M1) = 0 then (0 : Int32) else if (p_X10_isIn x2 0 3) = 0 then (0 : Int32) else if (p_X10_isColumn x3 M1) = 0 then (0 : Int32) else (1 : Int32)) 1 M1) (fun v3 M4 => if v3 = 0 then j_X10_register__58 0 M4 else if inb (p_X10_lane x1 x2 x3) 1671 then j_X10_register__58 (M4 1 (ix (p_X10_lane x1 x2 x3))) M4 else none))
set_option maxRecDepth 20000 in
set_option maxHeartbeats 2000000 in
theorem ev_X10_register_ (d : Nat) (hlev : 2 ≤ d) (x1 : Int32) (x2 : Int32) (x3 : Int32) (M : Mem) : Ev KSm ST1 mdX10_register_ d [.inr 0, .inl x1, .inl x2, .inl x3] M (f_X10_register_ x1 x2 x3 M) := by
  refine ev_of rfl (Nat.le_of_ble_eq_true rfl) ?_
  show CorM KSm ST1 RX10 cX10_register_ 4 (some .int) d 0 [(0, .inr 0), (1, .inl x1), (2, .inl x2), (3, .inl x3)] [] M (f_X10_register_ x1 x2 x3 M)
  unfold f_X10_register_
  refine c_aload_n (i := 0) dX10_register__0 rfl rfl ?_
  refine c_iconst dX10_register__1 (v := 0) rfl ?_
  refine pf_RX10_60 (blk_get0 KSm_b0) dX10_register__2 ?_
  refine c_wrt (fun M1 => ?_)
  refine c_aload_n (i := 0) dX10_register__5 rfl rfl ?_
  refine c_aload_n (i := 0) dX10_register__6 rfl rfl ?_
  refine c_iload_n (i := 1) dX10_register__7 rfl rfl ?_
  refine c_callVp (as := [.inl x1]) (rs := [.inr 0]) (ev_X10_isBank 1 (Nat.le_refl _) x1 M1) rfl (Nat.lt_of_lt_of_le (by decide) hlev) mw_X10_isBank wi_X10_isBank wv_X10_isBank (blk_get0 KSm_b0) (by decide) rfl wl_RX10_227 mn_X10_isBank rfl (by decide) (Nat.le_of_ble_eq_true rfl) ⟨_, rfl⟩ dX10_register__8 ?_
  have J_z2 : ∀ z2 : Int32, isB z2 → CorM KSm ST1 RX10 cX10_register_ 4 (some .int) d 36 [(0, .inr 0), (1, .inl x1), (2, .inl x2), (3, .inl x3)] [.inl z2, .inr 0] M1 (bnd (f_X10_may z2 1 M1) (fun v3 M4 => if v3 = 0 then j_X10_register__58 0 M4 else if inb (p_X10_lane x1 x2 x3) 1671 then j_X10_register__58 (M4 1 (ix (p_X10_lane x1 x2 x3))) M4 else none)) := by
    intro z2 h_z2
    refine c_iconst dX10_register__36 (v := 1) rfl ?_
    refine c_callV (as := [.inl z2, .inl 1]) (rs := []) (ev_X10_may 0 (Nat.le_refl _) z2 1 M1) rfl (Nat.lt_of_lt_of_le (by decide) hlev) mw_X10_may wi_X10_may wv_X10_may (blk_get0 KSm_b0) (by decide) rfl wl_RX10_66 mn_X10_may rfl (by decide) (Nat.le_of_ble_eq_true rfl) ⟨_, rfl⟩ dX10_register__37 (fun v3 M4 _ => ?_)
    refine c_if_eq (tgt := 57) dX10_register__40 rfl (fun h5 => ?_) (fun h5 => ?_)
    · refine c_iconst dX10_register__57 (v := 0) rfl ?_
      refine c_keep [] (ls2 := []) rfl ?_
      exact jo_X10_register__58 d hlev 0 M4
    · refine c_aload_n (i := 0) dX10_register__43 rfl rfl ?_
      refine gf_RX10_9 (blk_get0 KSm_b0) dX10_register__44 ?_
      refine c_iload_n (i := 1) dX10_register__47 rfl rfl ?_
      refine c_iload_n (i := 2) dX10_register__48 rfl rfl ?_
      refine c_iload_n (i := 3) dX10_register__49 rfl rfl ?_
      refine c_callSp (as := [.inl x1, .inl x2, .inl x3]) (rs := [.inr 1]) (ev_X10_lane 0 (Nat.le_refl _) x1 x2 x3 M4) rfl (Nat.lt_of_lt_of_le (by decide) hlev) mw_X10_lane ws_X10_lane wl_RX10_251 mn_X10_lane rfl (by decide) (Nat.le_of_ble_eq_true rfl) ⟨_, rfl⟩ dX10_register__50 ?_
      refine c_chk (fun h6 => ?_)
      refine c_iald (blk_get0 (blk_sub (C := [(20, 1671)]) (i := 1) KSm_b0 rfl)) h6 dX10_register__53 ?_
      refine c_goto (tgt := 58) dX10_register__54 rfl ?_
      refine c_keep [] (ls2 := []) rfl ?_
      exact jo_X10_register__58 d hlev (M4 1 (ix (p_X10_lane x1 x2 x3))) M4
  refine c_val (b := (p_X10_isBank x1 M1) = 0) (v1 := (0 : Int32)) (v2 := if (p_X10_isIn x2 0 3) = 0 then (0 : Int32) else if (p_X10_isColumn x3 M1) = 0 then (0 : Int32) else (1 : Int32)) (F := fun z2 => bnd (f_X10_may z2 1 M1) (fun v3 M4 => if v3 = 0 then j_X10_register__58 0 M4 else if inb (p_X10_lane x1 x2 x3) 1671 then j_X10_register__58 (M4 1 (ix (p_X10_lane x1 x2 x3))) M4 else none)) (fun h7 => ?_) (fun h7 => ?_)
  · refine c_T h7 (c_if_eq (tgt := 35) dX10_register__11 rfl (fun _ => ?_) (fun q => absurd h7 q))
    refine c_iconst dX10_register__35 (v := 0) rfl ?_
    refine c_keep [0, 1, 2, 3] (ls2 := [(0, .inr 0), (1, .inl x1), (2, .inl x2), (3, .inl x3)]) rfl ?_
    exact J_z2 0 (Or.inl rfl)
  · refine c_Fl h7 (c_if_eq (tgt := 35) dX10_register__11 rfl (fun q => absurd q h7) (fun _ => ?_))
    refine c_iload_n (i := 2) dX10_register__14 rfl rfl ?_
    refine c_iconst dX10_register__15 (v := 0) rfl ?_
    refine c_iconst dX10_register__16 (v := 3) rfl ?_
    refine c_callSp (as := [.inl x2, .inl 0, .inl 3]) (rs := [.inr 0]) (ev_X10_isIn 0 (Nat.le_refl _) x2 0 3 M1) rfl (Nat.lt_of_lt_of_le (by decide) hlev) mw_X10_isIn ws_X10_isIn wl_RX10_70 mn_X10_isIn rfl (by decide) (Nat.le_of_ble_eq_true rfl) ⟨_, rfl⟩ dX10_register__17 ?_
    refine c_val (b := (p_X10_isIn x2 0 3) = 0) (v1 := (0 : Int32)) (v2 := if (p_X10_isColumn x3 M1) = 0 then (0 : Int32) else (1 : Int32)) (F := fun z2 => bnd (f_X10_may z2 1 M1) (fun v3 M4 => if v3 = 0 then j_X10_register__58 0 M4 else if inb (p_X10_lane x1 x2 x3) 1671 then j_X10_register__58 (M4 1 (ix (p_X10_lane x1 x2 x3))) M4 else none)) (fun h8 => ?_) (fun h8 => ?_)
    · refine c_T h8 (c_if_eq (tgt := 35) dX10_register__20 rfl (fun _ => ?_) (fun q => absurd h8 q))
      refine c_iconst dX10_register__35 (v := 0) rfl ?_
      refine c_keep [0, 1, 2, 3] (ls2 := [(0, .inr 0), (1, .inl x1), (2, .inl x2), (3, .inl x3)]) rfl ?_
      exact J_z2 0 (Or.inl rfl)
    · refine c_Fl h8 (c_if_eq (tgt := 35) dX10_register__20 rfl (fun q => absurd q h8) (fun _ => ?_))
      refine c_aload_n (i := 0) dX10_register__23 rfl rfl ?_
      refine c_iload_n (i := 3) dX10_register__24 rfl rfl ?_
      refine c_callVp (as := [.inl x3]) (rs := [.inr 0]) (ev_X10_isColumn 1 (Nat.le_refl _) x3 M1) rfl (Nat.lt_of_lt_of_le (by decide) hlev) mw_X10_isColumn wi_X10_isColumn wv_X10_isColumn (blk_get0 KSm_b0) (by decide) rfl wl_RX10_244 mn_X10_isColumn rfl (by decide) (Nat.le_of_ble_eq_true rfl) ⟨_, rfl⟩ dX10_register__25 ?_
      refine c_val (b := (p_X10_isColumn x3 M1) = 0) (v1 := (0 : Int32)) (v2 := (1 : Int32)) (F := fun z2 => bnd (f_X10_may z2 1 M1) (fun v3 M4 => if v3 = 0 then j_X10_register__58 0 M4 else if inb (p_X10_lane x1 x2 x3) 1671 then j_X10_register__58 (M4 1 (ix (p_X10_lane x1 x2 x3))) M4 else none)) (fun h9 => ?_) (fun h9 => ?_)
      · refine c_T h9 (c_if_eq (tgt := 35) dX10_register__28 rfl (fun _ => ?_) (fun q => absurd h9 q))
        refine c_iconst dX10_register__35 (v := 0) rfl ?_
        refine c_keep [0, 1, 2, 3] (ls2 := [(0, .inr 0), (1, .inl x1), (2, .inl x2), (3, .inl x3)]) rfl ?_
        exact J_z2 0 (Or.inl rfl)
      · refine c_Fl h9 (c_if_eq (tgt := 35) dX10_register__28 rfl (fun q => absurd q h9) (fun _ => ?_))
        refine c_iconst dX10_register__31 (v := 1) rfl ?_
        refine c_goto (tgt := 36) dX10_register__32 rfl ?_
        refine c_keep [0, 1, 2, 3] (ls2 := [(0, .inr 0), (1, .inl x1), (2, .inl x2), (3, .inl x3)]) rfl ?_
        exact J_z2 1 (Or.inr rfl)

abbrev mdX10_joined : MD := (yX10_joined, cX10_joined, 3, (some .int))
theorem mw_X10_joined : mdW mdX10_joined := ⟨wm_X10_joined, w0_RX10, by decide, by decide⟩
theorem mn_X10_joined : (parseMethodDescriptor yX10_joined.desc).map (fun d => d.parameters.length) = some 3 := by decide +kernel
def p_X10_joined (x0 : Int32) (x1 : Int32) (x2 : Int32) : Int32 := if x0 = 0 then x1 + x2 else if x0 = 1 then x1 * x2 else if x0 = 2 then (if x2 ≤ x1 then x2 else x1) else if x0 = 3 then (if x1 ≤ x2 then x2 else x1) else if x0 = 4 then x1 &&& x2 else if x0 = 5 then x1 ||| x2 else if x0 = 6 then x1 ^^^ x2 else x1 - x2
set_option maxRecDepth 20000 in
set_option maxHeartbeats 2000000 in
theorem ev_X10_joined (d : Nat) (hlev : 0 ≤ d) (x0 : Int32) (x1 : Int32) (x2 : Int32) (M : Mem) : Ev KSm ST1 mdX10_joined d [.inl x0, .inl x1, .inl x2] M (some (p_X10_joined x0 x1 x2, M)) := by
  refine ev_of rfl (Nat.le_of_ble_eq_true rfl) ?_
  show CorM KSm ST1 RX10 cX10_joined 3 (some .int) d 0 [(0, .inl x0), (1, .inl x1), (2, .inl x2)] [] M (some (p_X10_joined x0 x1 x2, M))
  unfold p_X10_joined
  refine c_iload_n (i := 0) dX10_joined_0 rfl rfl ?_
  refine c_val (F := fun z => some (z, M)) (fun h1 => ?_) (fun h1 => ?_)
  · refine c_tableIn (tgt := 44) dX10_joined_1 (by rw [h1] <;> decide) (by rw [h1] <;> decide) (by rw [h1] <;> rfl) rfl ?_
    refine c_iload_n (i := 1) dX10_joined_44 rfl rfl ?_
    refine c_iload_n (i := 2) dX10_joined_45 rfl rfl ?_
    refine c_iadd dX10_joined_46 ?_
    exact c_iret rfl dX10_joined_47
  · refine c_val (F := fun z => some (z, M)) (fun h2 => ?_) (fun h2 => ?_)
    · refine c_tableIn (tgt := 48) dX10_joined_1 (by rw [h2] <;> decide) (by rw [h2] <;> decide) (by rw [h2] <;> rfl) rfl ?_
      refine c_iload_n (i := 1) dX10_joined_48 rfl rfl ?_
      refine c_iload_n (i := 2) dX10_joined_49 rfl rfl ?_
      refine c_imul dX10_joined_50 ?_
      exact c_iret rfl dX10_joined_51
    · refine c_val (F := fun z => some (z, M)) (fun h3 => ?_) (fun h3 => ?_)
      · refine c_tableIn (tgt := 52) dX10_joined_1 (by rw [h3] <;> decide) (by rw [h3] <;> decide) (by rw [h3] <;> rfl) rfl ?_
        refine c_iload_n (i := 1) dX10_joined_52 rfl rfl ?_
        refine c_iload_n (i := 2) dX10_joined_53 rfl rfl ?_
        have J_z4 : ∀ z4 : Int32, CorM KSm ST1 RX10 cX10_joined 3 (some .int) d 62 [] [.inl z4] M (some (z4, M)) := by
          intro z4
          exact c_iret rfl dX10_joined_62
        refine c_val (b := x2 ≤ x1) (v1 := x2) (v2 := x1) (F := fun z4 => some (z4, M)) (fun h5 => ?_) (fun h5 => ?_)
        · refine c_T h5 (c_icmp_ge (tgt := 61) dX10_joined_54 rfl (fun _ => ?_) (fun q => absurd h5 q))
          refine c_iload_n (i := 2) dX10_joined_61 rfl rfl ?_
          refine c_keep [] (ls2 := []) rfl ?_
          exact J_z4 x2
        · refine c_Fl h5 (c_icmp_ge (tgt := 61) dX10_joined_54 rfl (fun q => absurd q h5) (fun _ => ?_))
          refine c_iload_n (i := 1) dX10_joined_57 rfl rfl ?_
          refine c_goto (tgt := 62) dX10_joined_58 rfl ?_
          refine c_keep [] (ls2 := []) rfl ?_
          exact J_z4 x1
      · refine c_val (F := fun z => some (z, M)) (fun h6 => ?_) (fun h6 => ?_)
        · refine c_tableIn (tgt := 63) dX10_joined_1 (by rw [h6] <;> decide) (by rw [h6] <;> decide) (by rw [h6] <;> rfl) rfl ?_
          refine c_iload_n (i := 1) dX10_joined_63 rfl rfl ?_
          refine c_iload_n (i := 2) dX10_joined_64 rfl rfl ?_
          have J_z7 : ∀ z7 : Int32, CorM KSm ST1 RX10 cX10_joined 3 (some .int) d 73 [] [.inl z7] M (some (z7, M)) := by
            intro z7
            exact c_iret rfl dX10_joined_73
          refine c_val (b := x1 ≤ x2) (v1 := x2) (v2 := x1) (F := fun z7 => some (z7, M)) (fun h8 => ?_) (fun h8 => ?_)
          · refine c_T h8 (c_icmp_le (tgt := 72) dX10_joined_65 rfl (fun _ => ?_) (fun q => absurd h8 q))
            refine c_iload_n (i := 2) dX10_joined_72 rfl rfl ?_
            refine c_keep [] (ls2 := []) rfl ?_
            exact J_z7 x2
          · refine c_Fl h8 (c_icmp_le (tgt := 72) dX10_joined_65 rfl (fun q => absurd q h8) (fun _ => ?_))
            refine c_iload_n (i := 1) dX10_joined_68 rfl rfl ?_
            refine c_goto (tgt := 73) dX10_joined_69 rfl ?_
            refine c_keep [] (ls2 := []) rfl ?_
            exact J_z7 x1
        · refine c_val (F := fun z => some (z, M)) (fun h9 => ?_) (fun h9 => ?_)
          · refine c_tableIn (tgt := 74) dX10_joined_1 (by rw [h9] <;> decide) (by rw [h9] <;> decide) (by rw [h9] <;> rfl) rfl ?_
            refine c_iload_n (i := 1) dX10_joined_74 rfl rfl ?_
            refine c_iload_n (i := 2) dX10_joined_75 rfl rfl ?_
            refine c_iand dX10_joined_76 ?_
            exact c_iret rfl dX10_joined_77
          · refine c_val (F := fun z => some (z, M)) (fun h10 => ?_) (fun h10 => ?_)
            · refine c_tableIn (tgt := 78) dX10_joined_1 (by rw [h10] <;> decide) (by rw [h10] <;> decide) (by rw [h10] <;> rfl) rfl ?_
              refine c_iload_n (i := 1) dX10_joined_78 rfl rfl ?_
              refine c_iload_n (i := 2) dX10_joined_79 rfl rfl ?_
              refine c_ior dX10_joined_80 ?_
              exact c_iret rfl dX10_joined_81
            · refine c_val (F := fun z => some (z, M)) (fun h11 => ?_) (fun h11 => ?_)
              · refine c_tableIn (tgt := 82) dX10_joined_1 (by rw [h11] <;> decide) (by rw [h11] <;> decide) (by rw [h11] <;> rfl) rfl ?_
                refine c_iload_n (i := 1) dX10_joined_82 rfl rfl ?_
                refine c_iload_n (i := 2) dX10_joined_83 rfl rfl ?_
                refine c_ixor dX10_joined_84 ?_
                exact c_iret rfl dX10_joined_85
              · refine c_tableOut (tgt := 86) dX10_joined_1 (sw_tab 0 7 (ks := [0, 1, 2, 3, 4, 5, 6]) (List.forall_mem_cons.mpr ⟨h1, (List.forall_mem_cons.mpr ⟨h2, (List.forall_mem_cons.mpr ⟨h3, (List.forall_mem_cons.mpr ⟨h6, (List.forall_mem_cons.mpr ⟨h9, (List.forall_mem_cons.mpr ⟨h10, (List.forall_mem_cons.mpr ⟨h11, (fun _ q => absurd q List.not_mem_nil)⟩)⟩)⟩)⟩)⟩)⟩)⟩) (by decide)) rfl ?_
                refine c_iload_n (i := 1) dX10_joined_86 rfl rfl ?_
                refine c_iload_n (i := 2) dX10_joined_87 rfl rfl ?_
                refine c_isub dX10_joined_88 ?_
                exact c_iret rfl dX10_joined_89

abbrev mdX10_lowest : MD := (yX10_lowest, cX10_lowest, 2, (some .int))
theorem mw_X10_lowest : mdW mdX10_lowest := ⟨wm_X10_lowest, w0_RX10, by decide, by decide⟩
theorem mn_X10_lowest : (parseMethodDescriptor yX10_lowest.desc).map (fun d => d.parameters.length) = some 1 := by decide +kernel
def l_X10_lowest_2 (x0 : Int32) (K2 : Int32 × Mem → Option (Int32 × Mem)) : Int32 × Mem → Option (Int32 × Mem) := fun s => match s with
  | (x1, M) => if ¬ (p_X10_has x0 x1) = 0 then some (x1, M) else K2 (x1 + 1, M)
set_option maxRecDepth 20000 in
set_option maxHeartbeats 2000000 in
theorem lo_X10_lowest_2 (d : Nat) (hlev : 1 ≤ d) (x0 : Int32) (s : Int32 × Mem) : CorM KSm ST1 RX10 cX10_lowest 2 (some .int) d 2 [(0, .inl x0), (1, .inl s.1)] [] s.2 (loopC (l_X10_lowest_2 x0) fuelL s) := by
  refine c_loop (L := fun s : Int32 × Mem => [(0, .inl x0), (1, .inl s.1)]) (Mf := fun s : Int32 × Mem => s.2) (fun K2 hK2 s => ?_) fuelL s
  obtain ⟨x1, M⟩ := s
  show CorM KSm ST1 RX10 cX10_lowest 2 (some .int) d 2 [(0, .inl x0), (1, .inl x1)] [] M (l_X10_lowest_2 x0 K2 (x1, M))
  unfold l_X10_lowest_2
  refine c_iload_n (i := 0) dX10_lowest_2 rfl rfl ?_
  refine c_iload_n (i := 1) dX10_lowest_3 rfl rfl ?_
  refine c_callSp (as := [.inl x0, .inl x1]) (rs := []) (ev_X10_has 0 (Nat.le_refl _) x0 x1 M) rfl (Nat.lt_of_lt_of_le (by decide) hlev) mw_X10_has ws_X10_has wl_RX10_169 mn_X10_has rfl (by decide) (Nat.le_of_ble_eq_true rfl) ⟨_, rfl⟩ dX10_lowest_4 ?_
  refine c_if_ne (tgt := 16) dX10_lowest_7 rfl (fun h1 => ?_) (fun h1 => ?_)
  · refine c_iload_n (i := 1) dX10_lowest_16 rfl rfl ?_
    exact c_iret rfl dX10_lowest_17
  · refine c_iinc dX10_lowest_10 rfl (v := 1) rfl (by decide) (ls2 := [(0, .inl x0), (1, .inl (x1 + 1))]) rfl ?_
    refine c_goto (tgt := 2) dX10_lowest_13 rfl ?_
    refine c_keep [0, 1] (ls2 := [(0, .inl x0), (1, .inl (x1 + 1))]) rfl ?_
    exact hK2 (x1 + 1, M)
def f_X10_lowest (x0 : Int32) (M : Mem) : Option (Int32 × Mem) := loopC (l_X10_lowest_2 x0) fuelL (0, M)
set_option maxRecDepth 20000 in
set_option maxHeartbeats 2000000 in
theorem ev_X10_lowest (d : Nat) (hlev : 1 ≤ d) (x0 : Int32) (M : Mem) : Ev KSm ST1 mdX10_lowest d [.inl x0] M (f_X10_lowest x0 M) := by
  refine ev_of rfl (Nat.le_of_ble_eq_true rfl) ?_
  show CorM KSm ST1 RX10 cX10_lowest 2 (some .int) d 0 [(0, .inl x0)] [] M (f_X10_lowest x0 M)
  unfold f_X10_lowest
  refine c_iconst dX10_lowest_0 (v := 0) rfl ?_
  refine c_istore_n (i := 1) dX10_lowest_1 rfl (by decide) (ls2 := [(0, .inl x0), (1, .inl 0)]) rfl ?_
  refine c_keep [0, 1] (ls2 := [(0, .inl x0), (1, .inl 0)]) rfl ?_
  exact lo_X10_lowest_2 d hlev x0 (0, M)
