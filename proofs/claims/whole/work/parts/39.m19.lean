abbrev mdX10_differs : MD := (yX10_differs, cX10_differs, 3, (some .boolean))
theorem mw_X10_differs : mdW mdX10_differs := ⟨wm_X10_differs, w0_RX10, by decide, by decide⟩
theorem mn_X10_differs : (parseMethodDescriptor yX10_differs.desc).map (fun d => d.parameters.length) = some 1 := by decide +kernel
def l_X10_differs_2 (x1 : Int32) (K2 : Int32 × Mem → Option (Int32 × Mem)) : Int32 × Mem → Option (Int32 × Mem) := fun s => match s with
  | (x2, M) => if (M 5 2) ≤ x2 then some (0, M) else if inb (p_X10_cell x1 (3 + x2)) 1671 then if inb (p_X10_cell x1 0) 1671 then if inb (p_X10_cell x1 1) 1671 then if inb (p_X10_word (M 1 (ix (p_X10_cell x1 0))) (M 1 (ix (p_X10_cell x1 1))) x2) 1671 then if (M 1 (ix (p_X10_cell x1 (3 + x2)))) = (M 1 (ix (p_X10_word (M 1 (ix (p_X10_cell x1 0))) (M 1 (ix (p_X10_cell x1 1))) x2))) then K2 (x2 + 1, M) else some (1, M) else none else none else none else none
set_option maxRecDepth 20000 in
set_option maxHeartbeats 2000000 in
theorem lo_X10_differs_2 (d : Nat) (hlev : 1 ≤ d) (x1 : Int32) (s : Int32 × Mem) : CorM KSm ST1 RX10 cX10_differs 3 (some .boolean) d 2 [(0, .inr 0), (1, .inl x1), (2, .inl s.1)] [] s.2 (loopC (l_X10_differs_2 x1) fuelL s) := by
  refine c_loop (L := fun s : Int32 × Mem => [(0, .inr 0), (1, .inl x1), (2, .inl s.1)]) (Mf := fun s : Int32 × Mem => s.2) (fun K2 hK2 s => ?_) fuelL s
  obtain ⟨x2, M⟩ := s
  show CorM KSm ST1 RX10 cX10_differs 3 (some .boolean) d 2 [(0, .inr 0), (1, .inl x1), (2, .inl x2)] [] M (l_X10_differs_2 x1 K2 (x2, M))
  unfold l_X10_differs_2
  refine c_iload_n (i := 2) dX10_differs_2 rfl rfl ?_
  refine c_aload_n (i := 0) dX10_differs_3 rfl rfl ?_
  refine gf_RX10_23 (blk_get0 KSm_b0) dX10_differs_4 ?_
  refine c_iconst dX10_differs_7 (v := 2) rfl ?_
  refine c_iald (blk_get0 (blk_sub (C := [(20, 290)]) (i := 5) KSm_b0 rfl)) (by decide) dX10_differs_8 ?_
  refine c_icmp_ge (tgt := 64) dX10_differs_9 rfl (fun h1 => ?_) (fun h1 => ?_)
  · refine c_iconst dX10_differs_64 (v := 0) rfl ?_
    exact c_zret rfl (Or.inl rfl) dX10_differs_65
  · refine c_aload_n (i := 0) dX10_differs_12 rfl rfl ?_
    refine gf_RX10_9 (blk_get0 KSm_b0) dX10_differs_13 ?_
    refine c_iload_n (i := 1) dX10_differs_16 rfl rfl ?_
    refine c_iconst dX10_differs_17 (v := 3) rfl ?_
    refine c_iload_n (i := 2) dX10_differs_18 rfl rfl ?_
    refine c_iadd dX10_differs_19 ?_
    refine c_callSp (as := [.inl x1, .inl (3 + x2)]) (rs := [.inr 1]) (ev_X10_cell 0 (Nat.le_refl _) x1 (3 + x2) M) rfl (Nat.lt_of_lt_of_le (by decide) hlev) mw_X10_cell ws_X10_cell wl_RX10_310 mn_X10_cell rfl (by decide) (Nat.le_of_ble_eq_true rfl) ⟨_, rfl⟩ dX10_differs_20 ?_
    refine c_chk (fun h2 => ?_)
    refine c_iald (blk_get0 (blk_sub (C := [(20, 1671)]) (i := 1) KSm_b0 rfl)) h2 dX10_differs_23 ?_
    refine c_aload_n (i := 0) dX10_differs_24 rfl rfl ?_
    refine gf_RX10_9 (blk_get0 KSm_b0) dX10_differs_25 ?_
    refine c_aload_n (i := 0) dX10_differs_28 rfl rfl ?_
    refine gf_RX10_9 (blk_get0 KSm_b0) dX10_differs_29 ?_
    refine c_iload_n (i := 1) dX10_differs_32 rfl rfl ?_
    refine c_iconst dX10_differs_33 (v := 0) rfl ?_
    refine c_callSp (as := [.inl x1, .inl 0]) (rs := [.inr 1, .inr 1, .inl (M 1 (ix (p_X10_cell x1 (3 + x2))))]) (ev_X10_cell 0 (Nat.le_refl _) x1 0 M) rfl (Nat.lt_of_lt_of_le (by decide) hlev) mw_X10_cell ws_X10_cell wl_RX10_310 mn_X10_cell rfl (by decide) (Nat.le_of_ble_eq_true rfl) ⟨_, rfl⟩ dX10_differs_34 ?_
    refine c_chk (fun h3 => ?_)
    refine c_iald (blk_get0 (blk_sub (C := [(20, 1671)]) (i := 1) KSm_b0 rfl)) h3 dX10_differs_37 ?_
    refine c_aload_n (i := 0) dX10_differs_38 rfl rfl ?_
    refine gf_RX10_9 (blk_get0 KSm_b0) dX10_differs_39 ?_
    refine c_iload_n (i := 1) dX10_differs_42 rfl rfl ?_
    refine c_iconst dX10_differs_43 (v := 1) rfl ?_
    refine c_callSp (as := [.inl x1, .inl 1]) (rs := [.inr 1, .inl (M 1 (ix (p_X10_cell x1 0))), .inr 1, .inl (M 1 (ix (p_X10_cell x1 (3 + x2))))]) (ev_X10_cell 0 (Nat.le_refl _) x1 1 M) rfl (Nat.lt_of_lt_of_le (by decide) hlev) mw_X10_cell ws_X10_cell wl_RX10_310 mn_X10_cell rfl (by decide) (Nat.le_of_ble_eq_true rfl) ⟨_, rfl⟩ dX10_differs_44 ?_
    refine c_chk (fun h4 => ?_)
    refine c_iald (blk_get0 (blk_sub (C := [(20, 1671)]) (i := 1) KSm_b0 rfl)) h4 dX10_differs_47 ?_
    refine c_iload_n (i := 2) dX10_differs_48 rfl rfl ?_
    refine c_callSp (as := [.inl (M 1 (ix (p_X10_cell x1 0))), .inl (M 1 (ix (p_X10_cell x1 1))), .inl x2]) (rs := [.inr 1, .inl (M 1 (ix (p_X10_cell x1 (3 + x2))))]) (ev_X10_word 0 (Nat.le_refl _) (M 1 (ix (p_X10_cell x1 0))) (M 1 (ix (p_X10_cell x1 1))) x2 M) rfl (Nat.lt_of_lt_of_le (by decide) hlev) mw_X10_word ws_X10_word wl_RX10_247 mn_X10_word rfl (by decide) (Nat.le_of_ble_eq_true rfl) ⟨_, rfl⟩ dX10_differs_49 ?_
    refine c_chk (fun h5 => ?_)
    refine c_iald (blk_get0 (blk_sub (C := [(20, 1671)]) (i := 1) KSm_b0 rfl)) h5 dX10_differs_52 ?_
    refine c_icmp_eq (tgt := 58) dX10_differs_53 rfl (fun h6 => ?_) (fun h6 => ?_)
    · refine c_iinc dX10_differs_58 rfl (v := 1) rfl (by decide) (ls2 := [(0, .inr 0), (1, .inl x1), (2, .inl (x2 + 1))]) rfl ?_
      refine c_goto (tgt := 2) dX10_differs_61 rfl ?_
      refine c_keep [0, 1, 2] (ls2 := [(0, .inr 0), (1, .inl x1), (2, .inl (x2 + 1))]) rfl ?_
      exact hK2 (x2 + 1, M)
    · refine c_iconst dX10_differs_56 (v := 1) rfl ?_
      exact c_zret rfl (Or.inr rfl) dX10_differs_57
def f_X10_differs (x1 : Int32) (M : Mem) : Option (Int32 × Mem) := loopC (l_X10_differs_2 x1) fuelL (0, M)
set_option maxRecDepth 20000 in
set_option maxHeartbeats 2000000 in
theorem ev_X10_differs (d : Nat) (hlev : 1 ≤ d) (x1 : Int32) (M : Mem) : Ev KSm ST1 mdX10_differs d [.inr 0, .inl x1] M (f_X10_differs x1 M) := by
  refine ev_of rfl (Nat.le_of_ble_eq_true rfl) ?_
  show CorM KSm ST1 RX10 cX10_differs 3 (some .boolean) d 0 [(0, .inr 0), (1, .inl x1)] [] M (f_X10_differs x1 M)
  unfold f_X10_differs
  refine c_iconst dX10_differs_0 (v := 0) rfl ?_
  refine c_istore_n (i := 2) dX10_differs_1 rfl (by decide) (ls2 := [(0, .inr 0), (1, .inl x1), (2, .inl 0)]) rfl ?_
  refine c_keep [0, 1, 2] (ls2 := [(0, .inr 0), (1, .inl x1), (2, .inl 0)]) rfl ?_
  exact lo_X10_differs_2 d hlev x1 (0, M)

abbrev mdX10_line : MD := (yX10_line, cX10_line, 4, (some .int))
theorem mw_X10_line : mdW mdX10_line := ⟨wm_X10_line, w0_RX10, by decide, by decide⟩
theorem mn_X10_line : (parseMethodDescriptor yX10_line.desc).map (fun d => d.parameters.length) = some 2 := by decide +kernel
def j_X10_line_63 (w0 : Int32) (M : Mem) : Option (Int32 × Mem) := some (w0, M)
set_option maxRecDepth 20000 in
set_option maxHeartbeats 2000000 in
theorem jo_X10_line_63 (d : Nat) (hlev : 3 ≤ d) (w0 : Int32) (M : Mem) : CorM KSm ST1 RX10 cX10_line 4 (some .int) d 63 [] [.inl w0] M (j_X10_line_63 w0 M) := by
  unfold j_X10_line_63
  exact c_iret rfl dX10_line_63
def f_X10_line (x1 : Int32) (x2 : Int32) (M : Mem) : Option (Int32 × Mem) := wrt (up M 0 0 0) (fun M1 => bnd (f_X10_may (p_X10_isRow x1 x2 M1) 1 M1) (fun v2 M3 => if ¬ v2 = 0 then bnd (f_X10_lineOf x1 x2 M3) (fun v5 M6 => if ¬ v5 = (-1) then if inb (p_X10_cell v5 2) 1671 then bnd (f_X10_differs v5 M6) (fun v9 M10 => j_X10_line_63 ((1 + (M6 1 (ix (p_X10_cell v5 2)))) + (if v9 = 0 then (0 : Int32) else (4 : Int32))) M10) else none else j_X10_line_63 0 M6) else some (0, M3)))
set_option maxRecDepth 20000 in
set_option maxHeartbeats 2000000 in
theorem ev_X10_line (d : Nat) (hlev : 3 ≤ d) (x1 : Int32) (x2 : Int32) (M : Mem) : Ev KSm ST1 mdX10_line d [.inr 0, .inl x1, .inl x2] M (f_X10_line x1 x2 M) := by
  refine ev_of rfl (Nat.le_of_ble_eq_true rfl) ?_
  show CorM KSm ST1 RX10 cX10_line 4 (some .int) d 0 [(0, .inr 0), (1, .inl x1), (2, .inl x2)] [] M (f_X10_line x1 x2 M)
  unfold f_X10_line
  refine c_aload_n (i := 0) dX10_line_0 rfl rfl ?_
  refine c_iconst dX10_line_1 (v := 0) rfl ?_
  refine pf_RX10_60 (blk_get0 KSm_b0) dX10_line_2 ?_
  refine c_wrt (fun M1 => ?_)
  refine c_aload_n (i := 0) dX10_line_5 rfl rfl ?_
  refine c_aload_n (i := 0) dX10_line_6 rfl rfl ?_
  refine c_iload_n (i := 1) dX10_line_7 rfl rfl ?_
  refine c_iload_n (i := 2) dX10_line_8 rfl rfl ?_
  refine c_callVp (as := [.inl x1, .inl x2]) (rs := [.inr 0]) (ev_X10_isRow 2 (Nat.le_refl _) x1 x2 M1) rfl (Nat.lt_of_lt_of_le (by decide) hlev) mw_X10_isRow wi_X10_isRow wv_X10_isRow (blk_get0 KSm_b0) (by decide) rfl wl_RX10_241 mn_X10_isRow rfl (by decide) (Nat.le_of_ble_eq_true rfl) ⟨_, rfl⟩ dX10_line_9 ?_
  refine c_iconst dX10_line_12 (v := 1) rfl ?_
  refine c_callV (as := [.inl (p_X10_isRow x1 x2 M1), .inl 1]) (rs := []) (ev_X10_may 0 (Nat.le_refl _) (p_X10_isRow x1 x2 M1) 1 M1) rfl (Nat.lt_of_lt_of_le (by decide) hlev) mw_X10_may wi_X10_may wv_X10_may (blk_get0 KSm_b0) (by decide) rfl wl_RX10_66 mn_X10_may rfl (by decide) (Nat.le_of_ble_eq_true rfl) ⟨_, rfl⟩ dX10_line_13 (fun v2 M3 _ => ?_)
  refine c_if_ne (tgt := 21) dX10_line_16 rfl (fun h4 => ?_) (fun h4 => ?_)
  · refine c_aload_n (i := 0) dX10_line_21 rfl rfl ?_
    refine c_iload_n (i := 1) dX10_line_22 rfl rfl ?_
    refine c_iload_n (i := 2) dX10_line_23 rfl rfl ?_
    refine c_callV (as := [.inl x1, .inl x2]) (rs := []) (ev_X10_lineOf 1 (Nat.le_refl _) x1 x2 M3) rfl (Nat.lt_of_lt_of_le (by decide) hlev) mw_X10_lineOf wi_X10_lineOf wv_X10_lineOf (blk_get0 KSm_b0) (by decide) rfl wl_RX10_313 mn_X10_lineOf rfl (by decide) (Nat.le_of_ble_eq_true rfl) ⟨_, rfl⟩ dX10_line_24 (fun v5 M6 _ => ?_)
    refine c_istore_n (i := 3) dX10_line_27 rfl (by decide) (ls2 := [(0, .inr 0), (1, .inl x1), (2, .inl x2), (3, .inl v5)]) rfl ?_
    refine c_iload_n (i := 3) dX10_line_28 rfl rfl ?_
    refine c_iconst dX10_line_29 (v := (-1)) rfl ?_
    refine c_icmp_ne (tgt := 37) dX10_line_30 rfl (fun h7 => ?_) (fun h7 => ?_)
    · refine c_iconst dX10_line_37 (v := 1) rfl ?_
      refine c_aload_n (i := 0) dX10_line_38 rfl rfl ?_
      refine gf_RX10_9 (blk_get0 KSm_b0) dX10_line_39 ?_
      refine c_iload_n (i := 3) dX10_line_42 rfl rfl ?_
      refine c_iconst dX10_line_43 (v := 2) rfl ?_
      refine c_callSp (as := [.inl v5, .inl 2]) (rs := [.inr 1, .inl 1]) (ev_X10_cell 0 (Nat.le_refl _) v5 2 M6) rfl (Nat.lt_of_lt_of_le (by decide) hlev) mw_X10_cell ws_X10_cell wl_RX10_310 mn_X10_cell rfl (by decide) (Nat.le_of_ble_eq_true rfl) ⟨_, rfl⟩ dX10_line_44 ?_
      refine c_chk (fun h8 => ?_)
      refine c_iald (blk_get0 (blk_sub (C := [(20, 1671)]) (i := 1) KSm_b0 rfl)) h8 dX10_line_47 ?_
      refine c_iadd dX10_line_48 ?_
      refine c_aload_n (i := 0) dX10_line_49 rfl rfl ?_
      refine c_iload_n (i := 3) dX10_line_50 rfl rfl ?_
      refine c_callV (as := [.inl v5]) (rs := [.inl (1 + (M6 1 (ix (p_X10_cell v5 2))))]) (ev_X10_differs 1 (Nat.le_refl _) v5 M6) rfl (Nat.lt_of_lt_of_le (by decide) hlev) mw_X10_differs wi_X10_differs wv_X10_differs (blk_get0 KSm_b0) (by decide) rfl wl_RX10_331 mn_X10_differs rfl (by decide) (Nat.le_of_ble_eq_true rfl) ⟨_, rfl⟩ dX10_line_51 (fun v9 M10 _ => ?_)
      have J_z11 : ∀ z11 : Int32, CorM KSm ST1 RX10 cX10_line 4 (some .int) d 62 [] [.inl z11, .inl (1 + (M6 1 (ix (p_X10_cell v5 2))))] M10 (j_X10_line_63 ((1 + (M6 1 (ix (p_X10_cell v5 2)))) + z11) M10) := by
        intro z11
        refine c_iadd dX10_line_62 ?_
        refine c_keep [] (ls2 := []) rfl ?_
        exact jo_X10_line_63 d hlev ((1 + (M6 1 (ix (p_X10_cell v5 2)))) + z11) M10
      refine c_val (b := v9 = 0) (v1 := (0 : Int32)) (v2 := (4 : Int32)) (F := fun z11 => j_X10_line_63 ((1 + (M6 1 (ix (p_X10_cell v5 2)))) + z11) M10) (fun h12 => ?_) (fun h12 => ?_)
      · refine c_T h12 (c_if_eq (tgt := 61) dX10_line_54 rfl (fun _ => ?_) (fun q => absurd h12 q))
        refine c_iconst dX10_line_61 (v := 0) rfl ?_
        refine c_keep [] (ls2 := []) rfl ?_
        exact J_z11 0
      · refine c_Fl h12 (c_if_eq (tgt := 61) dX10_line_54 rfl (fun q => absurd q h12) (fun _ => ?_))
        refine c_iconst dX10_line_57 (v := 4) rfl ?_
        refine c_goto (tgt := 62) dX10_line_58 rfl ?_
        refine c_keep [] (ls2 := []) rfl ?_
        exact J_z11 4
    · refine c_iconst dX10_line_33 (v := 0) rfl ?_
      refine c_goto (tgt := 63) dX10_line_34 rfl ?_
      refine c_keep [] (ls2 := []) rfl ?_
      exact jo_X10_line_63 d hlev 0 M6
  · refine c_iconst dX10_line_19 (v := 0) rfl ?_
    exact c_iret rfl dX10_line_20

abbrev mdX10_cache : MD := (yX10_cache, cX10_cache, 2, (some .int))
theorem mw_X10_cache : mdW mdX10_cache := ⟨wm_X10_cache, w0_RX10, by decide, by decide⟩
theorem mn_X10_cache : (parseMethodDescriptor yX10_cache.desc).map (fun d => d.parameters.length) = some 1 := by decide +kernel
def j_X10_cache_33 (w0 : Int32) (M : Mem) : Option (Int32 × Mem) := some (w0, M)
set_option maxRecDepth 20000 in
set_option maxHeartbeats 2000000 in
theorem jo_X10_cache_33 (d : Nat) (hlev : 1 ≤ d) (w0 : Int32) (M : Mem) : CorM KSm ST1 RX10 cX10_cache 2 (some .int) d 33 [] [.inl w0] M (j_X10_cache_33 w0 M) := by
  unfold j_X10_cache_33
  exact c_iret rfl dX10_cache_33
def f_X10_cache (x1 : Int32) (M : Mem) : Option (Int32 × Mem) := wrt (up M 0 0 0) (fun M1 => bnd (f_X10_may (p_X10_isIn x1 0 2) 1 M1) (fun v2 M3 => if v2 = 0 then j_X10_cache_33 0 M3 else if inb (1667 + x1) 1671 then j_X10_cache_33 (M3 1 (ix (1667 + x1))) M3 else none))
set_option maxRecDepth 20000 in
set_option maxHeartbeats 2000000 in
theorem ev_X10_cache (d : Nat) (hlev : 1 ≤ d) (x1 : Int32) (M : Mem) : Ev KSm ST1 mdX10_cache d [.inr 0, .inl x1] M (f_X10_cache x1 M) := by
  refine ev_of rfl (Nat.le_of_ble_eq_true rfl) ?_
  show CorM KSm ST1 RX10 cX10_cache 2 (some .int) d 0 [(0, .inr 0), (1, .inl x1)] [] M (f_X10_cache x1 M)
  unfold f_X10_cache
  refine c_aload_n (i := 0) dX10_cache_0 rfl rfl ?_
  refine c_iconst dX10_cache_1 (v := 0) rfl ?_
  refine pf_RX10_60 (blk_get0 KSm_b0) dX10_cache_2 ?_
  refine c_wrt (fun M1 => ?_)
  refine c_aload_n (i := 0) dX10_cache_5 rfl rfl ?_
  refine c_iload_n (i := 1) dX10_cache_6 rfl rfl ?_
  refine c_iconst dX10_cache_7 (v := 0) rfl ?_
  refine c_iconst dX10_cache_8 (v := 2) rfl ?_
  refine c_callSp (as := [.inl x1, .inl 0, .inl 2]) (rs := [.inr 0]) (ev_X10_isIn 0 (Nat.le_refl _) x1 0 2 M1) rfl (Nat.lt_of_lt_of_le (by decide) hlev) mw_X10_isIn ws_X10_isIn wl_RX10_70 mn_X10_isIn rfl (by decide) (Nat.le_of_ble_eq_true rfl) ⟨_, rfl⟩ dX10_cache_9 ?_
  refine c_iconst dX10_cache_12 (v := 1) rfl ?_
  refine c_callV (as := [.inl (p_X10_isIn x1 0 2), .inl 1]) (rs := []) (ev_X10_may 0 (Nat.le_refl _) (p_X10_isIn x1 0 2) 1 M1) rfl (Nat.lt_of_lt_of_le (by decide) hlev) mw_X10_may wi_X10_may wv_X10_may (blk_get0 KSm_b0) (by decide) rfl wl_RX10_66 mn_X10_may rfl (by decide) (Nat.le_of_ble_eq_true rfl) ⟨_, rfl⟩ dX10_cache_13 (fun v2 M3 _ => ?_)
  refine c_if_eq (tgt := 32) dX10_cache_16 rfl (fun h4 => ?_) (fun h4 => ?_)
  · refine c_iconst dX10_cache_32 (v := 0) rfl ?_
    refine c_keep [] (ls2 := []) rfl ?_
    exact jo_X10_cache_33 d hlev 0 M3
  · refine c_aload_n (i := 0) dX10_cache_19 rfl rfl ?_
    refine gf_RX10_9 (blk_get0 KSm_b0) dX10_cache_20 ?_
    refine c_sipush dX10_cache_23 (v := 1667) rfl ?_
    refine c_iload_n (i := 1) dX10_cache_26 rfl rfl ?_
    refine c_iadd dX10_cache_27 ?_
    refine c_chk (fun h5 => ?_)
    refine c_iald (blk_get0 (blk_sub (C := [(20, 1671)]) (i := 1) KSm_b0 rfl)) h5 dX10_cache_28 ?_
    refine c_goto (tgt := 33) dX10_cache_29 rfl ?_
    refine c_keep [] (ls2 := []) rfl ?_
    exact jo_X10_cache_33 d hlev (M3 1 (ix (1667 + x1))) M3

abbrev mdX10_setCoherence : MD := (yX10_setCoherence, cX10_setCoherence, 3, (some .boolean))
theorem mw_X10_setCoherence : mdW mdX10_setCoherence := ⟨wm_X10_setCoherence, w0_RX10, by decide, by decide⟩
theorem mn_X10_setCoherence : (parseMethodDescriptor yX10_setCoherence.desc).map (fun d => d.parameters.length) = some 1 := by decide +kernel
def f_X10_setCoherence (x1 : Int32) (M : Mem) : Option (Int32 × Mem) := wrt (up M 0 0 0) (fun M1 => wrt (up M1 1 1670 (if x1 = 0 then (0 : Int32) else (1 : Int32))) (fun M4 => some ((if ¬ (M1 1 1670) = 1 then (0 : Int32) else (1 : Int32)), M4)))
set_option maxRecDepth 20000 in
set_option maxHeartbeats 2000000 in
theorem ev_X10_setCoherence (d : Nat) (hlev : 0 ≤ d) (x1 : Int32) (M : Mem) : Ev KSm ST1 mdX10_setCoherence d [.inr 0, .inl x1] M (f_X10_setCoherence x1 M) := by
  refine ev_of rfl (Nat.le_of_ble_eq_true rfl) ?_
  show CorM KSm ST1 RX10 cX10_setCoherence 3 (some .boolean) d 0 [(0, .inr 0), (1, .inl x1)] [] M (f_X10_setCoherence x1 M)
  unfold f_X10_setCoherence
  refine c_aload_n (i := 0) dX10_setCoherence_0 rfl rfl ?_
  refine c_iconst dX10_setCoherence_1 (v := 0) rfl ?_
  refine pf_RX10_60 (blk_get0 KSm_b0) dX10_setCoherence_2 ?_
  refine c_wrt (fun M1 => ?_)
  refine c_aload_n (i := 0) dX10_setCoherence_5 rfl rfl ?_
  refine gf_RX10_9 (blk_get0 KSm_b0) dX10_setCoherence_6 ?_
  refine c_sipush dX10_setCoherence_9 (v := 1670) rfl ?_
  refine c_iald (blk_get0 (blk_sub (C := [(20, 1671)]) (i := 1) KSm_b0 rfl)) (by decide) dX10_setCoherence_12 ?_
  refine c_iconst dX10_setCoherence_13 (v := 1) rfl ?_
  have J_z2 : ∀ z2 : Int32, isB z2 → CorM KSm ST1 RX10 cX10_setCoherence 3 (some .boolean) d 22 [(0, .inr 0), (1, .inl x1)] [.inl z2] M1 (wrt (up M1 1 1670 (if x1 = 0 then (0 : Int32) else (1 : Int32))) (fun M4 => some (z2, M4))) := by
    intro z2 h_z2
    refine c_istore_n (i := 2) dX10_setCoherence_22 rfl (by decide) (ls2 := [(0, .inr 0), (1, .inl x1), (2, .inl z2)]) rfl ?_
    refine c_aload_n (i := 0) dX10_setCoherence_23 rfl rfl ?_
    refine gf_RX10_9 (blk_get0 KSm_b0) dX10_setCoherence_24 ?_
    refine c_sipush dX10_setCoherence_27 (v := 1670) rfl ?_
    refine c_iload_n (i := 1) dX10_setCoherence_30 rfl rfl ?_
    have J_z3 : ∀ z3 : Int32, isB z3 → CorM KSm ST1 RX10 cX10_setCoherence 3 (some .boolean) d 39 [(2, .inl z2)] [.inl z3, .inl 1670, .inr 1] M1 (wrt (up M1 1 1670 z3) (fun M4 => some (z2, M4))) := by
      intro z3 h_z3
      refine c_iast (blk_get0 (blk_sub (C := [(20, 1671)]) (i := 1) KSm_b0 rfl)) (by decide) dX10_setCoherence_39 ?_
      refine c_wrt (fun M4 => ?_)
      refine c_iload_n (i := 2) dX10_setCoherence_40 rfl rfl ?_
      exact c_zret rfl h_z2 dX10_setCoherence_41
    refine c_val (b := x1 = 0) (v1 := (0 : Int32)) (v2 := (1 : Int32)) (F := fun z3 => wrt (up M1 1 1670 z3) (fun M4 => some (z2, M4))) (fun h5 => ?_) (fun h5 => ?_)
    · refine c_T h5 (c_if_eq (tgt := 38) dX10_setCoherence_31 rfl (fun _ => ?_) (fun q => absurd h5 q))
      refine c_iconst dX10_setCoherence_38 (v := 0) rfl ?_
      refine c_keep [2] (ls2 := [(2, .inl z2)]) rfl ?_
      exact J_z3 0 (Or.inl rfl)
    · refine c_Fl h5 (c_if_eq (tgt := 38) dX10_setCoherence_31 rfl (fun q => absurd q h5) (fun _ => ?_))
      refine c_iconst dX10_setCoherence_34 (v := 1) rfl ?_
      refine c_goto (tgt := 39) dX10_setCoherence_35 rfl ?_
      refine c_keep [2] (ls2 := [(2, .inl z2)]) rfl ?_
      exact J_z3 1 (Or.inr rfl)
  refine c_val (b := ¬ (M1 1 1670) = 1) (v1 := (0 : Int32)) (v2 := (1 : Int32)) (F := fun z2 => wrt (up M1 1 1670 (if x1 = 0 then (0 : Int32) else (1 : Int32))) (fun M4 => some (z2, M4))) (fun h6 => ?_) (fun h6 => ?_)
  · refine c_T h6 (c_icmp_ne (tgt := 21) dX10_setCoherence_14 rfl (fun _ => ?_) (fun q => absurd h6 q))
    refine c_iconst dX10_setCoherence_21 (v := 0) rfl ?_
    refine c_keep [0, 1] (ls2 := [(0, .inr 0), (1, .inl x1)]) rfl ?_
    exact J_z2 0 (Or.inl rfl)
  · refine c_Fl h6 (c_icmp_ne (tgt := 21) dX10_setCoherence_14 rfl (fun q => absurd q h6) (fun _ => ?_))
    refine c_iconst dX10_setCoherence_17 (v := 1) rfl ?_
    refine c_goto (tgt := 22) dX10_setCoherence_18 rfl ?_
    refine c_keep [0, 1] (ls2 := [(0, .inr 0), (1, .inl x1)]) rfl ?_
    exact J_z2 1 (Or.inr rfl)

abbrev mdX10_submit : MD := (yX10_submit, cX10_submit, 2, (some .int))
theorem mw_X10_submit : mdW mdX10_submit := ⟨wm_X10_submit, w0_RX10, by decide, by decide⟩
theorem mn_X10_submit : (parseMethodDescriptor yX10_submit.desc).map (fun d => d.parameters.length) = some 1 := by decide +kernel
def j_X10_submit_44 (M : Mem) : Option (Int32 × Mem) := some (0, M)
set_option maxRecDepth 20000 in
set_option maxHeartbeats 2000000 in
theorem jo_X10_submit_44 (d : Nat) (hlev : 2 ≤ d) (M : Mem) : CorM KSm ST1 RX10 cX10_submit 2 (some .int) d 44 [] [] M (j_X10_submit_44 M) := by
  unfold j_X10_submit_44
  refine c_iconst dX10_submit_44 (v := 0) rfl ?_
  exact c_iret rfl dX10_submit_45
def f_X10_submit (x1 : Int32) (M : Mem) : Option (Int32 × Mem) := wrt (up M 0 0 0) (fun M1 => bnd (f_X10_may (p_X10_isBatch x1 M1) 1 M1) (fun v2 M3 => if v2 = 0 then j_X10_submit_44 M3 else bnd (f_X10_may (if 16 ≤ (M3 1 1440) then (0 : Int32) else (1 : Int32)) 2 M3) (fun v6 M7 => if ¬ v6 = 0 then if inb (1441 + (M7 1 1440)) 1671 then wrt (up M7 1 (ix (1441 + (M7 1 1440))) x1) (fun M10 => wrt (up M10 1 1440 ((M10 1 1440) + 1)) (fun M11 => some (M11 1 1440, M11))) else none else j_X10_submit_44 M7)))
set_option maxRecDepth 20000 in
set_option maxHeartbeats 2000000 in
theorem ev_X10_submit (d : Nat) (hlev : 2 ≤ d) (x1 : Int32) (M : Mem) : Ev KSm ST1 mdX10_submit d [.inr 0, .inl x1] M (f_X10_submit x1 M) := by
  refine ev_of rfl (Nat.le_of_ble_eq_true rfl) ?_
  show CorM KSm ST1 RX10 cX10_submit 2 (some .int) d 0 [(0, .inr 0), (1, .inl x1)] [] M (f_X10_submit x1 M)
  unfold f_X10_submit
  refine c_aload_n (i := 0) dX10_submit_0 rfl rfl ?_
  refine c_iconst dX10_submit_1 (v := 0) rfl ?_
  refine pf_RX10_60 (blk_get0 KSm_b0) dX10_submit_2 ?_
  refine c_wrt (fun M1 => ?_)
  refine c_aload_n (i := 0) dX10_submit_5 rfl rfl ?_
  refine c_aload_n (i := 0) dX10_submit_6 rfl rfl ?_
  refine c_iload_n (i := 1) dX10_submit_7 rfl rfl ?_
  refine c_callVp (as := [.inl x1]) (rs := [.inr 0]) (ev_X10_isBatch 1 (Nat.le_refl _) x1 M1) rfl (Nat.lt_of_lt_of_le (by decide) hlev) mw_X10_isBatch wi_X10_isBatch wv_X10_isBatch (blk_get0 KSm_b0) (by decide) rfl wl_RX10_235 mn_X10_isBatch rfl (by decide) (Nat.le_of_ble_eq_true rfl) ⟨_, rfl⟩ dX10_submit_8 ?_
  refine c_iconst dX10_submit_11 (v := 1) rfl ?_
  refine c_callV (as := [.inl (p_X10_isBatch x1 M1), .inl 1]) (rs := []) (ev_X10_may 0 (Nat.le_refl _) (p_X10_isBatch x1 M1) 1 M1) rfl (Nat.lt_of_lt_of_le (by decide) hlev) mw_X10_may wi_X10_may wv_X10_may (blk_get0 KSm_b0) (by decide) rfl wl_RX10_66 mn_X10_may rfl (by decide) (Nat.le_of_ble_eq_true rfl) ⟨_, rfl⟩ dX10_submit_12 (fun v2 M3 _ => ?_)
  refine c_if_eq (tgt := 44) dX10_submit_15 rfl (fun h4 => ?_) (fun h4 => ?_)
  · refine c_keep [] (ls2 := []) rfl ?_
    exact jo_X10_submit_44 d hlev M3
  · refine c_aload_n (i := 0) dX10_submit_18 rfl rfl ?_
    refine c_aload_n (i := 0) dX10_submit_19 rfl rfl ?_
    refine gf_RX10_9 (blk_get0 KSm_b0) dX10_submit_20 ?_
    refine c_sipush dX10_submit_23 (v := 1440) rfl ?_
    refine c_iald (blk_get0 (blk_sub (C := [(20, 1671)]) (i := 1) KSm_b0 rfl)) (by decide) dX10_submit_26 ?_
    refine c_bipush dX10_submit_27 (v := 16) rfl ?_
    have J_z5 : ∀ z5 : Int32, isB z5 → CorM KSm ST1 RX10 cX10_submit 2 (some .int) d 37 [(0, .inr 0), (1, .inl x1)] [.inl z5, .inr 0] M3 (bnd (f_X10_may z5 2 M3) (fun v6 M7 => if ¬ v6 = 0 then if inb (1441 + (M7 1 1440)) 1671 then wrt (up M7 1 (ix (1441 + (M7 1 1440))) x1) (fun M10 => wrt (up M10 1 1440 ((M10 1 1440) + 1)) (fun M11 => some (M11 1 1440, M11))) else none else j_X10_submit_44 M7)) := by
      intro z5 h_z5
      refine c_iconst dX10_submit_37 (v := 2) rfl ?_
      refine c_callV (as := [.inl z5, .inl 2]) (rs := []) (ev_X10_may 0 (Nat.le_refl _) z5 2 M3) rfl (Nat.lt_of_lt_of_le (by decide) hlev) mw_X10_may wi_X10_may wv_X10_may (blk_get0 KSm_b0) (by decide) rfl wl_RX10_66 mn_X10_may rfl (by decide) (Nat.le_of_ble_eq_true rfl) ⟨_, rfl⟩ dX10_submit_38 (fun v6 M7 _ => ?_)
      refine c_if_ne (tgt := 46) dX10_submit_41 rfl (fun h8 => ?_) (fun h8 => ?_)
      · refine c_aload_n (i := 0) dX10_submit_46 rfl rfl ?_
        refine gf_RX10_9 (blk_get0 KSm_b0) dX10_submit_47 ?_
        refine c_sipush dX10_submit_50 (v := 1441) rfl ?_
        refine c_aload_n (i := 0) dX10_submit_53 rfl rfl ?_
        refine gf_RX10_9 (blk_get0 KSm_b0) dX10_submit_54 ?_
        refine c_sipush dX10_submit_57 (v := 1440) rfl ?_
        refine c_iald (blk_get0 (blk_sub (C := [(20, 1671)]) (i := 1) KSm_b0 rfl)) (by decide) dX10_submit_60 ?_
        refine c_iadd dX10_submit_61 ?_
        refine c_iload_n (i := 1) dX10_submit_62 rfl rfl ?_
        refine c_chk (fun h9 => ?_)
        refine c_iast (blk_get0 (blk_sub (C := [(20, 1671)]) (i := 1) KSm_b0 rfl)) h9 dX10_submit_63 ?_
        refine c_wrt (fun M10 => ?_)
        refine c_aload_n (i := 0) dX10_submit_64 rfl rfl ?_
        refine gf_RX10_9 (blk_get0 KSm_b0) dX10_submit_65 ?_
        refine c_sipush dX10_submit_68 (v := 1440) rfl ?_
        refine c_dup2 dX10_submit_71 ?_
        refine c_iald (blk_get0 (blk_sub (C := [(20, 1671)]) (i := 1) KSm_b0 rfl)) (by decide) dX10_submit_72 ?_
        refine c_iconst dX10_submit_73 (v := 1) rfl ?_
        refine c_iadd dX10_submit_74 ?_
        refine c_iast (blk_get0 (blk_sub (C := [(20, 1671)]) (i := 1) KSm_b0 rfl)) (by decide) dX10_submit_75 ?_
        refine c_wrt (fun M11 => ?_)
        refine c_aload_n (i := 0) dX10_submit_76 rfl rfl ?_
        refine gf_RX10_9 (blk_get0 KSm_b0) dX10_submit_77 ?_
        refine c_sipush dX10_submit_80 (v := 1440) rfl ?_
        refine c_iald (blk_get0 (blk_sub (C := [(20, 1671)]) (i := 1) KSm_b0 rfl)) (by decide) dX10_submit_83 ?_
        exact c_iret rfl dX10_submit_84
      · refine c_keep [] (ls2 := []) rfl ?_
        exact jo_X10_submit_44 d hlev M7
    refine c_val (b := 16 ≤ (M3 1 1440)) (v1 := (0 : Int32)) (v2 := (1 : Int32)) (F := fun z5 => bnd (f_X10_may z5 2 M3) (fun v6 M7 => if ¬ v6 = 0 then if inb (1441 + (M7 1 1440)) 1671 then wrt (up M7 1 (ix (1441 + (M7 1 1440))) x1) (fun M10 => wrt (up M10 1 1440 ((M10 1 1440) + 1)) (fun M11 => some (M11 1 1440, M11))) else none else j_X10_submit_44 M7)) (fun h12 => ?_) (fun h12 => ?_)
    · refine c_T h12 (c_icmp_ge (tgt := 36) dX10_submit_29 rfl (fun _ => ?_) (fun q => absurd h12 q))
      refine c_iconst dX10_submit_36 (v := 0) rfl ?_
      refine c_keep [0, 1] (ls2 := [(0, .inr 0), (1, .inl x1)]) rfl ?_
      exact J_z5 0 (Or.inl rfl)
    · refine c_Fl h12 (c_icmp_ge (tgt := 36) dX10_submit_29 rfl (fun q => absurd q h12) (fun _ => ?_))
      refine c_iconst dX10_submit_32 (v := 1) rfl ?_
      refine c_goto (tgt := 37) dX10_submit_33 rfl ?_
      refine c_keep [0, 1] (ls2 := [(0, .inr 0), (1, .inl x1)]) rfl ?_
      exact J_z5 1 (Or.inr rfl)

abbrev mdX10_queued : MD := (yX10_queued, cX10_queued, 2, (some .int))
theorem mw_X10_queued : mdW mdX10_queued := ⟨wm_X10_queued, w0_RX10, by decide, by decide⟩
theorem mn_X10_queued : (parseMethodDescriptor yX10_queued.desc).map (fun d => d.parameters.length) = some 1 := by decide +kernel
def j_X10_queued_42 (w0 : Int32) (M : Mem) : Option (Int32 × Mem) := some (w0, M)
set_option maxRecDepth 20000 in
set_option maxHeartbeats 2000000 in
theorem jo_X10_queued_42 (d : Nat) (hlev : 1 ≤ d) (w0 : Int32) (M : Mem) : CorM KSm ST1 RX10 cX10_queued 2 (some .int) d 42 [] [.inl w0] M (j_X10_queued_42 w0 M) := by
  unfold j_X10_queued_42
  exact c_iret rfl dX10_queued_42
def f_X10_queued (x1 : Int32) (M : Mem) : Option (Int32 × Mem) := wrt (up M 0 0 0) (fun M1 => bnd (f_X10_may (p_X10_isIn x1 0 ((M1 1 1440) - 1)) 1 M1) (fun v2 M3 => if v2 = 0 then j_X10_queued_42 0 M3 else if inb (1441 + x1) 1671 then j_X10_queued_42 (M3 1 (ix (1441 + x1))) M3 else none))
set_option maxRecDepth 20000 in
set_option maxHeartbeats 2000000 in
theorem ev_X10_queued (d : Nat) (hlev : 1 ≤ d) (x1 : Int32) (M : Mem) : Ev KSm ST1 mdX10_queued d [.inr 0, .inl x1] M (f_X10_queued x1 M) := by
  refine ev_of rfl (Nat.le_of_ble_eq_true rfl) ?_
  show CorM KSm ST1 RX10 cX10_queued 2 (some .int) d 0 [(0, .inr 0), (1, .inl x1)] [] M (f_X10_queued x1 M)
  unfold f_X10_queued
  refine c_aload_n (i := 0) dX10_queued_0 rfl rfl ?_
  refine c_iconst dX10_queued_1 (v := 0) rfl ?_
  refine pf_RX10_60 (blk_get0 KSm_b0) dX10_queued_2 ?_
  refine c_wrt (fun M1 => ?_)
  refine c_aload_n (i := 0) dX10_queued_5 rfl rfl ?_
  refine c_iload_n (i := 1) dX10_queued_6 rfl rfl ?_
  refine c_iconst dX10_queued_7 (v := 0) rfl ?_
  refine c_aload_n (i := 0) dX10_queued_8 rfl rfl ?_
  refine gf_RX10_9 (blk_get0 KSm_b0) dX10_queued_9 ?_
  refine c_sipush dX10_queued_12 (v := 1440) rfl ?_
  refine c_iald (blk_get0 (blk_sub (C := [(20, 1671)]) (i := 1) KSm_b0 rfl)) (by decide) dX10_queued_15 ?_
  refine c_iconst dX10_queued_16 (v := 1) rfl ?_
  refine c_isub dX10_queued_17 ?_
  refine c_callSp (as := [.inl x1, .inl 0, .inl ((M1 1 1440) - 1)]) (rs := [.inr 0]) (ev_X10_isIn 0 (Nat.le_refl _) x1 0 ((M1 1 1440) - 1) M1) rfl (Nat.lt_of_lt_of_le (by decide) hlev) mw_X10_isIn ws_X10_isIn wl_RX10_70 mn_X10_isIn rfl (by decide) (Nat.le_of_ble_eq_true rfl) ⟨_, rfl⟩ dX10_queued_18 ?_
  refine c_iconst dX10_queued_21 (v := 1) rfl ?_
  refine c_callV (as := [.inl (p_X10_isIn x1 0 ((M1 1 1440) - 1)), .inl 1]) (rs := []) (ev_X10_may 0 (Nat.le_refl _) (p_X10_isIn x1 0 ((M1 1 1440) - 1)) 1 M1) rfl (Nat.lt_of_lt_of_le (by decide) hlev) mw_X10_may wi_X10_may wv_X10_may (blk_get0 KSm_b0) (by decide) rfl wl_RX10_66 mn_X10_may rfl (by decide) (Nat.le_of_ble_eq_true rfl) ⟨_, rfl⟩ dX10_queued_22 (fun v2 M3 _ => ?_)
  refine c_if_eq (tgt := 41) dX10_queued_25 rfl (fun h4 => ?_) (fun h4 => ?_)
  · refine c_iconst dX10_queued_41 (v := 0) rfl ?_
    refine c_keep [] (ls2 := []) rfl ?_
    exact jo_X10_queued_42 d hlev 0 M3
  · refine c_aload_n (i := 0) dX10_queued_28 rfl rfl ?_
    refine gf_RX10_9 (blk_get0 KSm_b0) dX10_queued_29 ?_
    refine c_sipush dX10_queued_32 (v := 1441) rfl ?_
    refine c_iload_n (i := 1) dX10_queued_35 rfl rfl ?_
    refine c_iadd dX10_queued_36 ?_
    refine c_chk (fun h5 => ?_)
    refine c_iald (blk_get0 (blk_sub (C := [(20, 1671)]) (i := 1) KSm_b0 rfl)) h5 dX10_queued_37 ?_
    refine c_goto (tgt := 42) dX10_queued_38 rfl ?_
    refine c_keep [] (ls2 := []) rfl ?_
    exact jo_X10_queued_42 d hlev (M3 1 (ix (1441 + x1))) M3

abbrev mdX10_cleansNow : MD := (yX10_cleansNow, cX10_cleansNow, 3, none)
theorem mw_X10_cleansNow : mdW mdX10_cleansNow := ⟨wm_X10_cleansNow, w0_RX10, by decide, by decide⟩
theorem mn_X10_cleansNow : (parseMethodDescriptor yX10_cleansNow.desc).map (fun d => d.parameters.length) = some 1 := by decide +kernel
def f_X10_cleansNow (x1 : Int32) (M : Mem) : Option (Int32 × Mem) := bnd (f_X10_cleans x1 M) (fun v1 M2 => some (0, M2))
set_option maxRecDepth 20000 in
set_option maxHeartbeats 2000000 in
theorem ev_X10_cleansNow (d : Nat) (hlev : 2 ≤ d) (x1 : Int32) (M : Mem) : Ev KSm ST1 mdX10_cleansNow d [.inr 0, .inl x1] M (f_X10_cleansNow x1 M) := by
  refine ev_of rfl (Nat.le_of_ble_eq_true rfl) ?_
  show CorM KSm ST1 RX10 cX10_cleansNow 3 none d 0 [(0, .inr 0), (1, .inl x1)] [] M (f_X10_cleansNow x1 M)
  unfold f_X10_cleansNow
  refine c_aload_n (i := 0) dX10_cleansNow_0 rfl rfl ?_
  refine c_iload_n (i := 1) dX10_cleansNow_1 rfl rfl ?_
  refine c_callV (as := [.inl x1]) (rs := []) (ev_X10_cleans 1 (Nat.le_refl _) x1 M) rfl (Nat.lt_of_lt_of_le (by decide) hlev) mw_X10_cleans wi_X10_cleans wv_X10_cleans (blk_get0 KSm_b0) (by decide) rfl wl_RX10_316 mn_X10_cleans rfl (by decide) (Nat.le_of_ble_eq_true rfl) ⟨_, rfl⟩ dX10_cleansNow_2 (fun v1 M2 _ => ?_)
  refine c_istore_n (i := 2) dX10_cleansNow_5 rfl (by decide) (ls2 := [(0, .inr 0), (1, .inl x1), (2, .inl v1)]) rfl ?_
  exact c_vret rfl dX10_cleansNow_6

abbrev mdX10_meetsLines : MD := (yX10_meetsLines, cX10_meetsLines, 6, none)
theorem mw_X10_meetsLines : mdW mdX10_meetsLines := ⟨wm_X10_meetsLines, w0_RX10, by decide, by decide⟩
theorem mn_X10_meetsLines : (parseMethodDescriptor yX10_meetsLines.desc).map (fun d => d.parameters.length) = some 2 := by decide +kernel
def j_X10_meetsLines_118 (x1 : Int32) (x2 : Int32) (x3 : Int32) (K6 : Int32 × Mem → Option (Int32 × Mem)) (M : Mem) : Option (Int32 × Mem) := K6 (x3 + 1, M)
set_option maxRecDepth 20000 in
set_option maxHeartbeats 2000000 in
theorem jo_X10_meetsLines_118 (d : Nat) (hlev : 3 ≤ d) (x1 : Int32) (x2 : Int32) (x3 : Int32) (K6 : Int32 × Mem → Option (Int32 × Mem)) (hK6 : ∀ s : Int32 × Mem, CorM KSm ST1 RX10 cX10_meetsLines 6 none d 6 [(0, .inr 0), (1, .inl x1), (2, .inl x2), (3, .inl s.1)] [] s.2 (K6 s)) (M : Mem) : CorM KSm ST1 RX10 cX10_meetsLines 6 none d 118 [(0, .inr 0), (1, .inl x1), (2, .inl x2), (3, .inl x3)] [] M (j_X10_meetsLines_118 x1 x2 x3 K6 M) := by
  unfold j_X10_meetsLines_118
  refine c_iinc dX10_meetsLines_118 rfl (v := 1) rfl (by decide) (ls2 := [(0, .inr 0), (1, .inl x1), (2, .inl x2), (3, .inl (x3 + 1))]) rfl ?_
  refine c_goto (tgt := 6) dX10_meetsLines_121 rfl ?_
  refine c_keep [0, 1, 2, 3] (ls2 := [(0, .inr 0), (1, .inl x1), (2, .inl x2), (3, .inl (x3 + 1))]) rfl ?_
  exact hK6 (x3 + 1, M)
def j_X10_meetsLines_112 (x1 : Int32) (x2 : Int32) (x3 : Int32) (x4 : Int32) (K6 : Int32 × Mem → Option (Int32 × Mem)) (K42 : Int32 × Mem → Option (Int32 × Mem)) (M : Mem) : Option (Int32 × Mem) := K42 (x4 + 1, M)
set_option maxRecDepth 20000 in
set_option maxHeartbeats 2000000 in
theorem jo_X10_meetsLines_112 (d : Nat) (hlev : 3 ≤ d) (x1 : Int32) (x2 : Int32) (x3 : Int32) (x4 : Int32) (K6 : Int32 × Mem → Option (Int32 × Mem)) (hK6 : ∀ s : Int32 × Mem, CorM KSm ST1 RX10 cX10_meetsLines 6 none d 6 [(0, .inr 0), (1, .inl x1), (2, .inl x2), (3, .inl s.1)] [] s.2 (K6 s)) (K42 : Int32 × Mem → Option (Int32 × Mem)) (hK42 : ∀ s : Int32 × Mem, CorM KSm ST1 RX10 cX10_meetsLines 6 none d 42 [(0, .inr 0), (1, .inl x1), (2, .inl x2), (3, .inl x3), (4, .inl s.1)] [] s.2 (K42 s)) (M : Mem) : CorM KSm ST1 RX10 cX10_meetsLines 6 none d 112 [(0, .inr 0), (1, .inl x1), (2, .inl x2), (3, .inl x3), (4, .inl x4)] [] M (j_X10_meetsLines_112 x1 x2 x3 x4 K6 K42 M) := by
  unfold j_X10_meetsLines_112
  refine c_iinc dX10_meetsLines_112 rfl (v := 1) rfl (by decide) (ls2 := [(0, .inr 0), (1, .inl x1), (2, .inl x2), (3, .inl x3), (4, .inl (x4 + 1))]) rfl ?_
  refine c_goto (tgt := 42) dX10_meetsLines_115 rfl ?_
  refine c_keep [0, 1, 2, 3, 4] (ls2 := [(0, .inr 0), (1, .inl x1), (2, .inl x2), (3, .inl x3), (4, .inl (x4 + 1))]) rfl ?_
  exact hK42 (x4 + 1, M)
def j_X10_meetsLines_82 (x1 : Int32) (x2 : Int32) (x3 : Int32) (x4 : Int32) (w0 : Int32) (K6 : Int32 × Mem → Option (Int32 × Mem)) (K42 : Int32 × Mem → Option (Int32 × Mem)) (M : Mem) : Option (Int32 × Mem) := if ¬ w0 = (-1) then if x2 = 0 then bnd (f_X10_cleansNow w0 M) (fun _ M16 => j_X10_meetsLines_112 x1 x2 x3 x4 K6 K42 M16) else bnd (f_X10_goes w0 M) (fun _ M18 => j_X10_meetsLines_112 x1 x2 x3 x4 K6 K42 M18) else j_X10_meetsLines_112 x1 x2 x3 x4 K6 K42 M
set_option maxRecDepth 20000 in
set_option maxHeartbeats 2000000 in
theorem jo_X10_meetsLines_82 (d : Nat) (hlev : 3 ≤ d) (x1 : Int32) (x2 : Int32) (x3 : Int32) (x4 : Int32) (w0 : Int32) (K6 : Int32 × Mem → Option (Int32 × Mem)) (hK6 : ∀ s : Int32 × Mem, CorM KSm ST1 RX10 cX10_meetsLines 6 none d 6 [(0, .inr 0), (1, .inl x1), (2, .inl x2), (3, .inl s.1)] [] s.2 (K6 s)) (K42 : Int32 × Mem → Option (Int32 × Mem)) (hK42 : ∀ s : Int32 × Mem, CorM KSm ST1 RX10 cX10_meetsLines 6 none d 42 [(0, .inr 0), (1, .inl x1), (2, .inl x2), (3, .inl x3), (4, .inl s.1)] [] s.2 (K42 s)) (M : Mem) : CorM KSm ST1 RX10 cX10_meetsLines 6 none d 82 [(0, .inr 0), (1, .inl x1), (2, .inl x2), (3, .inl x3), (4, .inl x4)] [.inl w0] M (j_X10_meetsLines_82 x1 x2 x3 x4 w0 K6 K42 M) := by
  unfold j_X10_meetsLines_82
  refine c_istore dX10_meetsLines_82 (by decide) (ls2 := [(0, .inr 0), (1, .inl x1), (2, .inl x2), (3, .inl x3), (4, .inl x4), (5, .inl w0)]) rfl ?_
  refine c_iload dX10_meetsLines_84 rfl ?_
  refine c_iconst dX10_meetsLines_86 (v := (-1)) rfl ?_
  refine c_icmp_ne (tgt := 93) dX10_meetsLines_87 rfl (fun h13 => ?_) (fun h13 => ?_)
  · refine c_iload_n (i := 2) dX10_meetsLines_93 rfl rfl ?_
    refine c_if_eq (tgt := 106) dX10_meetsLines_94 rfl (fun h14 => ?_) (fun h14 => ?_)
    · refine c_aload_n (i := 0) dX10_meetsLines_106 rfl rfl ?_
      refine c_iload dX10_meetsLines_107 rfl ?_
      refine c_callVv (as := [.inl w0]) (rs := []) (ev_X10_cleansNow 2 (Nat.le_refl _) w0 M) rfl (Nat.lt_of_lt_of_le (by decide) hlev) mw_X10_cleansNow wi_X10_cleansNow wv_X10_cleansNow (blk_get0 KSm_b0) (by decide) rfl wl_RX10_334 mn_X10_cleansNow rfl (by decide) (Nat.le_of_ble_eq_true rfl) rfl dX10_meetsLines_109 (fun v15 M16 _ => ?_)
      refine c_keep [0, 1, 2, 3, 4] (ls2 := [(0, .inr 0), (1, .inl x1), (2, .inl x2), (3, .inl x3), (4, .inl x4)]) rfl ?_
      exact jo_X10_meetsLines_112 d hlev x1 x2 x3 x4 K6 hK6 K42 hK42 M16
    · refine c_aload_n (i := 0) dX10_meetsLines_97 rfl rfl ?_
      refine c_iload dX10_meetsLines_98 rfl ?_
      refine c_callVv (as := [.inl w0]) (rs := []) (ev_X10_goes 1 (Nat.le_refl _) w0 M) rfl (Nat.lt_of_lt_of_le (by decide) hlev) mw_X10_goes wi_X10_goes wv_X10_goes (blk_get0 KSm_b0) (by decide) rfl wl_RX10_319 mn_X10_goes rfl (by decide) (Nat.le_of_ble_eq_true rfl) rfl dX10_meetsLines_100 (fun v17 M18 _ => ?_)
      refine c_goto (tgt := 112) dX10_meetsLines_103 rfl ?_
      refine c_keep [0, 1, 2, 3, 4] (ls2 := [(0, .inr 0), (1, .inl x1), (2, .inl x2), (3, .inl x3), (4, .inl x4)]) rfl ?_
      exact jo_X10_meetsLines_112 d hlev x1 x2 x3 x4 K6 hK6 K42 hK42 M18
  · refine c_goto (tgt := 112) dX10_meetsLines_90 rfl ?_
    refine c_keep [0, 1, 2, 3, 4] (ls2 := [(0, .inr 0), (1, .inl x1), (2, .inl x2), (3, .inl x3), (4, .inl x4)]) rfl ?_
    exact jo_X10_meetsLines_112 d hlev x1 x2 x3 x4 K6 hK6 K42 hK42 M
def l_X10_meetsLines_42 (x1 : Int32) (x2 : Int32) (x3 : Int32) (K6 : Int32 × Mem → Option (Int32 × Mem)) (K42 : Int32 × Mem → Option (Int32 × Mem)) : Int32 × Mem → Option (Int32 × Mem) := fun s => match s with
  | (x4, M) => if (M 5 0) ≤ x4 then j_X10_meetsLines_118 x1 x2 x3 K6 M else bnd (f_X10_banksOf x1 M) (fun v10 M11 => if (p_X10_has v10 x4) = 0 then j_X10_meetsLines_82 x1 x2 x3 x4 (-1) K6 K42 M11 else bnd (f_X10_told x3 2 M11) (fun v19 M20 => bnd (f_X10_lineOf x4 v19 M20) (fun v21 M22 => j_X10_meetsLines_82 x1 x2 x3 x4 v21 K6 K42 M22)))
set_option maxRecDepth 20000 in
set_option maxHeartbeats 2000000 in
theorem lo_X10_meetsLines_42 (d : Nat) (hlev : 3 ≤ d) (x1 : Int32) (x2 : Int32) (x3 : Int32) (K6 : Int32 × Mem → Option (Int32 × Mem)) (hK6 : ∀ s : Int32 × Mem, CorM KSm ST1 RX10 cX10_meetsLines 6 none d 6 [(0, .inr 0), (1, .inl x1), (2, .inl x2), (3, .inl s.1)] [] s.2 (K6 s)) (s : Int32 × Mem) : CorM KSm ST1 RX10 cX10_meetsLines 6 none d 42 [(0, .inr 0), (1, .inl x1), (2, .inl x2), (3, .inl x3), (4, .inl s.1)] [] s.2 (loopC (l_X10_meetsLines_42 x1 x2 x3 K6) fuelL s) := by
  refine c_loop (L := fun s : Int32 × Mem => [(0, .inr 0), (1, .inl x1), (2, .inl x2), (3, .inl x3), (4, .inl s.1)]) (Mf := fun s : Int32 × Mem => s.2) (fun K42 hK42 s => ?_) fuelL s
  obtain ⟨x4, M⟩ := s
  show CorM KSm ST1 RX10 cX10_meetsLines 6 none d 42 [(0, .inr 0), (1, .inl x1), (2, .inl x2), (3, .inl x3), (4, .inl x4)] [] M (l_X10_meetsLines_42 x1 x2 x3 K6 K42 (x4, M))
  unfold l_X10_meetsLines_42
  refine c_iload dX10_meetsLines_42 rfl ?_
  refine c_aload_n (i := 0) dX10_meetsLines_44 rfl rfl ?_
  refine gf_RX10_23 (blk_get0 KSm_b0) dX10_meetsLines_45 ?_
  refine c_iconst dX10_meetsLines_48 (v := 0) rfl ?_
  refine c_iald (blk_get0 (blk_sub (C := [(20, 290)]) (i := 5) KSm_b0 rfl)) (by decide) dX10_meetsLines_49 ?_
  refine c_icmp_ge (tgt := 118) dX10_meetsLines_50 rfl (fun h9 => ?_) (fun h9 => ?_)
  · refine c_keep [0, 1, 2, 3] (ls2 := [(0, .inr 0), (1, .inl x1), (2, .inl x2), (3, .inl x3)]) rfl ?_
    exact jo_X10_meetsLines_118 d hlev x1 x2 x3 K6 hK6 M
  · refine c_aload_n (i := 0) dX10_meetsLines_53 rfl rfl ?_
    refine c_iload_n (i := 1) dX10_meetsLines_54 rfl rfl ?_
    refine c_callV (as := [.inl x1]) (rs := []) (ev_X10_banksOf 0 (Nat.le_refl _) x1 M) rfl (Nat.lt_of_lt_of_le (by decide) hlev) mw_X10_banksOf wi_X10_banksOf wv_X10_banksOf (blk_get0 KSm_b0) (by decide) rfl wl_RX10_238 mn_X10_banksOf rfl (by decide) (Nat.le_of_ble_eq_true rfl) ⟨_, rfl⟩ dX10_meetsLines_55 (fun v10 M11 _ => ?_)
    refine c_iload dX10_meetsLines_58 rfl ?_
    refine c_callSp (as := [.inl v10, .inl x4]) (rs := []) (ev_X10_has 0 (Nat.le_refl _) v10 x4 M11) rfl (Nat.lt_of_lt_of_le (by decide) hlev) mw_X10_has ws_X10_has wl_RX10_169 mn_X10_has rfl (by decide) (Nat.le_of_ble_eq_true rfl) ⟨_, rfl⟩ dX10_meetsLines_60 ?_
    refine c_if_eq (tgt := 81) dX10_meetsLines_63 rfl (fun h12 => ?_) (fun h12 => ?_)
    · refine c_iconst dX10_meetsLines_81 (v := (-1)) rfl ?_
      refine c_keep [0, 1, 2, 3, 4] (ls2 := [(0, .inr 0), (1, .inl x1), (2, .inl x2), (3, .inl x3), (4, .inl x4)]) rfl ?_
      exact jo_X10_meetsLines_82 d hlev x1 x2 x3 x4 (-1) K6 hK6 K42 hK42 M11
    · refine c_aload_n (i := 0) dX10_meetsLines_66 rfl rfl ?_
      refine c_iload dX10_meetsLines_67 rfl ?_
      refine c_aload_n (i := 0) dX10_meetsLines_69 rfl rfl ?_
      refine c_iload_n (i := 3) dX10_meetsLines_70 rfl rfl ?_
      refine c_iconst dX10_meetsLines_71 (v := 2) rfl ?_
      refine c_callV (as := [.inl x3, .inl 2]) (rs := [.inl x4, .inr 0]) (ev_X10_told 0 (Nat.le_refl _) x3 2 M11) rfl (Nat.lt_of_lt_of_le (by decide) hlev) mw_X10_told wi_X10_told wv_X10_told (blk_get0 KSm_b0) (by decide) rfl wl_RX10_233 mn_X10_told rfl (by decide) (Nat.le_of_ble_eq_true rfl) ⟨_, rfl⟩ dX10_meetsLines_72 (fun v19 M20 _ => ?_)
      refine c_callV (as := [.inl x4, .inl v19]) (rs := []) (ev_X10_lineOf 1 (Nat.le_refl _) x4 v19 M20) rfl (Nat.lt_of_lt_of_le (by decide) hlev) mw_X10_lineOf wi_X10_lineOf wv_X10_lineOf (blk_get0 KSm_b0) (by decide) rfl wl_RX10_313 mn_X10_lineOf rfl (by decide) (Nat.le_of_ble_eq_true rfl) ⟨_, rfl⟩ dX10_meetsLines_75 (fun v21 M22 _ => ?_)
      refine c_goto (tgt := 82) dX10_meetsLines_78 rfl ?_
      refine c_keep [0, 1, 2, 3, 4] (ls2 := [(0, .inr 0), (1, .inl x1), (2, .inl x2), (3, .inl x3), (4, .inl x4)]) rfl ?_
      exact jo_X10_meetsLines_82 d hlev x1 x2 x3 x4 v21 K6 hK6 K42 hK42 M22
def j_X10_meetsLines_39 (x1 : Int32) (x2 : Int32) (x3 : Int32) (K6 : Int32 × Mem → Option (Int32 × Mem)) (M : Mem) : Option (Int32 × Mem) := loopC (l_X10_meetsLines_42 x1 x2 x3 K6) fuelL (0, M)
set_option maxRecDepth 20000 in
set_option maxHeartbeats 2000000 in
theorem jo_X10_meetsLines_39 (d : Nat) (hlev : 3 ≤ d) (x1 : Int32) (x2 : Int32) (x3 : Int32) (K6 : Int32 × Mem → Option (Int32 × Mem)) (hK6 : ∀ s : Int32 × Mem, CorM KSm ST1 RX10 cX10_meetsLines 6 none d 6 [(0, .inr 0), (1, .inl x1), (2, .inl x2), (3, .inl s.1)] [] s.2 (K6 s)) (M : Mem) : CorM KSm ST1 RX10 cX10_meetsLines 6 none d 39 [(0, .inr 0), (1, .inl x1), (2, .inl x2), (3, .inl x3)] [] M (j_X10_meetsLines_39 x1 x2 x3 K6 M) := by
  unfold j_X10_meetsLines_39
  refine c_iconst dX10_meetsLines_39 (v := 0) rfl ?_
  refine c_istore dX10_meetsLines_40 (by decide) (ls2 := [(0, .inr 0), (1, .inl x1), (2, .inl x2), (3, .inl x3), (4, .inl 0)]) rfl ?_
  refine c_keep [0, 1, 2, 3, 4] (ls2 := [(0, .inr 0), (1, .inl x1), (2, .inl x2), (3, .inl x3), (4, .inl 0)]) rfl ?_
  exact lo_X10_meetsLines_42 d hlev x1 x2 x3 K6 hK6 (0, M)
def l_X10_meetsLines_6 (x1 : Int32) (x2 : Int32) (K6 : Int32 × Mem → Option (Int32 × Mem)) : Int32 × Mem → Option (Int32 × Mem) := fun s => match s with
  | (x3, M) => bnd (f_X10_endOf x1 M) (fun v3 M4 => if v3 ≤ x3 then some (0, M4) else bnd (f_X10_kindOf x3 M4) (fun v6 M7 => if v6 = 1 then j_X10_meetsLines_39 x1 x2 x3 K6 M7 else bnd (f_X10_kindOf x3 M7) (fun v23 M24 => if ¬ v23 = 0 then j_X10_meetsLines_118 x1 x2 x3 K6 M24 else if x2 = 0 then j_X10_meetsLines_39 x1 x2 x3 K6 M24 else j_X10_meetsLines_118 x1 x2 x3 K6 M24)))
set_option maxRecDepth 20000 in
set_option maxHeartbeats 2000000 in
theorem lo_X10_meetsLines_6 (d : Nat) (hlev : 3 ≤ d) (x1 : Int32) (x2 : Int32) (s : Int32 × Mem) : CorM KSm ST1 RX10 cX10_meetsLines 6 none d 6 [(0, .inr 0), (1, .inl x1), (2, .inl x2), (3, .inl s.1)] [] s.2 (loopC (l_X10_meetsLines_6 x1 x2) fuelL s) := by
  refine c_loop (L := fun s : Int32 × Mem => [(0, .inr 0), (1, .inl x1), (2, .inl x2), (3, .inl s.1)]) (Mf := fun s : Int32 × Mem => s.2) (fun K6 hK6 s => ?_) fuelL s
  obtain ⟨x3, M⟩ := s
  show CorM KSm ST1 RX10 cX10_meetsLines 6 none d 6 [(0, .inr 0), (1, .inl x1), (2, .inl x2), (3, .inl x3)] [] M (l_X10_meetsLines_6 x1 x2 K6 (x3, M))
  unfold l_X10_meetsLines_6
  refine c_iload_n (i := 3) dX10_meetsLines_6 rfl rfl ?_
  refine c_aload_n (i := 0) dX10_meetsLines_7 rfl rfl ?_
  refine c_iload_n (i := 1) dX10_meetsLines_8 rfl rfl ?_
  refine c_callV (as := [.inl x1]) (rs := [.inl x3]) (ev_X10_endOf 1 (Nat.le_refl _) x1 M) rfl (Nat.lt_of_lt_of_le (by decide) hlev) mw_X10_endOf wi_X10_endOf wv_X10_endOf (blk_get0 KSm_b0) (by decide) rfl wl_RX10_266 mn_X10_endOf rfl (by decide) (Nat.le_of_ble_eq_true rfl) ⟨_, rfl⟩ dX10_meetsLines_9 (fun v3 M4 _ => ?_)
  refine c_icmp_ge (tgt := 124) dX10_meetsLines_12 rfl (fun h5 => ?_) (fun h5 => ?_)
  · exact c_vret rfl dX10_meetsLines_124
  · refine c_aload_n (i := 0) dX10_meetsLines_15 rfl rfl ?_
    refine c_iload_n (i := 3) dX10_meetsLines_16 rfl rfl ?_
    refine c_callV (as := [.inl x3]) (rs := []) (ev_X10_kindOf 1 (Nat.le_refl _) x3 M4) rfl (Nat.lt_of_lt_of_le (by decide) hlev) mw_X10_kindOf wi_X10_kindOf wv_X10_kindOf (blk_get0 KSm_b0) (by decide) rfl wl_RX10_254 mn_X10_kindOf rfl (by decide) (Nat.le_of_ble_eq_true rfl) ⟨_, rfl⟩ dX10_meetsLines_17 (fun v6 M7 _ => ?_)
    refine c_iconst dX10_meetsLines_20 (v := 1) rfl ?_
    refine c_icmp_eq (tgt := 39) dX10_meetsLines_21 rfl (fun h8 => ?_) (fun h8 => ?_)
    · refine c_keep [0, 1, 2, 3] (ls2 := [(0, .inr 0), (1, .inl x1), (2, .inl x2), (3, .inl x3)]) rfl ?_
      exact jo_X10_meetsLines_39 d hlev x1 x2 x3 K6 hK6 M7
    · refine c_aload_n (i := 0) dX10_meetsLines_24 rfl rfl ?_
      refine c_iload_n (i := 3) dX10_meetsLines_25 rfl rfl ?_
      refine c_callV (as := [.inl x3]) (rs := []) (ev_X10_kindOf 1 (Nat.le_refl _) x3 M7) rfl (Nat.lt_of_lt_of_le (by decide) hlev) mw_X10_kindOf wi_X10_kindOf wv_X10_kindOf (blk_get0 KSm_b0) (by decide) rfl wl_RX10_254 mn_X10_kindOf rfl (by decide) (Nat.le_of_ble_eq_true rfl) ⟨_, rfl⟩ dX10_meetsLines_26 (fun v23 M24 _ => ?_)
      refine c_if_ne (tgt := 118) dX10_meetsLines_29 rfl (fun h25 => ?_) (fun h25 => ?_)
      · refine c_keep [0, 1, 2, 3] (ls2 := [(0, .inr 0), (1, .inl x1), (2, .inl x2), (3, .inl x3)]) rfl ?_
        exact jo_X10_meetsLines_118 d hlev x1 x2 x3 K6 hK6 M24
      · refine c_iload_n (i := 2) dX10_meetsLines_32 rfl rfl ?_
        refine c_if_eq (tgt := 39) dX10_meetsLines_33 rfl (fun h26 => ?_) (fun h26 => ?_)
        · refine c_keep [0, 1, 2, 3] (ls2 := [(0, .inr 0), (1, .inl x1), (2, .inl x2), (3, .inl x3)]) rfl ?_
          exact jo_X10_meetsLines_39 d hlev x1 x2 x3 K6 hK6 M24
        · refine c_goto (tgt := 118) dX10_meetsLines_36 rfl ?_
          refine c_keep [0, 1, 2, 3] (ls2 := [(0, .inr 0), (1, .inl x1), (2, .inl x2), (3, .inl x3)]) rfl ?_
          exact jo_X10_meetsLines_118 d hlev x1 x2 x3 K6 hK6 M24
def f_X10_meetsLines (x1 : Int32) (x2 : Int32) (M : Mem) : Option (Int32 × Mem) := bnd (f_X10_firstOf x1 M) (fun v1 M2 => loopC (l_X10_meetsLines_6 x1 x2) fuelL (v1, M2))
set_option maxRecDepth 20000 in
set_option maxHeartbeats 2000000 in
theorem ev_X10_meetsLines (d : Nat) (hlev : 3 ≤ d) (x1 : Int32) (x2 : Int32) (M : Mem) : Ev KSm ST1 mdX10_meetsLines d [.inr 0, .inl x1, .inl x2] M (f_X10_meetsLines x1 x2 M) := by
  refine ev_of rfl (Nat.le_of_ble_eq_true rfl) ?_
  show CorM KSm ST1 RX10 cX10_meetsLines 6 none d 0 [(0, .inr 0), (1, .inl x1), (2, .inl x2)] [] M (f_X10_meetsLines x1 x2 M)
  unfold f_X10_meetsLines
  refine c_aload_n (i := 0) dX10_meetsLines_0 rfl rfl ?_
  refine c_iload_n (i := 1) dX10_meetsLines_1 rfl rfl ?_
  refine c_callV (as := [.inl x1]) (rs := []) (ev_X10_firstOf 0 (Nat.le_refl _) x1 M) rfl (Nat.lt_of_lt_of_le (by decide) hlev) mw_X10_firstOf wi_X10_firstOf wv_X10_firstOf (blk_get0 KSm_b0) (by decide) rfl wl_RX10_230 mn_X10_firstOf rfl (by decide) (Nat.le_of_ble_eq_true rfl) ⟨_, rfl⟩ dX10_meetsLines_2 (fun v1 M2 _ => ?_)
  refine c_istore_n (i := 3) dX10_meetsLines_5 rfl (by decide) (ls2 := [(0, .inr 0), (1, .inl x1), (2, .inl x2), (3, .inl v1)]) rfl ?_
  refine c_keep [0, 1, 2, 3] (ls2 := [(0, .inr 0), (1, .inl x1), (2, .inl x2), (3, .inl v1)]) rfl ?_
  exact lo_X10_meetsLines_6 d hlev x1 x2 (v1, M2)

abbrev mdX10_does : MD := (yX10_does, cX10_does, 5, none)
theorem mw_X10_does : mdW mdX10_does := ⟨wm_X10_does, w0_RX10, by decide, by decide⟩
theorem mn_X10_does : (parseMethodDescriptor yX10_does.desc).map (fun d => d.parameters.length) = some 1 := by decide +kernel
def j_X10_does_116 (x1 : Int32) (x2 : Int32) (x3 : Int32) (M : Mem) : Option (Int32 × Mem) := if inb (1458 + (3 * (jrem (M 1 1457) 40))) 1671 then wrt (up M 1 (ix (1458 + (3 * (jrem (M 1 1457) 40)))) x1) (fun M14 => if inb ((1458 + (3 * (jrem (M 1 1457) 40))) + 1) 1671 then wrt (up M14 1 (ix ((1458 + (3 * (jrem (M 1 1457) 40))) + 1)) x3) (fun M16 => bnd (f_X10_latest x2 M16) (fun v17 M18 => if inb ((1458 + (3 * (jrem (M 1 1457) 40))) + 2) 1671 then wrt (up M18 1 (ix ((1458 + (3 * (jrem (M 1 1457) 40))) + 2)) v17) (fun M20 => wrt (up M20 1 1457 ((M20 1 1457) + 1)) (fun M21 => some (0, M21))) else none)) else none) else none
set_option maxRecDepth 20000 in
set_option maxHeartbeats 2000000 in
theorem jo_X10_does_116 (d : Nat) (hlev : 4 ≤ d) (x1 : Int32) (x2 : Int32) (x3 : Int32) (M : Mem) : CorM KSm ST1 RX10 cX10_does 5 none d 116 [(0, .inr 0), (1, .inl x1), (2, .inl x2), (3, .inl x3)] [] M (j_X10_does_116 x1 x2 x3 M) := by
  unfold j_X10_does_116
  refine c_sipush dX10_does_116 (v := 1458) rfl ?_
  refine c_iconst dX10_does_119 (v := 3) rfl ?_
  refine c_aload_n (i := 0) dX10_does_120 rfl rfl ?_
  refine gf_RX10_9 (blk_get0 KSm_b0) dX10_does_121 ?_
  refine c_sipush dX10_does_124 (v := 1457) rfl ?_
  refine c_iald (blk_get0 (blk_sub (C := [(20, 1671)]) (i := 1) KSm_b0 rfl)) (by decide) dX10_does_127 ?_
  refine c_bipush dX10_does_128 (v := 40) rfl ?_
  refine c_irem dX10_does_130 (by decide) ?_
  refine c_imul dX10_does_131 ?_
  refine c_iadd dX10_does_132 ?_
  refine c_istore dX10_does_133 (by decide) (ls2 := [(0, .inr 0), (1, .inl x1), (2, .inl x2), (3, .inl x3), (4, .inl (1458 + (3 * (jrem (M 1 1457) 40))))]) rfl ?_
  refine c_aload_n (i := 0) dX10_does_135 rfl rfl ?_
  refine gf_RX10_9 (blk_get0 KSm_b0) dX10_does_136 ?_
  refine c_iload dX10_does_139 rfl ?_
  refine c_iload_n (i := 1) dX10_does_141 rfl rfl ?_
  refine c_chk (fun h13 => ?_)
  refine c_iast (blk_get0 (blk_sub (C := [(20, 1671)]) (i := 1) KSm_b0 rfl)) h13 dX10_does_142 ?_
  refine c_wrt (fun M14 => ?_)
  refine c_aload_n (i := 0) dX10_does_143 rfl rfl ?_
  refine gf_RX10_9 (blk_get0 KSm_b0) dX10_does_144 ?_
  refine c_iload dX10_does_147 rfl ?_
  refine c_iconst dX10_does_149 (v := 1) rfl ?_
  refine c_iadd dX10_does_150 ?_
  refine c_iload_n (i := 3) dX10_does_151 rfl rfl ?_
  refine c_chk (fun h15 => ?_)
  refine c_iast (blk_get0 (blk_sub (C := [(20, 1671)]) (i := 1) KSm_b0 rfl)) h15 dX10_does_152 ?_
  refine c_wrt (fun M16 => ?_)
  refine c_aload_n (i := 0) dX10_does_153 rfl rfl ?_
  refine gf_RX10_9 (blk_get0 KSm_b0) dX10_does_154 ?_
  refine c_iload dX10_does_157 rfl ?_
  refine c_iconst dX10_does_159 (v := 2) rfl ?_
  refine c_iadd dX10_does_160 ?_
  refine c_aload_n (i := 0) dX10_does_161 rfl rfl ?_
  refine c_iload_n (i := 2) dX10_does_162 rfl rfl ?_
  refine c_callV (as := [.inl x2]) (rs := [.inl ((1458 + (3 * (jrem (M 1 1457) 40))) + 2), .inr 1]) (ev_X10_latest 1 (Nat.le_refl _) x2 M16) rfl (Nat.lt_of_lt_of_le (by decide) hlev) mw_X10_latest wi_X10_latest wv_X10_latest (blk_get0 KSm_b0) (by decide) rfl wl_RX10_304 mn_X10_latest rfl (by decide) (Nat.le_of_ble_eq_true rfl) ⟨_, rfl⟩ dX10_does_163 (fun v17 M18 _ => ?_)
  refine c_chk (fun h19 => ?_)
  refine c_iast (blk_get0 (blk_sub (C := [(20, 1671)]) (i := 1) KSm_b0 rfl)) h19 dX10_does_166 ?_
  refine c_wrt (fun M20 => ?_)
  refine c_aload_n (i := 0) dX10_does_167 rfl rfl ?_
  refine gf_RX10_9 (blk_get0 KSm_b0) dX10_does_168 ?_
  refine c_sipush dX10_does_171 (v := 1457) rfl ?_
  refine c_dup2 dX10_does_174 ?_
  refine c_iald (blk_get0 (blk_sub (C := [(20, 1671)]) (i := 1) KSm_b0 rfl)) (by decide) dX10_does_175 ?_
  refine c_iconst dX10_does_176 (v := 1) rfl ?_
  refine c_iadd dX10_does_177 ?_
  refine c_iast (blk_get0 (blk_sub (C := [(20, 1671)]) (i := 1) KSm_b0 rfl)) (by decide) dX10_does_178 ?_
  refine c_wrt (fun M21 => ?_)
  exact c_vret rfl dX10_does_179
def j_X10_does_88 (x1 : Int32) (x2 : Int32) (x3 : Int32) (M : Mem) : Option (Int32 × Mem) := bnd (f_X10_computes x1 M) (fun _ M9 => bnd (f_X10_ticks x1 M9) (fun _ M11 => if ¬ (M11 1 1670) = 1 then j_X10_does_116 x1 x2 x3 M11 else bnd (f_X10_meetsLines x1 1 M11) (fun _ M23 => j_X10_does_116 x1 x2 x3 M23)))
set_option maxRecDepth 20000 in
set_option maxHeartbeats 2000000 in
theorem jo_X10_does_88 (d : Nat) (hlev : 4 ≤ d) (x1 : Int32) (x2 : Int32) (x3 : Int32) (M : Mem) : CorM KSm ST1 RX10 cX10_does 5 none d 88 [(0, .inr 0), (1, .inl x1), (2, .inl x2), (3, .inl x3)] [] M (j_X10_does_88 x1 x2 x3 M) := by
  unfold j_X10_does_88
  refine c_aload_n (i := 0) dX10_does_88 rfl rfl ?_
  refine c_iload_n (i := 1) dX10_does_89 rfl rfl ?_
  refine c_callVv (as := [.inl x1]) (rs := []) (ev_X10_computes 3 (Nat.le_refl _) x1 M) rfl (Nat.lt_of_lt_of_le (by decide) hlev) mw_X10_computes wi_X10_computes wv_X10_computes (blk_get0 KSm_b0) (by decide) rfl wl_RX10_341 mn_X10_computes rfl (by decide) (Nat.le_of_ble_eq_true rfl) rfl dX10_does_90 (fun v8 M9 _ => ?_)
  refine c_aload_n (i := 0) dX10_does_93 rfl rfl ?_
  refine c_iload_n (i := 1) dX10_does_94 rfl rfl ?_
  refine c_callVv (as := [.inl x1]) (rs := []) (ev_X10_ticks 3 (Nat.le_refl _) x1 M9) rfl (Nat.lt_of_lt_of_le (by decide) hlev) mw_X10_ticks wi_X10_ticks wv_X10_ticks (blk_get0 KSm_b0) (by decide) rfl wl_RX10_344 mn_X10_ticks rfl (by decide) (Nat.le_of_ble_eq_true rfl) rfl dX10_does_95 (fun v10 M11 _ => ?_)
  refine c_aload_n (i := 0) dX10_does_98 rfl rfl ?_
  refine gf_RX10_9 (blk_get0 KSm_b0) dX10_does_99 ?_
  refine c_sipush dX10_does_102 (v := 1670) rfl ?_
  refine c_iald (blk_get0 (blk_sub (C := [(20, 1671)]) (i := 1) KSm_b0 rfl)) (by decide) dX10_does_105 ?_
  refine c_iconst dX10_does_106 (v := 1) rfl ?_
  refine c_icmp_ne (tgt := 116) dX10_does_107 rfl (fun h12 => ?_) (fun h12 => ?_)
  · refine c_keep [0, 1, 2, 3] (ls2 := [(0, .inr 0), (1, .inl x1), (2, .inl x2), (3, .inl x3)]) rfl ?_
    exact jo_X10_does_116 d hlev x1 x2 x3 M11
  · refine c_aload_n (i := 0) dX10_does_110 rfl rfl ?_
    refine c_iload_n (i := 1) dX10_does_111 rfl rfl ?_
    refine c_iconst dX10_does_112 (v := 1) rfl ?_
    refine c_callVv (as := [.inl x1, .inl 1]) (rs := []) (ev_X10_meetsLines 3 (Nat.le_refl _) x1 1 M11) rfl (Nat.lt_of_lt_of_le (by decide) hlev) mw_X10_meetsLines wi_X10_meetsLines wv_X10_meetsLines (blk_get0 KSm_b0) (by decide) rfl wl_RX10_337 mn_X10_meetsLines rfl (by decide) (Nat.le_of_ble_eq_true rfl) rfl dX10_does_113 (fun v22 M23 _ => ?_)
    refine c_keep [0, 1, 2, 3] (ls2 := [(0, .inr 0), (1, .inl x1), (2, .inl x2), (3, .inl x3)]) rfl ?_
    exact jo_X10_does_116 d hlev x1 x2 x3 M23
def j_X10_does_64 (x1 : Int32) (x2 : Int32) (x3 : Int32) (x4 : Int32) (K21 : Int32 × Int32 × Mem → Option (Int32 × Mem)) (M : Mem) : Option (Int32 × Mem) := K21 (x3, x4 + 1, M)
set_option maxRecDepth 20000 in
set_option maxHeartbeats 2000000 in
theorem jo_X10_does_64 (d : Nat) (hlev : 4 ≤ d) (x1 : Int32) (x2 : Int32) (x3 : Int32) (x4 : Int32) (K21 : Int32 × Int32 × Mem → Option (Int32 × Mem)) (hK21 : ∀ s : Int32 × Int32 × Mem, CorM KSm ST1 RX10 cX10_does 5 none d 21 [(0, .inr 0), (1, .inl x1), (2, .inl x2), (3, .inl s.1), (4, .inl s.2.1)] [] s.2.2 (K21 s)) (M : Mem) : CorM KSm ST1 RX10 cX10_does 5 none d 64 [(0, .inr 0), (1, .inl x1), (2, .inl x2), (3, .inl x3), (4, .inl x4)] [] M (j_X10_does_64 x1 x2 x3 x4 K21 M) := by
  unfold j_X10_does_64
  refine c_iinc dX10_does_64 rfl (v := 1) rfl (by decide) (ls2 := [(0, .inr 0), (1, .inl x1), (2, .inl x2), (3, .inl x3), (4, .inl (x4 + 1))]) rfl ?_
  refine c_goto (tgt := 21) dX10_does_67 rfl ?_
  refine c_keep [0, 1, 2, 3, 4] (ls2 := [(0, .inr 0), (1, .inl x1), (2, .inl x2), (3, .inl x3), (4, .inl (x4 + 1))]) rfl ?_
  exact hK21 (x3, x4 + 1, M)
def l_X10_does_21 (x1 : Int32) (x2 : Int32) (K21 : Int32 × Int32 × Mem → Option (Int32 × Mem)) : Int32 × Int32 × Mem → Option (Int32 × Mem) := fun s => match s with
  | (x3, x4, M) => if (M 5 0) ≤ x4 then if ¬ (M 1 1670) = 1 then j_X10_does_88 x1 x2 x3 M else bnd (f_X10_meetsLines x1 0 M) (fun _ M25 => j_X10_does_88 x1 x2 x3 M25) else if (p_X10_has x2 x4) = 0 then j_X10_does_64 x1 x2 x3 x4 K21 M else if inb (0 + x4) 1671 then if x3 ≤ (M 1 (ix (0 + x4))) then j_X10_does_64 x1 x2 x3 x4 K21 M else if inb (0 + x4) 1671 then j_X10_does_64 x1 x2 (M 1 (ix (0 + x4))) x4 K21 M else none else none
set_option maxRecDepth 20000 in
set_option maxHeartbeats 2000000 in
theorem lo_X10_does_21 (d : Nat) (hlev : 4 ≤ d) (x1 : Int32) (x2 : Int32) (s : Int32 × Int32 × Mem) : CorM KSm ST1 RX10 cX10_does 5 none d 21 [(0, .inr 0), (1, .inl x1), (2, .inl x2), (3, .inl s.1), (4, .inl s.2.1)] [] s.2.2 (loopC (l_X10_does_21 x1 x2) fuelL s) := by
  refine c_loop (L := fun s : Int32 × Int32 × Mem => [(0, .inr 0), (1, .inl x1), (2, .inl x2), (3, .inl s.1), (4, .inl s.2.1)]) (Mf := fun s : Int32 × Int32 × Mem => s.2.2) (fun K21 hK21 s => ?_) fuelL s
  obtain ⟨x3, x4, M⟩ := s
  show CorM KSm ST1 RX10 cX10_does 5 none d 21 [(0, .inr 0), (1, .inl x1), (2, .inl x2), (3, .inl x3), (4, .inl x4)] [] M (l_X10_does_21 x1 x2 K21 (x3, x4, M))
  unfold l_X10_does_21
  refine c_iload dX10_does_21 rfl ?_
  refine c_aload_n (i := 0) dX10_does_23 rfl rfl ?_
  refine gf_RX10_23 (blk_get0 KSm_b0) dX10_does_24 ?_
  refine c_iconst dX10_does_27 (v := 0) rfl ?_
  refine c_iald (blk_get0 (blk_sub (C := [(20, 290)]) (i := 5) KSm_b0 rfl)) (by decide) dX10_does_28 ?_
  refine c_icmp_ge (tgt := 70) dX10_does_29 rfl (fun h6 => ?_) (fun h6 => ?_)
  · refine c_aload_n (i := 0) dX10_does_70 rfl rfl ?_
    refine gf_RX10_9 (blk_get0 KSm_b0) dX10_does_71 ?_
    refine c_sipush dX10_does_74 (v := 1670) rfl ?_
    refine c_iald (blk_get0 (blk_sub (C := [(20, 1671)]) (i := 1) KSm_b0 rfl)) (by decide) dX10_does_77 ?_
    refine c_iconst dX10_does_78 (v := 1) rfl ?_
    refine c_icmp_ne (tgt := 88) dX10_does_79 rfl (fun h7 => ?_) (fun h7 => ?_)
    · refine c_keep [0, 1, 2, 3] (ls2 := [(0, .inr 0), (1, .inl x1), (2, .inl x2), (3, .inl x3)]) rfl ?_
      exact jo_X10_does_88 d hlev x1 x2 x3 M
    · refine c_aload_n (i := 0) dX10_does_82 rfl rfl ?_
      refine c_iload_n (i := 1) dX10_does_83 rfl rfl ?_
      refine c_iconst dX10_does_84 (v := 0) rfl ?_
      refine c_callVv (as := [.inl x1, .inl 0]) (rs := []) (ev_X10_meetsLines 3 (Nat.le_refl _) x1 0 M) rfl (Nat.lt_of_lt_of_le (by decide) hlev) mw_X10_meetsLines wi_X10_meetsLines wv_X10_meetsLines (blk_get0 KSm_b0) (by decide) rfl wl_RX10_337 mn_X10_meetsLines rfl (by decide) (Nat.le_of_ble_eq_true rfl) rfl dX10_does_85 (fun v24 M25 _ => ?_)
      refine c_keep [0, 1, 2, 3] (ls2 := [(0, .inr 0), (1, .inl x1), (2, .inl x2), (3, .inl x3)]) rfl ?_
      exact jo_X10_does_88 d hlev x1 x2 x3 M25
  · refine c_iload_n (i := 2) dX10_does_32 rfl rfl ?_
    refine c_iload dX10_does_33 rfl ?_
    refine c_callSp (as := [.inl x2, .inl x4]) (rs := []) (ev_X10_has 0 (Nat.le_refl _) x2 x4 M) rfl (Nat.lt_of_lt_of_le (by decide) hlev) mw_X10_has ws_X10_has wl_RX10_169 mn_X10_has rfl (by decide) (Nat.le_of_ble_eq_true rfl) ⟨_, rfl⟩ dX10_does_35 ?_
    refine c_if_eq (tgt := 64) dX10_does_38 rfl (fun h26 => ?_) (fun h26 => ?_)
    · refine c_keep [0, 1, 2, 3, 4] (ls2 := [(0, .inr 0), (1, .inl x1), (2, .inl x2), (3, .inl x3), (4, .inl x4)]) rfl ?_
      exact jo_X10_does_64 d hlev x1 x2 x3 x4 K21 hK21 M
    · refine c_aload_n (i := 0) dX10_does_41 rfl rfl ?_
      refine gf_RX10_9 (blk_get0 KSm_b0) dX10_does_42 ?_
      refine c_iconst dX10_does_45 (v := 0) rfl ?_
      refine c_iload dX10_does_46 rfl ?_
      refine c_iadd dX10_does_48 ?_
      refine c_chk (fun h27 => ?_)
      refine c_iald (blk_get0 (blk_sub (C := [(20, 1671)]) (i := 1) KSm_b0 rfl)) h27 dX10_does_49 ?_
      refine c_iload_n (i := 3) dX10_does_50 rfl rfl ?_
      refine c_icmp_ge (tgt := 64) dX10_does_51 rfl (fun h28 => ?_) (fun h28 => ?_)
      · refine c_keep [0, 1, 2, 3, 4] (ls2 := [(0, .inr 0), (1, .inl x1), (2, .inl x2), (3, .inl x3), (4, .inl x4)]) rfl ?_
        exact jo_X10_does_64 d hlev x1 x2 x3 x4 K21 hK21 M
      · refine c_aload_n (i := 0) dX10_does_54 rfl rfl ?_
        refine gf_RX10_9 (blk_get0 KSm_b0) dX10_does_55 ?_
        refine c_iconst dX10_does_58 (v := 0) rfl ?_
        refine c_iload dX10_does_59 rfl ?_
        refine c_iadd dX10_does_61 ?_
        refine c_chk (fun h29 => ?_)
        refine c_iald (blk_get0 (blk_sub (C := [(20, 1671)]) (i := 1) KSm_b0 rfl)) h29 dX10_does_62 ?_
        refine c_istore_n (i := 3) dX10_does_63 rfl (by decide) (ls2 := [(0, .inr 0), (1, .inl x1), (2, .inl x2), (3, .inl (M 1 (ix (0 + x4)))), (4, .inl x4)]) rfl ?_
        refine c_keep [0, 1, 2, 3, 4] (ls2 := [(0, .inr 0), (1, .inl x1), (2, .inl x2), (3, .inl (M 1 (ix (0 + x4)))), (4, .inl x4)]) rfl ?_
        exact jo_X10_does_64 d hlev x1 x2 (M 1 (ix (0 + x4))) x4 K21 hK21 M
def f_X10_does (x1 : Int32) (M : Mem) : Option (Int32 × Mem) := bnd (f_X10_banksOf x1 M) (fun v1 M2 => bnd (f_X10_lowest v1 M2) (fun v3 M4 => if inb (0 + v3) 1671 then loopC (l_X10_does_21 x1 v1) fuelL (M4 1 (ix (0 + v3)), 0, M4) else none))
set_option maxRecDepth 20000 in
set_option maxHeartbeats 2000000 in
theorem ev_X10_does (d : Nat) (hlev : 4 ≤ d) (x1 : Int32) (M : Mem) : Ev KSm ST1 mdX10_does d [.inr 0, .inl x1] M (f_X10_does x1 M) := by
  refine ev_of rfl (Nat.le_of_ble_eq_true rfl) ?_
  show CorM KSm ST1 RX10 cX10_does 5 none d 0 [(0, .inr 0), (1, .inl x1)] [] M (f_X10_does x1 M)
  unfold f_X10_does
  refine c_aload_n (i := 0) dX10_does_0 rfl rfl ?_
  refine c_iload_n (i := 1) dX10_does_1 rfl rfl ?_
  refine c_callV (as := [.inl x1]) (rs := []) (ev_X10_banksOf 0 (Nat.le_refl _) x1 M) rfl (Nat.lt_of_lt_of_le (by decide) hlev) mw_X10_banksOf wi_X10_banksOf wv_X10_banksOf (blk_get0 KSm_b0) (by decide) rfl wl_RX10_238 mn_X10_banksOf rfl (by decide) (Nat.le_of_ble_eq_true rfl) ⟨_, rfl⟩ dX10_does_2 (fun v1 M2 _ => ?_)
  refine c_istore_n (i := 2) dX10_does_5 rfl (by decide) (ls2 := [(0, .inr 0), (1, .inl x1), (2, .inl v1)]) rfl ?_
  refine c_aload_n (i := 0) dX10_does_6 rfl rfl ?_
  refine gf_RX10_9 (blk_get0 KSm_b0) dX10_does_7 ?_
  refine c_iconst dX10_does_10 (v := 0) rfl ?_
  refine c_iload_n (i := 2) dX10_does_11 rfl rfl ?_
  refine c_callS (as := [.inl v1]) (rs := [.inl 0, .inr 1]) (ev_X10_lowest 1 (Nat.le_refl _) v1 M2) rfl (Nat.lt_of_lt_of_le (by decide) hlev) mw_X10_lowest ws_X10_lowest wl_RX10_263 mn_X10_lowest rfl (by decide) (Nat.le_of_ble_eq_true rfl) ⟨_, rfl⟩ dX10_does_12 (fun v3 M4 _ => ?_)
  refine c_iadd dX10_does_15 ?_
  refine c_chk (fun h5 => ?_)
  refine c_iald (blk_get0 (blk_sub (C := [(20, 1671)]) (i := 1) KSm_b0 rfl)) h5 dX10_does_16 ?_
  refine c_istore_n (i := 3) dX10_does_17 rfl (by decide) (ls2 := [(0, .inr 0), (1, .inl x1), (2, .inl v1), (3, .inl (M4 1 (ix (0 + v3))))]) rfl ?_
  refine c_iconst dX10_does_18 (v := 0) rfl ?_
  refine c_istore dX10_does_19 (by decide) (ls2 := [(0, .inr 0), (1, .inl x1), (2, .inl v1), (3, .inl (M4 1 (ix (0 + v3)))), (4, .inl 0)]) rfl ?_
  refine c_keep [0, 1, 2, 3, 4] (ls2 := [(0, .inr 0), (1, .inl x1), (2, .inl v1), (3, .inl (M4 1 (ix (0 + v3)))), (4, .inl 0)]) rfl ?_
  exact lo_X10_does_21 d hlev x1 v1 (M4 1 (ix (0 + v3)), 0, M4)
