abbrev mdX10_meets : MD := (yX10_meets, cX10_meets, 6, (some .boolean))
theorem mw_X10_meets : mdW mdX10_meets := ⟨wm_X10_meets, w0_RX10, by decide, by decide⟩
theorem mn_X10_meets : (parseMethodDescriptor yX10_meets.desc).map (fun d => d.parameters.length) = some 2 := by decide +kernel
def j_X10_meets_90 (x1 : Int32) (x2 : Int32) (x3 : Int32) (K2 : Int32 × Mem → Option (Int32 × Mem)) (M : Mem) : Option (Int32 × Mem) := K2 (x3 + 1, M)
set_option maxRecDepth 20000 in
set_option maxHeartbeats 2000000 in
theorem jo_X10_meets_90 (d : Nat) (hlev : 3 ≤ d) (x1 : Int32) (x2 : Int32) (x3 : Int32) (K2 : Int32 × Mem → Option (Int32 × Mem)) (hK2 : ∀ s : Int32 × Mem, CorM KSm ST1 RX10 cX10_meets 6 (some .boolean) d 2 [(0, .inr 0), (1, .inl x1), (2, .inl x2), (3, .inl s.1)] [] s.2 (K2 s)) (M : Mem) : CorM KSm ST1 RX10 cX10_meets 6 (some .boolean) d 90 [(0, .inr 0), (1, .inl x1), (2, .inl x2), (3, .inl x3)] [] M (j_X10_meets_90 x1 x2 x3 K2 M) := by
  unfold j_X10_meets_90
  refine c_iinc dX10_meets_90 rfl (v := 1) rfl (by decide) (ls2 := [(0, .inr 0), (1, .inl x1), (2, .inl x2), (3, .inl (x3 + 1))]) rfl ?_
  refine c_goto (tgt := 2) dX10_meets_93 rfl ?_
  refine c_keep [0, 1, 2, 3] (ls2 := [(0, .inr 0), (1, .inl x1), (2, .inl x2), (3, .inl (x3 + 1))]) rfl ?_
  exact hK2 (x3 + 1, M)
def j_X10_meets_88 (M : Mem) : Option (Int32 × Mem) := some (1, M)
set_option maxRecDepth 20000 in
set_option maxHeartbeats 2000000 in
theorem jo_X10_meets_88 (d : Nat) (hlev : 3 ≤ d) (M : Mem) : CorM KSm ST1 RX10 cX10_meets 6 (some .boolean) d 88 [] [] M (j_X10_meets_88 M) := by
  unfold j_X10_meets_88
  refine c_iconst dX10_meets_88 (v := 1) rfl ?_
  exact c_zret rfl (Or.inr rfl) dX10_meets_89
def l_X10_meets_2 (x1 : Int32) (x2 : Int32) (K2 : Int32 × Mem → Option (Int32 × Mem)) : Int32 × Mem → Option (Int32 × Mem) := fun s => match s with
  | (x3, M) => if (M 5 0) ≤ x3 then some (0, M) else bnd (f_X10_banksOf x1 M) (fun v2 M3 => if (p_X10_has v2 x3) = 0 then j_X10_meets_90 x1 x2 x3 K2 M3 else bnd (f_X10_banksOf x2 M3) (fun v5 M6 => if ¬ (p_X10_has v5 x3) = 0 then bnd (f_X10_touches x1 x3 M6) (fun _ M9 => bnd (f_X10_touches x2 x3 M9) (fun _ M11 => if ¬ ((M9 0 18) &&& ((M11 0 17) ||| (M11 0 18))) = 0 then j_X10_meets_88 M11 else if ((M11 0 18) &&& (M9 0 17)) = 0 then j_X10_meets_90 x1 x2 x3 K2 M11 else j_X10_meets_88 M11)) else j_X10_meets_90 x1 x2 x3 K2 M6))
set_option maxRecDepth 20000 in
set_option maxHeartbeats 2000000 in
theorem lo_X10_meets_2 (d : Nat) (hlev : 3 ≤ d) (x1 : Int32) (x2 : Int32) (s : Int32 × Mem) : CorM KSm ST1 RX10 cX10_meets 6 (some .boolean) d 2 [(0, .inr 0), (1, .inl x1), (2, .inl x2), (3, .inl s.1)] [] s.2 (loopC (l_X10_meets_2 x1 x2) fuelL s) := by
  refine c_loop (L := fun s : Int32 × Mem => [(0, .inr 0), (1, .inl x1), (2, .inl x2), (3, .inl s.1)]) (Mf := fun s : Int32 × Mem => s.2) (fun K2 hK2 s => ?_) fuelL s
  obtain ⟨x3, M⟩ := s
  show CorM KSm ST1 RX10 cX10_meets 6 (some .boolean) d 2 [(0, .inr 0), (1, .inl x1), (2, .inl x2), (3, .inl x3)] [] M (l_X10_meets_2 x1 x2 K2 (x3, M))
  unfold l_X10_meets_2
  refine c_iload_n (i := 3) dX10_meets_2 rfl rfl ?_
  refine c_aload_n (i := 0) dX10_meets_3 rfl rfl ?_
  refine gf_RX10_23 (blk_get0 KSm_b0) dX10_meets_4 ?_
  refine c_iconst dX10_meets_7 (v := 0) rfl ?_
  refine c_iald (blk_get0 (blk_sub (C := [(20, 290)]) (i := 5) KSm_b0 rfl)) (by decide) dX10_meets_8 ?_
  refine c_icmp_ge (tgt := 96) dX10_meets_9 rfl (fun h1 => ?_) (fun h1 => ?_)
  · refine c_iconst dX10_meets_96 (v := 0) rfl ?_
    exact c_zret rfl (Or.inl rfl) dX10_meets_97
  · refine c_aload_n (i := 0) dX10_meets_12 rfl rfl ?_
    refine c_iload_n (i := 1) dX10_meets_13 rfl rfl ?_
    refine c_callV (as := [.inl x1]) (rs := []) (ev_X10_banksOf 0 (Nat.le_refl _) x1 M) rfl (Nat.lt_of_lt_of_le (by decide) hlev) mw_X10_banksOf wi_X10_banksOf wv_X10_banksOf (blk_get0 KSm_b0) (by decide) rfl wl_RX10_238 mn_X10_banksOf rfl (by decide) (Nat.le_of_ble_eq_true rfl) ⟨_, rfl⟩ dX10_meets_14 (fun v2 M3 _ => ?_)
    refine c_iload_n (i := 3) dX10_meets_17 rfl rfl ?_
    refine c_callSp (as := [.inl v2, .inl x3]) (rs := []) (ev_X10_has 0 (Nat.le_refl _) v2 x3 M3) rfl (Nat.lt_of_lt_of_le (by decide) hlev) mw_X10_has ws_X10_has wl_RX10_169 mn_X10_has rfl (by decide) (Nat.le_of_ble_eq_true rfl) ⟨_, rfl⟩ dX10_meets_18 ?_
    refine c_if_eq (tgt := 90) dX10_meets_21 rfl (fun h4 => ?_) (fun h4 => ?_)
    · refine c_keep [0, 1, 2, 3] (ls2 := [(0, .inr 0), (1, .inl x1), (2, .inl x2), (3, .inl x3)]) rfl ?_
      exact jo_X10_meets_90 d hlev x1 x2 x3 K2 hK2 M3
    · refine c_aload_n (i := 0) dX10_meets_24 rfl rfl ?_
      refine c_iload_n (i := 2) dX10_meets_25 rfl rfl ?_
      refine c_callV (as := [.inl x2]) (rs := []) (ev_X10_banksOf 0 (Nat.le_refl _) x2 M3) rfl (Nat.lt_of_lt_of_le (by decide) hlev) mw_X10_banksOf wi_X10_banksOf wv_X10_banksOf (blk_get0 KSm_b0) (by decide) rfl wl_RX10_238 mn_X10_banksOf rfl (by decide) (Nat.le_of_ble_eq_true rfl) ⟨_, rfl⟩ dX10_meets_26 (fun v5 M6 _ => ?_)
      refine c_iload_n (i := 3) dX10_meets_29 rfl rfl ?_
      refine c_callSp (as := [.inl v5, .inl x3]) (rs := []) (ev_X10_has 0 (Nat.le_refl _) v5 x3 M6) rfl (Nat.lt_of_lt_of_le (by decide) hlev) mw_X10_has ws_X10_has wl_RX10_169 mn_X10_has rfl (by decide) (Nat.le_of_ble_eq_true rfl) ⟨_, rfl⟩ dX10_meets_30 ?_
      refine c_if_ne (tgt := 39) dX10_meets_33 rfl (fun h7 => ?_) (fun h7 => ?_)
      · refine c_aload_n (i := 0) dX10_meets_39 rfl rfl ?_
        refine c_iload_n (i := 1) dX10_meets_40 rfl rfl ?_
        refine c_iload_n (i := 3) dX10_meets_41 rfl rfl ?_
        refine c_callVv (as := [.inl x1, .inl x3]) (rs := []) (ev_X10_touches 2 (Nat.le_refl _) x1 x3 M6) rfl (Nat.lt_of_lt_of_le (by decide) hlev) mw_X10_touches wi_X10_touches wv_X10_touches (blk_get0 KSm_b0) (by decide) rfl wl_RX10_368 mn_X10_touches rfl (by decide) (Nat.le_of_ble_eq_true rfl) rfl dX10_meets_42 (fun v8 M9 _ => ?_)
        refine c_aload_n (i := 0) dX10_meets_45 rfl rfl ?_
        refine gf_RX10_362 (blk_get0 KSm_b0) dX10_meets_46 ?_
        refine c_istore dX10_meets_49 (by decide) (ls2 := [(0, .inr 0), (1, .inl x1), (2, .inl x2), (3, .inl x3), (4, .inl (M9 0 17))]) rfl ?_
        refine c_aload_n (i := 0) dX10_meets_51 rfl rfl ?_
        refine gf_RX10_365 (blk_get0 KSm_b0) dX10_meets_52 ?_
        refine c_istore dX10_meets_55 (by decide) (ls2 := [(0, .inr 0), (1, .inl x1), (2, .inl x2), (3, .inl x3), (4, .inl (M9 0 17)), (5, .inl (M9 0 18))]) rfl ?_
        refine c_aload_n (i := 0) dX10_meets_57 rfl rfl ?_
        refine c_iload_n (i := 2) dX10_meets_58 rfl rfl ?_
        refine c_iload_n (i := 3) dX10_meets_59 rfl rfl ?_
        refine c_callVv (as := [.inl x2, .inl x3]) (rs := []) (ev_X10_touches 2 (Nat.le_refl _) x2 x3 M9) rfl (Nat.lt_of_lt_of_le (by decide) hlev) mw_X10_touches wi_X10_touches wv_X10_touches (blk_get0 KSm_b0) (by decide) rfl wl_RX10_368 mn_X10_touches rfl (by decide) (Nat.le_of_ble_eq_true rfl) rfl dX10_meets_60 (fun v10 M11 _ => ?_)
        refine c_iload dX10_meets_63 rfl ?_
        refine c_aload_n (i := 0) dX10_meets_65 rfl rfl ?_
        refine gf_RX10_362 (blk_get0 KSm_b0) dX10_meets_66 ?_
        refine c_aload_n (i := 0) dX10_meets_69 rfl rfl ?_
        refine gf_RX10_365 (blk_get0 KSm_b0) dX10_meets_70 ?_
        refine c_ior dX10_meets_73 ?_
        refine c_iand dX10_meets_74 ?_
        refine c_if_ne (tgt := 88) dX10_meets_75 rfl (fun h12 => ?_) (fun h12 => ?_)
        · refine c_keep [] (ls2 := []) rfl ?_
          exact jo_X10_meets_88 d hlev M11
        · refine c_aload_n (i := 0) dX10_meets_78 rfl rfl ?_
          refine gf_RX10_365 (blk_get0 KSm_b0) dX10_meets_79 ?_
          refine c_iload dX10_meets_82 rfl ?_
          refine c_iand dX10_meets_84 ?_
          refine c_if_eq (tgt := 90) dX10_meets_85 rfl (fun h13 => ?_) (fun h13 => ?_)
          · refine c_keep [0, 1, 2, 3] (ls2 := [(0, .inr 0), (1, .inl x1), (2, .inl x2), (3, .inl x3)]) rfl ?_
            exact jo_X10_meets_90 d hlev x1 x2 x3 K2 hK2 M11
          · refine c_keep [] (ls2 := []) rfl ?_
            exact jo_X10_meets_88 d hlev M11
      · refine c_goto (tgt := 90) dX10_meets_36 rfl ?_
        refine c_keep [0, 1, 2, 3] (ls2 := [(0, .inr 0), (1, .inl x1), (2, .inl x2), (3, .inl x3)]) rfl ?_
        exact jo_X10_meets_90 d hlev x1 x2 x3 K2 hK2 M6
def f_X10_meets (x1 : Int32) (x2 : Int32) (M : Mem) : Option (Int32 × Mem) := loopC (l_X10_meets_2 x1 x2) fuelL (0, M)
set_option maxRecDepth 20000 in
set_option maxHeartbeats 2000000 in
theorem ev_X10_meets (d : Nat) (hlev : 3 ≤ d) (x1 : Int32) (x2 : Int32) (M : Mem) : Ev KSm ST1 mdX10_meets d [.inr 0, .inl x1, .inl x2] M (f_X10_meets x1 x2 M) := by
  refine ev_of rfl (Nat.le_of_ble_eq_true rfl) ?_
  show CorM KSm ST1 RX10 cX10_meets 6 (some .boolean) d 0 [(0, .inr 0), (1, .inl x1), (2, .inl x2)] [] M (f_X10_meets x1 x2 M)
  unfold f_X10_meets
  refine c_iconst dX10_meets_0 (v := 0) rfl ?_
  refine c_istore_n (i := 3) dX10_meets_1 rfl (by decide) (ls2 := [(0, .inr 0), (1, .inl x1), (2, .inl x2), (3, .inl 0)]) rfl ?_
  refine c_keep [0, 1, 2, 3] (ls2 := [(0, .inr 0), (1, .inl x1), (2, .inl x2), (3, .inl 0)]) rfl ?_
  exact lo_X10_meets_2 d hlev x1 x2 (0, M)

abbrev mdX10_isConflict : MD := (yX10_isConflict, cX10_isConflict, 3, (some .boolean))
theorem mw_X10_isConflict : mdW mdX10_isConflict := ⟨wm_X10_isConflict, w0_RX10, by decide, by decide⟩
theorem mn_X10_isConflict : (parseMethodDescriptor yX10_isConflict.desc).map (fun d => d.parameters.length) = some 2 := by decide +kernel
def j_X10_isConflict_48 (w0 : Int32) (M : Mem) : Option (Int32 × Mem) := if isB w0 then some (w0, M) else none
set_option maxRecDepth 20000 in
set_option maxHeartbeats 2000000 in
theorem jo_X10_isConflict_48 (d : Nat) (hlev : 4 ≤ d) (w0 : Int32) (M : Mem) : CorM KSm ST1 RX10 cX10_isConflict 3 (some .boolean) d 48 [] [.inl w0] M (j_X10_isConflict_48 w0 M) := by
  unfold j_X10_isConflict_48
  refine c_chk (fun h6 => ?_)
  exact c_zret rfl h6 dX10_isConflict_48
def j_X10_isConflict_47 (M : Mem) : Option (Int32 × Mem) := j_X10_isConflict_48 0 M
set_option maxRecDepth 20000 in
set_option maxHeartbeats 2000000 in
theorem jo_X10_isConflict_47 (d : Nat) (hlev : 4 ≤ d) (M : Mem) : CorM KSm ST1 RX10 cX10_isConflict 3 (some .boolean) d 47 [] [] M (j_X10_isConflict_47 M) := by
  unfold j_X10_isConflict_47
  refine c_iconst dX10_isConflict_47 (v := 0) rfl ?_
  refine c_keep [] (ls2 := []) rfl ?_
  exact jo_X10_isConflict_48 d hlev 0 M
def f_X10_isConflict (x1 : Int32) (x2 : Int32) (M : Mem) : Option (Int32 × Mem) := wrt (up M 0 0 0) (fun M1 => bnd (f_X10_may (if (p_X10_isBatch x1 M1) = 0 then (0 : Int32) else if (p_X10_isBatch x2 M1) = 0 then (0 : Int32) else (1 : Int32)) 1 M1) (fun v3 M4 => if v3 = 0 then j_X10_isConflict_47 M4 else bnd (f_X10_meets x1 x2 M4) (fun v7 M8 => some ((if v7 = 0 then (0 : Int32) else (1 : Int32)), M8))))
set_option maxRecDepth 20000 in
set_option maxHeartbeats 2000000 in
theorem ev_X10_isConflict (d : Nat) (hlev : 4 ≤ d) (x1 : Int32) (x2 : Int32) (M : Mem) : Ev KSm ST1 mdX10_isConflict d [.inr 0, .inl x1, .inl x2] M (f_X10_isConflict x1 x2 M) := by
  refine ev_of rfl (Nat.le_of_ble_eq_true rfl) ?_
  show CorM KSm ST1 RX10 cX10_isConflict 3 (some .boolean) d 0 [(0, .inr 0), (1, .inl x1), (2, .inl x2)] [] M (f_X10_isConflict x1 x2 M)
  unfold f_X10_isConflict
  refine c_aload_n (i := 0) dX10_isConflict_0 rfl rfl ?_
  refine c_iconst dX10_isConflict_1 (v := 0) rfl ?_
  refine pf_RX10_60 (blk_get0 KSm_b0) dX10_isConflict_2 ?_
  refine c_wrt (fun M1 => ?_)
  refine c_aload_n (i := 0) dX10_isConflict_5 rfl rfl ?_
  refine c_aload_n (i := 0) dX10_isConflict_6 rfl rfl ?_
  refine c_iload_n (i := 1) dX10_isConflict_7 rfl rfl ?_
  refine c_callVp (as := [.inl x1]) (rs := [.inr 0]) (ev_X10_isBatch 1 (Nat.le_refl _) x1 M1) rfl (Nat.lt_of_lt_of_le (by decide) hlev) mw_X10_isBatch wi_X10_isBatch wv_X10_isBatch (blk_get0 KSm_b0) (by decide) rfl wl_RX10_235 mn_X10_isBatch rfl (by decide) (Nat.le_of_ble_eq_true rfl) ⟨_, rfl⟩ dX10_isConflict_8 ?_
  have J_z2 : ∀ z2 : Int32, isB z2 → CorM KSm ST1 RX10 cX10_isConflict 3 (some .boolean) d 27 [(0, .inr 0), (1, .inl x1), (2, .inl x2)] [.inl z2, .inr 0] M1 (bnd (f_X10_may z2 1 M1) (fun v3 M4 => if v3 = 0 then j_X10_isConflict_47 M4 else bnd (f_X10_meets x1 x2 M4) (fun v7 M8 => some ((if v7 = 0 then (0 : Int32) else (1 : Int32)), M8)))) := by
    intro z2 h_z2
    refine c_iconst dX10_isConflict_27 (v := 1) rfl ?_
    refine c_callV (as := [.inl z2, .inl 1]) (rs := []) (ev_X10_may 0 (Nat.le_refl _) z2 1 M1) rfl (Nat.lt_of_lt_of_le (by decide) hlev) mw_X10_may wi_X10_may wv_X10_may (blk_get0 KSm_b0) (by decide) rfl wl_RX10_66 mn_X10_may rfl (by decide) (Nat.le_of_ble_eq_true rfl) ⟨_, rfl⟩ dX10_isConflict_28 (fun v3 M4 _ => ?_)
    refine c_if_eq (tgt := 47) dX10_isConflict_31 rfl (fun h5 => ?_) (fun h5 => ?_)
    · refine c_keep [] (ls2 := []) rfl ?_
      exact jo_X10_isConflict_47 d hlev M4
    · refine c_aload_n (i := 0) dX10_isConflict_34 rfl rfl ?_
      refine c_iload_n (i := 1) dX10_isConflict_35 rfl rfl ?_
      refine c_iload_n (i := 2) dX10_isConflict_36 rfl rfl ?_
      refine c_callV (as := [.inl x1, .inl x2]) (rs := []) (ev_X10_meets 3 (Nat.le_refl _) x1 x2 M4) rfl (Nat.lt_of_lt_of_le (by decide) hlev) mw_X10_meets wi_X10_meets wv_X10_meets (blk_get0 KSm_b0) (by decide) rfl wl_RX10_371 mn_X10_meets rfl (by decide) (Nat.le_of_ble_eq_true rfl) ⟨_, rfl⟩ dX10_isConflict_37 (fun v7 M8 _ => ?_)
      have J_z9 : ∀ z9 : Int32, isB z9 → CorM KSm ST1 RX10 cX10_isConflict 3 (some .boolean) d 48 [] [.inl z9] M8 (some (z9, M8)) := by
        intro z9 h_z9
        exact c_zret rfl h_z9 dX10_isConflict_48
      refine c_val (b := v7 = 0) (v1 := (0 : Int32)) (v2 := (1 : Int32)) (F := fun z9 => some (z9, M8)) (fun h10 => ?_) (fun h10 => ?_)
      · refine c_T h10 (c_if_eq (tgt := 47) dX10_isConflict_40 rfl (fun _ => ?_) (fun q => absurd h10 q))
        refine c_iconst dX10_isConflict_47 (v := 0) rfl ?_
        refine c_keep [] (ls2 := []) rfl ?_
        exact J_z9 0 (Or.inl rfl)
      · refine c_Fl h10 (c_if_eq (tgt := 47) dX10_isConflict_40 rfl (fun q => absurd q h10) (fun _ => ?_))
        refine c_iconst dX10_isConflict_43 (v := 1) rfl ?_
        refine c_goto (tgt := 48) dX10_isConflict_44 rfl ?_
        refine c_keep [] (ls2 := []) rfl ?_
        exact J_z9 1 (Or.inr rfl)
  refine c_val (b := (p_X10_isBatch x1 M1) = 0) (v1 := (0 : Int32)) (v2 := if (p_X10_isBatch x2 M1) = 0 then (0 : Int32) else (1 : Int32)) (F := fun z2 => bnd (f_X10_may z2 1 M1) (fun v3 M4 => if v3 = 0 then j_X10_isConflict_47 M4 else bnd (f_X10_meets x1 x2 M4) (fun v7 M8 => some ((if v7 = 0 then (0 : Int32) else (1 : Int32)), M8)))) (fun h11 => ?_) (fun h11 => ?_)
  · refine c_T h11 (c_if_eq (tgt := 26) dX10_isConflict_11 rfl (fun _ => ?_) (fun q => absurd h11 q))
    refine c_iconst dX10_isConflict_26 (v := 0) rfl ?_
    refine c_keep [0, 1, 2] (ls2 := [(0, .inr 0), (1, .inl x1), (2, .inl x2)]) rfl ?_
    exact J_z2 0 (Or.inl rfl)
  · refine c_Fl h11 (c_if_eq (tgt := 26) dX10_isConflict_11 rfl (fun q => absurd q h11) (fun _ => ?_))
    refine c_aload_n (i := 0) dX10_isConflict_14 rfl rfl ?_
    refine c_iload_n (i := 2) dX10_isConflict_15 rfl rfl ?_
    refine c_callVp (as := [.inl x2]) (rs := [.inr 0]) (ev_X10_isBatch 1 (Nat.le_refl _) x2 M1) rfl (Nat.lt_of_lt_of_le (by decide) hlev) mw_X10_isBatch wi_X10_isBatch wv_X10_isBatch (blk_get0 KSm_b0) (by decide) rfl wl_RX10_235 mn_X10_isBatch rfl (by decide) (Nat.le_of_ble_eq_true rfl) ⟨_, rfl⟩ dX10_isConflict_16 ?_
    refine c_val (b := (p_X10_isBatch x2 M1) = 0) (v1 := (0 : Int32)) (v2 := (1 : Int32)) (F := fun z2 => bnd (f_X10_may z2 1 M1) (fun v3 M4 => if v3 = 0 then j_X10_isConflict_47 M4 else bnd (f_X10_meets x1 x2 M4) (fun v7 M8 => some ((if v7 = 0 then (0 : Int32) else (1 : Int32)), M8)))) (fun h12 => ?_) (fun h12 => ?_)
    · refine c_T h12 (c_if_eq (tgt := 26) dX10_isConflict_19 rfl (fun _ => ?_) (fun q => absurd h12 q))
      refine c_iconst dX10_isConflict_26 (v := 0) rfl ?_
      refine c_keep [0, 1, 2] (ls2 := [(0, .inr 0), (1, .inl x1), (2, .inl x2)]) rfl ?_
      exact J_z2 0 (Or.inl rfl)
    · refine c_Fl h12 (c_if_eq (tgt := 26) dX10_isConflict_19 rfl (fun q => absurd q h12) (fun _ => ?_))
      refine c_iconst dX10_isConflict_22 (v := 1) rfl ?_
      refine c_goto (tgt := 27) dX10_isConflict_23 rfl ?_
      refine c_keep [0, 1, 2] (ls2 := [(0, .inr 0), (1, .inl x1), (2, .inl x2)]) rfl ?_
      exact J_z2 1 (Or.inr rfl)

abbrev mdX10_longestChain : MD := (yX10_longestChain, cX10_longestChain, 4, (some .int))
theorem mw_X10_longestChain : mdW mdX10_longestChain := ⟨wm_X10_longestChain, w0_RX10, by decide, by decide⟩
theorem mn_X10_longestChain : (parseMethodDescriptor yX10_longestChain.desc).map (fun d => d.parameters.length) = some 0 := by decide +kernel
def j_X10_longestChain_91 (x1 : Int32) (x2 : Int32) (x3 : Int32) (K9 : Int32 × Int32 × Mem → Option (Int32 × Mem)) (K30 : Int32 × Mem → Option (Int32 × Mem)) (M : Mem) : Option (Int32 × Mem) := K30 (x3 + 1, M)
set_option maxRecDepth 20000 in
set_option maxHeartbeats 2000000 in
theorem jo_X10_longestChain_91 (d : Nat) (hlev : 4 ≤ d) (x1 : Int32) (x2 : Int32) (x3 : Int32) (K9 : Int32 × Int32 × Mem → Option (Int32 × Mem)) (hK9 : ∀ s : Int32 × Int32 × Mem, CorM KSm ST1 RX10 cX10_longestChain 4 (some .int) d 9 [(0, .inr 0), (1, .inl s.1), (2, .inl s.2.1)] [] s.2.2 (K9 s)) (K30 : Int32 × Mem → Option (Int32 × Mem)) (hK30 : ∀ s : Int32 × Mem, CorM KSm ST1 RX10 cX10_longestChain 4 (some .int) d 30 [(0, .inr 0), (1, .inl x1), (2, .inl x2), (3, .inl s.1)] [] s.2 (K30 s)) (M : Mem) : CorM KSm ST1 RX10 cX10_longestChain 4 (some .int) d 91 [(0, .inr 0), (1, .inl x1), (2, .inl x2), (3, .inl x3)] [] M (j_X10_longestChain_91 x1 x2 x3 K9 K30 M) := by
  unfold j_X10_longestChain_91
  refine c_iinc dX10_longestChain_91 rfl (v := 1) rfl (by decide) (ls2 := [(0, .inr 0), (1, .inl x1), (2, .inl x2), (3, .inl (x3 + 1))]) rfl ?_
  refine c_goto (tgt := 30) dX10_longestChain_94 rfl ?_
  refine c_keep [0, 1, 2, 3] (ls2 := [(0, .inr 0), (1, .inl x1), (2, .inl x2), (3, .inl (x3 + 1))]) rfl ?_
  exact hK30 (x3 + 1, M)
def l_X10_longestChain_30 (x1 : Int32) (x2 : Int32) (K9 : Int32 × Int32 × Mem → Option (Int32 × Mem)) (K30 : Int32 × Mem → Option (Int32 × Mem)) : Int32 × Mem → Option (Int32 × Mem) := fun s => match s with
  | (x3, M) => if x2 ≤ x3 then if inb x2 16 then K9 (p_X10_greater x1 (M 9 (ix x2)), x2 + 1, M) else none else if inb x3 16 then if inb x2 16 then if (M 9 (ix x3)) < (M 9 (ix x2)) then j_X10_longestChain_91 x1 x2 x3 K9 K30 M else if inb (1441 + x3) 1671 then if inb (1441 + x2) 1671 then bnd (f_X10_meets (M 1 (ix (1441 + x3))) (M 1 (ix (1441 + x2))) M) (fun v12 M13 => if v12 = 0 then j_X10_longestChain_91 x1 x2 x3 K9 K30 M13 else if inb x3 16 then if inb x2 16 then wrt (up M13 9 (ix x2) ((M13 9 (ix x3)) + 1)) (fun M17 => j_X10_longestChain_91 x1 x2 x3 K9 K30 M17) else none else none) else none else none else none else none
set_option maxRecDepth 20000 in
set_option maxHeartbeats 2000000 in
theorem lo_X10_longestChain_30 (d : Nat) (hlev : 4 ≤ d) (x1 : Int32) (x2 : Int32) (K9 : Int32 × Int32 × Mem → Option (Int32 × Mem)) (hK9 : ∀ s : Int32 × Int32 × Mem, CorM KSm ST1 RX10 cX10_longestChain 4 (some .int) d 9 [(0, .inr 0), (1, .inl s.1), (2, .inl s.2.1)] [] s.2.2 (K9 s)) (s : Int32 × Mem) : CorM KSm ST1 RX10 cX10_longestChain 4 (some .int) d 30 [(0, .inr 0), (1, .inl x1), (2, .inl x2), (3, .inl s.1)] [] s.2 (loopC (l_X10_longestChain_30 x1 x2 K9) fuelL s) := by
  refine c_loop (L := fun s : Int32 × Mem => [(0, .inr 0), (1, .inl x1), (2, .inl x2), (3, .inl s.1)]) (Mf := fun s : Int32 × Mem => s.2) (fun K30 hK30 s => ?_) fuelL s
  obtain ⟨x3, M⟩ := s
  show CorM KSm ST1 RX10 cX10_longestChain 4 (some .int) d 30 [(0, .inr 0), (1, .inl x1), (2, .inl x2), (3, .inl x3)] [] M (l_X10_longestChain_30 x1 x2 K9 K30 (x3, M))
  unfold l_X10_longestChain_30
  refine c_iload_n (i := 3) dX10_longestChain_30 rfl rfl ?_
  refine c_iload_n (i := 2) dX10_longestChain_31 rfl rfl ?_
  refine c_icmp_ge (tgt := 97) dX10_longestChain_32 rfl (fun h5 => ?_) (fun h5 => ?_)
  · refine c_iload_n (i := 1) dX10_longestChain_97 rfl rfl ?_
    refine c_aload_n (i := 0) dX10_longestChain_98 rfl rfl ?_
    refine gf_RX10_39 (blk_get0 KSm_b0) dX10_longestChain_99 ?_
    refine c_iload_n (i := 2) dX10_longestChain_102 rfl rfl ?_
    refine c_chk (fun h6 => ?_)
    refine c_iald (blk_get0 (blk_sub (C := [(20, 16)]) (i := 9) KSm_b0 rfl)) h6 dX10_longestChain_103 ?_
    refine c_callSp (as := [.inl x1, .inl (M 9 (ix x2))]) (rs := []) (ev_X10_greater 0 (Nat.le_refl _) x1 (M 9 (ix x2)) M) rfl (Nat.lt_of_lt_of_le (by decide) hlev) mw_X10_greater ws_X10_greater wl_RX10_279 mn_X10_greater rfl (by decide) (Nat.le_of_ble_eq_true rfl) ⟨_, rfl⟩ dX10_longestChain_104 ?_
    refine c_istore_n (i := 1) dX10_longestChain_107 rfl (by decide) (ls2 := [(0, .inr 0), (1, .inl (p_X10_greater x1 (M 9 (ix x2)))), (2, .inl x2), (3, .inl x3)]) rfl ?_
    refine c_iinc dX10_longestChain_108 rfl (v := 1) rfl (by decide) (ls2 := [(0, .inr 0), (1, .inl (p_X10_greater x1 (M 9 (ix x2)))), (2, .inl (x2 + 1)), (3, .inl x3)]) rfl ?_
    refine c_goto (tgt := 9) dX10_longestChain_111 rfl ?_
    refine c_keep [0, 1, 2] (ls2 := [(0, .inr 0), (1, .inl (p_X10_greater x1 (M 9 (ix x2)))), (2, .inl (x2 + 1))]) rfl ?_
    exact hK9 (p_X10_greater x1 (M 9 (ix x2)), x2 + 1, M)
  · refine c_aload_n (i := 0) dX10_longestChain_35 rfl rfl ?_
    refine gf_RX10_39 (blk_get0 KSm_b0) dX10_longestChain_36 ?_
    refine c_iload_n (i := 3) dX10_longestChain_39 rfl rfl ?_
    refine c_chk (fun h7 => ?_)
    refine c_iald (blk_get0 (blk_sub (C := [(20, 16)]) (i := 9) KSm_b0 rfl)) h7 dX10_longestChain_40 ?_
    refine c_aload_n (i := 0) dX10_longestChain_41 rfl rfl ?_
    refine gf_RX10_39 (blk_get0 KSm_b0) dX10_longestChain_42 ?_
    refine c_iload_n (i := 2) dX10_longestChain_45 rfl rfl ?_
    refine c_chk (fun h8 => ?_)
    refine c_iald (blk_get0 (blk_sub (C := [(20, 16)]) (i := 9) KSm_b0 rfl)) h8 dX10_longestChain_46 ?_
    refine c_icmp_lt (tgt := 91) dX10_longestChain_47 rfl (fun h9 => ?_) (fun h9 => ?_)
    · refine c_keep [0, 1, 2, 3] (ls2 := [(0, .inr 0), (1, .inl x1), (2, .inl x2), (3, .inl x3)]) rfl ?_
      exact jo_X10_longestChain_91 d hlev x1 x2 x3 K9 hK9 K30 hK30 M
    · refine c_aload_n (i := 0) dX10_longestChain_50 rfl rfl ?_
      refine c_aload_n (i := 0) dX10_longestChain_51 rfl rfl ?_
      refine gf_RX10_9 (blk_get0 KSm_b0) dX10_longestChain_52 ?_
      refine c_sipush dX10_longestChain_55 (v := 1441) rfl ?_
      refine c_iload_n (i := 3) dX10_longestChain_58 rfl rfl ?_
      refine c_iadd dX10_longestChain_59 ?_
      refine c_chk (fun h10 => ?_)
      refine c_iald (blk_get0 (blk_sub (C := [(20, 1671)]) (i := 1) KSm_b0 rfl)) h10 dX10_longestChain_60 ?_
      refine c_aload_n (i := 0) dX10_longestChain_61 rfl rfl ?_
      refine gf_RX10_9 (blk_get0 KSm_b0) dX10_longestChain_62 ?_
      refine c_sipush dX10_longestChain_65 (v := 1441) rfl ?_
      refine c_iload_n (i := 2) dX10_longestChain_68 rfl rfl ?_
      refine c_iadd dX10_longestChain_69 ?_
      refine c_chk (fun h11 => ?_)
      refine c_iald (blk_get0 (blk_sub (C := [(20, 1671)]) (i := 1) KSm_b0 rfl)) h11 dX10_longestChain_70 ?_
      refine c_callV (as := [.inl (M 1 (ix (1441 + x3))), .inl (M 1 (ix (1441 + x2)))]) (rs := []) (ev_X10_meets 3 (Nat.le_refl _) (M 1 (ix (1441 + x3))) (M 1 (ix (1441 + x2))) M) rfl (Nat.lt_of_lt_of_le (by decide) hlev) mw_X10_meets wi_X10_meets wv_X10_meets (blk_get0 KSm_b0) (by decide) rfl wl_RX10_371 mn_X10_meets rfl (by decide) (Nat.le_of_ble_eq_true rfl) ⟨_, rfl⟩ dX10_longestChain_71 (fun v12 M13 _ => ?_)
      refine c_if_eq (tgt := 91) dX10_longestChain_74 rfl (fun h14 => ?_) (fun h14 => ?_)
      · refine c_keep [0, 1, 2, 3] (ls2 := [(0, .inr 0), (1, .inl x1), (2, .inl x2), (3, .inl x3)]) rfl ?_
        exact jo_X10_longestChain_91 d hlev x1 x2 x3 K9 hK9 K30 hK30 M13
      · refine c_aload_n (i := 0) dX10_longestChain_77 rfl rfl ?_
        refine gf_RX10_39 (blk_get0 KSm_b0) dX10_longestChain_78 ?_
        refine c_iload_n (i := 2) dX10_longestChain_81 rfl rfl ?_
        refine c_aload_n (i := 0) dX10_longestChain_82 rfl rfl ?_
        refine gf_RX10_39 (blk_get0 KSm_b0) dX10_longestChain_83 ?_
        refine c_iload_n (i := 3) dX10_longestChain_86 rfl rfl ?_
        refine c_chk (fun h15 => ?_)
        refine c_iald (blk_get0 (blk_sub (C := [(20, 16)]) (i := 9) KSm_b0 rfl)) h15 dX10_longestChain_87 ?_
        refine c_iconst dX10_longestChain_88 (v := 1) rfl ?_
        refine c_iadd dX10_longestChain_89 ?_
        refine c_chk (fun h16 => ?_)
        refine c_iast (blk_get0 (blk_sub (C := [(20, 16)]) (i := 9) KSm_b0 rfl)) h16 dX10_longestChain_90 ?_
        refine c_wrt (fun M17 => ?_)
        refine c_keep [0, 1, 2, 3] (ls2 := [(0, .inr 0), (1, .inl x1), (2, .inl x2), (3, .inl x3)]) rfl ?_
        exact jo_X10_longestChain_91 d hlev x1 x2 x3 K9 hK9 K30 hK30 M17
def l_X10_longestChain_9 (K9 : Int32 × Int32 × Mem → Option (Int32 × Mem)) : Int32 × Int32 × Mem → Option (Int32 × Mem) := fun s => match s with
  | (x1, x2, M) => if (M 1 1440) ≤ x2 then some (x1, M) else if inb x2 16 then wrt (up M 9 (ix x2) 1) (fun M4 => loopC (l_X10_longestChain_30 x1 x2 K9) fuelL (0, M4)) else none
set_option maxRecDepth 20000 in
set_option maxHeartbeats 2000000 in
theorem lo_X10_longestChain_9 (d : Nat) (hlev : 4 ≤ d) (s : Int32 × Int32 × Mem) : CorM KSm ST1 RX10 cX10_longestChain 4 (some .int) d 9 [(0, .inr 0), (1, .inl s.1), (2, .inl s.2.1)] [] s.2.2 (loopC (l_X10_longestChain_9) fuelL s) := by
  refine c_loop (L := fun s : Int32 × Int32 × Mem => [(0, .inr 0), (1, .inl s.1), (2, .inl s.2.1)]) (Mf := fun s : Int32 × Int32 × Mem => s.2.2) (fun K9 hK9 s => ?_) fuelL s
  obtain ⟨x1, x2, M⟩ := s
  show CorM KSm ST1 RX10 cX10_longestChain 4 (some .int) d 9 [(0, .inr 0), (1, .inl x1), (2, .inl x2)] [] M (l_X10_longestChain_9 K9 (x1, x2, M))
  unfold l_X10_longestChain_9
  refine c_iload_n (i := 2) dX10_longestChain_9 rfl rfl ?_
  refine c_aload_n (i := 0) dX10_longestChain_10 rfl rfl ?_
  refine gf_RX10_9 (blk_get0 KSm_b0) dX10_longestChain_11 ?_
  refine c_sipush dX10_longestChain_14 (v := 1440) rfl ?_
  refine c_iald (blk_get0 (blk_sub (C := [(20, 1671)]) (i := 1) KSm_b0 rfl)) (by decide) dX10_longestChain_17 ?_
  refine c_icmp_ge (tgt := 114) dX10_longestChain_18 rfl (fun h2 => ?_) (fun h2 => ?_)
  · refine c_iload_n (i := 1) dX10_longestChain_114 rfl rfl ?_
    exact c_iret rfl dX10_longestChain_115
  · refine c_aload_n (i := 0) dX10_longestChain_21 rfl rfl ?_
    refine gf_RX10_39 (blk_get0 KSm_b0) dX10_longestChain_22 ?_
    refine c_iload_n (i := 2) dX10_longestChain_25 rfl rfl ?_
    refine c_iconst dX10_longestChain_26 (v := 1) rfl ?_
    refine c_chk (fun h3 => ?_)
    refine c_iast (blk_get0 (blk_sub (C := [(20, 16)]) (i := 9) KSm_b0 rfl)) h3 dX10_longestChain_27 ?_
    refine c_wrt (fun M4 => ?_)
    refine c_iconst dX10_longestChain_28 (v := 0) rfl ?_
    refine c_istore_n (i := 3) dX10_longestChain_29 rfl (by decide) (ls2 := [(0, .inr 0), (1, .inl x1), (2, .inl x2), (3, .inl 0)]) rfl ?_
    refine c_keep [0, 1, 2, 3] (ls2 := [(0, .inr 0), (1, .inl x1), (2, .inl x2), (3, .inl 0)]) rfl ?_
    exact lo_X10_longestChain_30 d hlev x1 x2 K9 hK9 (0, M4)
def f_X10_longestChain (M : Mem) : Option (Int32 × Mem) := wrt (up M 0 0 0) (fun M1 => loopC (l_X10_longestChain_9) fuelL (0, 0, M1))
set_option maxRecDepth 20000 in
set_option maxHeartbeats 2000000 in
theorem ev_X10_longestChain (d : Nat) (hlev : 4 ≤ d) (M : Mem) : Ev KSm ST1 mdX10_longestChain d [.inr 0] M (f_X10_longestChain M) := by
  refine ev_of rfl (Nat.le_of_ble_eq_true rfl) ?_
  show CorM KSm ST1 RX10 cX10_longestChain 4 (some .int) d 0 [(0, .inr 0)] [] M (f_X10_longestChain M)
  unfold f_X10_longestChain
  refine c_aload_n (i := 0) dX10_longestChain_0 rfl rfl ?_
  refine c_iconst dX10_longestChain_1 (v := 0) rfl ?_
  refine pf_RX10_60 (blk_get0 KSm_b0) dX10_longestChain_2 ?_
  refine c_wrt (fun M1 => ?_)
  refine c_iconst dX10_longestChain_5 (v := 0) rfl ?_
  refine c_istore_n (i := 1) dX10_longestChain_6 rfl (by decide) (ls2 := [(0, .inr 0), (1, .inl 0)]) rfl ?_
  refine c_iconst dX10_longestChain_7 (v := 0) rfl ?_
  refine c_istore_n (i := 2) dX10_longestChain_8 rfl (by decide) (ls2 := [(0, .inr 0), (1, .inl 0), (2, .inl 0)]) rfl ?_
  refine c_keep [0, 1, 2] (ls2 := [(0, .inr 0), (1, .inl 0), (2, .inl 0)]) rfl ?_
  exact lo_X10_longestChain_9 d hlev (0, 0, M1)

abbrev mdX10_tries : MD := (yX10_tries, cX10_tries, 5, none)
theorem mw_X10_tries : mdW mdX10_tries := ⟨wm_X10_tries, w0_RX10, by decide, by decide⟩
theorem mn_X10_tries : (parseMethodDescriptor yX10_tries.desc).map (fun d => d.parameters.length) = some 2 := by decide +kernel
def j_X10_tries_210 (rec : Int32 → Int32 → Mem → Option (Int32 × Mem)) (x1 : Int32) (x2 : Int32) (x3 : Int32) (K104 : Int32 × Mem → Option (Int32 × Mem)) (M : Mem) : Option (Int32 × Mem) := K104 (x3 + 1, M)
set_option maxRecDepth 20000 in
set_option maxHeartbeats 2000000 in
theorem jo_X10_tries_210 (d : Nat) (hlev : 4 ≤ d) (d2 : Nat) (hd2 : d2 < d) (rec : Int32 → Int32 → Mem → Option (Int32 × Mem)) (hrec : ∀ (x1 x2 : Int32) (M : Mem), Ev KSm ST1 mdX10_tries d2 [.inr 0, .inl x1, .inl x2] M (rec x1 x2 M)) (x1 : Int32) (x2 : Int32) (x3 : Int32) (K104 : Int32 × Mem → Option (Int32 × Mem)) (hK104 : ∀ s : Int32 × Mem, CorM KSm ST1 RX10 cX10_tries 5 none d 104 [(0, .inr 0), (1, .inl x1), (2, .inl x2), (3, .inl s.1)] [] s.2 (K104 s)) (M : Mem) : CorM KSm ST1 RX10 cX10_tries 5 none d 210 [(0, .inr 0), (1, .inl x1), (2, .inl x2), (3, .inl x3)] [] M (j_X10_tries_210 rec x1 x2 x3 K104 M) := by
  unfold j_X10_tries_210
  refine c_iinc dX10_tries_210 rfl (v := 1) rfl (by decide) (ls2 := [(0, .inr 0), (1, .inl x1), (2, .inl x2), (3, .inl (x3 + 1))]) rfl ?_
  refine c_goto (tgt := 104) dX10_tries_213 rfl ?_
  refine c_keep [0, 1, 2, 3] (ls2 := [(0, .inr 0), (1, .inl x1), (2, .inl x2), (3, .inl (x3 + 1))]) rfl ?_
  exact hK104 (x3 + 1, M)
def l_X10_tries_176 (rec : Int32 → Int32 → Mem → Option (Int32 × Mem)) (x1 : Int32) (x2 : Int32) (x3 : Int32) (K104 : Int32 × Mem → Option (Int32 × Mem)) (K176 : Int32 × Mem → Option (Int32 × Mem)) : Int32 × Mem → Option (Int32 × Mem) := fun s => match s with
  | (x4, M) => if 160 ≤ x4 then j_X10_tries_210 rec x1 x2 x3 K104 M else if inb ((160 * x1) + x4) 960 then if inb x4 1671 then wrt (up M 1 (ix x4) (M 12 (ix ((160 * x1) + x4)))) (fun M17 => K176 (x4 + 1, M17)) else none else none
set_option maxRecDepth 20000 in
set_option maxHeartbeats 2000000 in
theorem lo_X10_tries_176 (d : Nat) (hlev : 4 ≤ d) (d2 : Nat) (hd2 : d2 < d) (rec : Int32 → Int32 → Mem → Option (Int32 × Mem)) (hrec : ∀ (x1 x2 : Int32) (M : Mem), Ev KSm ST1 mdX10_tries d2 [.inr 0, .inl x1, .inl x2] M (rec x1 x2 M)) (x1 : Int32) (x2 : Int32) (x3 : Int32) (K104 : Int32 × Mem → Option (Int32 × Mem)) (hK104 : ∀ s : Int32 × Mem, CorM KSm ST1 RX10 cX10_tries 5 none d 104 [(0, .inr 0), (1, .inl x1), (2, .inl x2), (3, .inl s.1)] [] s.2 (K104 s)) (s : Int32 × Mem) : CorM KSm ST1 RX10 cX10_tries 5 none d 176 [(0, .inr 0), (1, .inl x1), (2, .inl x2), (3, .inl x3), (4, .inl s.1)] [] s.2 (loopC (l_X10_tries_176 rec x1 x2 x3 K104) fuelL s) := by
  refine c_loop (L := fun s : Int32 × Mem => [(0, .inr 0), (1, .inl x1), (2, .inl x2), (3, .inl x3), (4, .inl s.1)]) (Mf := fun s : Int32 × Mem => s.2) (fun K176 hK176 s => ?_) fuelL s
  obtain ⟨x4, M⟩ := s
  show CorM KSm ST1 RX10 cX10_tries 5 none d 176 [(0, .inr 0), (1, .inl x1), (2, .inl x2), (3, .inl x3), (4, .inl x4)] [] M (l_X10_tries_176 rec x1 x2 x3 K104 K176 (x4, M))
  unfold l_X10_tries_176
  refine c_iload dX10_tries_176 rfl ?_
  refine c_sipush dX10_tries_178 (v := 160) rfl ?_
  refine c_icmp_ge (tgt := 210) dX10_tries_181 rfl (fun h14 => ?_) (fun h14 => ?_)
  · refine c_keep [0, 1, 2, 3] (ls2 := [(0, .inr 0), (1, .inl x1), (2, .inl x2), (3, .inl x3)]) rfl ?_
    exact jo_X10_tries_210 d hlev d2 hd2 rec hrec x1 x2 x3 K104 hK104 M
  · refine c_aload_n (i := 0) dX10_tries_184 rfl rfl ?_
    refine gf_RX10_9 (blk_get0 KSm_b0) dX10_tries_185 ?_
    refine c_iload dX10_tries_188 rfl ?_
    refine c_aload_n (i := 0) dX10_tries_190 rfl rfl ?_
    refine gf_RX10_48 (blk_get0 KSm_b0) dX10_tries_191 ?_
    refine c_sipush dX10_tries_194 (v := 160) rfl ?_
    refine c_iload_n (i := 1) dX10_tries_197 rfl rfl ?_
    refine c_imul dX10_tries_198 ?_
    refine c_iload dX10_tries_199 rfl ?_
    refine c_iadd dX10_tries_201 ?_
    refine c_chk (fun h15 => ?_)
    refine c_iald (blk_get0 (blk_sub (C := [(20, 960)]) (i := 12) KSm_b0 rfl)) h15 dX10_tries_202 ?_
    refine c_chk (fun h16 => ?_)
    refine c_iast (blk_get0 (blk_sub (C := [(20, 1671)]) (i := 1) KSm_b0 rfl)) h16 dX10_tries_203 ?_
    refine c_wrt (fun M17 => ?_)
    refine c_iinc dX10_tries_204 rfl (v := 1) rfl (by decide) (ls2 := [(0, .inr 0), (1, .inl x1), (2, .inl x2), (3, .inl x3), (4, .inl (x4 + 1))]) rfl ?_
    refine c_goto (tgt := 176) dX10_tries_207 rfl ?_
    refine c_keep [0, 1, 2, 3, 4] (ls2 := [(0, .inr 0), (1, .inl x1), (2, .inl x2), (3, .inl x3), (4, .inl (x4 + 1))]) rfl ?_
    exact hK176 (x4 + 1, M17)
def l_X10_tries_104 (rec : Int32 → Int32 → Mem → Option (Int32 × Mem)) (x1 : Int32) (x2 : Int32) (K104 : Int32 × Mem → Option (Int32 × Mem)) : Int32 × Mem → Option (Int32 × Mem) := fun s => match s with
  | (x3, M) => if (M 1 1440) ≤ x3 then some (0, M) else if ¬ (p_X10_has x2 x3) = 0 then j_X10_tries_210 rec x1 x2 x3 K104 M else if inb x3 6 then if ((M 13 (ix x3)) &&& (x2 ^^^ (-1))) = 0 then if inb x1 6 then wrt (up M 10 (ix x1) x3) (fun M8 => if inb (1441 + x3) 1671 then bnd (f_X10_ticks (M8 1 (ix (1441 + x3))) M8) (fun _ M11 => bnd (rec (x1 + 1) (x2 ||| (1 <<< (x3 &&& 31))) M11) (fun _ M13 => loopC (l_X10_tries_176 rec x1 x2 x3 K104) fuelL (0, M13))) else none) else none else j_X10_tries_210 rec x1 x2 x3 K104 M else none
set_option maxRecDepth 20000 in
set_option maxHeartbeats 2000000 in
theorem lo_X10_tries_104 (d : Nat) (hlev : 4 ≤ d) (d2 : Nat) (hd2 : d2 < d) (rec : Int32 → Int32 → Mem → Option (Int32 × Mem)) (hrec : ∀ (x1 x2 : Int32) (M : Mem), Ev KSm ST1 mdX10_tries d2 [.inr 0, .inl x1, .inl x2] M (rec x1 x2 M)) (x1 : Int32) (x2 : Int32) (s : Int32 × Mem) : CorM KSm ST1 RX10 cX10_tries 5 none d 104 [(0, .inr 0), (1, .inl x1), (2, .inl x2), (3, .inl s.1)] [] s.2 (loopC (l_X10_tries_104 rec x1 x2) fuelL s) := by
  refine c_loop (L := fun s : Int32 × Mem => [(0, .inr 0), (1, .inl x1), (2, .inl x2), (3, .inl s.1)]) (Mf := fun s : Int32 × Mem => s.2) (fun K104 hK104 s => ?_) fuelL s
  obtain ⟨x3, M⟩ := s
  show CorM KSm ST1 RX10 cX10_tries 5 none d 104 [(0, .inr 0), (1, .inl x1), (2, .inl x2), (3, .inl x3)] [] M (l_X10_tries_104 rec x1 x2 K104 (x3, M))
  unfold l_X10_tries_104
  refine c_iload_n (i := 3) dX10_tries_104 rfl rfl ?_
  refine c_aload_n (i := 0) dX10_tries_105 rfl rfl ?_
  refine gf_RX10_9 (blk_get0 KSm_b0) dX10_tries_106 ?_
  refine c_sipush dX10_tries_109 (v := 1440) rfl ?_
  refine c_iald (blk_get0 (blk_sub (C := [(20, 1671)]) (i := 1) KSm_b0 rfl)) (by decide) dX10_tries_112 ?_
  refine c_icmp_ge (tgt := 216) dX10_tries_113 rfl (fun h3 => ?_) (fun h3 => ?_)
  · exact c_vret rfl dX10_tries_216
  · refine c_iload_n (i := 2) dX10_tries_116 rfl rfl ?_
    refine c_iload_n (i := 3) dX10_tries_117 rfl rfl ?_
    refine c_callSp (as := [.inl x2, .inl x3]) (rs := []) (ev_X10_has 0 (Nat.le_refl _) x2 x3 M) rfl (Nat.lt_of_lt_of_le (by decide) hlev) mw_X10_has ws_X10_has wl_RX10_169 mn_X10_has rfl (by decide) (Nat.le_of_ble_eq_true rfl) ⟨_, rfl⟩ dX10_tries_118 ?_
    refine c_if_ne (tgt := 210) dX10_tries_121 rfl (fun h4 => ?_) (fun h4 => ?_)
    · refine c_keep [0, 1, 2, 3] (ls2 := [(0, .inr 0), (1, .inl x1), (2, .inl x2), (3, .inl x3)]) rfl ?_
      exact jo_X10_tries_210 d hlev d2 hd2 rec hrec x1 x2 x3 K104 hK104 M
    · refine c_aload_n (i := 0) dX10_tries_124 rfl rfl ?_
      refine gf_RX10_51 (blk_get0 KSm_b0) dX10_tries_125 ?_
      refine c_iload_n (i := 3) dX10_tries_128 rfl rfl ?_
      refine c_chk (fun h5 => ?_)
      refine c_iald (blk_get0 (blk_sub (C := [(20, 6)]) (i := 13) KSm_b0 rfl)) h5 dX10_tries_129 ?_
      refine c_iload_n (i := 2) dX10_tries_130 rfl rfl ?_
      refine c_iconst dX10_tries_131 (v := (-1)) rfl ?_
      refine c_ixor dX10_tries_132 ?_
      refine c_iand dX10_tries_133 ?_
      refine c_if_eq (tgt := 140) dX10_tries_134 rfl (fun h6 => ?_) (fun h6 => ?_)
      · refine c_aload_n (i := 0) dX10_tries_140 rfl rfl ?_
        refine gf_RX10_42 (blk_get0 KSm_b0) dX10_tries_141 ?_
        refine c_iload_n (i := 1) dX10_tries_144 rfl rfl ?_
        refine c_iload_n (i := 3) dX10_tries_145 rfl rfl ?_
        refine c_chk (fun h7 => ?_)
        refine c_iast (blk_get0 (blk_sub (C := [(20, 6)]) (i := 10) KSm_b0 rfl)) h7 dX10_tries_146 ?_
        refine c_wrt (fun M8 => ?_)
        refine c_aload_n (i := 0) dX10_tries_147 rfl rfl ?_
        refine c_aload_n (i := 0) dX10_tries_148 rfl rfl ?_
        refine gf_RX10_9 (blk_get0 KSm_b0) dX10_tries_149 ?_
        refine c_sipush dX10_tries_152 (v := 1441) rfl ?_
        refine c_iload_n (i := 3) dX10_tries_155 rfl rfl ?_
        refine c_iadd dX10_tries_156 ?_
        refine c_chk (fun h9 => ?_)
        refine c_iald (blk_get0 (blk_sub (C := [(20, 1671)]) (i := 1) KSm_b0 rfl)) h9 dX10_tries_157 ?_
        refine c_callVv (as := [.inl (M8 1 (ix (1441 + x3)))]) (rs := []) (ev_X10_ticks 3 (Nat.le_refl _) (M8 1 (ix (1441 + x3))) M8) rfl (Nat.lt_of_lt_of_le (by decide) hlev) mw_X10_ticks wi_X10_ticks wv_X10_ticks (blk_get0 KSm_b0) (by decide) rfl wl_RX10_344 mn_X10_ticks rfl (by decide) (Nat.le_of_ble_eq_true rfl) rfl dX10_tries_158 (fun v10 M11 _ => ?_)
        refine c_aload_n (i := 0) dX10_tries_161 rfl rfl ?_
        refine c_iload_n (i := 1) dX10_tries_162 rfl rfl ?_
        refine c_iconst dX10_tries_163 (v := 1) rfl ?_
        refine c_iadd dX10_tries_164 ?_
        refine c_iload_n (i := 2) dX10_tries_165 rfl rfl ?_
        refine c_iconst dX10_tries_166 (v := 1) rfl ?_
        refine c_iload_n (i := 3) dX10_tries_167 rfl rfl ?_
        refine c_ishl dX10_tries_168 ?_
        refine c_ior dX10_tries_169 ?_
        refine c_callVv (as := [.inl (x1 + 1), .inl (x2 ||| (1 <<< (x3 &&& 31)))]) (rs := []) (hrec (x1 + 1) (x2 ||| (1 <<< (x3 &&& 31))) M11) rfl hd2 mw_X10_tries wi_X10_tries wv_X10_tries (blk_get0 KSm_b0) (by decide) rfl wl_RX10_377 mn_X10_tries rfl (by decide) (Nat.le_of_ble_eq_true rfl) rfl dX10_tries_170 (fun v12 M13 _ => ?_)
        refine c_iconst dX10_tries_173 (v := 0) rfl ?_
        refine c_istore dX10_tries_174 (by decide) (ls2 := [(0, .inr 0), (1, .inl x1), (2, .inl x2), (3, .inl x3), (4, .inl 0)]) rfl ?_
        refine c_keep [0, 1, 2, 3, 4] (ls2 := [(0, .inr 0), (1, .inl x1), (2, .inl x2), (3, .inl x3), (4, .inl 0)]) rfl ?_
        exact lo_X10_tries_176 d hlev d2 hd2 rec hrec x1 x2 x3 K104 hK104 (0, M13)
      · refine c_goto (tgt := 210) dX10_tries_137 rfl ?_
        refine c_keep [0, 1, 2, 3] (ls2 := [(0, .inr 0), (1, .inl x1), (2, .inl x2), (3, .inl x3)]) rfl ?_
        exact jo_X10_tries_210 d hlev d2 hd2 rec hrec x1 x2 x3 K104 hK104 M
def l_X10_tries_71 (rec : Int32 → Int32 → Mem → Option (Int32 × Mem)) (x1 : Int32) (x2 : Int32) (K71 : Int32 × Mem → Option (Int32 × Mem)) : Int32 × Mem → Option (Int32 × Mem) := fun s => match s with
  | (x3, M) => if 160 ≤ x3 then loopC (l_X10_tries_104 rec x1 x2) fuelL (0, M) else if inb x3 1671 then if inb ((160 * x1) + x3) 960 then wrt (up M 12 (ix ((160 * x1) + x3)) (M 1 (ix x3))) (fun M20 => K71 (x3 + 1, M20)) else none else none
set_option maxRecDepth 20000 in
set_option maxHeartbeats 2000000 in
theorem lo_X10_tries_71 (d : Nat) (hlev : 4 ≤ d) (d2 : Nat) (hd2 : d2 < d) (rec : Int32 → Int32 → Mem → Option (Int32 × Mem)) (hrec : ∀ (x1 x2 : Int32) (M : Mem), Ev KSm ST1 mdX10_tries d2 [.inr 0, .inl x1, .inl x2] M (rec x1 x2 M)) (x1 : Int32) (x2 : Int32) (s : Int32 × Mem) : CorM KSm ST1 RX10 cX10_tries 5 none d 71 [(0, .inr 0), (1, .inl x1), (2, .inl x2), (3, .inl s.1)] [] s.2 (loopC (l_X10_tries_71 rec x1 x2) fuelL s) := by
  refine c_loop (L := fun s : Int32 × Mem => [(0, .inr 0), (1, .inl x1), (2, .inl x2), (3, .inl s.1)]) (Mf := fun s : Int32 × Mem => s.2) (fun K71 hK71 s => ?_) fuelL s
  obtain ⟨x3, M⟩ := s
  show CorM KSm ST1 RX10 cX10_tries 5 none d 71 [(0, .inr 0), (1, .inl x1), (2, .inl x2), (3, .inl x3)] [] M (l_X10_tries_71 rec x1 x2 K71 (x3, M))
  unfold l_X10_tries_71
  refine c_iload_n (i := 3) dX10_tries_71 rfl rfl ?_
  refine c_sipush dX10_tries_72 (v := 160) rfl ?_
  refine c_icmp_ge (tgt := 102) dX10_tries_75 rfl (fun h2 => ?_) (fun h2 => ?_)
  · refine c_iconst dX10_tries_102 (v := 0) rfl ?_
    refine c_istore_n (i := 3) dX10_tries_103 rfl (by decide) (ls2 := [(0, .inr 0), (1, .inl x1), (2, .inl x2), (3, .inl 0)]) rfl ?_
    refine c_keep [0, 1, 2, 3] (ls2 := [(0, .inr 0), (1, .inl x1), (2, .inl x2), (3, .inl 0)]) rfl ?_
    exact lo_X10_tries_104 d hlev d2 hd2 rec hrec x1 x2 (0, M)
  · refine c_aload_n (i := 0) dX10_tries_78 rfl rfl ?_
    refine gf_RX10_48 (blk_get0 KSm_b0) dX10_tries_79 ?_
    refine c_sipush dX10_tries_82 (v := 160) rfl ?_
    refine c_iload_n (i := 1) dX10_tries_85 rfl rfl ?_
    refine c_imul dX10_tries_86 ?_
    refine c_iload_n (i := 3) dX10_tries_87 rfl rfl ?_
    refine c_iadd dX10_tries_88 ?_
    refine c_aload_n (i := 0) dX10_tries_89 rfl rfl ?_
    refine gf_RX10_9 (blk_get0 KSm_b0) dX10_tries_90 ?_
    refine c_iload_n (i := 3) dX10_tries_93 rfl rfl ?_
    refine c_chk (fun h18 => ?_)
    refine c_iald (blk_get0 (blk_sub (C := [(20, 1671)]) (i := 1) KSm_b0 rfl)) h18 dX10_tries_94 ?_
    refine c_chk (fun h19 => ?_)
    refine c_iast (blk_get0 (blk_sub (C := [(20, 960)]) (i := 12) KSm_b0 rfl)) h19 dX10_tries_95 ?_
    refine c_wrt (fun M20 => ?_)
    refine c_iinc dX10_tries_96 rfl (v := 1) rfl (by decide) (ls2 := [(0, .inr 0), (1, .inl x1), (2, .inl x2), (3, .inl (x3 + 1))]) rfl ?_
    refine c_goto (tgt := 71) dX10_tries_99 rfl ?_
    refine c_keep [0, 1, 2, 3] (ls2 := [(0, .inr 0), (1, .inl x1), (2, .inl x2), (3, .inl (x3 + 1))]) rfl ?_
    exact hK71 (x3 + 1, M20)
def l_X10_tries_42 (rec : Int32 → Int32 → Mem → Option (Int32 × Mem)) (x1 : Int32) (K42 : Int32 × Mem → Option (Int32 × Mem)) : Int32 × Mem → Option (Int32 × Mem) := fun s => match s with
  | (x4, M) => if x1 ≤ x4 then some (0, M) else if inb x4 6 then if inb x4 6 then wrt (up M 11 (ix x4) (M 10 (ix x4))) (fun M28 => K42 (x4 + 1, M28)) else none else none
set_option maxRecDepth 20000 in
set_option maxHeartbeats 2000000 in
theorem lo_X10_tries_42 (d : Nat) (hlev : 4 ≤ d) (d2 : Nat) (hd2 : d2 < d) (rec : Int32 → Int32 → Mem → Option (Int32 × Mem)) (hrec : ∀ (x1 x2 : Int32) (M : Mem), Ev KSm ST1 mdX10_tries d2 [.inr 0, .inl x1, .inl x2] M (rec x1 x2 M)) (x1 : Int32) (s : Int32 × Mem) : CorM KSm ST1 RX10 cX10_tries 5 none d 42 [(0, .inr 0), (1, .inl x1), (4, .inl s.1)] [] s.2 (loopC (l_X10_tries_42 rec x1) fuelL s) := by
  refine c_loop (L := fun s : Int32 × Mem => [(0, .inr 0), (1, .inl x1), (4, .inl s.1)]) (Mf := fun s : Int32 × Mem => s.2) (fun K42 hK42 s => ?_) fuelL s
  obtain ⟨x4, M⟩ := s
  show CorM KSm ST1 RX10 cX10_tries 5 none d 42 [(0, .inr 0), (1, .inl x1), (4, .inl x4)] [] M (l_X10_tries_42 rec x1 K42 (x4, M))
  unfold l_X10_tries_42
  refine c_iload dX10_tries_42 rfl ?_
  refine c_iload_n (i := 1) dX10_tries_44 rfl rfl ?_
  refine c_icmp_ge (tgt := 68) dX10_tries_45 rfl (fun h25 => ?_) (fun h25 => ?_)
  · exact c_vret rfl dX10_tries_68
  · refine c_aload_n (i := 0) dX10_tries_48 rfl rfl ?_
    refine gf_RX10_45 (blk_get0 KSm_b0) dX10_tries_49 ?_
    refine c_iload dX10_tries_52 rfl ?_
    refine c_aload_n (i := 0) dX10_tries_54 rfl rfl ?_
    refine gf_RX10_42 (blk_get0 KSm_b0) dX10_tries_55 ?_
    refine c_iload dX10_tries_58 rfl ?_
    refine c_chk (fun h26 => ?_)
    refine c_iald (blk_get0 (blk_sub (C := [(20, 6)]) (i := 10) KSm_b0 rfl)) h26 dX10_tries_60 ?_
    refine c_chk (fun h27 => ?_)
    refine c_iast (blk_get0 (blk_sub (C := [(20, 6)]) (i := 11) KSm_b0 rfl)) h27 dX10_tries_61 ?_
    refine c_wrt (fun M28 => ?_)
    refine c_iinc dX10_tries_62 rfl (v := 1) rfl (by decide) (ls2 := [(0, .inr 0), (1, .inl x1), (4, .inl (x4 + 1))]) rfl ?_
    refine c_goto (tgt := 42) dX10_tries_65 rfl ?_
    refine c_keep [0, 1, 4] (ls2 := [(0, .inr 0), (1, .inl x1), (4, .inl (x4 + 1))]) rfl ?_
    exact hK42 (x4 + 1, M28)
def j_X10_tries_34 (rec : Int32 → Int32 → Mem → Option (Int32 × Mem)) (x1 : Int32) (x3 : Int32) (M : Mem) : Option (Int32 × Mem) := wrt (up M 0 24 x3) (fun M24 => loopC (l_X10_tries_42 rec x1) fuelL (0, M24))
set_option maxRecDepth 20000 in
set_option maxHeartbeats 2000000 in
theorem jo_X10_tries_34 (d : Nat) (hlev : 4 ≤ d) (d2 : Nat) (hd2 : d2 < d) (rec : Int32 → Int32 → Mem → Option (Int32 × Mem)) (hrec : ∀ (x1 x2 : Int32) (M : Mem), Ev KSm ST1 mdX10_tries d2 [.inr 0, .inl x1, .inl x2] M (rec x1 x2 M)) (x1 : Int32) (x3 : Int32) (M : Mem) : CorM KSm ST1 RX10 cX10_tries 5 none d 34 [(0, .inr 0), (1, .inl x1), (3, .inl x3)] [] M (j_X10_tries_34 rec x1 x3 M) := by
  unfold j_X10_tries_34
  refine c_aload_n (i := 0) dX10_tries_34 rfl rfl ?_
  refine c_iload_n (i := 3) dX10_tries_35 rfl rfl ?_
  refine pf_RX10_374 (blk_get0 KSm_b0) dX10_tries_36 ?_
  refine c_wrt (fun M24 => ?_)
  refine c_iconst dX10_tries_39 (v := 0) rfl ?_
  refine c_istore dX10_tries_40 (by decide) (ls2 := [(0, .inr 0), (1, .inl x1), (3, .inl x3), (4, .inl 0)]) rfl ?_
  refine c_keep [0, 1, 4] (ls2 := [(0, .inr 0), (1, .inl x1), (4, .inl 0)]) rfl ?_
  exact lo_X10_tries_42 d hlev d2 hd2 rec hrec x1 (0, M24)
def b_X10_tries (rec : Int32 → Int32 → Mem → Option (Int32 × Mem)) (x1 : Int32) (x2 : Int32) (M : Mem) : Option (Int32 × Mem) := if ¬ x1 = (M 1 1440) then loopC (l_X10_tries_71 rec x1 x2) fuelL (0, M) else bnd (f_X10_ends M) (fun v21 M22 => if (M22 0 24) = (-1) then j_X10_tries_34 rec x1 v21 M22 else if v21 < (M22 0 24) then j_X10_tries_34 rec x1 v21 M22 else some (0, M22))
set_option maxRecDepth 20000 in
set_option maxHeartbeats 2000000 in
theorem bo_X10_tries (d : Nat) (hlev : 4 ≤ d) (d2 : Nat) (hd2 : d2 < d) (rec : Int32 → Int32 → Mem → Option (Int32 × Mem)) (hrec : ∀ (x1 x2 : Int32) (M : Mem), Ev KSm ST1 mdX10_tries d2 [.inr 0, .inl x1, .inl x2] M (rec x1 x2 M)) (x1 : Int32) (x2 : Int32) (M : Mem) : Ev KSm ST1 mdX10_tries d [.inr 0, .inl x1, .inl x2] M (b_X10_tries rec x1 x2 M) := by
  refine ev_of rfl (Nat.le_of_ble_eq_true rfl) ?_
  show CorM KSm ST1 RX10 cX10_tries 5 none d 0 [(0, .inr 0), (1, .inl x1), (2, .inl x2)] [] M (b_X10_tries rec x1 x2 M)
  unfold b_X10_tries
  refine c_iload_n (i := 1) dX10_tries_0 rfl rfl ?_
  refine c_aload_n (i := 0) dX10_tries_1 rfl rfl ?_
  refine gf_RX10_9 (blk_get0 KSm_b0) dX10_tries_2 ?_
  refine c_sipush dX10_tries_5 (v := 1440) rfl ?_
  refine c_iald (blk_get0 (blk_sub (C := [(20, 1671)]) (i := 1) KSm_b0 rfl)) (by decide) dX10_tries_8 ?_
  refine c_icmp_ne (tgt := 69) dX10_tries_9 rfl (fun h1 => ?_) (fun h1 => ?_)
  · refine c_iconst dX10_tries_69 (v := 0) rfl ?_
    refine c_istore_n (i := 3) dX10_tries_70 rfl (by decide) (ls2 := [(0, .inr 0), (1, .inl x1), (2, .inl x2), (3, .inl 0)]) rfl ?_
    refine c_keep [0, 1, 2, 3] (ls2 := [(0, .inr 0), (1, .inl x1), (2, .inl x2), (3, .inl 0)]) rfl ?_
    exact lo_X10_tries_71 d hlev d2 hd2 rec hrec x1 x2 (0, M)
  · refine c_aload_n (i := 0) dX10_tries_12 rfl rfl ?_
    refine c_callV (as := []) (rs := []) (ev_X10_ends 2 (Nat.le_refl _) M) rfl (Nat.lt_of_lt_of_le (by decide) hlev) mw_X10_ends wi_X10_ends wv_X10_ends (blk_get0 KSm_b0) (by decide) rfl wl_RX10_307 mn_X10_ends rfl (by decide) (Nat.le_of_ble_eq_true rfl) ⟨_, rfl⟩ dX10_tries_13 (fun v21 M22 _ => ?_)
    refine c_istore_n (i := 3) dX10_tries_16 rfl (by decide) (ls2 := [(0, .inr 0), (1, .inl x1), (2, .inl x2), (3, .inl v21)]) rfl ?_
    refine c_aload_n (i := 0) dX10_tries_17 rfl rfl ?_
    refine gf_RX10_374 (blk_get0 KSm_b0) dX10_tries_18 ?_
    refine c_iconst dX10_tries_21 (v := (-1)) rfl ?_
    refine c_icmp_eq (tgt := 34) dX10_tries_22 rfl (fun h23 => ?_) (fun h23 => ?_)
    · refine c_keep [0, 1, 3] (ls2 := [(0, .inr 0), (1, .inl x1), (3, .inl v21)]) rfl ?_
      exact jo_X10_tries_34 d hlev d2 hd2 rec hrec x1 v21 M22
    · refine c_iload_n (i := 3) dX10_tries_25 rfl rfl ?_
      refine c_aload_n (i := 0) dX10_tries_26 rfl rfl ?_
      refine gf_RX10_374 (blk_get0 KSm_b0) dX10_tries_27 ?_
      refine c_icmp_lt (tgt := 34) dX10_tries_30 rfl (fun h29 => ?_) (fun h29 => ?_)
      · refine c_keep [0, 1, 3] (ls2 := [(0, .inr 0), (1, .inl x1), (3, .inl v21)]) rfl ?_
        exact jo_X10_tries_34 d hlev d2 hd2 rec hrec x1 v21 M22
      · exact c_vret rfl dX10_tries_33
def f_X10_tries : Nat → Int32 → Int32 → Mem → Option (Int32 × Mem)
  | 0 => fun _ _ _ => none
  | k + 1 => b_X10_tries (f_X10_tries k)
theorem ev_X10_tries (k : Nat) : ∀ (d : Nat), 4 + k ≤ d → ∀ (x1 x2 : Int32) (M : Mem), Ev KSm ST1 mdX10_tries d [.inr 0, .inl x1, .inl x2] M (f_X10_tries k x1 x2 M) := by
  induction k with
  | zero => intro d _ x1 x2 M l wp sz r M2 _ _ _ h; cases h
  | succ k ih => intro d hd x1 x2 M; exact bo_X10_tries d (by omega) (4 + k) (by omega) (f_X10_tries k) (fun y1 y2 M2 => ih (4 + k) (Nat.le_refl _) y1 y2 M2) x1 x2 M

abbrev mdX10_finds : MD := (yX10_finds, cX10_finds, 3, (some .int))
theorem mw_X10_finds : mdW mdX10_finds := ⟨wm_X10_finds, w0_RX10, by decide, by decide⟩
theorem mn_X10_finds : (parseMethodDescriptor yX10_finds.desc).map (fun d => d.parameters.length) = some 0 := by decide +kernel
def l_X10_finds_23 (x1 : Int32) (K2 : Int32 × Mem → Option (Int32 × Mem)) (K23 : Int32 × Mem → Option (Int32 × Mem)) : Int32 × Mem → Option (Int32 × Mem) := fun s => match s with
  | (x2, M) => if x1 ≤ x2 then K2 (x1 + 1, M) else if inb x1 6 then if inb (1441 + x2) 1671 then if inb (1441 + x1) 1671 then bnd (f_X10_meets (M 1 (ix (1441 + x2))) (M 1 (ix (1441 + x1))) M) (fun v11 M12 => if inb x1 6 then wrt (up M12 13 (ix x1) ((M 13 (ix x1)) ||| (if v11 = 0 then (0 : Int32) else 1 <<< (x2 &&& 31)))) (fun M15 => K23 (x2 + 1, M15)) else none) else none else none else none
set_option maxRecDepth 20000 in
set_option maxHeartbeats 2000000 in
theorem lo_X10_finds_23 (d : Nat) (hlev : 13 ≤ d) (x1 : Int32) (K2 : Int32 × Mem → Option (Int32 × Mem)) (hK2 : ∀ s : Int32 × Mem, CorM KSm ST1 RX10 cX10_finds 3 (some .int) d 2 [(0, .inr 0), (1, .inl s.1)] [] s.2 (K2 s)) (s : Int32 × Mem) : CorM KSm ST1 RX10 cX10_finds 3 (some .int) d 23 [(0, .inr 0), (1, .inl x1), (2, .inl s.1)] [] s.2 (loopC (l_X10_finds_23 x1 K2) fuelL s) := by
  refine c_loop (L := fun s : Int32 × Mem => [(0, .inr 0), (1, .inl x1), (2, .inl s.1)]) (Mf := fun s : Int32 × Mem => s.2) (fun K23 hK23 s => ?_) fuelL s
  obtain ⟨x2, M⟩ := s
  show CorM KSm ST1 RX10 cX10_finds 3 (some .int) d 23 [(0, .inr 0), (1, .inl x1), (2, .inl x2)] [] M (l_X10_finds_23 x1 K2 K23 (x2, M))
  unfold l_X10_finds_23
  refine c_iload_n (i := 2) dX10_finds_23 rfl rfl ?_
  refine c_iload_n (i := 1) dX10_finds_24 rfl rfl ?_
  refine c_icmp_ge (tgt := 77) dX10_finds_25 rfl (fun h7 => ?_) (fun h7 => ?_)
  · refine c_iinc dX10_finds_77 rfl (v := 1) rfl (by decide) (ls2 := [(0, .inr 0), (1, .inl (x1 + 1)), (2, .inl x2)]) rfl ?_
    refine c_goto (tgt := 2) dX10_finds_80 rfl ?_
    refine c_keep [0, 1] (ls2 := [(0, .inr 0), (1, .inl (x1 + 1))]) rfl ?_
    exact hK2 (x1 + 1, M)
  · refine c_aload_n (i := 0) dX10_finds_28 rfl rfl ?_
    refine gf_RX10_51 (blk_get0 KSm_b0) dX10_finds_29 ?_
    refine c_iload_n (i := 1) dX10_finds_32 rfl rfl ?_
    refine c_dup2 dX10_finds_33 ?_
    refine c_chk (fun h8 => ?_)
    refine c_iald (blk_get0 (blk_sub (C := [(20, 6)]) (i := 13) KSm_b0 rfl)) h8 dX10_finds_34 ?_
    refine c_aload_n (i := 0) dX10_finds_35 rfl rfl ?_
    refine c_aload_n (i := 0) dX10_finds_36 rfl rfl ?_
    refine gf_RX10_9 (blk_get0 KSm_b0) dX10_finds_37 ?_
    refine c_sipush dX10_finds_40 (v := 1441) rfl ?_
    refine c_iload_n (i := 2) dX10_finds_43 rfl rfl ?_
    refine c_iadd dX10_finds_44 ?_
    refine c_chk (fun h9 => ?_)
    refine c_iald (blk_get0 (blk_sub (C := [(20, 1671)]) (i := 1) KSm_b0 rfl)) h9 dX10_finds_45 ?_
    refine c_aload_n (i := 0) dX10_finds_46 rfl rfl ?_
    refine gf_RX10_9 (blk_get0 KSm_b0) dX10_finds_47 ?_
    refine c_sipush dX10_finds_50 (v := 1441) rfl ?_
    refine c_iload_n (i := 1) dX10_finds_53 rfl rfl ?_
    refine c_iadd dX10_finds_54 ?_
    refine c_chk (fun h10 => ?_)
    refine c_iald (blk_get0 (blk_sub (C := [(20, 1671)]) (i := 1) KSm_b0 rfl)) h10 dX10_finds_55 ?_
    refine c_callV (as := [.inl (M 1 (ix (1441 + x2))), .inl (M 1 (ix (1441 + x1)))]) (rs := [.inl (M 13 (ix x1)), .inl x1, .inr 13]) (ev_X10_meets 3 (Nat.le_refl _) (M 1 (ix (1441 + x2))) (M 1 (ix (1441 + x1))) M) rfl (Nat.lt_of_lt_of_le (by decide) hlev) mw_X10_meets wi_X10_meets wv_X10_meets (blk_get0 KSm_b0) (by decide) rfl wl_RX10_371 mn_X10_meets rfl (by decide) (Nat.le_of_ble_eq_true rfl) ⟨_, rfl⟩ dX10_finds_56 (fun v11 M12 _ => ?_)
    have J_z13 : ∀ z13 : Int32, CorM KSm ST1 RX10 cX10_finds 3 (some .int) d 69 [(0, .inr 0), (1, .inl x1), (2, .inl x2)] [.inl z13, .inl (M 13 (ix x1)), .inl x1, .inr 13] M12 (if inb x1 6 then wrt (up M12 13 (ix x1) ((M 13 (ix x1)) ||| z13)) (fun M15 => K23 (x2 + 1, M15)) else none) := by
      intro z13
      refine c_ior dX10_finds_69 ?_
      refine c_chk (fun h14 => ?_)
      refine c_iast (blk_get0 (blk_sub (C := [(20, 6)]) (i := 13) KSm_b0 rfl)) h14 dX10_finds_70 ?_
      refine c_wrt (fun M15 => ?_)
      refine c_iinc dX10_finds_71 rfl (v := 1) rfl (by decide) (ls2 := [(0, .inr 0), (1, .inl x1), (2, .inl (x2 + 1))]) rfl ?_
      refine c_goto (tgt := 23) dX10_finds_74 rfl ?_
      refine c_keep [0, 1, 2] (ls2 := [(0, .inr 0), (1, .inl x1), (2, .inl (x2 + 1))]) rfl ?_
      exact hK23 (x2 + 1, M15)
    refine c_val (b := v11 = 0) (v1 := (0 : Int32)) (v2 := 1 <<< (x2 &&& 31)) (F := fun z13 => if inb x1 6 then wrt (up M12 13 (ix x1) ((M 13 (ix x1)) ||| z13)) (fun M15 => K23 (x2 + 1, M15)) else none) (fun h16 => ?_) (fun h16 => ?_)
    · refine c_T h16 (c_if_eq (tgt := 68) dX10_finds_59 rfl (fun _ => ?_) (fun q => absurd h16 q))
      refine c_iconst dX10_finds_68 (v := 0) rfl ?_
      refine c_keep [0, 1, 2] (ls2 := [(0, .inr 0), (1, .inl x1), (2, .inl x2)]) rfl ?_
      exact J_z13 0
    · refine c_Fl h16 (c_if_eq (tgt := 68) dX10_finds_59 rfl (fun q => absurd q h16) (fun _ => ?_))
      refine c_iconst dX10_finds_62 (v := 1) rfl ?_
      refine c_iload_n (i := 2) dX10_finds_63 rfl rfl ?_
      refine c_ishl dX10_finds_64 ?_
      refine c_goto (tgt := 69) dX10_finds_65 rfl ?_
      refine c_keep [0, 1, 2] (ls2 := [(0, .inr 0), (1, .inl x1), (2, .inl x2)]) rfl ?_
      exact J_z13 (1 <<< (x2 &&& 31))
def l_X10_finds_2 (K2 : Int32 × Mem → Option (Int32 × Mem)) : Int32 × Mem → Option (Int32 × Mem) := fun s => match s with
  | (x1, M) => if (M 1 1440) ≤ x1 then wrt (up M 0 24 (-1)) (fun M2 => bnd (f_X10_tries 8 0 0 M2) (fun _ M4 => some (M4 0 24, M4))) else if inb x1 6 then wrt (up M 13 (ix x1) 0) (fun M6 => loopC (l_X10_finds_23 x1 K2) fuelL (0, M6)) else none
set_option maxRecDepth 20000 in
set_option maxHeartbeats 2000000 in
theorem lo_X10_finds_2 (d : Nat) (hlev : 13 ≤ d) (s : Int32 × Mem) : CorM KSm ST1 RX10 cX10_finds 3 (some .int) d 2 [(0, .inr 0), (1, .inl s.1)] [] s.2 (loopC (l_X10_finds_2) fuelL s) := by
  refine c_loop (L := fun s : Int32 × Mem => [(0, .inr 0), (1, .inl s.1)]) (Mf := fun s : Int32 × Mem => s.2) (fun K2 hK2 s => ?_) fuelL s
  obtain ⟨x1, M⟩ := s
  show CorM KSm ST1 RX10 cX10_finds 3 (some .int) d 2 [(0, .inr 0), (1, .inl x1)] [] M (l_X10_finds_2 K2 (x1, M))
  unfold l_X10_finds_2
  refine c_iload_n (i := 1) dX10_finds_2 rfl rfl ?_
  refine c_aload_n (i := 0) dX10_finds_3 rfl rfl ?_
  refine gf_RX10_9 (blk_get0 KSm_b0) dX10_finds_4 ?_
  refine c_sipush dX10_finds_7 (v := 1440) rfl ?_
  refine c_iald (blk_get0 (blk_sub (C := [(20, 1671)]) (i := 1) KSm_b0 rfl)) (by decide) dX10_finds_10 ?_
  refine c_icmp_ge (tgt := 83) dX10_finds_11 rfl (fun h1 => ?_) (fun h1 => ?_)
  · refine c_aload_n (i := 0) dX10_finds_83 rfl rfl ?_
    refine c_iconst dX10_finds_84 (v := (-1)) rfl ?_
    refine pf_RX10_374 (blk_get0 KSm_b0) dX10_finds_85 ?_
    refine c_wrt (fun M2 => ?_)
    refine c_aload_n (i := 0) dX10_finds_88 rfl rfl ?_
    refine c_iconst dX10_finds_89 (v := 0) rfl ?_
    refine c_iconst dX10_finds_90 (v := 0) rfl ?_
    refine c_callVv (as := [.inl 0, .inl 0]) (rs := []) (ev_X10_tries 8 12 (by decide) 0 0 M2) rfl (Nat.lt_of_lt_of_le (by decide) hlev) mw_X10_tries wi_X10_tries wv_X10_tries (blk_get0 KSm_b0) (by decide) rfl wl_RX10_377 mn_X10_tries rfl (by decide) (Nat.le_of_ble_eq_true rfl) rfl dX10_finds_91 (fun v3 M4 _ => ?_)
    refine c_aload_n (i := 0) dX10_finds_94 rfl rfl ?_
    refine gf_RX10_374 (blk_get0 KSm_b0) dX10_finds_95 ?_
    exact c_iret rfl dX10_finds_98
  · refine c_aload_n (i := 0) dX10_finds_14 rfl rfl ?_
    refine gf_RX10_51 (blk_get0 KSm_b0) dX10_finds_15 ?_
    refine c_iload_n (i := 1) dX10_finds_18 rfl rfl ?_
    refine c_iconst dX10_finds_19 (v := 0) rfl ?_
    refine c_chk (fun h5 => ?_)
    refine c_iast (blk_get0 (blk_sub (C := [(20, 6)]) (i := 13) KSm_b0 rfl)) h5 dX10_finds_20 ?_
    refine c_wrt (fun M6 => ?_)
    refine c_iconst dX10_finds_21 (v := 0) rfl ?_
    refine c_istore_n (i := 2) dX10_finds_22 rfl (by decide) (ls2 := [(0, .inr 0), (1, .inl x1), (2, .inl 0)]) rfl ?_
    refine c_keep [0, 1, 2] (ls2 := [(0, .inr 0), (1, .inl x1), (2, .inl 0)]) rfl ?_
    exact lo_X10_finds_23 d hlev x1 K2 hK2 (0, M6)
def f_X10_finds (M : Mem) : Option (Int32 × Mem) := loopC (l_X10_finds_2) fuelL (0, M)
set_option maxRecDepth 20000 in
set_option maxHeartbeats 2000000 in
theorem ev_X10_finds (d : Nat) (hlev : 13 ≤ d) (M : Mem) : Ev KSm ST1 mdX10_finds d [.inr 0] M (f_X10_finds M) := by
  refine ev_of rfl (Nat.le_of_ble_eq_true rfl) ?_
  show CorM KSm ST1 RX10 cX10_finds 3 (some .int) d 0 [(0, .inr 0)] [] M (f_X10_finds M)
  unfold f_X10_finds
  refine c_iconst dX10_finds_0 (v := 0) rfl ?_
  refine c_istore_n (i := 1) dX10_finds_1 rfl (by decide) (ls2 := [(0, .inr 0), (1, .inl 0)]) rfl ?_
  refine c_keep [0, 1] (ls2 := [(0, .inr 0), (1, .inl 0)]) rfl ?_
  exact lo_X10_finds_2 d hlev (0, M)

abbrev mdX10_bestFinish : MD := (yX10_bestFinish, cX10_bestFinish, 1, (some .int))
theorem mw_X10_bestFinish : mdW mdX10_bestFinish := ⟨wm_X10_bestFinish, w0_RX10, by decide, by decide⟩
theorem mn_X10_bestFinish : (parseMethodDescriptor yX10_bestFinish.desc).map (fun d => d.parameters.length) = some 0 := by decide +kernel
def j_X10_bestFinish_39 (w0 : Int32) (M : Mem) : Option (Int32 × Mem) := some (w0, M)
set_option maxRecDepth 20000 in
set_option maxHeartbeats 2000000 in
theorem jo_X10_bestFinish_39 (d : Nat) (hlev : 14 ≤ d) (w0 : Int32) (M : Mem) : CorM KSm ST1 RX10 cX10_bestFinish 1 (some .int) d 39 [] [.inl w0] M (j_X10_bestFinish_39 w0 M) := by
  unfold j_X10_bestFinish_39
  exact c_iret rfl dX10_bestFinish_39
def f_X10_bestFinish (M : Mem) : Option (Int32 × Mem) := wrt (up M 0 0 0) (fun M1 => bnd (f_X10_may (if 6 < (M1 1 1440) then (0 : Int32) else (1 : Int32)) 1 M1) (fun v3 M4 => if v3 = 0 then j_X10_bestFinish_39 0 M4 else bnd (f_X10_finds M4) (fun v6 M7 => j_X10_bestFinish_39 v6 M7)))
set_option maxRecDepth 20000 in
set_option maxHeartbeats 2000000 in
theorem ev_X10_bestFinish (d : Nat) (hlev : 14 ≤ d) (M : Mem) : Ev KSm ST1 mdX10_bestFinish d [.inr 0] M (f_X10_bestFinish M) := by
  refine ev_of rfl (Nat.le_of_ble_eq_true rfl) ?_
  show CorM KSm ST1 RX10 cX10_bestFinish 1 (some .int) d 0 [(0, .inr 0)] [] M (f_X10_bestFinish M)
  unfold f_X10_bestFinish
  refine c_aload_n (i := 0) dX10_bestFinish_0 rfl rfl ?_
  refine c_iconst dX10_bestFinish_1 (v := 0) rfl ?_
  refine pf_RX10_60 (blk_get0 KSm_b0) dX10_bestFinish_2 ?_
  refine c_wrt (fun M1 => ?_)
  refine c_aload_n (i := 0) dX10_bestFinish_5 rfl rfl ?_
  refine c_aload_n (i := 0) dX10_bestFinish_6 rfl rfl ?_
  refine gf_RX10_9 (blk_get0 KSm_b0) dX10_bestFinish_7 ?_
  refine c_sipush dX10_bestFinish_10 (v := 1440) rfl ?_
  refine c_iald (blk_get0 (blk_sub (C := [(20, 1671)]) (i := 1) KSm_b0 rfl)) (by decide) dX10_bestFinish_13 ?_
  refine c_bipush dX10_bestFinish_14 (v := 6) rfl ?_
  have J_z2 : ∀ z2 : Int32, isB z2 → CorM KSm ST1 RX10 cX10_bestFinish 1 (some .int) d 24 [(0, .inr 0)] [.inl z2, .inr 0] M1 (bnd (f_X10_may z2 1 M1) (fun v3 M4 => if v3 = 0 then j_X10_bestFinish_39 0 M4 else bnd (f_X10_finds M4) (fun v6 M7 => j_X10_bestFinish_39 v6 M7))) := by
    intro z2 h_z2
    refine c_iconst dX10_bestFinish_24 (v := 1) rfl ?_
    refine c_callV (as := [.inl z2, .inl 1]) (rs := []) (ev_X10_may 0 (Nat.le_refl _) z2 1 M1) rfl (Nat.lt_of_lt_of_le (by decide) hlev) mw_X10_may wi_X10_may wv_X10_may (blk_get0 KSm_b0) (by decide) rfl wl_RX10_66 mn_X10_may rfl (by decide) (Nat.le_of_ble_eq_true rfl) ⟨_, rfl⟩ dX10_bestFinish_25 (fun v3 M4 _ => ?_)
    refine c_if_eq (tgt := 38) dX10_bestFinish_28 rfl (fun h5 => ?_) (fun h5 => ?_)
    · refine c_iconst dX10_bestFinish_38 (v := 0) rfl ?_
      refine c_keep [] (ls2 := []) rfl ?_
      exact jo_X10_bestFinish_39 d hlev 0 M4
    · refine c_aload_n (i := 0) dX10_bestFinish_31 rfl rfl ?_
      refine c_callV (as := []) (rs := []) (ev_X10_finds 13 (Nat.le_refl _) M4) rfl (Nat.lt_of_lt_of_le (by decide) hlev) mw_X10_finds wi_X10_finds wv_X10_finds (blk_get0 KSm_b0) (by decide) rfl wl_RX10_380 mn_X10_finds rfl (by decide) (Nat.le_of_ble_eq_true rfl) ⟨_, rfl⟩ dX10_bestFinish_32 (fun v6 M7 _ => ?_)
      refine c_goto (tgt := 39) dX10_bestFinish_35 rfl ?_
      refine c_keep [] (ls2 := []) rfl ?_
      exact jo_X10_bestFinish_39 d hlev v6 M7
  refine c_val (b := 6 < (M1 1 1440)) (v1 := (0 : Int32)) (v2 := (1 : Int32)) (F := fun z2 => bnd (f_X10_may z2 1 M1) (fun v3 M4 => if v3 = 0 then j_X10_bestFinish_39 0 M4 else bnd (f_X10_finds M4) (fun v6 M7 => j_X10_bestFinish_39 v6 M7))) (fun h8 => ?_) (fun h8 => ?_)
  · refine c_T h8 (c_icmp_gt (tgt := 23) dX10_bestFinish_16 rfl (fun _ => ?_) (fun q => absurd h8 q))
    refine c_iconst dX10_bestFinish_23 (v := 0) rfl ?_
    refine c_keep [0] (ls2 := [(0, .inr 0)]) rfl ?_
    exact J_z2 0 (Or.inl rfl)
  · refine c_Fl h8 (c_icmp_gt (tgt := 23) dX10_bestFinish_16 rfl (fun q => absurd q h8) (fun _ => ?_))
    refine c_iconst dX10_bestFinish_19 (v := 1) rfl ?_
    refine c_goto (tgt := 24) dX10_bestFinish_20 rfl ?_
    refine c_keep [0] (ls2 := [(0, .inr 0)]) rfl ?_
    exact J_z2 1 (Or.inr rfl)

abbrev mdX10_bestOrder : MD := (yX10_bestOrder, cX10_bestOrder, 3, (some .int))
theorem mw_X10_bestOrder : mdW mdX10_bestOrder := ⟨wm_X10_bestOrder, w0_RX10, by decide, by decide⟩
theorem mn_X10_bestOrder : (parseMethodDescriptor yX10_bestOrder.desc).map (fun d => d.parameters.length) = some 1 := by decide +kernel
def j_X10_bestOrder_54 (M : Mem) : Option (Int32 × Mem) := some (0, M)
set_option maxRecDepth 20000 in
set_option maxHeartbeats 2000000 in
theorem jo_X10_bestOrder_54 (d : Nat) (hlev : 14 ≤ d) (M : Mem) : CorM KSm ST1 RX10 cX10_bestOrder 3 (some .int) d 54 [] [] M (j_X10_bestOrder_54 M) := by
  unfold j_X10_bestOrder_54
  refine c_iconst dX10_bestOrder_54 (v := 0) rfl ?_
  exact c_iret rfl dX10_bestOrder_55
def f_X10_bestOrder (x1 : Int32) (M : Mem) : Option (Int32 × Mem) := wrt (up M 0 0 0) (fun M1 => bnd (f_X10_may (if 6 < (M1 1 1440) then (0 : Int32) else (1 : Int32)) 1 M1) (fun v3 M4 => if v3 = 0 then j_X10_bestOrder_54 M4 else bnd (f_X10_may (p_X10_isIn x1 0 ((M4 1 1440) - 1)) 2 M4) (fun v6 M7 => if ¬ v6 = 0 then bnd (f_X10_finds M7) (fun v9 M10 => if inb x1 6 then some (M10 11 (ix x1), M10) else none) else j_X10_bestOrder_54 M7)))
set_option maxRecDepth 20000 in
set_option maxHeartbeats 2000000 in
theorem ev_X10_bestOrder (d : Nat) (hlev : 14 ≤ d) (x1 : Int32) (M : Mem) : Ev KSm ST1 mdX10_bestOrder d [.inr 0, .inl x1] M (f_X10_bestOrder x1 M) := by
  refine ev_of rfl (Nat.le_of_ble_eq_true rfl) ?_
  show CorM KSm ST1 RX10 cX10_bestOrder 3 (some .int) d 0 [(0, .inr 0), (1, .inl x1)] [] M (f_X10_bestOrder x1 M)
  unfold f_X10_bestOrder
  refine c_aload_n (i := 0) dX10_bestOrder_0 rfl rfl ?_
  refine c_iconst dX10_bestOrder_1 (v := 0) rfl ?_
  refine pf_RX10_60 (blk_get0 KSm_b0) dX10_bestOrder_2 ?_
  refine c_wrt (fun M1 => ?_)
  refine c_aload_n (i := 0) dX10_bestOrder_5 rfl rfl ?_
  refine c_aload_n (i := 0) dX10_bestOrder_6 rfl rfl ?_
  refine gf_RX10_9 (blk_get0 KSm_b0) dX10_bestOrder_7 ?_
  refine c_sipush dX10_bestOrder_10 (v := 1440) rfl ?_
  refine c_iald (blk_get0 (blk_sub (C := [(20, 1671)]) (i := 1) KSm_b0 rfl)) (by decide) dX10_bestOrder_13 ?_
  refine c_bipush dX10_bestOrder_14 (v := 6) rfl ?_
  have J_z2 : ∀ z2 : Int32, isB z2 → CorM KSm ST1 RX10 cX10_bestOrder 3 (some .int) d 24 [(0, .inr 0), (1, .inl x1)] [.inl z2, .inr 0] M1 (bnd (f_X10_may z2 1 M1) (fun v3 M4 => if v3 = 0 then j_X10_bestOrder_54 M4 else bnd (f_X10_may (p_X10_isIn x1 0 ((M4 1 1440) - 1)) 2 M4) (fun v6 M7 => if ¬ v6 = 0 then bnd (f_X10_finds M7) (fun v9 M10 => if inb x1 6 then some (M10 11 (ix x1), M10) else none) else j_X10_bestOrder_54 M7))) := by
    intro z2 h_z2
    refine c_iconst dX10_bestOrder_24 (v := 1) rfl ?_
    refine c_callV (as := [.inl z2, .inl 1]) (rs := []) (ev_X10_may 0 (Nat.le_refl _) z2 1 M1) rfl (Nat.lt_of_lt_of_le (by decide) hlev) mw_X10_may wi_X10_may wv_X10_may (blk_get0 KSm_b0) (by decide) rfl wl_RX10_66 mn_X10_may rfl (by decide) (Nat.le_of_ble_eq_true rfl) ⟨_, rfl⟩ dX10_bestOrder_25 (fun v3 M4 _ => ?_)
    refine c_if_eq (tgt := 54) dX10_bestOrder_28 rfl (fun h5 => ?_) (fun h5 => ?_)
    · refine c_keep [] (ls2 := []) rfl ?_
      exact jo_X10_bestOrder_54 d hlev M4
    · refine c_aload_n (i := 0) dX10_bestOrder_31 rfl rfl ?_
      refine c_iload_n (i := 1) dX10_bestOrder_32 rfl rfl ?_
      refine c_iconst dX10_bestOrder_33 (v := 0) rfl ?_
      refine c_aload_n (i := 0) dX10_bestOrder_34 rfl rfl ?_
      refine gf_RX10_9 (blk_get0 KSm_b0) dX10_bestOrder_35 ?_
      refine c_sipush dX10_bestOrder_38 (v := 1440) rfl ?_
      refine c_iald (blk_get0 (blk_sub (C := [(20, 1671)]) (i := 1) KSm_b0 rfl)) (by decide) dX10_bestOrder_41 ?_
      refine c_iconst dX10_bestOrder_42 (v := 1) rfl ?_
      refine c_isub dX10_bestOrder_43 ?_
      refine c_callSp (as := [.inl x1, .inl 0, .inl ((M4 1 1440) - 1)]) (rs := [.inr 0]) (ev_X10_isIn 0 (Nat.le_refl _) x1 0 ((M4 1 1440) - 1) M4) rfl (Nat.lt_of_lt_of_le (by decide) hlev) mw_X10_isIn ws_X10_isIn wl_RX10_70 mn_X10_isIn rfl (by decide) (Nat.le_of_ble_eq_true rfl) ⟨_, rfl⟩ dX10_bestOrder_44 ?_
      refine c_iconst dX10_bestOrder_47 (v := 2) rfl ?_
      refine c_callV (as := [.inl (p_X10_isIn x1 0 ((M4 1 1440) - 1)), .inl 2]) (rs := []) (ev_X10_may 0 (Nat.le_refl _) (p_X10_isIn x1 0 ((M4 1 1440) - 1)) 2 M4) rfl (Nat.lt_of_lt_of_le (by decide) hlev) mw_X10_may wi_X10_may wv_X10_may (blk_get0 KSm_b0) (by decide) rfl wl_RX10_66 mn_X10_may rfl (by decide) (Nat.le_of_ble_eq_true rfl) ⟨_, rfl⟩ dX10_bestOrder_48 (fun v6 M7 _ => ?_)
      refine c_if_ne (tgt := 56) dX10_bestOrder_51 rfl (fun h8 => ?_) (fun h8 => ?_)
      · refine c_aload_n (i := 0) dX10_bestOrder_56 rfl rfl ?_
        refine c_callV (as := []) (rs := []) (ev_X10_finds 13 (Nat.le_refl _) M7) rfl (Nat.lt_of_lt_of_le (by decide) hlev) mw_X10_finds wi_X10_finds wv_X10_finds (blk_get0 KSm_b0) (by decide) rfl wl_RX10_380 mn_X10_finds rfl (by decide) (Nat.le_of_ble_eq_true rfl) ⟨_, rfl⟩ dX10_bestOrder_57 (fun v9 M10 _ => ?_)
        refine c_istore_n (i := 2) dX10_bestOrder_60 rfl (by decide) (ls2 := [(0, .inr 0), (1, .inl x1), (2, .inl v9)]) rfl ?_
        refine c_aload_n (i := 0) dX10_bestOrder_61 rfl rfl ?_
        refine gf_RX10_45 (blk_get0 KSm_b0) dX10_bestOrder_62 ?_
        refine c_iload_n (i := 1) dX10_bestOrder_65 rfl rfl ?_
        refine c_chk (fun h11 => ?_)
        refine c_iald (blk_get0 (blk_sub (C := [(20, 6)]) (i := 11) KSm_b0 rfl)) h11 dX10_bestOrder_66 ?_
        exact c_iret rfl dX10_bestOrder_67
      · refine c_keep [] (ls2 := []) rfl ?_
        exact jo_X10_bestOrder_54 d hlev M7
  refine c_val (b := 6 < (M1 1 1440)) (v1 := (0 : Int32)) (v2 := (1 : Int32)) (F := fun z2 => bnd (f_X10_may z2 1 M1) (fun v3 M4 => if v3 = 0 then j_X10_bestOrder_54 M4 else bnd (f_X10_may (p_X10_isIn x1 0 ((M4 1 1440) - 1)) 2 M4) (fun v6 M7 => if ¬ v6 = 0 then bnd (f_X10_finds M7) (fun v9 M10 => if inb x1 6 then some (M10 11 (ix x1), M10) else none) else j_X10_bestOrder_54 M7))) (fun h12 => ?_) (fun h12 => ?_)
  · refine c_T h12 (c_icmp_gt (tgt := 23) dX10_bestOrder_16 rfl (fun _ => ?_) (fun q => absurd h12 q))
    refine c_iconst dX10_bestOrder_23 (v := 0) rfl ?_
    refine c_keep [0, 1] (ls2 := [(0, .inr 0), (1, .inl x1)]) rfl ?_
    exact J_z2 0 (Or.inl rfl)
  · refine c_Fl h12 (c_icmp_gt (tgt := 23) dX10_bestOrder_16 rfl (fun q => absurd q h12) (fun _ => ?_))
    refine c_iconst dX10_bestOrder_19 (v := 1) rfl ?_
    refine c_goto (tgt := 24) dX10_bestOrder_20 rfl ?_
    refine c_keep [0, 1] (ls2 := [(0, .inr 0), (1, .inl x1)]) rfl ?_
    exact J_z2 1 (Or.inr rfl)
