abbrev mdX10_values : MD := (yX10_values, cX10_values, 6, none)
theorem mw_X10_values : mdW mdX10_values := ⟨wm_X10_values, w0_RX10, by decide, by decide⟩
theorem mn_X10_values : (parseMethodDescriptor yX10_values.desc).map (fun d => d.parameters.length) = some 2 := by decide +kernel
def j_X10_values_253 (x1 : Int32) (x2 : Int32) (x3 : Int32) (x4 : Int32) (K10 : Int32 × Mem → Option (Int32 × Mem)) (M : Mem) : Option (Int32 × Mem) := K10 (x4 + 1, M)
set_option maxRecDepth 20000 in
set_option maxHeartbeats 2000000 in
theorem jo_X10_values_253 (d : Nat) (hlev : 2 ≤ d) (x1 : Int32) (x2 : Int32) (x3 : Int32) (x4 : Int32) (K10 : Int32 × Mem → Option (Int32 × Mem)) (hK10 : ∀ s : Int32 × Mem, CorM KSm ST1 RX10 cX10_values 6 none d 10 [(0, .inr 0), (1, .inl x1), (2, .inl x2), (3, .inl x3), (4, .inl s.1)] [] s.2 (K10 s)) (M : Mem) : CorM KSm ST1 RX10 cX10_values 6 none d 253 [(0, .inr 0), (1, .inl x1), (2, .inl x2), (3, .inl x3), (4, .inl x4)] [] M (j_X10_values_253 x1 x2 x3 x4 K10 M) := by
  unfold j_X10_values_253
  refine c_iinc dX10_values_253 rfl (v := 1) rfl (by decide) (ls2 := [(0, .inr 0), (1, .inl x1), (2, .inl x2), (3, .inl x3), (4, .inl (x4 + 1))]) rfl ?_
  refine c_goto (tgt := 10) dX10_values_256 rfl ?_
  refine c_keep [0, 1, 2, 3, 4] (ls2 := [(0, .inr 0), (1, .inl x1), (2, .inl x2), (3, .inl x3), (4, .inl (x4 + 1))]) rfl ?_
  exact hK10 (x4 + 1, M)
def j_X10_values_249 (x1 : Int32) (x2 : Int32) (x3 : Int32) (x4 : Int32) (w0 : Int32) (w1 : Int32) (K10 : Int32 × Mem → Option (Int32 × Mem)) (M : Mem) : Option (Int32 × Mem) := if inb w1 1671 then wrt (up M 1 (ix w1) w0) (fun M42 => j_X10_values_253 x1 x2 x3 x4 K10 M42) else none
set_option maxRecDepth 20000 in
set_option maxHeartbeats 2000000 in
theorem jo_X10_values_249 (d : Nat) (hlev : 2 ≤ d) (x1 : Int32) (x2 : Int32) (x3 : Int32) (x4 : Int32) (w0 : Int32) (w1 : Int32) (K10 : Int32 × Mem → Option (Int32 × Mem)) (hK10 : ∀ s : Int32 × Mem, CorM KSm ST1 RX10 cX10_values 6 none d 10 [(0, .inr 0), (1, .inl x1), (2, .inl x2), (3, .inl x3), (4, .inl s.1)] [] s.2 (K10 s)) (M : Mem) : CorM KSm ST1 RX10 cX10_values 6 none d 249 [(0, .inr 0), (1, .inl x1), (2, .inl x2), (3, .inl x3), (4, .inl x4)] [.inl w0, .inl w1, .inr 1] M (j_X10_values_249 x1 x2 x3 x4 w0 w1 K10 M) := by
  unfold j_X10_values_249
  refine c_chk (fun h41 => ?_)
  refine c_iast (blk_get0 (blk_sub (C := [(20, 1671)]) (i := 1) KSm_b0 rfl)) h41 dX10_values_249 ?_
  refine c_wrt (fun M42 => ?_)
  refine c_goto (tgt := 253) dX10_values_250 rfl ?_
  refine c_keep [0, 1, 2, 3, 4] (ls2 := [(0, .inr 0), (1, .inl x1), (2, .inl x2), (3, .inl x3), (4, .inl x4)]) rfl ?_
  exact jo_X10_values_253 d hlev x1 x2 x3 x4 K10 hK10 M42
def l_X10_values_10 (x1 : Int32) (x2 : Int32) (x3 : Int32) (K10 : Int32 × Mem → Option (Int32 × Mem)) : Int32 × Mem → Option (Int32 × Mem) := fun s => match s with
  | (x4, M) => if (M 5 2) ≤ x4 then some (0, M) else bnd (f_X10_kindOf x2 M) (fun v4 M5 => if v4 = 0 then bnd (f_X10_told x2 2 M5) (fun v7 M8 => if inb (p_X10_word x1 v7 x4) 1671 then if inb (p_X10_lane x1 x3 x4) 1671 then wrt (up M8 1 (ix (p_X10_lane x1 x3 x4)) (M8 1 (ix (p_X10_word x1 v7 x4)))) (fun M11 => j_X10_values_253 x1 x2 x3 x4 K10 M11) else none else none) else if v4 = 1 then bnd (f_X10_told x2 2 M5) (fun v13 M14 => if inb (p_X10_lane x1 x3 x4) 1671 then if inb (p_X10_word x1 v13 x4) 1671 then wrt (up M14 1 (ix (p_X10_word x1 v13 x4)) (M14 1 (ix (p_X10_lane x1 x3 x4)))) (fun M17 => j_X10_values_253 x1 x2 x3 x4 K10 M17) else none else none) else if v4 = 2 then bnd (f_X10_told x2 2 M5) (fun v19 M20 => if inb (p_X10_lane x1 x3 x4) 1671 then wrt (up M20 1 (ix (p_X10_lane x1 x3 x4)) v19) (fun M22 => j_X10_values_253 x1 x2 x3 x4 K10 M22) else none) else if v4 = 3 then bnd (f_X10_wayOf x2 M5) (fun v24 M25 => bnd (f_X10_told x2 2 M25) (fun v26 M27 => if inb (p_X10_lane x1 v26 x4) 1671 then bnd (f_X10_told x2 3 M27) (fun v29 M30 => if inb (p_X10_lane x1 v29 x4) 1671 then if inb (p_X10_lane x1 x3 x4) 1671 then wrt (up M30 1 (ix (p_X10_lane x1 x3 x4)) (p_X10_joined v24 (M27 1 (ix (p_X10_lane x1 v26 x4))) (M30 1 (ix (p_X10_lane x1 v29 x4))))) (fun M33 => j_X10_values_253 x1 x2 x3 x4 K10 M33) else none else none) else none)) else if v4 = 4 then j_X10_values_253 x1 x2 x3 x4 K10 M5 else if v4 = 5 then if ¬ x4 = 0 then bnd (f_X10_wayOf x2 M5) (fun v37 M38 => if inb (p_X10_lane x1 x3 0) 1671 then if inb (p_X10_lane x1 x3 x4) 1671 then j_X10_values_249 x1 x2 x3 x4 (p_X10_joined v37 (M38 1 (ix (p_X10_lane x1 x3 0))) (M38 1 (ix (p_X10_lane x1 x3 x4)))) (p_X10_lane x1 x3 0) K10 M38 else none else none) else if inb (p_X10_lane x1 x3 0) 1671 then j_X10_values_249 x1 x2 x3 x4 (M5 1 (ix (p_X10_lane x1 x3 0))) (p_X10_lane x1 x3 0) K10 M5 else none else j_X10_values_253 x1 x2 x3 x4 K10 M5)
set_option maxRecDepth 20000 in
set_option maxHeartbeats 2000000 in
theorem lo_X10_values_10 (d : Nat) (hlev : 2 ≤ d) (x1 : Int32) (x2 : Int32) (x3 : Int32) (s : Int32 × Mem) : CorM KSm ST1 RX10 cX10_values 6 none d 10 [(0, .inr 0), (1, .inl x1), (2, .inl x2), (3, .inl x3), (4, .inl s.1)] [] s.2 (loopC (l_X10_values_10 x1 x2 x3) fuelL s) := by
  refine c_loop (L := fun s : Int32 × Mem => [(0, .inr 0), (1, .inl x1), (2, .inl x2), (3, .inl x3), (4, .inl s.1)]) (Mf := fun s : Int32 × Mem => s.2) (fun K10 hK10 s => ?_) fuelL s
  obtain ⟨x4, M⟩ := s
  show CorM KSm ST1 RX10 cX10_values 6 none d 10 [(0, .inr 0), (1, .inl x1), (2, .inl x2), (3, .inl x3), (4, .inl x4)] [] M (l_X10_values_10 x1 x2 x3 K10 (x4, M))
  unfold l_X10_values_10
  refine c_iload dX10_values_10 rfl ?_
  refine c_aload_n (i := 0) dX10_values_12 rfl rfl ?_
  refine gf_RX10_23 (blk_get0 KSm_b0) dX10_values_13 ?_
  refine c_iconst dX10_values_16 (v := 2) rfl ?_
  refine c_iald (blk_get0 (blk_sub (C := [(20, 290)]) (i := 5) KSm_b0 rfl)) (by decide) dX10_values_17 ?_
  refine c_icmp_ge (tgt := 259) dX10_values_18 rfl (fun h3 => ?_) (fun h3 => ?_)
  · exact c_vret rfl dX10_values_259
  · refine c_iload_n (i := 1) dX10_values_21 rfl rfl ?_
    refine c_iload_n (i := 3) dX10_values_22 rfl rfl ?_
    refine c_iload dX10_values_23 rfl ?_
    refine c_callSp (as := [.inl x1, .inl x3, .inl x4]) (rs := []) (ev_X10_lane 0 (Nat.le_refl _) x1 x3 x4 M) rfl (Nat.lt_of_lt_of_le (by decide) hlev) mw_X10_lane ws_X10_lane wl_RX10_251 mn_X10_lane rfl (by decide) (Nat.le_of_ble_eq_true rfl) ⟨_, rfl⟩ dX10_values_25 ?_
    refine c_istore dX10_values_28 (by decide) (ls2 := [(0, .inr 0), (1, .inl x1), (2, .inl x2), (3, .inl x3), (4, .inl x4), (5, .inl (p_X10_lane x1 x3 x4))]) rfl ?_
    refine c_aload_n (i := 0) dX10_values_30 rfl rfl ?_
    refine c_iload_n (i := 2) dX10_values_31 rfl rfl ?_
    refine c_callV (as := [.inl x2]) (rs := []) (ev_X10_kindOf 1 (Nat.le_refl _) x2 M) rfl (Nat.lt_of_lt_of_le (by decide) hlev) mw_X10_kindOf wi_X10_kindOf wv_X10_kindOf (blk_get0 KSm_b0) (by decide) rfl wl_RX10_254 mn_X10_kindOf rfl (by decide) (Nat.le_of_ble_eq_true rfl) ⟨_, rfl⟩ dX10_values_32 (fun v4 M5 _ => ?_)
    refine c_ite (fun h6 => ?_) (fun h6 => ?_)
    · refine c_tableIn (tgt := 72) dX10_values_35 (by rw [h6] <;> decide) (by rw [h6] <;> decide) (by rw [h6] <;> rfl) rfl ?_
      refine c_aload_n (i := 0) dX10_values_72 rfl rfl ?_
      refine gf_RX10_9 (blk_get0 KSm_b0) dX10_values_73 ?_
      refine c_iload dX10_values_76 rfl ?_
      refine c_aload_n (i := 0) dX10_values_78 rfl rfl ?_
      refine gf_RX10_9 (blk_get0 KSm_b0) dX10_values_79 ?_
      refine c_iload_n (i := 1) dX10_values_82 rfl rfl ?_
      refine c_aload_n (i := 0) dX10_values_83 rfl rfl ?_
      refine c_iload_n (i := 2) dX10_values_84 rfl rfl ?_
      refine c_iconst dX10_values_85 (v := 2) rfl ?_
      refine c_callV (as := [.inl x2, .inl 2]) (rs := [.inl x1, .inr 1, .inl (p_X10_lane x1 x3 x4), .inr 1]) (ev_X10_told 0 (Nat.le_refl _) x2 2 M5) rfl (Nat.lt_of_lt_of_le (by decide) hlev) mw_X10_told wi_X10_told wv_X10_told (blk_get0 KSm_b0) (by decide) rfl wl_RX10_233 mn_X10_told rfl (by decide) (Nat.le_of_ble_eq_true rfl) ⟨_, rfl⟩ dX10_values_86 (fun v7 M8 _ => ?_)
      refine c_iload dX10_values_89 rfl ?_
      refine c_callSp (as := [.inl x1, .inl v7, .inl x4]) (rs := [.inr 1, .inl (p_X10_lane x1 x3 x4), .inr 1]) (ev_X10_word 0 (Nat.le_refl _) x1 v7 x4 M8) rfl (Nat.lt_of_lt_of_le (by decide) hlev) mw_X10_word ws_X10_word wl_RX10_247 mn_X10_word rfl (by decide) (Nat.le_of_ble_eq_true rfl) ⟨_, rfl⟩ dX10_values_91 ?_
      refine c_chk (fun h9 => ?_)
      refine c_iald (blk_get0 (blk_sub (C := [(20, 1671)]) (i := 1) KSm_b0 rfl)) h9 dX10_values_94 ?_
      refine c_chk (fun h10 => ?_)
      refine c_iast (blk_get0 (blk_sub (C := [(20, 1671)]) (i := 1) KSm_b0 rfl)) h10 dX10_values_95 ?_
      refine c_wrt (fun M11 => ?_)
      refine c_goto (tgt := 253) dX10_values_96 rfl ?_
      refine c_keep [0, 1, 2, 3, 4] (ls2 := [(0, .inr 0), (1, .inl x1), (2, .inl x2), (3, .inl x3), (4, .inl x4)]) rfl ?_
      exact jo_X10_values_253 d hlev x1 x2 x3 x4 K10 hK10 M11
    · refine c_ite (fun h12 => ?_) (fun h12 => ?_)
      · refine c_tableIn (tgt := 99) dX10_values_35 (by rw [h12] <;> decide) (by rw [h12] <;> decide) (by rw [h12] <;> rfl) rfl ?_
        refine c_aload_n (i := 0) dX10_values_99 rfl rfl ?_
        refine gf_RX10_9 (blk_get0 KSm_b0) dX10_values_100 ?_
        refine c_iload_n (i := 1) dX10_values_103 rfl rfl ?_
        refine c_aload_n (i := 0) dX10_values_104 rfl rfl ?_
        refine c_iload_n (i := 2) dX10_values_105 rfl rfl ?_
        refine c_iconst dX10_values_106 (v := 2) rfl ?_
        refine c_callV (as := [.inl x2, .inl 2]) (rs := [.inl x1, .inr 1]) (ev_X10_told 0 (Nat.le_refl _) x2 2 M5) rfl (Nat.lt_of_lt_of_le (by decide) hlev) mw_X10_told wi_X10_told wv_X10_told (blk_get0 KSm_b0) (by decide) rfl wl_RX10_233 mn_X10_told rfl (by decide) (Nat.le_of_ble_eq_true rfl) ⟨_, rfl⟩ dX10_values_107 (fun v13 M14 _ => ?_)
        refine c_iload dX10_values_110 rfl ?_
        refine c_callSp (as := [.inl x1, .inl v13, .inl x4]) (rs := [.inr 1]) (ev_X10_word 0 (Nat.le_refl _) x1 v13 x4 M14) rfl (Nat.lt_of_lt_of_le (by decide) hlev) mw_X10_word ws_X10_word wl_RX10_247 mn_X10_word rfl (by decide) (Nat.le_of_ble_eq_true rfl) ⟨_, rfl⟩ dX10_values_112 ?_
        refine c_aload_n (i := 0) dX10_values_115 rfl rfl ?_
        refine gf_RX10_9 (blk_get0 KSm_b0) dX10_values_116 ?_
        refine c_iload dX10_values_119 rfl ?_
        refine c_chk (fun h15 => ?_)
        refine c_iald (blk_get0 (blk_sub (C := [(20, 1671)]) (i := 1) KSm_b0 rfl)) h15 dX10_values_121 ?_
        refine c_chk (fun h16 => ?_)
        refine c_iast (blk_get0 (blk_sub (C := [(20, 1671)]) (i := 1) KSm_b0 rfl)) h16 dX10_values_122 ?_
        refine c_wrt (fun M17 => ?_)
        refine c_goto (tgt := 253) dX10_values_123 rfl ?_
        refine c_keep [0, 1, 2, 3, 4] (ls2 := [(0, .inr 0), (1, .inl x1), (2, .inl x2), (3, .inl x3), (4, .inl x4)]) rfl ?_
        exact jo_X10_values_253 d hlev x1 x2 x3 x4 K10 hK10 M17
      · refine c_ite (fun h18 => ?_) (fun h18 => ?_)
        · refine c_tableIn (tgt := 126) dX10_values_35 (by rw [h18] <;> decide) (by rw [h18] <;> decide) (by rw [h18] <;> rfl) rfl ?_
          refine c_aload_n (i := 0) dX10_values_126 rfl rfl ?_
          refine gf_RX10_9 (blk_get0 KSm_b0) dX10_values_127 ?_
          refine c_iload dX10_values_130 rfl ?_
          refine c_aload_n (i := 0) dX10_values_132 rfl rfl ?_
          refine c_iload_n (i := 2) dX10_values_133 rfl rfl ?_
          refine c_iconst dX10_values_134 (v := 2) rfl ?_
          refine c_callV (as := [.inl x2, .inl 2]) (rs := [.inl (p_X10_lane x1 x3 x4), .inr 1]) (ev_X10_told 0 (Nat.le_refl _) x2 2 M5) rfl (Nat.lt_of_lt_of_le (by decide) hlev) mw_X10_told wi_X10_told wv_X10_told (blk_get0 KSm_b0) (by decide) rfl wl_RX10_233 mn_X10_told rfl (by decide) (Nat.le_of_ble_eq_true rfl) ⟨_, rfl⟩ dX10_values_135 (fun v19 M20 _ => ?_)
          refine c_chk (fun h21 => ?_)
          refine c_iast (blk_get0 (blk_sub (C := [(20, 1671)]) (i := 1) KSm_b0 rfl)) h21 dX10_values_138 ?_
          refine c_wrt (fun M22 => ?_)
          refine c_goto (tgt := 253) dX10_values_139 rfl ?_
          refine c_keep [0, 1, 2, 3, 4] (ls2 := [(0, .inr 0), (1, .inl x1), (2, .inl x2), (3, .inl x3), (4, .inl x4)]) rfl ?_
          exact jo_X10_values_253 d hlev x1 x2 x3 x4 K10 hK10 M22
        · refine c_ite (fun h23 => ?_) (fun h23 => ?_)
          · refine c_tableIn (tgt := 142) dX10_values_35 (by rw [h23] <;> decide) (by rw [h23] <;> decide) (by rw [h23] <;> rfl) rfl ?_
            refine c_aload_n (i := 0) dX10_values_142 rfl rfl ?_
            refine gf_RX10_9 (blk_get0 KSm_b0) dX10_values_143 ?_
            refine c_iload dX10_values_146 rfl ?_
            refine c_aload_n (i := 0) dX10_values_148 rfl rfl ?_
            refine c_iload_n (i := 2) dX10_values_149 rfl rfl ?_
            refine c_callV (as := [.inl x2]) (rs := [.inl (p_X10_lane x1 x3 x4), .inr 1]) (ev_X10_wayOf 1 (Nat.le_refl _) x2 M5) rfl (Nat.lt_of_lt_of_le (by decide) hlev) mw_X10_wayOf wi_X10_wayOf wv_X10_wayOf (blk_get0 KSm_b0) (by decide) rfl wl_RX10_257 mn_X10_wayOf rfl (by decide) (Nat.le_of_ble_eq_true rfl) ⟨_, rfl⟩ dX10_values_150 (fun v24 M25 _ => ?_)
            refine c_aload_n (i := 0) dX10_values_153 rfl rfl ?_
            refine gf_RX10_9 (blk_get0 KSm_b0) dX10_values_154 ?_
            refine c_iload_n (i := 1) dX10_values_157 rfl rfl ?_
            refine c_aload_n (i := 0) dX10_values_158 rfl rfl ?_
            refine c_iload_n (i := 2) dX10_values_159 rfl rfl ?_
            refine c_iconst dX10_values_160 (v := 2) rfl ?_
            refine c_callV (as := [.inl x2, .inl 2]) (rs := [.inl x1, .inr 1, .inl v24, .inl (p_X10_lane x1 x3 x4), .inr 1]) (ev_X10_told 0 (Nat.le_refl _) x2 2 M25) rfl (Nat.lt_of_lt_of_le (by decide) hlev) mw_X10_told wi_X10_told wv_X10_told (blk_get0 KSm_b0) (by decide) rfl wl_RX10_233 mn_X10_told rfl (by decide) (Nat.le_of_ble_eq_true rfl) ⟨_, rfl⟩ dX10_values_161 (fun v26 M27 _ => ?_)
            refine c_iload dX10_values_164 rfl ?_
            refine c_callSp (as := [.inl x1, .inl v26, .inl x4]) (rs := [.inr 1, .inl v24, .inl (p_X10_lane x1 x3 x4), .inr 1]) (ev_X10_lane 0 (Nat.le_refl _) x1 v26 x4 M27) rfl (Nat.lt_of_lt_of_le (by decide) hlev) mw_X10_lane ws_X10_lane wl_RX10_251 mn_X10_lane rfl (by decide) (Nat.le_of_ble_eq_true rfl) ⟨_, rfl⟩ dX10_values_166 ?_
            refine c_chk (fun h28 => ?_)
            refine c_iald (blk_get0 (blk_sub (C := [(20, 1671)]) (i := 1) KSm_b0 rfl)) h28 dX10_values_169 ?_
            refine c_aload_n (i := 0) dX10_values_170 rfl rfl ?_
            refine gf_RX10_9 (blk_get0 KSm_b0) dX10_values_171 ?_
            refine c_iload_n (i := 1) dX10_values_174 rfl rfl ?_
            refine c_aload_n (i := 0) dX10_values_175 rfl rfl ?_
            refine c_iload_n (i := 2) dX10_values_176 rfl rfl ?_
            refine c_iconst dX10_values_177 (v := 3) rfl ?_
            refine c_callV (as := [.inl x2, .inl 3]) (rs := [.inl x1, .inr 1, .inl (M27 1 (ix (p_X10_lane x1 v26 x4))), .inl v24, .inl (p_X10_lane x1 x3 x4), .inr 1]) (ev_X10_told 0 (Nat.le_refl _) x2 3 M27) rfl (Nat.lt_of_lt_of_le (by decide) hlev) mw_X10_told wi_X10_told wv_X10_told (blk_get0 KSm_b0) (by decide) rfl wl_RX10_233 mn_X10_told rfl (by decide) (Nat.le_of_ble_eq_true rfl) ⟨_, rfl⟩ dX10_values_178 (fun v29 M30 _ => ?_)
            refine c_iload dX10_values_181 rfl ?_
            refine c_callSp (as := [.inl x1, .inl v29, .inl x4]) (rs := [.inr 1, .inl (M27 1 (ix (p_X10_lane x1 v26 x4))), .inl v24, .inl (p_X10_lane x1 x3 x4), .inr 1]) (ev_X10_lane 0 (Nat.le_refl _) x1 v29 x4 M30) rfl (Nat.lt_of_lt_of_le (by decide) hlev) mw_X10_lane ws_X10_lane wl_RX10_251 mn_X10_lane rfl (by decide) (Nat.le_of_ble_eq_true rfl) ⟨_, rfl⟩ dX10_values_183 ?_
            refine c_chk (fun h31 => ?_)
            refine c_iald (blk_get0 (blk_sub (C := [(20, 1671)]) (i := 1) KSm_b0 rfl)) h31 dX10_values_186 ?_
            refine c_callSp (as := [.inl v24, .inl (M27 1 (ix (p_X10_lane x1 v26 x4))), .inl (M30 1 (ix (p_X10_lane x1 v29 x4)))]) (rs := [.inl (p_X10_lane x1 x3 x4), .inr 1]) (ev_X10_joined 0 (Nat.le_refl _) v24 (M27 1 (ix (p_X10_lane x1 v26 x4))) (M30 1 (ix (p_X10_lane x1 v29 x4))) M30) rfl (Nat.lt_of_lt_of_le (by decide) hlev) mw_X10_joined ws_X10_joined wl_RX10_260 mn_X10_joined rfl (by decide) (Nat.le_of_ble_eq_true rfl) ⟨_, rfl⟩ dX10_values_187 ?_
            refine c_chk (fun h32 => ?_)
            refine c_iast (blk_get0 (blk_sub (C := [(20, 1671)]) (i := 1) KSm_b0 rfl)) h32 dX10_values_190 ?_
            refine c_wrt (fun M33 => ?_)
            refine c_goto (tgt := 253) dX10_values_191 rfl ?_
            refine c_keep [0, 1, 2, 3, 4] (ls2 := [(0, .inr 0), (1, .inl x1), (2, .inl x2), (3, .inl x3), (4, .inl x4)]) rfl ?_
            exact jo_X10_values_253 d hlev x1 x2 x3 x4 K10 hK10 M33
          · refine c_ite (fun h34 => ?_) (fun h34 => ?_)
            · refine c_tableIn (tgt := 253) dX10_values_35 (by rw [h34] <;> decide) (by rw [h34] <;> decide) (by rw [h34] <;> rfl) rfl ?_
              refine c_keep [0, 1, 2, 3, 4] (ls2 := [(0, .inr 0), (1, .inl x1), (2, .inl x2), (3, .inl x3), (4, .inl x4)]) rfl ?_
              exact jo_X10_values_253 d hlev x1 x2 x3 x4 K10 hK10 M5
            · refine c_ite (fun h35 => ?_) (fun h35 => ?_)
              · refine c_tableIn (tgt := 194) dX10_values_35 (by rw [h35] <;> decide) (by rw [h35] <;> decide) (by rw [h35] <;> rfl) rfl ?_
                refine c_aload_n (i := 0) dX10_values_194 rfl rfl ?_
                refine gf_RX10_9 (blk_get0 KSm_b0) dX10_values_195 ?_
                refine c_iload_n (i := 1) dX10_values_198 rfl rfl ?_
                refine c_iload_n (i := 3) dX10_values_199 rfl rfl ?_
                refine c_iconst dX10_values_200 (v := 0) rfl ?_
                refine c_callSp (as := [.inl x1, .inl x3, .inl 0]) (rs := [.inr 1]) (ev_X10_lane 0 (Nat.le_refl _) x1 x3 0 M5) rfl (Nat.lt_of_lt_of_le (by decide) hlev) mw_X10_lane ws_X10_lane wl_RX10_251 mn_X10_lane rfl (by decide) (Nat.le_of_ble_eq_true rfl) ⟨_, rfl⟩ dX10_values_201 ?_
                refine c_iload dX10_values_204 rfl ?_
                refine c_if_ne (tgt := 223) dX10_values_206 rfl (fun h36 => ?_) (fun h36 => ?_)
                · refine c_aload_n (i := 0) dX10_values_223 rfl rfl ?_
                  refine c_iload_n (i := 2) dX10_values_224 rfl rfl ?_
                  refine c_callV (as := [.inl x2]) (rs := [.inl (p_X10_lane x1 x3 0), .inr 1]) (ev_X10_wayOf 1 (Nat.le_refl _) x2 M5) rfl (Nat.lt_of_lt_of_le (by decide) hlev) mw_X10_wayOf wi_X10_wayOf wv_X10_wayOf (blk_get0 KSm_b0) (by decide) rfl wl_RX10_257 mn_X10_wayOf rfl (by decide) (Nat.le_of_ble_eq_true rfl) ⟨_, rfl⟩ dX10_values_225 (fun v37 M38 _ => ?_)
                  refine c_aload_n (i := 0) dX10_values_228 rfl rfl ?_
                  refine gf_RX10_9 (blk_get0 KSm_b0) dX10_values_229 ?_
                  refine c_iload_n (i := 1) dX10_values_232 rfl rfl ?_
                  refine c_iload_n (i := 3) dX10_values_233 rfl rfl ?_
                  refine c_iconst dX10_values_234 (v := 0) rfl ?_
                  refine c_callSp (as := [.inl x1, .inl x3, .inl 0]) (rs := [.inr 1, .inl v37, .inl (p_X10_lane x1 x3 0), .inr 1]) (ev_X10_lane 0 (Nat.le_refl _) x1 x3 0 M38) rfl (Nat.lt_of_lt_of_le (by decide) hlev) mw_X10_lane ws_X10_lane wl_RX10_251 mn_X10_lane rfl (by decide) (Nat.le_of_ble_eq_true rfl) ⟨_, rfl⟩ dX10_values_235 ?_
                  refine c_chk (fun h39 => ?_)
                  refine c_iald (blk_get0 (blk_sub (C := [(20, 1671)]) (i := 1) KSm_b0 rfl)) h39 dX10_values_238 ?_
                  refine c_aload_n (i := 0) dX10_values_239 rfl rfl ?_
                  refine gf_RX10_9 (blk_get0 KSm_b0) dX10_values_240 ?_
                  refine c_iload dX10_values_243 rfl ?_
                  refine c_chk (fun h40 => ?_)
                  refine c_iald (blk_get0 (blk_sub (C := [(20, 1671)]) (i := 1) KSm_b0 rfl)) h40 dX10_values_245 ?_
                  refine c_callSp (as := [.inl v37, .inl (M38 1 (ix (p_X10_lane x1 x3 0))), .inl (M38 1 (ix (p_X10_lane x1 x3 x4)))]) (rs := [.inl (p_X10_lane x1 x3 0), .inr 1]) (ev_X10_joined 0 (Nat.le_refl _) v37 (M38 1 (ix (p_X10_lane x1 x3 0))) (M38 1 (ix (p_X10_lane x1 x3 x4))) M38) rfl (Nat.lt_of_lt_of_le (by decide) hlev) mw_X10_joined ws_X10_joined wl_RX10_260 mn_X10_joined rfl (by decide) (Nat.le_of_ble_eq_true rfl) ⟨_, rfl⟩ dX10_values_246 ?_
                  refine c_keep [0, 1, 2, 3, 4] (ls2 := [(0, .inr 0), (1, .inl x1), (2, .inl x2), (3, .inl x3), (4, .inl x4)]) rfl ?_
                  exact jo_X10_values_249 d hlev x1 x2 x3 x4 (p_X10_joined v37 (M38 1 (ix (p_X10_lane x1 x3 0))) (M38 1 (ix (p_X10_lane x1 x3 x4)))) (p_X10_lane x1 x3 0) K10 hK10 M38
                · refine c_aload_n (i := 0) dX10_values_209 rfl rfl ?_
                  refine gf_RX10_9 (blk_get0 KSm_b0) dX10_values_210 ?_
                  refine c_iload_n (i := 1) dX10_values_213 rfl rfl ?_
                  refine c_iload_n (i := 3) dX10_values_214 rfl rfl ?_
                  refine c_iconst dX10_values_215 (v := 0) rfl ?_
                  refine c_callSp (as := [.inl x1, .inl x3, .inl 0]) (rs := [.inr 1, .inl (p_X10_lane x1 x3 0), .inr 1]) (ev_X10_lane 0 (Nat.le_refl _) x1 x3 0 M5) rfl (Nat.lt_of_lt_of_le (by decide) hlev) mw_X10_lane ws_X10_lane wl_RX10_251 mn_X10_lane rfl (by decide) (Nat.le_of_ble_eq_true rfl) ⟨_, rfl⟩ dX10_values_216 ?_
                  refine c_chk (fun h43 => ?_)
                  refine c_iald (blk_get0 (blk_sub (C := [(20, 1671)]) (i := 1) KSm_b0 rfl)) h43 dX10_values_219 ?_
                  refine c_goto (tgt := 249) dX10_values_220 rfl ?_
                  refine c_keep [0, 1, 2, 3, 4] (ls2 := [(0, .inr 0), (1, .inl x1), (2, .inl x2), (3, .inl x3), (4, .inl x4)]) rfl ?_
                  exact jo_X10_values_249 d hlev x1 x2 x3 x4 (M5 1 (ix (p_X10_lane x1 x3 0))) (p_X10_lane x1 x3 0) K10 hK10 M5
              · refine c_tableOut (tgt := 253) dX10_values_35 (sw_tab 0 6 (ks := [0, 1, 2, 3, 4, 5]) (List.forall_mem_cons.mpr ⟨h6, (List.forall_mem_cons.mpr ⟨h12, (List.forall_mem_cons.mpr ⟨h18, (List.forall_mem_cons.mpr ⟨h23, (List.forall_mem_cons.mpr ⟨h34, (List.forall_mem_cons.mpr ⟨h35, (fun _ q => absurd q List.not_mem_nil)⟩)⟩)⟩)⟩)⟩)⟩) (by decide)) rfl ?_
                refine c_keep [0, 1, 2, 3, 4] (ls2 := [(0, .inr 0), (1, .inl x1), (2, .inl x2), (3, .inl x3), (4, .inl x4)]) rfl ?_
                exact jo_X10_values_253 d hlev x1 x2 x3 x4 K10 hK10 M5
def f_X10_values (x1 : Int32) (x2 : Int32) (M : Mem) : Option (Int32 × Mem) := bnd (f_X10_told x2 1 M) (fun v1 M2 => loopC (l_X10_values_10 x1 x2 v1) fuelL (0, M2))
set_option maxRecDepth 20000 in
set_option maxHeartbeats 2000000 in
theorem ev_X10_values (d : Nat) (hlev : 2 ≤ d) (x1 : Int32) (x2 : Int32) (M : Mem) : Ev KSm ST1 mdX10_values d [.inr 0, .inl x1, .inl x2] M (f_X10_values x1 x2 M) := by
  refine ev_of rfl (Nat.le_of_ble_eq_true rfl) ?_
  show CorM KSm ST1 RX10 cX10_values 6 none d 0 [(0, .inr 0), (1, .inl x1), (2, .inl x2)] [] M (f_X10_values x1 x2 M)
  unfold f_X10_values
  refine c_aload_n (i := 0) dX10_values_0 rfl rfl ?_
  refine c_iload_n (i := 2) dX10_values_1 rfl rfl ?_
  refine c_iconst dX10_values_2 (v := 1) rfl ?_
  refine c_callV (as := [.inl x2, .inl 1]) (rs := []) (ev_X10_told 0 (Nat.le_refl _) x2 1 M) rfl (Nat.lt_of_lt_of_le (by decide) hlev) mw_X10_told wi_X10_told wv_X10_told (blk_get0 KSm_b0) (by decide) rfl wl_RX10_233 mn_X10_told rfl (by decide) (Nat.le_of_ble_eq_true rfl) ⟨_, rfl⟩ dX10_values_3 (fun v1 M2 _ => ?_)
  refine c_istore_n (i := 3) dX10_values_6 rfl (by decide) (ls2 := [(0, .inr 0), (1, .inl x1), (2, .inl x2), (3, .inl v1)]) rfl ?_
  refine c_iconst dX10_values_7 (v := 0) rfl ?_
  refine c_istore dX10_values_8 (by decide) (ls2 := [(0, .inr 0), (1, .inl x1), (2, .inl x2), (3, .inl v1), (4, .inl 0)]) rfl ?_
  refine c_keep [0, 1, 2, 3, 4] (ls2 := [(0, .inr 0), (1, .inl x1), (2, .inl x2), (3, .inl v1), (4, .inl 0)]) rfl ?_
  exact lo_X10_values_10 d hlev x1 x2 v1 (0, M2)

abbrev mdX10_together : MD := (yX10_together, cX10_together, 7, none)
theorem mw_X10_together : mdW mdX10_together := ⟨wm_X10_together, w0_RX10, by decide, by decide⟩
theorem mn_X10_together : (parseMethodDescriptor yX10_together.desc).map (fun d => d.parameters.length) = some 2 := by decide +kernel
def j_X10_together_148 (x1 : Int32) (x2 : Int32) (x3 : Int32) (x4 : Int32) (x5 : Int32) (K18 : Int32 × Mem → Option (Int32 × Mem)) (M : Mem) : Option (Int32 × Mem) := K18 (x5 + 1, M)
set_option maxRecDepth 20000 in
set_option maxHeartbeats 2000000 in
theorem jo_X10_together_148 (d : Nat) (hlev : 2 ≤ d) (x1 : Int32) (x2 : Int32) (x3 : Int32) (x4 : Int32) (x5 : Int32) (K18 : Int32 × Mem → Option (Int32 × Mem)) (hK18 : ∀ s : Int32 × Mem, CorM KSm ST1 RX10 cX10_together 7 none d 18 [(0, .inr 0), (1, .inl x1), (2, .inl x2), (3, .inl x3), (4, .inl x4), (5, .inl s.1)] [] s.2 (K18 s)) (M : Mem) : CorM KSm ST1 RX10 cX10_together 7 none d 148 [(0, .inr 0), (1, .inl x1), (2, .inl x2), (3, .inl x3), (4, .inl x4), (5, .inl x5)] [] M (j_X10_together_148 x1 x2 x3 x4 x5 K18 M) := by
  unfold j_X10_together_148
  refine c_iinc dX10_together_148 rfl (v := 1) rfl (by decide) (ls2 := [(0, .inr 0), (1, .inl x1), (2, .inl x2), (3, .inl x3), (4, .inl x4), (5, .inl (x5 + 1))]) rfl ?_
  refine c_goto (tgt := 18) dX10_together_151 rfl ?_
  refine c_keep [0, 1, 2, 3, 4, 5] (ls2 := [(0, .inr 0), (1, .inl x1), (2, .inl x2), (3, .inl x3), (4, .inl x4), (5, .inl (x5 + 1))]) rfl ?_
  exact hK18 (x5 + 1, M)
def j_X10_together_142 (x1 : Int32) (x2 : Int32) (x3 : Int32) (x4 : Int32) (x5 : Int32) (x6 : Int32) (K18 : Int32 × Mem → Option (Int32 × Mem)) (K44 : Int32 × Mem → Option (Int32 × Mem)) (M : Mem) : Option (Int32 × Mem) := K44 (x6 + 1, M)
set_option maxRecDepth 20000 in
set_option maxHeartbeats 2000000 in
theorem jo_X10_together_142 (d : Nat) (hlev : 2 ≤ d) (x1 : Int32) (x2 : Int32) (x3 : Int32) (x4 : Int32) (x5 : Int32) (x6 : Int32) (K18 : Int32 × Mem → Option (Int32 × Mem)) (hK18 : ∀ s : Int32 × Mem, CorM KSm ST1 RX10 cX10_together 7 none d 18 [(0, .inr 0), (1, .inl x1), (2, .inl x2), (3, .inl x3), (4, .inl x4), (5, .inl s.1)] [] s.2 (K18 s)) (K44 : Int32 × Mem → Option (Int32 × Mem)) (hK44 : ∀ s : Int32 × Mem, CorM KSm ST1 RX10 cX10_together 7 none d 44 [(0, .inr 0), (1, .inl x1), (2, .inl x2), (3, .inl x3), (4, .inl x4), (5, .inl x5), (6, .inl s.1)] [] s.2 (K44 s)) (M : Mem) : CorM KSm ST1 RX10 cX10_together 7 none d 142 [(0, .inr 0), (1, .inl x1), (2, .inl x2), (3, .inl x3), (4, .inl x4), (5, .inl x5), (6, .inl x6)] [] M (j_X10_together_142 x1 x2 x3 x4 x5 x6 K18 K44 M) := by
  unfold j_X10_together_142
  refine c_iinc dX10_together_142 rfl (v := 1) rfl (by decide) (ls2 := [(0, .inr 0), (1, .inl x1), (2, .inl x2), (3, .inl x3), (4, .inl x4), (5, .inl x5), (6, .inl (x6 + 1))]) rfl ?_
  refine c_goto (tgt := 44) dX10_together_145 rfl ?_
  refine c_keep [0, 1, 2, 3, 4, 5, 6] (ls2 := [(0, .inr 0), (1, .inl x1), (2, .inl x2), (3, .inl x3), (4, .inl x4), (5, .inl x5), (6, .inl (x6 + 1))]) rfl ?_
  exact hK44 (x6 + 1, M)
def l_X10_together_44 (x1 : Int32) (x2 : Int32) (x3 : Int32) (x4 : Int32) (x5 : Int32) (K18 : Int32 × Mem → Option (Int32 × Mem)) (K44 : Int32 × Mem → Option (Int32 × Mem)) : Int32 × Mem → Option (Int32 × Mem) := fun s => match s with
  | (x6, M) => if (M 5 2) ≤ x6 then j_X10_together_148 x1 x2 x3 x4 x5 K18 M else bnd (f_X10_kindOf x2 M) (fun v8 M9 => if ¬ v8 = 4 then if inb (p_X10_lane x3 x4 x6) 1671 then if inb (p_X10_lane x5 x4 x6) 1671 then wrt (up M9 1 (ix (p_X10_lane x5 x4 x6)) (M9 1 (ix (p_X10_lane x3 x4 x6)))) (fun M13 => j_X10_together_142 x1 x2 x3 x4 x5 x6 K18 K44 M13) else none else none else bnd (f_X10_wayOf x2 M9) (fun v14 M15 => if inb (p_X10_lane x3 x4 x6) 1671 then if inb (p_X10_lane x5 x4 x6) 1671 then if inb (p_X10_lane x3 x4 x6) 1671 then wrt (up M15 1 (ix (p_X10_lane x3 x4 x6)) (p_X10_joined v14 (M15 1 (ix (p_X10_lane x3 x4 x6))) (M15 1 (ix (p_X10_lane x5 x4 x6))))) (fun M19 => j_X10_together_142 x1 x2 x3 x4 x5 x6 K18 K44 M19) else none else none else none))
set_option maxRecDepth 20000 in
set_option maxHeartbeats 2000000 in
theorem lo_X10_together_44 (d : Nat) (hlev : 2 ≤ d) (x1 : Int32) (x2 : Int32) (x3 : Int32) (x4 : Int32) (x5 : Int32) (K18 : Int32 × Mem → Option (Int32 × Mem)) (hK18 : ∀ s : Int32 × Mem, CorM KSm ST1 RX10 cX10_together 7 none d 18 [(0, .inr 0), (1, .inl x1), (2, .inl x2), (3, .inl x3), (4, .inl x4), (5, .inl s.1)] [] s.2 (K18 s)) (s : Int32 × Mem) : CorM KSm ST1 RX10 cX10_together 7 none d 44 [(0, .inr 0), (1, .inl x1), (2, .inl x2), (3, .inl x3), (4, .inl x4), (5, .inl x5), (6, .inl s.1)] [] s.2 (loopC (l_X10_together_44 x1 x2 x3 x4 x5 K18) fuelL s) := by
  refine c_loop (L := fun s : Int32 × Mem => [(0, .inr 0), (1, .inl x1), (2, .inl x2), (3, .inl x3), (4, .inl x4), (5, .inl x5), (6, .inl s.1)]) (Mf := fun s : Int32 × Mem => s.2) (fun K44 hK44 s => ?_) fuelL s
  obtain ⟨x6, M⟩ := s
  show CorM KSm ST1 RX10 cX10_together 7 none d 44 [(0, .inr 0), (1, .inl x1), (2, .inl x2), (3, .inl x3), (4, .inl x4), (5, .inl x5), (6, .inl x6)] [] M (l_X10_together_44 x1 x2 x3 x4 x5 K18 K44 (x6, M))
  unfold l_X10_together_44
  refine c_iload dX10_together_44 rfl ?_
  refine c_aload_n (i := 0) dX10_together_46 rfl rfl ?_
  refine gf_RX10_23 (blk_get0 KSm_b0) dX10_together_47 ?_
  refine c_iconst dX10_together_50 (v := 2) rfl ?_
  refine c_iald (blk_get0 (blk_sub (C := [(20, 290)]) (i := 5) KSm_b0 rfl)) (by decide) dX10_together_51 ?_
  refine c_icmp_ge (tgt := 148) dX10_together_52 rfl (fun h7 => ?_) (fun h7 => ?_)
  · refine c_keep [0, 1, 2, 3, 4, 5] (ls2 := [(0, .inr 0), (1, .inl x1), (2, .inl x2), (3, .inl x3), (4, .inl x4), (5, .inl x5)]) rfl ?_
    exact jo_X10_together_148 d hlev x1 x2 x3 x4 x5 K18 hK18 M
  · refine c_aload_n (i := 0) dX10_together_55 rfl rfl ?_
    refine c_iload_n (i := 2) dX10_together_56 rfl rfl ?_
    refine c_callV (as := [.inl x2]) (rs := []) (ev_X10_kindOf 1 (Nat.le_refl _) x2 M) rfl (Nat.lt_of_lt_of_le (by decide) hlev) mw_X10_kindOf wi_X10_kindOf wv_X10_kindOf (blk_get0 KSm_b0) (by decide) rfl wl_RX10_254 mn_X10_kindOf rfl (by decide) (Nat.le_of_ble_eq_true rfl) ⟨_, rfl⟩ dX10_together_57 (fun v8 M9 _ => ?_)
    refine c_iconst dX10_together_60 (v := 4) rfl ?_
    refine c_icmp_ne (tgt := 115) dX10_together_61 rfl (fun h10 => ?_) (fun h10 => ?_)
    · refine c_aload_n (i := 0) dX10_together_115 rfl rfl ?_
      refine gf_RX10_9 (blk_get0 KSm_b0) dX10_together_116 ?_
      refine c_iload dX10_together_119 rfl ?_
      refine c_iload dX10_together_121 rfl ?_
      refine c_iload dX10_together_123 rfl ?_
      refine c_callSp (as := [.inl x5, .inl x4, .inl x6]) (rs := [.inr 1]) (ev_X10_lane 0 (Nat.le_refl _) x5 x4 x6 M9) rfl (Nat.lt_of_lt_of_le (by decide) hlev) mw_X10_lane ws_X10_lane wl_RX10_251 mn_X10_lane rfl (by decide) (Nat.le_of_ble_eq_true rfl) ⟨_, rfl⟩ dX10_together_125 ?_
      refine c_aload_n (i := 0) dX10_together_128 rfl rfl ?_
      refine gf_RX10_9 (blk_get0 KSm_b0) dX10_together_129 ?_
      refine c_iload_n (i := 3) dX10_together_132 rfl rfl ?_
      refine c_iload dX10_together_133 rfl ?_
      refine c_iload dX10_together_135 rfl ?_
      refine c_callSp (as := [.inl x3, .inl x4, .inl x6]) (rs := [.inr 1, .inl (p_X10_lane x5 x4 x6), .inr 1]) (ev_X10_lane 0 (Nat.le_refl _) x3 x4 x6 M9) rfl (Nat.lt_of_lt_of_le (by decide) hlev) mw_X10_lane ws_X10_lane wl_RX10_251 mn_X10_lane rfl (by decide) (Nat.le_of_ble_eq_true rfl) ⟨_, rfl⟩ dX10_together_137 ?_
      refine c_chk (fun h11 => ?_)
      refine c_iald (blk_get0 (blk_sub (C := [(20, 1671)]) (i := 1) KSm_b0 rfl)) h11 dX10_together_140 ?_
      refine c_chk (fun h12 => ?_)
      refine c_iast (blk_get0 (blk_sub (C := [(20, 1671)]) (i := 1) KSm_b0 rfl)) h12 dX10_together_141 ?_
      refine c_wrt (fun M13 => ?_)
      refine c_keep [0, 1, 2, 3, 4, 5, 6] (ls2 := [(0, .inr 0), (1, .inl x1), (2, .inl x2), (3, .inl x3), (4, .inl x4), (5, .inl x5), (6, .inl x6)]) rfl ?_
      exact jo_X10_together_142 d hlev x1 x2 x3 x4 x5 x6 K18 hK18 K44 hK44 M13
    · refine c_aload_n (i := 0) dX10_together_64 rfl rfl ?_
      refine gf_RX10_9 (blk_get0 KSm_b0) dX10_together_65 ?_
      refine c_iload_n (i := 3) dX10_together_68 rfl rfl ?_
      refine c_iload dX10_together_69 rfl ?_
      refine c_iload dX10_together_71 rfl ?_
      refine c_callSp (as := [.inl x3, .inl x4, .inl x6]) (rs := [.inr 1]) (ev_X10_lane 0 (Nat.le_refl _) x3 x4 x6 M9) rfl (Nat.lt_of_lt_of_le (by decide) hlev) mw_X10_lane ws_X10_lane wl_RX10_251 mn_X10_lane rfl (by decide) (Nat.le_of_ble_eq_true rfl) ⟨_, rfl⟩ dX10_together_73 ?_
      refine c_aload_n (i := 0) dX10_together_76 rfl rfl ?_
      refine c_iload_n (i := 2) dX10_together_77 rfl rfl ?_
      refine c_callV (as := [.inl x2]) (rs := [.inl (p_X10_lane x3 x4 x6), .inr 1]) (ev_X10_wayOf 1 (Nat.le_refl _) x2 M9) rfl (Nat.lt_of_lt_of_le (by decide) hlev) mw_X10_wayOf wi_X10_wayOf wv_X10_wayOf (blk_get0 KSm_b0) (by decide) rfl wl_RX10_257 mn_X10_wayOf rfl (by decide) (Nat.le_of_ble_eq_true rfl) ⟨_, rfl⟩ dX10_together_78 (fun v14 M15 _ => ?_)
      refine c_aload_n (i := 0) dX10_together_81 rfl rfl ?_
      refine gf_RX10_9 (blk_get0 KSm_b0) dX10_together_82 ?_
      refine c_iload_n (i := 3) dX10_together_85 rfl rfl ?_
      refine c_iload dX10_together_86 rfl ?_
      refine c_iload dX10_together_88 rfl ?_
      refine c_callSp (as := [.inl x3, .inl x4, .inl x6]) (rs := [.inr 1, .inl v14, .inl (p_X10_lane x3 x4 x6), .inr 1]) (ev_X10_lane 0 (Nat.le_refl _) x3 x4 x6 M15) rfl (Nat.lt_of_lt_of_le (by decide) hlev) mw_X10_lane ws_X10_lane wl_RX10_251 mn_X10_lane rfl (by decide) (Nat.le_of_ble_eq_true rfl) ⟨_, rfl⟩ dX10_together_90 ?_
      refine c_chk (fun h16 => ?_)
      refine c_iald (blk_get0 (blk_sub (C := [(20, 1671)]) (i := 1) KSm_b0 rfl)) h16 dX10_together_93 ?_
      refine c_aload_n (i := 0) dX10_together_94 rfl rfl ?_
      refine gf_RX10_9 (blk_get0 KSm_b0) dX10_together_95 ?_
      refine c_iload dX10_together_98 rfl ?_
      refine c_iload dX10_together_100 rfl ?_
      refine c_iload dX10_together_102 rfl ?_
      refine c_callSp (as := [.inl x5, .inl x4, .inl x6]) (rs := [.inr 1, .inl (M15 1 (ix (p_X10_lane x3 x4 x6))), .inl v14, .inl (p_X10_lane x3 x4 x6), .inr 1]) (ev_X10_lane 0 (Nat.le_refl _) x5 x4 x6 M15) rfl (Nat.lt_of_lt_of_le (by decide) hlev) mw_X10_lane ws_X10_lane wl_RX10_251 mn_X10_lane rfl (by decide) (Nat.le_of_ble_eq_true rfl) ⟨_, rfl⟩ dX10_together_104 ?_
      refine c_chk (fun h17 => ?_)
      refine c_iald (blk_get0 (blk_sub (C := [(20, 1671)]) (i := 1) KSm_b0 rfl)) h17 dX10_together_107 ?_
      refine c_callSp (as := [.inl v14, .inl (M15 1 (ix (p_X10_lane x3 x4 x6))), .inl (M15 1 (ix (p_X10_lane x5 x4 x6)))]) (rs := [.inl (p_X10_lane x3 x4 x6), .inr 1]) (ev_X10_joined 0 (Nat.le_refl _) v14 (M15 1 (ix (p_X10_lane x3 x4 x6))) (M15 1 (ix (p_X10_lane x5 x4 x6))) M15) rfl (Nat.lt_of_lt_of_le (by decide) hlev) mw_X10_joined ws_X10_joined wl_RX10_260 mn_X10_joined rfl (by decide) (Nat.le_of_ble_eq_true rfl) ⟨_, rfl⟩ dX10_together_108 ?_
      refine c_chk (fun h18 => ?_)
      refine c_iast (blk_get0 (blk_sub (C := [(20, 1671)]) (i := 1) KSm_b0 rfl)) h18 dX10_together_111 ?_
      refine c_wrt (fun M19 => ?_)
      refine c_goto (tgt := 142) dX10_together_112 rfl ?_
      refine c_keep [0, 1, 2, 3, 4, 5, 6] (ls2 := [(0, .inr 0), (1, .inl x1), (2, .inl x2), (3, .inl x3), (4, .inl x4), (5, .inl x5), (6, .inl x6)]) rfl ?_
      exact jo_X10_together_142 d hlev x1 x2 x3 x4 x5 x6 K18 hK18 K44 hK44 M19
def l_X10_together_18 (x1 : Int32) (x2 : Int32) (x3 : Int32) (x4 : Int32) (K18 : Int32 × Mem → Option (Int32 × Mem)) : Int32 × Mem → Option (Int32 × Mem) := fun s => match s with
  | (x5, M) => if (M 5 0) ≤ x5 then some (0, M) else if ¬ (p_X10_has x1 x5) = 0 then loopC (l_X10_together_44 x1 x2 x3 x4 x5 K18) fuelL (0, M) else j_X10_together_148 x1 x2 x3 x4 x5 K18 M
set_option maxRecDepth 20000 in
set_option maxHeartbeats 2000000 in
theorem lo_X10_together_18 (d : Nat) (hlev : 2 ≤ d) (x1 : Int32) (x2 : Int32) (x3 : Int32) (x4 : Int32) (s : Int32 × Mem) : CorM KSm ST1 RX10 cX10_together 7 none d 18 [(0, .inr 0), (1, .inl x1), (2, .inl x2), (3, .inl x3), (4, .inl x4), (5, .inl s.1)] [] s.2 (loopC (l_X10_together_18 x1 x2 x3 x4) fuelL s) := by
  refine c_loop (L := fun s : Int32 × Mem => [(0, .inr 0), (1, .inl x1), (2, .inl x2), (3, .inl x3), (4, .inl x4), (5, .inl s.1)]) (Mf := fun s : Int32 × Mem => s.2) (fun K18 hK18 s => ?_) fuelL s
  obtain ⟨x5, M⟩ := s
  show CorM KSm ST1 RX10 cX10_together 7 none d 18 [(0, .inr 0), (1, .inl x1), (2, .inl x2), (3, .inl x3), (4, .inl x4), (5, .inl x5)] [] M (l_X10_together_18 x1 x2 x3 x4 K18 (x5, M))
  unfold l_X10_together_18
  refine c_iload dX10_together_18 rfl ?_
  refine c_aload_n (i := 0) dX10_together_20 rfl rfl ?_
  refine gf_RX10_23 (blk_get0 KSm_b0) dX10_together_21 ?_
  refine c_iconst dX10_together_24 (v := 0) rfl ?_
  refine c_iald (blk_get0 (blk_sub (C := [(20, 290)]) (i := 5) KSm_b0 rfl)) (by decide) dX10_together_25 ?_
  refine c_icmp_ge (tgt := 154) dX10_together_26 rfl (fun h5 => ?_) (fun h5 => ?_)
  · exact c_vret rfl dX10_together_154
  · refine c_iload_n (i := 1) dX10_together_29 rfl rfl ?_
    refine c_iload dX10_together_30 rfl ?_
    refine c_callSp (as := [.inl x1, .inl x5]) (rs := []) (ev_X10_has 0 (Nat.le_refl _) x1 x5 M) rfl (Nat.lt_of_lt_of_le (by decide) hlev) mw_X10_has ws_X10_has wl_RX10_169 mn_X10_has rfl (by decide) (Nat.le_of_ble_eq_true rfl) ⟨_, rfl⟩ dX10_together_32 ?_
    refine c_if_ne (tgt := 41) dX10_together_35 rfl (fun h6 => ?_) (fun h6 => ?_)
    · refine c_iconst dX10_together_41 (v := 0) rfl ?_
      refine c_istore dX10_together_42 (by decide) (ls2 := [(0, .inr 0), (1, .inl x1), (2, .inl x2), (3, .inl x3), (4, .inl x4), (5, .inl x5), (6, .inl 0)]) rfl ?_
      refine c_keep [0, 1, 2, 3, 4, 5, 6] (ls2 := [(0, .inr 0), (1, .inl x1), (2, .inl x2), (3, .inl x3), (4, .inl x4), (5, .inl x5), (6, .inl 0)]) rfl ?_
      exact lo_X10_together_44 d hlev x1 x2 x3 x4 x5 K18 hK18 (0, M)
    · refine c_goto (tgt := 148) dX10_together_38 rfl ?_
      refine c_keep [0, 1, 2, 3, 4, 5] (ls2 := [(0, .inr 0), (1, .inl x1), (2, .inl x2), (3, .inl x3), (4, .inl x4), (5, .inl x5)]) rfl ?_
      exact jo_X10_together_148 d hlev x1 x2 x3 x4 x5 K18 hK18 M
def f_X10_together (x1 : Int32) (x2 : Int32) (M : Mem) : Option (Int32 × Mem) := bnd (f_X10_lowest x1 M) (fun v1 M2 => bnd (f_X10_told x2 1 M2) (fun v3 M4 => loopC (l_X10_together_18 x1 x2 v1 v3) fuelL (v1 + 1, M4)))
set_option maxRecDepth 20000 in
set_option maxHeartbeats 2000000 in
theorem ev_X10_together (d : Nat) (hlev : 2 ≤ d) (x1 : Int32) (x2 : Int32) (M : Mem) : Ev KSm ST1 mdX10_together d [.inr 0, .inl x1, .inl x2] M (f_X10_together x1 x2 M) := by
  refine ev_of rfl (Nat.le_of_ble_eq_true rfl) ?_
  show CorM KSm ST1 RX10 cX10_together 7 none d 0 [(0, .inr 0), (1, .inl x1), (2, .inl x2)] [] M (f_X10_together x1 x2 M)
  unfold f_X10_together
  refine c_iload_n (i := 1) dX10_together_0 rfl rfl ?_
  refine c_callS (as := [.inl x1]) (rs := []) (ev_X10_lowest 1 (Nat.le_refl _) x1 M) rfl (Nat.lt_of_lt_of_le (by decide) hlev) mw_X10_lowest ws_X10_lowest wl_RX10_263 mn_X10_lowest rfl (by decide) (Nat.le_of_ble_eq_true rfl) ⟨_, rfl⟩ dX10_together_1 (fun v1 M2 _ => ?_)
  refine c_istore_n (i := 3) dX10_together_4 rfl (by decide) (ls2 := [(0, .inr 0), (1, .inl x1), (2, .inl x2), (3, .inl v1)]) rfl ?_
  refine c_aload_n (i := 0) dX10_together_5 rfl rfl ?_
  refine c_iload_n (i := 2) dX10_together_6 rfl rfl ?_
  refine c_iconst dX10_together_7 (v := 1) rfl ?_
  refine c_callV (as := [.inl x2, .inl 1]) (rs := []) (ev_X10_told 0 (Nat.le_refl _) x2 1 M2) rfl (Nat.lt_of_lt_of_le (by decide) hlev) mw_X10_told wi_X10_told wv_X10_told (blk_get0 KSm_b0) (by decide) rfl wl_RX10_233 mn_X10_told rfl (by decide) (Nat.le_of_ble_eq_true rfl) ⟨_, rfl⟩ dX10_together_8 (fun v3 M4 _ => ?_)
  refine c_istore dX10_together_11 (by decide) (ls2 := [(0, .inr 0), (1, .inl x1), (2, .inl x2), (3, .inl v1), (4, .inl v3)]) rfl ?_
  refine c_iload_n (i := 3) dX10_together_13 rfl rfl ?_
  refine c_iconst dX10_together_14 (v := 1) rfl ?_
  refine c_iadd dX10_together_15 ?_
  refine c_istore dX10_together_16 (by decide) (ls2 := [(0, .inr 0), (1, .inl x1), (2, .inl x2), (3, .inl v1), (4, .inl v3), (5, .inl (v1 + 1))]) rfl ?_
  refine c_keep [0, 1, 2, 3, 4, 5] (ls2 := [(0, .inr 0), (1, .inl x1), (2, .inl x2), (3, .inl v1), (4, .inl v3), (5, .inl (v1 + 1))]) rfl ?_
  exact lo_X10_together_18 d hlev x1 x2 v1 v3 (v1 + 1, M4)

abbrev mdX10_computes : MD := (yX10_computes, cX10_computes, 5, none)
theorem mw_X10_computes : mdW mdX10_computes := ⟨wm_X10_computes, w0_RX10, by decide, by decide⟩
theorem mn_X10_computes : (parseMethodDescriptor yX10_computes.desc).map (fun d => d.parameters.length) = some 1 := by decide +kernel
def j_X10_computes_76 (x1 : Int32) (x2 : Int32) (x3 : Int32) (x4 : Int32) (K12 : Int32 × Mem → Option (Int32 × Mem)) (K49 : Int32 × Mem → Option (Int32 × Mem)) (M : Mem) : Option (Int32 × Mem) := K49 (x4 + 1, M)
set_option maxRecDepth 20000 in
set_option maxHeartbeats 2000000 in
theorem jo_X10_computes_76 (d : Nat) (hlev : 3 ≤ d) (x1 : Int32) (x2 : Int32) (x3 : Int32) (x4 : Int32) (K12 : Int32 × Mem → Option (Int32 × Mem)) (hK12 : ∀ s : Int32 × Mem, CorM KSm ST1 RX10 cX10_computes 5 none d 12 [(0, .inr 0), (1, .inl x1), (2, .inl x2), (3, .inl s.1)] [] s.2 (K12 s)) (K49 : Int32 × Mem → Option (Int32 × Mem)) (hK49 : ∀ s : Int32 × Mem, CorM KSm ST1 RX10 cX10_computes 5 none d 49 [(0, .inr 0), (1, .inl x1), (2, .inl x2), (3, .inl x3), (4, .inl s.1)] [] s.2 (K49 s)) (M : Mem) : CorM KSm ST1 RX10 cX10_computes 5 none d 76 [(0, .inr 0), (1, .inl x1), (2, .inl x2), (3, .inl x3), (4, .inl x4)] [] M (j_X10_computes_76 x1 x2 x3 x4 K12 K49 M) := by
  unfold j_X10_computes_76
  refine c_iinc dX10_computes_76 rfl (v := 1) rfl (by decide) (ls2 := [(0, .inr 0), (1, .inl x1), (2, .inl x2), (3, .inl x3), (4, .inl (x4 + 1))]) rfl ?_
  refine c_goto (tgt := 49) dX10_computes_79 rfl ?_
  refine c_keep [0, 1, 2, 3, 4] (ls2 := [(0, .inr 0), (1, .inl x1), (2, .inl x2), (3, .inl x3), (4, .inl (x4 + 1))]) rfl ?_
  exact hK49 (x4 + 1, M)
def l_X10_computes_49 (x1 : Int32) (x2 : Int32) (x3 : Int32) (K12 : Int32 × Mem → Option (Int32 × Mem)) (K49 : Int32 × Mem → Option (Int32 × Mem)) : Int32 × Mem → Option (Int32 × Mem) := fun s => match s with
  | (x4, M) => if (M 5 0) ≤ x4 then K12 (x3 + 1, M) else if (p_X10_has x2 x4) = 0 then j_X10_computes_76 x1 x2 x3 x4 K12 K49 M else bnd (f_X10_values x4 x3 M) (fun _ M16 => j_X10_computes_76 x1 x2 x3 x4 K12 K49 M16)
set_option maxRecDepth 20000 in
set_option maxHeartbeats 2000000 in
theorem lo_X10_computes_49 (d : Nat) (hlev : 3 ≤ d) (x1 : Int32) (x2 : Int32) (x3 : Int32) (K12 : Int32 × Mem → Option (Int32 × Mem)) (hK12 : ∀ s : Int32 × Mem, CorM KSm ST1 RX10 cX10_computes 5 none d 12 [(0, .inr 0), (1, .inl x1), (2, .inl x2), (3, .inl s.1)] [] s.2 (K12 s)) (s : Int32 × Mem) : CorM KSm ST1 RX10 cX10_computes 5 none d 49 [(0, .inr 0), (1, .inl x1), (2, .inl x2), (3, .inl x3), (4, .inl s.1)] [] s.2 (loopC (l_X10_computes_49 x1 x2 x3 K12) fuelL s) := by
  refine c_loop (L := fun s : Int32 × Mem => [(0, .inr 0), (1, .inl x1), (2, .inl x2), (3, .inl x3), (4, .inl s.1)]) (Mf := fun s : Int32 × Mem => s.2) (fun K49 hK49 s => ?_) fuelL s
  obtain ⟨x4, M⟩ := s
  show CorM KSm ST1 RX10 cX10_computes 5 none d 49 [(0, .inr 0), (1, .inl x1), (2, .inl x2), (3, .inl x3), (4, .inl x4)] [] M (l_X10_computes_49 x1 x2 x3 K12 K49 (x4, M))
  unfold l_X10_computes_49
  refine c_iload dX10_computes_49 rfl ?_
  refine c_aload_n (i := 0) dX10_computes_51 rfl rfl ?_
  refine gf_RX10_23 (blk_get0 KSm_b0) dX10_computes_52 ?_
  refine c_iconst dX10_computes_55 (v := 0) rfl ?_
  refine c_iald (blk_get0 (blk_sub (C := [(20, 290)]) (i := 5) KSm_b0 rfl)) (by decide) dX10_computes_56 ?_
  refine c_icmp_ge (tgt := 82) dX10_computes_57 rfl (fun h13 => ?_) (fun h13 => ?_)
  · refine c_iinc dX10_computes_82 rfl (v := 1) rfl (by decide) (ls2 := [(0, .inr 0), (1, .inl x1), (2, .inl x2), (3, .inl (x3 + 1)), (4, .inl x4)]) rfl ?_
    refine c_goto (tgt := 12) dX10_computes_85 rfl ?_
    refine c_keep [0, 1, 2, 3] (ls2 := [(0, .inr 0), (1, .inl x1), (2, .inl x2), (3, .inl (x3 + 1))]) rfl ?_
    exact hK12 (x3 + 1, M)
  · refine c_iload_n (i := 2) dX10_computes_60 rfl rfl ?_
    refine c_iload dX10_computes_61 rfl ?_
    refine c_callSp (as := [.inl x2, .inl x4]) (rs := []) (ev_X10_has 0 (Nat.le_refl _) x2 x4 M) rfl (Nat.lt_of_lt_of_le (by decide) hlev) mw_X10_has ws_X10_has wl_RX10_169 mn_X10_has rfl (by decide) (Nat.le_of_ble_eq_true rfl) ⟨_, rfl⟩ dX10_computes_63 ?_
    refine c_if_eq (tgt := 76) dX10_computes_66 rfl (fun h14 => ?_) (fun h14 => ?_)
    · refine c_keep [0, 1, 2, 3, 4] (ls2 := [(0, .inr 0), (1, .inl x1), (2, .inl x2), (3, .inl x3), (4, .inl x4)]) rfl ?_
      exact jo_X10_computes_76 d hlev x1 x2 x3 x4 K12 hK12 K49 hK49 M
    · refine c_aload_n (i := 0) dX10_computes_69 rfl rfl ?_
      refine c_iload dX10_computes_70 rfl ?_
      refine c_iload_n (i := 3) dX10_computes_72 rfl rfl ?_
      refine c_callVv (as := [.inl x4, .inl x3]) (rs := []) (ev_X10_values 2 (Nat.le_refl _) x4 x3 M) rfl (Nat.lt_of_lt_of_le (by decide) hlev) mw_X10_values wi_X10_values wv_X10_values (blk_get0 KSm_b0) (by decide) rfl wl_RX10_273 mn_X10_values rfl (by decide) (Nat.le_of_ble_eq_true rfl) rfl dX10_computes_73 (fun v15 M16 _ => ?_)
      refine c_keep [0, 1, 2, 3, 4] (ls2 := [(0, .inr 0), (1, .inl x1), (2, .inl x2), (3, .inl x3), (4, .inl x4)]) rfl ?_
      exact jo_X10_computes_76 d hlev x1 x2 x3 x4 K12 hK12 K49 hK49 M16
def j_X10_computes_46 (x1 : Int32) (x2 : Int32) (x3 : Int32) (K12 : Int32 × Mem → Option (Int32 × Mem)) (M : Mem) : Option (Int32 × Mem) := loopC (l_X10_computes_49 x1 x2 x3 K12) fuelL (0, M)
set_option maxRecDepth 20000 in
set_option maxHeartbeats 2000000 in
theorem jo_X10_computes_46 (d : Nat) (hlev : 3 ≤ d) (x1 : Int32) (x2 : Int32) (x3 : Int32) (K12 : Int32 × Mem → Option (Int32 × Mem)) (hK12 : ∀ s : Int32 × Mem, CorM KSm ST1 RX10 cX10_computes 5 none d 12 [(0, .inr 0), (1, .inl x1), (2, .inl x2), (3, .inl s.1)] [] s.2 (K12 s)) (M : Mem) : CorM KSm ST1 RX10 cX10_computes 5 none d 46 [(0, .inr 0), (1, .inl x1), (2, .inl x2), (3, .inl x3)] [] M (j_X10_computes_46 x1 x2 x3 K12 M) := by
  unfold j_X10_computes_46
  refine c_iconst dX10_computes_46 (v := 0) rfl ?_
  refine c_istore dX10_computes_47 (by decide) (ls2 := [(0, .inr 0), (1, .inl x1), (2, .inl x2), (3, .inl x3), (4, .inl 0)]) rfl ?_
  refine c_keep [0, 1, 2, 3, 4] (ls2 := [(0, .inr 0), (1, .inl x1), (2, .inl x2), (3, .inl x3), (4, .inl 0)]) rfl ?_
  exact lo_X10_computes_49 d hlev x1 x2 x3 K12 hK12 (0, M)
def j_X10_computes_40 (x1 : Int32) (x2 : Int32) (x3 : Int32) (K12 : Int32 × Mem → Option (Int32 × Mem)) (M : Mem) : Option (Int32 × Mem) := bnd (f_X10_together x2 x3 M) (fun _ M12 => j_X10_computes_46 x1 x2 x3 K12 M12)
set_option maxRecDepth 20000 in
set_option maxHeartbeats 2000000 in
theorem jo_X10_computes_40 (d : Nat) (hlev : 3 ≤ d) (x1 : Int32) (x2 : Int32) (x3 : Int32) (K12 : Int32 × Mem → Option (Int32 × Mem)) (hK12 : ∀ s : Int32 × Mem, CorM KSm ST1 RX10 cX10_computes 5 none d 12 [(0, .inr 0), (1, .inl x1), (2, .inl x2), (3, .inl s.1)] [] s.2 (K12 s)) (M : Mem) : CorM KSm ST1 RX10 cX10_computes 5 none d 40 [(0, .inr 0), (1, .inl x1), (2, .inl x2), (3, .inl x3)] [] M (j_X10_computes_40 x1 x2 x3 K12 M) := by
  unfold j_X10_computes_40
  refine c_aload_n (i := 0) dX10_computes_40 rfl rfl ?_
  refine c_iload_n (i := 2) dX10_computes_41 rfl rfl ?_
  refine c_iload_n (i := 3) dX10_computes_42 rfl rfl ?_
  refine c_callVv (as := [.inl x2, .inl x3]) (rs := []) (ev_X10_together 2 (Nat.le_refl _) x2 x3 M) rfl (Nat.lt_of_lt_of_le (by decide) hlev) mw_X10_together wi_X10_together wv_X10_together (blk_get0 KSm_b0) (by decide) rfl wl_RX10_269 mn_X10_together rfl (by decide) (Nat.le_of_ble_eq_true rfl) rfl dX10_computes_43 (fun v11 M12 _ => ?_)
  refine c_keep [0, 1, 2, 3] (ls2 := [(0, .inr 0), (1, .inl x1), (2, .inl x2), (3, .inl x3)]) rfl ?_
  exact jo_X10_computes_46 d hlev x1 x2 x3 K12 hK12 M12
def l_X10_computes_12 (x1 : Int32) (x2 : Int32) (K12 : Int32 × Mem → Option (Int32 × Mem)) : Int32 × Mem → Option (Int32 × Mem) := fun s => match s with
  | (x3, M) => bnd (f_X10_endOf x1 M) (fun v5 M6 => if v5 ≤ x3 then some (0, M6) else bnd (f_X10_kindOf x3 M6) (fun v8 M9 => if v8 = 4 then j_X10_computes_40 x1 x2 x3 K12 M9 else bnd (f_X10_kindOf x3 M9) (fun v17 M18 => if ¬ v17 = 6 then j_X10_computes_46 x1 x2 x3 K12 M18 else j_X10_computes_40 x1 x2 x3 K12 M18)))
set_option maxRecDepth 20000 in
set_option maxHeartbeats 2000000 in
theorem lo_X10_computes_12 (d : Nat) (hlev : 3 ≤ d) (x1 : Int32) (x2 : Int32) (s : Int32 × Mem) : CorM KSm ST1 RX10 cX10_computes 5 none d 12 [(0, .inr 0), (1, .inl x1), (2, .inl x2), (3, .inl s.1)] [] s.2 (loopC (l_X10_computes_12 x1 x2) fuelL s) := by
  refine c_loop (L := fun s : Int32 × Mem => [(0, .inr 0), (1, .inl x1), (2, .inl x2), (3, .inl s.1)]) (Mf := fun s : Int32 × Mem => s.2) (fun K12 hK12 s => ?_) fuelL s
  obtain ⟨x3, M⟩ := s
  show CorM KSm ST1 RX10 cX10_computes 5 none d 12 [(0, .inr 0), (1, .inl x1), (2, .inl x2), (3, .inl x3)] [] M (l_X10_computes_12 x1 x2 K12 (x3, M))
  unfold l_X10_computes_12
  refine c_iload_n (i := 3) dX10_computes_12 rfl rfl ?_
  refine c_aload_n (i := 0) dX10_computes_13 rfl rfl ?_
  refine c_iload_n (i := 1) dX10_computes_14 rfl rfl ?_
  refine c_callV (as := [.inl x1]) (rs := [.inl x3]) (ev_X10_endOf 1 (Nat.le_refl _) x1 M) rfl (Nat.lt_of_lt_of_le (by decide) hlev) mw_X10_endOf wi_X10_endOf wv_X10_endOf (blk_get0 KSm_b0) (by decide) rfl wl_RX10_266 mn_X10_endOf rfl (by decide) (Nat.le_of_ble_eq_true rfl) ⟨_, rfl⟩ dX10_computes_15 (fun v5 M6 _ => ?_)
  refine c_icmp_ge (tgt := 88) dX10_computes_18 rfl (fun h7 => ?_) (fun h7 => ?_)
  · exact c_vret rfl dX10_computes_88
  · refine c_aload_n (i := 0) dX10_computes_21 rfl rfl ?_
    refine c_iload_n (i := 3) dX10_computes_22 rfl rfl ?_
    refine c_callV (as := [.inl x3]) (rs := []) (ev_X10_kindOf 1 (Nat.le_refl _) x3 M6) rfl (Nat.lt_of_lt_of_le (by decide) hlev) mw_X10_kindOf wi_X10_kindOf wv_X10_kindOf (blk_get0 KSm_b0) (by decide) rfl wl_RX10_254 mn_X10_kindOf rfl (by decide) (Nat.le_of_ble_eq_true rfl) ⟨_, rfl⟩ dX10_computes_23 (fun v8 M9 _ => ?_)
    refine c_iconst dX10_computes_26 (v := 4) rfl ?_
    refine c_icmp_eq (tgt := 40) dX10_computes_27 rfl (fun h10 => ?_) (fun h10 => ?_)
    · refine c_keep [0, 1, 2, 3] (ls2 := [(0, .inr 0), (1, .inl x1), (2, .inl x2), (3, .inl x3)]) rfl ?_
      exact jo_X10_computes_40 d hlev x1 x2 x3 K12 hK12 M9
    · refine c_aload_n (i := 0) dX10_computes_30 rfl rfl ?_
      refine c_iload_n (i := 3) dX10_computes_31 rfl rfl ?_
      refine c_callV (as := [.inl x3]) (rs := []) (ev_X10_kindOf 1 (Nat.le_refl _) x3 M9) rfl (Nat.lt_of_lt_of_le (by decide) hlev) mw_X10_kindOf wi_X10_kindOf wv_X10_kindOf (blk_get0 KSm_b0) (by decide) rfl wl_RX10_254 mn_X10_kindOf rfl (by decide) (Nat.le_of_ble_eq_true rfl) ⟨_, rfl⟩ dX10_computes_32 (fun v17 M18 _ => ?_)
      refine c_bipush dX10_computes_35 (v := 6) rfl ?_
      refine c_icmp_ne (tgt := 46) dX10_computes_37 rfl (fun h19 => ?_) (fun h19 => ?_)
      · refine c_keep [0, 1, 2, 3] (ls2 := [(0, .inr 0), (1, .inl x1), (2, .inl x2), (3, .inl x3)]) rfl ?_
        exact jo_X10_computes_46 d hlev x1 x2 x3 K12 hK12 M18
      · refine c_keep [0, 1, 2, 3] (ls2 := [(0, .inr 0), (1, .inl x1), (2, .inl x2), (3, .inl x3)]) rfl ?_
        exact jo_X10_computes_40 d hlev x1 x2 x3 K12 hK12 M18
def f_X10_computes (x1 : Int32) (M : Mem) : Option (Int32 × Mem) := bnd (f_X10_banksOf x1 M) (fun v1 M2 => bnd (f_X10_firstOf x1 M2) (fun v3 M4 => loopC (l_X10_computes_12 x1 v1) fuelL (v3, M4)))
set_option maxRecDepth 20000 in
set_option maxHeartbeats 2000000 in
theorem ev_X10_computes (d : Nat) (hlev : 3 ≤ d) (x1 : Int32) (M : Mem) : Ev KSm ST1 mdX10_computes d [.inr 0, .inl x1] M (f_X10_computes x1 M) := by
  refine ev_of rfl (Nat.le_of_ble_eq_true rfl) ?_
  show CorM KSm ST1 RX10 cX10_computes 5 none d 0 [(0, .inr 0), (1, .inl x1)] [] M (f_X10_computes x1 M)
  unfold f_X10_computes
  refine c_aload_n (i := 0) dX10_computes_0 rfl rfl ?_
  refine c_iload_n (i := 1) dX10_computes_1 rfl rfl ?_
  refine c_callV (as := [.inl x1]) (rs := []) (ev_X10_banksOf 0 (Nat.le_refl _) x1 M) rfl (Nat.lt_of_lt_of_le (by decide) hlev) mw_X10_banksOf wi_X10_banksOf wv_X10_banksOf (blk_get0 KSm_b0) (by decide) rfl wl_RX10_238 mn_X10_banksOf rfl (by decide) (Nat.le_of_ble_eq_true rfl) ⟨_, rfl⟩ dX10_computes_2 (fun v1 M2 _ => ?_)
  refine c_istore_n (i := 2) dX10_computes_5 rfl (by decide) (ls2 := [(0, .inr 0), (1, .inl x1), (2, .inl v1)]) rfl ?_
  refine c_aload_n (i := 0) dX10_computes_6 rfl rfl ?_
  refine c_iload_n (i := 1) dX10_computes_7 rfl rfl ?_
  refine c_callV (as := [.inl x1]) (rs := []) (ev_X10_firstOf 0 (Nat.le_refl _) x1 M2) rfl (Nat.lt_of_lt_of_le (by decide) hlev) mw_X10_firstOf wi_X10_firstOf wv_X10_firstOf (blk_get0 KSm_b0) (by decide) rfl wl_RX10_230 mn_X10_firstOf rfl (by decide) (Nat.le_of_ble_eq_true rfl) ⟨_, rfl⟩ dX10_computes_8 (fun v3 M4 _ => ?_)
  refine c_istore_n (i := 3) dX10_computes_11 rfl (by decide) (ls2 := [(0, .inr 0), (1, .inl x1), (2, .inl v1), (3, .inl v3)]) rfl ?_
  refine c_keep [0, 1, 2, 3] (ls2 := [(0, .inr 0), (1, .inl x1), (2, .inl v1), (3, .inl v3)]) rfl ?_
  exact lo_X10_computes_12 d hlev x1 v1 (v3, M4)

abbrev mdX10_greater : MD := (yX10_greater, cX10_greater, 2, (some .int))
theorem mw_X10_greater : mdW mdX10_greater := ⟨wm_X10_greater, w0_RX10, by decide, by decide⟩
theorem mn_X10_greater : (parseMethodDescriptor yX10_greater.desc).map (fun d => d.parameters.length) = some 2 := by decide +kernel
def p_X10_greater (x0 : Int32) (x1 : Int32) : Int32 := (if x0 ≤ x1 then x1 else x0)
set_option maxRecDepth 20000 in
set_option maxHeartbeats 2000000 in
theorem ev_X10_greater (d : Nat) (hlev : 0 ≤ d) (x0 : Int32) (x1 : Int32) (M : Mem) : Ev KSm ST1 mdX10_greater d [.inl x0, .inl x1] M (some (p_X10_greater x0 x1, M)) := by
  refine ev_of rfl (Nat.le_of_ble_eq_true rfl) ?_
  show CorM KSm ST1 RX10 cX10_greater 2 (some .int) d 0 [(0, .inl x0), (1, .inl x1)] [] M (some (p_X10_greater x0 x1, M))
  unfold p_X10_greater
  refine c_iload_n (i := 0) dX10_greater_0 rfl rfl ?_
  refine c_iload_n (i := 1) dX10_greater_1 rfl rfl ?_
  have J_z1 : ∀ z1 : Int32, CorM KSm ST1 RX10 cX10_greater 2 (some .int) d 10 [] [.inl z1] M (some (z1, M)) := by
    intro z1
    exact c_iret rfl dX10_greater_10
  refine c_val (b := x0 ≤ x1) (v1 := x1) (v2 := x0) (F := fun z1 => some (z1, M)) (fun h2 => ?_) (fun h2 => ?_)
  · refine c_T h2 (c_icmp_le (tgt := 9) dX10_greater_2 rfl (fun _ => ?_) (fun q => absurd h2 q))
    refine c_iload_n (i := 1) dX10_greater_9 rfl rfl ?_
    refine c_keep [] (ls2 := []) rfl ?_
    exact J_z1 x1
  · refine c_Fl h2 (c_icmp_le (tgt := 9) dX10_greater_2 rfl (fun q => absurd q h2) (fun _ => ?_))
    refine c_iload_n (i := 0) dX10_greater_5 rfl rfl ?_
    refine c_goto (tgt := 10) dX10_greater_6 rfl ?_
    refine c_keep [] (ls2 := []) rfl ?_
    exact J_z1 x0

abbrev mdX10_halvings : MD := (yX10_halvings, cX10_halvings, 2, (some .int))
theorem mw_X10_halvings : mdW mdX10_halvings := ⟨wm_X10_halvings, w0_RX10, by decide, by decide⟩
theorem mn_X10_halvings : (parseMethodDescriptor yX10_halvings.desc).map (fun d => d.parameters.length) = some 1 := by decide +kernel
def l_X10_halvings_2 (x0 : Int32) (K2 : Int32 × Mem → Option (Int32 × Mem)) : Int32 × Mem → Option (Int32 × Mem) := fun s => match s with
  | (x1, M) => if x0 ≤ (1 <<< (x1 &&& 31)) then some (x1, M) else K2 (x1 + 1, M)
set_option maxRecDepth 20000 in
set_option maxHeartbeats 2000000 in
theorem lo_X10_halvings_2 (d : Nat) (hlev : 0 ≤ d) (x0 : Int32) (s : Int32 × Mem) : CorM KSm ST1 RX10 cX10_halvings 2 (some .int) d 2 [(0, .inl x0), (1, .inl s.1)] [] s.2 (loopC (l_X10_halvings_2 x0) fuelL s) := by
  refine c_loop (L := fun s : Int32 × Mem => [(0, .inl x0), (1, .inl s.1)]) (Mf := fun s : Int32 × Mem => s.2) (fun K2 hK2 s => ?_) fuelL s
  obtain ⟨x1, M⟩ := s
  show CorM KSm ST1 RX10 cX10_halvings 2 (some .int) d 2 [(0, .inl x0), (1, .inl x1)] [] M (l_X10_halvings_2 x0 K2 (x1, M))
  unfold l_X10_halvings_2
  refine c_iconst dX10_halvings_2 (v := 1) rfl ?_
  refine c_iload_n (i := 1) dX10_halvings_3 rfl rfl ?_
  refine c_ishl dX10_halvings_4 ?_
  refine c_iload_n (i := 0) dX10_halvings_5 rfl rfl ?_
  refine c_icmp_ge (tgt := 15) dX10_halvings_6 rfl (fun h1 => ?_) (fun h1 => ?_)
  · refine c_iload_n (i := 1) dX10_halvings_15 rfl rfl ?_
    exact c_iret rfl dX10_halvings_16
  · refine c_iinc dX10_halvings_9 rfl (v := 1) rfl (by decide) (ls2 := [(0, .inl x0), (1, .inl (x1 + 1))]) rfl ?_
    refine c_goto (tgt := 2) dX10_halvings_12 rfl ?_
    refine c_keep [0, 1] (ls2 := [(0, .inl x0), (1, .inl (x1 + 1))]) rfl ?_
    exact hK2 (x1 + 1, M)
def f_X10_halvings (x0 : Int32) (M : Mem) : Option (Int32 × Mem) := loopC (l_X10_halvings_2 x0) fuelL (0, M)
set_option maxRecDepth 20000 in
set_option maxHeartbeats 2000000 in
theorem ev_X10_halvings (d : Nat) (hlev : 0 ≤ d) (x0 : Int32) (M : Mem) : Ev KSm ST1 mdX10_halvings d [.inl x0] M (f_X10_halvings x0 M) := by
  refine ev_of rfl (Nat.le_of_ble_eq_true rfl) ?_
  show CorM KSm ST1 RX10 cX10_halvings 2 (some .int) d 0 [(0, .inl x0)] [] M (f_X10_halvings x0 M)
  unfold f_X10_halvings
  refine c_iconst dX10_halvings_0 (v := 0) rfl ?_
  refine c_istore_n (i := 1) dX10_halvings_1 rfl (by decide) (ls2 := [(0, .inl x0), (1, .inl 0)]) rfl ?_
  refine c_keep [0, 1] (ls2 := [(0, .inl x0), (1, .inl 0)]) rfl ?_
  exact lo_X10_halvings_2 d hlev x0 (0, M)

abbrev mdX10_bits : MD := (yX10_bits, cX10_bits, 3, (some .int))
theorem mw_X10_bits : mdW mdX10_bits := ⟨wm_X10_bits, w0_RX10, by decide, by decide⟩
theorem mn_X10_bits : (parseMethodDescriptor yX10_bits.desc).map (fun d => d.parameters.length) = some 1 := by decide +kernel
def l_X10_bits_4 (x0 : Int32) (K4 : Int32 × Int32 × Mem → Option (Int32 × Mem)) : Int32 × Int32 × Mem → Option (Int32 × Mem) := fun s => match s with
  | (x1, x2, M) => if 8 ≤ x2 then some (x1, M) else K4 (x1 + ((x0 >>> (x2 &&& 31)) &&& 1), x2 + 1, M)
set_option maxRecDepth 20000 in
set_option maxHeartbeats 2000000 in
theorem lo_X10_bits_4 (d : Nat) (hlev : 0 ≤ d) (x0 : Int32) (s : Int32 × Int32 × Mem) : CorM KSm ST1 RX10 cX10_bits 3 (some .int) d 4 [(0, .inl x0), (1, .inl s.1), (2, .inl s.2.1)] [] s.2.2 (loopC (l_X10_bits_4 x0) fuelL s) := by
  refine c_loop (L := fun s : Int32 × Int32 × Mem => [(0, .inl x0), (1, .inl s.1), (2, .inl s.2.1)]) (Mf := fun s : Int32 × Int32 × Mem => s.2.2) (fun K4 hK4 s => ?_) fuelL s
  obtain ⟨x1, x2, M⟩ := s
  show CorM KSm ST1 RX10 cX10_bits 3 (some .int) d 4 [(0, .inl x0), (1, .inl x1), (2, .inl x2)] [] M (l_X10_bits_4 x0 K4 (x1, x2, M))
  unfold l_X10_bits_4
  refine c_iload_n (i := 2) dX10_bits_4 rfl rfl ?_
  refine c_bipush dX10_bits_5 (v := 8) rfl ?_
  refine c_icmp_ge (tgt := 24) dX10_bits_7 rfl (fun h1 => ?_) (fun h1 => ?_)
  · refine c_iload_n (i := 1) dX10_bits_24 rfl rfl ?_
    exact c_iret rfl dX10_bits_25
  · refine c_iload_n (i := 1) dX10_bits_10 rfl rfl ?_
    refine c_iload_n (i := 0) dX10_bits_11 rfl rfl ?_
    refine c_iload_n (i := 2) dX10_bits_12 rfl rfl ?_
    refine c_ishr dX10_bits_13 ?_
    refine c_iconst dX10_bits_14 (v := 1) rfl ?_
    refine c_iand dX10_bits_15 ?_
    refine c_iadd dX10_bits_16 ?_
    refine c_istore_n (i := 1) dX10_bits_17 rfl (by decide) (ls2 := [(0, .inl x0), (1, .inl (x1 + ((x0 >>> (x2 &&& 31)) &&& 1))), (2, .inl x2)]) rfl ?_
    refine c_iinc dX10_bits_18 rfl (v := 1) rfl (by decide) (ls2 := [(0, .inl x0), (1, .inl (x1 + ((x0 >>> (x2 &&& 31)) &&& 1))), (2, .inl (x2 + 1))]) rfl ?_
    refine c_goto (tgt := 4) dX10_bits_21 rfl ?_
    refine c_keep [0, 1, 2] (ls2 := [(0, .inl x0), (1, .inl (x1 + ((x0 >>> (x2 &&& 31)) &&& 1))), (2, .inl (x2 + 1))]) rfl ?_
    exact hK4 (x1 + ((x0 >>> (x2 &&& 31)) &&& 1), x2 + 1, M)
def f_X10_bits (x0 : Int32) (M : Mem) : Option (Int32 × Mem) := loopC (l_X10_bits_4 x0) fuelL (0, 0, M)
set_option maxRecDepth 20000 in
set_option maxHeartbeats 2000000 in
theorem ev_X10_bits (d : Nat) (hlev : 0 ≤ d) (x0 : Int32) (M : Mem) : Ev KSm ST1 mdX10_bits d [.inl x0] M (f_X10_bits x0 M) := by
  refine ev_of rfl (Nat.le_of_ble_eq_true rfl) ?_
  show CorM KSm ST1 RX10 cX10_bits 3 (some .int) d 0 [(0, .inl x0)] [] M (f_X10_bits x0 M)
  unfold f_X10_bits
  refine c_iconst dX10_bits_0 (v := 0) rfl ?_
  refine c_istore_n (i := 1) dX10_bits_1 rfl (by decide) (ls2 := [(0, .inl x0), (1, .inl 0)]) rfl ?_
  refine c_iconst dX10_bits_2 (v := 0) rfl ?_
  refine c_istore_n (i := 2) dX10_bits_3 rfl (by decide) (ls2 := [(0, .inl x0), (1, .inl 0), (2, .inl 0)]) rfl ?_
  refine c_keep [0, 1, 2] (ls2 := [(0, .inl x0), (1, .inl 0), (2, .inl 0)]) rfl ?_
  exact lo_X10_bits_4 d hlev x0 (0, 0, M)

abbrev mdX10_readyOf : MD := (yX10_readyOf, cX10_readyOf, 3, (some .int))
theorem mw_X10_readyOf : mdW mdX10_readyOf := ⟨wm_X10_readyOf, w0_RX10, by decide, by decide⟩
theorem mn_X10_readyOf : (parseMethodDescriptor yX10_readyOf.desc).map (fun d => d.parameters.length) = some 2 := by decide +kernel
def f_X10_readyOf (x1 : Int32) (x2 : Int32) (M : Mem) : Option (Int32 × Mem) := if inb ((8 + (4 * x1)) + x2) 1671 then some (M 1 (ix ((8 + (4 * x1)) + x2)), M) else none
set_option maxRecDepth 20000 in
set_option maxHeartbeats 2000000 in
theorem ev_X10_readyOf (d : Nat) (hlev : 0 ≤ d) (x1 : Int32) (x2 : Int32) (M : Mem) : Ev KSm ST1 mdX10_readyOf d [.inr 0, .inl x1, .inl x2] M (f_X10_readyOf x1 x2 M) := by
  refine ev_of rfl (Nat.le_of_ble_eq_true rfl) ?_
  show CorM KSm ST1 RX10 cX10_readyOf 3 (some .int) d 0 [(0, .inr 0), (1, .inl x1), (2, .inl x2)] [] M (f_X10_readyOf x1 x2 M)
  unfold f_X10_readyOf
  refine c_aload_n (i := 0) dX10_readyOf_0 rfl rfl ?_
  refine gf_RX10_9 (blk_get0 KSm_b0) dX10_readyOf_1 ?_
  refine c_bipush dX10_readyOf_4 (v := 8) rfl ?_
  refine c_iconst dX10_readyOf_6 (v := 4) rfl ?_
  refine c_iload_n (i := 1) dX10_readyOf_7 rfl rfl ?_
  refine c_imul dX10_readyOf_8 ?_
  refine c_iadd dX10_readyOf_9 ?_
  refine c_iload_n (i := 2) dX10_readyOf_10 rfl rfl ?_
  refine c_iadd dX10_readyOf_11 ?_
  refine c_chk (fun h1 => ?_)
  refine c_iald (blk_get0 (blk_sub (C := [(20, 1671)]) (i := 1) KSm_b0 rfl)) h1 dX10_readyOf_12 ?_
  exact c_iret rfl dX10_readyOf_13

abbrev mdX10_stalls : MD := (yX10_stalls, cX10_stalls, 4, none)
theorem mw_X10_stalls : mdW mdX10_stalls := ⟨wm_X10_stalls, w0_RX10, by decide, by decide⟩
theorem mn_X10_stalls : (parseMethodDescriptor yX10_stalls.desc).map (fun d => d.parameters.length) = some 3 := by decide +kernel
def f_X10_stalls (x1 : Int32) (x2 : Int32) (x3 : Int32) (M : Mem) : Option (Int32 × Mem) := if inb ((120 + (4 * x1)) + x2) 1671 then if inb ((120 + (4 * x1)) + x2) 1671 then wrt (up M 1 (ix ((120 + (4 * x1)) + x2)) ((M 1 (ix ((120 + (4 * x1)) + x2))) + x3)) (fun M3 => some (0, M3)) else none else none
set_option maxRecDepth 20000 in
set_option maxHeartbeats 2000000 in
theorem ev_X10_stalls (d : Nat) (hlev : 0 ≤ d) (x1 : Int32) (x2 : Int32) (x3 : Int32) (M : Mem) : Ev KSm ST1 mdX10_stalls d [.inr 0, .inl x1, .inl x2, .inl x3] M (f_X10_stalls x1 x2 x3 M) := by
  refine ev_of rfl (Nat.le_of_ble_eq_true rfl) ?_
  show CorM KSm ST1 RX10 cX10_stalls 4 none d 0 [(0, .inr 0), (1, .inl x1), (2, .inl x2), (3, .inl x3)] [] M (f_X10_stalls x1 x2 x3 M)
  unfold f_X10_stalls
  refine c_aload_n (i := 0) dX10_stalls_0 rfl rfl ?_
  refine gf_RX10_9 (blk_get0 KSm_b0) dX10_stalls_1 ?_
  refine c_bipush dX10_stalls_4 (v := 120) rfl ?_
  refine c_iconst dX10_stalls_6 (v := 4) rfl ?_
  refine c_iload_n (i := 1) dX10_stalls_7 rfl rfl ?_
  refine c_imul dX10_stalls_8 ?_
  refine c_iadd dX10_stalls_9 ?_
  refine c_iload_n (i := 2) dX10_stalls_10 rfl rfl ?_
  refine c_iadd dX10_stalls_11 ?_
  refine c_dup2 dX10_stalls_12 ?_
  refine c_chk (fun h1 => ?_)
  refine c_iald (blk_get0 (blk_sub (C := [(20, 1671)]) (i := 1) KSm_b0 rfl)) h1 dX10_stalls_13 ?_
  refine c_iload_n (i := 3) dX10_stalls_14 rfl rfl ?_
  refine c_iadd dX10_stalls_15 ?_
  refine c_chk (fun h2 => ?_)
  refine c_iast (blk_get0 (blk_sub (C := [(20, 1671)]) (i := 1) KSm_b0 rfl)) h2 dX10_stalls_16 ?_
  refine c_wrt (fun M3 => ?_)
  exact c_vret rfl dX10_stalls_17

abbrev mdX10_startOf : MD := (yX10_startOf, cX10_startOf, 3, (some .int))
theorem mw_X10_startOf : mdW mdX10_startOf := ⟨wm_X10_startOf, w0_RX10, by decide, by decide⟩
theorem mn_X10_startOf : (parseMethodDescriptor yX10_startOf.desc).map (fun d => d.parameters.length) = some 2 := by decide +kernel
def f_X10_startOf (x1 : Int32) (x2 : Int32) (M : Mem) : Option (Int32 × Mem) := if inb (48 + x1) 1671 then if inb ((56 + (8 * x1)) + (jrem ((M 1 (ix (48 + x1))) - x2) 8)) 1671 then some (M 1 (ix ((56 + (8 * x1)) + (jrem ((M 1 (ix (48 + x1))) - x2) 8))), M) else none else none
set_option maxRecDepth 20000 in
set_option maxHeartbeats 2000000 in
theorem ev_X10_startOf (d : Nat) (hlev : 0 ≤ d) (x1 : Int32) (x2 : Int32) (M : Mem) : Ev KSm ST1 mdX10_startOf d [.inr 0, .inl x1, .inl x2] M (f_X10_startOf x1 x2 M) := by
  refine ev_of rfl (Nat.le_of_ble_eq_true rfl) ?_
  show CorM KSm ST1 RX10 cX10_startOf 3 (some .int) d 0 [(0, .inr 0), (1, .inl x1), (2, .inl x2)] [] M (f_X10_startOf x1 x2 M)
  unfold f_X10_startOf
  refine c_aload_n (i := 0) dX10_startOf_0 rfl rfl ?_
  refine gf_RX10_9 (blk_get0 KSm_b0) dX10_startOf_1 ?_
  refine c_bipush dX10_startOf_4 (v := 56) rfl ?_
  refine c_bipush dX10_startOf_6 (v := 8) rfl ?_
  refine c_iload_n (i := 1) dX10_startOf_8 rfl rfl ?_
  refine c_imul dX10_startOf_9 ?_
  refine c_iadd dX10_startOf_10 ?_
  refine c_aload_n (i := 0) dX10_startOf_11 rfl rfl ?_
  refine gf_RX10_9 (blk_get0 KSm_b0) dX10_startOf_12 ?_
  refine c_bipush dX10_startOf_15 (v := 48) rfl ?_
  refine c_iload_n (i := 1) dX10_startOf_17 rfl rfl ?_
  refine c_iadd dX10_startOf_18 ?_
  refine c_chk (fun h1 => ?_)
  refine c_iald (blk_get0 (blk_sub (C := [(20, 1671)]) (i := 1) KSm_b0 rfl)) h1 dX10_startOf_19 ?_
  refine c_iload_n (i := 2) dX10_startOf_20 rfl rfl ?_
  refine c_isub dX10_startOf_21 ?_
  refine c_bipush dX10_startOf_22 (v := 8) rfl ?_
  refine c_irem dX10_startOf_24 (by decide) ?_
  refine c_iadd dX10_startOf_25 ?_
  refine c_chk (fun h2 => ?_)
  refine c_iald (blk_get0 (blk_sub (C := [(20, 1671)]) (i := 1) KSm_b0 rfl)) h2 dX10_startOf_26 ?_
  exact c_iret rfl dX10_startOf_27
