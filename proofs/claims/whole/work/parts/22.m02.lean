abbrev mdX7_scan : MD := (yX7_scan, cX7_scan, 6, none)
theorem mw_X7_scan : mdW mdX7_scan := ⟨wm_X7_scan, w0_RX7, by decide, by decide⟩
theorem mn_X7_scan : (parseMethodDescriptor yX7_scan.desc).map (fun d => d.parameters.length) = some 2 := by decide +kernel
def j_X7_scan_104 (t1 : Nat) (x2 : Int32) (x3 : Int32) (K7 : Int32 × Mem → Option (Int32 × Mem)) (M : Mem) : Option (Int32 × Mem) := K7 (x3 + 1, M)
set_option maxRecDepth 20000 in
set_option maxHeartbeats 2000000 in
theorem jo_X7_scan_104 (d : Nat) (hlev : 7 ≤ d) (t1 : Nat) (h_t1 : KSx[t1]? = some (20, lenK KSx t1)) (x2 : Int32) (x3 : Int32) (K7 : Int32 × Mem → Option (Int32 × Mem)) (hK7 : ∀ s : Int32 × Mem, CorM KSx ST1 RX7 cX7_scan 6 none d 7 [(0, .inr 3), (1, .inr t1), (2, .inl x2), (3, .inl s.1)] [] s.2 (K7 s)) (M : Mem) : CorM KSx ST1 RX7 cX7_scan 6 none d 104 [(0, .inr 3), (1, .inr t1), (2, .inl x2), (3, .inl x3)] [] M (j_X7_scan_104 t1 x2 x3 K7 M) := by
  unfold j_X7_scan_104
  refine c_iinc dX7_scan_104 rfl (v := 1) rfl (by decide) (ls2 := [(0, .inr 3), (1, .inr t1), (2, .inl x2), (3, .inl (x3 + 1))]) rfl ?_
  refine c_goto (tgt := 7) dX7_scan_107 rfl ?_
  refine c_keep [0, 1, 2, 3] (ls2 := [(0, .inr 3), (1, .inr t1), (2, .inl x2), (3, .inl (x3 + 1))]) rfl ?_
  exact hK7 (x3 + 1, M)
def j_X7_scan_31 (t1 : Nat) (x2 : Int32) (x3 : Int32) (x4 : Int32) (w0 : Int32) (K7 : Int32 × Mem → Option (Int32 × Mem)) (M : Mem) : Option (Int32 × Mem) := if (p_X7_isLetter x4) = 0 then if (p_X7_isDigit x4) = 0 then if ¬ (p_X7_isBlank x4) = 0 then j_X7_scan_104 t1 x2 x3 K7 M else bnd (f_X7_addToken (p_X7_kindOfSign x4) x3 0 M) (fun _ M11 => j_X7_scan_104 t1 x2 x3 K7 M11) else if ¬ (p_X7_isDigit w0) = 0 then j_X7_scan_104 t1 x2 x3 K7 M else bnd (f_X7_addNumber t1 x3 x2 M) (fun _ M14 => j_X7_scan_104 t1 x2 x3 K7 M14) else if ¬ (p_X7_isLetter w0) = 0 then j_X7_scan_104 t1 x2 x3 K7 M else bnd (f_X7_addWord t1 x3 x2 M) (fun _ M17 => j_X7_scan_104 t1 x2 x3 K7 M17)
set_option maxRecDepth 20000 in
set_option maxHeartbeats 2000000 in
theorem jo_X7_scan_31 (d : Nat) (hlev : 7 ≤ d) (t1 : Nat) (h_t1 : KSx[t1]? = some (20, lenK KSx t1)) (x2 : Int32) (x3 : Int32) (x4 : Int32) (w0 : Int32) (K7 : Int32 × Mem → Option (Int32 × Mem)) (hK7 : ∀ s : Int32 × Mem, CorM KSx ST1 RX7 cX7_scan 6 none d 7 [(0, .inr 3), (1, .inr t1), (2, .inl x2), (3, .inl s.1)] [] s.2 (K7 s)) (M : Mem) : CorM KSx ST1 RX7 cX7_scan 6 none d 31 [(0, .inr 3), (1, .inr t1), (2, .inl x2), (3, .inl x3), (4, .inl x4)] [.inl w0] M (j_X7_scan_31 t1 x2 x3 x4 w0 K7 M) := by
  unfold j_X7_scan_31
  refine c_istore dX7_scan_31 (by decide) (ls2 := [(0, .inr 3), (1, .inr t1), (2, .inl x2), (3, .inl x3), (4, .inl x4), (5, .inl w0)]) rfl ?_
  refine c_iload dX7_scan_33 rfl ?_
  refine c_callSp (as := [.inl x4]) (rs := []) (ev_X7_isLetter 0 (Nat.le_refl _) x4 M) rfl (Nat.lt_of_lt_of_le (by decide) hlev) mw_X7_isLetter ws_X7_isLetter wl_RX7_25 mn_X7_isLetter rfl (by decide) (Nat.le_of_ble_eq_true rfl) ⟨_, rfl⟩ dX7_scan_35 ?_
  refine c_if_eq (tgt := 59) dX7_scan_38 rfl (fun h7 => ?_) (fun h7 => ?_)
  · refine c_iload dX7_scan_59 rfl ?_
    refine c_callSp (as := [.inl x4]) (rs := []) (ev_X7_isDigit 0 (Nat.le_refl _) x4 M) rfl (Nat.lt_of_lt_of_le (by decide) hlev) mw_X7_isDigit ws_X7_isDigit wl_RX7_33 mn_X7_isDigit rfl (by decide) (Nat.le_of_ble_eq_true rfl) ⟨_, rfl⟩ dX7_scan_61 ?_
    refine c_if_eq (tgt := 85) dX7_scan_64 rfl (fun h8 => ?_) (fun h8 => ?_)
    · refine c_iload dX7_scan_85 rfl ?_
      refine c_callSp (as := [.inl x4]) (rs := []) (ev_X7_isBlank 0 (Nat.le_refl _) x4 M) rfl (Nat.lt_of_lt_of_le (by decide) hlev) mw_X7_isBlank ws_X7_isBlank wl_RX7_39 mn_X7_isBlank rfl (by decide) (Nat.le_of_ble_eq_true rfl) ⟨_, rfl⟩ dX7_scan_87 ?_
      refine c_if_ne (tgt := 104) dX7_scan_90 rfl (fun h9 => ?_) (fun h9 => ?_)
      · refine c_keep [0, 1, 2, 3] (ls2 := [(0, .inr 3), (1, .inr t1), (2, .inl x2), (3, .inl x3)]) rfl ?_
        exact jo_X7_scan_104 d hlev t1 h_t1 x2 x3 K7 hK7 M
      · refine c_aload_n (i := 0) dX7_scan_93 rfl rfl ?_
        refine c_iload dX7_scan_94 rfl ?_
        refine c_callSp (as := [.inl x4]) (rs := [.inr 3]) (ev_X7_kindOfSign 0 (Nat.le_refl _) x4 M) rfl (Nat.lt_of_lt_of_le (by decide) hlev) mw_X7_kindOfSign ws_X7_kindOfSign wl_RX7_42 mn_X7_kindOfSign rfl (by decide) (Nat.le_of_ble_eq_true rfl) ⟨_, rfl⟩ dX7_scan_96 ?_
        refine c_iload_n (i := 3) dX7_scan_99 rfl rfl ?_
        refine c_iconst dX7_scan_100 (v := 0) rfl ?_
        refine c_callVv (as := [.inl (p_X7_kindOfSign x4), .inl x3, .inl 0]) (rs := []) (ev_X7_addToken 0 (Nat.le_refl _) (p_X7_kindOfSign x4) x3 0 M) rfl (Nat.lt_of_lt_of_le (by decide) hlev) mw_X7_addToken wi_X7_addToken wv_X7_addToken (blk_get0 KSx_b3) (by decide) rfl wl_RX7_46 mn_X7_addToken rfl (by decide) (Nat.le_of_ble_eq_true rfl) rfl dX7_scan_101 (fun v10 M11 _ => ?_)
        refine c_keep [0, 1, 2, 3] (ls2 := [(0, .inr 3), (1, .inr t1), (2, .inl x2), (3, .inl x3)]) rfl ?_
        exact jo_X7_scan_104 d hlev t1 h_t1 x2 x3 K7 hK7 M11
    · refine c_iload dX7_scan_67 rfl ?_
      refine c_callSp (as := [.inl w0]) (rs := []) (ev_X7_isDigit 0 (Nat.le_refl _) w0 M) rfl (Nat.lt_of_lt_of_le (by decide) hlev) mw_X7_isDigit ws_X7_isDigit wl_RX7_33 mn_X7_isDigit rfl (by decide) (Nat.le_of_ble_eq_true rfl) ⟨_, rfl⟩ dX7_scan_69 ?_
      refine c_if_ne (tgt := 104) dX7_scan_72 rfl (fun h12 => ?_) (fun h12 => ?_)
      · refine c_keep [0, 1, 2, 3] (ls2 := [(0, .inr 3), (1, .inr t1), (2, .inl x2), (3, .inl x3)]) rfl ?_
        exact jo_X7_scan_104 d hlev t1 h_t1 x2 x3 K7 hK7 M
      · refine c_aload_n (i := 0) dX7_scan_75 rfl rfl ?_
        refine c_aload_n (i := 1) dX7_scan_76 rfl rfl ?_
        refine c_iload_n (i := 3) dX7_scan_77 rfl rfl ?_
        refine c_iload_n (i := 2) dX7_scan_78 rfl rfl ?_
        refine c_callVv (as := [.inr t1, .inl x3, .inl x2]) (rs := []) (ev_X7_addNumber 1 (Nat.le_refl _) t1 h_t1 x3 x2 M) rfl (Nat.lt_of_lt_of_le (by decide) hlev) mw_X7_addNumber wi_X7_addNumber wv_X7_addNumber (blk_get0 KSx_b3) (by decide) rfl wl_RX7_36 mn_X7_addNumber rfl (by decide) (Nat.le_of_ble_eq_true rfl) rfl dX7_scan_79 (fun v13 M14 _ => ?_)
        refine c_goto (tgt := 104) dX7_scan_82 rfl ?_
        refine c_keep [0, 1, 2, 3] (ls2 := [(0, .inr 3), (1, .inr t1), (2, .inl x2), (3, .inl x3)]) rfl ?_
        exact jo_X7_scan_104 d hlev t1 h_t1 x2 x3 K7 hK7 M14
  · refine c_iload dX7_scan_41 rfl ?_
    refine c_callSp (as := [.inl w0]) (rs := []) (ev_X7_isLetter 0 (Nat.le_refl _) w0 M) rfl (Nat.lt_of_lt_of_le (by decide) hlev) mw_X7_isLetter ws_X7_isLetter wl_RX7_25 mn_X7_isLetter rfl (by decide) (Nat.le_of_ble_eq_true rfl) ⟨_, rfl⟩ dX7_scan_43 ?_
    refine c_if_ne (tgt := 104) dX7_scan_46 rfl (fun h15 => ?_) (fun h15 => ?_)
    · refine c_keep [0, 1, 2, 3] (ls2 := [(0, .inr 3), (1, .inr t1), (2, .inl x2), (3, .inl x3)]) rfl ?_
      exact jo_X7_scan_104 d hlev t1 h_t1 x2 x3 K7 hK7 M
    · refine c_aload_n (i := 0) dX7_scan_49 rfl rfl ?_
      refine c_aload_n (i := 1) dX7_scan_50 rfl rfl ?_
      refine c_iload_n (i := 3) dX7_scan_51 rfl rfl ?_
      refine c_iload_n (i := 2) dX7_scan_52 rfl rfl ?_
      refine c_callVv (as := [.inr t1, .inl x3, .inl x2]) (rs := []) (ev_X7_addWord 6 (Nat.le_refl _) t1 h_t1 x3 x2 M) rfl (Nat.lt_of_lt_of_le (by decide) hlev) mw_X7_addWord wi_X7_addWord wv_X7_addWord (blk_get0 KSx_b3) (by decide) rfl wl_RX7_29 mn_X7_addWord rfl (by decide) (Nat.le_of_ble_eq_true rfl) rfl dX7_scan_53 (fun v16 M17 _ => ?_)
      refine c_goto (tgt := 104) dX7_scan_56 rfl ?_
      refine c_keep [0, 1, 2, 3] (ls2 := [(0, .inr 3), (1, .inr t1), (2, .inl x2), (3, .inl x3)]) rfl ?_
      exact jo_X7_scan_104 d hlev t1 h_t1 x2 x3 K7 hK7 M17
def l_X7_scan_7 (t1 : Nat) (x2 : Int32) (K7 : Int32 × Mem → Option (Int32 × Mem)) : Int32 × Mem → Option (Int32 × Mem) := fun s => match s with
  | (x3, M) => if x2 ≤ x3 then bnd (f_X7_addToken 32 x2 0 M) (fun _ M4 => some (0, M4)) else if inb x3 (lenK KSx t1) then if x3 ≤ 0 then j_X7_scan_31 t1 x2 x3 (M t1 (ix x3)) 32 K7 M else if inb (x3 - 1) (lenK KSx t1) then j_X7_scan_31 t1 x2 x3 (M t1 (ix x3)) (M t1 (ix (x3 - 1))) K7 M else none else none
set_option maxRecDepth 20000 in
set_option maxHeartbeats 2000000 in
theorem lo_X7_scan_7 (d : Nat) (hlev : 7 ≤ d) (t1 : Nat) (h_t1 : KSx[t1]? = some (20, lenK KSx t1)) (x2 : Int32) (s : Int32 × Mem) : CorM KSx ST1 RX7 cX7_scan 6 none d 7 [(0, .inr 3), (1, .inr t1), (2, .inl x2), (3, .inl s.1)] [] s.2 (loopC (l_X7_scan_7 t1 x2) fuelL s) := by
  refine c_loop (L := fun s : Int32 × Mem => [(0, .inr 3), (1, .inr t1), (2, .inl x2), (3, .inl s.1)]) (Mf := fun s : Int32 × Mem => s.2) (fun K7 hK7 s => ?_) fuelL s
  obtain ⟨x3, M⟩ := s
  show CorM KSx ST1 RX7 cX7_scan 6 none d 7 [(0, .inr 3), (1, .inr t1), (2, .inl x2), (3, .inl x3)] [] M (l_X7_scan_7 t1 x2 K7 (x3, M))
  unfold l_X7_scan_7
  refine c_iload_n (i := 3) dX7_scan_7 rfl rfl ?_
  refine c_iload_n (i := 2) dX7_scan_8 rfl rfl ?_
  refine c_icmp_ge (tgt := 110) dX7_scan_9 rfl (fun h2 => ?_) (fun h2 => ?_)
  · refine c_aload_n (i := 0) dX7_scan_110 rfl rfl ?_
    refine c_bipush dX7_scan_111 (v := 32) rfl ?_
    refine c_iload_n (i := 2) dX7_scan_113 rfl rfl ?_
    refine c_iconst dX7_scan_114 (v := 0) rfl ?_
    refine c_callVv (as := [.inl 32, .inl x2, .inl 0]) (rs := []) (ev_X7_addToken 0 (Nat.le_refl _) 32 x2 0 M) rfl (Nat.lt_of_lt_of_le (by decide) hlev) mw_X7_addToken wi_X7_addToken wv_X7_addToken (blk_get0 KSx_b3) (by decide) rfl wl_RX7_46 mn_X7_addToken rfl (by decide) (Nat.le_of_ble_eq_true rfl) rfl dX7_scan_115 (fun v3 M4 _ => ?_)
    exact c_vret rfl dX7_scan_118
  · refine c_aload_n (i := 1) dX7_scan_12 rfl rfl ?_
    refine c_iload_n (i := 3) dX7_scan_13 rfl rfl ?_
    refine c_chk (fun h5 => ?_)
    refine c_iald h_t1 h5 dX7_scan_14 ?_
    refine c_istore dX7_scan_15 (by decide) (ls2 := [(0, .inr 3), (1, .inr t1), (2, .inl x2), (3, .inl x3), (4, .inl (M t1 (ix x3)))]) rfl ?_
    refine c_iload_n (i := 3) dX7_scan_17 rfl rfl ?_
    refine c_if_le (tgt := 29) dX7_scan_18 rfl (fun h6 => ?_) (fun h6 => ?_)
    · refine c_bipush dX7_scan_29 (v := 32) rfl ?_
      refine c_keep [0, 1, 2, 3, 4] (ls2 := [(0, .inr 3), (1, .inr t1), (2, .inl x2), (3, .inl x3), (4, .inl (M t1 (ix x3)))]) rfl ?_
      exact jo_X7_scan_31 d hlev t1 h_t1 x2 x3 (M t1 (ix x3)) 32 K7 hK7 M
    · refine c_aload_n (i := 1) dX7_scan_21 rfl rfl ?_
      refine c_iload_n (i := 3) dX7_scan_22 rfl rfl ?_
      refine c_iconst dX7_scan_23 (v := 1) rfl ?_
      refine c_isub dX7_scan_24 ?_
      refine c_chk (fun h18 => ?_)
      refine c_iald h_t1 h18 dX7_scan_25 ?_
      refine c_goto (tgt := 31) dX7_scan_26 rfl ?_
      refine c_keep [0, 1, 2, 3, 4] (ls2 := [(0, .inr 3), (1, .inr t1), (2, .inl x2), (3, .inl x3), (4, .inl (M t1 (ix x3)))]) rfl ?_
      exact jo_X7_scan_31 d hlev t1 h_t1 x2 x3 (M t1 (ix x3)) (M t1 (ix (x3 - 1))) K7 hK7 M
def f_X7_scan (t1 : Nat) (x2 : Int32) (M : Mem) : Option (Int32 × Mem) := wrt (up M 3 3 0) (fun M1 => loopC (l_X7_scan_7 t1 x2) fuelL (0, M1))
set_option maxRecDepth 20000 in
set_option maxHeartbeats 2000000 in
theorem ev_X7_scan (d : Nat) (hlev : 7 ≤ d) (t1 : Nat) (h_t1 : KSx[t1]? = some (20, lenK KSx t1)) (x2 : Int32) (M : Mem) : Ev KSx ST1 mdX7_scan d [.inr 3, .inr t1, .inl x2] M (f_X7_scan t1 x2 M) := by
  refine ev_of rfl (Nat.le_of_ble_eq_true rfl) ?_
  show CorM KSx ST1 RX7 cX7_scan 6 none d 0 [(0, .inr 3), (1, .inr t1), (2, .inl x2)] [] M (f_X7_scan t1 x2 M)
  unfold f_X7_scan
  refine c_aload_n (i := 0) dX7_scan_0 rfl rfl ?_
  refine c_iconst dX7_scan_1 (v := 0) rfl ?_
  refine pf_RX7_21 (blk_get0 KSx_b3) dX7_scan_2 ?_
  refine c_wrt (fun M1 => ?_)
  refine c_iconst dX7_scan_5 (v := 0) rfl ?_
  refine c_istore_n (i := 3) dX7_scan_6 rfl (by decide) (ls2 := [(0, .inr 3), (1, .inr t1), (2, .inl x2), (3, .inl 0)]) rfl ?_
  refine c_keep [0, 1, 2, 3] (ls2 := [(0, .inr 3), (1, .inr t1), (2, .inl x2), (3, .inl 0)]) rfl ?_
  exact lo_X7_scan_7 d hlev t1 h_t1 x2 (0, M1)

abbrev mdJ7_fill_53178 : MD := (yJ7_fill_53178, cJ7_fill_53178, 4, none)
theorem mw_J7_fill_53178 : mdW mdJ7_fill_53178 := ⟨wm_J7_fill_53178, w0_RJ7, by decide, by decide⟩
theorem mn_J7_fill_53178 : (parseMethodDescriptor yJ7_fill_53178.desc).map (fun d => d.parameters.length) = some 2 := by decide +kernel
def l_J7_fill_53178_5 (t0 : Nat) (x1 : Int32) (x3 : Int32) (K5 : Int32 × Mem → Option (Int32 × Mem)) : Int32 × Mem → Option (Int32 × Mem) := fun s => match s with
  | (x2, M) => if x3 ≤ x2 then some (0, M) else if inb x2 (lenK KSx t0) then wrt (up M t0 (ix x2) x1) (fun M3 => K5 (x2 + 1, M3)) else none
set_option maxRecDepth 20000 in
set_option maxHeartbeats 2000000 in
theorem lo_J7_fill_53178_5 (d : Nat) (hlev : 0 ≤ d) (t0 : Nat) (h_t0 : KSx[t0]? = some (20, lenK KSx t0)) (x1 : Int32) (x3 : Int32) (s : Int32 × Mem) : CorM KSx ST1 RJ7 cJ7_fill_53178 4 none d 5 [(0, .inr t0), (1, .inl x1), (2, .inl s.1), (3, .inl x3)] [] s.2 (loopC (l_J7_fill_53178_5 t0 x1 x3) fuelL s) := by
  refine c_loop (L := fun s : Int32 × Mem => [(0, .inr t0), (1, .inl x1), (2, .inl s.1), (3, .inl x3)]) (Mf := fun s : Int32 × Mem => s.2) (fun K5 hK5 s => ?_) fuelL s
  obtain ⟨x2, M⟩ := s
  show CorM KSx ST1 RJ7 cJ7_fill_53178 4 none d 5 [(0, .inr t0), (1, .inl x1), (2, .inl x2), (3, .inl x3)] [] M (l_J7_fill_53178_5 t0 x1 x3 K5 (x2, M))
  unfold l_J7_fill_53178_5
  refine c_iload_n (i := 2) dJ7_fill_53178_5 rfl rfl ?_
  refine c_iload_n (i := 3) dJ7_fill_53178_6 rfl rfl ?_
  refine c_icmp_ge (tgt := 20) dJ7_fill_53178_7 rfl (fun h1 => ?_) (fun h1 => ?_)
  · exact c_vret rfl dJ7_fill_53178_20
  · refine c_aload_n (i := 0) dJ7_fill_53178_10 rfl rfl ?_
    refine c_iload_n (i := 2) dJ7_fill_53178_11 rfl rfl ?_
    refine c_iload_n (i := 1) dJ7_fill_53178_12 rfl rfl ?_
    refine c_chk (fun h2 => ?_)
    refine c_iast h_t0 h2 dJ7_fill_53178_13 ?_
    refine c_wrt (fun M3 => ?_)
    refine c_iinc dJ7_fill_53178_14 rfl (v := 1) rfl (by decide) (ls2 := [(0, .inr t0), (1, .inl x1), (2, .inl (x2 + 1)), (3, .inl x3)]) rfl ?_
    refine c_goto (tgt := 5) dJ7_fill_53178_17 rfl ?_
    refine c_keep [0, 1, 2, 3] (ls2 := [(0, .inr t0), (1, .inl x1), (2, .inl (x2 + 1)), (3, .inl x3)]) rfl ?_
    exact hK5 (x2 + 1, M3)
def f_J7_fill_53178 (t0 : Nat) (x1 : Int32) (M : Mem) : Option (Int32 × Mem) := loopC (l_J7_fill_53178_5 t0 x1 (nI (lenK KSx t0))) fuelL (0, M)
set_option maxRecDepth 20000 in
set_option maxHeartbeats 2000000 in
theorem ev_J7_fill_53178 (d : Nat) (hlev : 0 ≤ d) (t0 : Nat) (h_t0 : KSx[t0]? = some (20, lenK KSx t0)) (x1 : Int32) (M : Mem) : Ev KSx ST1 mdJ7_fill_53178 d [.inr t0, .inl x1] M (f_J7_fill_53178 t0 x1 M) := by
  refine ev_of rfl (Nat.le_of_ble_eq_true rfl) ?_
  show CorM KSx ST1 RJ7 cJ7_fill_53178 4 none d 0 [(0, .inr t0), (1, .inl x1)] [] M (f_J7_fill_53178 t0 x1 M)
  unfold f_J7_fill_53178
  refine c_iconst dJ7_fill_53178_0 (v := 0) rfl ?_
  refine c_istore_n (i := 2) dJ7_fill_53178_1 rfl (by decide) (ls2 := [(0, .inr t0), (1, .inl x1), (2, .inl 0)]) rfl ?_
  refine c_aload_n (i := 0) dJ7_fill_53178_2 rfl rfl ?_
  refine c_alen h_t0 (Or.inl rfl) rfl dJ7_fill_53178_3 ?_
  refine c_istore_n (i := 3) dJ7_fill_53178_4 rfl (by decide) (ls2 := [(0, .inr t0), (1, .inl x1), (2, .inl 0), (3, .inl (nI (lenK KSx t0)))]) rfl ?_
  refine c_keep [0, 1, 2, 3] (ls2 := [(0, .inr t0), (1, .inl x1), (2, .inl 0), (3, .inl (nI (lenK KSx t0)))]) rfl ?_
  exact lo_J7_fill_53178_5 d hlev t0 h_t0 x1 (nI (lenK KSx t0)) (0, M)

abbrev mdX4_clear : MD := (yX4_clear, cX4_clear, 1, none)
theorem mw_X4_clear : mdW mdX4_clear := ⟨wm_X4_clear, w0_RX4, by decide, by decide⟩
theorem mn_X4_clear : (parseMethodDescriptor yX4_clear.desc).map (fun d => d.parameters.length) = some 0 := by decide +kernel
def f_X4_clear (t0 : Nat) (M : Mem) : Option (Int32 × Mem) := wrt (up M t0 0 1) (fun M1 => wrt (up M1 t0 1 1) (fun M2 => wrt (up M2 t0 2 1) (fun M3 => wrt (upA M3 (t0 + 1) (va_cpy (statA 902) (M3 (t0 + 1)) (ix 0) (ix 0) (ix 9))) (fun M4 => wrt (up M4 t0 4 0) (fun M5 => wrt (up M5 t0 5 0) (fun M6 => bnd (f_J7_fill_53178 (t0 + 11) 0 M6) (fun _ M8 => bnd (f_J7_fill_53178 (t0 + 12) 0 M8) (fun _ M10 => some (0, M10)))))))))
set_option maxRecDepth 20000 in
set_option maxHeartbeats 2000000 in
theorem ev_X4_clear (d : Nat) (hlev : 1 ≤ d) (t0 : Nat) (h_t0 : blkAt KSx t0 blk4) (M : Mem) : Ev KSx ST1 mdX4_clear d [.inr t0] M (f_X4_clear t0 M) := by
  refine ev_of rfl (Nat.le_of_ble_eq_true rfl) ?_
  show CorM KSx ST1 RX4 cX4_clear 1 none d 0 [(0, .inr t0)] [] M (f_X4_clear t0 M)
  unfold f_X4_clear
  refine c_aload_n (i := 0) dX4_clear_0 rfl rfl ?_
  refine c_iconst dX4_clear_1 (v := 1) rfl ?_
  refine pf_RX4_48 (blk_get0 h_t0) dX4_clear_2 ?_
  refine c_wrt (fun M1 => ?_)
  refine c_aload_n (i := 0) dX4_clear_5 rfl rfl ?_
  refine c_iconst dX4_clear_6 (v := 1) rfl ?_
  refine pf_RX4_52 (blk_get0 h_t0) dX4_clear_7 ?_
  refine c_wrt (fun M2 => ?_)
  refine c_aload_n (i := 0) dX4_clear_10 rfl rfl ?_
  refine c_iconst dX4_clear_11 (v := 1) rfl ?_
  refine pf_RX4_55 (blk_get0 h_t0) dX4_clear_12 ?_
  refine c_wrt (fun M3 => ?_)
  refine c_gets (j := 902) (by decide) gs_RX4_58 dX4_clear_15 ?_
  refine c_iconst dX4_clear_18 (v := 0) rfl ?_
  refine c_aload_n (i := 0) dX4_clear_19 rfl rfl ?_
  refine gf_RX4_9 (blk_get0 h_t0) dX4_clear_20 ?_
  refine c_iconst dX4_clear_23 (v := 0) rfl ?_
  refine c_bipush dX4_clear_24 (v := 9) rfl ?_
  refine c_copyS wl_RX4_61 (by decide) (blk_get0 (blk_sub (C := [(20, 9)]) (i := 1) h_t0 rfl)) (by decide) (Nat.lt_of_lt_of_le (by decide) hlev) (Nat.le_of_ble_eq_true rfl) dX4_clear_26 ?_
  refine c_wrt (fun M4 => ?_)
  refine c_aload_n (i := 0) dX4_clear_29 rfl rfl ?_
  refine c_iconst dX4_clear_30 (v := 0) rfl ?_
  refine pf_RX4_67 (blk_get0 h_t0) dX4_clear_31 ?_
  refine c_wrt (fun M5 => ?_)
  refine c_aload_n (i := 0) dX4_clear_34 rfl rfl ?_
  refine c_iconst dX4_clear_35 (v := 0) rfl ?_
  refine pf_RX4_70 (blk_get0 h_t0) dX4_clear_36 ?_
  refine c_wrt (fun M6 => ?_)
  refine c_aload_n (i := 0) dX4_clear_39 rfl rfl ?_
  refine gf_RX4_42 (blk_get0 h_t0) dX4_clear_40 ?_
  refine c_iconst dX4_clear_43 (v := 0) rfl ?_
  refine c_callSv (as := [.inr (t0 + 11), .inl 0]) (rs := []) (ev_J7_fill_53178 0 (Nat.le_refl _) (t0 + 11) (arrp_of (blk_get0 (blk_sub (C := [(20, 96)]) (i := 11) h_t0 rfl))) 0 M6) rfl (Nat.lt_of_lt_of_le (by decide) hlev) mw_J7_fill_53178 ws_J7_fill_53178 wl_RX4_73 mn_J7_fill_53178 rfl (by decide) (Nat.le_of_ble_eq_true rfl) rfl dX4_clear_44 (fun v7 M8 _ => ?_)
  refine c_aload_n (i := 0) dX4_clear_47 rfl rfl ?_
  refine gf_RX4_45 (blk_get0 h_t0) dX4_clear_48 ?_
  refine c_iconst dX4_clear_51 (v := 0) rfl ?_
  refine c_callSv (as := [.inr (t0 + 12), .inl 0]) (rs := []) (ev_J7_fill_53178 0 (Nat.le_refl _) (t0 + 12) (arrp_of (blk_get0 (blk_sub (C := [(20, 96)]) (i := 12) h_t0 rfl))) 0 M8) rfl (Nat.lt_of_lt_of_le (by decide) hlev) mw_J7_fill_53178 ws_J7_fill_53178 wl_RX4_73 mn_J7_fill_53178 rfl (by decide) (Nat.le_of_ble_eq_true rfl) rfl dX4_clear_52 (fun v9 M10 _ => ?_)
  exact c_vret rfl dX4_clear_55

abbrev mdX2_goTo : MD := (yX2_goTo, cX2_goTo, 2, none)
theorem mw_X2_goTo : mdW mdX2_goTo := ⟨wm_X2_goTo, w0_RX2, by decide, by decide⟩
theorem mn_X2_goTo : (parseMethodDescriptor yX2_goTo.desc).map (fun d => d.parameters.length) = some 1 := by decide +kernel
def f_X2_goTo (x1 : Int32) (M : Mem) : Option (Int32 × Mem) := wrt (up M 2 2 x1) (fun M1 => if inb (M1 2 2) 901 then wrt (up M1 2 3 (M1 4 (ix (M1 2 2)))) (fun M3 => if inb (M3 2 2) 901 then wrt (up M3 2 4 (M3 5 (ix (M3 2 2)))) (fun M5 => some (0, M5)) else none) else none)
set_option maxRecDepth 20000 in
set_option maxHeartbeats 2000000 in
theorem ev_X2_goTo (d : Nat) (hlev : 0 ≤ d) (x1 : Int32) (M : Mem) : Ev KSx ST1 mdX2_goTo d [.inr 2, .inl x1] M (f_X2_goTo x1 M) := by
  refine ev_of rfl (Nat.le_of_ble_eq_true rfl) ?_
  show CorM KSx ST1 RX2 cX2_goTo 2 none d 0 [(0, .inr 2), (1, .inl x1)] [] M (f_X2_goTo x1 M)
  unfold f_X2_goTo
  refine c_aload_n (i := 0) dX2_goTo_0 rfl rfl ?_
  refine c_iload_n (i := 1) dX2_goTo_1 rfl rfl ?_
  refine pf_RX2_138 (blk_get0 KSx_b2) dX2_goTo_2 ?_
  refine c_wrt (fun M1 => ?_)
  refine c_aload_n (i := 0) dX2_goTo_5 rfl rfl ?_
  refine c_aload_n (i := 0) dX2_goTo_6 rfl rfl ?_
  refine gf_RX2_12 (blk_get0 KSx_b2) dX2_goTo_7 ?_
  refine gf_RX2_141 (blk_get0 (blk_sub (C := blk7) (i := 1) KSx_b2 rfl)) dX2_goTo_10 ?_
  refine c_aload_n (i := 0) dX2_goTo_13 rfl rfl ?_
  refine gf_RX2_138 (blk_get0 KSx_b2) dX2_goTo_14 ?_
  refine c_chk (fun h2 => ?_)
  refine c_iald (blk_get0 (blk_sub (C := [(20, 901)]) (i := 1) (blk_sub (C := blk7) (i := 1) KSx_b2 rfl) rfl)) h2 dX2_goTo_17 ?_
  refine pf_RX2_48 (blk_get0 KSx_b2) dX2_goTo_18 ?_
  refine c_wrt (fun M3 => ?_)
  refine c_aload_n (i := 0) dX2_goTo_21 rfl rfl ?_
  refine c_aload_n (i := 0) dX2_goTo_22 rfl rfl ?_
  refine gf_RX2_12 (blk_get0 KSx_b2) dX2_goTo_23 ?_
  refine gf_RX2_144 (blk_get0 (blk_sub (C := blk7) (i := 1) KSx_b2 rfl)) dX2_goTo_26 ?_
  refine c_aload_n (i := 0) dX2_goTo_29 rfl rfl ?_
  refine gf_RX2_138 (blk_get0 KSx_b2) dX2_goTo_30 ?_
  refine c_chk (fun h4 => ?_)
  refine c_iald (blk_get0 (blk_sub (C := [(20, 901)]) (i := 2) (blk_sub (C := blk7) (i := 1) KSx_b2 rfl) rfl)) h4 dX2_goTo_33 ?_
  refine pf_RX2_70 (blk_get0 KSx_b2) dX2_goTo_34 ?_
  refine c_wrt (fun M5 => ?_)
  exact c_vret rfl dX2_goTo_37

abbrev mdX2_fail : MD := (yX2_fail, cX2_fail, 3, none)
theorem mw_X2_fail : mdW mdX2_fail := ⟨wm_X2_fail, w0_RX2, by decide, by decide⟩
theorem mn_X2_fail : (parseMethodDescriptor yX2_fail.desc).map (fun d => d.parameters.length) = some 2 := by decide +kernel
def j_X2_fail_17 (M : Mem) : Option (Int32 × Mem) := some (0, M)
set_option maxRecDepth 20000 in
set_option maxHeartbeats 2000000 in
theorem jo_X2_fail_17 (d : Nat) (hlev : 0 ≤ d) (M : Mem) : CorM KSx ST1 RX2 cX2_fail 3 none d 17 [] [] M (j_X2_fail_17 M) := by
  unfold j_X2_fail_17
  exact c_vret rfl dX2_fail_17
def f_X2_fail (x1 : Int32) (x2 : Int32) (M : Mem) : Option (Int32 × Mem) := if ¬ (M 2 5) = 0 then j_X2_fail_17 M else wrt (up M 2 5 x1) (fun M2 => wrt (up M2 2 6 x2) (fun M3 => j_X2_fail_17 M3))
set_option maxRecDepth 20000 in
set_option maxHeartbeats 2000000 in
theorem ev_X2_fail (d : Nat) (hlev : 0 ≤ d) (x1 : Int32) (x2 : Int32) (M : Mem) : Ev KSx ST1 mdX2_fail d [.inr 2, .inl x1, .inl x2] M (f_X2_fail x1 x2 M) := by
  refine ev_of rfl (Nat.le_of_ble_eq_true rfl) ?_
  show CorM KSx ST1 RX2 cX2_fail 3 none d 0 [(0, .inr 2), (1, .inl x1), (2, .inl x2)] [] M (f_X2_fail x1 x2 M)
  unfold f_X2_fail
  refine c_aload_n (i := 0) dX2_fail_0 rfl rfl ?_
  refine gf_RX2_31 (blk_get0 KSx_b2) dX2_fail_1 ?_
  refine c_if_ne (tgt := 17) dX2_fail_4 rfl (fun h1 => ?_) (fun h1 => ?_)
  · refine c_keep [] (ls2 := []) rfl ?_
    exact jo_X2_fail_17 d hlev M
  · refine c_aload_n (i := 0) dX2_fail_7 rfl rfl ?_
    refine c_iload_n (i := 1) dX2_fail_8 rfl rfl ?_
    refine pf_RX2_31 (blk_get0 KSx_b2) dX2_fail_9 ?_
    refine c_wrt (fun M2 => ?_)
    refine c_aload_n (i := 0) dX2_fail_12 rfl rfl ?_
    refine c_iload_n (i := 2) dX2_fail_13 rfl rfl ?_
    refine pf_RX2_35 (blk_get0 KSx_b2) dX2_fail_14 ?_
    refine c_wrt (fun M3 => ?_)
    refine c_keep [] (ls2 := []) rfl ?_
    exact jo_X2_fail_17 d hlev M3

abbrev mdX2_take : MD := (yX2_take, cX2_take, 2, none)
theorem mw_X2_take : mdW mdX2_take := ⟨wm_X2_take, w0_RX2, by decide, by decide⟩
theorem mn_X2_take : (parseMethodDescriptor yX2_take.desc).map (fun d => d.parameters.length) = some 1 := by decide +kernel
def j_X2_take_37 (M : Mem) : Option (Int32 × Mem) := some (0, M)
set_option maxRecDepth 20000 in
set_option maxHeartbeats 2000000 in
theorem jo_X2_take_37 (d : Nat) (hlev : 1 ≤ d) (M : Mem) : CorM KSx ST1 RX2 cX2_take 2 none d 37 [] [] M (j_X2_take_37 M) := by
  unfold j_X2_take_37
  exact c_vret rfl dX2_take_37
def f_X2_take (x1 : Int32) (M : Mem) : Option (Int32 × Mem) := if (M 2 3) = x1 then if ¬ (M 2 5) = 0 then j_X2_take_37 M else bnd (f_X2_goTo ((M 2 2) + 1) M) (fun _ M4 => j_X2_take_37 M4) else bnd (f_X2_fail 1 (M 2 4) M) (fun _ M6 => j_X2_take_37 M6)
set_option maxRecDepth 20000 in
set_option maxHeartbeats 2000000 in
theorem ev_X2_take (d : Nat) (hlev : 1 ≤ d) (x1 : Int32) (M : Mem) : Ev KSx ST1 mdX2_take d [.inr 2, .inl x1] M (f_X2_take x1 M) := by
  refine ev_of rfl (Nat.le_of_ble_eq_true rfl) ?_
  show CorM KSx ST1 RX2 cX2_take 2 none d 0 [(0, .inr 2), (1, .inl x1)] [] M (f_X2_take x1 M)
  unfold f_X2_take
  refine c_aload_n (i := 0) dX2_take_0 rfl rfl ?_
  refine gf_RX2_48 (blk_get0 KSx_b2) dX2_take_1 ?_
  refine c_iload_n (i := 1) dX2_take_4 rfl rfl ?_
  refine c_icmp_eq (tgt := 20) dX2_take_5 rfl (fun h1 => ?_) (fun h1 => ?_)
  · refine c_aload_n (i := 0) dX2_take_20 rfl rfl ?_
    refine gf_RX2_31 (blk_get0 KSx_b2) dX2_take_21 ?_
    refine c_if_ne (tgt := 37) dX2_take_24 rfl (fun h2 => ?_) (fun h2 => ?_)
    · refine c_keep [] (ls2 := []) rfl ?_
      exact jo_X2_take_37 d hlev M
    · refine c_aload_n (i := 0) dX2_take_27 rfl rfl ?_
      refine c_aload_n (i := 0) dX2_take_28 rfl rfl ?_
      refine gf_RX2_138 (blk_get0 KSx_b2) dX2_take_29 ?_
      refine c_iconst dX2_take_32 (v := 1) rfl ?_
      refine c_iadd dX2_take_33 ?_
      refine c_callVv (as := [.inl ((M 2 2) + 1)]) (rs := []) (ev_X2_goTo 0 (Nat.le_refl _) ((M 2 2) + 1) M) rfl (Nat.lt_of_lt_of_le (by decide) hlev) mw_X2_goTo wi_X2_goTo wv_X2_goTo (blk_get0 KSx_b2) (by decide) rfl wl_RX2_38 mn_X2_goTo rfl (by decide) (Nat.le_of_ble_eq_true rfl) rfl dX2_take_34 (fun v3 M4 _ => ?_)
      refine c_keep [] (ls2 := []) rfl ?_
      exact jo_X2_take_37 d hlev M4
  · refine c_aload_n (i := 0) dX2_take_8 rfl rfl ?_
    refine c_iconst dX2_take_9 (v := 1) rfl ?_
    refine c_aload_n (i := 0) dX2_take_10 rfl rfl ?_
    refine gf_RX2_70 (blk_get0 KSx_b2) dX2_take_11 ?_
    refine c_callVv (as := [.inl 1, .inl (M 2 4)]) (rs := []) (ev_X2_fail 0 (Nat.le_refl _) 1 (M 2 4) M) rfl (Nat.lt_of_lt_of_le (by decide) hlev) mw_X2_fail wi_X2_fail wv_X2_fail (blk_get0 KSx_b2) (by decide) rfl wl_RX2_73 mn_X2_fail rfl (by decide) (Nat.le_of_ble_eq_true rfl) rfl dX2_take_14 (fun v5 M6 _ => ?_)
    refine c_goto (tgt := 37) dX2_take_17 rfl ?_
    refine c_keep [] (ls2 := []) rfl ?_
    exact jo_X2_take_37 d hlev M6

abbrev mdX2_takeNumber : MD := (yX2_takeNumber, cX2_takeNumber, 4, (some .int))
theorem mw_X2_takeNumber : mdW mdX2_takeNumber := ⟨wm_X2_takeNumber, w0_RX2, by decide, by decide⟩
theorem mn_X2_takeNumber : (parseMethodDescriptor yX2_takeNumber.desc).map (fun d => d.parameters.length) = some 2 := by decide +kernel
def j_X2_takeNumber_75 (x1 : Int32) (M : Mem) : Option (Int32 × Mem) := some (x1, M)
set_option maxRecDepth 20000 in
set_option maxHeartbeats 2000000 in
theorem jo_X2_takeNumber_75 (d : Nat) (hlev : 1 ≤ d) (x1 : Int32) (M : Mem) : CorM KSx ST1 RX2 cX2_takeNumber 4 (some .int) d 75 [(1, .inl x1)] [] M (j_X2_takeNumber_75 x1 M) := by
  unfold j_X2_takeNumber_75
  refine c_iload_n (i := 1) dX2_takeNumber_75 rfl rfl ?_
  exact c_iret rfl dX2_takeNumber_76
def j_X2_takeNumber_44 (x1 : Int32) (M : Mem) : Option (Int32 × Mem) := bnd (f_X2_fail 2 (M 2 4) M) (fun _ M5 => j_X2_takeNumber_75 x1 M5)
set_option maxRecDepth 20000 in
set_option maxHeartbeats 2000000 in
theorem jo_X2_takeNumber_44 (d : Nat) (hlev : 1 ≤ d) (x1 : Int32) (M : Mem) : CorM KSx ST1 RX2 cX2_takeNumber 4 (some .int) d 44 [(0, .inr 2), (1, .inl x1)] [] M (j_X2_takeNumber_44 x1 M) := by
  unfold j_X2_takeNumber_44
  refine c_aload_n (i := 0) dX2_takeNumber_44 rfl rfl ?_
  refine c_iconst dX2_takeNumber_45 (v := 2) rfl ?_
  refine c_aload_n (i := 0) dX2_takeNumber_46 rfl rfl ?_
  refine gf_RX2_70 (blk_get0 KSx_b2) dX2_takeNumber_47 ?_
  refine c_callVv (as := [.inl 2, .inl (M 2 4)]) (rs := []) (ev_X2_fail 0 (Nat.le_refl _) 2 (M 2 4) M) rfl (Nat.lt_of_lt_of_le (by decide) hlev) mw_X2_fail wi_X2_fail wv_X2_fail (blk_get0 KSx_b2) (by decide) rfl wl_RX2_73 mn_X2_fail rfl (by decide) (Nat.le_of_ble_eq_true rfl) rfl dX2_takeNumber_50 (fun v4 M5 _ => ?_)
  refine c_goto (tgt := 75) dX2_takeNumber_53 rfl ?_
  refine c_keep [1] (ls2 := [(1, .inl x1)]) rfl ?_
  exact jo_X2_takeNumber_75 d hlev x1 M5
def f_X2_takeNumber (x1 : Int32) (x2 : Int32) (M : Mem) : Option (Int32 × Mem) := if inb (M 2 2) 901 then if (M 2 3) = 28 then if (M 6 (ix (M 2 2))) < x1 then j_X2_takeNumber_44 x1 M else if (M 6 (ix (M 2 2))) ≤ x2 then if ¬ (M 2 5) = 0 then j_X2_takeNumber_75 x1 M else bnd (f_X2_goTo ((M 2 2) + 1) M) (fun _ M9 => some (M 6 (ix (M 2 2)), M9)) else j_X2_takeNumber_44 x1 M else bnd (f_X2_fail 1 (M 2 4) M) (fun _ M11 => j_X2_takeNumber_75 x1 M11) else none
set_option maxRecDepth 20000 in
set_option maxHeartbeats 2000000 in
theorem ev_X2_takeNumber (d : Nat) (hlev : 1 ≤ d) (x1 : Int32) (x2 : Int32) (M : Mem) : Ev KSx ST1 mdX2_takeNumber d [.inr 2, .inl x1, .inl x2] M (f_X2_takeNumber x1 x2 M) := by
  refine ev_of rfl (Nat.le_of_ble_eq_true rfl) ?_
  show CorM KSx ST1 RX2 cX2_takeNumber 4 (some .int) d 0 [(0, .inr 2), (1, .inl x1), (2, .inl x2)] [] M (f_X2_takeNumber x1 x2 M)
  unfold f_X2_takeNumber
  refine c_aload_n (i := 0) dX2_takeNumber_0 rfl rfl ?_
  refine gf_RX2_12 (blk_get0 KSx_b2) dX2_takeNumber_1 ?_
  refine gf_RX2_135 (blk_get0 (blk_sub (C := blk7) (i := 1) KSx_b2 rfl)) dX2_takeNumber_4 ?_
  refine c_aload_n (i := 0) dX2_takeNumber_7 rfl rfl ?_
  refine gf_RX2_138 (blk_get0 KSx_b2) dX2_takeNumber_8 ?_
  refine c_chk (fun h1 => ?_)
  refine c_iald (blk_get0 (blk_sub (C := [(20, 901)]) (i := 3) (blk_sub (C := blk7) (i := 1) KSx_b2 rfl) rfl)) h1 dX2_takeNumber_11 ?_
  refine c_istore_n (i := 3) dX2_takeNumber_12 rfl (by decide) (ls2 := [(0, .inr 2), (1, .inl x1), (2, .inl x2), (3, .inl (M 6 (ix (M 2 2))))]) rfl ?_
  refine c_aload_n (i := 0) dX2_takeNumber_13 rfl rfl ?_
  refine gf_RX2_48 (blk_get0 KSx_b2) dX2_takeNumber_14 ?_
  refine c_bipush dX2_takeNumber_17 (v := 28) rfl ?_
  refine c_icmp_eq (tgt := 34) dX2_takeNumber_19 rfl (fun h2 => ?_) (fun h2 => ?_)
  · refine c_iload_n (i := 3) dX2_takeNumber_34 rfl rfl ?_
    refine c_iload_n (i := 1) dX2_takeNumber_35 rfl rfl ?_
    refine c_icmp_lt (tgt := 44) dX2_takeNumber_36 rfl (fun h3 => ?_) (fun h3 => ?_)
    · refine c_keep [0, 1] (ls2 := [(0, .inr 2), (1, .inl x1)]) rfl ?_
      exact jo_X2_takeNumber_44 d hlev x1 M
    · refine c_iload_n (i := 3) dX2_takeNumber_39 rfl rfl ?_
      refine c_iload_n (i := 2) dX2_takeNumber_40 rfl rfl ?_
      refine c_icmp_le (tgt := 56) dX2_takeNumber_41 rfl (fun h6 => ?_) (fun h6 => ?_)
      · refine c_aload_n (i := 0) dX2_takeNumber_56 rfl rfl ?_
        refine gf_RX2_31 (blk_get0 KSx_b2) dX2_takeNumber_57 ?_
        refine c_if_ne (tgt := 75) dX2_takeNumber_60 rfl (fun h7 => ?_) (fun h7 => ?_)
        · refine c_keep [1] (ls2 := [(1, .inl x1)]) rfl ?_
          exact jo_X2_takeNumber_75 d hlev x1 M
        · refine c_aload_n (i := 0) dX2_takeNumber_63 rfl rfl ?_
          refine c_aload_n (i := 0) dX2_takeNumber_64 rfl rfl ?_
          refine gf_RX2_138 (blk_get0 KSx_b2) dX2_takeNumber_65 ?_
          refine c_iconst dX2_takeNumber_68 (v := 1) rfl ?_
          refine c_iadd dX2_takeNumber_69 ?_
          refine c_callVv (as := [.inl ((M 2 2) + 1)]) (rs := []) (ev_X2_goTo 0 (Nat.le_refl _) ((M 2 2) + 1) M) rfl (Nat.lt_of_lt_of_le (by decide) hlev) mw_X2_goTo wi_X2_goTo wv_X2_goTo (blk_get0 KSx_b2) (by decide) rfl wl_RX2_38 mn_X2_goTo rfl (by decide) (Nat.le_of_ble_eq_true rfl) rfl dX2_takeNumber_70 (fun v8 M9 _ => ?_)
          refine c_iload_n (i := 3) dX2_takeNumber_73 rfl rfl ?_
          exact c_iret rfl dX2_takeNumber_74
      · refine c_keep [0, 1] (ls2 := [(0, .inr 2), (1, .inl x1)]) rfl ?_
        exact jo_X2_takeNumber_44 d hlev x1 M
  · refine c_aload_n (i := 0) dX2_takeNumber_22 rfl rfl ?_
    refine c_iconst dX2_takeNumber_23 (v := 1) rfl ?_
    refine c_aload_n (i := 0) dX2_takeNumber_24 rfl rfl ?_
    refine gf_RX2_70 (blk_get0 KSx_b2) dX2_takeNumber_25 ?_
    refine c_callVv (as := [.inl 1, .inl (M 2 4)]) (rs := []) (ev_X2_fail 0 (Nat.le_refl _) 1 (M 2 4) M) rfl (Nat.lt_of_lt_of_le (by decide) hlev) mw_X2_fail wi_X2_fail wv_X2_fail (blk_get0 KSx_b2) (by decide) rfl wl_RX2_73 mn_X2_fail rfl (by decide) (Nat.le_of_ble_eq_true rfl) rfl dX2_takeNumber_28 (fun v10 M11 _ => ?_)
    refine c_goto (tgt := 75) dX2_takeNumber_31 rfl ?_
    refine c_keep [1] (ls2 := [(1, .inl x1)]) rfl ?_
    exact jo_X2_takeNumber_75 d hlev x1 M11

abbrev mdX2_parseSizes : MD := (yX2_parseSizes, cX2_parseSizes, 1, none)
theorem mw_X2_parseSizes : mdW mdX2_parseSizes := ⟨wm_X2_parseSizes, w0_RX2, by decide, by decide⟩
theorem mn_X2_parseSizes : (parseMethodDescriptor yX2_parseSizes.desc).map (fun d => d.parameters.length) = some 0 := by decide +kernel
def f_X2_parseSizes (M : Mem) : Option (Int32 × Mem) := bnd (f_X2_take 23 M) (fun _ M2 => if ¬ M2 2 1 < 0 ∧ blkD KSx (ix (M2 2 1)) blk4 then bnd (f_X2_takeNumber 1 8 M2) (fun v4 M5 => wrt (up M5 (ix (M2 2 1)) 0 v4) (fun M6 => bnd (f_X2_take 24 M6) (fun _ M8 => if ¬ M8 2 1 < 0 ∧ blkD KSx (ix (M8 2 1)) blk4 then bnd (f_X2_takeNumber 1 16 M8) (fun v10 M11 => wrt (up M11 (ix (M8 2 1)) 1 v10) (fun M12 => bnd (f_X2_take 25 M12) (fun _ M14 => if ¬ M14 2 1 < 0 ∧ blkD KSx (ix (M14 2 1)) blk4 then bnd (f_X2_takeNumber 1 8 M14) (fun v16 M17 => wrt (up M17 (ix (M14 2 1)) 2 v16) (fun M18 => bnd (f_X2_take 30 M18) (fun _ M20 => some (0, M20)))) else none))) else none))) else none)
set_option maxRecDepth 20000 in
set_option maxHeartbeats 2000000 in
theorem ev_X2_parseSizes (d : Nat) (hlev : 2 ≤ d) (M : Mem) : Ev KSx ST1 mdX2_parseSizes d [.inr 2] M (f_X2_parseSizes M) := by
  refine ev_of rfl (Nat.le_of_ble_eq_true rfl) ?_
  show CorM KSx ST1 RX2 cX2_parseSizes 1 none d 0 [(0, .inr 2)] [] M (f_X2_parseSizes M)
  unfold f_X2_parseSizes
  refine c_aload_n (i := 0) dX2_parseSizes_0 rfl rfl ?_
  refine c_bipush dX2_parseSizes_1 (v := 23) rfl ?_
  refine c_callVv (as := [.inl 23]) (rs := []) (ev_X2_take 1 (Nat.le_refl _) 23 M) rfl (Nat.lt_of_lt_of_le (by decide) hlev) mw_X2_take wi_X2_take wv_X2_take (blk_get0 KSx_b2) (by decide) rfl wl_RX2_54 mn_X2_take rfl (by decide) (Nat.le_of_ble_eq_true rfl) rfl dX2_parseSizes_3 (fun v1 M2 _ => ?_)
  refine c_aload_n (i := 0) dX2_parseSizes_6 rfl rfl ?_
  refine c_chk (fun h3 => ?_)
  refine gf_RX2_22 (blk_get0 KSx_b2) h3.1 dX2_parseSizes_7 ?_
  refine c_aload_n (i := 0) dX2_parseSizes_10 rfl rfl ?_
  refine c_iconst dX2_parseSizes_11 (v := 1) rfl ?_
  refine c_bipush dX2_parseSizes_12 (v := 8) rfl ?_
  refine c_callV (as := [.inl 1, .inl 8]) (rs := [.inr (ix (M2 2 1))]) (ev_X2_takeNumber 1 (Nat.le_refl _) 1 8 M2) rfl (Nat.lt_of_lt_of_le (by decide) hlev) mw_X2_takeNumber wi_X2_takeNumber wv_X2_takeNumber (blk_get0 KSx_b2) (by decide) rfl wl_RX2_57 mn_X2_takeNumber rfl (by decide) (Nat.le_of_ble_eq_true rfl) ⟨_, rfl⟩ dX2_parseSizes_14 (fun v4 M5 _ => ?_)
  refine pf_RX2_61 (blk_get0 (blk_of h3.2)) dX2_parseSizes_17 ?_
  refine c_wrt (fun M6 => ?_)
  refine c_aload_n (i := 0) dX2_parseSizes_20 rfl rfl ?_
  refine c_bipush dX2_parseSizes_21 (v := 24) rfl ?_
  refine c_callVv (as := [.inl 24]) (rs := []) (ev_X2_take 1 (Nat.le_refl _) 24 M6) rfl (Nat.lt_of_lt_of_le (by decide) hlev) mw_X2_take wi_X2_take wv_X2_take (blk_get0 KSx_b2) (by decide) rfl wl_RX2_54 mn_X2_take rfl (by decide) (Nat.le_of_ble_eq_true rfl) rfl dX2_parseSizes_23 (fun v7 M8 _ => ?_)
  refine c_aload_n (i := 0) dX2_parseSizes_26 rfl rfl ?_
  refine c_chk (fun h9 => ?_)
  refine gf_RX2_22 (blk_get0 KSx_b2) h9.1 dX2_parseSizes_27 ?_
  refine c_aload_n (i := 0) dX2_parseSizes_30 rfl rfl ?_
  refine c_iconst dX2_parseSizes_31 (v := 1) rfl ?_
  refine c_bipush dX2_parseSizes_32 (v := 16) rfl ?_
  refine c_callV (as := [.inl 1, .inl 16]) (rs := [.inr (ix (M8 2 1))]) (ev_X2_takeNumber 1 (Nat.le_refl _) 1 16 M8) rfl (Nat.lt_of_lt_of_le (by decide) hlev) mw_X2_takeNumber wi_X2_takeNumber wv_X2_takeNumber (blk_get0 KSx_b2) (by decide) rfl wl_RX2_57 mn_X2_takeNumber rfl (by decide) (Nat.le_of_ble_eq_true rfl) ⟨_, rfl⟩ dX2_parseSizes_34 (fun v10 M11 _ => ?_)
  refine pf_RX2_64 (blk_get0 (blk_of h9.2)) dX2_parseSizes_37 ?_
  refine c_wrt (fun M12 => ?_)
  refine c_aload_n (i := 0) dX2_parseSizes_40 rfl rfl ?_
  refine c_bipush dX2_parseSizes_41 (v := 25) rfl ?_
  refine c_callVv (as := [.inl 25]) (rs := []) (ev_X2_take 1 (Nat.le_refl _) 25 M12) rfl (Nat.lt_of_lt_of_le (by decide) hlev) mw_X2_take wi_X2_take wv_X2_take (blk_get0 KSx_b2) (by decide) rfl wl_RX2_54 mn_X2_take rfl (by decide) (Nat.le_of_ble_eq_true rfl) rfl dX2_parseSizes_43 (fun v13 M14 _ => ?_)
  refine c_aload_n (i := 0) dX2_parseSizes_46 rfl rfl ?_
  refine c_chk (fun h15 => ?_)
  refine gf_RX2_22 (blk_get0 KSx_b2) h15.1 dX2_parseSizes_47 ?_
  refine c_aload_n (i := 0) dX2_parseSizes_50 rfl rfl ?_
  refine c_iconst dX2_parseSizes_51 (v := 1) rfl ?_
  refine c_bipush dX2_parseSizes_52 (v := 8) rfl ?_
  refine c_callV (as := [.inl 1, .inl 8]) (rs := [.inr (ix (M14 2 1))]) (ev_X2_takeNumber 1 (Nat.le_refl _) 1 8 M14) rfl (Nat.lt_of_lt_of_le (by decide) hlev) mw_X2_takeNumber wi_X2_takeNumber wv_X2_takeNumber (blk_get0 KSx_b2) (by decide) rfl wl_RX2_57 mn_X2_takeNumber rfl (by decide) (Nat.le_of_ble_eq_true rfl) ⟨_, rfl⟩ dX2_parseSizes_54 (fun v16 M17 _ => ?_)
  refine pf_RX2_67 (blk_get0 (blk_of h15.2)) dX2_parseSizes_57 ?_
  refine c_wrt (fun M18 => ?_)
  refine c_aload_n (i := 0) dX2_parseSizes_60 rfl rfl ?_
  refine c_bipush dX2_parseSizes_61 (v := 30) rfl ?_
  refine c_callVv (as := [.inl 30]) (rs := []) (ev_X2_take 1 (Nat.le_refl _) 30 M18) rfl (Nat.lt_of_lt_of_le (by decide) hlev) mw_X2_take wi_X2_take wv_X2_take (blk_get0 KSx_b2) (by decide) rfl wl_RX2_54 mn_X2_take rfl (by decide) (Nat.le_of_ble_eq_true rfl) rfl dX2_parseSizes_63 (fun v19 M20 _ => ?_)
  exact c_vret rfl dX2_parseSizes_66

abbrev mdX2_parseSettings : MD := (yX2_parseSettings, cX2_parseSettings, 4, none)
theorem mw_X2_parseSettings : mdW mdX2_parseSettings := ⟨wm_X2_parseSettings, w0_RX2, by decide, by decide⟩
theorem mn_X2_parseSettings : (parseMethodDescriptor yX2_parseSettings.desc).map (fun d => d.parameters.length) = some 0 := by decide +kernel
def j_X2_parseSettings_28 (M : Mem) : Option (Int32 × Mem) := some (0, M)
set_option maxRecDepth 20000 in
set_option maxHeartbeats 2000000 in
theorem jo_X2_parseSettings_28 (d : Nat) (hlev : 2 ≤ d) (M : Mem) : CorM KSx ST1 RX2 cX2_parseSettings 4 none d 28 [] [] M (j_X2_parseSettings_28 M) := by
  unfold j_X2_parseSettings_28
  exact c_vret rfl dX2_parseSettings_28
def l_X2_parseSettings_4 (K4 : Int32 × Int32 × Mem → Option (Int32 × Mem)) : Int32 × Int32 × Mem → Option (Int32 × Mem) := fun s => match s with
  | (x1, x2, M) => if 9 < x2 then some (0, M) else if ¬ (M 2 5) = 0 then j_X2_parseSettings_28 M else if (M 2 3) < 9 then if ((x1 >>> ((M 2 3) &&& 31)) &&& 1) = 0 then bnd (f_X2_take (M 2 3) M) (fun _ M6 => if ¬ M6 2 1 < 0 ∧ blkD KSx (ix (M6 2 1)) blk4 then if inb (M 2 3) 9 then if inb (M 2 3) 9 then bnd (f_X2_takeNumber (statA 900 (ix (M 2 3))) (statA 901 (ix (M 2 3))) M6) (fun v10 M11 => if inb (M 2 3) 9 then wrt (up M11 (ix (M6 2 1) + 1) (ix (M 2 3)) v10) (fun M13 => bnd (f_X2_take 30 M13) (fun _ M15 => K4 (x1 ||| (1 <<< ((M 2 3) &&& 31)), x2 + 1, M15))) else none) else none else none else none) else bnd (f_X2_fail 3 (M 2 4) M) (fun _ M17 => some (0, M17)) else j_X2_parseSettings_28 M
set_option maxRecDepth 20000 in
set_option maxHeartbeats 2000000 in
theorem lo_X2_parseSettings_4 (d : Nat) (hlev : 2 ≤ d) (s : Int32 × Int32 × Mem) : CorM KSx ST1 RX2 cX2_parseSettings 4 none d 4 [(0, .inr 2), (1, .inl s.1), (2, .inl s.2.1)] [] s.2.2 (loopC (l_X2_parseSettings_4) fuelL s) := by
  refine c_loop (L := fun s : Int32 × Int32 × Mem => [(0, .inr 2), (1, .inl s.1), (2, .inl s.2.1)]) (Mf := fun s : Int32 × Int32 × Mem => s.2.2) (fun K4 hK4 s => ?_) fuelL s
  obtain ⟨x1, x2, M⟩ := s
  show CorM KSx ST1 RX2 cX2_parseSettings 4 none d 4 [(0, .inr 2), (1, .inl x1), (2, .inl x2)] [] M (l_X2_parseSettings_4 K4 (x1, x2, M))
  unfold l_X2_parseSettings_4
  refine c_iload_n (i := 2) dX2_parseSettings_4 rfl rfl ?_
  refine c_bipush dX2_parseSettings_5 (v := 9) rfl ?_
  refine c_icmp_gt (tgt := 93) dX2_parseSettings_7 rfl (fun h1 => ?_) (fun h1 => ?_)
  · exact c_vret rfl dX2_parseSettings_93
  · refine c_aload_n (i := 0) dX2_parseSettings_10 rfl rfl ?_
    refine gf_RX2_48 (blk_get0 KSx_b2) dX2_parseSettings_11 ?_
    refine c_istore_n (i := 3) dX2_parseSettings_14 rfl (by decide) (ls2 := [(0, .inr 2), (1, .inl x1), (2, .inl x2), (3, .inl (M 2 3))]) rfl ?_
    refine c_aload_n (i := 0) dX2_parseSettings_15 rfl rfl ?_
    refine gf_RX2_31 (blk_get0 KSx_b2) dX2_parseSettings_16 ?_
    refine c_if_ne (tgt := 28) dX2_parseSettings_19 rfl (fun h2 => ?_) (fun h2 => ?_)
    · refine c_keep [] (ls2 := []) rfl ?_
      exact jo_X2_parseSettings_28 d hlev M
    · refine c_iload_n (i := 3) dX2_parseSettings_22 rfl rfl ?_
      refine c_bipush dX2_parseSettings_23 (v := 9) rfl ?_
      refine c_icmp_lt (tgt := 29) dX2_parseSettings_25 rfl (fun h3 => ?_) (fun h3 => ?_)
      · refine c_iload_n (i := 1) dX2_parseSettings_29 rfl rfl ?_
        refine c_iload_n (i := 3) dX2_parseSettings_30 rfl rfl ?_
        refine c_ishr dX2_parseSettings_31 ?_
        refine c_iconst dX2_parseSettings_32 (v := 1) rfl ?_
        refine c_iand dX2_parseSettings_33 ?_
        refine c_if_eq (tgt := 47) dX2_parseSettings_34 rfl (fun h4 => ?_) (fun h4 => ?_)
        · refine c_iload_n (i := 1) dX2_parseSettings_47 rfl rfl ?_
          refine c_iconst dX2_parseSettings_48 (v := 1) rfl ?_
          refine c_iload_n (i := 3) dX2_parseSettings_49 rfl rfl ?_
          refine c_ishl dX2_parseSettings_50 ?_
          refine c_ior dX2_parseSettings_51 ?_
          refine c_istore_n (i := 1) dX2_parseSettings_52 rfl (by decide) (ls2 := [(0, .inr 2), (1, .inl (x1 ||| (1 <<< ((M 2 3) &&& 31)))), (2, .inl x2), (3, .inl (M 2 3))]) rfl ?_
          refine c_aload_n (i := 0) dX2_parseSettings_53 rfl rfl ?_
          refine c_iload_n (i := 3) dX2_parseSettings_54 rfl rfl ?_
          refine c_callVv (as := [.inl (M 2 3)]) (rs := []) (ev_X2_take 1 (Nat.le_refl _) (M 2 3) M) rfl (Nat.lt_of_lt_of_le (by decide) hlev) mw_X2_take wi_X2_take wv_X2_take (blk_get0 KSx_b2) (by decide) rfl wl_RX2_54 mn_X2_take rfl (by decide) (Nat.le_of_ble_eq_true rfl) rfl dX2_parseSettings_55 (fun v5 M6 _ => ?_)
          refine c_aload_n (i := 0) dX2_parseSettings_58 rfl rfl ?_
          refine c_chk (fun h7 => ?_)
          refine gf_RX2_22 (blk_get0 KSx_b2) h7.1 dX2_parseSettings_59 ?_
          refine gf_RX2_77 (blk_get0 (blk_of h7.2)) dX2_parseSettings_62 ?_
          refine c_iload_n (i := 3) dX2_parseSettings_65 rfl rfl ?_
          refine c_aload_n (i := 0) dX2_parseSettings_66 rfl rfl ?_
          refine c_gets (j := 900) (by decide) gs_RX2_81 dX2_parseSettings_67 ?_
          refine c_iload_n (i := 3) dX2_parseSettings_70 rfl rfl ?_
          refine c_chk (fun h8 => ?_)
          refine c_sald (by decide) h8 dX2_parseSettings_71 ?_
          refine c_gets (j := 901) (by decide) gs_RX2_84 dX2_parseSettings_72 ?_
          refine c_iload_n (i := 3) dX2_parseSettings_75 rfl rfl ?_
          refine c_chk (fun h9 => ?_)
          refine c_sald (by decide) h9 dX2_parseSettings_76 ?_
          refine c_callV (as := [.inl (statA 900 (ix (M 2 3))), .inl (statA 901 (ix (M 2 3)))]) (rs := [.inl (M 2 3), .inr (ix (M6 2 1) + 1)]) (ev_X2_takeNumber 1 (Nat.le_refl _) (statA 900 (ix (M 2 3))) (statA 901 (ix (M 2 3))) M6) rfl (Nat.lt_of_lt_of_le (by decide) hlev) mw_X2_takeNumber wi_X2_takeNumber wv_X2_takeNumber (blk_get0 KSx_b2) (by decide) rfl wl_RX2_57 mn_X2_takeNumber rfl (by decide) (Nat.le_of_ble_eq_true rfl) ⟨_, rfl⟩ dX2_parseSettings_77 (fun v10 M11 _ => ?_)
          refine c_chk (fun h12 => ?_)
          refine c_iast (blk_get0 (blk_sub (C := [(20, 9)]) (i := 1) (blk_of h7.2) rfl)) h12 dX2_parseSettings_80 ?_
          refine c_wrt (fun M13 => ?_)
          refine c_aload_n (i := 0) dX2_parseSettings_81 rfl rfl ?_
          refine c_bipush dX2_parseSettings_82 (v := 30) rfl ?_
          refine c_callVv (as := [.inl 30]) (rs := []) (ev_X2_take 1 (Nat.le_refl _) 30 M13) rfl (Nat.lt_of_lt_of_le (by decide) hlev) mw_X2_take wi_X2_take wv_X2_take (blk_get0 KSx_b2) (by decide) rfl wl_RX2_54 mn_X2_take rfl (by decide) (Nat.le_of_ble_eq_true rfl) rfl dX2_parseSettings_84 (fun v14 M15 _ => ?_)
          refine c_iinc dX2_parseSettings_87 rfl (v := 1) rfl (by decide) (ls2 := [(0, .inr 2), (1, .inl (x1 ||| (1 <<< ((M 2 3) &&& 31)))), (2, .inl (x2 + 1)), (3, .inl (M 2 3))]) rfl ?_
          refine c_goto (tgt := 4) dX2_parseSettings_90 rfl ?_
          refine c_keep [0, 1, 2] (ls2 := [(0, .inr 2), (1, .inl (x1 ||| (1 <<< ((M 2 3) &&& 31)))), (2, .inl (x2 + 1))]) rfl ?_
          exact hK4 (x1 ||| (1 <<< ((M 2 3) &&& 31)), x2 + 1, M15)
        · refine c_aload_n (i := 0) dX2_parseSettings_37 rfl rfl ?_
          refine c_iconst dX2_parseSettings_38 (v := 3) rfl ?_
          refine c_aload_n (i := 0) dX2_parseSettings_39 rfl rfl ?_
          refine gf_RX2_70 (blk_get0 KSx_b2) dX2_parseSettings_40 ?_
          refine c_callVv (as := [.inl 3, .inl (M 2 4)]) (rs := []) (ev_X2_fail 0 (Nat.le_refl _) 3 (M 2 4) M) rfl (Nat.lt_of_lt_of_le (by decide) hlev) mw_X2_fail wi_X2_fail wv_X2_fail (blk_get0 KSx_b2) (by decide) rfl wl_RX2_73 mn_X2_fail rfl (by decide) (Nat.le_of_ble_eq_true rfl) rfl dX2_parseSettings_43 (fun v16 M17 _ => ?_)
          exact c_vret rfl dX2_parseSettings_46
      · refine c_keep [] (ls2 := []) rfl ?_
        exact jo_X2_parseSettings_28 d hlev M
def f_X2_parseSettings (M : Mem) : Option (Int32 × Mem) := loopC (l_X2_parseSettings_4) fuelL (0, 0, M)
set_option maxRecDepth 20000 in
set_option maxHeartbeats 2000000 in
theorem ev_X2_parseSettings (d : Nat) (hlev : 2 ≤ d) (M : Mem) : Ev KSx ST1 mdX2_parseSettings d [.inr 2] M (f_X2_parseSettings M) := by
  refine ev_of rfl (Nat.le_of_ble_eq_true rfl) ?_
  show CorM KSx ST1 RX2 cX2_parseSettings 4 none d 0 [(0, .inr 2)] [] M (f_X2_parseSettings M)
  unfold f_X2_parseSettings
  refine c_iconst dX2_parseSettings_0 (v := 0) rfl ?_
  refine c_istore_n (i := 1) dX2_parseSettings_1 rfl (by decide) (ls2 := [(0, .inr 2), (1, .inl 0)]) rfl ?_
  refine c_iconst dX2_parseSettings_2 (v := 0) rfl ?_
  refine c_istore_n (i := 2) dX2_parseSettings_3 rfl (by decide) (ls2 := [(0, .inr 2), (1, .inl 0), (2, .inl 0)]) rfl ?_
  refine c_keep [0, 1, 2] (ls2 := [(0, .inr 2), (1, .inl 0), (2, .inl 0)]) rfl ?_
  exact lo_X2_parseSettings_4 d hlev (0, 0, M)

abbrev mdX9_isIn : MD := (yX9_isIn, cX9_isIn, 2, (some .boolean))
theorem mw_X9_isIn : mdW mdX9_isIn := ⟨wm_X9_isIn, w0_RX9, by decide, by decide⟩
theorem mn_X9_isIn : (parseMethodDescriptor yX9_isIn.desc).map (fun d => d.parameters.length) = some 2 := by decide +kernel
def p_X9_isIn (x0 : Int32) (x1 : Int32) : Int32 := (if ((x1 >>> (x0 &&& 31)) &&& 1) = 0 then (0 : Int32) else (1 : Int32))
theorem pz_X9_isIn (x0 : Int32) (x1 : Int32) : isB (p_X9_isIn x0 x1) := by
  unfold p_X9_isIn
  repeat' (first | apply isB_ite | exact Or.inl rfl | exact Or.inr rfl | apply_assumption)
set_option maxRecDepth 20000 in
set_option maxHeartbeats 2000000 in
theorem ev_X9_isIn (d : Nat) (hlev : 0 ≤ d) (x0 : Int32) (x1 : Int32) (M : Mem) : Ev KSx ST1 mdX9_isIn d [.inl x0, .inl x1] M (some (p_X9_isIn x0 x1, M)) := by
  refine ev_of rfl (Nat.le_of_ble_eq_true rfl) ?_
  show CorM KSx ST1 RX9 cX9_isIn 2 (some .boolean) d 0 [(0, .inl x0), (1, .inl x1)] [] M (some (p_X9_isIn x0 x1, M))
  unfold p_X9_isIn
  refine c_iload_n (i := 1) dX9_isIn_0 rfl rfl ?_
  refine c_iload_n (i := 0) dX9_isIn_1 rfl rfl ?_
  refine c_ishr dX9_isIn_2 ?_
  refine c_iconst dX9_isIn_3 (v := 1) rfl ?_
  refine c_iand dX9_isIn_4 ?_
  have J_z1 : ∀ z1 : Int32, isB z1 → CorM KSx ST1 RX9 cX9_isIn 2 (some .boolean) d 13 [] [.inl z1] M (some (z1, M)) := by
    intro z1 h_z1
    exact c_zret rfl h_z1 dX9_isIn_13
  refine c_val (b := ((x1 >>> (x0 &&& 31)) &&& 1) = 0) (v1 := (0 : Int32)) (v2 := (1 : Int32)) (F := fun z1 => some (z1, M)) (fun h2 => ?_) (fun h2 => ?_)
  · refine c_T h2 (c_if_eq (tgt := 12) dX9_isIn_5 rfl (fun _ => ?_) (fun q => absurd h2 q))
    refine c_iconst dX9_isIn_12 (v := 0) rfl ?_
    refine c_keep [] (ls2 := []) rfl ?_
    exact J_z1 0 (Or.inl rfl)
  · refine c_Fl h2 (c_if_eq (tgt := 12) dX9_isIn_5 rfl (fun q => absurd q h2) (fun _ => ?_))
    refine c_iconst dX9_isIn_8 (v := 1) rfl ?_
    refine c_goto (tgt := 13) dX9_isIn_9 rfl ?_
    refine c_keep [] (ls2 := []) rfl ?_
    exact J_z1 1 (Or.inr rfl)

abbrev mdX2_takeBanks : MD := (yX2_takeBanks, cX2_takeBanks, 6, (some .int))
theorem mw_X2_takeBanks : mdW mdX2_takeBanks := ⟨wm_X2_takeBanks, w0_RX2, by decide, by decide⟩
theorem mn_X2_takeBanks : (parseMethodDescriptor yX2_takeBanks.desc).map (fun d => d.parameters.length) = some 0 := by decide +kernel
def j_X2_takeBanks_40 (x1 : Int32) (M : Mem) : Option (Int32 × Mem) := some (x1, M)
set_option maxRecDepth 20000 in
set_option maxHeartbeats 2000000 in
theorem jo_X2_takeBanks_40 (d : Nat) (hlev : 2 ≤ d) (x1 : Int32) (M : Mem) : CorM KSx ST1 RX2 cX2_takeBanks 6 (some .int) d 40 [(1, .inl x1)] [] M (j_X2_takeBanks_40 x1 M) := by
  unfold j_X2_takeBanks_40
  refine c_iload_n (i := 1) dX2_takeBanks_40 rfl rfl ?_
  exact c_iret rfl dX2_takeBanks_41
def j_X2_takeBanks_80 (x1 : Int32) (x2 : Int32) (x5 : Int32) (K4 : Int32 × Int32 × Mem → Option (Int32 × Mem)) (M : Mem) : Option (Int32 × Mem) := K4 (x1 ||| (1 <<< (x5 &&& 31)), x2 + 1, M)
set_option maxRecDepth 20000 in
set_option maxHeartbeats 2000000 in
theorem jo_X2_takeBanks_80 (d : Nat) (hlev : 2 ≤ d) (x1 : Int32) (x2 : Int32) (x5 : Int32) (K4 : Int32 × Int32 × Mem → Option (Int32 × Mem)) (hK4 : ∀ s : Int32 × Int32 × Mem, CorM KSx ST1 RX2 cX2_takeBanks 6 (some .int) d 4 [(0, .inr 2), (1, .inl s.1), (2, .inl s.2.1)] [] s.2.2 (K4 s)) (M : Mem) : CorM KSx ST1 RX2 cX2_takeBanks 6 (some .int) d 80 [(0, .inr 2), (1, .inl x1), (2, .inl x2), (5, .inl x5)] [] M (j_X2_takeBanks_80 x1 x2 x5 K4 M) := by
  unfold j_X2_takeBanks_80
  refine c_iload_n (i := 1) dX2_takeBanks_80 rfl rfl ?_
  refine c_iconst dX2_takeBanks_81 (v := 1) rfl ?_
  refine c_iload dX2_takeBanks_82 rfl ?_
  refine c_ishl dX2_takeBanks_84 ?_
  refine c_ior dX2_takeBanks_85 ?_
  refine c_istore_n (i := 1) dX2_takeBanks_86 rfl (by decide) (ls2 := [(0, .inr 2), (1, .inl (x1 ||| (1 <<< (x5 &&& 31)))), (2, .inl x2), (5, .inl x5)]) rfl ?_
  refine c_iinc dX2_takeBanks_87 rfl (v := 1) rfl (by decide) (ls2 := [(0, .inr 2), (1, .inl (x1 ||| (1 <<< (x5 &&& 31)))), (2, .inl (x2 + 1)), (5, .inl x5)]) rfl ?_
  refine c_goto (tgt := 4) dX2_takeBanks_90 rfl ?_
  refine c_keep [0, 1, 2] (ls2 := [(0, .inr 2), (1, .inl (x1 ||| (1 <<< (x5 &&& 31)))), (2, .inl (x2 + 1))]) rfl ?_
  exact hK4 (x1 ||| (1 <<< (x5 &&& 31)), x2 + 1, M)
def l_X2_takeBanks_4 (K4 : Int32 × Int32 × Mem → Option (Int32 × Mem)) : Int32 × Int32 × Mem → Option (Int32 × Mem) := fun s => match s with
  | (x1, x2, M) => if 8 < x2 then some (x1, M) else if ¬ (M 2 5) = 0 then j_X2_takeBanks_40 x1 M else if (if x2 ≤ 0 then (0 : Int32) else if ¬ (M 2 3) = 29 then (0 : Int32) else (1 : Int32)) = 0 then if ¬ M 2 1 < 0 ∧ blkD KSx (ix (M 2 1)) blk4 then bnd (f_X2_takeNumber 0 ((M (ix (M 2 1)) 0) - 1) M) (fun v6 M7 => if (p_X9_isIn v6 x1) = 0 then j_X2_takeBanks_80 x1 x2 v6 K4 M7 else bnd (f_X2_fail 3 (M 2 4) M7) (fun _ M10 => j_X2_takeBanks_80 x1 x2 v6 K4 M10)) else none else j_X2_takeBanks_40 x1 M
set_option maxRecDepth 20000 in
set_option maxHeartbeats 2000000 in
theorem lo_X2_takeBanks_4 (d : Nat) (hlev : 2 ≤ d) (s : Int32 × Int32 × Mem) : CorM KSx ST1 RX2 cX2_takeBanks 6 (some .int) d 4 [(0, .inr 2), (1, .inl s.1), (2, .inl s.2.1)] [] s.2.2 (loopC (l_X2_takeBanks_4) fuelL s) := by
  refine c_loop (L := fun s : Int32 × Int32 × Mem => [(0, .inr 2), (1, .inl s.1), (2, .inl s.2.1)]) (Mf := fun s : Int32 × Int32 × Mem => s.2.2) (fun K4 hK4 s => ?_) fuelL s
  obtain ⟨x1, x2, M⟩ := s
  show CorM KSx ST1 RX2 cX2_takeBanks 6 (some .int) d 4 [(0, .inr 2), (1, .inl x1), (2, .inl x2)] [] M (l_X2_takeBanks_4 K4 (x1, x2, M))
  unfold l_X2_takeBanks_4
  refine c_iload_n (i := 2) dX2_takeBanks_4 rfl rfl ?_
  refine c_bipush dX2_takeBanks_5 (v := 8) rfl ?_
  refine c_icmp_gt (tgt := 93) dX2_takeBanks_7 rfl (fun h1 => ?_) (fun h1 => ?_)
  · refine c_iload_n (i := 1) dX2_takeBanks_93 rfl rfl ?_
    exact c_iret rfl dX2_takeBanks_94
  · refine c_iload_n (i := 2) dX2_takeBanks_10 rfl rfl ?_
    have J_z2 : ∀ z2 : Int32, isB z2 → CorM KSx ST1 RX2 cX2_takeBanks 6 (some .int) d 28 [(0, .inr 2), (1, .inl x1), (2, .inl x2)] [.inl z2] M (if ¬ (M 2 5) = 0 then j_X2_takeBanks_40 x1 M else if z2 = 0 then if ¬ M 2 1 < 0 ∧ blkD KSx (ix (M 2 1)) blk4 then bnd (f_X2_takeNumber 0 ((M (ix (M 2 1)) 0) - 1) M) (fun v6 M7 => if (p_X9_isIn v6 x1) = 0 then j_X2_takeBanks_80 x1 x2 v6 K4 M7 else bnd (f_X2_fail 3 (M 2 4) M7) (fun _ M10 => j_X2_takeBanks_80 x1 x2 v6 K4 M10)) else none else j_X2_takeBanks_40 x1 M) := by
      intro z2 h_z2
      refine c_istore_n (i := 3) dX2_takeBanks_28 rfl (by decide) (ls2 := [(0, .inr 2), (1, .inl x1), (2, .inl x2), (3, .inl z2)]) rfl ?_
      refine c_aload_n (i := 0) dX2_takeBanks_29 rfl rfl ?_
      refine gf_RX2_31 (blk_get0 KSx_b2) dX2_takeBanks_30 ?_
      refine c_if_ne (tgt := 40) dX2_takeBanks_33 rfl (fun h3 => ?_) (fun h3 => ?_)
      · refine c_keep [1] (ls2 := [(1, .inl x1)]) rfl ?_
        exact jo_X2_takeBanks_40 d hlev x1 M
      · refine c_iload_n (i := 3) dX2_takeBanks_36 rfl rfl ?_
        refine c_if_eq (tgt := 42) dX2_takeBanks_37 rfl (fun h4 => ?_) (fun h4 => ?_)
        · refine c_aload_n (i := 0) dX2_takeBanks_42 rfl rfl ?_
          refine gf_RX2_70 (blk_get0 KSx_b2) dX2_takeBanks_43 ?_
          refine c_istore dX2_takeBanks_46 (by decide) (ls2 := [(0, .inr 2), (1, .inl x1), (2, .inl x2), (3, .inl z2), (4, .inl (M 2 4))]) rfl ?_
          refine c_aload_n (i := 0) dX2_takeBanks_48 rfl rfl ?_
          refine c_iconst dX2_takeBanks_49 (v := 0) rfl ?_
          refine c_aload_n (i := 0) dX2_takeBanks_50 rfl rfl ?_
          refine c_chk (fun h5 => ?_)
          refine gf_RX2_22 (blk_get0 KSx_b2) h5.1 dX2_takeBanks_51 ?_
          refine gf_RX2_61 (blk_get0 (blk_of h5.2)) dX2_takeBanks_54 ?_
          refine c_iconst dX2_takeBanks_57 (v := 1) rfl ?_
          refine c_isub dX2_takeBanks_58 ?_
          refine c_callV (as := [.inl 0, .inl ((M (ix (M 2 1)) 0) - 1)]) (rs := []) (ev_X2_takeNumber 1 (Nat.le_refl _) 0 ((M (ix (M 2 1)) 0) - 1) M) rfl (Nat.lt_of_lt_of_le (by decide) hlev) mw_X2_takeNumber wi_X2_takeNumber wv_X2_takeNumber (blk_get0 KSx_b2) (by decide) rfl wl_RX2_57 mn_X2_takeNumber rfl (by decide) (Nat.le_of_ble_eq_true rfl) ⟨_, rfl⟩ dX2_takeBanks_59 (fun v6 M7 _ => ?_)
          refine c_istore dX2_takeBanks_62 (by decide) (ls2 := [(0, .inr 2), (1, .inl x1), (2, .inl x2), (3, .inl z2), (4, .inl (M 2 4)), (5, .inl v6)]) rfl ?_
          refine c_iload dX2_takeBanks_64 rfl ?_
          refine c_iload_n (i := 1) dX2_takeBanks_66 rfl rfl ?_
          refine c_callNp (as := [.inl v6, .inl x1]) (rs := []) (ev_X9_isIn 0 (Nat.le_refl _) v6 x1 M7) rfl (Nat.lt_of_lt_of_le (by decide) hlev) mw_X9_isIn ws_X9_isIn wl_RX2_103 mn_X9_isIn rfl (by decide) (Nat.le_of_ble_eq_true rfl) ⟨_, rfl⟩ dX2_takeBanks_67 ?_
          refine c_if_eq (tgt := 80) dX2_takeBanks_70 rfl (fun h8 => ?_) (fun h8 => ?_)
          · refine c_keep [0, 1, 2, 5] (ls2 := [(0, .inr 2), (1, .inl x1), (2, .inl x2), (5, .inl v6)]) rfl ?_
            exact jo_X2_takeBanks_80 d hlev x1 x2 v6 K4 hK4 M7
          · refine c_aload_n (i := 0) dX2_takeBanks_73 rfl rfl ?_
            refine c_iconst dX2_takeBanks_74 (v := 3) rfl ?_
            refine c_iload dX2_takeBanks_75 rfl ?_
            refine c_callVv (as := [.inl 3, .inl (M 2 4)]) (rs := []) (ev_X2_fail 0 (Nat.le_refl _) 3 (M 2 4) M7) rfl (Nat.lt_of_lt_of_le (by decide) hlev) mw_X2_fail wi_X2_fail wv_X2_fail (blk_get0 KSx_b2) (by decide) rfl wl_RX2_73 mn_X2_fail rfl (by decide) (Nat.le_of_ble_eq_true rfl) rfl dX2_takeBanks_77 (fun v9 M10 _ => ?_)
            refine c_keep [0, 1, 2, 5] (ls2 := [(0, .inr 2), (1, .inl x1), (2, .inl x2), (5, .inl v6)]) rfl ?_
            exact jo_X2_takeBanks_80 d hlev x1 x2 v6 K4 hK4 M10
        · refine c_keep [1] (ls2 := [(1, .inl x1)]) rfl ?_
          exact jo_X2_takeBanks_40 d hlev x1 M
    refine c_val (b := x2 ≤ 0) (v1 := (0 : Int32)) (v2 := if ¬ (M 2 3) = 29 then (0 : Int32) else (1 : Int32)) (F := fun z2 => if ¬ (M 2 5) = 0 then j_X2_takeBanks_40 x1 M else if z2 = 0 then if ¬ M 2 1 < 0 ∧ blkD KSx (ix (M 2 1)) blk4 then bnd (f_X2_takeNumber 0 ((M (ix (M 2 1)) 0) - 1) M) (fun v6 M7 => if (p_X9_isIn v6 x1) = 0 then j_X2_takeBanks_80 x1 x2 v6 K4 M7 else bnd (f_X2_fail 3 (M 2 4) M7) (fun _ M10 => j_X2_takeBanks_80 x1 x2 v6 K4 M10)) else none else j_X2_takeBanks_40 x1 M) (fun h11 => ?_) (fun h11 => ?_)
    · refine c_T h11 (c_if_le (tgt := 27) dX2_takeBanks_11 rfl (fun _ => ?_) (fun q => absurd h11 q))
      refine c_iconst dX2_takeBanks_27 (v := 0) rfl ?_
      refine c_keep [0, 1, 2] (ls2 := [(0, .inr 2), (1, .inl x1), (2, .inl x2)]) rfl ?_
      exact J_z2 0 (Or.inl rfl)
    · refine c_Fl h11 (c_if_le (tgt := 27) dX2_takeBanks_11 rfl (fun q => absurd q h11) (fun _ => ?_))
      refine c_aload_n (i := 0) dX2_takeBanks_14 rfl rfl ?_
      refine gf_RX2_48 (blk_get0 KSx_b2) dX2_takeBanks_15 ?_
      refine c_bipush dX2_takeBanks_18 (v := 29) rfl ?_
      refine c_val (b := ¬ (M 2 3) = 29) (v1 := (0 : Int32)) (v2 := (1 : Int32)) (F := fun z2 => if ¬ (M 2 5) = 0 then j_X2_takeBanks_40 x1 M else if z2 = 0 then if ¬ M 2 1 < 0 ∧ blkD KSx (ix (M 2 1)) blk4 then bnd (f_X2_takeNumber 0 ((M (ix (M 2 1)) 0) - 1) M) (fun v6 M7 => if (p_X9_isIn v6 x1) = 0 then j_X2_takeBanks_80 x1 x2 v6 K4 M7 else bnd (f_X2_fail 3 (M 2 4) M7) (fun _ M10 => j_X2_takeBanks_80 x1 x2 v6 K4 M10)) else none else j_X2_takeBanks_40 x1 M) (fun h12 => ?_) (fun h12 => ?_)
      · refine c_T h12 (c_icmp_ne (tgt := 27) dX2_takeBanks_20 rfl (fun _ => ?_) (fun q => absurd h12 q))
        refine c_iconst dX2_takeBanks_27 (v := 0) rfl ?_
        refine c_keep [0, 1, 2] (ls2 := [(0, .inr 2), (1, .inl x1), (2, .inl x2)]) rfl ?_
        exact J_z2 0 (Or.inl rfl)
      · refine c_Fl h12 (c_icmp_ne (tgt := 27) dX2_takeBanks_20 rfl (fun q => absurd q h12) (fun _ => ?_))
        refine c_iconst dX2_takeBanks_23 (v := 1) rfl ?_
        refine c_goto (tgt := 28) dX2_takeBanks_24 rfl ?_
        refine c_keep [0, 1, 2] (ls2 := [(0, .inr 2), (1, .inl x1), (2, .inl x2)]) rfl ?_
        exact J_z2 1 (Or.inr rfl)
def f_X2_takeBanks (M : Mem) : Option (Int32 × Mem) := loopC (l_X2_takeBanks_4) fuelL (0, 0, M)
set_option maxRecDepth 20000 in
set_option maxHeartbeats 2000000 in
theorem ev_X2_takeBanks (d : Nat) (hlev : 2 ≤ d) (M : Mem) : Ev KSx ST1 mdX2_takeBanks d [.inr 2] M (f_X2_takeBanks M) := by
  refine ev_of rfl (Nat.le_of_ble_eq_true rfl) ?_
  show CorM KSx ST1 RX2 cX2_takeBanks 6 (some .int) d 0 [(0, .inr 2)] [] M (f_X2_takeBanks M)
  unfold f_X2_takeBanks
  refine c_iconst dX2_takeBanks_0 (v := 0) rfl ?_
  refine c_istore_n (i := 1) dX2_takeBanks_1 rfl (by decide) (ls2 := [(0, .inr 2), (1, .inl 0)]) rfl ?_
  refine c_iconst dX2_takeBanks_2 (v := 0) rfl ?_
  refine c_istore_n (i := 2) dX2_takeBanks_3 rfl (by decide) (ls2 := [(0, .inr 2), (1, .inl 0), (2, .inl 0)]) rfl ?_
  refine c_keep [0, 1, 2] (ls2 := [(0, .inr 2), (1, .inl 0), (2, .inl 0)]) rfl ?_
  exact lo_X2_takeBanks_4 d hlev (0, 0, M)

abbrev mdX4_beginBatch : MD := (yX4_beginBatch, cX4_beginBatch, 2, none)
theorem mw_X4_beginBatch : mdW mdX4_beginBatch := ⟨wm_X4_beginBatch, w0_RX4, by decide, by decide⟩
theorem mn_X4_beginBatch : (parseMethodDescriptor yX4_beginBatch.desc).map (fun d => d.parameters.length) = some 1 := by decide +kernel
def f_X4_beginBatch (t0 : Nat) (x1 : Int32) (M : Mem) : Option (Int32 × Mem) := if inb (M t0 4) 12 then wrt (up M (t0 + 2) (ix (M t0 4)) x1) (fun M2 => if inb (M2 t0 4) 12 then wrt (up M2 (t0 + 3) (ix (M2 t0 4)) (M2 t0 5)) (fun M4 => some (0, M4)) else none) else none
set_option maxRecDepth 20000 in
set_option maxHeartbeats 2000000 in
theorem ev_X4_beginBatch (d : Nat) (hlev : 0 ≤ d) (t0 : Nat) (h_t0 : blkAt KSx t0 blk4) (x1 : Int32) (M : Mem) : Ev KSx ST1 mdX4_beginBatch d [.inr t0, .inl x1] M (f_X4_beginBatch t0 x1 M) := by
  refine ev_of rfl (Nat.le_of_ble_eq_true rfl) ?_
  show CorM KSx ST1 RX4 cX4_beginBatch 2 none d 0 [(0, .inr t0), (1, .inl x1)] [] M (f_X4_beginBatch t0 x1 M)
  unfold f_X4_beginBatch
  refine c_aload_n (i := 0) dX4_beginBatch_0 rfl rfl ?_
  refine gf_RX4_15 (blk_get0 h_t0) dX4_beginBatch_1 ?_
  refine c_aload_n (i := 0) dX4_beginBatch_4 rfl rfl ?_
  refine gf_RX4_67 (blk_get0 h_t0) dX4_beginBatch_5 ?_
  refine c_iload_n (i := 1) dX4_beginBatch_8 rfl rfl ?_
  refine c_chk (fun h1 => ?_)
  refine c_iast (blk_get0 (blk_sub (C := [(20, 12)]) (i := 2) h_t0 rfl)) h1 dX4_beginBatch_9 ?_
  refine c_wrt (fun M2 => ?_)
  refine c_aload_n (i := 0) dX4_beginBatch_10 rfl rfl ?_
  refine gf_RX4_18 (blk_get0 h_t0) dX4_beginBatch_11 ?_
  refine c_aload_n (i := 0) dX4_beginBatch_14 rfl rfl ?_
  refine gf_RX4_67 (blk_get0 h_t0) dX4_beginBatch_15 ?_
  refine c_aload_n (i := 0) dX4_beginBatch_18 rfl rfl ?_
  refine gf_RX4_70 (blk_get0 h_t0) dX4_beginBatch_19 ?_
  refine c_chk (fun h3 => ?_)
  refine c_iast (blk_get0 (blk_sub (C := [(20, 12)]) (i := 3) h_t0 rfl)) h3 dX4_beginBatch_22 ?_
  refine c_wrt (fun M4 => ?_)
  exact c_vret rfl dX4_beginBatch_23

abbrev mdX2_takeReduction : MD := (yX2_takeReduction, cX2_takeReduction, 2, (some .int))
theorem mw_X2_takeReduction : mdW mdX2_takeReduction := ⟨wm_X2_takeReduction, w0_RX2, by decide, by decide⟩
theorem mn_X2_takeReduction : (parseMethodDescriptor yX2_takeReduction.desc).map (fun d => d.parameters.length) = some 0 := by decide +kernel
def j_X2_takeReduction_17 (M : Mem) : Option (Int32 × Mem) := bnd (f_X2_fail 1 (M 2 4) M) (fun _ M3 => some (15, M3))
set_option maxRecDepth 20000 in
set_option maxHeartbeats 2000000 in
theorem jo_X2_takeReduction_17 (d : Nat) (hlev : 2 ≤ d) (M : Mem) : CorM KSx ST1 RX2 cX2_takeReduction 2 (some .int) d 17 [(0, .inr 2)] [] M (j_X2_takeReduction_17 M) := by
  unfold j_X2_takeReduction_17
  refine c_aload_n (i := 0) dX2_takeReduction_17 rfl rfl ?_
  refine c_iconst dX2_takeReduction_18 (v := 1) rfl ?_
  refine c_aload_n (i := 0) dX2_takeReduction_19 rfl rfl ?_
  refine gf_RX2_70 (blk_get0 KSx_b2) dX2_takeReduction_20 ?_
  refine c_callVv (as := [.inl 1, .inl (M 2 4)]) (rs := []) (ev_X2_fail 0 (Nat.le_refl _) 1 (M 2 4) M) rfl (Nat.lt_of_lt_of_le (by decide) hlev) mw_X2_fail wi_X2_fail wv_X2_fail (blk_get0 KSx_b2) (by decide) rfl wl_RX2_73 mn_X2_fail rfl (by decide) (Nat.le_of_ble_eq_true rfl) rfl dX2_takeReduction_23 (fun v2 M3 _ => ?_)
  refine c_bipush dX2_takeReduction_26 (v := 15) rfl ?_
  exact c_iret rfl dX2_takeReduction_28
def f_X2_takeReduction (M : Mem) : Option (Int32 × Mem) := if (M 2 3) < 15 then j_X2_takeReduction_17 M else if (M 2 3) ≤ 21 then bnd (f_X2_take (M 2 3) M) (fun _ M6 => some (M 2 3, M6)) else j_X2_takeReduction_17 M
set_option maxRecDepth 20000 in
set_option maxHeartbeats 2000000 in
theorem ev_X2_takeReduction (d : Nat) (hlev : 2 ≤ d) (M : Mem) : Ev KSx ST1 mdX2_takeReduction d [.inr 2] M (f_X2_takeReduction M) := by
  refine ev_of rfl (Nat.le_of_ble_eq_true rfl) ?_
  show CorM KSx ST1 RX2 cX2_takeReduction 2 (some .int) d 0 [(0, .inr 2)] [] M (f_X2_takeReduction M)
  unfold f_X2_takeReduction
  refine c_aload_n (i := 0) dX2_takeReduction_0 rfl rfl ?_
  refine gf_RX2_48 (blk_get0 KSx_b2) dX2_takeReduction_1 ?_
  refine c_istore_n (i := 1) dX2_takeReduction_4 rfl (by decide) (ls2 := [(0, .inr 2), (1, .inl (M 2 3))]) rfl ?_
  refine c_iload_n (i := 1) dX2_takeReduction_5 rfl rfl ?_
  refine c_bipush dX2_takeReduction_6 (v := 15) rfl ?_
  refine c_icmp_lt (tgt := 17) dX2_takeReduction_8 rfl (fun h1 => ?_) (fun h1 => ?_)
  · refine c_keep [0] (ls2 := [(0, .inr 2)]) rfl ?_
    exact jo_X2_takeReduction_17 d hlev M
  · refine c_iload_n (i := 1) dX2_takeReduction_11 rfl rfl ?_
    refine c_bipush dX2_takeReduction_12 (v := 21) rfl ?_
    refine c_icmp_le (tgt := 29) dX2_takeReduction_14 rfl (fun h4 => ?_) (fun h4 => ?_)
    · refine c_aload_n (i := 0) dX2_takeReduction_29 rfl rfl ?_
      refine c_iload_n (i := 1) dX2_takeReduction_30 rfl rfl ?_
      refine c_callVv (as := [.inl (M 2 3)]) (rs := []) (ev_X2_take 1 (Nat.le_refl _) (M 2 3) M) rfl (Nat.lt_of_lt_of_le (by decide) hlev) mw_X2_take wi_X2_take wv_X2_take (blk_get0 KSx_b2) (by decide) rfl wl_RX2_54 mn_X2_take rfl (by decide) (Nat.le_of_ble_eq_true rfl) rfl dX2_takeReduction_31 (fun v5 M6 _ => ?_)
      refine c_iload_n (i := 1) dX2_takeReduction_34 rfl rfl ?_
      exact c_iret rfl dX2_takeReduction_35
    · refine c_keep [0] (ls2 := [(0, .inr 2)]) rfl ?_
      exact jo_X2_takeReduction_17 d hlev M

abbrev mdX2_takeSignedNumber : MD := (yX2_takeSignedNumber, cX2_takeSignedNumber, 1, (some .int))
theorem mw_X2_takeSignedNumber : mdW mdX2_takeSignedNumber := ⟨wm_X2_takeSignedNumber, w0_RX2, by decide, by decide⟩
theorem mn_X2_takeSignedNumber : (parseMethodDescriptor yX2_takeSignedNumber.desc).map (fun d => d.parameters.length) = some 0 := by decide +kernel
def f_X2_takeSignedNumber (M : Mem) : Option (Int32 × Mem) := if (M 2 3) = 31 then bnd (f_X2_take 31 M) (fun _ M3 => bnd (f_X2_takeNumber 0 999999 M3) (fun v4 M5 => some (-v4, M5))) else bnd (f_X2_takeNumber 0 999999 M) (fun v6 M7 => some (v6, M7))
set_option maxRecDepth 20000 in
set_option maxHeartbeats 2000000 in
theorem ev_X2_takeSignedNumber (d : Nat) (hlev : 2 ≤ d) (M : Mem) : Ev KSx ST1 mdX2_takeSignedNumber d [.inr 2] M (f_X2_takeSignedNumber M) := by
  refine ev_of rfl (Nat.le_of_ble_eq_true rfl) ?_
  show CorM KSx ST1 RX2 cX2_takeSignedNumber 1 (some .int) d 0 [(0, .inr 2)] [] M (f_X2_takeSignedNumber M)
  unfold f_X2_takeSignedNumber
  refine c_aload_n (i := 0) dX2_takeSignedNumber_0 rfl rfl ?_
  refine gf_RX2_48 (blk_get0 KSx_b2) dX2_takeSignedNumber_1 ?_
  refine c_bipush dX2_takeSignedNumber_4 (v := 31) rfl ?_
  refine c_icmp_eq (tgt := 17) dX2_takeSignedNumber_6 rfl (fun h1 => ?_) (fun h1 => ?_)
  · refine c_aload_n (i := 0) dX2_takeSignedNumber_17 rfl rfl ?_
    refine c_bipush dX2_takeSignedNumber_18 (v := 31) rfl ?_
    refine c_callVv (as := [.inl 31]) (rs := []) (ev_X2_take 1 (Nat.le_refl _) 31 M) rfl (Nat.lt_of_lt_of_le (by decide) hlev) mw_X2_take wi_X2_take wv_X2_take (blk_get0 KSx_b2) (by decide) rfl wl_RX2_54 mn_X2_take rfl (by decide) (Nat.le_of_ble_eq_true rfl) rfl dX2_takeSignedNumber_20 (fun v2 M3 _ => ?_)
    refine c_aload_n (i := 0) dX2_takeSignedNumber_23 rfl rfl ?_
    refine c_iconst dX2_takeSignedNumber_24 (v := 0) rfl ?_
    refine c_ldc wd_RX2_134 dX2_takeSignedNumber_25 ?_
    refine c_callV (as := [.inl 0, .inl 999999]) (rs := []) (ev_X2_takeNumber 1 (Nat.le_refl _) 0 999999 M3) rfl (Nat.lt_of_lt_of_le (by decide) hlev) mw_X2_takeNumber wi_X2_takeNumber wv_X2_takeNumber (blk_get0 KSx_b2) (by decide) rfl wl_RX2_57 mn_X2_takeNumber rfl (by decide) (Nat.le_of_ble_eq_true rfl) ⟨_, rfl⟩ dX2_takeSignedNumber_27 (fun v4 M5 _ => ?_)
    refine c_ineg dX2_takeSignedNumber_30 ?_
    exact c_iret rfl dX2_takeSignedNumber_31
  · refine c_aload_n (i := 0) dX2_takeSignedNumber_9 rfl rfl ?_
    refine c_iconst dX2_takeSignedNumber_10 (v := 0) rfl ?_
    refine c_ldc wd_RX2_134 dX2_takeSignedNumber_11 ?_
    refine c_callV (as := [.inl 0, .inl 999999]) (rs := []) (ev_X2_takeNumber 1 (Nat.le_refl _) 0 999999 M) rfl (Nat.lt_of_lt_of_le (by decide) hlev) mw_X2_takeNumber wi_X2_takeNumber wv_X2_takeNumber (blk_get0 KSx_b2) (by decide) rfl wl_RX2_57 mn_X2_takeNumber rfl (by decide) (Nat.le_of_ble_eq_true rfl) ⟨_, rfl⟩ dX2_takeSignedNumber_13 (fun v6 M7 _ => ?_)
    exact c_iret rfl dX2_takeSignedNumber_16
