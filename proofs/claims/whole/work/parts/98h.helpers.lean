/-! ===== the helpers, one by one ===== -/
abbrev hdL_append : HDt := (yL_append, cL_append, 8, [(0, 16, 19, 13)])
set_option maxRecDepth 20000 in
set_option maxHeartbeats 2000000 in
theorem hm_append {wp : Wp} (ok : okW KSx wp) {cL : ClassId} {qo : Nat} (hq : Oq wp qo) {f : Nat → Int64} {M M2 : Mem} {x1 : Int32} {x2 : Int32} {x3 : Int32} {x4 : Int32} {x5 : Int32} {r : Int32 ⊕ String} {kr : Int32} (hf : f_X9_append x1 x2 x3 x4 x5 M = some (r, M2)) (hcs : Kr [eIS] r kr) : HM hdL_append [.ref (wp.1 0), .int x1, .int x2, .int x3, .int x4, .int x5, .ref qo] wp cL qo f (fOf Int32.toInt64 f r) M M2 kr := by
  have hE := ev_X9_append 25 (by decide) x1 x2 x3 x4 x5 M
  rw [hf] at hE
  refine hp_of rfl rfl (Nat.le_of_ble_eq_true rfl) ok hq (fun p l e s m args below meth c la C hP ho hl => ?_)
  have hl : lv_has la 8 [(0, .ref (wp.1 0)), (1, .int x1), (2, .int x2), (3, .int x3), (4, .int x4), (5, .int x5), (6, .ref qo)] := hl
  obtain ⟨F, O, hr, hlk, htb, hKo, hq9, hN, hqs⟩ := id C
  obtain ⟨hx, hb, hml, hown, hts, hstk⟩ := id F
  refine lv_aload hx hb dL_append_0 (lv_at hl 6 rfl) ?_
  refine lv_iconst (v := 0) hx hb dL_append_2 (by decide) ?_
  refine lv_aload_n hx hb dL_append_3 rfl (lv_at hl 0 rfl) ?_
  refine lv_iload_n hx hb dL_append_4 rfl (lv_at hl 1 rfl) ?_
  refine lv_iload_n hx hb dL_append_5 rfl (lv_at hl 2 rfl) ?_
  refine lv_iload_n hx hb dL_append_6 rfl (lv_at hl 3 rfl) ?_
  refine lv_iload hx hb dL_append_7 (lv_at hl 4 rfl) ?_
  refine lv_iload hx hb dL_append_9 (lv_at hl 5 rfl) ?_
  rcases hcs with ⟨v, rfl, rfl⟩ | ⟨k, E, rfl, hk, rfl⟩
  · refine w_xok (as := [.inl x1, .inl x2, .inl x3, .inl x4, .inl x5]) (rest := [.int 0, .ref qo]) hE ⟨_, rfl⟩ mw_X9_append wi_X9_append wv_X9_append (KS := KSx) (t := 0) (ci := 9) (n0 := 0) rfl (by decide) rfl wl_RL_7 mn_X9_append rfl (Nat.le_of_ble_eq_true rfl) (Nat.le_of_ble_eq_true rfl) (Nat.le_of_ble_eq_true rfl) dL_append_11 rfl (Nat.le_of_ble_eq_true rfl) F O hP (hp_S C) hl.1 (Nat.le_of_ble_eq_true rfl) (Nat.le_of_ble_eq_true rfl) (fun H1 locs1 hP1 hz1 hk1 hS1 => ?_)
    exact hp_okL C (tgt := 23) dL_append_14 dL_append_15 dL_append_16 (by decide) dL_append_23 dL_append_24 hP1 (hA_at hq hqs ho hk1) hS1 (by decide) (by decide)
  · obtain rfl : k = 0 := by have := (List.getElem?_eq_some_iff.mp hk).1; simpa using this
    cases hk
    refine w_xex (as := [.inl x1, .inl x2, .inl x3, .inl x4, .inl x5]) (rest := [.int 0, .ref qo]) hE mw_X9_append wi_X9_append wv_X9_append (KS := KSx) (t := 0) (ci := 9) (n0 := 0) rfl (by decide) rfl wl_RL_7 mn_X9_append rfl (Nat.le_of_ble_eq_true rfl) (Nat.le_of_ble_eq_true rfl) (Nat.le_of_ble_eq_true rfl) dL_append_11 rfl (Nat.le_of_ble_eq_true rfl) F O hP (hp_S C) hl.1 (Nat.le_of_ble_eq_true rfl) (Nat.le_of_ble_eq_true rfl) (fun ce q9 H1 locs1 hP1 hz1 hk1 hS1 g1 g2 g3 => ?_)
    exact hp_ex C hl [] ⟨0, 16, 19, 13⟩ [] rfl (fun z hz => by cases hz) (by decide) (by decide) wk_RL_13 wq_is g1 g2 g3 (t1 := 21) (Or.inr ⟨7, dL_append_19, by decide, rfl⟩) dL_append_21 (by decide) dL_append_22 hP1 (hA_at hq hqs ho hk1) hS1 (by decide) (by decide)
abbrev hdL_truncate : HDt := (yL_truncate, cL_truncate, 4, [(0, 9, 12, 19)])
set_option maxRecDepth 20000 in
set_option maxHeartbeats 2000000 in
theorem hm_truncate {wp : Wp} (ok : okW KSx wp) {cL : ClassId} {qo : Nat} (hq : Oq wp qo) {f : Nat → Int64} {M M2 : Mem} {x1 : Int32} {r : Int32 ⊕ String} {kr : Int32} (hf : f_X9_truncate x1 M = some (r, M2)) (hcs : Kr [eIO] r kr) : HM hdL_truncate [.ref (wp.1 0), .int x1, .ref qo] wp cL qo f (fOf Int32.toInt64 f r) M M2 kr := by
  have hE := ev_X9_truncate 25 (by decide) x1 M
  rw [hf] at hE
  refine hp_of rfl rfl (Nat.le_of_ble_eq_true rfl) ok hq (fun p l e s m args below meth c la C hP ho hl => ?_)
  have hl : lv_has la 4 [(0, .ref (wp.1 0)), (1, .int x1), (2, .ref qo)] := hl
  obtain ⟨F, O, hr, hlk, htb, hKo, hq9, hN, hqs⟩ := id C
  obtain ⟨hx, hb, hml, hown, hts, hstk⟩ := id F
  refine lv_aload_n hx hb dL_truncate_0 rfl (lv_at hl 2 rfl) ?_
  refine lv_iconst (v := 0) hx hb dL_truncate_1 (by decide) ?_
  refine lv_aload_n hx hb dL_truncate_2 rfl (lv_at hl 0 rfl) ?_
  refine lv_iload_n hx hb dL_truncate_3 rfl (lv_at hl 1 rfl) ?_
  rcases hcs with ⟨v, rfl, rfl⟩ | ⟨k, E, rfl, hk, rfl⟩
  · refine w_xok (as := [.inl x1]) (rest := [.int 0, .ref qo]) hE ⟨_, rfl⟩ mw_X9_truncate wi_X9_truncate wv_X9_truncate (KS := KSx) (t := 0) (ci := 9) (n0 := 0) rfl (by decide) rfl wl_RL_15 mn_X9_truncate rfl (Nat.le_of_ble_eq_true rfl) (Nat.le_of_ble_eq_true rfl) (Nat.le_of_ble_eq_true rfl) dL_truncate_4 rfl (Nat.le_of_ble_eq_true rfl) F O hP (hp_S C) hl.1 (Nat.le_of_ble_eq_true rfl) (Nat.le_of_ble_eq_true rfl) (fun H1 locs1 hP1 hz1 hk1 hS1 => ?_)
    exact hp_okL C (tgt := 15) dL_truncate_7 dL_truncate_8 dL_truncate_9 (by decide) dL_truncate_15 dL_truncate_16 hP1 (hA_at hq hqs ho hk1) hS1 (by decide) (by decide)
  · obtain rfl : k = 0 := by have := (List.getElem?_eq_some_iff.mp hk).1; simpa using this
    cases hk
    refine w_xex (as := [.inl x1]) (rest := [.int 0, .ref qo]) hE mw_X9_truncate wi_X9_truncate wv_X9_truncate (KS := KSx) (t := 0) (ci := 9) (n0 := 0) rfl (by decide) rfl wl_RL_15 mn_X9_truncate rfl (Nat.le_of_ble_eq_true rfl) (Nat.le_of_ble_eq_true rfl) (Nat.le_of_ble_eq_true rfl) dL_truncate_4 rfl (Nat.le_of_ble_eq_true rfl) F O hP (hp_S C) hl.1 (Nat.le_of_ble_eq_true rfl) (Nat.le_of_ble_eq_true rfl) (fun ce q9 H1 locs1 hP1 hz1 hk1 hS1 g1 g2 g3 => ?_)
    exact hp_ex C hl [] ⟨0, 9, 12, 19⟩ [] rfl (fun z hz => by cases hz) (by decide) (by decide) wk_RL_19 wq_io g1 g2 g3 (t1 := 13) (Or.inl ⟨3, dL_truncate_12, by decide, rfl⟩) dL_truncate_13 (by decide) dL_truncate_14 hP1 (hA_at hq hqs ho hk1) hS1 (by decide) (by decide)
abbrev hdL_load : HDt := (yL_load, cL_load, 3, [(0, 8, 11, 25)])
set_option maxRecDepth 20000 in
set_option maxHeartbeats 2000000 in
theorem hm_load {wp : Wp} (ok : okW KSx wp) {cL : ClassId} {qo : Nat} (hq : Oq wp qo) {f : Nat → Int64} {M M2 : Mem} {r : Int32 ⊕ String} {kr : Int32} (hf : f_X9_load M = some (r, M2)) (hcs : Kr [eIA] r kr) : HM hdL_load [.ref (wp.1 0), .ref qo] wp cL qo f (fOf Int32.toInt64 f r) M M2 kr := by
  have hE := ev_X9_load 25 (by decide) M
  rw [hf] at hE
  refine hp_of rfl rfl (Nat.le_of_ble_eq_true rfl) ok hq (fun p l e s m args below meth c la C hP ho hl => ?_)
  have hl : lv_has la 3 [(0, .ref (wp.1 0)), (1, .ref qo)] := hl
  obtain ⟨F, O, hr, hlk, htb, hKo, hq9, hN, hqs⟩ := id C
  obtain ⟨hx, hb, hml, hown, hts, hstk⟩ := id F
  refine lv_aload_n hx hb dL_load_0 rfl (lv_at hl 1 rfl) ?_
  refine lv_iconst (v := 0) hx hb dL_load_1 (by decide) ?_
  refine lv_aload_n hx hb dL_load_2 rfl (lv_at hl 0 rfl) ?_
  rcases hcs with ⟨v, rfl, rfl⟩ | ⟨k, E, rfl, hk, rfl⟩
  · refine w_xok (as := []) (rest := [.int 0, .ref qo]) hE ⟨_, rfl⟩ mw_X9_load wi_X9_load wv_X9_load (KS := KSx) (t := 0) (ci := 9) (n0 := 0) rfl (by decide) rfl wl_RL_21 mn_X9_load rfl (Nat.le_of_ble_eq_true rfl) (Nat.le_of_ble_eq_true rfl) (Nat.le_of_ble_eq_true rfl) dL_load_3 rfl (Nat.le_of_ble_eq_true rfl) F O hP (hp_S C) hl.1 (Nat.le_of_ble_eq_true rfl) (Nat.le_of_ble_eq_true rfl) (fun H1 locs1 hP1 hz1 hk1 hS1 => ?_)
    exact hp_okL C (tgt := 14) dL_load_6 dL_load_7 dL_load_8 (by decide) dL_load_14 dL_load_15 hP1 (hA_at hq hqs ho hk1) hS1 (by decide) (by decide)
  · obtain rfl : k = 0 := by have := (List.getElem?_eq_some_iff.mp hk).1; simpa using this
    cases hk
    refine w_xex (as := []) (rest := [.int 0, .ref qo]) hE mw_X9_load wi_X9_load wv_X9_load (KS := KSx) (t := 0) (ci := 9) (n0 := 0) rfl (by decide) rfl wl_RL_21 mn_X9_load rfl (Nat.le_of_ble_eq_true rfl) (Nat.le_of_ble_eq_true rfl) (Nat.le_of_ble_eq_true rfl) dL_load_3 rfl (Nat.le_of_ble_eq_true rfl) F O hP (hp_S C) hl.1 (Nat.le_of_ble_eq_true rfl) (Nat.le_of_ble_eq_true rfl) (fun ce q9 H1 locs1 hP1 hz1 hk1 hS1 g1 g2 g3 => ?_)
    exact hp_ex C hl [] ⟨0, 8, 11, 25⟩ [] rfl (fun z hz => by cases hz) (by decide) (by decide) wk_RL_25 wq_ia g1 g2 g3 (t1 := 12) (Or.inl ⟨2, dL_load_11, by decide, rfl⟩) dL_load_12 (by decide) dL_load_13 hP1 (hA_at hq hqs ho hk1) hS1 (by decide) (by decide)
abbrev hdL_count : HDt := (yL_count, cL_count, 4, [(0, 9, 12, 25)])
set_option maxRecDepth 20000 in
set_option maxHeartbeats 2000000 in
theorem hm_count {wp : Wp} (ok : okW KSx wp) {cL : ClassId} {qo : Nat} (hq : Oq wp qo) {f : Nat → Int64} {M M2 : Mem} {x1 : Int32} {r : Int32 ⊕ String} {kr : Int32} (hf : f_X9_count x1 M = some (r, M2)) (hcs : Kr [eIA] r kr) : HM hdL_count [.ref (wp.1 0), .int x1, .ref qo] wp cL qo f (fOf Int32.toInt64 f r) M M2 kr := by
  have hE := ev_X9_count 25 (by decide) x1 M
  rw [hf] at hE
  refine hp_of rfl rfl (Nat.le_of_ble_eq_true rfl) ok hq (fun p l e s m args below meth c la C hP ho hl => ?_)
  have hl : lv_has la 4 [(0, .ref (wp.1 0)), (1, .int x1), (2, .ref qo)] := hl
  obtain ⟨F, O, hr, hlk, htb, hKo, hq9, hN, hqs⟩ := id C
  obtain ⟨hx, hb, hml, hown, hts, hstk⟩ := id F
  refine lv_aload_n hx hb dL_count_0 rfl (lv_at hl 2 rfl) ?_
  refine lv_iconst (v := 0) hx hb dL_count_1 (by decide) ?_
  refine lv_aload_n hx hb dL_count_2 rfl (lv_at hl 0 rfl) ?_
  refine lv_iload_n hx hb dL_count_3 rfl (lv_at hl 1 rfl) ?_
  rcases hcs with ⟨v, rfl, rfl⟩ | ⟨k, E, rfl, hk, rfl⟩
  · refine w_xok (as := [.inl x1]) (rest := [.int 0, .ref qo]) hE ⟨_, rfl⟩ mw_X9_count wi_X9_count wv_X9_count (KS := KSx) (t := 0) (ci := 9) (n0 := 0) rfl (by decide) rfl wl_RL_27 mn_X9_count rfl (Nat.le_of_ble_eq_true rfl) (Nat.le_of_ble_eq_true rfl) (Nat.le_of_ble_eq_true rfl) dL_count_4 rfl (Nat.le_of_ble_eq_true rfl) F O hP (hp_S C) hl.1 (Nat.le_of_ble_eq_true rfl) (Nat.le_of_ble_eq_true rfl) (fun H1 locs1 hP1 hz1 hk1 hS1 => ?_)
    exact hp_okL C (tgt := 15) dL_count_7 dL_count_8 dL_count_9 (by decide) dL_count_15 dL_count_16 hP1 (hA_at hq hqs ho hk1) hS1 (by decide) (by decide)
  · obtain rfl : k = 0 := by have := (List.getElem?_eq_some_iff.mp hk).1; simpa using this
    cases hk
    refine w_xex (as := [.inl x1]) (rest := [.int 0, .ref qo]) hE mw_X9_count wi_X9_count wv_X9_count (KS := KSx) (t := 0) (ci := 9) (n0 := 0) rfl (by decide) rfl wl_RL_27 mn_X9_count rfl (Nat.le_of_ble_eq_true rfl) (Nat.le_of_ble_eq_true rfl) (Nat.le_of_ble_eq_true rfl) dL_count_4 rfl (Nat.le_of_ble_eq_true rfl) F O hP (hp_S C) hl.1 (Nat.le_of_ble_eq_true rfl) (Nat.le_of_ble_eq_true rfl) (fun ce q9 H1 locs1 hP1 hz1 hk1 hS1 g1 g2 g3 => ?_)
    exact hp_ex C hl [] ⟨0, 9, 12, 25⟩ [] rfl (fun z hz => by cases hz) (by decide) (by decide) wk_RL_25 wq_ia g1 g2 g3 (t1 := 13) (Or.inl ⟨3, dL_count_12, by decide, rfl⟩) dL_count_13 (by decide) dL_count_14 hP1 (hA_at hq hqs ho hk1) hS1 (by decide) (by decide)
abbrev hdL_commands : HDt := (yL_commands, cL_commands, 4, [(0, 9, 12, 19)])
set_option maxRecDepth 20000 in
set_option maxHeartbeats 2000000 in
theorem hm_commands {wp : Wp} (ok : okW KSx wp) {cL : ClassId} {qo : Nat} (hq : Oq wp qo) {f : Nat → Int64} {M M2 : Mem} {x1 : Int32} {r : Int32 ⊕ String} {kr : Int32} (hf : f_X9_commands x1 M = some (r, M2)) (hcs : Kr [eIO] r kr) : HM hdL_commands [.ref (wp.1 0), .int x1, .ref qo] wp cL qo f (fOf Int32.toInt64 f r) M M2 kr := by
  have hE := ev_X9_commands 25 (by decide) x1 M
  rw [hf] at hE
  refine hp_of rfl rfl (Nat.le_of_ble_eq_true rfl) ok hq (fun p l e s m args below meth c la C hP ho hl => ?_)
  have hl : lv_has la 4 [(0, .ref (wp.1 0)), (1, .int x1), (2, .ref qo)] := hl
  obtain ⟨F, O, hr, hlk, htb, hKo, hq9, hN, hqs⟩ := id C
  obtain ⟨hx, hb, hml, hown, hts, hstk⟩ := id F
  refine lv_aload_n hx hb dL_commands_0 rfl (lv_at hl 2 rfl) ?_
  refine lv_iconst (v := 0) hx hb dL_commands_1 (by decide) ?_
  refine lv_aload_n hx hb dL_commands_2 rfl (lv_at hl 0 rfl) ?_
  refine lv_iload_n hx hb dL_commands_3 rfl (lv_at hl 1 rfl) ?_
  rcases hcs with ⟨v, rfl, rfl⟩ | ⟨k, E, rfl, hk, rfl⟩
  · refine w_xok (as := [.inl x1]) (rest := [.int 0, .ref qo]) hE ⟨_, rfl⟩ mw_X9_commands wi_X9_commands wv_X9_commands (KS := KSx) (t := 0) (ci := 9) (n0 := 0) rfl (by decide) rfl wl_RL_30 mn_X9_commands rfl (Nat.le_of_ble_eq_true rfl) (Nat.le_of_ble_eq_true rfl) (Nat.le_of_ble_eq_true rfl) dL_commands_4 rfl (Nat.le_of_ble_eq_true rfl) F O hP (hp_S C) hl.1 (Nat.le_of_ble_eq_true rfl) (Nat.le_of_ble_eq_true rfl) (fun H1 locs1 hP1 hz1 hk1 hS1 => ?_)
    exact hp_okL C (tgt := 15) dL_commands_7 dL_commands_8 dL_commands_9 (by decide) dL_commands_15 dL_commands_16 hP1 (hA_at hq hqs ho hk1) hS1 (by decide) (by decide)
  · obtain rfl : k = 0 := by have := (List.getElem?_eq_some_iff.mp hk).1; simpa using this
    cases hk
    refine w_xex (as := [.inl x1]) (rest := [.int 0, .ref qo]) hE mw_X9_commands wi_X9_commands wv_X9_commands (KS := KSx) (t := 0) (ci := 9) (n0 := 0) rfl (by decide) rfl wl_RL_30 mn_X9_commands rfl (Nat.le_of_ble_eq_true rfl) (Nat.le_of_ble_eq_true rfl) (Nat.le_of_ble_eq_true rfl) dL_commands_4 rfl (Nat.le_of_ble_eq_true rfl) F O hP (hp_S C) hl.1 (Nat.le_of_ble_eq_true rfl) (Nat.le_of_ble_eq_true rfl) (fun ce q9 H1 locs1 hP1 hz1 hk1 hS1 g1 g2 g3 => ?_)
    exact hp_ex C hl [] ⟨0, 9, 12, 19⟩ [] rfl (fun z hz => by cases hz) (by decide) (by decide) wk_RL_19 wq_io g1 g2 g3 (t1 := 13) (Or.inl ⟨3, dL_commands_12, by decide, rfl⟩) dL_commands_13 (by decide) dL_commands_14 hP1 (hA_at hq hqs ho hk1) hS1 (by decide) (by decide)
abbrev hdL_banks : HDt := (yL_banks, cL_banks, 4, [(0, 9, 12, 19)])
set_option maxRecDepth 20000 in
set_option maxHeartbeats 2000000 in
theorem hm_banks {wp : Wp} (ok : okW KSx wp) {cL : ClassId} {qo : Nat} (hq : Oq wp qo) {f : Nat → Int64} {M M2 : Mem} {x1 : Int32} {r : Int32 ⊕ String} {kr : Int32} (hf : f_X9_banks x1 M = some (r, M2)) (hcs : Kr [eIO] r kr) : HM hdL_banks [.ref (wp.1 0), .int x1, .ref qo] wp cL qo f (fOf Int32.toInt64 f r) M M2 kr := by
  have hE := ev_X9_banks 25 (by decide) x1 M
  rw [hf] at hE
  refine hp_of rfl rfl (Nat.le_of_ble_eq_true rfl) ok hq (fun p l e s m args below meth c la C hP ho hl => ?_)
  have hl : lv_has la 4 [(0, .ref (wp.1 0)), (1, .int x1), (2, .ref qo)] := hl
  obtain ⟨F, O, hr, hlk, htb, hKo, hq9, hN, hqs⟩ := id C
  obtain ⟨hx, hb, hml, hown, hts, hstk⟩ := id F
  refine lv_aload_n hx hb dL_banks_0 rfl (lv_at hl 2 rfl) ?_
  refine lv_iconst (v := 0) hx hb dL_banks_1 (by decide) ?_
  refine lv_aload_n hx hb dL_banks_2 rfl (lv_at hl 0 rfl) ?_
  refine lv_iload_n hx hb dL_banks_3 rfl (lv_at hl 1 rfl) ?_
  rcases hcs with ⟨v, rfl, rfl⟩ | ⟨k, E, rfl, hk, rfl⟩
  · refine w_xok (as := [.inl x1]) (rest := [.int 0, .ref qo]) hE ⟨_, rfl⟩ mw_X9_banks wi_X9_banks wv_X9_banks (KS := KSx) (t := 0) (ci := 9) (n0 := 0) rfl (by decide) rfl wl_RL_33 mn_X9_banks rfl (Nat.le_of_ble_eq_true rfl) (Nat.le_of_ble_eq_true rfl) (Nat.le_of_ble_eq_true rfl) dL_banks_4 rfl (Nat.le_of_ble_eq_true rfl) F O hP (hp_S C) hl.1 (Nat.le_of_ble_eq_true rfl) (Nat.le_of_ble_eq_true rfl) (fun H1 locs1 hP1 hz1 hk1 hS1 => ?_)
    exact hp_okL C (tgt := 15) dL_banks_7 dL_banks_8 dL_banks_9 (by decide) dL_banks_15 dL_banks_16 hP1 (hA_at hq hqs ho hk1) hS1 (by decide) (by decide)
  · obtain rfl : k = 0 := by have := (List.getElem?_eq_some_iff.mp hk).1; simpa using this
    cases hk
    refine w_xex (as := [.inl x1]) (rest := [.int 0, .ref qo]) hE mw_X9_banks wi_X9_banks wv_X9_banks (KS := KSx) (t := 0) (ci := 9) (n0 := 0) rfl (by decide) rfl wl_RL_33 mn_X9_banks rfl (Nat.le_of_ble_eq_true rfl) (Nat.le_of_ble_eq_true rfl) (Nat.le_of_ble_eq_true rfl) dL_banks_4 rfl (Nat.le_of_ble_eq_true rfl) F O hP (hp_S C) hl.1 (Nat.le_of_ble_eq_true rfl) (Nat.le_of_ble_eq_true rfl) (fun ce q9 H1 locs1 hP1 hz1 hk1 hS1 g1 g2 g3 => ?_)
    exact hp_ex C hl [] ⟨0, 9, 12, 19⟩ [] rfl (fun z hz => by cases hz) (by decide) (by decide) wk_RL_19 wq_io g1 g2 g3 (t1 := 13) (Or.inl ⟨3, dL_banks_12, by decide, rfl⟩) dL_banks_13 (by decide) dL_banks_14 hP1 (hA_at hq hqs ho hk1) hS1 (by decide) (by decide)
abbrev hdL_memory : HDt := (yL_memory, cL_memory, 6, [(0, 12, 15, 19)])
set_option maxRecDepth 20000 in
set_option maxHeartbeats 2000000 in
theorem hm_memory {wp : Wp} (ok : okW KSx wp) {cL : ClassId} {qo : Nat} (hq : Oq wp qo) {f : Nat → Int64} {M M2 : Mem} {x1 : Int32} {x2 : Int32} {x3 : Int32} {r : Int32 ⊕ String} {kr : Int32} (hf : f_X9_memory x1 x2 x3 M = some (r, M2)) (hcs : Kr [eIO] r kr) : HM hdL_memory [.ref (wp.1 0), .int x1, .int x2, .int x3, .ref qo] wp cL qo f (fOf Int32.toInt64 f r) M M2 kr := by
  have hE := ev_X9_memory 25 (by decide) x1 x2 x3 M
  rw [hf] at hE
  refine hp_of rfl rfl (Nat.le_of_ble_eq_true rfl) ok hq (fun p l e s m args below meth c la C hP ho hl => ?_)
  have hl : lv_has la 6 [(0, .ref (wp.1 0)), (1, .int x1), (2, .int x2), (3, .int x3), (4, .ref qo)] := hl
  obtain ⟨F, O, hr, hlk, htb, hKo, hq9, hN, hqs⟩ := id C
  obtain ⟨hx, hb, hml, hown, hts, hstk⟩ := id F
  refine lv_aload hx hb dL_memory_0 (lv_at hl 4 rfl) ?_
  refine lv_iconst (v := 0) hx hb dL_memory_2 (by decide) ?_
  refine lv_aload_n hx hb dL_memory_3 rfl (lv_at hl 0 rfl) ?_
  refine lv_iload_n hx hb dL_memory_4 rfl (lv_at hl 1 rfl) ?_
  refine lv_iload_n hx hb dL_memory_5 rfl (lv_at hl 2 rfl) ?_
  refine lv_iload_n hx hb dL_memory_6 rfl (lv_at hl 3 rfl) ?_
  rcases hcs with ⟨v, rfl, rfl⟩ | ⟨k, E, rfl, hk, rfl⟩
  · refine w_xok (as := [.inl x1, .inl x2, .inl x3]) (rest := [.int 0, .ref qo]) hE ⟨_, rfl⟩ mw_X9_memory wi_X9_memory wv_X9_memory (KS := KSx) (t := 0) (ci := 9) (n0 := 0) rfl (by decide) rfl wl_RL_36 mn_X9_memory rfl (Nat.le_of_ble_eq_true rfl) (Nat.le_of_ble_eq_true rfl) (Nat.le_of_ble_eq_true rfl) dL_memory_7 rfl (Nat.le_of_ble_eq_true rfl) F O hP (hp_S C) hl.1 (Nat.le_of_ble_eq_true rfl) (Nat.le_of_ble_eq_true rfl) (fun H1 locs1 hP1 hz1 hk1 hS1 => ?_)
    exact hp_okL C (tgt := 19) dL_memory_10 dL_memory_11 dL_memory_12 (by decide) dL_memory_19 dL_memory_20 hP1 (hA_at hq hqs ho hk1) hS1 (by decide) (by decide)
  · obtain rfl : k = 0 := by have := (List.getElem?_eq_some_iff.mp hk).1; simpa using this
    cases hk
    refine w_xex (as := [.inl x1, .inl x2, .inl x3]) (rest := [.int 0, .ref qo]) hE mw_X9_memory wi_X9_memory wv_X9_memory (KS := KSx) (t := 0) (ci := 9) (n0 := 0) rfl (by decide) rfl wl_RL_36 mn_X9_memory rfl (Nat.le_of_ble_eq_true rfl) (Nat.le_of_ble_eq_true rfl) (Nat.le_of_ble_eq_true rfl) dL_memory_7 rfl (Nat.le_of_ble_eq_true rfl) F O hP (hp_S C) hl.1 (Nat.le_of_ble_eq_true rfl) (Nat.le_of_ble_eq_true rfl) (fun ce q9 H1 locs1 hP1 hz1 hk1 hS1 g1 g2 g3 => ?_)
    exact hp_ex C hl [] ⟨0, 12, 15, 19⟩ [] rfl (fun z hz => by cases hz) (by decide) (by decide) wk_RL_19 wq_io g1 g2 g3 (t1 := 17) (Or.inr ⟨5, dL_memory_15, by decide, rfl⟩) dL_memory_17 (by decide) dL_memory_18 hP1 (hA_at hq hqs ho hk1) hS1 (by decide) (by decide)
abbrev hdL_fill : HDt := (yL_fill, cL_fill, 7, [(0, 14, 17, 19)])
set_option maxRecDepth 20000 in
set_option maxHeartbeats 2000000 in
theorem hm_fill {wp : Wp} (ok : okW KSx wp) {cL : ClassId} {qo : Nat} (hq : Oq wp qo) {f : Nat → Int64} {M M2 : Mem} {x1 : Int32} {x2 : Int32} {x3 : Int32} {x4 : Int32} {r : Int32 ⊕ String} {kr : Int32} (hf : f_X9_fill x1 x2 x3 x4 M = some (r, M2)) (hcs : Kr [eIO] r kr) : HM hdL_fill [.ref (wp.1 0), .int x1, .int x2, .int x3, .int x4, .ref qo] wp cL qo f (fOf Int32.toInt64 f r) M M2 kr := by
  have hE := ev_X9_fill 25 (by decide) x1 x2 x3 x4 M
  rw [hf] at hE
  refine hp_of rfl rfl (Nat.le_of_ble_eq_true rfl) ok hq (fun p l e s m args below meth c la C hP ho hl => ?_)
  have hl : lv_has la 7 [(0, .ref (wp.1 0)), (1, .int x1), (2, .int x2), (3, .int x3), (4, .int x4), (5, .ref qo)] := hl
  obtain ⟨F, O, hr, hlk, htb, hKo, hq9, hN, hqs⟩ := id C
  obtain ⟨hx, hb, hml, hown, hts, hstk⟩ := id F
  refine lv_aload hx hb dL_fill_0 (lv_at hl 5 rfl) ?_
  refine lv_iconst (v := 0) hx hb dL_fill_2 (by decide) ?_
  refine lv_aload_n hx hb dL_fill_3 rfl (lv_at hl 0 rfl) ?_
  refine lv_iload_n hx hb dL_fill_4 rfl (lv_at hl 1 rfl) ?_
  refine lv_iload_n hx hb dL_fill_5 rfl (lv_at hl 2 rfl) ?_
  refine lv_iload_n hx hb dL_fill_6 rfl (lv_at hl 3 rfl) ?_
  refine lv_iload hx hb dL_fill_7 (lv_at hl 4 rfl) ?_
  rcases hcs with ⟨v, rfl, rfl⟩ | ⟨k, E, rfl, hk, rfl⟩
  · refine w_xok (as := [.inl x1, .inl x2, .inl x3, .inl x4]) (rest := [.int 0, .ref qo]) hE ⟨_, rfl⟩ mw_X9_fill wi_X9_fill wv_X9_fill (KS := KSx) (t := 0) (ci := 9) (n0 := 0) rfl (by decide) rfl wl_RL_40 mn_X9_fill rfl (Nat.le_of_ble_eq_true rfl) (Nat.le_of_ble_eq_true rfl) (Nat.le_of_ble_eq_true rfl) dL_fill_9 rfl (Nat.le_of_ble_eq_true rfl) F O hP (hp_S C) hl.1 (Nat.le_of_ble_eq_true rfl) (Nat.le_of_ble_eq_true rfl) (fun H1 locs1 hP1 hz1 hk1 hS1 => ?_)
    exact hp_okL C (tgt := 21) dL_fill_12 dL_fill_13 dL_fill_14 (by decide) dL_fill_21 dL_fill_22 hP1 (hA_at hq hqs ho hk1) hS1 (by decide) (by decide)
  · obtain rfl : k = 0 := by have := (List.getElem?_eq_some_iff.mp hk).1; simpa using this
    cases hk
    refine w_xex (as := [.inl x1, .inl x2, .inl x3, .inl x4]) (rest := [.int 0, .ref qo]) hE mw_X9_fill wi_X9_fill wv_X9_fill (KS := KSx) (t := 0) (ci := 9) (n0 := 0) rfl (by decide) rfl wl_RL_40 mn_X9_fill rfl (Nat.le_of_ble_eq_true rfl) (Nat.le_of_ble_eq_true rfl) (Nat.le_of_ble_eq_true rfl) dL_fill_9 rfl (Nat.le_of_ble_eq_true rfl) F O hP (hp_S C) hl.1 (Nat.le_of_ble_eq_true rfl) (Nat.le_of_ble_eq_true rfl) (fun ce q9 H1 locs1 hP1 hz1 hk1 hS1 g1 g2 g3 => ?_)
    exact hp_ex C hl [] ⟨0, 14, 17, 19⟩ [] rfl (fun z hz => by cases hz) (by decide) (by decide) wk_RL_19 wq_io g1 g2 g3 (t1 := 19) (Or.inr ⟨6, dL_fill_17, by decide, rfl⟩) dL_fill_19 (by decide) dL_fill_20 hP1 (hA_at hq hqs ho hk1) hS1 (by decide) (by decide)
abbrev hdL_register : HDt := (yL_register, cL_register, 6, [(0, 12, 15, 19)])
set_option maxRecDepth 20000 in
set_option maxHeartbeats 2000000 in
theorem hm_register {wp : Wp} (ok : okW KSx wp) {cL : ClassId} {qo : Nat} (hq : Oq wp qo) {f : Nat → Int64} {M M2 : Mem} {x1 : Int32} {x2 : Int32} {x3 : Int32} {r : Int32 ⊕ String} {kr : Int32} (hf : f_X9_register x1 x2 x3 M = some (r, M2)) (hcs : Kr [eIO] r kr) : HM hdL_register [.ref (wp.1 0), .int x1, .int x2, .int x3, .ref qo] wp cL qo f (fOf Int32.toInt64 f r) M M2 kr := by
  have hE := ev_X9_register 25 (by decide) x1 x2 x3 M
  rw [hf] at hE
  refine hp_of rfl rfl (Nat.le_of_ble_eq_true rfl) ok hq (fun p l e s m args below meth c la C hP ho hl => ?_)
  have hl : lv_has la 6 [(0, .ref (wp.1 0)), (1, .int x1), (2, .int x2), (3, .int x3), (4, .ref qo)] := hl
  obtain ⟨F, O, hr, hlk, htb, hKo, hq9, hN, hqs⟩ := id C
  obtain ⟨hx, hb, hml, hown, hts, hstk⟩ := id F
  refine lv_aload hx hb dL_register_0 (lv_at hl 4 rfl) ?_
  refine lv_iconst (v := 0) hx hb dL_register_2 (by decide) ?_
  refine lv_aload_n hx hb dL_register_3 rfl (lv_at hl 0 rfl) ?_
  refine lv_iload_n hx hb dL_register_4 rfl (lv_at hl 1 rfl) ?_
  refine lv_iload_n hx hb dL_register_5 rfl (lv_at hl 2 rfl) ?_
  refine lv_iload_n hx hb dL_register_6 rfl (lv_at hl 3 rfl) ?_
  rcases hcs with ⟨v, rfl, rfl⟩ | ⟨k, E, rfl, hk, rfl⟩
  · refine w_xok (as := [.inl x1, .inl x2, .inl x3]) (rest := [.int 0, .ref qo]) hE ⟨_, rfl⟩ mw_X9_register wi_X9_register wv_X9_register (KS := KSx) (t := 0) (ci := 9) (n0 := 0) rfl (by decide) rfl wl_RL_44 mn_X9_register rfl (Nat.le_of_ble_eq_true rfl) (Nat.le_of_ble_eq_true rfl) (Nat.le_of_ble_eq_true rfl) dL_register_7 rfl (Nat.le_of_ble_eq_true rfl) F O hP (hp_S C) hl.1 (Nat.le_of_ble_eq_true rfl) (Nat.le_of_ble_eq_true rfl) (fun H1 locs1 hP1 hz1 hk1 hS1 => ?_)
    exact hp_okL C (tgt := 19) dL_register_10 dL_register_11 dL_register_12 (by decide) dL_register_19 dL_register_20 hP1 (hA_at hq hqs ho hk1) hS1 (by decide) (by decide)
  · obtain rfl : k = 0 := by have := (List.getElem?_eq_some_iff.mp hk).1; simpa using this
    cases hk
    refine w_xex (as := [.inl x1, .inl x2, .inl x3]) (rest := [.int 0, .ref qo]) hE mw_X9_register wi_X9_register wv_X9_register (KS := KSx) (t := 0) (ci := 9) (n0 := 0) rfl (by decide) rfl wl_RL_44 mn_X9_register rfl (Nat.le_of_ble_eq_true rfl) (Nat.le_of_ble_eq_true rfl) (Nat.le_of_ble_eq_true rfl) dL_register_7 rfl (Nat.le_of_ble_eq_true rfl) F O hP (hp_S C) hl.1 (Nat.le_of_ble_eq_true rfl) (Nat.le_of_ble_eq_true rfl) (fun ce q9 H1 locs1 hP1 hz1 hk1 hS1 g1 g2 g3 => ?_)
    exact hp_ex C hl [] ⟨0, 12, 15, 19⟩ [] rfl (fun z hz => by cases hz) (by decide) (by decide) wk_RL_19 wq_io g1 g2 g3 (t1 := 17) (Or.inr ⟨5, dL_register_15, by decide, rfl⟩) dL_register_17 (by decide) dL_register_18 hP1 (hA_at hq hqs ho hk1) hS1 (by decide) (by decide)
abbrev hdL_hostRead : HDt := (yL_hostRead, cL_hostRead, 6, [(0, 12, 15, 19)])
set_option maxRecDepth 20000 in
set_option maxHeartbeats 2000000 in
theorem hm_hostRead {wp : Wp} (ok : okW KSx wp) {cL : ClassId} {qo : Nat} (hq : Oq wp qo) {f : Nat → Int64} {M M2 : Mem} {x1 : Int32} {x2 : Int32} {x3 : Int32} {r : Int32 ⊕ String} {kr : Int32} (hf : f_X9_hostRead x1 x2 x3 M = some (r, M2)) (hcs : Kr [eIO] r kr) : HM hdL_hostRead [.ref (wp.1 0), .int x1, .int x2, .int x3, .ref qo] wp cL qo f (fOf Int32.toInt64 f r) M M2 kr := by
  have hE := ev_X9_hostRead 25 (by decide) x1 x2 x3 M
  rw [hf] at hE
  refine hp_of rfl rfl (Nat.le_of_ble_eq_true rfl) ok hq (fun p l e s m args below meth c la C hP ho hl => ?_)
  have hl : lv_has la 6 [(0, .ref (wp.1 0)), (1, .int x1), (2, .int x2), (3, .int x3), (4, .ref qo)] := hl
  obtain ⟨F, O, hr, hlk, htb, hKo, hq9, hN, hqs⟩ := id C
  obtain ⟨hx, hb, hml, hown, hts, hstk⟩ := id F
  refine lv_aload hx hb dL_hostRead_0 (lv_at hl 4 rfl) ?_
  refine lv_iconst (v := 0) hx hb dL_hostRead_2 (by decide) ?_
  refine lv_aload_n hx hb dL_hostRead_3 rfl (lv_at hl 0 rfl) ?_
  refine lv_iload_n hx hb dL_hostRead_4 rfl (lv_at hl 1 rfl) ?_
  refine lv_iload_n hx hb dL_hostRead_5 rfl (lv_at hl 2 rfl) ?_
  refine lv_iload_n hx hb dL_hostRead_6 rfl (lv_at hl 3 rfl) ?_
  rcases hcs with ⟨v, rfl, rfl⟩ | ⟨k, E, rfl, hk, rfl⟩
  · refine w_xok (as := [.inl x1, .inl x2, .inl x3]) (rest := [.int 0, .ref qo]) hE ⟨_, rfl⟩ mw_X9_hostRead wi_X9_hostRead wv_X9_hostRead (KS := KSx) (t := 0) (ci := 9) (n0 := 0) rfl (by decide) rfl wl_RL_47 mn_X9_hostRead rfl (Nat.le_of_ble_eq_true rfl) (Nat.le_of_ble_eq_true rfl) (Nat.le_of_ble_eq_true rfl) dL_hostRead_7 rfl (Nat.le_of_ble_eq_true rfl) F O hP (hp_S C) hl.1 (Nat.le_of_ble_eq_true rfl) (Nat.le_of_ble_eq_true rfl) (fun H1 locs1 hP1 hz1 hk1 hS1 => ?_)
    exact hp_okL C (tgt := 19) dL_hostRead_10 dL_hostRead_11 dL_hostRead_12 (by decide) dL_hostRead_19 dL_hostRead_20 hP1 (hA_at hq hqs ho hk1) hS1 (by decide) (by decide)
  · obtain rfl : k = 0 := by have := (List.getElem?_eq_some_iff.mp hk).1; simpa using this
    cases hk
    refine w_xex (as := [.inl x1, .inl x2, .inl x3]) (rest := [.int 0, .ref qo]) hE mw_X9_hostRead wi_X9_hostRead wv_X9_hostRead (KS := KSx) (t := 0) (ci := 9) (n0 := 0) rfl (by decide) rfl wl_RL_47 mn_X9_hostRead rfl (Nat.le_of_ble_eq_true rfl) (Nat.le_of_ble_eq_true rfl) (Nat.le_of_ble_eq_true rfl) dL_hostRead_7 rfl (Nat.le_of_ble_eq_true rfl) F O hP (hp_S C) hl.1 (Nat.le_of_ble_eq_true rfl) (Nat.le_of_ble_eq_true rfl) (fun ce q9 H1 locs1 hP1 hz1 hk1 hS1 g1 g2 g3 => ?_)
    exact hp_ex C hl [] ⟨0, 12, 15, 19⟩ [] rfl (fun z hz => by cases hz) (by decide) (by decide) wk_RL_19 wq_io g1 g2 g3 (t1 := 17) (Or.inr ⟨5, dL_hostRead_15, by decide, rfl⟩) dL_hostRead_17 (by decide) dL_hostRead_18 hP1 (hA_at hq hqs ho hk1) hS1 (by decide) (by decide)
abbrev hdL_hostWrite : HDt := (yL_hostWrite, cL_hostWrite, 7, [(0, 14, 17, 19)])
set_option maxRecDepth 20000 in
set_option maxHeartbeats 2000000 in
theorem hm_hostWrite {wp : Wp} (ok : okW KSx wp) {cL : ClassId} {qo : Nat} (hq : Oq wp qo) {f : Nat → Int64} {M M2 : Mem} {x1 : Int32} {x2 : Int32} {x3 : Int32} {x4 : Int32} {r : Int32 ⊕ String} {kr : Int32} (hf : f_X9_hostWrite x1 x2 x3 x4 M = some (r, M2)) (hcs : Kr [eIO] r kr) : HM hdL_hostWrite [.ref (wp.1 0), .int x1, .int x2, .int x3, .int x4, .ref qo] wp cL qo f (fOf Int32.toInt64 f r) M M2 kr := by
  have hE := ev_X9_hostWrite 25 (by decide) x1 x2 x3 x4 M
  rw [hf] at hE
  refine hp_of rfl rfl (Nat.le_of_ble_eq_true rfl) ok hq (fun p l e s m args below meth c la C hP ho hl => ?_)
  have hl : lv_has la 7 [(0, .ref (wp.1 0)), (1, .int x1), (2, .int x2), (3, .int x3), (4, .int x4), (5, .ref qo)] := hl
  obtain ⟨F, O, hr, hlk, htb, hKo, hq9, hN, hqs⟩ := id C
  obtain ⟨hx, hb, hml, hown, hts, hstk⟩ := id F
  refine lv_aload hx hb dL_hostWrite_0 (lv_at hl 5 rfl) ?_
  refine lv_iconst (v := 0) hx hb dL_hostWrite_2 (by decide) ?_
  refine lv_aload_n hx hb dL_hostWrite_3 rfl (lv_at hl 0 rfl) ?_
  refine lv_iload_n hx hb dL_hostWrite_4 rfl (lv_at hl 1 rfl) ?_
  refine lv_iload_n hx hb dL_hostWrite_5 rfl (lv_at hl 2 rfl) ?_
  refine lv_iload_n hx hb dL_hostWrite_6 rfl (lv_at hl 3 rfl) ?_
  refine lv_iload hx hb dL_hostWrite_7 (lv_at hl 4 rfl) ?_
  rcases hcs with ⟨v, rfl, rfl⟩ | ⟨k, E, rfl, hk, rfl⟩
  · refine w_xok (as := [.inl x1, .inl x2, .inl x3, .inl x4]) (rest := [.int 0, .ref qo]) hE ⟨_, rfl⟩ mw_X9_hostWrite wi_X9_hostWrite wv_X9_hostWrite (KS := KSx) (t := 0) (ci := 9) (n0 := 0) rfl (by decide) rfl wl_RL_50 mn_X9_hostWrite rfl (Nat.le_of_ble_eq_true rfl) (Nat.le_of_ble_eq_true rfl) (Nat.le_of_ble_eq_true rfl) dL_hostWrite_9 rfl (Nat.le_of_ble_eq_true rfl) F O hP (hp_S C) hl.1 (Nat.le_of_ble_eq_true rfl) (Nat.le_of_ble_eq_true rfl) (fun H1 locs1 hP1 hz1 hk1 hS1 => ?_)
    exact hp_okL C (tgt := 21) dL_hostWrite_12 dL_hostWrite_13 dL_hostWrite_14 (by decide) dL_hostWrite_21 dL_hostWrite_22 hP1 (hA_at hq hqs ho hk1) hS1 (by decide) (by decide)
  · obtain rfl : k = 0 := by have := (List.getElem?_eq_some_iff.mp hk).1; simpa using this
    cases hk
    refine w_xex (as := [.inl x1, .inl x2, .inl x3, .inl x4]) (rest := [.int 0, .ref qo]) hE mw_X9_hostWrite wi_X9_hostWrite wv_X9_hostWrite (KS := KSx) (t := 0) (ci := 9) (n0 := 0) rfl (by decide) rfl wl_RL_50 mn_X9_hostWrite rfl (Nat.le_of_ble_eq_true rfl) (Nat.le_of_ble_eq_true rfl) (Nat.le_of_ble_eq_true rfl) dL_hostWrite_9 rfl (Nat.le_of_ble_eq_true rfl) F O hP (hp_S C) hl.1 (Nat.le_of_ble_eq_true rfl) (Nat.le_of_ble_eq_true rfl) (fun ce q9 H1 locs1 hP1 hz1 hk1 hS1 g1 g2 g3 => ?_)
    exact hp_ex C hl [] ⟨0, 14, 17, 19⟩ [] rfl (fun z hz => by cases hz) (by decide) (by decide) wk_RL_19 wq_io g1 g2 g3 (t1 := 19) (Or.inr ⟨6, dL_hostWrite_17, by decide, rfl⟩) dL_hostWrite_19 (by decide) dL_hostWrite_20 hP1 (hA_at hq hqs ho hk1) hS1 (by decide) (by decide)
abbrev hdL_flush : HDt := (yL_flush, cL_flush, 5, [(0, 17, 20, 19)])
set_option maxRecDepth 20000 in
set_option maxHeartbeats 2000000 in
theorem hm_flush {wp : Wp} (ok : okW KSx wp) {cL : ClassId} {qo : Nat} (hq : Oq wp qo) {f : Nat → Int64} {M M2 : Mem} {x1 : Int32} {x2 : Int32} {r : Int32 ⊕ String} {kr : Int32} (hf : f_X9_flush x1 x2 M = some (r, M2)) (hcs : Kr [eIO] r kr) : HM hdL_flush [.ref (wp.1 0), .int x1, .int x2, .ref qo] wp cL qo f (fOf zL f r) M M2 kr := by
  have hE := ev_X9_flush 25 (by decide) x1 x2 M
  rw [hf] at hE
  refine hp_of rfl rfl (Nat.le_of_ble_eq_true rfl) ok hq (fun p l e s m args below meth c la C hP ho hl => ?_)
  have hl : lv_has la 5 [(0, .ref (wp.1 0)), (1, .int x1), (2, .int x2), (3, .ref qo)] := hl
  obtain ⟨F, O, hr, hlk, htb, hKo, hq9, hN, hqs⟩ := id C
  obtain ⟨hx, hb, hml, hown, hts, hstk⟩ := id F
  refine lv_aload_n hx hb dL_flush_0 rfl (lv_at hl 3 rfl) ?_
  refine lv_iconst (v := 0) hx hb dL_flush_1 (by decide) ?_
  refine lv_aload_n hx hb dL_flush_2 rfl (lv_at hl 0 rfl) ?_
  refine lv_iload_n hx hb dL_flush_3 rfl (lv_at hl 1 rfl) ?_
  refine lv_iload_n hx hb dL_flush_4 rfl (lv_at hl 2 rfl) ?_
  rcases hcs with ⟨v, rfl, rfl⟩ | ⟨k, E, rfl, hk, rfl⟩
  · refine w_xok (as := [.inl x1, .inl x2]) (rest := [.int 0, .ref qo]) hE ⟨_, rfl⟩ mw_X9_flush wi_X9_flush wv_X9_flush (KS := KSx) (t := 0) (ci := 9) (n0 := 0) rfl (by decide) rfl wl_RL_53 mn_X9_flush rfl (Nat.le_of_ble_eq_true rfl) (Nat.le_of_ble_eq_true rfl) (Nat.le_of_ble_eq_true rfl) dL_flush_5 rfl (Nat.le_of_ble_eq_true rfl) F O hP (hp_S C) hl.1 (Nat.le_of_ble_eq_true rfl) (Nat.le_of_ble_eq_true rfl) (fun H1 locs1 hP1 hz1 hk1 hS1 => ?_)
    exact hp_okZ C (t0 := 15) (t1 := 16) (tgt := 24) dL_flush_8 (by decide) dL_flush_11 dL_flush_12 (by decide) dL_flush_15 rfl dL_flush_16 dL_flush_17 (by decide) dL_flush_24 dL_flush_25 hP1 (hA_at hq hqs ho hk1) hS1 (by decide) (by decide)
  · obtain rfl : k = 0 := by have := (List.getElem?_eq_some_iff.mp hk).1; simpa using this
    cases hk
    refine w_xex (as := [.inl x1, .inl x2]) (rest := [.int 0, .ref qo]) hE mw_X9_flush wi_X9_flush wv_X9_flush (KS := KSx) (t := 0) (ci := 9) (n0 := 0) rfl (by decide) rfl wl_RL_53 mn_X9_flush rfl (Nat.le_of_ble_eq_true rfl) (Nat.le_of_ble_eq_true rfl) (Nat.le_of_ble_eq_true rfl) dL_flush_5 rfl (Nat.le_of_ble_eq_true rfl) F O hP (hp_S C) hl.1 (Nat.le_of_ble_eq_true rfl) (Nat.le_of_ble_eq_true rfl) (fun ce q9 H1 locs1 hP1 hz1 hk1 hS1 g1 g2 g3 => ?_)
    exact hp_ex C hl [] ⟨0, 17, 20, 19⟩ [] rfl (fun z hz => by cases hz) (by decide) (by decide) wk_RL_19 wq_io g1 g2 g3 (t1 := 22) (Or.inr ⟨4, dL_flush_20, by decide, rfl⟩) dL_flush_22 (by decide) dL_flush_23 hP1 (hA_at hq hqs ho hk1) hS1 (by decide) (by decide)
abbrev hdL_invalidate : HDt := (yL_invalidate, cL_invalidate, 5, [(0, 17, 20, 19)])
set_option maxRecDepth 20000 in
set_option maxHeartbeats 2000000 in
theorem hm_invalidate {wp : Wp} (ok : okW KSx wp) {cL : ClassId} {qo : Nat} (hq : Oq wp qo) {f : Nat → Int64} {M M2 : Mem} {x1 : Int32} {x2 : Int32} {r : Int32 ⊕ String} {kr : Int32} (hf : f_X9_invalidate x1 x2 M = some (r, M2)) (hcs : Kr [eIO] r kr) : HM hdL_invalidate [.ref (wp.1 0), .int x1, .int x2, .ref qo] wp cL qo f (fOf zL f r) M M2 kr := by
  have hE := ev_X9_invalidate 25 (by decide) x1 x2 M
  rw [hf] at hE
  refine hp_of rfl rfl (Nat.le_of_ble_eq_true rfl) ok hq (fun p l e s m args below meth c la C hP ho hl => ?_)
  have hl : lv_has la 5 [(0, .ref (wp.1 0)), (1, .int x1), (2, .int x2), (3, .ref qo)] := hl
  obtain ⟨F, O, hr, hlk, htb, hKo, hq9, hN, hqs⟩ := id C
  obtain ⟨hx, hb, hml, hown, hts, hstk⟩ := id F
  refine lv_aload_n hx hb dL_invalidate_0 rfl (lv_at hl 3 rfl) ?_
  refine lv_iconst (v := 0) hx hb dL_invalidate_1 (by decide) ?_
  refine lv_aload_n hx hb dL_invalidate_2 rfl (lv_at hl 0 rfl) ?_
  refine lv_iload_n hx hb dL_invalidate_3 rfl (lv_at hl 1 rfl) ?_
  refine lv_iload_n hx hb dL_invalidate_4 rfl (lv_at hl 2 rfl) ?_
  rcases hcs with ⟨v, rfl, rfl⟩ | ⟨k, E, rfl, hk, rfl⟩
  · refine w_xok (as := [.inl x1, .inl x2]) (rest := [.int 0, .ref qo]) hE ⟨_, rfl⟩ mw_X9_invalidate wi_X9_invalidate wv_X9_invalidate (KS := KSx) (t := 0) (ci := 9) (n0 := 0) rfl (by decide) rfl wl_RL_57 mn_X9_invalidate rfl (Nat.le_of_ble_eq_true rfl) (Nat.le_of_ble_eq_true rfl) (Nat.le_of_ble_eq_true rfl) dL_invalidate_5 rfl (Nat.le_of_ble_eq_true rfl) F O hP (hp_S C) hl.1 (Nat.le_of_ble_eq_true rfl) (Nat.le_of_ble_eq_true rfl) (fun H1 locs1 hP1 hz1 hk1 hS1 => ?_)
    exact hp_okZ C (t0 := 15) (t1 := 16) (tgt := 24) dL_invalidate_8 (by decide) dL_invalidate_11 dL_invalidate_12 (by decide) dL_invalidate_15 rfl dL_invalidate_16 dL_invalidate_17 (by decide) dL_invalidate_24 dL_invalidate_25 hP1 (hA_at hq hqs ho hk1) hS1 (by decide) (by decide)
  · obtain rfl : k = 0 := by have := (List.getElem?_eq_some_iff.mp hk).1; simpa using this
    cases hk
    refine w_xex (as := [.inl x1, .inl x2]) (rest := [.int 0, .ref qo]) hE mw_X9_invalidate wi_X9_invalidate wv_X9_invalidate (KS := KSx) (t := 0) (ci := 9) (n0 := 0) rfl (by decide) rfl wl_RL_57 mn_X9_invalidate rfl (Nat.le_of_ble_eq_true rfl) (Nat.le_of_ble_eq_true rfl) (Nat.le_of_ble_eq_true rfl) dL_invalidate_5 rfl (Nat.le_of_ble_eq_true rfl) F O hP (hp_S C) hl.1 (Nat.le_of_ble_eq_true rfl) (Nat.le_of_ble_eq_true rfl) (fun ce q9 H1 locs1 hP1 hz1 hk1 hS1 g1 g2 g3 => ?_)
    exact hp_ex C hl [] ⟨0, 17, 20, 19⟩ [] rfl (fun z hz => by cases hz) (by decide) (by decide) wk_RL_19 wq_io g1 g2 g3 (t1 := 22) (Or.inr ⟨4, dL_invalidate_20, by decide, rfl⟩) dL_invalidate_22 (by decide) dL_invalidate_23 hP1 (hA_at hq hqs ho hk1) hS1 (by decide) (by decide)
abbrev hdL_line : HDt := (yL_line, cL_line, 5, [(0, 10, 13, 19)])
set_option maxRecDepth 20000 in
set_option maxHeartbeats 2000000 in
theorem hm_line {wp : Wp} (ok : okW KSx wp) {cL : ClassId} {qo : Nat} (hq : Oq wp qo) {f : Nat → Int64} {M M2 : Mem} {x1 : Int32} {x2 : Int32} {r : Int32 ⊕ String} {kr : Int32} (hf : f_X9_line x1 x2 M = some (r, M2)) (hcs : Kr [eIO] r kr) : HM hdL_line [.ref (wp.1 0), .int x1, .int x2, .ref qo] wp cL qo f (fOf Int32.toInt64 f r) M M2 kr := by
  have hE := ev_X9_line 25 (by decide) x1 x2 M
  rw [hf] at hE
  refine hp_of rfl rfl (Nat.le_of_ble_eq_true rfl) ok hq (fun p l e s m args below meth c la C hP ho hl => ?_)
  have hl : lv_has la 5 [(0, .ref (wp.1 0)), (1, .int x1), (2, .int x2), (3, .ref qo)] := hl
  obtain ⟨F, O, hr, hlk, htb, hKo, hq9, hN, hqs⟩ := id C
  obtain ⟨hx, hb, hml, hown, hts, hstk⟩ := id F
  refine lv_aload_n hx hb dL_line_0 rfl (lv_at hl 3 rfl) ?_
  refine lv_iconst (v := 0) hx hb dL_line_1 (by decide) ?_
  refine lv_aload_n hx hb dL_line_2 rfl (lv_at hl 0 rfl) ?_
  refine lv_iload_n hx hb dL_line_3 rfl (lv_at hl 1 rfl) ?_
  refine lv_iload_n hx hb dL_line_4 rfl (lv_at hl 2 rfl) ?_
  rcases hcs with ⟨v, rfl, rfl⟩ | ⟨k, E, rfl, hk, rfl⟩
  · refine w_xok (as := [.inl x1, .inl x2]) (rest := [.int 0, .ref qo]) hE ⟨_, rfl⟩ mw_X9_line wi_X9_line wv_X9_line (KS := KSx) (t := 0) (ci := 9) (n0 := 0) rfl (by decide) rfl wl_RL_60 mn_X9_line rfl (Nat.le_of_ble_eq_true rfl) (Nat.le_of_ble_eq_true rfl) (Nat.le_of_ble_eq_true rfl) dL_line_5 rfl (Nat.le_of_ble_eq_true rfl) F O hP (hp_S C) hl.1 (Nat.le_of_ble_eq_true rfl) (Nat.le_of_ble_eq_true rfl) (fun H1 locs1 hP1 hz1 hk1 hS1 => ?_)
    exact hp_okL C (tgt := 17) dL_line_8 dL_line_9 dL_line_10 (by decide) dL_line_17 dL_line_18 hP1 (hA_at hq hqs ho hk1) hS1 (by decide) (by decide)
  · obtain rfl : k = 0 := by have := (List.getElem?_eq_some_iff.mp hk).1; simpa using this
    cases hk
    refine w_xex (as := [.inl x1, .inl x2]) (rest := [.int 0, .ref qo]) hE mw_X9_line wi_X9_line wv_X9_line (KS := KSx) (t := 0) (ci := 9) (n0 := 0) rfl (by decide) rfl wl_RL_60 mn_X9_line rfl (Nat.le_of_ble_eq_true rfl) (Nat.le_of_ble_eq_true rfl) (Nat.le_of_ble_eq_true rfl) dL_line_5 rfl (Nat.le_of_ble_eq_true rfl) F O hP (hp_S C) hl.1 (Nat.le_of_ble_eq_true rfl) (Nat.le_of_ble_eq_true rfl) (fun ce q9 H1 locs1 hP1 hz1 hk1 hS1 g1 g2 g3 => ?_)
    exact hp_ex C hl [] ⟨0, 10, 13, 19⟩ [] rfl (fun z hz => by cases hz) (by decide) (by decide) wk_RL_19 wq_io g1 g2 g3 (t1 := 15) (Or.inr ⟨4, dL_line_13, by decide, rfl⟩) dL_line_15 (by decide) dL_line_16 hP1 (hA_at hq hqs ho hk1) hS1 (by decide) (by decide)
abbrev hdL_cache : HDt := (yL_cache, cL_cache, 4, [(0, 9, 12, 25)])
set_option maxRecDepth 20000 in
set_option maxHeartbeats 2000000 in
theorem hm_cache {wp : Wp} (ok : okW KSx wp) {cL : ClassId} {qo : Nat} (hq : Oq wp qo) {f : Nat → Int64} {M M2 : Mem} {x1 : Int32} {r : Int32 ⊕ String} {kr : Int32} (hf : f_X9_cache x1 M = some (r, M2)) (hcs : Kr [eIA] r kr) : HM hdL_cache [.ref (wp.1 0), .int x1, .ref qo] wp cL qo f (fOf Int32.toInt64 f r) M M2 kr := by
  have hE := ev_X9_cache 25 (by decide) x1 M
  rw [hf] at hE
  refine hp_of rfl rfl (Nat.le_of_ble_eq_true rfl) ok hq (fun p l e s m args below meth c la C hP ho hl => ?_)
  have hl : lv_has la 4 [(0, .ref (wp.1 0)), (1, .int x1), (2, .ref qo)] := hl
  obtain ⟨F, O, hr, hlk, htb, hKo, hq9, hN, hqs⟩ := id C
  obtain ⟨hx, hb, hml, hown, hts, hstk⟩ := id F
  refine lv_aload_n hx hb dL_cache_0 rfl (lv_at hl 2 rfl) ?_
  refine lv_iconst (v := 0) hx hb dL_cache_1 (by decide) ?_
  refine lv_aload_n hx hb dL_cache_2 rfl (lv_at hl 0 rfl) ?_
  refine lv_iload_n hx hb dL_cache_3 rfl (lv_at hl 1 rfl) ?_
  rcases hcs with ⟨v, rfl, rfl⟩ | ⟨k, E, rfl, hk, rfl⟩
  · refine w_xok (as := [.inl x1]) (rest := [.int 0, .ref qo]) hE ⟨_, rfl⟩ mw_X9_cache wi_X9_cache wv_X9_cache (KS := KSx) (t := 0) (ci := 9) (n0 := 0) rfl (by decide) rfl wl_RL_64 mn_X9_cache rfl (Nat.le_of_ble_eq_true rfl) (Nat.le_of_ble_eq_true rfl) (Nat.le_of_ble_eq_true rfl) dL_cache_4 rfl (Nat.le_of_ble_eq_true rfl) F O hP (hp_S C) hl.1 (Nat.le_of_ble_eq_true rfl) (Nat.le_of_ble_eq_true rfl) (fun H1 locs1 hP1 hz1 hk1 hS1 => ?_)
    exact hp_okL C (tgt := 15) dL_cache_7 dL_cache_8 dL_cache_9 (by decide) dL_cache_15 dL_cache_16 hP1 (hA_at hq hqs ho hk1) hS1 (by decide) (by decide)
  · obtain rfl : k = 0 := by have := (List.getElem?_eq_some_iff.mp hk).1; simpa using this
    cases hk
    refine w_xex (as := [.inl x1]) (rest := [.int 0, .ref qo]) hE mw_X9_cache wi_X9_cache wv_X9_cache (KS := KSx) (t := 0) (ci := 9) (n0 := 0) rfl (by decide) rfl wl_RL_64 mn_X9_cache rfl (Nat.le_of_ble_eq_true rfl) (Nat.le_of_ble_eq_true rfl) (Nat.le_of_ble_eq_true rfl) dL_cache_4 rfl (Nat.le_of_ble_eq_true rfl) F O hP (hp_S C) hl.1 (Nat.le_of_ble_eq_true rfl) (Nat.le_of_ble_eq_true rfl) (fun ce q9 H1 locs1 hP1 hz1 hk1 hS1 g1 g2 g3 => ?_)
    exact hp_ex C hl [] ⟨0, 9, 12, 25⟩ [] rfl (fun z hz => by cases hz) (by decide) (by decide) wk_RL_25 wq_ia g1 g2 g3 (t1 := 13) (Or.inl ⟨3, dL_cache_12, by decide, rfl⟩) dL_cache_13 (by decide) dL_cache_14 hP1 (hA_at hq hqs ho hk1) hS1 (by decide) (by decide)
abbrev hdL_submit : HDt := (yL_submit, cL_submit, 4, [(0, 9, 12, 19), (0, 9, 15, 13)])
set_option maxRecDepth 20000 in
set_option maxHeartbeats 2000000 in
theorem hm_submit {wp : Wp} (ok : okW KSx wp) {cL : ClassId} {qo : Nat} (hq : Oq wp qo) {f : Nat → Int64} {M M2 : Mem} {x1 : Int32} {r : Int32 ⊕ String} {kr : Int32} (hf : f_X9_submit x1 M = some (r, M2)) (hcs : Kr [eIO, eIS] r kr) : HM hdL_submit [.ref (wp.1 0), .int x1, .ref qo] wp cL qo f (fOf Int32.toInt64 f r) M M2 kr := by
  have hE := ev_X9_submit 25 (by decide) x1 M
  rw [hf] at hE
  refine hp_of rfl rfl (Nat.le_of_ble_eq_true rfl) ok hq (fun p l e s m args below meth c la C hP ho hl => ?_)
  have hl : lv_has la 4 [(0, .ref (wp.1 0)), (1, .int x1), (2, .ref qo)] := hl
  obtain ⟨F, O, hr, hlk, htb, hKo, hq9, hN, hqs⟩ := id C
  obtain ⟨hx, hb, hml, hown, hts, hstk⟩ := id F
  refine lv_aload_n hx hb dL_submit_0 rfl (lv_at hl 2 rfl) ?_
  refine lv_iconst (v := 0) hx hb dL_submit_1 (by decide) ?_
  refine lv_aload_n hx hb dL_submit_2 rfl (lv_at hl 0 rfl) ?_
  refine lv_iload_n hx hb dL_submit_3 rfl (lv_at hl 1 rfl) ?_
  rcases hcs with ⟨v, rfl, rfl⟩ | ⟨k, E, rfl, hk, rfl⟩
  · refine w_xok (as := [.inl x1]) (rest := [.int 0, .ref qo]) hE ⟨_, rfl⟩ mw_X9_submit wi_X9_submit wv_X9_submit (KS := KSx) (t := 0) (ci := 9) (n0 := 0) rfl (by decide) rfl wl_RL_67 mn_X9_submit rfl (Nat.le_of_ble_eq_true rfl) (Nat.le_of_ble_eq_true rfl) (Nat.le_of_ble_eq_true rfl) dL_submit_4 rfl (Nat.le_of_ble_eq_true rfl) F O hP (hp_S C) hl.1 (Nat.le_of_ble_eq_true rfl) (Nat.le_of_ble_eq_true rfl) (fun H1 locs1 hP1 hz1 hk1 hS1 => ?_)
    exact hp_okL C (tgt := 18) dL_submit_7 dL_submit_8 dL_submit_9 (by decide) dL_submit_18 dL_submit_19 hP1 (hA_at hq hqs ho hk1) hS1 (by decide) (by decide)
  · have hk2 : k < 2 := (List.getElem?_eq_some_iff.mp hk).1
    rcases (show k = 0 ∨ k = 1 by omega) with rfl | rfl
    · cases hk
      refine w_xex (as := [.inl x1]) (rest := [.int 0, .ref qo]) hE mw_X9_submit wi_X9_submit wv_X9_submit (KS := KSx) (t := 0) (ci := 9) (n0 := 0) rfl (by decide) rfl wl_RL_67 mn_X9_submit rfl (Nat.le_of_ble_eq_true rfl) (Nat.le_of_ble_eq_true rfl) (Nat.le_of_ble_eq_true rfl) dL_submit_4 rfl (Nat.le_of_ble_eq_true rfl) F O hP (hp_S C) hl.1 (Nat.le_of_ble_eq_true rfl) (Nat.le_of_ble_eq_true rfl) (fun ce q9 H1 locs1 hP1 hz1 hk1 hS1 g1 g2 g3 => ?_)
      exact hp_ex C hl [] ⟨0, 9, 12, 19⟩ [⟨0, 9, 15, 13⟩] rfl (fun z hz => by cases hz) (by decide) (by decide) wk_RL_19 wq_io g1 g2 g3 (t1 := 13) (Or.inl ⟨3, dL_submit_12, by decide, rfl⟩) dL_submit_13 (by decide) dL_submit_14 hP1 (hA_at hq hqs ho hk1) hS1 (by decide) (by decide)
    · cases hk
      refine w_xex (as := [.inl x1]) (rest := [.int 0, .ref qo]) hE mw_X9_submit wi_X9_submit wv_X9_submit (KS := KSx) (t := 0) (ci := 9) (n0 := 0) rfl (by decide) rfl wl_RL_67 mn_X9_submit rfl (Nat.le_of_ble_eq_true rfl) (Nat.le_of_ble_eq_true rfl) (Nat.le_of_ble_eq_true rfl) dL_submit_4 rfl (Nat.le_of_ble_eq_true rfl) F O hP (hp_S C) hl.1 (Nat.le_of_ble_eq_true rfl) (Nat.le_of_ble_eq_true rfl) (fun ce q9 H1 locs1 hP1 hz1 hk1 hS1 g1 g2 g3 => ?_)
      exact hp_ex C hl [⟨0, 9, 12, 19⟩] ⟨0, 9, 15, 13⟩ [] rfl (fun z hz => by cases List.mem_singleton.mp hz; exact ⟨by decide, eIO, wk_RL_19, hN.1⟩) (by decide) (by decide) wk_RL_13 wq_is g1 g2 g3 (t1 := 16) (Or.inl ⟨3, dL_submit_15, by decide, rfl⟩) dL_submit_16 (by decide) dL_submit_17 hP1 (hA_at hq hqs ho hk1) hS1 (by decide) (by decide)
abbrev hdL_queued : HDt := (yL_queued, cL_queued, 4, [(0, 9, 12, 19)])
set_option maxRecDepth 20000 in
set_option maxHeartbeats 2000000 in
theorem hm_queued {wp : Wp} (ok : okW KSx wp) {cL : ClassId} {qo : Nat} (hq : Oq wp qo) {f : Nat → Int64} {M M2 : Mem} {x1 : Int32} {r : Int32 ⊕ String} {kr : Int32} (hf : f_X9_queued x1 M = some (r, M2)) (hcs : Kr [eIO] r kr) : HM hdL_queued [.ref (wp.1 0), .int x1, .ref qo] wp cL qo f (fOf Int32.toInt64 f r) M M2 kr := by
  have hE := ev_X9_queued 25 (by decide) x1 M
  rw [hf] at hE
  refine hp_of rfl rfl (Nat.le_of_ble_eq_true rfl) ok hq (fun p l e s m args below meth c la C hP ho hl => ?_)
  have hl : lv_has la 4 [(0, .ref (wp.1 0)), (1, .int x1), (2, .ref qo)] := hl
  obtain ⟨F, O, hr, hlk, htb, hKo, hq9, hN, hqs⟩ := id C
  obtain ⟨hx, hb, hml, hown, hts, hstk⟩ := id F
  refine lv_aload_n hx hb dL_queued_0 rfl (lv_at hl 2 rfl) ?_
  refine lv_iconst (v := 0) hx hb dL_queued_1 (by decide) ?_
  refine lv_aload_n hx hb dL_queued_2 rfl (lv_at hl 0 rfl) ?_
  refine lv_iload_n hx hb dL_queued_3 rfl (lv_at hl 1 rfl) ?_
  rcases hcs with ⟨v, rfl, rfl⟩ | ⟨k, E, rfl, hk, rfl⟩
  · refine w_xok (as := [.inl x1]) (rest := [.int 0, .ref qo]) hE ⟨_, rfl⟩ mw_X9_queued wi_X9_queued wv_X9_queued (KS := KSx) (t := 0) (ci := 9) (n0 := 0) rfl (by decide) rfl wl_RL_70 mn_X9_queued rfl (Nat.le_of_ble_eq_true rfl) (Nat.le_of_ble_eq_true rfl) (Nat.le_of_ble_eq_true rfl) dL_queued_4 rfl (Nat.le_of_ble_eq_true rfl) F O hP (hp_S C) hl.1 (Nat.le_of_ble_eq_true rfl) (Nat.le_of_ble_eq_true rfl) (fun H1 locs1 hP1 hz1 hk1 hS1 => ?_)
    exact hp_okL C (tgt := 15) dL_queued_7 dL_queued_8 dL_queued_9 (by decide) dL_queued_15 dL_queued_16 hP1 (hA_at hq hqs ho hk1) hS1 (by decide) (by decide)
  · obtain rfl : k = 0 := by have := (List.getElem?_eq_some_iff.mp hk).1; simpa using this
    cases hk
    refine w_xex (as := [.inl x1]) (rest := [.int 0, .ref qo]) hE mw_X9_queued wi_X9_queued wv_X9_queued (KS := KSx) (t := 0) (ci := 9) (n0 := 0) rfl (by decide) rfl wl_RL_70 mn_X9_queued rfl (Nat.le_of_ble_eq_true rfl) (Nat.le_of_ble_eq_true rfl) (Nat.le_of_ble_eq_true rfl) dL_queued_4 rfl (Nat.le_of_ble_eq_true rfl) F O hP (hp_S C) hl.1 (Nat.le_of_ble_eq_true rfl) (Nat.le_of_ble_eq_true rfl) (fun ce q9 H1 locs1 hP1 hz1 hk1 hS1 g1 g2 g3 => ?_)
    exact hp_ex C hl [] ⟨0, 9, 12, 19⟩ [] rfl (fun z hz => by cases hz) (by decide) (by decide) wk_RL_19 wq_io g1 g2 g3 (t1 := 13) (Or.inl ⟨3, dL_queued_12, by decide, rfl⟩) dL_queued_13 (by decide) dL_queued_14 hP1 (hA_at hq hqs ho hk1) hS1 (by decide) (by decide)
abbrev hdL_run : HDt := (yL_run, cL_run, 4, [(0, 9, 12, 25)])
set_option maxRecDepth 20000 in
set_option maxHeartbeats 2000000 in
theorem hm_run {wp : Wp} (ok : okW KSx wp) {cL : ClassId} {qo : Nat} (hq : Oq wp qo) {f : Nat → Int64} {M M2 : Mem} {x1 : Int32} {r : Int32 ⊕ String} {kr : Int32} (hf : f_X9_run x1 M = some (r, M2)) (hcs : Kr [eIA] r kr) : HM hdL_run [.ref (wp.1 0), .int x1, .ref qo] wp cL qo f (fOf Int32.toInt64 f r) M M2 kr := by
  have hE := ev_X9_run 25 (by decide) x1 M
  rw [hf] at hE
  refine hp_of rfl rfl (Nat.le_of_ble_eq_true rfl) ok hq (fun p l e s m args below meth c la C hP ho hl => ?_)
  have hl : lv_has la 4 [(0, .ref (wp.1 0)), (1, .int x1), (2, .ref qo)] := hl
  obtain ⟨F, O, hr, hlk, htb, hKo, hq9, hN, hqs⟩ := id C
  obtain ⟨hx, hb, hml, hown, hts, hstk⟩ := id F
  refine lv_aload_n hx hb dL_run_0 rfl (lv_at hl 2 rfl) ?_
  refine lv_iconst (v := 0) hx hb dL_run_1 (by decide) ?_
  refine lv_aload_n hx hb dL_run_2 rfl (lv_at hl 0 rfl) ?_
  refine lv_iload_n hx hb dL_run_3 rfl (lv_at hl 1 rfl) ?_
  rcases hcs with ⟨v, rfl, rfl⟩ | ⟨k, E, rfl, hk, rfl⟩
  · refine w_xok (as := [.inl x1]) (rest := [.int 0, .ref qo]) hE ⟨_, rfl⟩ mw_X9_run wi_X9_run wv_X9_run (KS := KSx) (t := 0) (ci := 9) (n0 := 0) rfl (by decide) rfl wl_RL_73 mn_X9_run rfl (Nat.le_of_ble_eq_true rfl) (Nat.le_of_ble_eq_true rfl) (Nat.le_of_ble_eq_true rfl) dL_run_4 rfl (Nat.le_of_ble_eq_true rfl) F O hP (hp_S C) hl.1 (Nat.le_of_ble_eq_true rfl) (Nat.le_of_ble_eq_true rfl) (fun H1 locs1 hP1 hz1 hk1 hS1 => ?_)
    exact hp_okL C (tgt := 15) dL_run_7 dL_run_8 dL_run_9 (by decide) dL_run_15 dL_run_16 hP1 (hA_at hq hqs ho hk1) hS1 (by decide) (by decide)
  · obtain rfl : k = 0 := by have := (List.getElem?_eq_some_iff.mp hk).1; simpa using this
    cases hk
    refine w_xex (as := [.inl x1]) (rest := [.int 0, .ref qo]) hE mw_X9_run wi_X9_run wv_X9_run (KS := KSx) (t := 0) (ci := 9) (n0 := 0) rfl (by decide) rfl wl_RL_73 mn_X9_run rfl (Nat.le_of_ble_eq_true rfl) (Nat.le_of_ble_eq_true rfl) (Nat.le_of_ble_eq_true rfl) dL_run_4 rfl (Nat.le_of_ble_eq_true rfl) F O hP (hp_S C) hl.1 (Nat.le_of_ble_eq_true rfl) (Nat.le_of_ble_eq_true rfl) (fun ce q9 H1 locs1 hP1 hz1 hk1 hS1 g1 g2 g3 => ?_)
    exact hp_ex C hl [] ⟨0, 9, 12, 25⟩ [] rfl (fun z hz => by cases hz) (by decide) (by decide) wk_RL_25 wq_ia g1 g2 g3 (t1 := 13) (Or.inl ⟨3, dL_run_12, by decide, rfl⟩) dL_run_13 (by decide) dL_run_14 hP1 (hA_at hq hqs ho hk1) hS1 (by decide) (by decide)
abbrev hdL_runOf : HDt := (yL_runOf, cL_runOf, 5, [(0, 10, 13, 19), (0, 10, 17, 25)])
set_option maxRecDepth 20000 in
set_option maxHeartbeats 2000000 in
theorem hm_runOf {wp : Wp} (ok : okW KSx wp) {cL : ClassId} {qo : Nat} (hq : Oq wp qo) {f : Nat → Int64} {M M2 : Mem} {x1 : Int32} {x2 : Int32} {r : Int32 ⊕ String} {kr : Int32} (hf : f_X9_runOf x1 x2 M = some (r, M2)) (hcs : Kr [eIO, eIA] r kr) : HM hdL_runOf [.ref (wp.1 0), .int x1, .int x2, .ref qo] wp cL qo f (fOf Int32.toInt64 f r) M M2 kr := by
  have hE := ev_X9_runOf 25 (by decide) x1 x2 M
  rw [hf] at hE
  refine hp_of rfl rfl (Nat.le_of_ble_eq_true rfl) ok hq (fun p l e s m args below meth c la C hP ho hl => ?_)
  have hl : lv_has la 5 [(0, .ref (wp.1 0)), (1, .int x1), (2, .int x2), (3, .ref qo)] := hl
  obtain ⟨F, O, hr, hlk, htb, hKo, hq9, hN, hqs⟩ := id C
  obtain ⟨hx, hb, hml, hown, hts, hstk⟩ := id F
  refine lv_aload_n hx hb dL_runOf_0 rfl (lv_at hl 3 rfl) ?_
  refine lv_iconst (v := 0) hx hb dL_runOf_1 (by decide) ?_
  refine lv_aload_n hx hb dL_runOf_2 rfl (lv_at hl 0 rfl) ?_
  refine lv_iload_n hx hb dL_runOf_3 rfl (lv_at hl 1 rfl) ?_
  refine lv_iload_n hx hb dL_runOf_4 rfl (lv_at hl 2 rfl) ?_
  rcases hcs with ⟨v, rfl, rfl⟩ | ⟨k, E, rfl, hk, rfl⟩
  · refine w_xok (as := [.inl x1, .inl x2]) (rest := [.int 0, .ref qo]) hE ⟨_, rfl⟩ mw_X9_runOf wi_X9_runOf wv_X9_runOf (KS := KSx) (t := 0) (ci := 9) (n0 := 0) rfl (by decide) rfl wl_RL_76 mn_X9_runOf rfl (Nat.le_of_ble_eq_true rfl) (Nat.le_of_ble_eq_true rfl) (Nat.le_of_ble_eq_true rfl) dL_runOf_5 rfl (Nat.le_of_ble_eq_true rfl) F O hP (hp_S C) hl.1 (Nat.le_of_ble_eq_true rfl) (Nat.le_of_ble_eq_true rfl) (fun H1 locs1 hP1 hz1 hk1 hS1 => ?_)
    exact hp_okL C (tgt := 21) dL_runOf_8 dL_runOf_9 dL_runOf_10 (by decide) dL_runOf_21 dL_runOf_22 hP1 (hA_at hq hqs ho hk1) hS1 (by decide) (by decide)
  · have hk2 : k < 2 := (List.getElem?_eq_some_iff.mp hk).1
    rcases (show k = 0 ∨ k = 1 by omega) with rfl | rfl
    · cases hk
      refine w_xex (as := [.inl x1, .inl x2]) (rest := [.int 0, .ref qo]) hE mw_X9_runOf wi_X9_runOf wv_X9_runOf (KS := KSx) (t := 0) (ci := 9) (n0 := 0) rfl (by decide) rfl wl_RL_76 mn_X9_runOf rfl (Nat.le_of_ble_eq_true rfl) (Nat.le_of_ble_eq_true rfl) (Nat.le_of_ble_eq_true rfl) dL_runOf_5 rfl (Nat.le_of_ble_eq_true rfl) F O hP (hp_S C) hl.1 (Nat.le_of_ble_eq_true rfl) (Nat.le_of_ble_eq_true rfl) (fun ce q9 H1 locs1 hP1 hz1 hk1 hS1 g1 g2 g3 => ?_)
      exact hp_ex C hl [] ⟨0, 10, 13, 19⟩ [⟨0, 10, 17, 25⟩] rfl (fun z hz => by cases hz) (by decide) (by decide) wk_RL_19 wq_io g1 g2 g3 (t1 := 15) (Or.inr ⟨4, dL_runOf_13, by decide, rfl⟩) dL_runOf_15 (by decide) dL_runOf_16 hP1 (hA_at hq hqs ho hk1) hS1 (by decide) (by decide)
    · cases hk
      refine w_xex (as := [.inl x1, .inl x2]) (rest := [.int 0, .ref qo]) hE mw_X9_runOf wi_X9_runOf wv_X9_runOf (KS := KSx) (t := 0) (ci := 9) (n0 := 0) rfl (by decide) rfl wl_RL_76 mn_X9_runOf rfl (Nat.le_of_ble_eq_true rfl) (Nat.le_of_ble_eq_true rfl) (Nat.le_of_ble_eq_true rfl) dL_runOf_5 rfl (Nat.le_of_ble_eq_true rfl) F O hP (hp_S C) hl.1 (Nat.le_of_ble_eq_true rfl) (Nat.le_of_ble_eq_true rfl) (fun ce q9 H1 locs1 hP1 hz1 hk1 hS1 g1 g2 g3 => ?_)
      exact hp_ex C hl [⟨0, 10, 13, 19⟩] ⟨0, 10, 17, 25⟩ [] rfl (fun z hz => by cases List.mem_singleton.mp hz; exact ⟨by decide, eIO, wk_RL_19, hN.2.1⟩) (by decide) (by decide) wk_RL_25 wq_ia g1 g2 g3 (t1 := 19) (Or.inr ⟨4, dL_runOf_17, by decide, rfl⟩) dL_runOf_19 (by decide) dL_runOf_20 hP1 (hA_at hq hqs ho hk1) hS1 (by decide) (by decide)
abbrev hdL_clock : HDt := (yL_clock, cL_clock, 4, [(0, 9, 12, 19)])
set_option maxRecDepth 20000 in
set_option maxHeartbeats 2000000 in
theorem hm_clock {wp : Wp} (ok : okW KSx wp) {cL : ClassId} {qo : Nat} (hq : Oq wp qo) {f : Nat → Int64} {M M2 : Mem} {x1 : Int32} {r : Int32 ⊕ String} {kr : Int32} (hf : f_X9_clock x1 M = some (r, M2)) (hcs : Kr [eIO] r kr) : HM hdL_clock [.ref (wp.1 0), .int x1, .ref qo] wp cL qo f (fOf Int32.toInt64 f r) M M2 kr := by
  have hE := ev_X9_clock 25 (by decide) x1 M
  rw [hf] at hE
  refine hp_of rfl rfl (Nat.le_of_ble_eq_true rfl) ok hq (fun p l e s m args below meth c la C hP ho hl => ?_)
  have hl : lv_has la 4 [(0, .ref (wp.1 0)), (1, .int x1), (2, .ref qo)] := hl
  obtain ⟨F, O, hr, hlk, htb, hKo, hq9, hN, hqs⟩ := id C
  obtain ⟨hx, hb, hml, hown, hts, hstk⟩ := id F
  refine lv_aload_n hx hb dL_clock_0 rfl (lv_at hl 2 rfl) ?_
  refine lv_iconst (v := 0) hx hb dL_clock_1 (by decide) ?_
  refine lv_aload_n hx hb dL_clock_2 rfl (lv_at hl 0 rfl) ?_
  refine lv_iload_n hx hb dL_clock_3 rfl (lv_at hl 1 rfl) ?_
  rcases hcs with ⟨v, rfl, rfl⟩ | ⟨k, E, rfl, hk, rfl⟩
  · refine w_xok (as := [.inl x1]) (rest := [.int 0, .ref qo]) hE ⟨_, rfl⟩ mw_X9_clock wi_X9_clock wv_X9_clock (KS := KSx) (t := 0) (ci := 9) (n0 := 0) rfl (by decide) rfl wl_RL_79 mn_X9_clock rfl (Nat.le_of_ble_eq_true rfl) (Nat.le_of_ble_eq_true rfl) (Nat.le_of_ble_eq_true rfl) dL_clock_4 rfl (Nat.le_of_ble_eq_true rfl) F O hP (hp_S C) hl.1 (Nat.le_of_ble_eq_true rfl) (Nat.le_of_ble_eq_true rfl) (fun H1 locs1 hP1 hz1 hk1 hS1 => ?_)
    exact hp_okL C (tgt := 15) dL_clock_7 dL_clock_8 dL_clock_9 (by decide) dL_clock_15 dL_clock_16 hP1 (hA_at hq hqs ho hk1) hS1 (by decide) (by decide)
  · obtain rfl : k = 0 := by have := (List.getElem?_eq_some_iff.mp hk).1; simpa using this
    cases hk
    refine w_xex (as := [.inl x1]) (rest := [.int 0, .ref qo]) hE mw_X9_clock wi_X9_clock wv_X9_clock (KS := KSx) (t := 0) (ci := 9) (n0 := 0) rfl (by decide) rfl wl_RL_79 mn_X9_clock rfl (Nat.le_of_ble_eq_true rfl) (Nat.le_of_ble_eq_true rfl) (Nat.le_of_ble_eq_true rfl) dL_clock_4 rfl (Nat.le_of_ble_eq_true rfl) F O hP (hp_S C) hl.1 (Nat.le_of_ble_eq_true rfl) (Nat.le_of_ble_eq_true rfl) (fun ce q9 H1 locs1 hP1 hz1 hk1 hS1 g1 g2 g3 => ?_)
    exact hp_ex C hl [] ⟨0, 9, 12, 19⟩ [] rfl (fun z hz => by cases hz) (by decide) (by decide) wk_RL_19 wq_io g1 g2 g3 (t1 := 13) (Or.inl ⟨3, dL_clock_12, by decide, rfl⟩) dL_clock_13 (by decide) dL_clock_14 hP1 (hA_at hq hqs ho hk1) hS1 (by decide) (by decide)
abbrev hdL_ready : HDt := (yL_ready, cL_ready, 5, [(0, 10, 13, 19)])
set_option maxRecDepth 20000 in
set_option maxHeartbeats 2000000 in
theorem hm_ready {wp : Wp} (ok : okW KSx wp) {cL : ClassId} {qo : Nat} (hq : Oq wp qo) {f : Nat → Int64} {M M2 : Mem} {x1 : Int32} {x2 : Int32} {r : Int32 ⊕ String} {kr : Int32} (hf : f_X9_ready x1 x2 M = some (r, M2)) (hcs : Kr [eIO] r kr) : HM hdL_ready [.ref (wp.1 0), .int x1, .int x2, .ref qo] wp cL qo f (fOf Int32.toInt64 f r) M M2 kr := by
  have hE := ev_X9_ready 25 (by decide) x1 x2 M
  rw [hf] at hE
  refine hp_of rfl rfl (Nat.le_of_ble_eq_true rfl) ok hq (fun p l e s m args below meth c la C hP ho hl => ?_)
  have hl : lv_has la 5 [(0, .ref (wp.1 0)), (1, .int x1), (2, .int x2), (3, .ref qo)] := hl
  obtain ⟨F, O, hr, hlk, htb, hKo, hq9, hN, hqs⟩ := id C
  obtain ⟨hx, hb, hml, hown, hts, hstk⟩ := id F
  refine lv_aload_n hx hb dL_ready_0 rfl (lv_at hl 3 rfl) ?_
  refine lv_iconst (v := 0) hx hb dL_ready_1 (by decide) ?_
  refine lv_aload_n hx hb dL_ready_2 rfl (lv_at hl 0 rfl) ?_
  refine lv_iload_n hx hb dL_ready_3 rfl (lv_at hl 1 rfl) ?_
  refine lv_iload_n hx hb dL_ready_4 rfl (lv_at hl 2 rfl) ?_
  rcases hcs with ⟨v, rfl, rfl⟩ | ⟨k, E, rfl, hk, rfl⟩
  · refine w_xok (as := [.inl x1, .inl x2]) (rest := [.int 0, .ref qo]) hE ⟨_, rfl⟩ mw_X9_ready wi_X9_ready wv_X9_ready (KS := KSx) (t := 0) (ci := 9) (n0 := 0) rfl (by decide) rfl wl_RL_82 mn_X9_ready rfl (Nat.le_of_ble_eq_true rfl) (Nat.le_of_ble_eq_true rfl) (Nat.le_of_ble_eq_true rfl) dL_ready_5 rfl (Nat.le_of_ble_eq_true rfl) F O hP (hp_S C) hl.1 (Nat.le_of_ble_eq_true rfl) (Nat.le_of_ble_eq_true rfl) (fun H1 locs1 hP1 hz1 hk1 hS1 => ?_)
    exact hp_okL C (tgt := 17) dL_ready_8 dL_ready_9 dL_ready_10 (by decide) dL_ready_17 dL_ready_18 hP1 (hA_at hq hqs ho hk1) hS1 (by decide) (by decide)
  · obtain rfl : k = 0 := by have := (List.getElem?_eq_some_iff.mp hk).1; simpa using this
    cases hk
    refine w_xex (as := [.inl x1, .inl x2]) (rest := [.int 0, .ref qo]) hE mw_X9_ready wi_X9_ready wv_X9_ready (KS := KSx) (t := 0) (ci := 9) (n0 := 0) rfl (by decide) rfl wl_RL_82 mn_X9_ready rfl (Nat.le_of_ble_eq_true rfl) (Nat.le_of_ble_eq_true rfl) (Nat.le_of_ble_eq_true rfl) dL_ready_5 rfl (Nat.le_of_ble_eq_true rfl) F O hP (hp_S C) hl.1 (Nat.le_of_ble_eq_true rfl) (Nat.le_of_ble_eq_true rfl) (fun ce q9 H1 locs1 hP1 hz1 hk1 hS1 g1 g2 g3 => ?_)
    exact hp_ex C hl [] ⟨0, 10, 13, 19⟩ [] rfl (fun z hz => by cases hz) (by decide) (by decide) wk_RL_19 wq_io g1 g2 g3 (t1 := 15) (Or.inr ⟨4, dL_ready_13, by decide, rfl⟩) dL_ready_15 (by decide) dL_ready_16 hP1 (hA_at hq hqs ho hk1) hS1 (by decide) (by decide)
abbrev hdL_openRow : HDt := (yL_openRow, cL_openRow, 4, [(0, 9, 12, 19)])
set_option maxRecDepth 20000 in
set_option maxHeartbeats 2000000 in
theorem hm_openRow {wp : Wp} (ok : okW KSx wp) {cL : ClassId} {qo : Nat} (hq : Oq wp qo) {f : Nat → Int64} {M M2 : Mem} {x1 : Int32} {r : Int32 ⊕ String} {kr : Int32} (hf : f_X9_openRow x1 M = some (r, M2)) (hcs : Kr [eIO] r kr) : HM hdL_openRow [.ref (wp.1 0), .int x1, .ref qo] wp cL qo f (fOf Int32.toInt64 f r) M M2 kr := by
  have hE := ev_X9_openRow 25 (by decide) x1 M
  rw [hf] at hE
  refine hp_of rfl rfl (Nat.le_of_ble_eq_true rfl) ok hq (fun p l e s m args below meth c la C hP ho hl => ?_)
  have hl : lv_has la 4 [(0, .ref (wp.1 0)), (1, .int x1), (2, .ref qo)] := hl
  obtain ⟨F, O, hr, hlk, htb, hKo, hq9, hN, hqs⟩ := id C
  obtain ⟨hx, hb, hml, hown, hts, hstk⟩ := id F
  refine lv_aload_n hx hb dL_openRow_0 rfl (lv_at hl 2 rfl) ?_
  refine lv_iconst (v := 0) hx hb dL_openRow_1 (by decide) ?_
  refine lv_aload_n hx hb dL_openRow_2 rfl (lv_at hl 0 rfl) ?_
  refine lv_iload_n hx hb dL_openRow_3 rfl (lv_at hl 1 rfl) ?_
  rcases hcs with ⟨v, rfl, rfl⟩ | ⟨k, E, rfl, hk, rfl⟩
  · refine w_xok (as := [.inl x1]) (rest := [.int 0, .ref qo]) hE ⟨_, rfl⟩ mw_X9_openRow wi_X9_openRow wv_X9_openRow (KS := KSx) (t := 0) (ci := 9) (n0 := 0) rfl (by decide) rfl wl_RL_85 mn_X9_openRow rfl (Nat.le_of_ble_eq_true rfl) (Nat.le_of_ble_eq_true rfl) (Nat.le_of_ble_eq_true rfl) dL_openRow_4 rfl (Nat.le_of_ble_eq_true rfl) F O hP (hp_S C) hl.1 (Nat.le_of_ble_eq_true rfl) (Nat.le_of_ble_eq_true rfl) (fun H1 locs1 hP1 hz1 hk1 hS1 => ?_)
    exact hp_okL C (tgt := 15) dL_openRow_7 dL_openRow_8 dL_openRow_9 (by decide) dL_openRow_15 dL_openRow_16 hP1 (hA_at hq hqs ho hk1) hS1 (by decide) (by decide)
  · obtain rfl : k = 0 := by have := (List.getElem?_eq_some_iff.mp hk).1; simpa using this
    cases hk
    refine w_xex (as := [.inl x1]) (rest := [.int 0, .ref qo]) hE mw_X9_openRow wi_X9_openRow wv_X9_openRow (KS := KSx) (t := 0) (ci := 9) (n0 := 0) rfl (by decide) rfl wl_RL_85 mn_X9_openRow rfl (Nat.le_of_ble_eq_true rfl) (Nat.le_of_ble_eq_true rfl) (Nat.le_of_ble_eq_true rfl) dL_openRow_4 rfl (Nat.le_of_ble_eq_true rfl) F O hP (hp_S C) hl.1 (Nat.le_of_ble_eq_true rfl) (Nat.le_of_ble_eq_true rfl) (fun ce q9 H1 locs1 hP1 hz1 hk1 hS1 g1 g2 g3 => ?_)
    exact hp_ex C hl [] ⟨0, 9, 12, 19⟩ [] rfl (fun z hz => by cases hz) (by decide) (by decide) wk_RL_19 wq_io g1 g2 g3 (t1 := 13) (Or.inl ⟨3, dL_openRow_12, by decide, rfl⟩) dL_openRow_13 (by decide) dL_openRow_14 hP1 (hA_at hq hqs ho hk1) hS1 (by decide) (by decide)
abbrev hdL_stalls : HDt := (yL_stalls, cL_stalls, 5, [(0, 10, 13, 19), (0, 10, 17, 25)])
set_option maxRecDepth 20000 in
set_option maxHeartbeats 2000000 in
theorem hm_stalls {wp : Wp} (ok : okW KSx wp) {cL : ClassId} {qo : Nat} (hq : Oq wp qo) {f : Nat → Int64} {M M2 : Mem} {x1 : Int32} {x2 : Int32} {r : Int32 ⊕ String} {kr : Int32} (hf : f_X9_stalls x1 x2 M = some (r, M2)) (hcs : Kr [eIO, eIA] r kr) : HM hdL_stalls [.ref (wp.1 0), .int x1, .int x2, .ref qo] wp cL qo f (fOf Int32.toInt64 f r) M M2 kr := by
  have hE := ev_X9_stalls 25 (by decide) x1 x2 M
  rw [hf] at hE
  refine hp_of rfl rfl (Nat.le_of_ble_eq_true rfl) ok hq (fun p l e s m args below meth c la C hP ho hl => ?_)
  have hl : lv_has la 5 [(0, .ref (wp.1 0)), (1, .int x1), (2, .int x2), (3, .ref qo)] := hl
  obtain ⟨F, O, hr, hlk, htb, hKo, hq9, hN, hqs⟩ := id C
  obtain ⟨hx, hb, hml, hown, hts, hstk⟩ := id F
  refine lv_aload_n hx hb dL_stalls_0 rfl (lv_at hl 3 rfl) ?_
  refine lv_iconst (v := 0) hx hb dL_stalls_1 (by decide) ?_
  refine lv_aload_n hx hb dL_stalls_2 rfl (lv_at hl 0 rfl) ?_
  refine lv_iload_n hx hb dL_stalls_3 rfl (lv_at hl 1 rfl) ?_
  refine lv_iload_n hx hb dL_stalls_4 rfl (lv_at hl 2 rfl) ?_
  rcases hcs with ⟨v, rfl, rfl⟩ | ⟨k, E, rfl, hk, rfl⟩
  · refine w_xok (as := [.inl x1, .inl x2]) (rest := [.int 0, .ref qo]) hE ⟨_, rfl⟩ mw_X9_stalls wi_X9_stalls wv_X9_stalls (KS := KSx) (t := 0) (ci := 9) (n0 := 0) rfl (by decide) rfl wl_RL_88 mn_X9_stalls rfl (Nat.le_of_ble_eq_true rfl) (Nat.le_of_ble_eq_true rfl) (Nat.le_of_ble_eq_true rfl) dL_stalls_5 rfl (Nat.le_of_ble_eq_true rfl) F O hP (hp_S C) hl.1 (Nat.le_of_ble_eq_true rfl) (Nat.le_of_ble_eq_true rfl) (fun H1 locs1 hP1 hz1 hk1 hS1 => ?_)
    exact hp_okL C (tgt := 21) dL_stalls_8 dL_stalls_9 dL_stalls_10 (by decide) dL_stalls_21 dL_stalls_22 hP1 (hA_at hq hqs ho hk1) hS1 (by decide) (by decide)
  · have hk2 : k < 2 := (List.getElem?_eq_some_iff.mp hk).1
    rcases (show k = 0 ∨ k = 1 by omega) with rfl | rfl
    · cases hk
      refine w_xex (as := [.inl x1, .inl x2]) (rest := [.int 0, .ref qo]) hE mw_X9_stalls wi_X9_stalls wv_X9_stalls (KS := KSx) (t := 0) (ci := 9) (n0 := 0) rfl (by decide) rfl wl_RL_88 mn_X9_stalls rfl (Nat.le_of_ble_eq_true rfl) (Nat.le_of_ble_eq_true rfl) (Nat.le_of_ble_eq_true rfl) dL_stalls_5 rfl (Nat.le_of_ble_eq_true rfl) F O hP (hp_S C) hl.1 (Nat.le_of_ble_eq_true rfl) (Nat.le_of_ble_eq_true rfl) (fun ce q9 H1 locs1 hP1 hz1 hk1 hS1 g1 g2 g3 => ?_)
      exact hp_ex C hl [] ⟨0, 10, 13, 19⟩ [⟨0, 10, 17, 25⟩] rfl (fun z hz => by cases hz) (by decide) (by decide) wk_RL_19 wq_io g1 g2 g3 (t1 := 15) (Or.inr ⟨4, dL_stalls_13, by decide, rfl⟩) dL_stalls_15 (by decide) dL_stalls_16 hP1 (hA_at hq hqs ho hk1) hS1 (by decide) (by decide)
    · cases hk
      refine w_xex (as := [.inl x1, .inl x2]) (rest := [.int 0, .ref qo]) hE mw_X9_stalls wi_X9_stalls wv_X9_stalls (KS := KSx) (t := 0) (ci := 9) (n0 := 0) rfl (by decide) rfl wl_RL_88 mn_X9_stalls rfl (Nat.le_of_ble_eq_true rfl) (Nat.le_of_ble_eq_true rfl) (Nat.le_of_ble_eq_true rfl) dL_stalls_5 rfl (Nat.le_of_ble_eq_true rfl) F O hP (hp_S C) hl.1 (Nat.le_of_ble_eq_true rfl) (Nat.le_of_ble_eq_true rfl) (fun ce q9 H1 locs1 hP1 hz1 hk1 hS1 g1 g2 g3 => ?_)
      exact hp_ex C hl [⟨0, 10, 13, 19⟩] ⟨0, 10, 17, 25⟩ [] rfl (fun z hz => by cases List.mem_singleton.mp hz; exact ⟨by decide, eIO, wk_RL_19, hN.2.1⟩) (by decide) (by decide) wk_RL_25 wq_ia g1 g2 g3 (t1 := 19) (Or.inr ⟨4, dL_stalls_17, by decide, rfl⟩) dL_stalls_19 (by decide) dL_stalls_20 hP1 (hA_at hq hqs ho hk1) hS1 (by decide) (by decide)
abbrev hdL_wouldFinish : HDt := (yL_wouldFinish, cL_wouldFinish, 4, [(0, 9, 12, 19)])
set_option maxRecDepth 20000 in
set_option maxHeartbeats 2000000 in
theorem hm_wouldFinish {wp : Wp} (ok : okW KSx wp) {cL : ClassId} {qo : Nat} (hq : Oq wp qo) {f : Nat → Int64} {M M2 : Mem} {x1 : Int32} {r : Int32 ⊕ String} {kr : Int32} (hf : f_X9_wouldFinish x1 M = some (r, M2)) (hcs : Kr [eIO] r kr) : HM hdL_wouldFinish [.ref (wp.1 0), .int x1, .ref qo] wp cL qo f (fOf Int32.toInt64 f r) M M2 kr := by
  have hE := ev_X9_wouldFinish 25 (by decide) x1 M
  rw [hf] at hE
  refine hp_of rfl rfl (Nat.le_of_ble_eq_true rfl) ok hq (fun p l e s m args below meth c la C hP ho hl => ?_)
  have hl : lv_has la 4 [(0, .ref (wp.1 0)), (1, .int x1), (2, .ref qo)] := hl
  obtain ⟨F, O, hr, hlk, htb, hKo, hq9, hN, hqs⟩ := id C
  obtain ⟨hx, hb, hml, hown, hts, hstk⟩ := id F
  refine lv_aload_n hx hb dL_wouldFinish_0 rfl (lv_at hl 2 rfl) ?_
  refine lv_iconst (v := 0) hx hb dL_wouldFinish_1 (by decide) ?_
  refine lv_aload_n hx hb dL_wouldFinish_2 rfl (lv_at hl 0 rfl) ?_
  refine lv_iload_n hx hb dL_wouldFinish_3 rfl (lv_at hl 1 rfl) ?_
  rcases hcs with ⟨v, rfl, rfl⟩ | ⟨k, E, rfl, hk, rfl⟩
  · refine w_xok (as := [.inl x1]) (rest := [.int 0, .ref qo]) hE ⟨_, rfl⟩ mw_X9_wouldFinish wi_X9_wouldFinish wv_X9_wouldFinish (KS := KSx) (t := 0) (ci := 9) (n0 := 0) rfl (by decide) rfl wl_RL_95 mn_X9_wouldFinish rfl (Nat.le_of_ble_eq_true rfl) (Nat.le_of_ble_eq_true rfl) (Nat.le_of_ble_eq_true rfl) dL_wouldFinish_4 rfl (Nat.le_of_ble_eq_true rfl) F O hP (hp_S C) hl.1 (Nat.le_of_ble_eq_true rfl) (Nat.le_of_ble_eq_true rfl) (fun H1 locs1 hP1 hz1 hk1 hS1 => ?_)
    exact hp_okL C (tgt := 15) dL_wouldFinish_7 dL_wouldFinish_8 dL_wouldFinish_9 (by decide) dL_wouldFinish_15 dL_wouldFinish_16 hP1 (hA_at hq hqs ho hk1) hS1 (by decide) (by decide)
  · obtain rfl : k = 0 := by have := (List.getElem?_eq_some_iff.mp hk).1; simpa using this
    cases hk
    refine w_xex (as := [.inl x1]) (rest := [.int 0, .ref qo]) hE mw_X9_wouldFinish wi_X9_wouldFinish wv_X9_wouldFinish (KS := KSx) (t := 0) (ci := 9) (n0 := 0) rfl (by decide) rfl wl_RL_95 mn_X9_wouldFinish rfl (Nat.le_of_ble_eq_true rfl) (Nat.le_of_ble_eq_true rfl) (Nat.le_of_ble_eq_true rfl) dL_wouldFinish_4 rfl (Nat.le_of_ble_eq_true rfl) F O hP (hp_S C) hl.1 (Nat.le_of_ble_eq_true rfl) (Nat.le_of_ble_eq_true rfl) (fun ce q9 H1 locs1 hP1 hz1 hk1 hS1 g1 g2 g3 => ?_)
    exact hp_ex C hl [] ⟨0, 9, 12, 19⟩ [] rfl (fun z hz => by cases hz) (by decide) (by decide) wk_RL_19 wq_io g1 g2 g3 (t1 := 13) (Or.inl ⟨3, dL_wouldFinish_12, by decide, rfl⟩) dL_wouldFinish_13 (by decide) dL_wouldFinish_14 hP1 (hA_at hq hqs ho hk1) hS1 (by decide) (by decide)
abbrev hdL_wouldBe : HDt := (yL_wouldBe, cL_wouldBe, 6, [(0, 12, 15, 19)])
set_option maxRecDepth 20000 in
set_option maxHeartbeats 2000000 in
theorem hm_wouldBe {wp : Wp} (ok : okW KSx wp) {cL : ClassId} {qo : Nat} (hq : Oq wp qo) {f : Nat → Int64} {M M2 : Mem} {x1 : Int32} {x2 : Int32} {x3 : Int32} {r : Int32 ⊕ String} {kr : Int32} (hf : f_X9_wouldBe x1 x2 x3 M = some (r, M2)) (hcs : Kr [eIO] r kr) : HM hdL_wouldBe [.ref (wp.1 0), .int x1, .int x2, .int x3, .ref qo] wp cL qo f (fOf Int32.toInt64 f r) M M2 kr := by
  have hE := ev_X9_wouldBe 25 (by decide) x1 x2 x3 M
  rw [hf] at hE
  refine hp_of rfl rfl (Nat.le_of_ble_eq_true rfl) ok hq (fun p l e s m args below meth c la C hP ho hl => ?_)
  have hl : lv_has la 6 [(0, .ref (wp.1 0)), (1, .int x1), (2, .int x2), (3, .int x3), (4, .ref qo)] := hl
  obtain ⟨F, O, hr, hlk, htb, hKo, hq9, hN, hqs⟩ := id C
  obtain ⟨hx, hb, hml, hown, hts, hstk⟩ := id F
  refine lv_aload hx hb dL_wouldBe_0 (lv_at hl 4 rfl) ?_
  refine lv_iconst (v := 0) hx hb dL_wouldBe_2 (by decide) ?_
  refine lv_aload_n hx hb dL_wouldBe_3 rfl (lv_at hl 0 rfl) ?_
  refine lv_iload_n hx hb dL_wouldBe_4 rfl (lv_at hl 1 rfl) ?_
  refine lv_iload_n hx hb dL_wouldBe_5 rfl (lv_at hl 2 rfl) ?_
  refine lv_iload_n hx hb dL_wouldBe_6 rfl (lv_at hl 3 rfl) ?_
  rcases hcs with ⟨v, rfl, rfl⟩ | ⟨k, E, rfl, hk, rfl⟩
  · refine w_xok (as := [.inl x1, .inl x2, .inl x3]) (rest := [.int 0, .ref qo]) hE ⟨_, rfl⟩ mw_X9_wouldBe wi_X9_wouldBe wv_X9_wouldBe (KS := KSx) (t := 0) (ci := 9) (n0 := 0) rfl (by decide) rfl wl_RL_98 mn_X9_wouldBe rfl (Nat.le_of_ble_eq_true rfl) (Nat.le_of_ble_eq_true rfl) (Nat.le_of_ble_eq_true rfl) dL_wouldBe_7 rfl (Nat.le_of_ble_eq_true rfl) F O hP (hp_S C) hl.1 (Nat.le_of_ble_eq_true rfl) (Nat.le_of_ble_eq_true rfl) (fun H1 locs1 hP1 hz1 hk1 hS1 => ?_)
    exact hp_okL C (tgt := 19) dL_wouldBe_10 dL_wouldBe_11 dL_wouldBe_12 (by decide) dL_wouldBe_19 dL_wouldBe_20 hP1 (hA_at hq hqs ho hk1) hS1 (by decide) (by decide)
  · obtain rfl : k = 0 := by have := (List.getElem?_eq_some_iff.mp hk).1; simpa using this
    cases hk
    refine w_xex (as := [.inl x1, .inl x2, .inl x3]) (rest := [.int 0, .ref qo]) hE mw_X9_wouldBe wi_X9_wouldBe wv_X9_wouldBe (KS := KSx) (t := 0) (ci := 9) (n0 := 0) rfl (by decide) rfl wl_RL_98 mn_X9_wouldBe rfl (Nat.le_of_ble_eq_true rfl) (Nat.le_of_ble_eq_true rfl) (Nat.le_of_ble_eq_true rfl) dL_wouldBe_7 rfl (Nat.le_of_ble_eq_true rfl) F O hP (hp_S C) hl.1 (Nat.le_of_ble_eq_true rfl) (Nat.le_of_ble_eq_true rfl) (fun ce q9 H1 locs1 hP1 hz1 hk1 hS1 g1 g2 g3 => ?_)
    exact hp_ex C hl [] ⟨0, 12, 15, 19⟩ [] rfl (fun z hz => by cases hz) (by decide) (by decide) wk_RL_19 wq_io g1 g2 g3 (t1 := 17) (Or.inr ⟨5, dL_wouldBe_15, by decide, rfl⟩) dL_wouldBe_17 (by decide) dL_wouldBe_18 hP1 (hA_at hq hqs ho hk1) hS1 (by decide) (by decide)
abbrev hdL_isConflict : HDt := (yL_isConflict, cL_isConflict, 5, [(0, 17, 20, 19)])
set_option maxRecDepth 20000 in
set_option maxHeartbeats 2000000 in
theorem hm_isConflict {wp : Wp} (ok : okW KSx wp) {cL : ClassId} {qo : Nat} (hq : Oq wp qo) {f : Nat → Int64} {M M2 : Mem} {x1 : Int32} {x2 : Int32} {r : Int32 ⊕ String} {kr : Int32} (hf : f_X9_isConflict x1 x2 M = some (r, M2)) (hcs : Kr [eIO] r kr) : HM hdL_isConflict [.ref (wp.1 0), .int x1, .int x2, .ref qo] wp cL qo f (fOf zL f r) M M2 kr := by
  have hE := ev_X9_isConflict 25 (by decide) x1 x2 M
  rw [hf] at hE
  refine hp_of rfl rfl (Nat.le_of_ble_eq_true rfl) ok hq (fun p l e s m args below meth c la C hP ho hl => ?_)
  have hl : lv_has la 5 [(0, .ref (wp.1 0)), (1, .int x1), (2, .int x2), (3, .ref qo)] := hl
  obtain ⟨F, O, hr, hlk, htb, hKo, hq9, hN, hqs⟩ := id C
  obtain ⟨hx, hb, hml, hown, hts, hstk⟩ := id F
  refine lv_aload_n hx hb dL_isConflict_0 rfl (lv_at hl 3 rfl) ?_
  refine lv_iconst (v := 0) hx hb dL_isConflict_1 (by decide) ?_
  refine lv_aload_n hx hb dL_isConflict_2 rfl (lv_at hl 0 rfl) ?_
  refine lv_iload_n hx hb dL_isConflict_3 rfl (lv_at hl 1 rfl) ?_
  refine lv_iload_n hx hb dL_isConflict_4 rfl (lv_at hl 2 rfl) ?_
  rcases hcs with ⟨v, rfl, rfl⟩ | ⟨k, E, rfl, hk, rfl⟩
  · refine w_xok (as := [.inl x1, .inl x2]) (rest := [.int 0, .ref qo]) hE ⟨_, rfl⟩ mw_X9_isConflict wi_X9_isConflict wv_X9_isConflict (KS := KSx) (t := 0) (ci := 9) (n0 := 0) rfl (by decide) rfl wl_RL_101 mn_X9_isConflict rfl (Nat.le_of_ble_eq_true rfl) (Nat.le_of_ble_eq_true rfl) (Nat.le_of_ble_eq_true rfl) dL_isConflict_5 rfl (Nat.le_of_ble_eq_true rfl) F O hP (hp_S C) hl.1 (Nat.le_of_ble_eq_true rfl) (Nat.le_of_ble_eq_true rfl) (fun H1 locs1 hP1 hz1 hk1 hS1 => ?_)
    exact hp_okZ C (t0 := 15) (t1 := 16) (tgt := 24) dL_isConflict_8 (by decide) dL_isConflict_11 dL_isConflict_12 (by decide) dL_isConflict_15 rfl dL_isConflict_16 dL_isConflict_17 (by decide) dL_isConflict_24 dL_isConflict_25 hP1 (hA_at hq hqs ho hk1) hS1 (by decide) (by decide)
  · obtain rfl : k = 0 := by have := (List.getElem?_eq_some_iff.mp hk).1; simpa using this
    cases hk
    refine w_xex (as := [.inl x1, .inl x2]) (rest := [.int 0, .ref qo]) hE mw_X9_isConflict wi_X9_isConflict wv_X9_isConflict (KS := KSx) (t := 0) (ci := 9) (n0 := 0) rfl (by decide) rfl wl_RL_101 mn_X9_isConflict rfl (Nat.le_of_ble_eq_true rfl) (Nat.le_of_ble_eq_true rfl) (Nat.le_of_ble_eq_true rfl) dL_isConflict_5 rfl (Nat.le_of_ble_eq_true rfl) F O hP (hp_S C) hl.1 (Nat.le_of_ble_eq_true rfl) (Nat.le_of_ble_eq_true rfl) (fun ce q9 H1 locs1 hP1 hz1 hk1 hS1 g1 g2 g3 => ?_)
    exact hp_ex C hl [] ⟨0, 17, 20, 19⟩ [] rfl (fun z hz => by cases hz) (by decide) (by decide) wk_RL_19 wq_io g1 g2 g3 (t1 := 22) (Or.inr ⟨4, dL_isConflict_20, by decide, rfl⟩) dL_isConflict_22 (by decide) dL_isConflict_23 hP1 (hA_at hq hqs ho hk1) hS1 (by decide) (by decide)
abbrev hdL_bestFinish : HDt := (yL_bestFinish, cL_bestFinish, 3, [(0, 8, 11, 13)])
set_option maxRecDepth 20000 in
set_option maxHeartbeats 2000000 in
theorem hm_bestFinish {wp : Wp} (ok : okW KSx wp) {cL : ClassId} {qo : Nat} (hq : Oq wp qo) {f : Nat → Int64} {M M2 : Mem} {r : Int32 ⊕ String} {kr : Int32} (hf : f_X9_bestFinish M = some (r, M2)) (hcs : Kr [eIS] r kr) : HM hdL_bestFinish [.ref (wp.1 0), .ref qo] wp cL qo f (fOf Int32.toInt64 f r) M M2 kr := by
  have hE := ev_X9_bestFinish 25 (by decide) M
  rw [hf] at hE
  refine hp_of rfl rfl (Nat.le_of_ble_eq_true rfl) ok hq (fun p l e s m args below meth c la C hP ho hl => ?_)
  have hl : lv_has la 3 [(0, .ref (wp.1 0)), (1, .ref qo)] := hl
  obtain ⟨F, O, hr, hlk, htb, hKo, hq9, hN, hqs⟩ := id C
  obtain ⟨hx, hb, hml, hown, hts, hstk⟩ := id F
  refine lv_aload_n hx hb dL_bestFinish_0 rfl (lv_at hl 1 rfl) ?_
  refine lv_iconst (v := 0) hx hb dL_bestFinish_1 (by decide) ?_
  refine lv_aload_n hx hb dL_bestFinish_2 rfl (lv_at hl 0 rfl) ?_
  rcases hcs with ⟨v, rfl, rfl⟩ | ⟨k, E, rfl, hk, rfl⟩
  · refine w_xok (as := []) (rest := [.int 0, .ref qo]) hE ⟨_, rfl⟩ mw_X9_bestFinish wi_X9_bestFinish wv_X9_bestFinish (KS := KSx) (t := 0) (ci := 9) (n0 := 0) rfl (by decide) rfl wl_RL_104 mn_X9_bestFinish rfl (Nat.le_of_ble_eq_true rfl) (Nat.le_of_ble_eq_true rfl) (Nat.le_of_ble_eq_true rfl) dL_bestFinish_3 rfl (Nat.le_of_ble_eq_true rfl) F O hP (hp_S C) hl.1 (Nat.le_of_ble_eq_true rfl) (Nat.le_of_ble_eq_true rfl) (fun H1 locs1 hP1 hz1 hk1 hS1 => ?_)
    exact hp_okL C (tgt := 14) dL_bestFinish_6 dL_bestFinish_7 dL_bestFinish_8 (by decide) dL_bestFinish_14 dL_bestFinish_15 hP1 (hA_at hq hqs ho hk1) hS1 (by decide) (by decide)
  · obtain rfl : k = 0 := by have := (List.getElem?_eq_some_iff.mp hk).1; simpa using this
    cases hk
    refine w_xex (as := []) (rest := [.int 0, .ref qo]) hE mw_X9_bestFinish wi_X9_bestFinish wv_X9_bestFinish (KS := KSx) (t := 0) (ci := 9) (n0 := 0) rfl (by decide) rfl wl_RL_104 mn_X9_bestFinish rfl (Nat.le_of_ble_eq_true rfl) (Nat.le_of_ble_eq_true rfl) (Nat.le_of_ble_eq_true rfl) dL_bestFinish_3 rfl (Nat.le_of_ble_eq_true rfl) F O hP (hp_S C) hl.1 (Nat.le_of_ble_eq_true rfl) (Nat.le_of_ble_eq_true rfl) (fun ce q9 H1 locs1 hP1 hz1 hk1 hS1 g1 g2 g3 => ?_)
    exact hp_ex C hl [] ⟨0, 8, 11, 13⟩ [] rfl (fun z hz => by cases hz) (by decide) (by decide) wk_RL_13 wq_is g1 g2 g3 (t1 := 12) (Or.inl ⟨2, dL_bestFinish_11, by decide, rfl⟩) dL_bestFinish_12 (by decide) dL_bestFinish_13 hP1 (hA_at hq hqs ho hk1) hS1 (by decide) (by decide)
abbrev hdL_bestOrder : HDt := (yL_bestOrder, cL_bestOrder, 4, [(0, 9, 12, 13), (0, 9, 15, 19)])
set_option maxRecDepth 20000 in
set_option maxHeartbeats 2000000 in
theorem hm_bestOrder {wp : Wp} (ok : okW KSx wp) {cL : ClassId} {qo : Nat} (hq : Oq wp qo) {f : Nat → Int64} {M M2 : Mem} {x1 : Int32} {r : Int32 ⊕ String} {kr : Int32} (hf : f_X9_bestOrder x1 M = some (r, M2)) (hcs : Kr [eIS, eIO] r kr) : HM hdL_bestOrder [.ref (wp.1 0), .int x1, .ref qo] wp cL qo f (fOf Int32.toInt64 f r) M M2 kr := by
  have hE := ev_X9_bestOrder 25 (by decide) x1 M
  rw [hf] at hE
  refine hp_of rfl rfl (Nat.le_of_ble_eq_true rfl) ok hq (fun p l e s m args below meth c la C hP ho hl => ?_)
  have hl : lv_has la 4 [(0, .ref (wp.1 0)), (1, .int x1), (2, .ref qo)] := hl
  obtain ⟨F, O, hr, hlk, htb, hKo, hq9, hN, hqs⟩ := id C
  obtain ⟨hx, hb, hml, hown, hts, hstk⟩ := id F
  refine lv_aload_n hx hb dL_bestOrder_0 rfl (lv_at hl 2 rfl) ?_
  refine lv_iconst (v := 0) hx hb dL_bestOrder_1 (by decide) ?_
  refine lv_aload_n hx hb dL_bestOrder_2 rfl (lv_at hl 0 rfl) ?_
  refine lv_iload_n hx hb dL_bestOrder_3 rfl (lv_at hl 1 rfl) ?_
  rcases hcs with ⟨v, rfl, rfl⟩ | ⟨k, E, rfl, hk, rfl⟩
  · refine w_xok (as := [.inl x1]) (rest := [.int 0, .ref qo]) hE ⟨_, rfl⟩ mw_X9_bestOrder wi_X9_bestOrder wv_X9_bestOrder (KS := KSx) (t := 0) (ci := 9) (n0 := 0) rfl (by decide) rfl wl_RL_107 mn_X9_bestOrder rfl (Nat.le_of_ble_eq_true rfl) (Nat.le_of_ble_eq_true rfl) (Nat.le_of_ble_eq_true rfl) dL_bestOrder_4 rfl (Nat.le_of_ble_eq_true rfl) F O hP (hp_S C) hl.1 (Nat.le_of_ble_eq_true rfl) (Nat.le_of_ble_eq_true rfl) (fun H1 locs1 hP1 hz1 hk1 hS1 => ?_)
    exact hp_okL C (tgt := 18) dL_bestOrder_7 dL_bestOrder_8 dL_bestOrder_9 (by decide) dL_bestOrder_18 dL_bestOrder_19 hP1 (hA_at hq hqs ho hk1) hS1 (by decide) (by decide)
  · have hk2 : k < 2 := (List.getElem?_eq_some_iff.mp hk).1
    rcases (show k = 0 ∨ k = 1 by omega) with rfl | rfl
    · cases hk
      refine w_xex (as := [.inl x1]) (rest := [.int 0, .ref qo]) hE mw_X9_bestOrder wi_X9_bestOrder wv_X9_bestOrder (KS := KSx) (t := 0) (ci := 9) (n0 := 0) rfl (by decide) rfl wl_RL_107 mn_X9_bestOrder rfl (Nat.le_of_ble_eq_true rfl) (Nat.le_of_ble_eq_true rfl) (Nat.le_of_ble_eq_true rfl) dL_bestOrder_4 rfl (Nat.le_of_ble_eq_true rfl) F O hP (hp_S C) hl.1 (Nat.le_of_ble_eq_true rfl) (Nat.le_of_ble_eq_true rfl) (fun ce q9 H1 locs1 hP1 hz1 hk1 hS1 g1 g2 g3 => ?_)
      exact hp_ex C hl [] ⟨0, 9, 12, 13⟩ [⟨0, 9, 15, 19⟩] rfl (fun z hz => by cases hz) (by decide) (by decide) wk_RL_13 wq_is g1 g2 g3 (t1 := 13) (Or.inl ⟨3, dL_bestOrder_12, by decide, rfl⟩) dL_bestOrder_13 (by decide) dL_bestOrder_14 hP1 (hA_at hq hqs ho hk1) hS1 (by decide) (by decide)
    · cases hk
      refine w_xex (as := [.inl x1]) (rest := [.int 0, .ref qo]) hE mw_X9_bestOrder wi_X9_bestOrder wv_X9_bestOrder (KS := KSx) (t := 0) (ci := 9) (n0 := 0) rfl (by decide) rfl wl_RL_107 mn_X9_bestOrder rfl (Nat.le_of_ble_eq_true rfl) (Nat.le_of_ble_eq_true rfl) (Nat.le_of_ble_eq_true rfl) dL_bestOrder_4 rfl (Nat.le_of_ble_eq_true rfl) F O hP (hp_S C) hl.1 (Nat.le_of_ble_eq_true rfl) (Nat.le_of_ble_eq_true rfl) (fun ce q9 H1 locs1 hP1 hz1 hk1 hS1 g1 g2 g3 => ?_)
      exact hp_ex C hl [⟨0, 9, 12, 13⟩] ⟨0, 9, 15, 19⟩ [] rfl (fun z hz => by cases List.mem_singleton.mp hz; exact ⟨by decide, eIS, wk_RL_13, hN.2.2.1⟩) (by decide) (by decide) wk_RL_19 wq_io g1 g2 g3 (t1 := 16) (Or.inl ⟨3, dL_bestOrder_15, by decide, rfl⟩) dL_bestOrder_16 (by decide) dL_bestOrder_17 hP1 (hA_at hq hqs ho hk1) hS1 (by decide) (by decide)
abbrev hdL_reorder : HDt := (yL_reorder, cL_reorder, 3, [(0, 8, 11, 13)])
set_option maxRecDepth 20000 in
set_option maxHeartbeats 2000000 in
theorem hm_reorder {wp : Wp} (ok : okW KSx wp) {cL : ClassId} {qo : Nat} (hq : Oq wp qo) {f : Nat → Int64} {M M2 : Mem} {r : Int32 ⊕ String} {kr : Int32} (hf : f_X9_reorder M = some (r, M2)) (hcs : Kr [eIS] r kr) : HM hdL_reorder [.ref (wp.1 0), .ref qo] wp cL qo f (fOf Int32.toInt64 f r) M M2 kr := by
  have hE := ev_X9_reorder 25 (by decide) M
  rw [hf] at hE
  refine hp_of rfl rfl (Nat.le_of_ble_eq_true rfl) ok hq (fun p l e s m args below meth c la C hP ho hl => ?_)
  have hl : lv_has la 3 [(0, .ref (wp.1 0)), (1, .ref qo)] := hl
  obtain ⟨F, O, hr, hlk, htb, hKo, hq9, hN, hqs⟩ := id C
  obtain ⟨hx, hb, hml, hown, hts, hstk⟩ := id F
  refine lv_aload_n hx hb dL_reorder_0 rfl (lv_at hl 1 rfl) ?_
  refine lv_iconst (v := 0) hx hb dL_reorder_1 (by decide) ?_
  refine lv_aload_n hx hb dL_reorder_2 rfl (lv_at hl 0 rfl) ?_
  rcases hcs with ⟨v, rfl, rfl⟩ | ⟨k, E, rfl, hk, rfl⟩
  · refine w_xok (as := []) (rest := [.int 0, .ref qo]) hE ⟨_, rfl⟩ mw_X9_reorder wi_X9_reorder wv_X9_reorder (KS := KSx) (t := 0) (ci := 9) (n0 := 0) rfl (by decide) rfl wl_RL_110 mn_X9_reorder rfl (Nat.le_of_ble_eq_true rfl) (Nat.le_of_ble_eq_true rfl) (Nat.le_of_ble_eq_true rfl) dL_reorder_3 rfl (Nat.le_of_ble_eq_true rfl) F O hP (hp_S C) hl.1 (Nat.le_of_ble_eq_true rfl) (Nat.le_of_ble_eq_true rfl) (fun H1 locs1 hP1 hz1 hk1 hS1 => ?_)
    exact hp_okL C (tgt := 14) dL_reorder_6 dL_reorder_7 dL_reorder_8 (by decide) dL_reorder_14 dL_reorder_15 hP1 (hA_at hq hqs ho hk1) hS1 (by decide) (by decide)
  · obtain rfl : k = 0 := by have := (List.getElem?_eq_some_iff.mp hk).1; simpa using this
    cases hk
    refine w_xex (as := []) (rest := [.int 0, .ref qo]) hE mw_X9_reorder wi_X9_reorder wv_X9_reorder (KS := KSx) (t := 0) (ci := 9) (n0 := 0) rfl (by decide) rfl wl_RL_110 mn_X9_reorder rfl (Nat.le_of_ble_eq_true rfl) (Nat.le_of_ble_eq_true rfl) (Nat.le_of_ble_eq_true rfl) dL_reorder_3 rfl (Nat.le_of_ble_eq_true rfl) F O hP (hp_S C) hl.1 (Nat.le_of_ble_eq_true rfl) (Nat.le_of_ble_eq_true rfl) (fun ce q9 H1 locs1 hP1 hz1 hk1 hS1 g1 g2 g3 => ?_)
    exact hp_ex C hl [] ⟨0, 8, 11, 13⟩ [] rfl (fun z hz => by cases hz) (by decide) (by decide) wk_RL_13 wq_is g1 g2 g3 (t1 := 12) (Or.inl ⟨2, dL_reorder_11, by decide, rfl⟩) dL_reorder_12 (by decide) dL_reorder_13 hP1 (hA_at hq hqs ho hk1) hS1 (by decide) (by decide)
abbrev hdL_budgetFor : HDt := (yL_budgetFor, cL_budgetFor, 4, [(0, 9, 12, 116)])
set_option maxRecDepth 20000 in
set_option maxHeartbeats 2000000 in
theorem hm_budgetFor {wp : Wp} (ok : okW KSx wp) {cL : ClassId} {qo : Nat} (hq : Oq wp qo) {f : Nat → Int64} {M M2 : Mem} {x1 : Int32} {r : Int32 ⊕ String} {kr : Int32} (hf : f_X9_budgetFor x1 M = some (r, M2)) (hcs : Kr [eNS] r kr) : HM hdL_budgetFor [.ref (wp.1 0), .int x1, .ref qo] wp cL qo f (fOf Int32.toInt64 f r) M M2 kr := by
  have hE := ev_X9_budgetFor 25 (by decide) x1 M
  rw [hf] at hE
  refine hp_of rfl rfl (Nat.le_of_ble_eq_true rfl) ok hq (fun p l e s m args below meth c la C hP ho hl => ?_)
  have hl : lv_has la 4 [(0, .ref (wp.1 0)), (1, .int x1), (2, .ref qo)] := hl
  obtain ⟨F, O, hr, hlk, htb, hKo, hq9, hN, hqs⟩ := id C
  obtain ⟨hx, hb, hml, hown, hts, hstk⟩ := id F
  refine lv_aload_n hx hb dL_budgetFor_0 rfl (lv_at hl 2 rfl) ?_
  refine lv_iconst (v := 0) hx hb dL_budgetFor_1 (by decide) ?_
  refine lv_aload_n hx hb dL_budgetFor_2 rfl (lv_at hl 0 rfl) ?_
  refine lv_iload_n hx hb dL_budgetFor_3 rfl (lv_at hl 1 rfl) ?_
  rcases hcs with ⟨v, rfl, rfl⟩ | ⟨k, E, rfl, hk, rfl⟩
  · refine w_xok (as := [.inl x1]) (rest := [.int 0, .ref qo]) hE ⟨_, rfl⟩ mw_X9_budgetFor wi_X9_budgetFor wv_X9_budgetFor (KS := KSx) (t := 0) (ci := 9) (n0 := 0) rfl (by decide) rfl wl_RL_113 mn_X9_budgetFor rfl (Nat.le_of_ble_eq_true rfl) (Nat.le_of_ble_eq_true rfl) (Nat.le_of_ble_eq_true rfl) dL_budgetFor_4 rfl (Nat.le_of_ble_eq_true rfl) F O hP (hp_S C) hl.1 (Nat.le_of_ble_eq_true rfl) (Nat.le_of_ble_eq_true rfl) (fun H1 locs1 hP1 hz1 hk1 hS1 => ?_)
    exact hp_okL C (tgt := 15) dL_budgetFor_7 dL_budgetFor_8 dL_budgetFor_9 (by decide) dL_budgetFor_15 dL_budgetFor_16 hP1 (hA_at hq hqs ho hk1) hS1 (by decide) (by decide)
  · obtain rfl : k = 0 := by have := (List.getElem?_eq_some_iff.mp hk).1; simpa using this
    cases hk
    refine w_xex (as := [.inl x1]) (rest := [.int 0, .ref qo]) hE mw_X9_budgetFor wi_X9_budgetFor wv_X9_budgetFor (KS := KSx) (t := 0) (ci := 9) (n0 := 0) rfl (by decide) rfl wl_RL_113 mn_X9_budgetFor rfl (Nat.le_of_ble_eq_true rfl) (Nat.le_of_ble_eq_true rfl) (Nat.le_of_ble_eq_true rfl) dL_budgetFor_4 rfl (Nat.le_of_ble_eq_true rfl) F O hP (hp_S C) hl.1 (Nat.le_of_ble_eq_true rfl) (Nat.le_of_ble_eq_true rfl) (fun ce q9 H1 locs1 hP1 hz1 hk1 hS1 g1 g2 g3 => ?_)
    exact hp_ex C hl [] ⟨0, 9, 12, 116⟩ [] rfl (fun z hz => by cases hz) (by decide) (by decide) wk_RL_116 wq_ns g1 g2 g3 (t1 := 13) (Or.inl ⟨3, dL_budgetFor_12, by decide, rfl⟩) dL_budgetFor_13 (by decide) dL_budgetFor_14 hP1 (hA_at hq hqs ho hk1) hS1 (by decide) (by decide)
abbrev hdL_save : HDt := (yL_save, cL_save, 3, [(0, 5, 8, 19)])
set_option maxRecDepth 20000 in
set_option maxHeartbeats 2000000 in
theorem hm_save {wp : Wp} (ok : okW KSx wp) {cL : ClassId} {qo : Nat} (hq : Oq wp qo) {f : Nat → Int64} {M M2 : Mem} {x1 : Int32} {r : Int32 ⊕ String} {kr : Int32} (hf : f_X9_save x1 M = some (r, M2)) (hcs : Kr [eIO] r kr) : HM hdL_save [.ref (wp.1 0), .int x1] wp cL qo f (f) M M2 kr := by
  have hE := ev_X9_save 25 (by decide) x1 M
  rw [hf] at hE
  refine hp_of rfl rfl (Nat.le_of_ble_eq_true rfl) ok hq (fun p l e s m args below meth c la C hP ho hl => ?_)
  have hl : lv_has la 3 [(0, .ref (wp.1 0)), (1, .int x1)] := hl
  obtain ⟨F, O, hr, hlk, htb, hKo, hq9, hN, hqs⟩ := id C
  obtain ⟨hx, hb, hml, hown, hts, hstk⟩ := id F
  refine lv_aload_n hx hb dL_save_0 rfl (lv_at hl 0 rfl) ?_
  refine lv_iload_n hx hb dL_save_1 rfl (lv_at hl 1 rfl) ?_
  rcases hcs with ⟨v, rfl, rfl⟩ | ⟨k, E, rfl, hk, rfl⟩
  · refine w_xokV (as := [.inl x1]) (rest := []) hE rfl mw_X9_save wi_X9_save wv_X9_save (KS := KSx) (t := 0) (ci := 9) (n0 := 0) rfl (by decide) rfl wl_RL_118 mn_X9_save rfl (Nat.le_of_ble_eq_true rfl) (Nat.le_of_ble_eq_true rfl) (Nat.le_of_ble_eq_true rfl) dL_save_2 rfl (Nat.le_of_ble_eq_true rfl) F O hP (hp_S C) hl.1 (Nat.le_of_ble_eq_true rfl) (Nat.le_of_ble_eq_true rfl) (fun H1 locs1 hP1 hz1 hk1 hS1 => ?_)
    exact hp_zero C (tgt := 11) dL_save_5 (by decide) dL_save_11 dL_save_12 hP1 (hA_at hq hqs ho hk1) hS1 (by decide) (by decide)
  · obtain rfl : k = 0 := by have := (List.getElem?_eq_some_iff.mp hk).1; simpa using this
    cases hk
    refine w_xex (as := [.inl x1]) (rest := []) hE mw_X9_save wi_X9_save wv_X9_save (KS := KSx) (t := 0) (ci := 9) (n0 := 0) rfl (by decide) rfl wl_RL_118 mn_X9_save rfl (Nat.le_of_ble_eq_true rfl) (Nat.le_of_ble_eq_true rfl) (Nat.le_of_ble_eq_true rfl) dL_save_2 rfl (Nat.le_of_ble_eq_true rfl) F O hP (hp_S C) hl.1 (Nat.le_of_ble_eq_true rfl) (Nat.le_of_ble_eq_true rfl) (fun ce q9 H1 locs1 hP1 hz1 hk1 hS1 g1 g2 g3 => ?_)
    exact hp_ex C hl [] ⟨0, 5, 8, 19⟩ [] rfl (fun z hz => by cases hz) (by decide) (by decide) wk_RL_19 wq_io g1 g2 g3 (t1 := 9) (Or.inl ⟨2, dL_save_8, by decide, rfl⟩) dL_save_9 (by decide) dL_save_10 hP1 (hA_at hq hqs ho hk1) hS1 (by decide) (by decide)
abbrev hdL_restore : HDt := (yL_restore, cL_restore, 3, [(0, 5, 8, 19), (0, 5, 11, 116)])
set_option maxRecDepth 20000 in
set_option maxHeartbeats 2000000 in
theorem hm_restore {wp : Wp} (ok : okW KSx wp) {cL : ClassId} {qo : Nat} (hq : Oq wp qo) {f : Nat → Int64} {M M2 : Mem} {x1 : Int32} {r : Int32 ⊕ String} {kr : Int32} (hf : f_X9_restore x1 M = some (r, M2)) (hcs : Kr [eIO, eNS] r kr) : HM hdL_restore [.ref (wp.1 0), .int x1] wp cL qo f (f) M M2 kr := by
  have hE := ev_X9_restore 25 (by decide) x1 M
  rw [hf] at hE
  refine hp_of rfl rfl (Nat.le_of_ble_eq_true rfl) ok hq (fun p l e s m args below meth c la C hP ho hl => ?_)
  have hl : lv_has la 3 [(0, .ref (wp.1 0)), (1, .int x1)] := hl
  obtain ⟨F, O, hr, hlk, htb, hKo, hq9, hN, hqs⟩ := id C
  obtain ⟨hx, hb, hml, hown, hts, hstk⟩ := id F
  refine lv_aload_n hx hb dL_restore_0 rfl (lv_at hl 0 rfl) ?_
  refine lv_iload_n hx hb dL_restore_1 rfl (lv_at hl 1 rfl) ?_
  rcases hcs with ⟨v, rfl, rfl⟩ | ⟨k, E, rfl, hk, rfl⟩
  · refine w_xokV (as := [.inl x1]) (rest := []) hE rfl mw_X9_restore wi_X9_restore wv_X9_restore (KS := KSx) (t := 0) (ci := 9) (n0 := 0) rfl (by decide) rfl wl_RL_122 mn_X9_restore rfl (Nat.le_of_ble_eq_true rfl) (Nat.le_of_ble_eq_true rfl) (Nat.le_of_ble_eq_true rfl) dL_restore_2 rfl (Nat.le_of_ble_eq_true rfl) F O hP (hp_S C) hl.1 (Nat.le_of_ble_eq_true rfl) (Nat.le_of_ble_eq_true rfl) (fun H1 locs1 hP1 hz1 hk1 hS1 => ?_)
    exact hp_zero C (tgt := 14) dL_restore_5 (by decide) dL_restore_14 dL_restore_15 hP1 (hA_at hq hqs ho hk1) hS1 (by decide) (by decide)
  · have hk2 : k < 2 := (List.getElem?_eq_some_iff.mp hk).1
    rcases (show k = 0 ∨ k = 1 by omega) with rfl | rfl
    · cases hk
      refine w_xex (as := [.inl x1]) (rest := []) hE mw_X9_restore wi_X9_restore wv_X9_restore (KS := KSx) (t := 0) (ci := 9) (n0 := 0) rfl (by decide) rfl wl_RL_122 mn_X9_restore rfl (Nat.le_of_ble_eq_true rfl) (Nat.le_of_ble_eq_true rfl) (Nat.le_of_ble_eq_true rfl) dL_restore_2 rfl (Nat.le_of_ble_eq_true rfl) F O hP (hp_S C) hl.1 (Nat.le_of_ble_eq_true rfl) (Nat.le_of_ble_eq_true rfl) (fun ce q9 H1 locs1 hP1 hz1 hk1 hS1 g1 g2 g3 => ?_)
      exact hp_ex C hl [] ⟨0, 5, 8, 19⟩ [⟨0, 5, 11, 116⟩] rfl (fun z hz => by cases hz) (by decide) (by decide) wk_RL_19 wq_io g1 g2 g3 (t1 := 9) (Or.inl ⟨2, dL_restore_8, by decide, rfl⟩) dL_restore_9 (by decide) dL_restore_10 hP1 (hA_at hq hqs ho hk1) hS1 (by decide) (by decide)
    · cases hk
      refine w_xex (as := [.inl x1]) (rest := []) hE mw_X9_restore wi_X9_restore wv_X9_restore (KS := KSx) (t := 0) (ci := 9) (n0 := 0) rfl (by decide) rfl wl_RL_122 mn_X9_restore rfl (Nat.le_of_ble_eq_true rfl) (Nat.le_of_ble_eq_true rfl) (Nat.le_of_ble_eq_true rfl) dL_restore_2 rfl (Nat.le_of_ble_eq_true rfl) F O hP (hp_S C) hl.1 (Nat.le_of_ble_eq_true rfl) (Nat.le_of_ble_eq_true rfl) (fun ce q9 H1 locs1 hP1 hz1 hk1 hS1 g1 g2 g3 => ?_)
      exact hp_ex C hl [⟨0, 5, 8, 19⟩] ⟨0, 5, 11, 116⟩ [] rfl (fun z hz => by cases List.mem_singleton.mp hz; exact ⟨by decide, eIO, wk_RL_19, hN.2.2.2⟩) (by decide) (by decide) wk_RL_116 wq_ns g1 g2 g3 (t1 := 12) (Or.inl ⟨2, dL_restore_11, by decide, rfl⟩) dL_restore_12 (by decide) dL_restore_13 hP1 (hA_at hq hqs ho hk1) hS1 (by decide) (by decide)
