theorem wf_RJ0_38 : Cond.fieldLink RJ0 38 "java/lang/String" "COMPACT_STRINGS" "Z" ∈ WS := ws_in 635 (by decide +kernel) rfl
theorem wf_RJ0_1053 : Cond.fieldLink RJ0 1053 "jdk/internal/util/Preconditions" "SIOOBE_FORMATTER" "Ljava/util/function/BiFunction;" ∈ WS := ws_in 651 (by decide +kernel) rfl
theorem wf_RJ0_9 : Cond.fieldLink RJ0 9 "java/lang/String" "value" "[B" ∈ WS := ws_in 1880 (by decide +kernel) rfl
theorem wf_RJ0_15 : Cond.fieldLink RJ0 15 "java/lang/String" "coder" "B" ∈ WS := ws_in 1881 (by decide +kernel) rfl
section STR
variable (KS : List Kd) (ST : StrT)
abbrev mdJ0_coder : MD := (yJ0_coder_7d493, cJ0_coder_7d493, 1, some .byte)
abbrev mdJ0_isLatin1 : MD := (yJ0_isLatin1_aae02, cJ0_isLatin1_aae02, 1, some .boolean)
abbrev mdJ0_length : MD := (yJ0_length_8abf5, cJ0_length_8abf5, 1, some .int)
abbrev mdJ0_charAt : MD := (yJ0_charAt_5068e, cJ0_charAt_5068e, 2, some .char)
abbrev mdJ1_charAt : MD := (yJ1_charAt_3b067, cJ1_charAt_3b067, 2, some .char)
abbrev mdJ0_checkIndex : MD := (yJ0_checkIndex_df160, cJ0_checkIndex_df160, 2, none)
abbrev mdJ3_checkIndex : MD := (yJ3_checkIndex_8e157, cJ3_checkIndex_8e157, 3, some .int)
theorem mw_J0_coder : mdW mdJ0_coder := ⟨wm_J0_coder_7d493, w0_RJ0, by decide, by decide⟩
theorem mw_J0_isLatin1 : mdW mdJ0_isLatin1 := ⟨wm_J0_isLatin1_aae02, w0_RJ0, by decide, by decide⟩
theorem mw_J0_length : mdW mdJ0_length := ⟨wm_J0_length_8abf5, w0_RJ0, by decide, by decide⟩
theorem mw_J0_charAt : mdW mdJ0_charAt := ⟨wm_J0_charAt_5068e, w0_RJ0, by decide, by decide⟩
theorem mw_J1_charAt : mdW mdJ1_charAt := ⟨wm_J1_charAt_3b067, w0_RJ1, by decide, by decide⟩
theorem mw_J0_checkIndex : mdW mdJ0_checkIndex := ⟨wm_J0_checkIndex_df160, w0_RJ0, by decide, by decide⟩
theorem mw_J3_checkIndex : mdW mdJ3_checkIndex := ⟨wm_J3_checkIndex_8e157, w0_RJ3, by decide, by decide⟩
theorem ev_J0_coder (d : Nat) {j : Nat} (hj : strOk j) (M : Mem) : Ev KS ST mdJ0_coder d [.inr j] M (some (0, M)) := by
  refine ev_of rfl (Nat.le_of_ble_eq_true rfl) ?_
  show CorM KS ST RJ0 cJ0_coder_7d493 1 (some .byte) d 0 [(0, .inr j)] [] M (some (0, M))
  refine c_compact wf_RJ0_38 dJ0_coder_7d493_0 ?_
  refine c_Fl (b := (1 : Int32) = 0) (by decide) (c_if_eq (tgt := 13) dJ0_coder_7d493_3 rfl (fun q => absurd q (by decide)) (fun _ => ?_))
  refine c_aload_n (i := 0) dJ0_coder_7d493_6 rfl rfl ?_
  refine c_strCoder hj wf_RJ0_15 dJ0_coder_7d493_7 ?_
  refine c_goto (tgt := 14) dJ0_coder_7d493_10 rfl ?_
  exact c_nret rfl rfl dJ0_coder_7d493_14
theorem ev_J0_isLatin1 (d : Nat) {j : Nat} (hj : strOk j) (M : Mem) : Ev KS ST mdJ0_isLatin1 d [.inr j] M (some (1, M)) := by
  refine ev_of rfl (Nat.le_of_ble_eq_true rfl) ?_
  show CorM KS ST RJ0 cJ0_isLatin1_aae02 1 (some .boolean) d 0 [(0, .inr j)] [] M (some (1, M))
  refine c_compact wf_RJ0_38 dJ0_isLatin1_aae02_0 ?_
  refine c_Fl (b := (1 : Int32) = 0) (by decide) (c_if_eq (tgt := 17) dJ0_isLatin1_aae02_3 rfl (fun q => absurd q (by decide)) (fun _ => ?_))
  refine c_aload_n (i := 0) dJ0_isLatin1_aae02_6 rfl rfl ?_
  refine c_strCoder hj wf_RJ0_15 dJ0_isLatin1_aae02_7 ?_
  refine c_Fl (b := ¬ (0 : Int32) = 0) (by decide) (c_if_ne (tgt := 17) dJ0_isLatin1_aae02_10 rfl (fun q => absurd rfl q) (fun _ => ?_))
  refine c_iconst dJ0_isLatin1_aae02_13 (v := 1) rfl ?_
  refine c_goto (tgt := 18) dJ0_isLatin1_aae02_14 rfl ?_
  exact c_nret rfl rfl dJ0_isLatin1_aae02_18
theorem ev_J0_length (d : Nat) (hlev : 1 ≤ d) {j : Nat} (hj : strOk j) (M : Mem) : Ev KS ST mdJ0_length d [.inr j] M (some (nI (slen j) >>> ((0 : Int32) &&& 31), M)) := by
  refine ev_of rfl (Nat.le_of_ble_eq_true rfl) ?_
  show CorM KS ST RJ0 cJ0_length_8abf5 1 (some .int) d 0 [(0, .inr j)] [] M (some (nI (slen j) >>> ((0 : Int32) &&& 31), M))
  refine c_aload_n (i := 0) dJ0_length_8abf5_0 rfl rfl ?_
  refine c_strVal hj wf_RJ0_9 dJ0_length_8abf5_1 ?_
  refine c_blen hj dJ0_length_8abf5_4 ?_
  refine c_aload_n (i := 0) dJ0_length_8abf5_5 rfl rfl ?_
  refine c_callStr (as := []) (rs := [.inl (nI (slen j))]) hj (ev_J0_coder KS ST 0 hj M) rfl (Nat.lt_of_lt_of_le (by decide) hlev) mw_J0_coder wi_J0_coder_7d493 wv_J0_coder_7d493 wl_RJ0_335 (n := 0) (by decide +kernel) rfl (by decide) (Nat.le_of_ble_eq_true rfl) ⟨_, rfl⟩ dJ0_length_8abf5_6 ?_
  refine c_ishr dJ0_length_8abf5_9 ?_
  exact c_iret rfl dJ0_length_8abf5_10
/-- Preconditions.checkIndex where nothing is thrown: the third argument isn't looked at -/
theorem met_J3 (l : Launch) (wp : Wp) (sz : Nat) (i n : Int32) (v : Value) (hv : v.category = 1) (h0 : ¬ i < 0) (h1 : i < n) (M : Mem) (ok : okW KS wp) (hbz : wp.2.2.2 ≤ sz) : Met l mdJ3_checkIndex.1 (Cond.code mdJ3_checkIndex.1 mdJ3_checkIndex.2.1 mdJ3_checkIndex.2.2.1 mdJ3_checkIndex.2.2.2 :: WS) (rmd 0 (0, 0)) (va_Pc [.int i, .int n, v] (fun U => U.heap.size = sz ∧ Wd KS ST wp M U)) (QcW KS ST wp (some .int) i M sz) 0 0 (Aw KS wp sz) := by
  refine Met.ofW (cc := cJ3_checkIndex_8e157) (maxL := 3) (ret := some .int) (by decide) rfl ?_
  intro p e s m args below meth c s₁ B hml hv2
  obtain ⟨rfl, rfl, hP, hK, hE⟩ := hv2
  have hx := B.exec
  have hb := B.bytes
  have hlk := B.notSynchronized
  have hl := lv_entry ([.int i, .int n, v]) (n := 3) (by
    have e1 : lg_sl ([.int i, .int n, v]) = [.val (.int i), .val (.int n), .val v] := by
      show [Slot.val (.int i)] ++ ([Slot.val (.int n)] ++ ((if v.category = 2 then [Slot.val v, .second] else [Slot.val v]) ++ [])) = _
      rw [if_neg (by omega)]; rfl
    rw [e1]; exact Nat.le_refl 3)
  rw [lg_entry_eq]
  generalize (lg_sl ([.int i, .int n, v]) ++ List.replicate (3 - (lg_sl ([.int i, .int n, v])).length) Slot.unset).toArray = ls at hl ⊢
  have hl : lv_has ls 3 [(0, .int i), (1, .int n), (2, v)] := hl
  refine lv_iload_n hx hb dJ3_checkIndex_8e157_0 rfl (lv_at hl 0 rfl) ?_
  refine lv_if_lt (tgt := 9) hx hb dJ3_checkIndex_8e157_1 rfl (fun q => absurd q h0) (fun _ => ?_)
  refine lv_iload_n hx hb dJ3_checkIndex_8e157_4 rfl (lv_at hl 0 rfl) ?_
  refine lv_iload_n hx hb dJ3_checkIndex_8e157_5 rfl (lv_at hl 1 rfl) ?_
  refine lv_icmp_lt (tgt := 16) hx hb dJ3_checkIndex_8e157_6 rfl (fun _ => ?_) (fun q => absurd h1 q)
  refine lv_iload_n hx hb dJ3_checkIndex_8e157_16 rfl (lv_at hl 0 rfl) ?_
  exact W.iret hx hb B.returns (fun t ht hW => ⟨⟨i, (), rfl, rfl, by rw [ht]; exact hP, va_K.moved hW.alike hK, by rw [ht]; exact hE.next hW (fun _ _ _ => rfl)⟩, va_S.rf.F ht⟩) (fun q hq => by cases hq) dJ3_checkIndex_8e157_17 hlk
theorem ev_J0_checkIndex (d : Nat) (hlev : 1 ≤ d) (i n : Int32) (M : Mem) : Ev KS ST mdJ0_checkIndex d [.inl i, .inl n] M (if ¬ i < 0 ∧ i < n then some (0, M) else none) := by
  refine ev_of rfl (Nat.le_of_ble_eq_true rfl) ?_
  show CorM KS ST RJ0 cJ0_checkIndex_df160 2 none d 0 [(0, .inl i), (1, .inl n)] [] M (if ¬ i < 0 ∧ i < n then some (0, M) else none)
  refine c_chk (fun h => ?_)
  refine c_iload_n (i := 0) dJ0_checkIndex_df160_0 rfl rfl ?_
  refine c_iload_n (i := 1) dJ0_checkIndex_df160_1 rfl rfl ?_
  intro p l e s m args below meth c wp H locs la r M' C hP hS hl hnd ho
  obtain ⟨hx, hb, hr, hml, hown, hts, hlk, hKK, hE, ok, hbz, hst, -⟩ := id C
  have hE7 := hE.2.2.2.2.2.2.1
  have K : ∀ v : Value, v.category = 1 → va_Z "jdk/internal/util/Preconditions" "SIOOBE_FORMATTER" "Ljava/util/function/BiFunction;" v (B0 wp) s s.heap → W p l e (rmd d (0, 0)) s m args below meth c H locs 0 0 (fnM KS ST none wp s.heap.size below args s r M') (F0 m (0 + 1 + 1) la (trs wp [.inl n, .inl i])) := by
    intro v hv hz
    refine va_gets hx hb hz (hS_B0 ok hbz hS) hown (hts _ wf_RJ0_1053) (fun x h => h) dJ0_checkIndex_df160_2 ?_
    have hM := met_J3 KS ST l wp H.size i n v hv h.1 h.2 M ok (Nat.le_trans hbz hS.1)
    have hr0 := va_runS (As := [.int i, .int n, v]) (rest := []) (n := 3) (R := rmd d (0, 0)) (below := below) (meth := meth) (e := e) (locs := locs) (H := H) (g := F0 m (0 + 1 + 1 + 3) la (v :: trs wp [.inl n, .inl i])) (cells := 0) (slots := 0) (index := 1059) (own := RJ0) ⟨hx, hb, hml, hown, hts⟩ hM ⟨callB_of 3 hts (md_good mw_J3_checkIndex) rfl rfl rfl (hts _ mw_J3_checkIndex.2.1) (hts _ wl_RJ0_1059) ⟨by decide, by decide, by decide +kernel⟩ (room_ok (d2 := 0) (by omega) (by decide)), hts _ ws_J3_checkIndex_8e157⟩ ⟨?_, fun U hU hW => ?_⟩ rfl rfl hl.1 rfl (lv_room (by decide)) dJ0_checkIndex_df160_5 ⟨Nat.zero_le _, Nat.zero_le _⟩
    · refine call_back (md := mdJ3_checkIndex) (as := [.inl i, .inl n]) (M1 := M) (v := i) (d2 := 0) (oc := none) ⟨_, rfl⟩ hr0 hS (fun H1 locs1 hP1 hS1 => ?_)
      exact c_pop (KS := KS) (ST := ST) (ret := none) (ls := [(0, .inl i), (1, .inl n)]) (v := .inl i) dJ0_checkIndex_df160_8 (c_vret rfl dJ0_checkIndex_df160_9) p l e s m args below meth c wp H1 locs1 la r M' C hP1 hS1 hl hnd ho
    · intro a U g mk ⟨h0, h1, h2, h3, h4⟩
      exact ⟨h0, h1, h2, va_K.moved (u := U) (U := U.calling g mk a) (Vm.Alike.refl U.vm) h3, Ext.same (U := U.calling g mk a) h4 rfl⟩
    · obtain ⟨-, q1, q2⟩ := pcW_at (as := []) ok hbz hP hKK hE hS hU hW
      exact ⟨rfl, q1, q2⟩
  rcases hE7 with hz | ⟨t, hz⟩
  · exact K .null rfl hz
  · exact K (.ref t) rfl hz
theorem ev_J1_charAt (d : Nat) (hlev : 2 ≤ d) {j : Nat} (hj : strOk j) (i : Int32) (M : Mem) (h0 : ¬ i < 0 ∧ i < nI (slen j)) (h1 : inb i (slen j)) : Ev KS ST mdJ1_charAt d [.inr (j + 1000), .inl i] M (some (sbyt j (ix i) &&& 255, M)) := by
  refine ev_of rfl (Nat.le_of_ble_eq_true rfl) ?_
  show CorM KS ST RJ1 cJ1_charAt_3b067 2 (some .char) d 0 [(0, .inr (j + 1000)), (1, .inl i)] [] M (some (sbyt j (ix i) &&& 255, M))
  refine c_iload_n (i := 1) dJ1_charAt_3b067_0 rfl rfl ?_
  refine c_aload_n (i := 0) dJ1_charAt_3b067_1 rfl rfl ?_
  refine c_blen hj dJ1_charAt_3b067_2 ?_
  have e0 : (if ¬ i < 0 ∧ i < nI (slen j) then some ((0 : Int32), M) else none) = some (0, M) := if_pos h0
  have hE := ev_J0_checkIndex KS ST 1 (Nat.le_refl _) i (nI (slen j)) M
  rw [e0] at hE
  refine c_callSv (k := fun _ M1 => some (sbyt j (ix i) &&& 255, M1)) (as := [.inl i, .inl (nI (slen j))]) (rs := []) hE rfl (Nat.lt_of_lt_of_le (by decide) hlev) mw_J0_checkIndex ws_J0_checkIndex_df160 wl_RJ1_9 (n := 2) (by decide +kernel) rfl (by decide) (Nat.le_of_ble_eq_true rfl) rfl dJ1_charAt_3b067_3 (fun v M1 hv => ?_)
  cases hv
  refine c_aload_n (i := 0) dJ1_charAt_3b067_6 rfl rfl ?_
  refine c_iload_n (i := 1) dJ1_charAt_3b067_7 rfl rfl ?_
  refine c_bld hj h1 dJ1_charAt_3b067_8 ?_
  refine c_sipush dJ1_charAt_3b067_9 (v := 255) rfl ?_
  refine c_iand dJ1_charAt_3b067_12 ?_
  refine c_i2c (sc_c2 _) dJ1_charAt_3b067_13 ?_
  exact c_nret rfl (sc_nar _) dJ1_charAt_3b067_14
theorem ev_J0_charAt (d : Nat) (hlev : 3 ≤ d) {j : Nat} (hj : strOk j) (i : Int32) (M : Mem) (h0 : ¬ i < 0 ∧ i < nI (slen j)) (h1 : inb i (slen j)) : Ev KS ST mdJ0_charAt d [.inr j, .inl i] M (some (sbyt j (ix i) &&& 255, M)) := by
  refine ev_of rfl (Nat.le_of_ble_eq_true rfl) ?_
  show CorM KS ST RJ0 cJ0_charAt_5068e 2 (some .char) d 0 [(0, .inr j), (1, .inl i)] [] M (some (sbyt j (ix i) &&& 255, M))
  refine c_aload_n (i := 0) dJ0_charAt_5068e_0 rfl rfl ?_
  refine c_callStr (as := []) (rs := []) hj (ev_J0_isLatin1 KS ST 0 hj M) rfl (Nat.lt_of_lt_of_le (by decide) hlev) mw_J0_isLatin1 wi_J0_isLatin1_aae02 wv_J0_isLatin1_aae02 wl_RJ0_492 (n := 0) (by decide +kernel) rfl (by decide) (Nat.le_of_ble_eq_true rfl) ⟨_, rfl⟩ dJ0_charAt_5068e_1 ?_
  refine c_Fl (b := (1 : Int32) = 0) (by decide) (c_if_eq (tgt := 16) dJ0_charAt_5068e_4 rfl (fun q => absurd q (by decide)) (fun _ => ?_))
  refine c_aload_n (i := 0) dJ0_charAt_5068e_7 rfl rfl ?_
  refine c_strVal hj wf_RJ0_9 dJ0_charAt_5068e_8 ?_
  refine c_iload_n (i := 1) dJ0_charAt_5068e_11 rfl rfl ?_
  refine c_callSp (as := [.inr (j + 1000), .inl i]) (rs := []) (ev_J1_charAt KS ST 2 (Nat.le_refl _) hj i M h0 h1) rfl (Nat.lt_of_lt_of_le (by decide) hlev) mw_J1_charAt ws_J1_charAt_3b067 wl_RJ0_495 (n := 2) (by decide +kernel) rfl (by decide) (Nat.le_of_ble_eq_true rfl) ⟨_, rfl⟩ dJ0_charAt_5068e_12 ?_
  exact c_nret rfl (sc_nar _) dJ0_charAt_5068e_15
/-- a char of a constant -/
def schr (j i : Nat) : Int32 := sbyt j i &&& 255
theorem slen_lt {j : Nat} (h : strOk j) : slen j < 2 ^ 31 := by
  have h1 : ∀ i, i < 52 → slen (1000 + i) < 2 ^ 31 := by decide +kernel
  have := h1 (j - 1000) (by omega)
  rwa [show 1000 + (j - 1000) = j by omega] at this
theorem inb_cl {i : Int32} {n : Nat} (hn : n < 2 ^ 31) (h : inb i n) : ¬ i < 0 ∧ i < nI n := by
  obtain ⟨k, h1, rfl⟩ := vp_in_of (x := i) (n := n) h hn
  exact ⟨nI_pos (by omega), nI_lt h1 hn⟩
theorem ev_J0_len (d : Nat) (hlev : 1 ≤ d) {j : Nat} (hj : strOk j) (M : Mem) : Ev KS ST mdJ0_length d [.inr j] M (some (nI (slen j), M)) := by
  have h := ev_J0_length KS ST d hlev hj M
  rw [sc_shr0 (slen_lt hj)] at h
  exact h
theorem ev_J0_chr (d : Nat) (hlev : 3 ≤ d) {j : Nat} (hj : strOk j) (i : Int32) (M : Mem) (h : inb i (slen j)) : Ev KS ST mdJ0_charAt d [.inr j, .inl i] M (some (schr j (ix i), M)) := ev_J0_charAt KS ST d hlev hj i M (inb_cl (slen_lt hj) h) h
end STR
