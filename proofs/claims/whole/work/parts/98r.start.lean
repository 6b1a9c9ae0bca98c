/-! ===== the law from its entry to its loop ===== -/
theorem wl_size {KS : List Kd} {D : va_G} {arr : Nat → ClassId} {base a0 n : Nat} {sf : Nat → Nat} {M : Mem} {H : Heap} (hl : KS.length = n + 1) (hn : n < 900) (h : va_P D clX (wl KS (wpA D arr base a0 sf) M) H) : a0 + n + 1 ≤ H.size := by
  have hlt : n < KS.length := by omega
  have h1 : (wl KS (wpA D arr base a0 sf) M)[n]? = some ((wpA D arr base a0 sf).1 n, ent (wpA D arr base a0 sf) n KS[n] (M n)) := wl_get (List.getElem?_eq_getElem hlt)
  have h2 := (h n _ h1).lt
  have h3 : (wpA D arr base a0 sf).1 n < H.size := h2
  rw [wpA_9 _ _ _ _ _ n hn] at h3
  omega
theorem wl_kept2 {KS : List Kd} {D : va_G} {arr : Nat → ClassId} {base a0 n : Nat} {sf : Nat → Nat} {M : Mem} {H H1 : Heap} (hl : KS.length ≤ n) (hn : n ≤ 199) (h : va_P D clX (wl KS (wpA D arr base a0 sf) M) H) (hq : ∀ q : Nat, a0 ≤ q → q < a0 + n → H1[q]? = H[q]?) : va_P D clX (wl KS (wpA D arr base a0 sf) M) H1 := by
  refine wl_keep (wp := wpA D arr base a0 sf) h (fun i hi _ => ?_)
  rw [wpA_9 _ _ _ _ _ i (by omega)]
  exact hq _ (by omega) (by omega)
/-- a new object, an array: where it lies -/
theorem new_at {D : va_G} {arr : Nat → ClassId} {s : State} {args : Array Value} {C : String} {T : u_T} {N ci q : Nat} {ty : Nat → FieldType} {dfl : List Value} {H : Heap} {kC : Class} (hts : ∀ w ∈ WS, w.before args s = true) (hK : va_K D clX (tysA arr) s) (hin : ∀ w ∈ u_ws C T N, w ∈ WS) (hty : ∀ k, k < N → parseFieldDescriptor (T k).2.2.1 = some (ty k)) (hcl : clX[ci]? = some (C, T, N)) (hfs : ∀ j, j < N → defaultValue (ty j) = vp_V dfl j) (hkC : s.vm.classes[D.1 ci]? = some kC) (e1 : H[q]? = some (blank (D.1 ci) kC)) : va_at D clX (q, .inr (ci, dfl)) H := ⟨_, hcl, (u_born ty hts hin (hK.1 ci _ hcl) hkC e1 hty).to hfs⟩
set_option maxRecDepth 20000 in
set_option maxHeartbeats 4000000 in
theorem whole_start {p : Program} {e : Env} {s : State} {m : MethodId} {below : List Frame} {meth : Method} {c : Code} (l : Launch) (hflags : l.flags = flags0) {b L : Nat} {xs : Nat → Int32} (hL : L ≤ 3072) (C0 : lw_At p s m meth c b L xs) : W p l e room_1 s m #[Value.ref b] below meth c s.heap [] 0 0 (lw_Z below #[Value.ref b] s) (entryFrame m ([Value.ref b] : List Value).toArray 9) := by
  obtain ⟨hx, hb, hr, hml, hown, hts0, hX, hbl, hlocks, hgv⟩ := id C0
  have hst : l.stackTraces = false := by unfold Launch.stackTraces; rw [hflags]; decide
  have hts : ∀ w ∈ WS, w.before #[Value.ref b] s = true := fun w hw => hts0 w (WS_tbl w hw)
  obtain ⟨sf, hExt⟩ := ext_start hts0 hgv
  obtain ⟨D, hKn⟩ := kn_start hts
  obtain ⟨c0, p0, q0⟩ := ar_prim (ty := .int) rfl (hts _ wa_int)
  obtain ⟨c1, p1, q1⟩ := ar_prim (ty := .boolean) rfl (hts _ wa_boolean)
  obtain ⟨c2, p2, q2⟩ := ar_obj (C := RX5) (hts0 _ (tab_in 323 (by decide +kernel)))
  obtain ⟨c3, p3, q3⟩ := ar_obj (C := RX6) (hts0 _ (tab_in 331 (by decide +kernel)))
  obtain ⟨cL, pL, qL⟩ := ar_prim (ty := .long) rfl (hts _ wa_long)
  obtain ⟨cD, pD, qD⟩ := ar_prim (ty := .double) rfl (hts _ wa_double)
  obtain ⟨arr, ha0, ha1, ha2, ha3⟩ : ∃ arr : Nat → ClassId, arr 0 = c0 ∧ arr 1 = c1 ∧ arr 2 = c2 ∧ arr 3 = c3 := ⟨fun k => if k = 0 then c0 else if k = 1 then c1 else if k = 2 then c2 else c3, rfl, rfl, rfl, rfl⟩
  subst ha0; subst ha1; subst ha2; subst ha3
  have hK : va_K D clX (tysA arr) s := by
    refine ⟨hKn, fun k q hq => ?_⟩
    match k, hq with
    | 0, hq => cases hq; exact ⟨p0, q0⟩
    | 1, hq => cases hq; exact ⟨p1, q1⟩
    | 2, hq => cases hq; exact ⟨p2, q2⟩
    | 3, hq => cases hq; exact ⟨p3, q3⟩
    | k + 4, hq => simp at hq
  have hKL : va_K D clX [(cL, .long)] s := ⟨hKn, fun k q hq => by
    match k, hq with
    | 0, hq => cases hq; exact ⟨pL, qL⟩
    | k + 1, hq => simp at hq⟩
  have hKD : va_K D clX [(cD, .double)] s := ⟨hKn, fun k q hq => by
    match k, hq with
    | 0, hq => cases hq; exact ⟨pD, qD⟩
    | k + 1, hq => simp at hq⟩
  have hNst : Nst s := ⟨(hExt D arr 0).1, va_AO.of (hts0 _ (tab_in 323 (by decide +kernel))), va_AO.of (hts0 _ (tab_in 331 (by decide +kernel)))⟩
  have hfl := flat_of_before _ hgv
  have hNcs : Ncs s := ⟨va_Nc.of (hfl _ (by decide +kernel)), va_Nc.of (hfl _ (by decide +kernel)), va_Nc.of (hfl _ (by decide +kernel)), va_Nc.of (hfl _ (by decide +kernel))⟩
  obtain ⟨z, hz⟩ : ∃ z, s.heap.size = z := ⟨_, rfl⟩
  rw [hz] at hExt
  obtain ⟨X1, X2, M1, M2, f1, f2, f3, f4, hInv⟩ := inv_start (X0 := mX0) (M0 := mM0) rfl rfl rfl rfl rfl rfl (fun i _ => rfl) (fun j _ => rfl) rfl rfl rfl rfl rfl (fun i _ => rfl)
  have hFix : CallFix p m c code 9 s #[Value.ref b] WS RL := ⟨hx, hb, hml, hown, hts⟩
  have hl := lv_entry ([.ref b] : List Value) (n := 9) (Nat.le_of_ble_eq_true rfl)
  rw [lg_entry_eq]
  generalize (lg_sl ([.ref b] : List Value) ++ List.replicate (9 - (lg_sl ([.ref b] : List Value)).length) Slot.unset).toArray = la at hl ⊢
  have hl : lv_has la 9 [(0, .ref b)] := hl
  have F : Fx RL code 9 p l s m #[Value.ref b] c := ⟨hx, hb, hml, hown, hts, hst⟩
  have Oxx : Ox KSx s (wpA D arr z z sf) := ⟨hK, hExt D arr z, wpA_ok (Nat.le_refl _) (by rw [KSx_len]; decide), by rw [hz]; exact Nat.le_refl _⟩
  have Oxm : Ox KSm s (wpA D arr z (z + 177) sf) := ⟨hK, hExt D arr (z + 177), wpA_ok (by omega) (by rw [KSm_len]; decide), by rw [hz]; exact Nat.le_refl _⟩
  have hApt : Apt (wpA D arr z z sf) (wpA D arr z (z + 177) sf) (z + 191) (z + 192) s.heap.size := by
    refine ⟨fun i j hi hj => ?_, fun i hi => ?_, fun j hj => ?_, by omega, by omega, by omega⟩
    · rw [KSx_len] at hi
      rw [KSm_len] at hj
      rw [wpA_9 _ _ _ _ _ i (by omega), wpA_9 _ _ _ _ _ j (by omega)]
      omega
    · rw [KSx_len] at hi
      rw [wpA_9 _ _ _ _ _ i (by omega)]
      omega
    · rw [KSm_len] at hj
      rw [wpA_9 _ _ _ _ _ j (by omega)]
      omega
  have C : Lc (wpA D arr z z sf) (wpA D arr z (z + 177) sf) cL cD (z + 191) (z + 192) p l s m meth c b L xs := ⟨F, hr, hlocks, Oxx, Oxm, hKL, hKD, hApt, hNcs, hX, hbl, hL, hz.symm, hz.symm⟩
  refine W.newcK hx hb hown (hts _ wk_RL_8) (hts _ wn_RX9) (hts _ w0_RX9) rfl dL_law_0 (by decide) (by decide) (hKn 9 _ rfl).2.1 hz (fun H1 kC hkC e1 z1 o1 => ?_)
  refine W.eq (g2 := F0 m 3 la [.ref z]) rfl ?_
  have hP1 : va_P D clX (LW z [.inr (9, dfl9)]) H1 := LW_one (new_at hts hK wc_9 tyX9_ok rfl dfl9_ok hkC e1)
  have hS1 : va_S (fun q => z ≤ q) s.heap H1 [] := ⟨by omega, fun q h1 _ => o1 q (by omega), fun _ h => by cases h⟩
  refine lv_dup hx hb dL_law_3 rfl ?_
  have hr1 := va_runI (p := p) (e := e) (R := room_1) (below := below) (meth := meth) (cells := 0 + 1) (slots := 0 + 12) (locs := []) (H := H1) (g := F0 m (3 + 1) la [.ref z, .ref z]) (As := []) (b := z) (rest := [.ref z]) (n := 0) hFix (ct_X9 (D := D) (arr := arr) (base := z) (a0 := z) (sf := sf) l hst (Nat.le_refl _) f1 f2) ⟨callB_of 0 hts (md_good mw_X9_init) rfl rfl rfl (hts _ w0_RX9) (hts _ wl_RL_125) ⟨by decide, by decide, mn_X9_init⟩ ⟨by decide, by decide⟩, rfl, hts _ wi_X9_init⟩ ⟨pcC_blind, fun U hU hW => ⟨rfl, by rw [hU]; exact z1, by rw [hU]; exact hP1, va_K.moved hW.alike hK, hNst.warm hW, by rw [hU]; exact (hExt D arr z).next hW (fun a h1 _ => o1 a (by omega))⟩⟩ rfl rfl hl.1 rfl (lv_room (by exact Nat.le_of_ble_eq_true rfl)) dL_law_4 ⟨by decide, by decide⟩
  unfold QcC at hr1
  refine va_callv hr1 hS1 (fun q _ h => h) (fun q h => h) (fun u t H2 locs2 ht hvm hw hB hz2 hk2 hS2 => ?_)
  have hPx2 : va_P D clX (wl KSx (wpA D arr z z sf) X2) H2 := by rw [← ht]; exact hB
  refine W_size (fun hs2 => ?_)
  have s2 : H2.size = z + 177 := by
    have := wl_size (n := 176) KSx_len (by decide) hPx2
    omega
  refine lv_astore_n (lv' := [(1, .ref z), (0, .ref b)]) hx hb dL_law_7 rfl hl (by decide) rfl (fun la hl => ?_)
  refine W.newcK hx hb hown (hts _ wk_RL_126) (hts _ wn_RX10) (hts _ w0_RX10) rfl dL_law_8 (by decide) (by decide) (hKn 10 _ rfl).2.1 s2 (fun H3 kD hkD e3 z3 o3 => ?_)
  refine W.eq (g2 := F0 m 11 la [.ref (z + 177)]) rfl ?_
  have hP3 : va_P D clX (LW (z + 177) [.inr (10, dfl10)]) H3 := LW_one (new_at hts hK wc_10 tyX10_ok rfl dfl10_ok hkD e3)
  have hS3 : va_S (fun q => z ≤ q) s.heap H3 locs2 := ⟨by have := hS2.1; omega, fun q h1 h2 => (o3 q (by omega)).trans (hS2.2.1 q h1 h2), hS2.2.2⟩
  have hPx3 : va_P D clX (wl KSx (wpA D arr z z sf) X2) H3 := wl_kept2 (n := 177) (by rw [KSx_len]; decide) (by decide) hPx2 (fun q _ h2 => o3 q h2)
  refine lv_dup hx hb dL_law_11 rfl ?_
  have hr3 := va_runI (p := p) (e := e) (R := room_1) (below := below) (meth := meth) (cells := 0 + 1 + 176 + 1) (slots := 0 + 12 + 12827 + 25) (locs := locs2) (H := H3) (g := F0 m (11 + 1) la [.ref (z + 177), .ref (z + 177)]) (As := []) (b := z + 177) (rest := [.ref (z + 177)]) (n := 0) hFix (ct_X10 (D := D) (arr := arr) (base := z) (a0 := z + 177) (sf := sf) l hst (by omega) f3 f4) ⟨callB_of 0 hts (md_good mw_X10_init) rfl rfl rfl (hts _ w0_RX10) (hts _ wl_RL_128) ⟨by decide, by decide, mn_X10_init⟩ ⟨by decide, by decide⟩, rfl, hts _ wi_X10_init⟩ ⟨pcC_blind, fun U hU hW => ⟨rfl, by rw [hU]; exact z3, by rw [hU]; exact hP3, va_K.moved hW.alike hK, hNst.warm hW, by rw [hU]; exact (hExt D arr (z + 177)).next hW (fun a h1 _ => hS3.2.1 a h1 (by omega))⟩⟩ rfl rfl hl.1 rfl (lv_room (by exact Nat.le_of_ble_eq_true rfl)) dL_law_12 ⟨by decide, by decide⟩
  unfold QcC at hr3
  refine va_callv hr3 hS3 (fun q _ h => by omega) (fun q h => by omega) (fun u4 t4 H4 locs4 ht4 hvm4 hw4 hB4 hz4 hk4 hS4 => ?_)
  have hPm4 : va_P D clX (wl KSm (wpA D arr z (z + 177) sf) M2) H4 := by rw [← ht4]; exact hB4
  have hPx4 : va_P D clX (wl KSx (wpA D arr z z sf) X2) H4 := wl_kept2 (n := 177) (by rw [KSx_len]; decide) (by decide) hPx3 (fun q _ h2 => hk4 q (by omega) (by omega))
  refine W_size (fun hs4 => ?_)
  have s4 : H4.size = z + 191 := by
    have := wl_size (n := 13) KSm_len (by decide) hPm4
    omega
  refine lv_astore_n (lv' := [(2, .ref (z + 177)), (1, .ref z), (0, .ref b)]) hx hb dL_law_15 rfl hl (by decide) rfl (fun la hl => ?_)
  refine lv_iconst (v := 1) hx hb dL_law_16 (by decide) ?_
  refine va_newaK (atype := .long) (N := 1) hx hb (hts _ wa_long) rfl dL_law_17 rfl (by decide) (by decide) (by decide) (by decide) (by decide) s4 (fun H5 cA e5 z5 o5 hAr5 hNm5 => ?_)
  have hcA : cA = cL := Option.some.inj (hNm5.symm.trans qL)
  subst hcA
  refine W.eq (g2 := F0 m 19 la [.ref (z + 191)]) rfl ?_
  refine lv_astore_n (lv' := [(3, .ref (z + 191)), (2, .ref (z + 177)), (1, .ref z), (0, .ref b)]) hx hb dL_law_19 rfl hl (by decide) rfl (fun la hl => ?_)
  refine lv_iconst (v := 1) hx hb dL_law_20 (by decide) ?_
  refine va_newaK (atype := .double) (N := 1) hx hb (hts _ wa_double) rfl dL_law_21 rfl (by decide) (by decide) (by decide) (by decide) (by decide) (show H5.size = z + 192 by omega) (fun H6 cB e6 z6 o6 hAr6 hNm6 => ?_)
  have hcB : cB = cD := Option.some.inj (hNm6.symm.trans qD)
  subst hcB
  refine W.eq (g2 := F0 m 23 la [.ref (z + 192)]) rfl ?_
  refine lv_astore (lv' := [(4, .ref (z + 192)), (3, .ref (z + 191)), (2, .ref (z + 177)), (1, .ref z), (0, .ref b)]) hx hb dL_law_23 hl (by decide) rfl (fun la hl => ?_)
  refine lv_iconst (v := 0) hx hb dL_law_25 (by decide) ?_
  refine lv_istore (lv' := [(5, .int 0), (4, .ref (z + 192)), (3, .ref (z + 191)), (2, .ref (z + 177)), (1, .ref z), (0, .ref b)]) hx hb dL_law_26 hl (by decide) rfl (fun la hl => ?_)
  have hS6 : va_S (B0 (wpA D arr z z sf)) s.heap H6 locs4 := ⟨by have := hS4.1; omega, fun q h1 h2 => (o6 q (by omega)).trans ((o5 q (by omega)).trans (hS4.2.1 q h1 h2)), hS4.2.2⟩
  have o7 : ∀ q, q < z + 191 → H6[q]? = H4[q]? := fun q h => (o6 q (by omega)).trans (o5 q h)
  have hPx6 : va_P D clX (wl KSx (wpA D arr z z sf) X2) H6 := wl_kept2 (n := 177) (by rw [KSx_len]; decide) (by decide) hPx4 (fun q _ h2 => o7 q (by omega))
  have hPm6 : va_P D clX (wl KSm (wpA D arr z (z + 177) sf) M2) H6 := wl_kept2 (n := 14) (by rw [KSm_len]; decide) (by decide) hPm4 (fun q _ h2 => o7 q (by omega))
  have ho : va_at D clX (z + 191, outE cA (fun _ => 0)) H6 := by
    show H6[z + 191]? = some (vp_cell cA (1, .inr (.inl (fun _ => 0))))
    rw [o6 _ (by omega), e5]
    rfl
  have hd : va_at D clX (z + 192, outD cB (fun _ => 0)) H6 := by
    show H6[z + 192]? = some (vp_cell cB (1, .inr (.inr (.inr (.inl (fun _ => 0))))))
    rw [e6]
    rfl
  have K := law_loop (e := e) (below := below) C 513 0 X2 M2 (fun _ => 0) (fun _ => 0) (0 + 1 + 176 + 1 + 13 + 1 + 1) (0 + 12 + 12827 + 25 + 9171 + 1 + 1) rfl (by omega) hInv (by decide) (by decide)
  exact K H6 locs4 la ⟨hPx6, hPm6, ho, hd⟩ hS6 (lv_sub hl [5, 4, 3, 2, 1, 0] rfl)
