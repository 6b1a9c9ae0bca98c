/-! ===== the law's loop ===== -/
section LP9
variable {wx wm : Wp} {cL cD : ClassId} {qo qd : Nat} {p : Program} {l : Launch} {e : Env} {s : State} {m : MethodId} {below : List Frame} {meth : Method} {c : Code} {b L : Nat} {xs : Nat → Int32} {pc : Nat} {ls : List (Nat × Value)} {st : List Value} {Mx Mm Mx2 Mm2 : Mem} {f : Nat → Int64} {g : Nat → UInt64} {k n : Nat}
theorem l_tab {dflt lo hi : Int} {offs : Array Int} {len : Nat} {x : Int32} {off : Int} {tgt : Nat} (C : Lc wx wm cL cD qo qd p l s m meth c b L xs) (hd : decode code pc = .ok (.tableswitch dflt lo hi offs, len)) (h1 : ¬ x.toInt < lo) (h2 : ¬ hi < x.toInt) (ho : offs[(x.toInt - lo).toNat]? = some off) (ht : (pc : Int) + off = (tgt : Int)) (kk : Lj wx wm cL cD qo qd p l e s m below meth c b (tgt) ls (st) Mx Mm f g k n) : Lj wx wm cL cD qo qd p l e s m below meth c b (pc) ls (.int x :: st) Mx Mm f g k n :=
  l_step (fun _ _ _ _ _ _ _ kk => lv_tableIn C.1.1 C.1.2.1 hd h1 h2 ho ht kk) kk
theorem l_tabO {dflt lo hi : Int} {offs : Array Int} {len : Nat} {x : Int32} {tgt : Nat} (C : Lc wx wm cL cD qo qd p l s m meth c b L xs) (hd : decode code pc = .ok (.tableswitch dflt lo hi offs, len)) (h : x.toInt < lo ∨ hi < x.toInt) (ht : (pc : Int) + dflt = (tgt : Int)) (kk : Lj wx wm cL cD qo qd p l e s m below meth c b (tgt) ls (st) Mx Mm f g k n) : Lj wx wm cL cD qo qd p l e s m below meth c b (pc) ls (.int x :: st) Mx Mm f g k n :=
  l_step (fun _ _ _ _ _ _ _ kk => lv_tableOut C.1.1 C.1.2.1 hd h ht kk) kk
/-- the end of the law -/
theorem l_end (C : Lc wx wm cL cD qo qd p l s m meth c b L xs) (hk : k ≤ 601024) (hn : n ≤ 7293034) : Lj wx wm cL cD qo qd p l e s m below meth c b (2442) ls ([]) Mx Mm f g k n := by
  intro H locs la hH hS hl
  obtain ⟨F, hr, hlk, Ox1, Om, KL, KD, A, hN, hX, hbl, hL, e1, e2⟩ := id C
  refine lv_iconst (v := 1) F.1 F.2.1 dL_law_2442 (by decide) ?_
  refine va_forget (fun q hq => ?_) ?_
  · have := hS.2.2 q hq
    unfold B0 at this
    rw [e1] at this
    exact this
  · refine W.widen hk hn (W.base ?_)
    exact lw_ret (Drawn.sameBut.refl s.drawn lw_cs) F.1 F.2.1 hr hlk dL_law_2443
/-- from one call to the next -/
theorem l_next {j : Nat} (C : Lc wx wm cL cD qo qd p l s m meth c b L xs) (kk : Lj wx wm cL cD qo qd p l e s m below meth c b (28) ([(0, .ref b), (1, .ref (wx.1 0)), (2, .ref (wm.1 0)), (3, .ref qo), (4, .ref qd), (5, .int (nI (6 * (j + 1))))]) ([]) Mx Mm f g k n) : Lj wx wm cL cD qo qd p l e s m below meth c b (2436) ([(0, .ref b), (1, .ref (wx.1 0)), (2, .ref (wm.1 0)), (3, .ref qo), (4, .ref qd), (5, .int (nI (6 * j)))]) ([]) Mx Mm f g k n := by
  intro H locs la hH hS h
  refine lv_iinc (v := nI (6 * (j + 1))) (k := 5) C.1.1 C.1.2.1 dL_law_2436 h rfl (by rw [show Int32.ofInt 6 = nI 6 by decide, nI_add, show 6 * j + 6 = 6 * (j + 1) by omega]) (by decide) rfl (fun la2 h2 => ?_)
  refine lv_goto (tgt := 28) C.1.1 C.1.2.1 dL_law_2439 (by decide) ?_
  exact kk H locs la2 hH hS (lv_sub h2 [1, 2, 3, 4, 5, 0] rfl)
end LP9
theorem law_gt {L i : Nat} (hL : L ≤ 3072) (hi : i ≤ 3072) : (nI L - 6 < nI i) ↔ L < i + 6 := by
  have h1 : (nI L - 6).toInt = (L : Int) - 6 := by
    by_cases h : 6 ≤ L
    · rw [show (6 : Int32) = nI 6 by decide, ss h, nI_toInt (by omega)]
      omega
    · rcases (show L = 0 ∨ L = 1 ∨ L = 2 ∨ L = 3 ∨ L = 4 ∨ L = 5 by omega) with rfl | rfl | rfl | rfl | rfl | rfl <;> decide
  rw [i32_lt, h1, nI_toInt (by omega)]
  omega
set_option maxRecDepth 20000 in
set_option maxHeartbeats 4000000 in
theorem law_loop {wx wm : Wp} {cL cD : ClassId} {qo qd : Nat} {p : Program} {l : Launch} {e : Env} {s : State} {m : MethodId} {below : List Frame} {meth : Method} {c : Code} {b L : Nat} {xs : Nat → Int32} (C : Lc wx wm cL cD qo qd p l s m meth c b L xs) : ∀ (d j : Nat) (Mx Mm : Mem) (f : Nat → Int64) (g : Nat → UInt64) (k n : Nat), d + j = 513 → 6 * j ≤ L → Inv j Mx Mm → k + d ≤ 601024 → n + 6 * d ≤ 7293034 → Lj wx wm cL cD qo qd p l e s m below meth c b 28 [(0, .ref b), (1, .ref (wx.1 0)), (2, .ref (wm.1 0)), (3, .ref qo), (4, .ref qd), (5, .int (nI (6 * j)))] [] Mx Mm f g k n := by
  intro d
  induction d with
  | zero =>
    intro j Mx Mm f g k n h1 h2
    have := C.2.2.2.2.2.2.2.2.2.2.2.1
    omega
  | succ d ih =>
    intro j Mx Mm f g k n h1 h2 hI hk hn
    have hL : L ≤ 3072 := C.2.2.2.2.2.2.2.2.2.2.2.1
    have K : ∀ (Mx2 Mm2 : Mem) (f2 : Nat → Int64) (g2 : Nat → UInt64), 6 * j + 6 ≤ L → Inv (j + 1) Mx2 Mm2 → Lj wx wm cL cD qo qd p l e s m below meth c b 2436 [(0, .ref b), (1, .ref (wx.1 0)), (2, .ref (wm.1 0)), (3, .ref qo), (4, .ref qd), (5, .int (nI (6 * j)))] [] Mx2 Mm2 f2 g2 (k + 1) (n + 6) := fun Mx2 Mm2 f2 g2 h3 h4 => l_next C (ih (j + 1) Mx2 Mm2 f2 g2 (k + 1) (n + 6) (by omega) (by omega) h4 (by omega) (by omega))
    refine l_iload 5 C dL_law_28 rfl ?_
    refine l_aload_n 0 C dL_law_30 rfl ?_
    refine l_step (pc2 := 35) (st2 := [.int (nI L - 6), .int (nI (6 * j))]) (fun H locs la Q hH hS hl kk => ?_) ?_
    · obtain ⟨F, hr, hlk, Ox1, Om, KL, KD, A, hN, hX, hbl, -, e1, e2⟩ := C
      refine va_slen F.1 F.2.1 hX hbl (A := B0 wx) (by unfold B0; rw [e1]; omega) hS dL_law_31 ?_
      refine lv_bipush (v := 6) F.1 F.2.1 dL_law_32 (by decide) ?_
      exact lv_isub F.1 F.2.1 dL_law_34 kk
    by_cases hgt : L < 6 * j + 6
    · exact l_step (fun H locs la Q hH hS hl kk => lv_icmp_gt (tgt := 2442) C.1.1 C.1.2.1 dL_law_35 (by decide) (fun _ => kk) (fun q => absurd ((law_gt hL (by omega)).mpr hgt) q)) (l_end C (by omega) (by omega))
    · have hj : 6 * j + 6 ≤ L := by omega
      have hm : j < 512 := by omega
      refine l_step (pc2 := 38) (st2 := []) (fun H locs la Q hH hS hl kk => lv_icmp_gt (tgt := 2442) C.1.1 C.1.2.1 dL_law_35 (by decide) (fun q => absurd ((law_gt hL (by omega)).mp q) hgt) (fun _ => kk)) ?_
      refine l_op (i := 6 * j) 0 5 C (by omega) dL_law_38 dL_law_39 dL_law_41 rfl rfl ?_
      refine l_step (pc2 := 45) (st2 := [.int (xs (6 * j) &&& 63)]) (fun H locs la Q hH hS hl kk => ?_) ?_
      · refine lv_bipush (v := 63) C.1.1 C.1.2.1 dL_law_42 (by decide) ?_
        exact lv_iand C.1.1 C.1.2.1 dL_law_44 kk
      obtain ⟨v, hv⟩ : ∃ v, xs (6 * j) &&& 63 = v := ⟨_, rfl⟩
      rw [hv]
      by_cases v0 : v = 0
      · rw [v0]
        exact l_tab (tgt := 216) C dL_law_45 (by decide) (by decide) (off := 171) (by decide) (by decide) (case_0 C hI hm hj (by omega) (by omega) (fun Mx2 Mm2 f2 g2 h4 => K Mx2 Mm2 f2 g2 hj h4))
      by_cases v1 : v = 1
      · rw [v1]
        exact l_tab (tgt := 320) C dL_law_45 (by decide) (by decide) (off := 275) (by decide) (by decide) (case_1 C hI hm hj (by omega) (by omega) (fun Mx2 Mm2 f2 g2 h4 => K Mx2 Mm2 f2 g2 hj h4))
      by_cases v2 : v = 2
      · rw [v2]
        exact l_tab (tgt := 376) C dL_law_45 (by decide) (by decide) (off := 331) (by decide) (by decide) (case_2 C hI hm hj (by omega) (by omega) (fun Mx2 Mm2 f2 g2 h4 => K Mx2 Mm2 f2 g2 hj h4))
      by_cases v3 : v = 3
      · rw [v3]
        exact l_tab (tgt := 420) C dL_law_45 (by decide) (by decide) (off := 375) (by decide) (by decide) (case_3 C hI hm hj (by omega) (by omega) (fun Mx2 Mm2 f2 g2 h4 => K Mx2 Mm2 f2 g2 hj h4))
      by_cases v4 : v = 4
      · rw [v4]
        exact l_tab (tgt := 433) C dL_law_45 (by decide) (by decide) (off := 388) (by decide) (by decide) (case_4 C hI hm hj (by omega) (by omega) (fun Mx2 Mm2 f2 g2 h4 => K Mx2 Mm2 f2 g2 hj h4))
      by_cases v5 : v = 5
      · rw [v5]
        exact l_tab (tgt := 446) C dL_law_45 (by decide) (by decide) (off := 401) (by decide) (by decide) (case_5 C hI hm hj (by omega) (by omega) (fun Mx2 Mm2 f2 g2 h4 => K Mx2 Mm2 f2 g2 hj h4))
      by_cases v6 : v = 6
      · rw [v6]
        exact l_tab (tgt := 502) C dL_law_45 (by decide) (by decide) (off := 457) (by decide) (by decide) (case_6 C hI hm hj (by omega) (by omega) (fun Mx2 Mm2 f2 g2 h4 => K Mx2 Mm2 f2 g2 hj h4))
      by_cases v7 : v = 7
      · rw [v7]
        exact l_tab (tgt := 558) C dL_law_45 (by decide) (by decide) (off := 513) (by decide) (by decide) (case_7 C hI hm hj (by omega) (by omega) (fun Mx2 Mm2 f2 g2 h4 => K Mx2 Mm2 f2 g2 hj h4))
      by_cases v8 : v = 8
      · rw [v8]
        exact l_tab (tgt := 614) C dL_law_45 (by decide) (by decide) (off := 569) (by decide) (by decide) (case_8 C hI hm hj (by omega) (by omega) (fun Mx2 Mm2 f2 g2 h4 => K Mx2 Mm2 f2 g2 hj h4))
      by_cases v9 : v = 9
      · rw [v9]
        exact l_tab (tgt := 694) C dL_law_45 (by decide) (by decide) (off := 649) (by decide) (by decide) (case_9 C hI hm hj (by omega) (by omega) (fun Mx2 Mm2 f2 g2 h4 => K Mx2 Mm2 f2 g2 hj h4))
      by_cases v10 : v = 10
      · rw [v10]
        exact l_tab (tgt := 786) C dL_law_45 (by decide) (by decide) (off := 741) (by decide) (by decide) (case_10 C hI hm hj (by omega) (by omega) (fun Mx2 Mm2 f2 g2 h4 => K Mx2 Mm2 f2 g2 hj h4))
      by_cases v11 : v = 11
      · rw [v11]
        exact l_tab (tgt := 866) C dL_law_45 (by decide) (by decide) (off := 821) (by decide) (by decide) (case_11 C hI hm hj (by omega) (by omega) (fun Mx2 Mm2 f2 g2 h4 => K Mx2 Mm2 f2 g2 hj h4))
      by_cases v12 : v = 12
      · rw [v12]
        exact l_tab (tgt := 946) C dL_law_45 (by decide) (by decide) (off := 901) (by decide) (by decide) (case_12 C hI hm hj (by omega) (by omega) (fun Mx2 Mm2 f2 g2 h4 => K Mx2 Mm2 f2 g2 hj h4))
      by_cases v13 : v = 13
      · rw [v13]
        exact l_tab (tgt := 1038) C dL_law_45 (by decide) (by decide) (off := 993) (by decide) (by decide) (case_13 C hI hm hj (by omega) (by omega) (fun Mx2 Mm2 f2 g2 h4 => K Mx2 Mm2 f2 g2 hj h4))
      by_cases v14 : v = 14
      · rw [v14]
        exact l_tab (tgt := 1113) C dL_law_45 (by decide) (by decide) (off := 1068) (by decide) (by decide) (case_14 C hI hm hj (by omega) (by omega) (fun Mx2 Mm2 f2 g2 h4 => K Mx2 Mm2 f2 g2 hj h4))
      by_cases v15 : v = 15
      · rw [v15]
        exact l_tab (tgt := 1126) C dL_law_45 (by decide) (by decide) (off := 1081) (by decide) (by decide) (case_15 C hI hm hj (by omega) (by omega) (fun Mx2 Mm2 f2 g2 h4 => K Mx2 Mm2 f2 g2 hj h4))
      by_cases v16 : v = 16
      · rw [v16]
        exact l_tab (tgt := 1201) C dL_law_45 (by decide) (by decide) (off := 1156) (by decide) (by decide) (case_16 C hI hm hj (by omega) (by omega) (fun Mx2 Mm2 f2 g2 h4 => K Mx2 Mm2 f2 g2 hj h4))
      by_cases v17 : v = 17
      · rw [v17]
        exact l_tab (tgt := 1269) C dL_law_45 (by decide) (by decide) (off := 1224) (by decide) (by decide) (case_17 C hI hm hj (by omega) (by omega) (fun Mx2 Mm2 f2 g2 h4 => K Mx2 Mm2 f2 g2 hj h4))
      by_cases v18 : v = 18
      · rw [v18]
        exact l_tab (tgt := 1325) C dL_law_45 (by decide) (by decide) (off := 1280) (by decide) (by decide) (case_18 C hI hm hj (by omega) (by omega) (fun Mx2 Mm2 f2 g2 h4 => K Mx2 Mm2 f2 g2 hj h4))
      by_cases v19 : v = 19
      · rw [v19]
        exact l_tab (tgt := 1366) C dL_law_45 (by decide) (by decide) (off := 1321) (by decide) (by decide) (case_19 C hI hm hj (by omega) (by omega) (fun Mx2 Mm2 f2 g2 h4 => K Mx2 Mm2 f2 g2 hj h4))
      by_cases v20 : v = 20
      · rw [v20]
        exact l_tab (tgt := 1422) C dL_law_45 (by decide) (by decide) (off := 1377) (by decide) (by decide) (case_20 C hI hm hj (by omega) (by omega) (fun Mx2 Mm2 f2 g2 h4 => K Mx2 Mm2 f2 g2 hj h4))
      by_cases v21 : v = 21
      · rw [v21]
        exact l_tab (tgt := 1478) C dL_law_45 (by decide) (by decide) (off := 1433) (by decide) (by decide) (case_21 C hI hm hj (by omega) (by omega) (fun Mx2 Mm2 f2 g2 h4 => K Mx2 Mm2 f2 g2 hj h4))
      by_cases v22 : v = 22
      · rw [v22]
        exact l_tab (tgt := 1534) C dL_law_45 (by decide) (by decide) (off := 1489) (by decide) (by decide) (case_22 C hI hm hj (by omega) (by omega) (fun Mx2 Mm2 f2 g2 h4 => K Mx2 Mm2 f2 g2 hj h4))
      by_cases v23 : v = 23
      · rw [v23]
        exact l_tab (tgt := 1602) C dL_law_45 (by decide) (by decide) (off := 1557) (by decide) (by decide) (case_23 C hI hm hj (by omega) (by omega) (fun Mx2 Mm2 f2 g2 h4 => K Mx2 Mm2 f2 g2 hj h4))
      by_cases v24 : v = 24
      · rw [v24]
        exact l_tab (tgt := 1658) C dL_law_45 (by decide) (by decide) (off := 1613) (by decide) (by decide) (case_24 C hI hm hj (by omega) (by omega) (fun Mx2 Mm2 f2 g2 h4 => K Mx2 Mm2 f2 g2 hj h4))
      by_cases v25 : v = 25
      · rw [v25]
        exact l_tab (tgt := 1726) C dL_law_45 (by decide) (by decide) (off := 1681) (by decide) (by decide) (case_25 C hI hm hj (by omega) (by omega) (fun Mx2 Mm2 f2 g2 h4 => K Mx2 Mm2 f2 g2 hj h4))
      by_cases v26 : v = 26
      · rw [v26]
        exact l_tab (tgt := 1782) C dL_law_45 (by decide) (by decide) (off := 1737) (by decide) (by decide) (case_26 C hI hm hj (by omega) (by omega) (fun Mx2 Mm2 f2 g2 h4 => K Mx2 Mm2 f2 g2 hj h4))
      by_cases v27 : v = 27
      · rw [v27]
        exact l_tab (tgt := 1850) C dL_law_45 (by decide) (by decide) (off := 1805) (by decide) (by decide) (case_27 C hI hm hj (by omega) (by omega) (fun Mx2 Mm2 f2 g2 h4 => K Mx2 Mm2 f2 g2 hj h4))
      by_cases v28 : v = 28
      · rw [v28]
        exact l_tab (tgt := 1863) C dL_law_45 (by decide) (by decide) (off := 1818) (by decide) (by decide) (case_28 C hI hm hj (by omega) (by omega) (fun Mx2 Mm2 f2 g2 h4 => K Mx2 Mm2 f2 g2 hj h4))
      by_cases v29 : v = 29
      · rw [v29]
        exact l_tab (tgt := 1940) C dL_law_45 (by decide) (by decide) (off := 1895) (by decide) (by decide) (case_29 C hI hm hj (by omega) (by omega) (fun Mx2 Mm2 f2 g2 h4 => K Mx2 Mm2 f2 g2 hj h4))
      by_cases v30 : v = 30
      · rw [v30]
        exact l_tab (tgt := 1996) C dL_law_45 (by decide) (by decide) (off := 1951) (by decide) (by decide) (case_30 C hI hm hj (by omega) (by omega) (fun Mx2 Mm2 f2 g2 h4 => K Mx2 Mm2 f2 g2 hj h4))
      by_cases v31 : v = 31
      · rw [v31]
        exact l_tab (tgt := 2076) C dL_law_45 (by decide) (by decide) (off := 2031) (by decide) (by decide) (case_31 C hI hm hj (by omega) (by omega) (fun Mx2 Mm2 f2 g2 h4 => K Mx2 Mm2 f2 g2 hj h4))
      by_cases v32 : v = 32
      · rw [v32]
        exact l_tab (tgt := 2151) C dL_law_45 (by decide) (by decide) (off := 2106) (by decide) (by decide) (case_32 C hI hm hj (by omega) (by omega) (fun Mx2 Mm2 f2 g2 h4 => K Mx2 Mm2 f2 g2 hj h4))
      by_cases v33 : v = 33
      · rw [v33]
        exact l_tab (tgt := 2164) C dL_law_45 (by decide) (by decide) (off := 2119) (by decide) (by decide) (case_33 C hI hm hj (by omega) (by omega) (fun Mx2 Mm2 f2 g2 h4 => K Mx2 Mm2 f2 g2 hj h4))
      by_cases v34 : v = 34
      · rw [v34]
        exact l_tab (tgt := 2208) C dL_law_45 (by decide) (by decide) (off := 2163) (by decide) (by decide) (case_34 C hI hm hj (by omega) (by omega) (fun Mx2 Mm2 f2 g2 h4 => K Mx2 Mm2 f2 g2 hj h4))
      by_cases v35 : v = 35
      · rw [v35]
        exact l_tab (tgt := 2264) C dL_law_45 (by decide) (by decide) (off := 2219) (by decide) (by decide) (case_35 C hI hm hj (by omega) (by omega) (fun Mx2 Mm2 f2 g2 h4 => K Mx2 Mm2 f2 g2 hj h4))
      by_cases v36 : v = 36
      · rw [v36]
        exact l_tab (tgt := 2308) C dL_law_45 (by decide) (by decide) (off := 2263) (by decide) (by decide) (case_36 C hI hm hj (by omega) (by omega) (fun Mx2 Mm2 f2 g2 h4 => K Mx2 Mm2 f2 g2 hj h4))
      by_cases v37 : v = 37
      · rw [v37]
        exact l_tab (tgt := 2364) C dL_law_45 (by decide) (by decide) (off := 2319) (by decide) (by decide) (case_37 C hI hm hj (by omega) (by omega) (fun Mx2 Mm2 f2 g2 h4 => K Mx2 Mm2 f2 g2 hj h4))
      by_cases v38 : v = 38
      · rw [v38]
        exact l_tab (tgt := 2400) C dL_law_45 (by decide) (by decide) (off := 2355) (by decide) (by decide) (case_38 C hI hm hj (by omega) (by omega) (fun Mx2 Mm2 f2 g2 h4 => K Mx2 Mm2 f2 g2 hj h4))
      refine l_tabO (tgt := 2436) C dL_law_45 (sw_tab 0 39 (ks := [0, 1, 2, 3, 4, 5, 6, 7, 8, 9, 10, 11, 12, 13, 14, 15, 16, 17, 18, 19, 20, 21, 22, 23, 24, 25, 26, 27, 28, 29, 30, 31, 32, 33, 34, 35, 36, 37, 38]) (fun q hq => ?_) (by decide)) (by decide) ?_
      · simp only [List.mem_cons, List.not_mem_nil, or_false] at hq
        rcases hq with rfl | rfl | rfl | rfl | rfl | rfl | rfl | rfl | rfl | rfl | rfl | rfl | rfl | rfl | rfl | rfl | rfl | rfl | rfl | rfl | rfl | rfl | rfl | rfl | rfl | rfl | rfl | rfl | rfl | rfl | rfl | rfl | rfl | rfl | rfl | rfl | rfl | rfl | rfl <;> assumption
      · exact l_wide (by omega) (by omega) (K Mx Mm f g hj hI.next)
