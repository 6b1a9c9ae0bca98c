/-! ===== the cases of the law ===== -/
set_option maxRecDepth 20000 in
set_option maxHeartbeats 2000000 in
theorem case_0 {wx wm : Wp} {cL cD : ClassId} {qo qd : Nat} {p : Program} {l : Launch} {e : Env} {s : State} {m : MethodId} {below : List Frame} {meth : Method} {c : Code} {b L : Nat} {xs : Nat → Int32} {Mx Mm : Mem} {f : Nat → Int64} {g : Nat → UInt64} {k n j : Nat} (C : Lc wx wm cL cD qo qd p l s m meth c b L xs) (h : Inv j Mx Mm) (hm : j < 512) (hj : 6 * j + 6 ≤ L) (hk : k + 1 ≤ 601024) (hn : n + 6 ≤ 7293034) (kk : ∀ (Mx2 Mm2 : Mem) (f2 : Nat → Int64) (g2 : Nat → UInt64), Inv (j + 1) Mx2 Mm2 → Lj wx wm cL cD qo qd p l e s m below meth c b 2436 [(0, .ref b), (1, .ref (wx.1 0)), (2, .ref (wm.1 0)), (3, .ref qo), (4, .ref qd), (5, .int (nI (6 * j)))] [] Mx2 Mm2 f2 g2 (k + 1) (n + 6)) : Lj wx wm cL cD qo qd p l e s m below meth c b 216 [(0, .ref b), (1, .ref (wx.1 0)), (2, .ref (wm.1 0)), (3, .ref qo), (4, .ref qd), (5, .int (nI (6 * j)))] [] Mx Mm f g k n := by
  obtain ⟨r, Mx2, v, Mm2, e1, e2, hI, hA9⟩ := s_append h (xs (6 * j + 1)) (xs (6 * j + 2)) (xs (6 * j + 3)) (xs (6 * j + 4)) (xs (6 * j + 5))
  obtain ⟨kr, hkr⟩ : ∃ kr, Mm2 0 0 = kr := ⟨_, rfl⟩
  rw [hkr] at hA9
  have hH := hm_append (cL := cL) (f := f) C.2.2.2.1.2.2.1 (lc_Oq C) e1 (ans_kr hA9)
  have hE := ev_X10_append 30 (by decide) (xs (6 * j + 1)) (xs (6 * j + 2)) (xs (6 * j + 3)) (xs (6 * j + 4)) (xs (6 * j + 5)) Mm
  rw [e2] at hE
  refine l_aload_n 1 C dL_law_216 rfl ?_
  refine l_arg (i := 6 * j) (v := 1) 0 5 C (by omega) (by decide) dL_law_217 dL_law_218 dL_law_220 dL_law_221 dL_law_222 rfl rfl ?_
  refine l_arg (i := 6 * j) (v := 2) 0 5 C (by omega) (by decide) dL_law_223 dL_law_224 dL_law_226 dL_law_227 dL_law_228 rfl rfl ?_
  refine l_arg (i := 6 * j) (v := 3) 0 5 C (by omega) (by decide) dL_law_229 dL_law_230 dL_law_232 dL_law_233 dL_law_234 rfl rfl ?_
  refine l_arg (i := 6 * j) (v := 4) 0 5 C (by omega) (by decide) dL_law_235 dL_law_236 dL_law_238 dL_law_239 dL_law_240 rfl rfl ?_
  refine l_arg (i := 6 * j) (v := 5) 0 5 C (by omega) (by decide) dL_law_241 dL_law_242 dL_law_244 dL_law_245 dL_law_246 rfl rfl ?_
  refine l_aload_n 3 C dL_law_247 rfl ?_
  refine l_help (rest := []) C hH wm_L_append ws_L_append w0_RL wl_RL_129 ⟨by decide, by decide, by decide +kernel⟩ (np := 7) rfl (by decide) dL_law_248 rfl (by decide) (by omega) (by omega) ?_
  refine l_istore (ls2 := [(6, .int kr), (0, .ref b), (1, .ref (wx.1 0)), (2, .ref (wm.1 0)), (3, .ref qo), (4, .ref qd), (5, .int (nI (6 * j)))]) C dL_law_251 (by decide) rfl ?_
  refine l_aload_n 3 C dL_law_253 rfl ?_
  refine l_arg (i := 6 * j) (v := 1) 1 6 C (by omega) (by decide) dL_law_254 dL_law_255 dL_law_257 dL_law_258 dL_law_259 rfl rfl ?_
  refine l_arg (i := 6 * j) (v := 2) 1 6 C (by omega) (by decide) dL_law_260 dL_law_261 dL_law_263 dL_law_264 dL_law_265 rfl rfl ?_
  refine l_arg (i := 6 * j) (v := 3) 1 6 C (by omega) (by decide) dL_law_266 dL_law_267 dL_law_269 dL_law_270 dL_law_271 rfl rfl ?_
  refine l_arg (i := 6 * j) (v := 4) 1 6 C (by omega) (by decide) dL_law_272 dL_law_273 dL_law_275 dL_law_276 dL_law_277 rfl rfl ?_
  refine l_arg (i := 6 * j) (v := 5) 1 6 C (by omega) (by decide) dL_law_278 dL_law_279 dL_law_281 dL_law_282 dL_law_283 rfl rfl ?_
  refine l_ev (as := [.inl (xs (6 * j + 1)), .inl (xs (6 * j + 2)), .inl (xs (6 * j + 3)), .inl (xs (6 * j + 4)), .inl (xs (6 * j + 5))]) (rest := []) C hE ⟨_, rfl⟩ mw_X10_append wi_X10_append wv_X10_append wl_RL_134 mn_X10_append rfl (by decide) (by decide) dL_law_284 rfl (by decide) (by omega) (by omega) ?_
  refine l_istore (ls2 := [(7, .int v), (6, .int kr), (0, .ref b), (1, .ref (wx.1 0)), (2, .ref (wm.1 0)), (3, .ref qo), (4, .ref qd), (5, .int (nI (6 * j)))]) C dL_law_287 (by decide) rfl ?_
  refine l_thr (tgt := 300) 4 1 C rfl rfl hkr dL_law_289 dL_law_290 dL_law_293 dL_law_295 (by decide) (by omega) (by omega) ?_
  refine l_finL (t2 := 317) 5 1 0 C rfl rfl rfl (ans_f (by decide) hA9) dL_law_300 dL_law_302 (by decide) dL_law_305 dL_law_306 dL_law_307 dL_law_308 dL_law_310 dL_law_311 dL_law_312 (by decide) dL_law_317 (by decide) ?_
  refine l_sub [2, 3, 4, 5, 6, 7] (ls2 := [(0, .ref b), (1, .ref (wx.1 0)), (2, .ref (wm.1 0)), (3, .ref qo), (4, .ref qd), (5, .int (nI (6 * j)))]) rfl ?_
  exact kk Mx2 Mm2 _ _ hI
set_option maxRecDepth 20000 in
set_option maxHeartbeats 2000000 in
theorem case_1 {wx wm : Wp} {cL cD : ClassId} {qo qd : Nat} {p : Program} {l : Launch} {e : Env} {s : State} {m : MethodId} {below : List Frame} {meth : Method} {c : Code} {b L : Nat} {xs : Nat → Int32} {Mx Mm : Mem} {f : Nat → Int64} {g : Nat → UInt64} {k n j : Nat} (C : Lc wx wm cL cD qo qd p l s m meth c b L xs) (h : Inv j Mx Mm) (hm : j < 512) (hj : 6 * j + 6 ≤ L) (hk : k + 1 ≤ 601024) (hn : n + 6 ≤ 7293034) (kk : ∀ (Mx2 Mm2 : Mem) (f2 : Nat → Int64) (g2 : Nat → UInt64), Inv (j + 1) Mx2 Mm2 → Lj wx wm cL cD qo qd p l e s m below meth c b 2436 [(0, .ref b), (1, .ref (wx.1 0)), (2, .ref (wm.1 0)), (3, .ref qo), (4, .ref qd), (5, .int (nI (6 * j)))] [] Mx2 Mm2 f2 g2 (k + 1) (n + 6)) : Lj wx wm cL cD qo qd p l e s m below meth c b 320 [(0, .ref b), (1, .ref (wx.1 0)), (2, .ref (wm.1 0)), (3, .ref qo), (4, .ref qd), (5, .int (nI (6 * j)))] [] Mx Mm f g k n := by
  obtain ⟨r, Mx2, v, Mm2, e1, e2, hI, hA9⟩ := s_truncate h (xs (6 * j + 1))
  obtain ⟨kr, hkr⟩ : ∃ kr, Mm2 0 0 = kr := ⟨_, rfl⟩
  rw [hkr] at hA9
  have hH := hm_truncate (cL := cL) (f := f) C.2.2.2.1.2.2.1 (lc_Oq C) e1 (ans_kr hA9)
  have hE := ev_X10_truncate 30 (by decide) (xs (6 * j + 1)) Mm
  rw [e2] at hE
  refine l_aload_n 1 C dL_law_320 rfl ?_
  refine l_arg (i := 6 * j) (v := 1) 0 5 C (by omega) (by decide) dL_law_321 dL_law_322 dL_law_324 dL_law_325 dL_law_326 rfl rfl ?_
  refine l_aload_n 3 C dL_law_327 rfl ?_
  refine l_help (rest := []) C hH wm_L_truncate ws_L_truncate w0_RL wl_RL_138 ⟨by decide, by decide, by decide +kernel⟩ (np := 3) rfl (by decide) dL_law_328 rfl (by decide) (by omega) (by omega) ?_
  refine l_istore (ls2 := [(6, .int kr), (0, .ref b), (1, .ref (wx.1 0)), (2, .ref (wm.1 0)), (3, .ref qo), (4, .ref qd), (5, .int (nI (6 * j)))]) C dL_law_331 (by decide) rfl ?_
  refine l_aload_n 3 C dL_law_333 rfl ?_
  refine l_arg (i := 6 * j) (v := 1) 1 6 C (by omega) (by decide) dL_law_334 dL_law_335 dL_law_337 dL_law_338 dL_law_339 rfl rfl ?_
  refine l_ev (as := [.inl (xs (6 * j + 1))]) (rest := []) C hE ⟨_, rfl⟩ mw_X10_truncate wi_X10_truncate wv_X10_truncate wl_RL_141 mn_X10_truncate rfl (by decide) (by decide) dL_law_340 rfl (by decide) (by omega) (by omega) ?_
  refine l_istore (ls2 := [(7, .int v), (6, .int kr), (0, .ref b), (1, .ref (wx.1 0)), (2, .ref (wm.1 0)), (3, .ref qo), (4, .ref qd), (5, .int (nI (6 * j)))]) C dL_law_343 (by decide) rfl ?_
  refine l_thr (tgt := 356) 4 1 C rfl rfl hkr dL_law_345 dL_law_346 dL_law_349 dL_law_351 (by decide) (by omega) (by omega) ?_
  refine l_finL (t2 := 373) 5 1 0 C rfl rfl rfl (ans_f (by decide) hA9) dL_law_356 dL_law_358 (by decide) dL_law_361 dL_law_362 dL_law_363 dL_law_364 dL_law_366 dL_law_367 dL_law_368 (by decide) dL_law_373 (by decide) ?_
  refine l_sub [2, 3, 4, 5, 6, 7] (ls2 := [(0, .ref b), (1, .ref (wx.1 0)), (2, .ref (wm.1 0)), (3, .ref qo), (4, .ref qd), (5, .int (nI (6 * j)))]) rfl ?_
  exact kk Mx2 Mm2 _ _ hI
set_option maxRecDepth 20000 in
set_option maxHeartbeats 2000000 in
theorem case_2 {wx wm : Wp} {cL cD : ClassId} {qo qd : Nat} {p : Program} {l : Launch} {e : Env} {s : State} {m : MethodId} {below : List Frame} {meth : Method} {c : Code} {b L : Nat} {xs : Nat → Int32} {Mx Mm : Mem} {f : Nat → Int64} {g : Nat → UInt64} {k n j : Nat} (C : Lc wx wm cL cD qo qd p l s m meth c b L xs) (h : Inv j Mx Mm) (hm : j < 512) (hj : 6 * j + 6 ≤ L) (hk : k + 1 ≤ 601024) (hn : n + 6 ≤ 7293034) (kk : ∀ (Mx2 Mm2 : Mem) (f2 : Nat → Int64) (g2 : Nat → UInt64), Inv (j + 1) Mx2 Mm2 → Lj wx wm cL cD qo qd p l e s m below meth c b 2436 [(0, .ref b), (1, .ref (wx.1 0)), (2, .ref (wm.1 0)), (3, .ref qo), (4, .ref qd), (5, .int (nI (6 * j)))] [] Mx2 Mm2 f2 g2 (k + 1) (n + 6)) : Lj wx wm cL cD qo qd p l e s m below meth c b 376 [(0, .ref b), (1, .ref (wx.1 0)), (2, .ref (wm.1 0)), (3, .ref qo), (4, .ref qd), (5, .int (nI (6 * j)))] [] Mx Mm f g k n := by
  obtain ⟨r, Mx2, v, Mm2, e1, e2, hI, hA9⟩ := s_load h
  obtain ⟨kr, hkr⟩ : ∃ kr, Mm2 0 0 = kr := ⟨_, rfl⟩
  rw [hkr] at hA9
  have hH := hm_load (cL := cL) (f := f) C.2.2.2.1.2.2.1 (lc_Oq C) e1 (ans_kr hA9)
  have hE := ev_X10_load 30 (by decide) Mm
  rw [e2] at hE
  refine l_aload_n 1 C dL_law_376 rfl ?_
  refine l_aload_n 3 C dL_law_377 rfl ?_
  refine l_help (rest := []) C hH wm_L_load ws_L_load w0_RL wl_RL_142 ⟨by decide, by decide, by decide +kernel⟩ (np := 2) rfl (by decide) dL_law_378 rfl (by decide) (by omega) (by omega) ?_
  refine l_istore (ls2 := [(6, .int kr), (0, .ref b), (1, .ref (wx.1 0)), (2, .ref (wm.1 0)), (3, .ref qo), (4, .ref qd), (5, .int (nI (6 * j)))]) C dL_law_381 (by decide) rfl ?_
  refine l_aload_n 3 C dL_law_383 rfl ?_
  refine l_ev (as := []) (rest := []) C hE ⟨_, rfl⟩ mw_X10_load wi_X10_load wv_X10_load wl_RL_145 mn_X10_load rfl (by decide) (by decide) dL_law_384 rfl (by decide) (by omega) (by omega) ?_
  refine l_istore (ls2 := [(7, .int v), (6, .int kr), (0, .ref b), (1, .ref (wx.1 0)), (2, .ref (wm.1 0)), (3, .ref qo), (4, .ref qd), (5, .int (nI (6 * j)))]) C dL_law_387 (by decide) rfl ?_
  refine l_thr (tgt := 400) 4 1 C rfl rfl hkr dL_law_389 dL_law_390 dL_law_393 dL_law_395 (by decide) (by omega) (by omega) ?_
  refine l_finL (t2 := 417) 5 1 0 C rfl rfl rfl (ans_f (by decide) hA9) dL_law_400 dL_law_402 (by decide) dL_law_405 dL_law_406 dL_law_407 dL_law_408 dL_law_410 dL_law_411 dL_law_412 (by decide) dL_law_417 (by decide) ?_
  refine l_sub [2, 3, 4, 5, 6, 7] (ls2 := [(0, .ref b), (1, .ref (wx.1 0)), (2, .ref (wm.1 0)), (3, .ref qo), (4, .ref qd), (5, .int (nI (6 * j)))]) rfl ?_
  exact kk Mx2 Mm2 _ _ hI
set_option maxRecDepth 20000 in
set_option maxHeartbeats 2000000 in
theorem case_3 {wx wm : Wp} {cL cD : ClassId} {qo qd : Nat} {p : Program} {l : Launch} {e : Env} {s : State} {m : MethodId} {below : List Frame} {meth : Method} {c : Code} {b L : Nat} {xs : Nat → Int32} {Mx Mm : Mem} {f : Nat → Int64} {g : Nat → UInt64} {k n j : Nat} (C : Lc wx wm cL cD qo qd p l s m meth c b L xs) (h : Inv j Mx Mm) (hm : j < 512) (hj : 6 * j + 6 ≤ L) (hk : k + 1 ≤ 601024) (hn : n + 6 ≤ 7293034) (kk : ∀ (Mx2 Mm2 : Mem) (f2 : Nat → Int64) (g2 : Nat → UInt64), Inv (j + 1) Mx2 Mm2 → Lj wx wm cL cD qo qd p l e s m below meth c b 2436 [(0, .ref b), (1, .ref (wx.1 0)), (2, .ref (wm.1 0)), (3, .ref qo), (4, .ref qd), (5, .int (nI (6 * j)))] [] Mx2 Mm2 f2 g2 (k + 1) (n + 6)) : Lj wx wm cL cD qo qd p l e s m below meth c b 420 [(0, .ref b), (1, .ref (wx.1 0)), (2, .ref (wm.1 0)), (3, .ref qo), (4, .ref qd), (5, .int (nI (6 * j)))] [] Mx Mm f g k n := by
  obtain ⟨v, Mx2, Mm2, e1, e2, hI⟩ := s_errorCode h
  have hX := ev_X9_errorCode 30 (by decide) Mx
  rw [e1] at hX
  have hE := ev_X10_errorCode 30 (by decide) Mm
  rw [e2] at hE
  refine l_aload_n 1 C dL_law_420 rfl ?_
  refine l_evx (as := []) (rest := []) C hX ⟨_, rfl⟩ mw_X9_errorCode wi_X9_errorCode wv_X9_errorCode wl_RL_146 mn_X9_errorCode rfl (by decide) (by decide) dL_law_421 rfl (by decide) (by omega) (by omega) ?_
  refine l_aload_n 2 C dL_law_424 rfl ?_
  refine l_ev (as := []) (rest := [.int v]) C hE ⟨_, rfl⟩ mw_X10_errorCode wi_X10_errorCode wv_X10_errorCode wl_RL_149 mn_X10_errorCode rfl (by decide) (by decide) dL_law_425 rfl (by exact Nat.le_of_ble_eq_true rfl) (by omega) (by omega) ?_
  refine l_icmpeq (tgt := 2436) C dL_law_428 (by decide) ?_
  exact l_wide (by omega) (by omega) (kk Mx2 Mm2 _ _ hI)
set_option maxRecDepth 20000 in
set_option maxHeartbeats 2000000 in
theorem case_4 {wx wm : Wp} {cL cD : ClassId} {qo qd : Nat} {p : Program} {l : Launch} {e : Env} {s : State} {m : MethodId} {below : List Frame} {meth : Method} {c : Code} {b L : Nat} {xs : Nat → Int32} {Mx Mm : Mem} {f : Nat → Int64} {g : Nat → UInt64} {k n j : Nat} (C : Lc wx wm cL cD qo qd p l s m meth c b L xs) (h : Inv j Mx Mm) (hm : j < 512) (hj : 6 * j + 6 ≤ L) (hk : k + 1 ≤ 601024) (hn : n + 6 ≤ 7293034) (kk : ∀ (Mx2 Mm2 : Mem) (f2 : Nat → Int64) (g2 : Nat → UInt64), Inv (j + 1) Mx2 Mm2 → Lj wx wm cL cD qo qd p l e s m below meth c b 2436 [(0, .ref b), (1, .ref (wx.1 0)), (2, .ref (wm.1 0)), (3, .ref qo), (4, .ref qd), (5, .int (nI (6 * j)))] [] Mx2 Mm2 f2 g2 (k + 1) (n + 6)) : Lj wx wm cL cD qo qd p l e s m below meth c b 433 [(0, .ref b), (1, .ref (wx.1 0)), (2, .ref (wm.1 0)), (3, .ref qo), (4, .ref qd), (5, .int (nI (6 * j)))] [] Mx Mm f g k n := by
  obtain ⟨v, Mx2, Mm2, e1, e2, hI⟩ := s_errorPosition h
  have hX := ev_X9_errorPosition 30 (by decide) Mx
  rw [e1] at hX
  have hE := ev_X10_errorPosition 30 (by decide) Mm
  rw [e2] at hE
  refine l_aload_n 1 C dL_law_433 rfl ?_
  refine l_evx (as := []) (rest := []) C hX ⟨_, rfl⟩ mw_X9_errorPosition wi_X9_errorPosition wv_X9_errorPosition wl_RL_150 mn_X9_errorPosition rfl (by decide) (by decide) dL_law_434 rfl (by decide) (by omega) (by omega) ?_
  refine l_aload_n 2 C dL_law_437 rfl ?_
  refine l_ev (as := []) (rest := [.int v]) C hE ⟨_, rfl⟩ mw_X10_errorPosition wi_X10_errorPosition wv_X10_errorPosition wl_RL_153 mn_X10_errorPosition rfl (by decide) (by decide) dL_law_438 rfl (by exact Nat.le_of_ble_eq_true rfl) (by omega) (by omega) ?_
  refine l_icmpeq (tgt := 2436) C dL_law_441 (by decide) ?_
  exact l_wide (by omega) (by omega) (kk Mx2 Mm2 _ _ hI)
set_option maxRecDepth 20000 in
set_option maxHeartbeats 2000000 in
theorem case_5 {wx wm : Wp} {cL cD : ClassId} {qo qd : Nat} {p : Program} {l : Launch} {e : Env} {s : State} {m : MethodId} {below : List Frame} {meth : Method} {c : Code} {b L : Nat} {xs : Nat → Int32} {Mx Mm : Mem} {f : Nat → Int64} {g : Nat → UInt64} {k n j : Nat} (C : Lc wx wm cL cD qo qd p l s m meth c b L xs) (h : Inv j Mx Mm) (hm : j < 512) (hj : 6 * j + 6 ≤ L) (hk : k + 1 ≤ 601024) (hn : n + 6 ≤ 7293034) (kk : ∀ (Mx2 Mm2 : Mem) (f2 : Nat → Int64) (g2 : Nat → UInt64), Inv (j + 1) Mx2 Mm2 → Lj wx wm cL cD qo qd p l e s m below meth c b 2436 [(0, .ref b), (1, .ref (wx.1 0)), (2, .ref (wm.1 0)), (3, .ref qo), (4, .ref qd), (5, .int (nI (6 * j)))] [] Mx2 Mm2 f2 g2 (k + 1) (n + 6)) : Lj wx wm cL cD qo qd p l e s m below meth c b 446 [(0, .ref b), (1, .ref (wx.1 0)), (2, .ref (wm.1 0)), (3, .ref qo), (4, .ref qd), (5, .int (nI (6 * j)))] [] Mx Mm f g k n := by
  obtain ⟨r, Mx2, v, Mm2, e1, e2, hI, hA9⟩ := s_count h (xs (6 * j + 1))
  obtain ⟨kr, hkr⟩ : ∃ kr, Mm2 0 0 = kr := ⟨_, rfl⟩
  rw [hkr] at hA9
  have hH := hm_count (cL := cL) (f := f) C.2.2.2.1.2.2.1 (lc_Oq C) e1 (ans_kr hA9)
  have hE := ev_X10_count 30 (by decide) (xs (6 * j + 1)) Mm
  rw [e2] at hE
  refine l_aload_n 1 C dL_law_446 rfl ?_
  refine l_arg (i := 6 * j) (v := 1) 0 5 C (by omega) (by decide) dL_law_447 dL_law_448 dL_law_450 dL_law_451 dL_law_452 rfl rfl ?_
  refine l_aload_n 3 C dL_law_453 rfl ?_
  refine l_help (rest := []) C hH wm_L_count ws_L_count w0_RL wl_RL_154 ⟨by decide, by decide, by decide +kernel⟩ (np := 3) rfl (by decide) dL_law_454 rfl (by decide) (by omega) (by omega) ?_
  refine l_istore (ls2 := [(6, .int kr), (0, .ref b), (1, .ref (wx.1 0)), (2, .ref (wm.1 0)), (3, .ref qo), (4, .ref qd), (5, .int (nI (6 * j)))]) C dL_law_457 (by decide) rfl ?_
  refine l_aload_n 3 C dL_law_459 rfl ?_
  refine l_arg (i := 6 * j) (v := 1) 1 6 C (by omega) (by decide) dL_law_460 dL_law_461 dL_law_463 dL_law_464 dL_law_465 rfl rfl ?_
  refine l_ev (as := [.inl (xs (6 * j + 1))]) (rest := []) C hE ⟨_, rfl⟩ mw_X10_count wi_X10_count wv_X10_count wl_RL_156 mn_X10_count rfl (by decide) (by decide) dL_law_466 rfl (by decide) (by omega) (by omega) ?_
  refine l_istore (ls2 := [(7, .int v), (6, .int kr), (0, .ref b), (1, .ref (wx.1 0)), (2, .ref (wm.1 0)), (3, .ref qo), (4, .ref qd), (5, .int (nI (6 * j)))]) C dL_law_469 (by decide) rfl ?_
  refine l_thr (tgt := 482) 4 1 C rfl rfl hkr dL_law_471 dL_law_472 dL_law_475 dL_law_477 (by decide) (by omega) (by omega) ?_
  refine l_finL (t2 := 499) 5 1 0 C rfl rfl rfl (ans_f (by decide) hA9) dL_law_482 dL_law_484 (by decide) dL_law_487 dL_law_488 dL_law_489 dL_law_490 dL_law_492 dL_law_493 dL_law_494 (by decide) dL_law_499 (by decide) ?_
  refine l_sub [2, 3, 4, 5, 6, 7] (ls2 := [(0, .ref b), (1, .ref (wx.1 0)), (2, .ref (wm.1 0)), (3, .ref qo), (4, .ref qd), (5, .int (nI (6 * j)))]) rfl ?_
  exact kk Mx2 Mm2 _ _ hI
set_option maxRecDepth 20000 in
set_option maxHeartbeats 2000000 in
theorem case_6 {wx wm : Wp} {cL cD : ClassId} {qo qd : Nat} {p : Program} {l : Launch} {e : Env} {s : State} {m : MethodId} {below : List Frame} {meth : Method} {c : Code} {b L : Nat} {xs : Nat → Int32} {Mx Mm : Mem} {f : Nat → Int64} {g : Nat → UInt64} {k n j : Nat} (C : Lc wx wm cL cD qo qd p l s m meth c b L xs) (h : Inv j Mx Mm) (hm : j < 512) (hj : 6 * j + 6 ≤ L) (hk : k + 1 ≤ 601024) (hn : n + 6 ≤ 7293034) (kk : ∀ (Mx2 Mm2 : Mem) (f2 : Nat → Int64) (g2 : Nat → UInt64), Inv (j + 1) Mx2 Mm2 → Lj wx wm cL cD qo qd p l e s m below meth c b 2436 [(0, .ref b), (1, .ref (wx.1 0)), (2, .ref (wm.1 0)), (3, .ref qo), (4, .ref qd), (5, .int (nI (6 * j)))] [] Mx2 Mm2 f2 g2 (k + 1) (n + 6)) : Lj wx wm cL cD qo qd p l e s m below meth c b 502 [(0, .ref b), (1, .ref (wx.1 0)), (2, .ref (wm.1 0)), (3, .ref qo), (4, .ref qd), (5, .int (nI (6 * j)))] [] Mx Mm f g k n := by
  obtain ⟨r, Mx2, v, Mm2, e1, e2, hI, hA9⟩ := s_commands h (xs (6 * j + 1))
  obtain ⟨kr, hkr⟩ : ∃ kr, Mm2 0 0 = kr := ⟨_, rfl⟩
  rw [hkr] at hA9
  have hH := hm_commands (cL := cL) (f := f) C.2.2.2.1.2.2.1 (lc_Oq C) e1 (ans_kr hA9)
  have hE := ev_X10_commands 30 (by decide) (xs (6 * j + 1)) Mm
  rw [e2] at hE
  refine l_aload_n 1 C dL_law_502 rfl ?_
  refine l_arg (i := 6 * j) (v := 1) 0 5 C (by omega) (by decide) dL_law_503 dL_law_504 dL_law_506 dL_law_507 dL_law_508 rfl rfl ?_
  refine l_aload_n 3 C dL_law_509 rfl ?_
  refine l_help (rest := []) C hH wm_L_commands ws_L_commands w0_RL wl_RL_157 ⟨by decide, by decide, by decide +kernel⟩ (np := 3) rfl (by decide) dL_law_510 rfl (by decide) (by omega) (by omega) ?_
  refine l_istore (ls2 := [(6, .int kr), (0, .ref b), (1, .ref (wx.1 0)), (2, .ref (wm.1 0)), (3, .ref qo), (4, .ref qd), (5, .int (nI (6 * j)))]) C dL_law_513 (by decide) rfl ?_
  refine l_aload_n 3 C dL_law_515 rfl ?_
  refine l_arg (i := 6 * j) (v := 1) 1 6 C (by omega) (by decide) dL_law_516 dL_law_517 dL_law_519 dL_law_520 dL_law_521 rfl rfl ?_
  refine l_ev (as := [.inl (xs (6 * j + 1))]) (rest := []) C hE ⟨_, rfl⟩ mw_X10_commands wi_X10_commands wv_X10_commands wl_RL_159 mn_X10_commands rfl (by decide) (by decide) dL_law_522 rfl (by decide) (by omega) (by omega) ?_
  refine l_istore (ls2 := [(7, .int v), (6, .int kr), (0, .ref b), (1, .ref (wx.1 0)), (2, .ref (wm.1 0)), (3, .ref qo), (4, .ref qd), (5, .int (nI (6 * j)))]) C dL_law_525 (by decide) rfl ?_
  refine l_thr (tgt := 538) 4 1 C rfl rfl hkr dL_law_527 dL_law_528 dL_law_531 dL_law_533 (by decide) (by omega) (by omega) ?_
  refine l_finL (t2 := 555) 5 1 0 C rfl rfl rfl (ans_f (by decide) hA9) dL_law_538 dL_law_540 (by decide) dL_law_543 dL_law_544 dL_law_545 dL_law_546 dL_law_548 dL_law_549 dL_law_550 (by decide) dL_law_555 (by decide) ?_
  refine l_sub [2, 3, 4, 5, 6, 7] (ls2 := [(0, .ref b), (1, .ref (wx.1 0)), (2, .ref (wm.1 0)), (3, .ref qo), (4, .ref qd), (5, .int (nI (6 * j)))]) rfl ?_
  exact kk Mx2 Mm2 _ _ hI
set_option maxRecDepth 20000 in
set_option maxHeartbeats 2000000 in
theorem case_7 {wx wm : Wp} {cL cD : ClassId} {qo qd : Nat} {p : Program} {l : Launch} {e : Env} {s : State} {m : MethodId} {below : List Frame} {meth : Method} {c : Code} {b L : Nat} {xs : Nat → Int32} {Mx Mm : Mem} {f : Nat → Int64} {g : Nat → UInt64} {k n j : Nat} (C : Lc wx wm cL cD qo qd p l s m meth c b L xs) (h : Inv j Mx Mm) (hm : j < 512) (hj : 6 * j + 6 ≤ L) (hk : k + 1 ≤ 601024) (hn : n + 6 ≤ 7293034) (kk : ∀ (Mx2 Mm2 : Mem) (f2 : Nat → Int64) (g2 : Nat → UInt64), Inv (j + 1) Mx2 Mm2 → Lj wx wm cL cD qo qd p l e s m below meth c b 2436 [(0, .ref b), (1, .ref (wx.1 0)), (2, .ref (wm.1 0)), (3, .ref qo), (4, .ref qd), (5, .int (nI (6 * j)))] [] Mx2 Mm2 f2 g2 (k + 1) (n + 6)) : Lj wx wm cL cD qo qd p l e s m below meth c b 558 [(0, .ref b), (1, .ref (wx.1 0)), (2, .ref (wm.1 0)), (3, .ref qo), (4, .ref qd), (5, .int (nI (6 * j)))] [] Mx Mm f g k n := by
  obtain ⟨r, Mx2, v, Mm2, e1, e2, hI, hA9⟩ := s_banks h (xs (6 * j + 1))
  obtain ⟨kr, hkr⟩ : ∃ kr, Mm2 0 0 = kr := ⟨_, rfl⟩
  rw [hkr] at hA9
  have hH := hm_banks (cL := cL) (f := f) C.2.2.2.1.2.2.1 (lc_Oq C) e1 (ans_kr hA9)
  have hE := ev_X10_banks 30 (by decide) (xs (6 * j + 1)) Mm
  rw [e2] at hE
  refine l_aload_n 1 C dL_law_558 rfl ?_
  refine l_arg (i := 6 * j) (v := 1) 0 5 C (by omega) (by decide) dL_law_559 dL_law_560 dL_law_562 dL_law_563 dL_law_564 rfl rfl ?_
  refine l_aload_n 3 C dL_law_565 rfl ?_
  refine l_help (rest := []) C hH wm_L_banks ws_L_banks w0_RL wl_RL_160 ⟨by decide, by decide, by decide +kernel⟩ (np := 3) rfl (by decide) dL_law_566 rfl (by decide) (by omega) (by omega) ?_
  refine l_istore (ls2 := [(6, .int kr), (0, .ref b), (1, .ref (wx.1 0)), (2, .ref (wm.1 0)), (3, .ref qo), (4, .ref qd), (5, .int (nI (6 * j)))]) C dL_law_569 (by decide) rfl ?_
  refine l_aload_n 3 C dL_law_571 rfl ?_
  refine l_arg (i := 6 * j) (v := 1) 1 6 C (by omega) (by decide) dL_law_572 dL_law_573 dL_law_575 dL_law_576 dL_law_577 rfl rfl ?_
  refine l_ev (as := [.inl (xs (6 * j + 1))]) (rest := []) C hE ⟨_, rfl⟩ mw_X10_banks wi_X10_banks wv_X10_banks wl_RL_162 mn_X10_banks rfl (by decide) (by decide) dL_law_578 rfl (by decide) (by omega) (by omega) ?_
  refine l_istore (ls2 := [(7, .int v), (6, .int kr), (0, .ref b), (1, .ref (wx.1 0)), (2, .ref (wm.1 0)), (3, .ref qo), (4, .ref qd), (5, .int (nI (6 * j)))]) C dL_law_581 (by decide) rfl ?_
  refine l_thr (tgt := 594) 4 1 C rfl rfl hkr dL_law_583 dL_law_584 dL_law_587 dL_law_589 (by decide) (by omega) (by omega) ?_
  refine l_finL (t2 := 611) 5 1 0 C rfl rfl rfl (ans_f (by decide) hA9) dL_law_594 dL_law_596 (by decide) dL_law_599 dL_law_600 dL_law_601 dL_law_602 dL_law_604 dL_law_605 dL_law_606 (by decide) dL_law_611 (by decide) ?_
  refine l_sub [2, 3, 4, 5, 6, 7] (ls2 := [(0, .ref b), (1, .ref (wx.1 0)), (2, .ref (wm.1 0)), (3, .ref qo), (4, .ref qd), (5, .int (nI (6 * j)))]) rfl ?_
  exact kk Mx2 Mm2 _ _ hI
set_option maxRecDepth 20000 in
set_option maxHeartbeats 2000000 in
theorem case_8 {wx wm : Wp} {cL cD : ClassId} {qo qd : Nat} {p : Program} {l : Launch} {e : Env} {s : State} {m : MethodId} {below : List Frame} {meth : Method} {c : Code} {b L : Nat} {xs : Nat → Int32} {Mx Mm : Mem} {f : Nat → Int64} {g : Nat → UInt64} {k n j : Nat} (C : Lc wx wm cL cD qo qd p l s m meth c b L xs) (h : Inv j Mx Mm) (hm : j < 512) (hj : 6 * j + 6 ≤ L) (hk : k + 1 ≤ 601024) (hn : n + 6 ≤ 7293034) (kk : ∀ (Mx2 Mm2 : Mem) (f2 : Nat → Int64) (g2 : Nat → UInt64), Inv (j + 1) Mx2 Mm2 → Lj wx wm cL cD qo qd p l e s m below meth c b 2436 [(0, .ref b), (1, .ref (wx.1 0)), (2, .ref (wm.1 0)), (3, .ref qo), (4, .ref qd), (5, .int (nI (6 * j)))] [] Mx2 Mm2 f2 g2 (k + 1) (n + 6)) : Lj wx wm cL cD qo qd p l e s m below meth c b 614 [(0, .ref b), (1, .ref (wx.1 0)), (2, .ref (wm.1 0)), (3, .ref qo), (4, .ref qd), (5, .int (nI (6 * j)))] [] Mx Mm f g k n := by
  obtain ⟨r, Mx2, v, Mm2, e1, e2, hI, hA9⟩ := s_memory h (xs (6 * j + 1)) (xs (6 * j + 2)) (xs (6 * j + 3))
  obtain ⟨kr, hkr⟩ : ∃ kr, Mm2 0 0 = kr := ⟨_, rfl⟩
  rw [hkr] at hA9
  have hH := hm_memory (cL := cL) (f := f) C.2.2.2.1.2.2.1 (lc_Oq C) e1 (ans_kr hA9)
  have hE := ev_X10_memory 30 (by decide) (xs (6 * j + 1)) (xs (6 * j + 2)) (xs (6 * j + 3)) Mm
  rw [e2] at hE
  refine l_aload_n 1 C dL_law_614 rfl ?_
  refine l_arg (i := 6 * j) (v := 1) 0 5 C (by omega) (by decide) dL_law_615 dL_law_616 dL_law_618 dL_law_619 dL_law_620 rfl rfl ?_
  refine l_arg (i := 6 * j) (v := 2) 0 5 C (by omega) (by decide) dL_law_621 dL_law_622 dL_law_624 dL_law_625 dL_law_626 rfl rfl ?_
  refine l_arg (i := 6 * j) (v := 3) 0 5 C (by omega) (by decide) dL_law_627 dL_law_628 dL_law_630 dL_law_631 dL_law_632 rfl rfl ?_
  refine l_aload_n 3 C dL_law_633 rfl ?_
  refine l_help (rest := []) C hH wm_L_memory ws_L_memory w0_RL wl_RL_163 ⟨by decide, by decide, by decide +kernel⟩ (np := 5) rfl (by decide) dL_law_634 rfl (by decide) (by omega) (by omega) ?_
  refine l_istore (ls2 := [(6, .int kr), (0, .ref b), (1, .ref (wx.1 0)), (2, .ref (wm.1 0)), (3, .ref qo), (4, .ref qd), (5, .int (nI (6 * j)))]) C dL_law_637 (by decide) rfl ?_
  refine l_aload_n 3 C dL_law_639 rfl ?_
  refine l_arg (i := 6 * j) (v := 1) 1 6 C (by omega) (by decide) dL_law_640 dL_law_641 dL_law_643 dL_law_644 dL_law_645 rfl rfl ?_
  refine l_arg (i := 6 * j) (v := 2) 1 6 C (by omega) (by decide) dL_law_646 dL_law_647 dL_law_649 dL_law_650 dL_law_651 rfl rfl ?_
  refine l_arg (i := 6 * j) (v := 3) 1 6 C (by omega) (by decide) dL_law_652 dL_law_653 dL_law_655 dL_law_656 dL_law_657 rfl rfl ?_
  refine l_ev (as := [.inl (xs (6 * j + 1)), .inl (xs (6 * j + 2)), .inl (xs (6 * j + 3))]) (rest := []) C hE ⟨_, rfl⟩ mw_X10_memory wi_X10_memory wv_X10_memory wl_RL_166 mn_X10_memory rfl (by decide) (by decide) dL_law_658 rfl (by decide) (by omega) (by omega) ?_
  refine l_istore (ls2 := [(7, .int v), (6, .int kr), (0, .ref b), (1, .ref (wx.1 0)), (2, .ref (wm.1 0)), (3, .ref qo), (4, .ref qd), (5, .int (nI (6 * j)))]) C dL_law_661 (by decide) rfl ?_
  refine l_thr (tgt := 674) 4 1 C rfl rfl hkr dL_law_663 dL_law_664 dL_law_667 dL_law_669 (by decide) (by omega) (by omega) ?_
  refine l_finL (t2 := 691) 5 1 0 C rfl rfl rfl (ans_f (by decide) hA9) dL_law_674 dL_law_676 (by decide) dL_law_679 dL_law_680 dL_law_681 dL_law_682 dL_law_684 dL_law_685 dL_law_686 (by decide) dL_law_691 (by decide) ?_
  refine l_sub [2, 3, 4, 5, 6, 7] (ls2 := [(0, .ref b), (1, .ref (wx.1 0)), (2, .ref (wm.1 0)), (3, .ref qo), (4, .ref qd), (5, .int (nI (6 * j)))]) rfl ?_
  exact kk Mx2 Mm2 _ _ hI
set_option maxRecDepth 20000 in
set_option maxHeartbeats 2000000 in
theorem case_9 {wx wm : Wp} {cL cD : ClassId} {qo qd : Nat} {p : Program} {l : Launch} {e : Env} {s : State} {m : MethodId} {below : List Frame} {meth : Method} {c : Code} {b L : Nat} {xs : Nat → Int32} {Mx Mm : Mem} {f : Nat → Int64} {g : Nat → UInt64} {k n j : Nat} (C : Lc wx wm cL cD qo qd p l s m meth c b L xs) (h : Inv j Mx Mm) (hm : j < 512) (hj : 6 * j + 6 ≤ L) (hk : k + 1 ≤ 601024) (hn : n + 6 ≤ 7293034) (kk : ∀ (Mx2 Mm2 : Mem) (f2 : Nat → Int64) (g2 : Nat → UInt64), Inv (j + 1) Mx2 Mm2 → Lj wx wm cL cD qo qd p l e s m below meth c b 2436 [(0, .ref b), (1, .ref (wx.1 0)), (2, .ref (wm.1 0)), (3, .ref qo), (4, .ref qd), (5, .int (nI (6 * j)))] [] Mx2 Mm2 f2 g2 (k + 1) (n + 6)) : Lj wx wm cL cD qo qd p l e s m below meth c b 694 [(0, .ref b), (1, .ref (wx.1 0)), (2, .ref (wm.1 0)), (3, .ref qo), (4, .ref qd), (5, .int (nI (6 * j)))] [] Mx Mm f g k n := by
  obtain ⟨r, Mx2, v, Mm2, e1, e2, hI, hA9⟩ := s_fill h (xs (6 * j + 1)) (xs (6 * j + 2)) (xs (6 * j + 3)) (xs (6 * j + 4))
  obtain ⟨kr, hkr⟩ : ∃ kr, Mm2 0 0 = kr := ⟨_, rfl⟩
  rw [hkr] at hA9
  have hH := hm_fill (cL := cL) (f := f) C.2.2.2.1.2.2.1 (lc_Oq C) e1 (ans_kr hA9)
  have hE := ev_X10_fill 30 (by decide) (xs (6 * j + 1)) (xs (6 * j + 2)) (xs (6 * j + 3)) (xs (6 * j + 4)) Mm
  rw [e2] at hE
  refine l_aload_n 1 C dL_law_694 rfl ?_
  refine l_arg (i := 6 * j) (v := 1) 0 5 C (by omega) (by decide) dL_law_695 dL_law_696 dL_law_698 dL_law_699 dL_law_700 rfl rfl ?_
  refine l_arg (i := 6 * j) (v := 2) 0 5 C (by omega) (by decide) dL_law_701 dL_law_702 dL_law_704 dL_law_705 dL_law_706 rfl rfl ?_
  refine l_arg (i := 6 * j) (v := 3) 0 5 C (by omega) (by decide) dL_law_707 dL_law_708 dL_law_710 dL_law_711 dL_law_712 rfl rfl ?_
  refine l_arg (i := 6 * j) (v := 4) 0 5 C (by omega) (by decide) dL_law_713 dL_law_714 dL_law_716 dL_law_717 dL_law_718 rfl rfl ?_
  refine l_aload_n 3 C dL_law_719 rfl ?_
  refine l_help (rest := []) C hH wm_L_fill ws_L_fill w0_RL wl_RL_167 ⟨by decide, by decide, by decide +kernel⟩ (np := 6) rfl (by decide) dL_law_720 rfl (by decide) (by omega) (by omega) ?_
  refine l_istore (ls2 := [(6, .int kr), (0, .ref b), (1, .ref (wx.1 0)), (2, .ref (wm.1 0)), (3, .ref qo), (4, .ref qd), (5, .int (nI (6 * j)))]) C dL_law_723 (by decide) rfl ?_
  refine l_aload_n 3 C dL_law_725 rfl ?_
  refine l_arg (i := 6 * j) (v := 1) 1 6 C (by omega) (by decide) dL_law_726 dL_law_727 dL_law_729 dL_law_730 dL_law_731 rfl rfl ?_
  refine l_arg (i := 6 * j) (v := 2) 1 6 C (by omega) (by decide) dL_law_732 dL_law_733 dL_law_735 dL_law_736 dL_law_737 rfl rfl ?_
  refine l_arg (i := 6 * j) (v := 3) 1 6 C (by omega) (by decide) dL_law_738 dL_law_739 dL_law_741 dL_law_742 dL_law_743 rfl rfl ?_
  refine l_arg (i := 6 * j) (v := 4) 1 6 C (by omega) (by decide) dL_law_744 dL_law_745 dL_law_747 dL_law_748 dL_law_749 rfl rfl ?_
  refine l_ev (as := [.inl (xs (6 * j + 1)), .inl (xs (6 * j + 2)), .inl (xs (6 * j + 3)), .inl (xs (6 * j + 4))]) (rest := []) C hE ⟨_, rfl⟩ mw_X10_fill wi_X10_fill wv_X10_fill wl_RL_170 mn_X10_fill rfl (by decide) (by decide) dL_law_750 rfl (by decide) (by omega) (by omega) ?_
  refine l_istore (ls2 := [(7, .int v), (6, .int kr), (0, .ref b), (1, .ref (wx.1 0)), (2, .ref (wm.1 0)), (3, .ref qo), (4, .ref qd), (5, .int (nI (6 * j)))]) C dL_law_753 (by decide) rfl ?_
  refine l_thr (tgt := 766) 4 1 C rfl rfl hkr dL_law_755 dL_law_756 dL_law_759 dL_law_761 (by decide) (by omega) (by omega) ?_
  refine l_finL (t2 := 783) 5 1 0 C rfl rfl rfl (ans_f (by decide) hA9) dL_law_766 dL_law_768 (by decide) dL_law_771 dL_law_772 dL_law_773 dL_law_774 dL_law_776 dL_law_777 dL_law_778 (by decide) dL_law_783 (by decide) ?_
  refine l_sub [2, 3, 4, 5, 6, 7] (ls2 := [(0, .ref b), (1, .ref (wx.1 0)), (2, .ref (wm.1 0)), (3, .ref qo), (4, .ref qd), (5, .int (nI (6 * j)))]) rfl ?_
  exact kk Mx2 Mm2 _ _ hI
set_option maxRecDepth 20000 in
set_option maxHeartbeats 2000000 in
theorem case_10 {wx wm : Wp} {cL cD : ClassId} {qo qd : Nat} {p : Program} {l : Launch} {e : Env} {s : State} {m : MethodId} {below : List Frame} {meth : Method} {c : Code} {b L : Nat} {xs : Nat → Int32} {Mx Mm : Mem} {f : Nat → Int64} {g : Nat → UInt64} {k n j : Nat} (C : Lc wx wm cL cD qo qd p l s m meth c b L xs) (h : Inv j Mx Mm) (hm : j < 512) (hj : 6 * j + 6 ≤ L) (hk : k + 1 ≤ 601024) (hn : n + 6 ≤ 7293034) (kk : ∀ (Mx2 Mm2 : Mem) (f2 : Nat → Int64) (g2 : Nat → UInt64), Inv (j + 1) Mx2 Mm2 → Lj wx wm cL cD qo qd p l e s m below meth c b 2436 [(0, .ref b), (1, .ref (wx.1 0)), (2, .ref (wm.1 0)), (3, .ref qo), (4, .ref qd), (5, .int (nI (6 * j)))] [] Mx2 Mm2 f2 g2 (k + 1) (n + 6)) : Lj wx wm cL cD qo qd p l e s m below meth c b 786 [(0, .ref b), (1, .ref (wx.1 0)), (2, .ref (wm.1 0)), (3, .ref qo), (4, .ref qd), (5, .int (nI (6 * j)))] [] Mx Mm f g k n := by
  obtain ⟨r, Mx2, v, Mm2, e1, e2, hI, hA9⟩ := s_register h (xs (6 * j + 1)) (xs (6 * j + 2)) (xs (6 * j + 3))
  obtain ⟨kr, hkr⟩ : ∃ kr, Mm2 0 0 = kr := ⟨_, rfl⟩
  rw [hkr] at hA9
  have hH := hm_register (cL := cL) (f := f) C.2.2.2.1.2.2.1 (lc_Oq C) e1 (ans_kr hA9)
  have hE := ev_X10_register_ 30 (by decide) (xs (6 * j + 1)) (xs (6 * j + 2)) (xs (6 * j + 3)) Mm
  rw [e2] at hE
  refine l_aload_n 1 C dL_law_786 rfl ?_
  refine l_arg (i := 6 * j) (v := 1) 0 5 C (by omega) (by decide) dL_law_787 dL_law_788 dL_law_790 dL_law_791 dL_law_792 rfl rfl ?_
  refine l_arg (i := 6 * j) (v := 2) 0 5 C (by omega) (by decide) dL_law_793 dL_law_794 dL_law_796 dL_law_797 dL_law_798 rfl rfl ?_
  refine l_arg (i := 6 * j) (v := 3) 0 5 C (by omega) (by decide) dL_law_799 dL_law_800 dL_law_802 dL_law_803 dL_law_804 rfl rfl ?_
  refine l_aload_n 3 C dL_law_805 rfl ?_
  refine l_help (rest := []) C hH wm_L_register ws_L_register w0_RL wl_RL_171 ⟨by decide, by decide, by decide +kernel⟩ (np := 5) rfl (by decide) dL_law_806 rfl (by decide) (by omega) (by omega) ?_
  refine l_istore (ls2 := [(6, .int kr), (0, .ref b), (1, .ref (wx.1 0)), (2, .ref (wm.1 0)), (3, .ref qo), (4, .ref qd), (5, .int (nI (6 * j)))]) C dL_law_809 (by decide) rfl ?_
  refine l_aload_n 3 C dL_law_811 rfl ?_
  refine l_arg (i := 6 * j) (v := 1) 1 6 C (by omega) (by decide) dL_law_812 dL_law_813 dL_law_815 dL_law_816 dL_law_817 rfl rfl ?_
  refine l_arg (i := 6 * j) (v := 2) 1 6 C (by omega) (by decide) dL_law_818 dL_law_819 dL_law_821 dL_law_822 dL_law_823 rfl rfl ?_
  refine l_arg (i := 6 * j) (v := 3) 1 6 C (by omega) (by decide) dL_law_824 dL_law_825 dL_law_827 dL_law_828 dL_law_829 rfl rfl ?_
  refine l_ev (as := [.inl (xs (6 * j + 1)), .inl (xs (6 * j + 2)), .inl (xs (6 * j + 3))]) (rest := []) C hE ⟨_, rfl⟩ mw_X10_register_ wi_X10_register_ wv_X10_register_ wl_RL_173 mn_X10_register_ rfl (by decide) (by decide) dL_law_830 rfl (by decide) (by omega) (by omega) ?_
  refine l_istore (ls2 := [(7, .int v), (6, .int kr), (0, .ref b), (1, .ref (wx.1 0)), (2, .ref (wm.1 0)), (3, .ref qo), (4, .ref qd), (5, .int (nI (6 * j)))]) C dL_law_833 (by decide) rfl ?_
  refine l_thr (tgt := 846) 4 1 C rfl rfl hkr dL_law_835 dL_law_836 dL_law_839 dL_law_841 (by decide) (by omega) (by omega) ?_
  refine l_finL (t2 := 863) 5 1 0 C rfl rfl rfl (ans_f (by decide) hA9) dL_law_846 dL_law_848 (by decide) dL_law_851 dL_law_852 dL_law_853 dL_law_854 dL_law_856 dL_law_857 dL_law_858 (by decide) dL_law_863 (by decide) ?_
  refine l_sub [2, 3, 4, 5, 6, 7] (ls2 := [(0, .ref b), (1, .ref (wx.1 0)), (2, .ref (wm.1 0)), (3, .ref qo), (4, .ref qd), (5, .int (nI (6 * j)))]) rfl ?_
  exact kk Mx2 Mm2 _ _ hI
set_option maxRecDepth 20000 in
set_option maxHeartbeats 2000000 in
theorem case_11 {wx wm : Wp} {cL cD : ClassId} {qo qd : Nat} {p : Program} {l : Launch} {e : Env} {s : State} {m : MethodId} {below : List Frame} {meth : Method} {c : Code} {b L : Nat} {xs : Nat → Int32} {Mx Mm : Mem} {f : Nat → Int64} {g : Nat → UInt64} {k n j : Nat} (C : Lc wx wm cL cD qo qd p l s m meth c b L xs) (h : Inv j Mx Mm) (hm : j < 512) (hj : 6 * j + 6 ≤ L) (hk : k + 1 ≤ 601024) (hn : n + 6 ≤ 7293034) (kk : ∀ (Mx2 Mm2 : Mem) (f2 : Nat → Int64) (g2 : Nat → UInt64), Inv (j + 1) Mx2 Mm2 → Lj wx wm cL cD qo qd p l e s m below meth c b 2436 [(0, .ref b), (1, .ref (wx.1 0)), (2, .ref (wm.1 0)), (3, .ref qo), (4, .ref qd), (5, .int (nI (6 * j)))] [] Mx2 Mm2 f2 g2 (k + 1) (n + 6)) : Lj wx wm cL cD qo qd p l e s m below meth c b 866 [(0, .ref b), (1, .ref (wx.1 0)), (2, .ref (wm.1 0)), (3, .ref qo), (4, .ref qd), (5, .int (nI (6 * j)))] [] Mx Mm f g k n := by
  obtain ⟨r, Mx2, v, Mm2, e1, e2, hI, hA9⟩ := s_hostRead h hm (xs (6 * j + 1)) (xs (6 * j + 2)) (xs (6 * j + 3))
  obtain ⟨kr, hkr⟩ : ∃ kr, Mm2 0 0 = kr := ⟨_, rfl⟩
  rw [hkr] at hA9
  have hH := hm_hostRead (cL := cL) (f := f) C.2.2.2.1.2.2.1 (lc_Oq C) e1 (ans_kr hA9)
  have hE := ev_X10_hostRead 30 (by decide) (xs (6 * j + 1)) (xs (6 * j + 2)) (xs (6 * j + 3)) Mm
  rw [e2] at hE
  refine l_aload_n 1 C dL_law_866 rfl ?_
  refine l_arg (i := 6 * j) (v := 1) 0 5 C (by omega) (by decide) dL_law_867 dL_law_868 dL_law_870 dL_law_871 dL_law_872 rfl rfl ?_
  refine l_arg (i := 6 * j) (v := 2) 0 5 C (by omega) (by decide) dL_law_873 dL_law_874 dL_law_876 dL_law_877 dL_law_878 rfl rfl ?_
  refine l_arg (i := 6 * j) (v := 3) 0 5 C (by omega) (by decide) dL_law_879 dL_law_880 dL_law_882 dL_law_883 dL_law_884 rfl rfl ?_
  refine l_aload_n 3 C dL_law_885 rfl ?_
  refine l_help (rest := []) C hH wm_L_hostRead ws_L_hostRead w0_RL wl_RL_174 ⟨by decide, by decide, by decide +kernel⟩ (np := 5) rfl (by decide) dL_law_886 rfl (by decide) (by omega) (by omega) ?_
  refine l_istore (ls2 := [(6, .int kr), (0, .ref b), (1, .ref (wx.1 0)), (2, .ref (wm.1 0)), (3, .ref qo), (4, .ref qd), (5, .int (nI (6 * j)))]) C dL_law_889 (by decide) rfl ?_
  refine l_aload_n 3 C dL_law_891 rfl ?_
  refine l_arg (i := 6 * j) (v := 1) 1 6 C (by omega) (by decide) dL_law_892 dL_law_893 dL_law_895 dL_law_896 dL_law_897 rfl rfl ?_
  refine l_arg (i := 6 * j) (v := 2) 1 6 C (by omega) (by decide) dL_law_898 dL_law_899 dL_law_901 dL_law_902 dL_law_903 rfl rfl ?_
  refine l_arg (i := 6 * j) (v := 3) 1 6 C (by omega) (by decide) dL_law_904 dL_law_905 dL_law_907 dL_law_908 dL_law_909 rfl rfl ?_
  refine l_ev (as := [.inl (xs (6 * j + 1)), .inl (xs (6 * j + 2)), .inl (xs (6 * j + 3))]) (rest := []) C hE ⟨_, rfl⟩ mw_X10_hostRead wi_X10_hostRead wv_X10_hostRead wl_RL_176 mn_X10_hostRead rfl (by decide) (by decide) dL_law_910 rfl (by decide) (by omega) (by omega) ?_
  refine l_istore (ls2 := [(7, .int v), (6, .int kr), (0, .ref b), (1, .ref (wx.1 0)), (2, .ref (wm.1 0)), (3, .ref qo), (4, .ref qd), (5, .int (nI (6 * j)))]) C dL_law_913 (by decide) rfl ?_
  refine l_thr (tgt := 926) 4 1 C rfl rfl hkr dL_law_915 dL_law_916 dL_law_919 dL_law_921 (by decide) (by omega) (by omega) ?_
  refine l_finL (t2 := 943) 5 1 0 C rfl rfl rfl (ans_f (by decide) hA9) dL_law_926 dL_law_928 (by decide) dL_law_931 dL_law_932 dL_law_933 dL_law_934 dL_law_936 dL_law_937 dL_law_938 (by decide) dL_law_943 (by decide) ?_
  refine l_sub [2, 3, 4, 5, 6, 7] (ls2 := [(0, .ref b), (1, .ref (wx.1 0)), (2, .ref (wm.1 0)), (3, .ref qo), (4, .ref qd), (5, .int (nI (6 * j)))]) rfl ?_
  exact kk Mx2 Mm2 _ _ hI
set_option maxRecDepth 20000 in
set_option maxHeartbeats 2000000 in
theorem case_12 {wx wm : Wp} {cL cD : ClassId} {qo qd : Nat} {p : Program} {l : Launch} {e : Env} {s : State} {m : MethodId} {below : List Frame} {meth : Method} {c : Code} {b L : Nat} {xs : Nat → Int32} {Mx Mm : Mem} {f : Nat → Int64} {g : Nat → UInt64} {k n j : Nat} (C : Lc wx wm cL cD qo qd p l s m meth c b L xs) (h : Inv j Mx Mm) (hm : j < 512) (hj : 6 * j + 6 ≤ L) (hk : k + 1 ≤ 601024) (hn : n + 6 ≤ 7293034) (kk : ∀ (Mx2 Mm2 : Mem) (f2 : Nat → Int64) (g2 : Nat → UInt64), Inv (j + 1) Mx2 Mm2 → Lj wx wm cL cD qo qd p l e s m below meth c b 2436 [(0, .ref b), (1, .ref (wx.1 0)), (2, .ref (wm.1 0)), (3, .ref qo), (4, .ref qd), (5, .int (nI (6 * j)))] [] Mx2 Mm2 f2 g2 (k + 1) (n + 6)) : Lj wx wm cL cD qo qd p l e s m below meth c b 946 [(0, .ref b), (1, .ref (wx.1 0)), (2, .ref (wm.1 0)), (3, .ref qo), (4, .ref qd), (5, .int (nI (6 * j)))] [] Mx Mm f g k n := by
  obtain ⟨r, Mx2, v, Mm2, e1, e2, hI, hA9⟩ := s_hostWrite h hm (xs (6 * j + 1)) (xs (6 * j + 2)) (xs (6 * j + 3)) (xs (6 * j + 4))
  obtain ⟨kr, hkr⟩ : ∃ kr, Mm2 0 0 = kr := ⟨_, rfl⟩
  rw [hkr] at hA9
  have hH := hm_hostWrite (cL := cL) (f := f) C.2.2.2.1.2.2.1 (lc_Oq C) e1 (ans_kr hA9)
  have hE := ev_X10_hostWrite 30 (by decide) (xs (6 * j + 1)) (xs (6 * j + 2)) (xs (6 * j + 3)) (xs (6 * j + 4)) Mm
  rw [e2] at hE
  refine l_aload_n 1 C dL_law_946 rfl ?_
  refine l_arg (i := 6 * j) (v := 1) 0 5 C (by omega) (by decide) dL_law_947 dL_law_948 dL_law_950 dL_law_951 dL_law_952 rfl rfl ?_
  refine l_arg (i := 6 * j) (v := 2) 0 5 C (by omega) (by decide) dL_law_953 dL_law_954 dL_law_956 dL_law_957 dL_law_958 rfl rfl ?_
  refine l_arg (i := 6 * j) (v := 3) 0 5 C (by omega) (by decide) dL_law_959 dL_law_960 dL_law_962 dL_law_963 dL_law_964 rfl rfl ?_
  refine l_arg (i := 6 * j) (v := 4) 0 5 C (by omega) (by decide) dL_law_965 dL_law_966 dL_law_968 dL_law_969 dL_law_970 rfl rfl ?_
  refine l_aload_n 3 C dL_law_971 rfl ?_
  refine l_help (rest := []) C hH wm_L_hostWrite ws_L_hostWrite w0_RL wl_RL_177 ⟨by decide, by decide, by decide +kernel⟩ (np := 6) rfl (by decide) dL_law_972 rfl (by decide) (by omega) (by omega) ?_
  refine l_istore (ls2 := [(6, .int kr), (0, .ref b), (1, .ref (wx.1 0)), (2, .ref (wm.1 0)), (3, .ref qo), (4, .ref qd), (5, .int (nI (6 * j)))]) C dL_law_975 (by decide) rfl ?_
  refine l_aload_n 3 C dL_law_977 rfl ?_
  refine l_arg (i := 6 * j) (v := 1) 1 6 C (by omega) (by decide) dL_law_978 dL_law_979 dL_law_981 dL_law_982 dL_law_983 rfl rfl ?_
  refine l_arg (i := 6 * j) (v := 2) 1 6 C (by omega) (by decide) dL_law_984 dL_law_985 dL_law_987 dL_law_988 dL_law_989 rfl rfl ?_
  refine l_arg (i := 6 * j) (v := 3) 1 6 C (by omega) (by decide) dL_law_990 dL_law_991 dL_law_993 dL_law_994 dL_law_995 rfl rfl ?_
  refine l_arg (i := 6 * j) (v := 4) 1 6 C (by omega) (by decide) dL_law_996 dL_law_997 dL_law_999 dL_law_1000 dL_law_1001 rfl rfl ?_
  refine l_ev (as := [.inl (xs (6 * j + 1)), .inl (xs (6 * j + 2)), .inl (xs (6 * j + 3)), .inl (xs (6 * j + 4))]) (rest := []) C hE ⟨_, rfl⟩ mw_X10_hostWrite wi_X10_hostWrite wv_X10_hostWrite wl_RL_179 mn_X10_hostWrite rfl (by decide) (by decide) dL_law_1002 rfl (by decide) (by omega) (by omega) ?_
  refine l_istore (ls2 := [(7, .int v), (6, .int kr), (0, .ref b), (1, .ref (wx.1 0)), (2, .ref (wm.1 0)), (3, .ref qo), (4, .ref qd), (5, .int (nI (6 * j)))]) C dL_law_1005 (by decide) rfl ?_
  refine l_thr (tgt := 1018) 4 1 C rfl rfl hkr dL_law_1007 dL_law_1008 dL_law_1011 dL_law_1013 (by decide) (by omega) (by omega) ?_
  refine l_finL (t2 := 1035) 5 1 0 C rfl rfl rfl (ans_f (by decide) hA9) dL_law_1018 dL_law_1020 (by decide) dL_law_1023 dL_law_1024 dL_law_1025 dL_law_1026 dL_law_1028 dL_law_1029 dL_law_1030 (by decide) dL_law_1035 (by decide) ?_
  refine l_sub [2, 3, 4, 5, 6, 7] (ls2 := [(0, .ref b), (1, .ref (wx.1 0)), (2, .ref (wm.1 0)), (3, .ref qo), (4, .ref qd), (5, .int (nI (6 * j)))]) rfl ?_
  exact kk Mx2 Mm2 _ _ hI
set_option maxRecDepth 20000 in
set_option maxHeartbeats 2000000 in
theorem case_13 {wx wm : Wp} {cL cD : ClassId} {qo qd : Nat} {p : Program} {l : Launch} {e : Env} {s : State} {m : MethodId} {below : List Frame} {meth : Method} {c : Code} {b L : Nat} {xs : Nat → Int32} {Mx Mm : Mem} {f : Nat → Int64} {g : Nat → UInt64} {k n j : Nat} (C : Lc wx wm cL cD qo qd p l s m meth c b L xs) (h : Inv j Mx Mm) (hm : j < 512) (hj : 6 * j + 6 ≤ L) (hk : k + 1 ≤ 601024) (hn : n + 6 ≤ 7293034) (kk : ∀ (Mx2 Mm2 : Mem) (f2 : Nat → Int64) (g2 : Nat → UInt64), Inv (j + 1) Mx2 Mm2 → Lj wx wm cL cD qo qd p l e s m below meth c b 2436 [(0, .ref b), (1, .ref (wx.1 0)), (2, .ref (wm.1 0)), (3, .ref qo), (4, .ref qd), (5, .int (nI (6 * j)))] [] Mx2 Mm2 f2 g2 (k + 1) (n + 6)) : Lj wx wm cL cD qo qd p l e s m below meth c b 1038 [(0, .ref b), (1, .ref (wx.1 0)), (2, .ref (wm.1 0)), (3, .ref qo), (4, .ref qd), (5, .int (nI (6 * j)))] [] Mx Mm f g k n := by
  obtain ⟨r, Mx2, v, Mm2, e1, e2, hI, hA9⟩ := s_flush h (xs (6 * j + 1)) (xs (6 * j + 2))
  obtain ⟨kr, hkr⟩ : ∃ kr, Mm2 0 0 = kr := ⟨_, rfl⟩
  rw [hkr] at hA9
  have hH := hm_flush (cL := cL) (f := f) C.2.2.2.1.2.2.1 (lc_Oq C) e1 (ans_kr hA9)
  have hE := ev_X10_flush 30 (by decide) (xs (6 * j + 1)) (xs (6 * j + 2)) Mm
  rw [e2] at hE
  refine l_aload_n 1 C dL_law_1038 rfl ?_
  refine l_arg (i := 6 * j) (v := 1) 0 5 C (by omega) (by decide) dL_law_1039 dL_law_1040 dL_law_1042 dL_law_1043 dL_law_1044 rfl rfl ?_
  refine l_arg (i := 6 * j) (v := 2) 0 5 C (by omega) (by decide) dL_law_1045 dL_law_1046 dL_law_1048 dL_law_1049 dL_law_1050 rfl rfl ?_
  refine l_aload_n 3 C dL_law_1051 rfl ?_
  refine l_help (rest := []) C hH wm_L_flush ws_L_flush w0_RL wl_RL_180 ⟨by decide, by decide, by decide +kernel⟩ (np := 4) rfl (by decide) dL_law_1052 rfl (by decide) (by omega) (by omega) ?_
  refine l_istore (ls2 := [(6, .int kr), (0, .ref b), (1, .ref (wx.1 0)), (2, .ref (wm.1 0)), (3, .ref qo), (4, .ref qd), (5, .int (nI (6 * j)))]) C dL_law_1055 (by decide) rfl ?_
  refine l_aload_n 3 C dL_law_1057 rfl ?_
  refine l_arg (i := 6 * j) (v := 1) 1 6 C (by omega) (by decide) dL_law_1058 dL_law_1059 dL_law_1061 dL_law_1062 dL_law_1063 rfl rfl ?_
  refine l_arg (i := 6 * j) (v := 2) 1 6 C (by omega) (by decide) dL_law_1064 dL_law_1065 dL_law_1067 dL_law_1068 dL_law_1069 rfl rfl ?_
  refine l_ev (as := [.inl (xs (6 * j + 1)), .inl (xs (6 * j + 2))]) (rest := []) C hE ⟨_, rfl⟩ mw_X10_flush wi_X10_flush wv_X10_flush wl_RL_183 mn_X10_flush rfl (by decide) (by decide) dL_law_1070 rfl (by decide) (by omega) (by omega) ?_
  refine l_istore (ls2 := [(7, .int v), (6, .int kr), (0, .ref b), (1, .ref (wx.1 0)), (2, .ref (wm.1 0)), (3, .ref qo), (4, .ref qd), (5, .int (nI (6 * j)))]) C dL_law_1073 (by decide) rfl ?_
  refine l_thr (tgt := 1086) 4 1 C rfl rfl hkr dL_law_1075 dL_law_1076 dL_law_1079 dL_law_1081 (by decide) (by omega) (by omega) ?_
  refine l_finZ (t2 := 1110) (t0 := 1103) (t1 := 1104) 5 1 0 C rfl rfl rfl (ans_f (by decide) hA9) dL_law_1086 dL_law_1088 (by decide) dL_law_1091 dL_law_1092 dL_law_1093 dL_law_1094 dL_law_1096 (by decide) dL_law_1099 dL_law_1100 (by decide) dL_law_1103 rfl dL_law_1104 dL_law_1105 (by decide) dL_law_1110 (by decide) ?_
  refine l_sub [2, 3, 4, 5, 6, 7] (ls2 := [(0, .ref b), (1, .ref (wx.1 0)), (2, .ref (wm.1 0)), (3, .ref qo), (4, .ref qd), (5, .int (nI (6 * j)))]) rfl ?_
  exact kk Mx2 Mm2 _ _ hI
set_option maxRecDepth 20000 in
set_option maxHeartbeats 2000000 in
theorem case_14 {wx wm : Wp} {cL cD : ClassId} {qo qd : Nat} {p : Program} {l : Launch} {e : Env} {s : State} {m : MethodId} {below : List Frame} {meth : Method} {c : Code} {b L : Nat} {xs : Nat → Int32} {Mx Mm : Mem} {f : Nat → Int64} {g : Nat → UInt64} {k n j : Nat} (C : Lc wx wm cL cD qo qd p l s m meth c b L xs) (h : Inv j Mx Mm) (hm : j < 512) (hj : 6 * j + 6 ≤ L) (hk : k + 1 ≤ 601024) (hn : n + 6 ≤ 7293034) (kk : ∀ (Mx2 Mm2 : Mem) (f2 : Nat → Int64) (g2 : Nat → UInt64), Inv (j + 1) Mx2 Mm2 → Lj wx wm cL cD qo qd p l e s m below meth c b 2436 [(0, .ref b), (1, .ref (wx.1 0)), (2, .ref (wm.1 0)), (3, .ref qo), (4, .ref qd), (5, .int (nI (6 * j)))] [] Mx2 Mm2 f2 g2 (k + 1) (n + 6)) : Lj wx wm cL cD qo qd p l e s m below meth c b 1113 [(0, .ref b), (1, .ref (wx.1 0)), (2, .ref (wm.1 0)), (3, .ref qo), (4, .ref qd), (5, .int (nI (6 * j)))] [] Mx Mm f g k n := by
  obtain ⟨v, Mx2, Mm2, e1, e2, hI⟩ := s_flushAll h
  have hX := ev_X9_flushAll 30 (by decide) Mx
  rw [e1] at hX
  have hE := ev_X10_flushAll 30 (by decide) Mm
  rw [e2] at hE
  refine l_aload_n 1 C dL_law_1113 rfl ?_
  refine l_evx (as := []) (rest := []) C hX ⟨_, rfl⟩ mw_X9_flushAll wi_X9_flushAll wv_X9_flushAll wl_RL_184 mn_X9_flushAll rfl (by decide) (by decide) dL_law_1114 rfl (by decide) (by omega) (by omega) ?_
  refine l_aload_n 2 C dL_law_1117 rfl ?_
  refine l_ev (as := []) (rest := [.int v]) C hE ⟨_, rfl⟩ mw_X10_flushAll wi_X10_flushAll wv_X10_flushAll wl_RL_187 mn_X10_flushAll rfl (by decide) (by decide) dL_law_1118 rfl (by exact Nat.le_of_ble_eq_true rfl) (by omega) (by omega) ?_
  refine l_icmpeq (tgt := 2436) C dL_law_1121 (by decide) ?_
  exact l_wide (by omega) (by omega) (kk Mx2 Mm2 _ _ hI)
set_option maxRecDepth 20000 in
set_option maxHeartbeats 2000000 in
theorem case_15 {wx wm : Wp} {cL cD : ClassId} {qo qd : Nat} {p : Program} {l : Launch} {e : Env} {s : State} {m : MethodId} {below : List Frame} {meth : Method} {c : Code} {b L : Nat} {xs : Nat → Int32} {Mx Mm : Mem} {f : Nat → Int64} {g : Nat → UInt64} {k n j : Nat} (C : Lc wx wm cL cD qo qd p l s m meth c b L xs) (h : Inv j Mx Mm) (hm : j < 512) (hj : 6 * j + 6 ≤ L) (hk : k + 1 ≤ 601024) (hn : n + 6 ≤ 7293034) (kk : ∀ (Mx2 Mm2 : Mem) (f2 : Nat → Int64) (g2 : Nat → UInt64), Inv (j + 1) Mx2 Mm2 → Lj wx wm cL cD qo qd p l e s m below meth c b 2436 [(0, .ref b), (1, .ref (wx.1 0)), (2, .ref (wm.1 0)), (3, .ref qo), (4, .ref qd), (5, .int (nI (6 * j)))] [] Mx2 Mm2 f2 g2 (k + 1) (n + 6)) : Lj wx wm cL cD qo qd p l e s m below meth c b 1126 [(0, .ref b), (1, .ref (wx.1 0)), (2, .ref (wm.1 0)), (3, .ref qo), (4, .ref qd), (5, .int (nI (6 * j)))] [] Mx Mm f g k n := by
  obtain ⟨r, Mx2, v, Mm2, e1, e2, hI, hA9⟩ := s_invalidate h (xs (6 * j + 1)) (xs (6 * j + 2))
  obtain ⟨kr, hkr⟩ : ∃ kr, Mm2 0 0 = kr := ⟨_, rfl⟩
  rw [hkr] at hA9
  have hH := hm_invalidate (cL := cL) (f := f) C.2.2.2.1.2.2.1 (lc_Oq C) e1 (ans_kr hA9)
  have hE := ev_X10_invalidate 30 (by decide) (xs (6 * j + 1)) (xs (6 * j + 2)) Mm
  rw [e2] at hE
  refine l_aload_n 1 C dL_law_1126 rfl ?_
  refine l_arg (i := 6 * j) (v := 1) 0 5 C (by omega) (by decide) dL_law_1127 dL_law_1128 dL_law_1130 dL_law_1131 dL_law_1132 rfl rfl ?_
  refine l_arg (i := 6 * j) (v := 2) 0 5 C (by omega) (by decide) dL_law_1133 dL_law_1134 dL_law_1136 dL_law_1137 dL_law_1138 rfl rfl ?_
  refine l_aload_n 3 C dL_law_1139 rfl ?_
  refine l_help (rest := []) C hH wm_L_invalidate ws_L_invalidate w0_RL wl_RL_188 ⟨by decide, by decide, by decide +kernel⟩ (np := 4) rfl (by decide) dL_law_1140 rfl (by decide) (by omega) (by omega) ?_
  refine l_istore (ls2 := [(6, .int kr), (0, .ref b), (1, .ref (wx.1 0)), (2, .ref (wm.1 0)), (3, .ref qo), (4, .ref qd), (5, .int (nI (6 * j)))]) C dL_law_1143 (by decide) rfl ?_
  refine l_aload_n 3 C dL_law_1145 rfl ?_
  refine l_arg (i := 6 * j) (v := 1) 1 6 C (by omega) (by decide) dL_law_1146 dL_law_1147 dL_law_1149 dL_law_1150 dL_law_1151 rfl rfl ?_
  refine l_arg (i := 6 * j) (v := 2) 1 6 C (by omega) (by decide) dL_law_1152 dL_law_1153 dL_law_1155 dL_law_1156 dL_law_1157 rfl rfl ?_
  refine l_ev (as := [.inl (xs (6 * j + 1)), .inl (xs (6 * j + 2))]) (rest := []) C hE ⟨_, rfl⟩ mw_X10_invalidate wi_X10_invalidate wv_X10_invalidate wl_RL_190 mn_X10_invalidate rfl (by decide) (by decide) dL_law_1158 rfl (by decide) (by omega) (by omega) ?_
  refine l_istore (ls2 := [(7, .int v), (6, .int kr), (0, .ref b), (1, .ref (wx.1 0)), (2, .ref (wm.1 0)), (3, .ref qo), (4, .ref qd), (5, .int (nI (6 * j)))]) C dL_law_1161 (by decide) rfl ?_
  refine l_thr (tgt := 1174) 4 1 C rfl rfl hkr dL_law_1163 dL_law_1164 dL_law_1167 dL_law_1169 (by decide) (by omega) (by omega) ?_
  refine l_finZ (t2 := 1198) (t0 := 1191) (t1 := 1192) 5 1 0 C rfl rfl rfl (ans_f (by decide) hA9) dL_law_1174 dL_law_1176 (by decide) dL_law_1179 dL_law_1180 dL_law_1181 dL_law_1182 dL_law_1184 (by decide) dL_law_1187 dL_law_1188 (by decide) dL_law_1191 rfl dL_law_1192 dL_law_1193 (by decide) dL_law_1198 (by decide) ?_
  refine l_sub [2, 3, 4, 5, 6, 7] (ls2 := [(0, .ref b), (1, .ref (wx.1 0)), (2, .ref (wm.1 0)), (3, .ref qo), (4, .ref qd), (5, .int (nI (6 * j)))]) rfl ?_
  exact kk Mx2 Mm2 _ _ hI
set_option maxRecDepth 20000 in
set_option maxHeartbeats 2000000 in
theorem case_16 {wx wm : Wp} {cL cD : ClassId} {qo qd : Nat} {p : Program} {l : Launch} {e : Env} {s : State} {m : MethodId} {below : List Frame} {meth : Method} {c : Code} {b L : Nat} {xs : Nat → Int32} {Mx Mm : Mem} {f : Nat → Int64} {g : Nat → UInt64} {k n j : Nat} (C : Lc wx wm cL cD qo qd p l s m meth c b L xs) (h : Inv j Mx Mm) (hm : j < 512) (hj : 6 * j + 6 ≤ L) (hk : k + 1 ≤ 601024) (hn : n + 6 ≤ 7293034) (kk : ∀ (Mx2 Mm2 : Mem) (f2 : Nat → Int64) (g2 : Nat → UInt64), Inv (j + 1) Mx2 Mm2 → Lj wx wm cL cD qo qd p l e s m below meth c b 2436 [(0, .ref b), (1, .ref (wx.1 0)), (2, .ref (wm.1 0)), (3, .ref qo), (4, .ref qd), (5, .int (nI (6 * j)))] [] Mx2 Mm2 f2 g2 (k + 1) (n + 6)) : Lj wx wm cL cD qo qd p l e s m below meth c b 1201 [(0, .ref b), (1, .ref (wx.1 0)), (2, .ref (wm.1 0)), (3, .ref qo), (4, .ref qd), (5, .int (nI (6 * j)))] [] Mx Mm f g k n := by
  obtain ⟨r, Mx2, v, Mm2, e1, e2, hI, hA9⟩ := s_line h (xs (6 * j + 1)) (xs (6 * j + 2))
  obtain ⟨kr, hkr⟩ : ∃ kr, Mm2 0 0 = kr := ⟨_, rfl⟩
  rw [hkr] at hA9
  have hH := hm_line (cL := cL) (f := f) C.2.2.2.1.2.2.1 (lc_Oq C) e1 (ans_kr hA9)
  have hE := ev_X10_line 30 (by decide) (xs (6 * j + 1)) (xs (6 * j + 2)) Mm
  rw [e2] at hE
  refine l_aload_n 1 C dL_law_1201 rfl ?_
  refine l_arg (i := 6 * j) (v := 1) 0 5 C (by omega) (by decide) dL_law_1202 dL_law_1203 dL_law_1205 dL_law_1206 dL_law_1207 rfl rfl ?_
  refine l_arg (i := 6 * j) (v := 2) 0 5 C (by omega) (by decide) dL_law_1208 dL_law_1209 dL_law_1211 dL_law_1212 dL_law_1213 rfl rfl ?_
  refine l_aload_n 3 C dL_law_1214 rfl ?_
  refine l_help (rest := []) C hH wm_L_line ws_L_line w0_RL wl_RL_191 ⟨by decide, by decide, by decide +kernel⟩ (np := 4) rfl (by decide) dL_law_1215 rfl (by decide) (by omega) (by omega) ?_
  refine l_istore (ls2 := [(6, .int kr), (0, .ref b), (1, .ref (wx.1 0)), (2, .ref (wm.1 0)), (3, .ref qo), (4, .ref qd), (5, .int (nI (6 * j)))]) C dL_law_1218 (by decide) rfl ?_
  refine l_aload_n 3 C dL_law_1220 rfl ?_
  refine l_arg (i := 6 * j) (v := 1) 1 6 C (by omega) (by decide) dL_law_1221 dL_law_1222 dL_law_1224 dL_law_1225 dL_law_1226 rfl rfl ?_
  refine l_arg (i := 6 * j) (v := 2) 1 6 C (by omega) (by decide) dL_law_1227 dL_law_1228 dL_law_1230 dL_law_1231 dL_law_1232 rfl rfl ?_
  refine l_ev (as := [.inl (xs (6 * j + 1)), .inl (xs (6 * j + 2))]) (rest := []) C hE ⟨_, rfl⟩ mw_X10_line wi_X10_line wv_X10_line wl_RL_193 mn_X10_line rfl (by decide) (by decide) dL_law_1233 rfl (by decide) (by omega) (by omega) ?_
  refine l_istore (ls2 := [(7, .int v), (6, .int kr), (0, .ref b), (1, .ref (wx.1 0)), (2, .ref (wm.1 0)), (3, .ref qo), (4, .ref qd), (5, .int (nI (6 * j)))]) C dL_law_1236 (by decide) rfl ?_
  refine l_thr (tgt := 1249) 4 1 C rfl rfl hkr dL_law_1238 dL_law_1239 dL_law_1242 dL_law_1244 (by decide) (by omega) (by omega) ?_
  refine l_finL (t2 := 1266) 5 1 0 C rfl rfl rfl (ans_f (by decide) hA9) dL_law_1249 dL_law_1251 (by decide) dL_law_1254 dL_law_1255 dL_law_1256 dL_law_1257 dL_law_1259 dL_law_1260 dL_law_1261 (by decide) dL_law_1266 (by decide) ?_
  refine l_sub [2, 3, 4, 5, 6, 7] (ls2 := [(0, .ref b), (1, .ref (wx.1 0)), (2, .ref (wm.1 0)), (3, .ref qo), (4, .ref qd), (5, .int (nI (6 * j)))]) rfl ?_
  exact kk Mx2 Mm2 _ _ hI
set_option maxRecDepth 20000 in
set_option maxHeartbeats 2000000 in
theorem case_17 {wx wm : Wp} {cL cD : ClassId} {qo qd : Nat} {p : Program} {l : Launch} {e : Env} {s : State} {m : MethodId} {below : List Frame} {meth : Method} {c : Code} {b L : Nat} {xs : Nat → Int32} {Mx Mm : Mem} {f : Nat → Int64} {g : Nat → UInt64} {k n j : Nat} (C : Lc wx wm cL cD qo qd p l s m meth c b L xs) (h : Inv j Mx Mm) (hm : j < 512) (hj : 6 * j + 6 ≤ L) (hk : k + 1 ≤ 601024) (hn : n + 6 ≤ 7293034) (kk : ∀ (Mx2 Mm2 : Mem) (f2 : Nat → Int64) (g2 : Nat → UInt64), Inv (j + 1) Mx2 Mm2 → Lj wx wm cL cD qo qd p l e s m below meth c b 2436 [(0, .ref b), (1, .ref (wx.1 0)), (2, .ref (wm.1 0)), (3, .ref qo), (4, .ref qd), (5, .int (nI (6 * j)))] [] Mx2 Mm2 f2 g2 (k + 1) (n + 6)) : Lj wx wm cL cD qo qd p l e s m below meth c b 1269 [(0, .ref b), (1, .ref (wx.1 0)), (2, .ref (wm.1 0)), (3, .ref qo), (4, .ref qd), (5, .int (nI (6 * j)))] [] Mx Mm f g k n := by
  obtain ⟨r, Mx2, v, Mm2, e1, e2, hI, hA9⟩ := s_cache h (xs (6 * j + 1))
  obtain ⟨kr, hkr⟩ : ∃ kr, Mm2 0 0 = kr := ⟨_, rfl⟩
  rw [hkr] at hA9
  have hH := hm_cache (cL := cL) (f := f) C.2.2.2.1.2.2.1 (lc_Oq C) e1 (ans_kr hA9)
  have hE := ev_X10_cache 30 (by decide) (xs (6 * j + 1)) Mm
  rw [e2] at hE
  refine l_aload_n 1 C dL_law_1269 rfl ?_
  refine l_arg (i := 6 * j) (v := 1) 0 5 C (by omega) (by decide) dL_law_1270 dL_law_1271 dL_law_1273 dL_law_1274 dL_law_1275 rfl rfl ?_
  refine l_aload_n 3 C dL_law_1276 rfl ?_
  refine l_help (rest := []) C hH wm_L_cache ws_L_cache w0_RL wl_RL_194 ⟨by decide, by decide, by decide +kernel⟩ (np := 3) rfl (by decide) dL_law_1277 rfl (by decide) (by omega) (by omega) ?_
  refine l_istore (ls2 := [(6, .int kr), (0, .ref b), (1, .ref (wx.1 0)), (2, .ref (wm.1 0)), (3, .ref qo), (4, .ref qd), (5, .int (nI (6 * j)))]) C dL_law_1280 (by decide) rfl ?_
  refine l_aload_n 3 C dL_law_1282 rfl ?_
  refine l_arg (i := 6 * j) (v := 1) 1 6 C (by omega) (by decide) dL_law_1283 dL_law_1284 dL_law_1286 dL_law_1287 dL_law_1288 rfl rfl ?_
  refine l_ev (as := [.inl (xs (6 * j + 1))]) (rest := []) C hE ⟨_, rfl⟩ mw_X10_cache wi_X10_cache wv_X10_cache wl_RL_196 mn_X10_cache rfl (by decide) (by decide) dL_law_1289 rfl (by decide) (by omega) (by omega) ?_
  refine l_istore (ls2 := [(7, .int v), (6, .int kr), (0, .ref b), (1, .ref (wx.1 0)), (2, .ref (wm.1 0)), (3, .ref qo), (4, .ref qd), (5, .int (nI (6 * j)))]) C dL_law_1292 (by decide) rfl ?_
  refine l_thr (tgt := 1305) 4 1 C rfl rfl hkr dL_law_1294 dL_law_1295 dL_law_1298 dL_law_1300 (by decide) (by omega) (by omega) ?_
  refine l_finL (t2 := 1322) 5 1 0 C rfl rfl rfl (ans_f (by decide) hA9) dL_law_1305 dL_law_1307 (by decide) dL_law_1310 dL_law_1311 dL_law_1312 dL_law_1313 dL_law_1315 dL_law_1316 dL_law_1317 (by decide) dL_law_1322 (by decide) ?_
  refine l_sub [2, 3, 4, 5, 6, 7] (ls2 := [(0, .ref b), (1, .ref (wx.1 0)), (2, .ref (wm.1 0)), (3, .ref qo), (4, .ref qd), (5, .int (nI (6 * j)))]) rfl ?_
  exact kk Mx2 Mm2 _ _ hI
set_option maxRecDepth 20000 in
set_option maxHeartbeats 2000000 in
theorem case_18 {wx wm : Wp} {cL cD : ClassId} {qo qd : Nat} {p : Program} {l : Launch} {e : Env} {s : State} {m : MethodId} {below : List Frame} {meth : Method} {c : Code} {b L : Nat} {xs : Nat → Int32} {Mx Mm : Mem} {f : Nat → Int64} {g : Nat → UInt64} {k n j : Nat} (C : Lc wx wm cL cD qo qd p l s m meth c b L xs) (h : Inv j Mx Mm) (hm : j < 512) (hj : 6 * j + 6 ≤ L) (hk : k + 1 ≤ 601024) (hn : n + 6 ≤ 7293034) (kk : ∀ (Mx2 Mm2 : Mem) (f2 : Nat → Int64) (g2 : Nat → UInt64), Inv (j + 1) Mx2 Mm2 → Lj wx wm cL cD qo qd p l e s m below meth c b 2436 [(0, .ref b), (1, .ref (wx.1 0)), (2, .ref (wm.1 0)), (3, .ref qo), (4, .ref qd), (5, .int (nI (6 * j)))] [] Mx2 Mm2 f2 g2 (k + 1) (n + 6)) : Lj wx wm cL cD qo qd p l e s m below meth c b 1325 [(0, .ref b), (1, .ref (wx.1 0)), (2, .ref (wm.1 0)), (3, .ref qo), (4, .ref qd), (5, .int (nI (6 * j)))] [] Mx Mm f g k n := by
  obtain ⟨z, hz, hzB⟩ : ∃ z : Int32, (if xs (6 * j + 1) = 0 then 0 else 1) = z ∧ isB z := ⟨_, rfl, isB_ite (Or.inl rfl) (Or.inr rfl)⟩
  obtain ⟨v, Mx2, Mm2, e1, e2, hI⟩ := s_setCoherence h hzB
  have hX := ev_X9_setCoherence 30 (by decide) z Mx
  rw [e1] at hX
  have hE := ev_X10_setCoherence 30 (by decide) z Mm
  rw [e2] at hE
  refine l_aload_n 1 C dL_law_1325 rfl ?_
  refine l_arg (i := 6 * j) (v := 1) 0 5 C (by omega) (by decide) dL_law_1326 dL_law_1327 dL_law_1329 dL_law_1330 dL_law_1331 rfl rfl ?_
  refine l_bool (t0 := 1339) (t1 := 1340) C hz dL_law_1332 (by decide) dL_law_1335 dL_law_1336 (by decide) dL_law_1339 rfl ?_
  refine l_evx (as := [.inl z]) (rest := []) C hX ⟨_, rfl⟩ mw_X9_setCoherence wi_X9_setCoherence wv_X9_setCoherence wl_RL_197 mn_X9_setCoherence rfl (by decide) (by decide) dL_law_1340 rfl (by decide) (by omega) (by omega) ?_
  refine l_aload_n 2 C dL_law_1343 rfl ?_
  refine l_arg (i := 6 * j) (v := 1) 0 5 C (by omega) (by decide) dL_law_1344 dL_law_1345 dL_law_1347 dL_law_1348 dL_law_1349 rfl rfl ?_
  refine l_bool (t0 := 1357) (t1 := 1358) C hz dL_law_1350 (by decide) dL_law_1353 dL_law_1354 (by decide) dL_law_1357 rfl ?_
  refine l_ev (as := [.inl z]) (rest := [.int v]) C hE ⟨_, rfl⟩ mw_X10_setCoherence wi_X10_setCoherence wv_X10_setCoherence wl_RL_201 mn_X10_setCoherence rfl (by decide) (by decide) dL_law_1358 rfl (by exact Nat.le_of_ble_eq_true rfl) (by omega) (by omega) ?_
  refine l_icmpeq (tgt := 2436) C dL_law_1361 (by decide) ?_
  exact l_wide (by omega) (by omega) (kk Mx2 Mm2 _ _ hI)
set_option maxRecDepth 20000 in
set_option maxHeartbeats 2000000 in
theorem case_19 {wx wm : Wp} {cL cD : ClassId} {qo qd : Nat} {p : Program} {l : Launch} {e : Env} {s : State} {m : MethodId} {below : List Frame} {meth : Method} {c : Code} {b L : Nat} {xs : Nat → Int32} {Mx Mm : Mem} {f : Nat → Int64} {g : Nat → UInt64} {k n j : Nat} (C : Lc wx wm cL cD qo qd p l s m meth c b L xs) (h : Inv j Mx Mm) (hm : j < 512) (hj : 6 * j + 6 ≤ L) (hk : k + 1 ≤ 601024) (hn : n + 6 ≤ 7293034) (kk : ∀ (Mx2 Mm2 : Mem) (f2 : Nat → Int64) (g2 : Nat → UInt64), Inv (j + 1) Mx2 Mm2 → Lj wx wm cL cD qo qd p l e s m below meth c b 2436 [(0, .ref b), (1, .ref (wx.1 0)), (2, .ref (wm.1 0)), (3, .ref qo), (4, .ref qd), (5, .int (nI (6 * j)))] [] Mx2 Mm2 f2 g2 (k + 1) (n + 6)) : Lj wx wm cL cD qo qd p l e s m below meth c b 1366 [(0, .ref b), (1, .ref (wx.1 0)), (2, .ref (wm.1 0)), (3, .ref qo), (4, .ref qd), (5, .int (nI (6 * j)))] [] Mx Mm f g k n := by
  obtain ⟨r, Mx2, v, Mm2, e1, e2, hI, hA9⟩ := s_submit h (xs (6 * j + 1))
  obtain ⟨kr, hkr⟩ : ∃ kr, Mm2 0 0 = kr := ⟨_, rfl⟩
  rw [hkr] at hA9
  have hH := hm_submit (cL := cL) (f := f) C.2.2.2.1.2.2.1 (lc_Oq C) e1 (ans_kr hA9)
  have hE := ev_X10_submit 30 (by decide) (xs (6 * j + 1)) Mm
  rw [e2] at hE
  refine l_aload_n 1 C dL_law_1366 rfl ?_
  refine l_arg (i := 6 * j) (v := 1) 0 5 C (by omega) (by decide) dL_law_1367 dL_law_1368 dL_law_1370 dL_law_1371 dL_law_1372 rfl rfl ?_
  refine l_aload_n 3 C dL_law_1373 rfl ?_
  refine l_help (rest := []) C hH wm_L_submit ws_L_submit w0_RL wl_RL_202 ⟨by decide, by decide, by decide +kernel⟩ (np := 3) rfl (by decide) dL_law_1374 rfl (by decide) (by omega) (by omega) ?_
  refine l_istore (ls2 := [(6, .int kr), (0, .ref b), (1, .ref (wx.1 0)), (2, .ref (wm.1 0)), (3, .ref qo), (4, .ref qd), (5, .int (nI (6 * j)))]) C dL_law_1377 (by decide) rfl ?_
  refine l_aload_n 3 C dL_law_1379 rfl ?_
  refine l_arg (i := 6 * j) (v := 1) 1 6 C (by omega) (by decide) dL_law_1380 dL_law_1381 dL_law_1383 dL_law_1384 dL_law_1385 rfl rfl ?_
  refine l_ev (as := [.inl (xs (6 * j + 1))]) (rest := []) C hE ⟨_, rfl⟩ mw_X10_submit wi_X10_submit wv_X10_submit wl_RL_204 mn_X10_submit rfl (by decide) (by decide) dL_law_1386 rfl (by decide) (by omega) (by omega) ?_
  refine l_istore (ls2 := [(7, .int v), (6, .int kr), (0, .ref b), (1, .ref (wx.1 0)), (2, .ref (wm.1 0)), (3, .ref qo), (4, .ref qd), (5, .int (nI (6 * j)))]) C dL_law_1389 (by decide) rfl ?_
  refine l_thr (tgt := 1402) 4 1 C rfl rfl hkr dL_law_1391 dL_law_1392 dL_law_1395 dL_law_1397 (by decide) (by omega) (by omega) ?_
  refine l_finL (t2 := 1419) 5 1 0 C rfl rfl rfl (ans_f (by decide) hA9) dL_law_1402 dL_law_1404 (by decide) dL_law_1407 dL_law_1408 dL_law_1409 dL_law_1410 dL_law_1412 dL_law_1413 dL_law_1414 (by decide) dL_law_1419 (by decide) ?_
  refine l_sub [2, 3, 4, 5, 6, 7] (ls2 := [(0, .ref b), (1, .ref (wx.1 0)), (2, .ref (wm.1 0)), (3, .ref qo), (4, .ref qd), (5, .int (nI (6 * j)))]) rfl ?_
  exact kk Mx2 Mm2 _ _ hI
set_option maxRecDepth 20000 in
set_option maxHeartbeats 2000000 in
theorem case_20 {wx wm : Wp} {cL cD : ClassId} {qo qd : Nat} {p : Program} {l : Launch} {e : Env} {s : State} {m : MethodId} {below : List Frame} {meth : Method} {c : Code} {b L : Nat} {xs : Nat → Int32} {Mx Mm : Mem} {f : Nat → Int64} {g : Nat → UInt64} {k n j : Nat} (C : Lc wx wm cL cD qo qd p l s m meth c b L xs) (h : Inv j Mx Mm) (hm : j < 512) (hj : 6 * j + 6 ≤ L) (hk : k + 1 ≤ 601024) (hn : n + 6 ≤ 7293034) (kk : ∀ (Mx2 Mm2 : Mem) (f2 : Nat → Int64) (g2 : Nat → UInt64), Inv (j + 1) Mx2 Mm2 → Lj wx wm cL cD qo qd p l e s m below meth c b 2436 [(0, .ref b), (1, .ref (wx.1 0)), (2, .ref (wm.1 0)), (3, .ref qo), (4, .ref qd), (5, .int (nI (6 * j)))] [] Mx2 Mm2 f2 g2 (k + 1) (n + 6)) : Lj wx wm cL cD qo qd p l e s m below meth c b 1422 [(0, .ref b), (1, .ref (wx.1 0)), (2, .ref (wm.1 0)), (3, .ref qo), (4, .ref qd), (5, .int (nI (6 * j)))] [] Mx Mm f g k n := by
  obtain ⟨r, Mx2, v, Mm2, e1, e2, hI, hA9⟩ := s_queued h (xs (6 * j + 1))
  obtain ⟨kr, hkr⟩ : ∃ kr, Mm2 0 0 = kr := ⟨_, rfl⟩
  rw [hkr] at hA9
  have hH := hm_queued (cL := cL) (f := f) C.2.2.2.1.2.2.1 (lc_Oq C) e1 (ans_kr hA9)
  have hE := ev_X10_queued 30 (by decide) (xs (6 * j + 1)) Mm
  rw [e2] at hE
  refine l_aload_n 1 C dL_law_1422 rfl ?_
  refine l_arg (i := 6 * j) (v := 1) 0 5 C (by omega) (by decide) dL_law_1423 dL_law_1424 dL_law_1426 dL_law_1427 dL_law_1428 rfl rfl ?_
  refine l_aload_n 3 C dL_law_1429 rfl ?_
  refine l_help (rest := []) C hH wm_L_queued ws_L_queued w0_RL wl_RL_205 ⟨by decide, by decide, by decide +kernel⟩ (np := 3) rfl (by decide) dL_law_1430 rfl (by decide) (by omega) (by omega) ?_
  refine l_istore (ls2 := [(6, .int kr), (0, .ref b), (1, .ref (wx.1 0)), (2, .ref (wm.1 0)), (3, .ref qo), (4, .ref qd), (5, .int (nI (6 * j)))]) C dL_law_1433 (by decide) rfl ?_
  refine l_aload_n 3 C dL_law_1435 rfl ?_
  refine l_arg (i := 6 * j) (v := 1) 1 6 C (by omega) (by decide) dL_law_1436 dL_law_1437 dL_law_1439 dL_law_1440 dL_law_1441 rfl rfl ?_
  refine l_ev (as := [.inl (xs (6 * j + 1))]) (rest := []) C hE ⟨_, rfl⟩ mw_X10_queued wi_X10_queued wv_X10_queued wl_RL_207 mn_X10_queued rfl (by decide) (by decide) dL_law_1442 rfl (by decide) (by omega) (by omega) ?_
  refine l_istore (ls2 := [(7, .int v), (6, .int kr), (0, .ref b), (1, .ref (wx.1 0)), (2, .ref (wm.1 0)), (3, .ref qo), (4, .ref qd), (5, .int (nI (6 * j)))]) C dL_law_1445 (by decide) rfl ?_
  refine l_thr (tgt := 1458) 4 1 C rfl rfl hkr dL_law_1447 dL_law_1448 dL_law_1451 dL_law_1453 (by decide) (by omega) (by omega) ?_
  refine l_finL (t2 := 1475) 5 1 0 C rfl rfl rfl (ans_f (by decide) hA9) dL_law_1458 dL_law_1460 (by decide) dL_law_1463 dL_law_1464 dL_law_1465 dL_law_1466 dL_law_1468 dL_law_1469 dL_law_1470 (by decide) dL_law_1475 (by decide) ?_
  refine l_sub [2, 3, 4, 5, 6, 7] (ls2 := [(0, .ref b), (1, .ref (wx.1 0)), (2, .ref (wm.1 0)), (3, .ref qo), (4, .ref qd), (5, .int (nI (6 * j)))]) rfl ?_
  exact kk Mx2 Mm2 _ _ hI
set_option maxRecDepth 20000 in
set_option maxHeartbeats 2000000 in
theorem case_21 {wx wm : Wp} {cL cD : ClassId} {qo qd : Nat} {p : Program} {l : Launch} {e : Env} {s : State} {m : MethodId} {below : List Frame} {meth : Method} {c : Code} {b L : Nat} {xs : Nat → Int32} {Mx Mm : Mem} {f : Nat → Int64} {g : Nat → UInt64} {k n j : Nat} (C : Lc wx wm cL cD qo qd p l s m meth c b L xs) (h : Inv j Mx Mm) (hm : j < 512) (hj : 6 * j + 6 ≤ L) (hk : k + 1 ≤ 601024) (hn : n + 6 ≤ 7293034) (kk : ∀ (Mx2 Mm2 : Mem) (f2 : Nat → Int64) (g2 : Nat → UInt64), Inv (j + 1) Mx2 Mm2 → Lj wx wm cL cD qo qd p l e s m below meth c b 2436 [(0, .ref b), (1, .ref (wx.1 0)), (2, .ref (wm.1 0)), (3, .ref qo), (4, .ref qd), (5, .int (nI (6 * j)))] [] Mx2 Mm2 f2 g2 (k + 1) (n + 6)) : Lj wx wm cL cD qo qd p l e s m below meth c b 1478 [(0, .ref b), (1, .ref (wx.1 0)), (2, .ref (wm.1 0)), (3, .ref qo), (4, .ref qd), (5, .int (nI (6 * j)))] [] Mx Mm f g k n := by
  obtain ⟨r, Mx2, v, Mm2, e1, e2, hI, hA9⟩ := s_run h hm (xs (6 * j + 1))
  obtain ⟨kr, hkr⟩ : ∃ kr, Mm2 0 0 = kr := ⟨_, rfl⟩
  rw [hkr] at hA9
  have hH := hm_run (cL := cL) (f := f) C.2.2.2.1.2.2.1 (lc_Oq C) e1 (ans_kr hA9)
  have hE := ev_X10_run 30 (by decide) (xs (6 * j + 1)) Mm
  rw [e2] at hE
  refine l_aload_n 1 C dL_law_1478 rfl ?_
  refine l_arg (i := 6 * j) (v := 1) 0 5 C (by omega) (by decide) dL_law_1479 dL_law_1480 dL_law_1482 dL_law_1483 dL_law_1484 rfl rfl ?_
  refine l_aload_n 3 C dL_law_1485 rfl ?_
  refine l_help (rest := []) C hH wm_L_run ws_L_run w0_RL wl_RL_208 ⟨by decide, by decide, by decide +kernel⟩ (np := 3) rfl (by decide) dL_law_1486 rfl (by decide) (by omega) (by omega) ?_
  refine l_istore (ls2 := [(6, .int kr), (0, .ref b), (1, .ref (wx.1 0)), (2, .ref (wm.1 0)), (3, .ref qo), (4, .ref qd), (5, .int (nI (6 * j)))]) C dL_law_1489 (by decide) rfl ?_
  refine l_aload_n 3 C dL_law_1491 rfl ?_
  refine l_arg (i := 6 * j) (v := 1) 1 6 C (by omega) (by decide) dL_law_1492 dL_law_1493 dL_law_1495 dL_law_1496 dL_law_1497 rfl rfl ?_
  refine l_ev (as := [.inl (xs (6 * j + 1))]) (rest := []) C hE ⟨_, rfl⟩ mw_X10_run wi_X10_run wv_X10_run wl_RL_210 mn_X10_run rfl (by decide) (by decide) dL_law_1498 rfl (by decide) (by omega) (by omega) ?_
  refine l_istore (ls2 := [(7, .int v), (6, .int kr), (0, .ref b), (1, .ref (wx.1 0)), (2, .ref (wm.1 0)), (3, .ref qo), (4, .ref qd), (5, .int (nI (6 * j)))]) C dL_law_1501 (by decide) rfl ?_
  refine l_thr (tgt := 1514) 4 1 C rfl rfl hkr dL_law_1503 dL_law_1504 dL_law_1507 dL_law_1509 (by decide) (by omega) (by omega) ?_
  refine l_finL (t2 := 1531) 5 1 0 C rfl rfl rfl (ans_f (by decide) hA9) dL_law_1514 dL_law_1516 (by decide) dL_law_1519 dL_law_1520 dL_law_1521 dL_law_1522 dL_law_1524 dL_law_1525 dL_law_1526 (by decide) dL_law_1531 (by decide) ?_
  refine l_sub [2, 3, 4, 5, 6, 7] (ls2 := [(0, .ref b), (1, .ref (wx.1 0)), (2, .ref (wm.1 0)), (3, .ref qo), (4, .ref qd), (5, .int (nI (6 * j)))]) rfl ?_
  exact kk Mx2 Mm2 _ _ hI
set_option maxRecDepth 20000 in
set_option maxHeartbeats 2000000 in
theorem case_22 {wx wm : Wp} {cL cD : ClassId} {qo qd : Nat} {p : Program} {l : Launch} {e : Env} {s : State} {m : MethodId} {below : List Frame} {meth : Method} {c : Code} {b L : Nat} {xs : Nat → Int32} {Mx Mm : Mem} {f : Nat → Int64} {g : Nat → UInt64} {k n j : Nat} (C : Lc wx wm cL cD qo qd p l s m meth c b L xs) (h : Inv j Mx Mm) (hm : j < 512) (hj : 6 * j + 6 ≤ L) (hk : k + 1 ≤ 601024) (hn : n + 6 ≤ 7293034) (kk : ∀ (Mx2 Mm2 : Mem) (f2 : Nat → Int64) (g2 : Nat → UInt64), Inv (j + 1) Mx2 Mm2 → Lj wx wm cL cD qo qd p l e s m below meth c b 2436 [(0, .ref b), (1, .ref (wx.1 0)), (2, .ref (wm.1 0)), (3, .ref qo), (4, .ref qd), (5, .int (nI (6 * j)))] [] Mx2 Mm2 f2 g2 (k + 1) (n + 6)) : Lj wx wm cL cD qo qd p l e s m below meth c b 1534 [(0, .ref b), (1, .ref (wx.1 0)), (2, .ref (wm.1 0)), (3, .ref qo), (4, .ref qd), (5, .int (nI (6 * j)))] [] Mx Mm f g k n := by
  obtain ⟨r, Mx2, v, Mm2, e1, e2, hI, hA9⟩ := s_runOf h hm (xs (6 * j + 1)) (xs (6 * j + 2))
  obtain ⟨kr, hkr⟩ : ∃ kr, Mm2 0 0 = kr := ⟨_, rfl⟩
  rw [hkr] at hA9
  have hH := hm_runOf (cL := cL) (f := f) C.2.2.2.1.2.2.1 (lc_Oq C) e1 (ans_kr hA9)
  have hE := ev_X10_runOf 30 (by decide) (xs (6 * j + 1)) (xs (6 * j + 2)) Mm
  rw [e2] at hE
  refine l_aload_n 1 C dL_law_1534 rfl ?_
  refine l_arg (i := 6 * j) (v := 1) 0 5 C (by omega) (by decide) dL_law_1535 dL_law_1536 dL_law_1538 dL_law_1539 dL_law_1540 rfl rfl ?_
  refine l_arg (i := 6 * j) (v := 2) 0 5 C (by omega) (by decide) dL_law_1541 dL_law_1542 dL_law_1544 dL_law_1545 dL_law_1546 rfl rfl ?_
  refine l_aload_n 3 C dL_law_1547 rfl ?_
  refine l_help (rest := []) C hH wm_L_runOf ws_L_runOf w0_RL wl_RL_211 ⟨by decide, by decide, by decide +kernel⟩ (np := 4) rfl (by decide) dL_law_1548 rfl (by decide) (by omega) (by omega) ?_
  refine l_istore (ls2 := [(6, .int kr), (0, .ref b), (1, .ref (wx.1 0)), (2, .ref (wm.1 0)), (3, .ref qo), (4, .ref qd), (5, .int (nI (6 * j)))]) C dL_law_1551 (by decide) rfl ?_
  refine l_aload_n 3 C dL_law_1553 rfl ?_
  refine l_arg (i := 6 * j) (v := 1) 1 6 C (by omega) (by decide) dL_law_1554 dL_law_1555 dL_law_1557 dL_law_1558 dL_law_1559 rfl rfl ?_
  refine l_arg (i := 6 * j) (v := 2) 1 6 C (by omega) (by decide) dL_law_1560 dL_law_1561 dL_law_1563 dL_law_1564 dL_law_1565 rfl rfl ?_
  refine l_ev (as := [.inl (xs (6 * j + 1)), .inl (xs (6 * j + 2))]) (rest := []) C hE ⟨_, rfl⟩ mw_X10_runOf wi_X10_runOf wv_X10_runOf wl_RL_213 mn_X10_runOf rfl (by decide) (by decide) dL_law_1566 rfl (by decide) (by omega) (by omega) ?_
  refine l_istore (ls2 := [(7, .int v), (6, .int kr), (0, .ref b), (1, .ref (wx.1 0)), (2, .ref (wm.1 0)), (3, .ref qo), (4, .ref qd), (5, .int (nI (6 * j)))]) C dL_law_1569 (by decide) rfl ?_
  refine l_thr (tgt := 1582) 4 1 C rfl rfl hkr dL_law_1571 dL_law_1572 dL_law_1575 dL_law_1577 (by decide) (by omega) (by omega) ?_
  refine l_finL (t2 := 1599) 5 1 0 C rfl rfl rfl (ans_f (by decide) hA9) dL_law_1582 dL_law_1584 (by decide) dL_law_1587 dL_law_1588 dL_law_1589 dL_law_1590 dL_law_1592 dL_law_1593 dL_law_1594 (by decide) dL_law_1599 (by decide) ?_
  refine l_sub [2, 3, 4, 5, 6, 7] (ls2 := [(0, .ref b), (1, .ref (wx.1 0)), (2, .ref (wm.1 0)), (3, .ref qo), (4, .ref qd), (5, .int (nI (6 * j)))]) rfl ?_
  exact kk Mx2 Mm2 _ _ hI
set_option maxRecDepth 20000 in
set_option maxHeartbeats 2000000 in
theorem case_23 {wx wm : Wp} {cL cD : ClassId} {qo qd : Nat} {p : Program} {l : Launch} {e : Env} {s : State} {m : MethodId} {below : List Frame} {meth : Method} {c : Code} {b L : Nat} {xs : Nat → Int32} {Mx Mm : Mem} {f : Nat → Int64} {g : Nat → UInt64} {k n j : Nat} (C : Lc wx wm cL cD qo qd p l s m meth c b L xs) (h : Inv j Mx Mm) (hm : j < 512) (hj : 6 * j + 6 ≤ L) (hk : k + 1 ≤ 601024) (hn : n + 6 ≤ 7293034) (kk : ∀ (Mx2 Mm2 : Mem) (f2 : Nat → Int64) (g2 : Nat → UInt64), Inv (j + 1) Mx2 Mm2 → Lj wx wm cL cD qo qd p l e s m below meth c b 2436 [(0, .ref b), (1, .ref (wx.1 0)), (2, .ref (wm.1 0)), (3, .ref qo), (4, .ref qd), (5, .int (nI (6 * j)))] [] Mx2 Mm2 f2 g2 (k + 1) (n + 6)) : Lj wx wm cL cD qo qd p l e s m below meth c b 1602 [(0, .ref b), (1, .ref (wx.1 0)), (2, .ref (wm.1 0)), (3, .ref qo), (4, .ref qd), (5, .int (nI (6 * j)))] [] Mx Mm f g k n := by
  obtain ⟨r, Mx2, v, Mm2, e1, e2, hI, hA9⟩ := s_clock h (xs (6 * j + 1))
  obtain ⟨kr, hkr⟩ : ∃ kr, Mm2 0 0 = kr := ⟨_, rfl⟩
  rw [hkr] at hA9
  have hH := hm_clock (cL := cL) (f := f) C.2.2.2.1.2.2.1 (lc_Oq C) e1 (ans_kr hA9)
  have hE := ev_X10_clock 30 (by decide) (xs (6 * j + 1)) Mm
  rw [e2] at hE
  refine l_aload_n 1 C dL_law_1602 rfl ?_
  refine l_arg (i := 6 * j) (v := 1) 0 5 C (by omega) (by decide) dL_law_1603 dL_law_1604 dL_law_1606 dL_law_1607 dL_law_1608 rfl rfl ?_
  refine l_aload_n 3 C dL_law_1609 rfl ?_
  refine l_help (rest := []) C hH wm_L_clock ws_L_clock w0_RL wl_RL_214 ⟨by decide, by decide, by decide +kernel⟩ (np := 3) rfl (by decide) dL_law_1610 rfl (by decide) (by omega) (by omega) ?_
  refine l_istore (ls2 := [(6, .int kr), (0, .ref b), (1, .ref (wx.1 0)), (2, .ref (wm.1 0)), (3, .ref qo), (4, .ref qd), (5, .int (nI (6 * j)))]) C dL_law_1613 (by decide) rfl ?_
  refine l_aload_n 3 C dL_law_1615 rfl ?_
  refine l_arg (i := 6 * j) (v := 1) 1 6 C (by omega) (by decide) dL_law_1616 dL_law_1617 dL_law_1619 dL_law_1620 dL_law_1621 rfl rfl ?_
  refine l_ev (as := [.inl (xs (6 * j + 1))]) (rest := []) C hE ⟨_, rfl⟩ mw_X10_clock wi_X10_clock wv_X10_clock wl_RL_216 mn_X10_clock rfl (by decide) (by decide) dL_law_1622 rfl (by decide) (by omega) (by omega) ?_
  refine l_istore (ls2 := [(7, .int v), (6, .int kr), (0, .ref b), (1, .ref (wx.1 0)), (2, .ref (wm.1 0)), (3, .ref qo), (4, .ref qd), (5, .int (nI (6 * j)))]) C dL_law_1625 (by decide) rfl ?_
  refine l_thr (tgt := 1638) 4 1 C rfl rfl hkr dL_law_1627 dL_law_1628 dL_law_1631 dL_law_1633 (by decide) (by omega) (by omega) ?_
  refine l_finL (t2 := 1655) 5 1 0 C rfl rfl rfl (ans_f (by decide) hA9) dL_law_1638 dL_law_1640 (by decide) dL_law_1643 dL_law_1644 dL_law_1645 dL_law_1646 dL_law_1648 dL_law_1649 dL_law_1650 (by decide) dL_law_1655 (by decide) ?_
  refine l_sub [2, 3, 4, 5, 6, 7] (ls2 := [(0, .ref b), (1, .ref (wx.1 0)), (2, .ref (wm.1 0)), (3, .ref qo), (4, .ref qd), (5, .int (nI (6 * j)))]) rfl ?_
  exact kk Mx2 Mm2 _ _ hI
set_option maxRecDepth 20000 in
set_option maxHeartbeats 2000000 in
theorem case_24 {wx wm : Wp} {cL cD : ClassId} {qo qd : Nat} {p : Program} {l : Launch} {e : Env} {s : State} {m : MethodId} {below : List Frame} {meth : Method} {c : Code} {b L : Nat} {xs : Nat → Int32} {Mx Mm : Mem} {f : Nat → Int64} {g : Nat → UInt64} {k n j : Nat} (C : Lc wx wm cL cD qo qd p l s m meth c b L xs) (h : Inv j Mx Mm) (hm : j < 512) (hj : 6 * j + 6 ≤ L) (hk : k + 1 ≤ 601024) (hn : n + 6 ≤ 7293034) (kk : ∀ (Mx2 Mm2 : Mem) (f2 : Nat → Int64) (g2 : Nat → UInt64), Inv (j + 1) Mx2 Mm2 → Lj wx wm cL cD qo qd p l e s m below meth c b 2436 [(0, .ref b), (1, .ref (wx.1 0)), (2, .ref (wm.1 0)), (3, .ref qo), (4, .ref qd), (5, .int (nI (6 * j)))] [] Mx2 Mm2 f2 g2 (k + 1) (n + 6)) : Lj wx wm cL cD qo qd p l e s m below meth c b 1658 [(0, .ref b), (1, .ref (wx.1 0)), (2, .ref (wm.1 0)), (3, .ref qo), (4, .ref qd), (5, .int (nI (6 * j)))] [] Mx Mm f g k n := by
  obtain ⟨r, Mx2, v, Mm2, e1, e2, hI, hA9⟩ := s_ready h (xs (6 * j + 1)) (xs (6 * j + 2))
  obtain ⟨kr, hkr⟩ : ∃ kr, Mm2 0 0 = kr := ⟨_, rfl⟩
  rw [hkr] at hA9
  have hH := hm_ready (cL := cL) (f := f) C.2.2.2.1.2.2.1 (lc_Oq C) e1 (ans_kr hA9)
  have hE := ev_X10_ready 30 (by decide) (xs (6 * j + 1)) (xs (6 * j + 2)) Mm
  rw [e2] at hE
  refine l_aload_n 1 C dL_law_1658 rfl ?_
  refine l_arg (i := 6 * j) (v := 1) 0 5 C (by omega) (by decide) dL_law_1659 dL_law_1660 dL_law_1662 dL_law_1663 dL_law_1664 rfl rfl ?_
  refine l_arg (i := 6 * j) (v := 2) 0 5 C (by omega) (by decide) dL_law_1665 dL_law_1666 dL_law_1668 dL_law_1669 dL_law_1670 rfl rfl ?_
  refine l_aload_n 3 C dL_law_1671 rfl ?_
  refine l_help (rest := []) C hH wm_L_ready ws_L_ready w0_RL wl_RL_217 ⟨by decide, by decide, by decide +kernel⟩ (np := 4) rfl (by decide) dL_law_1672 rfl (by decide) (by omega) (by omega) ?_
  refine l_istore (ls2 := [(6, .int kr), (0, .ref b), (1, .ref (wx.1 0)), (2, .ref (wm.1 0)), (3, .ref qo), (4, .ref qd), (5, .int (nI (6 * j)))]) C dL_law_1675 (by decide) rfl ?_
  refine l_aload_n 3 C dL_law_1677 rfl ?_
  refine l_arg (i := 6 * j) (v := 1) 1 6 C (by omega) (by decide) dL_law_1678 dL_law_1679 dL_law_1681 dL_law_1682 dL_law_1683 rfl rfl ?_
  refine l_arg (i := 6 * j) (v := 2) 1 6 C (by omega) (by decide) dL_law_1684 dL_law_1685 dL_law_1687 dL_law_1688 dL_law_1689 rfl rfl ?_
  refine l_ev (as := [.inl (xs (6 * j + 1)), .inl (xs (6 * j + 2))]) (rest := []) C hE ⟨_, rfl⟩ mw_X10_ready wi_X10_ready wv_X10_ready wl_RL_219 mn_X10_ready rfl (by decide) (by decide) dL_law_1690 rfl (by decide) (by omega) (by omega) ?_
  refine l_istore (ls2 := [(7, .int v), (6, .int kr), (0, .ref b), (1, .ref (wx.1 0)), (2, .ref (wm.1 0)), (3, .ref qo), (4, .ref qd), (5, .int (nI (6 * j)))]) C dL_law_1693 (by decide) rfl ?_
  refine l_thr (tgt := 1706) 4 1 C rfl rfl hkr dL_law_1695 dL_law_1696 dL_law_1699 dL_law_1701 (by decide) (by omega) (by omega) ?_
  refine l_finL (t2 := 1723) 5 1 0 C rfl rfl rfl (ans_f (by decide) hA9) dL_law_1706 dL_law_1708 (by decide) dL_law_1711 dL_law_1712 dL_law_1713 dL_law_1714 dL_law_1716 dL_law_1717 dL_law_1718 (by decide) dL_law_1723 (by decide) ?_
  refine l_sub [2, 3, 4, 5, 6, 7] (ls2 := [(0, .ref b), (1, .ref (wx.1 0)), (2, .ref (wm.1 0)), (3, .ref qo), (4, .ref qd), (5, .int (nI (6 * j)))]) rfl ?_
  exact kk Mx2 Mm2 _ _ hI
set_option maxRecDepth 20000 in
set_option maxHeartbeats 2000000 in
theorem case_25 {wx wm : Wp} {cL cD : ClassId} {qo qd : Nat} {p : Program} {l : Launch} {e : Env} {s : State} {m : MethodId} {below : List Frame} {meth : Method} {c : Code} {b L : Nat} {xs : Nat → Int32} {Mx Mm : Mem} {f : Nat → Int64} {g : Nat → UInt64} {k n j : Nat} (C : Lc wx wm cL cD qo qd p l s m meth c b L xs) (h : Inv j Mx Mm) (hm : j < 512) (hj : 6 * j + 6 ≤ L) (hk : k + 1 ≤ 601024) (hn : n + 6 ≤ 7293034) (kk : ∀ (Mx2 Mm2 : Mem) (f2 : Nat → Int64) (g2 : Nat → UInt64), Inv (j + 1) Mx2 Mm2 → Lj wx wm cL cD qo qd p l e s m below meth c b 2436 [(0, .ref b), (1, .ref (wx.1 0)), (2, .ref (wm.1 0)), (3, .ref qo), (4, .ref qd), (5, .int (nI (6 * j)))] [] Mx2 Mm2 f2 g2 (k + 1) (n + 6)) : Lj wx wm cL cD qo qd p l e s m below meth c b 1726 [(0, .ref b), (1, .ref (wx.1 0)), (2, .ref (wm.1 0)), (3, .ref qo), (4, .ref qd), (5, .int (nI (6 * j)))] [] Mx Mm f g k n := by
  obtain ⟨r, Mx2, v, Mm2, e1, e2, hI, hA9⟩ := s_openRow h (xs (6 * j + 1))
  obtain ⟨kr, hkr⟩ : ∃ kr, Mm2 0 0 = kr := ⟨_, rfl⟩
  rw [hkr] at hA9
  have hH := hm_openRow (cL := cL) (f := f) C.2.2.2.1.2.2.1 (lc_Oq C) e1 (ans_kr hA9)
  have hE := ev_X10_openRow 30 (by decide) (xs (6 * j + 1)) Mm
  rw [e2] at hE
  refine l_aload_n 1 C dL_law_1726 rfl ?_
  refine l_arg (i := 6 * j) (v := 1) 0 5 C (by omega) (by decide) dL_law_1727 dL_law_1728 dL_law_1730 dL_law_1731 dL_law_1732 rfl rfl ?_
  refine l_aload_n 3 C dL_law_1733 rfl ?_
  refine l_help (rest := []) C hH wm_L_openRow ws_L_openRow w0_RL wl_RL_220 ⟨by decide, by decide, by decide +kernel⟩ (np := 3) rfl (by decide) dL_law_1734 rfl (by decide) (by omega) (by omega) ?_
  refine l_istore (ls2 := [(6, .int kr), (0, .ref b), (1, .ref (wx.1 0)), (2, .ref (wm.1 0)), (3, .ref qo), (4, .ref qd), (5, .int (nI (6 * j)))]) C dL_law_1737 (by decide) rfl ?_
  refine l_aload_n 3 C dL_law_1739 rfl ?_
  refine l_arg (i := 6 * j) (v := 1) 1 6 C (by omega) (by decide) dL_law_1740 dL_law_1741 dL_law_1743 dL_law_1744 dL_law_1745 rfl rfl ?_
  refine l_ev (as := [.inl (xs (6 * j + 1))]) (rest := []) C hE ⟨_, rfl⟩ mw_X10_openRow wi_X10_openRow wv_X10_openRow wl_RL_222 mn_X10_openRow rfl (by decide) (by decide) dL_law_1746 rfl (by decide) (by omega) (by omega) ?_
  refine l_istore (ls2 := [(7, .int v), (6, .int kr), (0, .ref b), (1, .ref (wx.1 0)), (2, .ref (wm.1 0)), (3, .ref qo), (4, .ref qd), (5, .int (nI (6 * j)))]) C dL_law_1749 (by decide) rfl ?_
  refine l_thr (tgt := 1762) 4 1 C rfl rfl hkr dL_law_1751 dL_law_1752 dL_law_1755 dL_law_1757 (by decide) (by omega) (by omega) ?_
  refine l_finL (t2 := 1779) 5 1 0 C rfl rfl rfl (ans_f (by decide) hA9) dL_law_1762 dL_law_1764 (by decide) dL_law_1767 dL_law_1768 dL_law_1769 dL_law_1770 dL_law_1772 dL_law_1773 dL_law_1774 (by decide) dL_law_1779 (by decide) ?_
  refine l_sub [2, 3, 4, 5, 6, 7] (ls2 := [(0, .ref b), (1, .ref (wx.1 0)), (2, .ref (wm.1 0)), (3, .ref qo), (4, .ref qd), (5, .int (nI (6 * j)))]) rfl ?_
  exact kk Mx2 Mm2 _ _ hI
set_option maxRecDepth 20000 in
set_option maxHeartbeats 2000000 in
theorem case_26 {wx wm : Wp} {cL cD : ClassId} {qo qd : Nat} {p : Program} {l : Launch} {e : Env} {s : State} {m : MethodId} {below : List Frame} {meth : Method} {c : Code} {b L : Nat} {xs : Nat → Int32} {Mx Mm : Mem} {f : Nat → Int64} {g : Nat → UInt64} {k n j : Nat} (C : Lc wx wm cL cD qo qd p l s m meth c b L xs) (h : Inv j Mx Mm) (hm : j < 512) (hj : 6 * j + 6 ≤ L) (hk : k + 1 ≤ 601024) (hn : n + 6 ≤ 7293034) (kk : ∀ (Mx2 Mm2 : Mem) (f2 : Nat → Int64) (g2 : Nat → UInt64), Inv (j + 1) Mx2 Mm2 → Lj wx wm cL cD qo qd p l e s m below meth c b 2436 [(0, .ref b), (1, .ref (wx.1 0)), (2, .ref (wm.1 0)), (3, .ref qo), (4, .ref qd), (5, .int (nI (6 * j)))] [] Mx2 Mm2 f2 g2 (k + 1) (n + 6)) : Lj wx wm cL cD qo qd p l e s m below meth c b 1782 [(0, .ref b), (1, .ref (wx.1 0)), (2, .ref (wm.1 0)), (3, .ref qo), (4, .ref qd), (5, .int (nI (6 * j)))] [] Mx Mm f g k n := by
  obtain ⟨r, Mx2, v, Mm2, e1, e2, hI, hA9⟩ := s_stalls h (xs (6 * j + 1)) (xs (6 * j + 2))
  obtain ⟨kr, hkr⟩ : ∃ kr, Mm2 0 0 = kr := ⟨_, rfl⟩
  rw [hkr] at hA9
  have hH := hm_stalls (cL := cL) (f := f) C.2.2.2.1.2.2.1 (lc_Oq C) e1 (ans_kr hA9)
  have hE := ev_X10_stalls_ 30 (by decide) (xs (6 * j + 1)) (xs (6 * j + 2)) Mm
  rw [e2] at hE
  refine l_aload_n 1 C dL_law_1782 rfl ?_
  refine l_arg (i := 6 * j) (v := 1) 0 5 C (by omega) (by decide) dL_law_1783 dL_law_1784 dL_law_1786 dL_law_1787 dL_law_1788 rfl rfl ?_
  refine l_arg (i := 6 * j) (v := 2) 0 5 C (by omega) (by decide) dL_law_1789 dL_law_1790 dL_law_1792 dL_law_1793 dL_law_1794 rfl rfl ?_
  refine l_aload_n 3 C dL_law_1795 rfl ?_
  refine l_help (rest := []) C hH wm_L_stalls ws_L_stalls w0_RL wl_RL_223 ⟨by decide, by decide, by decide +kernel⟩ (np := 4) rfl (by decide) dL_law_1796 rfl (by decide) (by omega) (by omega) ?_
  refine l_istore (ls2 := [(6, .int kr), (0, .ref b), (1, .ref (wx.1 0)), (2, .ref (wm.1 0)), (3, .ref qo), (4, .ref qd), (5, .int (nI (6 * j)))]) C dL_law_1799 (by decide) rfl ?_
  refine l_aload_n 3 C dL_law_1801 rfl ?_
  refine l_arg (i := 6 * j) (v := 1) 1 6 C (by omega) (by decide) dL_law_1802 dL_law_1803 dL_law_1805 dL_law_1806 dL_law_1807 rfl rfl ?_
  refine l_arg (i := 6 * j) (v := 2) 1 6 C (by omega) (by decide) dL_law_1808 dL_law_1809 dL_law_1811 dL_law_1812 dL_law_1813 rfl rfl ?_
  refine l_ev (as := [.inl (xs (6 * j + 1)), .inl (xs (6 * j + 2))]) (rest := []) C hE ⟨_, rfl⟩ mw_X10_stalls_ wi_X10_stalls_ wv_X10_stalls_ wl_RL_225 mn_X10_stalls_ rfl (by decide) (by decide) dL_law_1814 rfl (by decide) (by omega) (by omega) ?_
  refine l_istore (ls2 := [(7, .int v), (6, .int kr), (0, .ref b), (1, .ref (wx.1 0)), (2, .ref (wm.1 0)), (3, .ref qo), (4, .ref qd), (5, .int (nI (6 * j)))]) C dL_law_1817 (by decide) rfl ?_
  refine l_thr (tgt := 1830) 4 1 C rfl rfl hkr dL_law_1819 dL_law_1820 dL_law_1823 dL_law_1825 (by decide) (by omega) (by omega) ?_
  refine l_finL (t2 := 1847) 5 1 0 C rfl rfl rfl (ans_f (by decide) hA9) dL_law_1830 dL_law_1832 (by decide) dL_law_1835 dL_law_1836 dL_law_1837 dL_law_1838 dL_law_1840 dL_law_1841 dL_law_1842 (by decide) dL_law_1847 (by decide) ?_
  refine l_sub [2, 3, 4, 5, 6, 7] (ls2 := [(0, .ref b), (1, .ref (wx.1 0)), (2, .ref (wm.1 0)), (3, .ref qo), (4, .ref qd), (5, .int (nI (6 * j)))]) rfl ?_
  exact kk Mx2 Mm2 _ _ hI
set_option maxRecDepth 20000 in
set_option maxHeartbeats 2000000 in
theorem case_27 {wx wm : Wp} {cL cD : ClassId} {qo qd : Nat} {p : Program} {l : Launch} {e : Env} {s : State} {m : MethodId} {below : List Frame} {meth : Method} {c : Code} {b L : Nat} {xs : Nat → Int32} {Mx Mm : Mem} {f : Nat → Int64} {g : Nat → UInt64} {k n j : Nat} (C : Lc wx wm cL cD qo qd p l s m meth c b L xs) (h : Inv j Mx Mm) (hm : j < 512) (hj : 6 * j + 6 ≤ L) (hk : k + 1 ≤ 601024) (hn : n + 6 ≤ 7293034) (kk : ∀ (Mx2 Mm2 : Mem) (f2 : Nat → Int64) (g2 : Nat → UInt64), Inv (j + 1) Mx2 Mm2 → Lj wx wm cL cD qo qd p l e s m below meth c b 2436 [(0, .ref b), (1, .ref (wx.1 0)), (2, .ref (wm.1 0)), (3, .ref qo), (4, .ref qd), (5, .int (nI (6 * j)))] [] Mx2 Mm2 f2 g2 (k + 1) (n + 6)) : Lj wx wm cL cD qo qd p l e s m below meth c b 1850 [(0, .ref b), (1, .ref (wx.1 0)), (2, .ref (wm.1 0)), (3, .ref qo), (4, .ref qd), (5, .int (nI (6 * j)))] [] Mx Mm f g k n := by
  obtain ⟨v, Mx2, Mm2, e1, e2, hI⟩ := s_finish h
  have hX := ev_X9_finish 30 (by decide) Mx
  rw [e1] at hX
  have hE := ev_X10_finish 30 (by decide) Mm
  rw [e2] at hE
  refine l_aload_n 1 C dL_law_1850 rfl ?_
  refine l_evx (as := []) (rest := []) C hX ⟨_, rfl⟩ mw_X9_finish wi_X9_finish wv_X9_finish wl_RL_226 mn_X9_finish rfl (by decide) (by decide) dL_law_1851 rfl (by decide) (by omega) (by omega) ?_
  refine l_aload_n 2 C dL_law_1854 rfl ?_
  refine l_ev (as := []) (rest := [.int v]) C hE ⟨_, rfl⟩ mw_X10_finish wi_X10_finish wv_X10_finish wl_RL_229 mn_X10_finish rfl (by decide) (by decide) dL_law_1855 rfl (by exact Nat.le_of_ble_eq_true rfl) (by omega) (by omega) ?_
  refine l_icmpeq (tgt := 2436) C dL_law_1858 (by decide) ?_
  exact l_wide (by omega) (by omega) (kk Mx2 Mm2 _ _ hI)
set_option maxRecDepth 20000 in
set_option maxHeartbeats 2000000 in
theorem case_29 {wx wm : Wp} {cL cD : ClassId} {qo qd : Nat} {p : Program} {l : Launch} {e : Env} {s : State} {m : MethodId} {below : List Frame} {meth : Method} {c : Code} {b L : Nat} {xs : Nat → Int32} {Mx Mm : Mem} {f : Nat → Int64} {g : Nat → UInt64} {k n j : Nat} (C : Lc wx wm cL cD qo qd p l s m meth c b L xs) (h : Inv j Mx Mm) (hm : j < 512) (hj : 6 * j + 6 ≤ L) (hk : k + 1 ≤ 601024) (hn : n + 6 ≤ 7293034) (kk : ∀ (Mx2 Mm2 : Mem) (f2 : Nat → Int64) (g2 : Nat → UInt64), Inv (j + 1) Mx2 Mm2 → Lj wx wm cL cD qo qd p l e s m below meth c b 2436 [(0, .ref b), (1, .ref (wx.1 0)), (2, .ref (wm.1 0)), (3, .ref qo), (4, .ref qd), (5, .int (nI (6 * j)))] [] Mx2 Mm2 f2 g2 (k + 1) (n + 6)) : Lj wx wm cL cD qo qd p l e s m below meth c b 1940 [(0, .ref b), (1, .ref (wx.1 0)), (2, .ref (wm.1 0)), (3, .ref qo), (4, .ref qd), (5, .int (nI (6 * j)))] [] Mx Mm f g k n := by
  obtain ⟨r, Mx2, v, Mm2, e1, e2, hI, hA9⟩ := s_wouldFinish h hm (xs (6 * j + 1))
  obtain ⟨kr, hkr⟩ : ∃ kr, Mm2 0 0 = kr := ⟨_, rfl⟩
  rw [hkr] at hA9
  have hH := hm_wouldFinish (cL := cL) (f := f) C.2.2.2.1.2.2.1 (lc_Oq C) e1 (ans_kr hA9)
  have hE := ev_X10_wouldFinish 30 (by decide) (xs (6 * j + 1)) Mm
  rw [e2] at hE
  refine l_aload_n 1 C dL_law_1940 rfl ?_
  refine l_arg (i := 6 * j) (v := 1) 0 5 C (by omega) (by decide) dL_law_1941 dL_law_1942 dL_law_1944 dL_law_1945 dL_law_1946 rfl rfl ?_
  refine l_aload_n 3 C dL_law_1947 rfl ?_
  refine l_help (rest := []) C hH wm_L_wouldFinish ws_L_wouldFinish w0_RL wl_RL_234 ⟨by decide, by decide, by decide +kernel⟩ (np := 3) rfl (by decide) dL_law_1948 rfl (by decide) (by omega) (by omega) ?_
  refine l_istore (ls2 := [(6, .int kr), (0, .ref b), (1, .ref (wx.1 0)), (2, .ref (wm.1 0)), (3, .ref qo), (4, .ref qd), (5, .int (nI (6 * j)))]) C dL_law_1951 (by decide) rfl ?_
  refine l_aload_n 3 C dL_law_1953 rfl ?_
  refine l_arg (i := 6 * j) (v := 1) 1 6 C (by omega) (by decide) dL_law_1954 dL_law_1955 dL_law_1957 dL_law_1958 dL_law_1959 rfl rfl ?_
  refine l_ev (as := [.inl (xs (6 * j + 1))]) (rest := []) C hE ⟨_, rfl⟩ mw_X10_wouldFinish wi_X10_wouldFinish wv_X10_wouldFinish wl_RL_236 mn_X10_wouldFinish rfl (by decide) (by decide) dL_law_1960 rfl (by decide) (by omega) (by omega) ?_
  refine l_istore (ls2 := [(7, .int v), (6, .int kr), (0, .ref b), (1, .ref (wx.1 0)), (2, .ref (wm.1 0)), (3, .ref qo), (4, .ref qd), (5, .int (nI (6 * j)))]) C dL_law_1963 (by decide) rfl ?_
  refine l_thr (tgt := 1976) 4 1 C rfl rfl hkr dL_law_1965 dL_law_1966 dL_law_1969 dL_law_1971 (by decide) (by omega) (by omega) ?_
  refine l_finL (t2 := 1993) 5 1 0 C rfl rfl rfl (ans_f (by decide) hA9) dL_law_1976 dL_law_1978 (by decide) dL_law_1981 dL_law_1982 dL_law_1983 dL_law_1984 dL_law_1986 dL_law_1987 dL_law_1988 (by decide) dL_law_1993 (by decide) ?_
  refine l_sub [2, 3, 4, 5, 6, 7] (ls2 := [(0, .ref b), (1, .ref (wx.1 0)), (2, .ref (wm.1 0)), (3, .ref qo), (4, .ref qd), (5, .int (nI (6 * j)))]) rfl ?_
  exact kk Mx2 Mm2 _ _ hI
set_option maxRecDepth 20000 in
set_option maxHeartbeats 2000000 in
theorem case_30 {wx wm : Wp} {cL cD : ClassId} {qo qd : Nat} {p : Program} {l : Launch} {e : Env} {s : State} {m : MethodId} {below : List Frame} {meth : Method} {c : Code} {b L : Nat} {xs : Nat → Int32} {Mx Mm : Mem} {f : Nat → Int64} {g : Nat → UInt64} {k n j : Nat} (C : Lc wx wm cL cD qo qd p l s m meth c b L xs) (h : Inv j Mx Mm) (hm : j < 512) (hj : 6 * j + 6 ≤ L) (hk : k + 1 ≤ 601024) (hn : n + 6 ≤ 7293034) (kk : ∀ (Mx2 Mm2 : Mem) (f2 : Nat → Int64) (g2 : Nat → UInt64), Inv (j + 1) Mx2 Mm2 → Lj wx wm cL cD qo qd p l e s m below meth c b 2436 [(0, .ref b), (1, .ref (wx.1 0)), (2, .ref (wm.1 0)), (3, .ref qo), (4, .ref qd), (5, .int (nI (6 * j)))] [] Mx2 Mm2 f2 g2 (k + 1) (n + 6)) : Lj wx wm cL cD qo qd p l e s m below meth c b 1996 [(0, .ref b), (1, .ref (wx.1 0)), (2, .ref (wm.1 0)), (3, .ref qo), (4, .ref qd), (5, .int (nI (6 * j)))] [] Mx Mm f g k n := by
  obtain ⟨r, Mx2, v, Mm2, e1, e2, hI, hA9⟩ := s_wouldBe h hm (xs (6 * j + 1)) (xs (6 * j + 2)) (xs (6 * j + 3))
  obtain ⟨kr, hkr⟩ : ∃ kr, Mm2 0 0 = kr := ⟨_, rfl⟩
  rw [hkr] at hA9
  have hH := hm_wouldBe (cL := cL) (f := f) C.2.2.2.1.2.2.1 (lc_Oq C) e1 (ans_kr hA9)
  have hE := ev_X10_wouldBe 30 (by decide) (xs (6 * j + 1)) (xs (6 * j + 2)) (xs (6 * j + 3)) Mm
  rw [e2] at hE
  refine l_aload_n 1 C dL_law_1996 rfl ?_
  refine l_arg (i := 6 * j) (v := 1) 0 5 C (by omega) (by decide) dL_law_1997 dL_law_1998 dL_law_2000 dL_law_2001 dL_law_2002 rfl rfl ?_
  refine l_arg (i := 6 * j) (v := 2) 0 5 C (by omega) (by decide) dL_law_2003 dL_law_2004 dL_law_2006 dL_law_2007 dL_law_2008 rfl rfl ?_
  refine l_arg (i := 6 * j) (v := 3) 0 5 C (by omega) (by decide) dL_law_2009 dL_law_2010 dL_law_2012 dL_law_2013 dL_law_2014 rfl rfl ?_
  refine l_aload_n 3 C dL_law_2015 rfl ?_
  refine l_help (rest := []) C hH wm_L_wouldBe ws_L_wouldBe w0_RL wl_RL_237 ⟨by decide, by decide, by decide +kernel⟩ (np := 5) rfl (by decide) dL_law_2016 rfl (by decide) (by omega) (by omega) ?_
  refine l_istore (ls2 := [(6, .int kr), (0, .ref b), (1, .ref (wx.1 0)), (2, .ref (wm.1 0)), (3, .ref qo), (4, .ref qd), (5, .int (nI (6 * j)))]) C dL_law_2019 (by decide) rfl ?_
  refine l_aload_n 3 C dL_law_2021 rfl ?_
  refine l_arg (i := 6 * j) (v := 1) 1 6 C (by omega) (by decide) dL_law_2022 dL_law_2023 dL_law_2025 dL_law_2026 dL_law_2027 rfl rfl ?_
  refine l_arg (i := 6 * j) (v := 2) 1 6 C (by omega) (by decide) dL_law_2028 dL_law_2029 dL_law_2031 dL_law_2032 dL_law_2033 rfl rfl ?_
  refine l_arg (i := 6 * j) (v := 3) 1 6 C (by omega) (by decide) dL_law_2034 dL_law_2035 dL_law_2037 dL_law_2038 dL_law_2039 rfl rfl ?_
  refine l_ev (as := [.inl (xs (6 * j + 1)), .inl (xs (6 * j + 2)), .inl (xs (6 * j + 3))]) (rest := []) C hE ⟨_, rfl⟩ mw_X10_wouldBe wi_X10_wouldBe wv_X10_wouldBe wl_RL_239 mn_X10_wouldBe rfl (by decide) (by decide) dL_law_2040 rfl (by decide) (by omega) (by omega) ?_
  refine l_istore (ls2 := [(7, .int v), (6, .int kr), (0, .ref b), (1, .ref (wx.1 0)), (2, .ref (wm.1 0)), (3, .ref qo), (4, .ref qd), (5, .int (nI (6 * j)))]) C dL_law_2043 (by decide) rfl ?_
  refine l_thr (tgt := 2056) 4 1 C rfl rfl hkr dL_law_2045 dL_law_2046 dL_law_2049 dL_law_2051 (by decide) (by omega) (by omega) ?_
  refine l_finL (t2 := 2073) 5 1 0 C rfl rfl rfl (ans_f (by decide) hA9) dL_law_2056 dL_law_2058 (by decide) dL_law_2061 dL_law_2062 dL_law_2063 dL_law_2064 dL_law_2066 dL_law_2067 dL_law_2068 (by decide) dL_law_2073 (by decide) ?_
  refine l_sub [2, 3, 4, 5, 6, 7] (ls2 := [(0, .ref b), (1, .ref (wx.1 0)), (2, .ref (wm.1 0)), (3, .ref qo), (4, .ref qd), (5, .int (nI (6 * j)))]) rfl ?_
  exact kk Mx2 Mm2 _ _ hI
set_option maxRecDepth 20000 in
set_option maxHeartbeats 2000000 in
theorem case_31 {wx wm : Wp} {cL cD : ClassId} {qo qd : Nat} {p : Program} {l : Launch} {e : Env} {s : State} {m : MethodId} {below : List Frame} {meth : Method} {c : Code} {b L : Nat} {xs : Nat → Int32} {Mx Mm : Mem} {f : Nat → Int64} {g : Nat → UInt64} {k n j : Nat} (C : Lc wx wm cL cD qo qd p l s m meth c b L xs) (h : Inv j Mx Mm) (hm : j < 512) (hj : 6 * j + 6 ≤ L) (hk : k + 1 ≤ 601024) (hn : n + 6 ≤ 7293034) (kk : ∀ (Mx2 Mm2 : Mem) (f2 : Nat → Int64) (g2 : Nat → UInt64), Inv (j + 1) Mx2 Mm2 → Lj wx wm cL cD qo qd p l e s m below meth c b 2436 [(0, .ref b), (1, .ref (wx.1 0)), (2, .ref (wm.1 0)), (3, .ref qo), (4, .ref qd), (5, .int (nI (6 * j)))] [] Mx2 Mm2 f2 g2 (k + 1) (n + 6)) : Lj wx wm cL cD qo qd p l e s m below meth c b 2076 [(0, .ref b), (1, .ref (wx.1 0)), (2, .ref (wm.1 0)), (3, .ref qo), (4, .ref qd), (5, .int (nI (6 * j)))] [] Mx Mm f g k n := by
  obtain ⟨r, Mx2, v, Mm2, e1, e2, hI, hA9⟩ := s_isConflict h (xs (6 * j + 1)) (xs (6 * j + 2))
  obtain ⟨kr, hkr⟩ : ∃ kr, Mm2 0 0 = kr := ⟨_, rfl⟩
  rw [hkr] at hA9
  have hH := hm_isConflict (cL := cL) (f := f) C.2.2.2.1.2.2.1 (lc_Oq C) e1 (ans_kr hA9)
  have hE := ev_X10_isConflict 30 (by decide) (xs (6 * j + 1)) (xs (6 * j + 2)) Mm
  rw [e2] at hE
  refine l_aload_n 1 C dL_law_2076 rfl ?_
  refine l_arg (i := 6 * j) (v := 1) 0 5 C (by omega) (by decide) dL_law_2077 dL_law_2078 dL_law_2080 dL_law_2081 dL_law_2082 rfl rfl ?_
  refine l_arg (i := 6 * j) (v := 2) 0 5 C (by omega) (by decide) dL_law_2083 dL_law_2084 dL_law_2086 dL_law_2087 dL_law_2088 rfl rfl ?_
  refine l_aload_n 3 C dL_law_2089 rfl ?_
  refine l_help (rest := []) C hH wm_L_isConflict ws_L_isConflict w0_RL wl_RL_240 ⟨by decide, by decide, by decide +kernel⟩ (np := 4) rfl (by decide) dL_law_2090 rfl (by decide) (by omega) (by omega) ?_
  refine l_istore (ls2 := [(6, .int kr), (0, .ref b), (1, .ref (wx.1 0)), (2, .ref (wm.1 0)), (3, .ref qo), (4, .ref qd), (5, .int (nI (6 * j)))]) C dL_law_2093 (by decide) rfl ?_
  refine l_aload_n 3 C dL_law_2095 rfl ?_
  refine l_arg (i := 6 * j) (v := 1) 1 6 C (by omega) (by decide) dL_law_2096 dL_law_2097 dL_law_2099 dL_law_2100 dL_law_2101 rfl rfl ?_
  refine l_arg (i := 6 * j) (v := 2) 1 6 C (by omega) (by decide) dL_law_2102 dL_law_2103 dL_law_2105 dL_law_2106 dL_law_2107 rfl rfl ?_
  refine l_ev (as := [.inl (xs (6 * j + 1)), .inl (xs (6 * j + 2))]) (rest := []) C hE ⟨_, rfl⟩ mw_X10_isConflict wi_X10_isConflict wv_X10_isConflict wl_RL_242 mn_X10_isConflict rfl (by decide) (by decide) dL_law_2108 rfl (by decide) (by omega) (by omega) ?_
  refine l_istore (ls2 := [(7, .int v), (6, .int kr), (0, .ref b), (1, .ref (wx.1 0)), (2, .ref (wm.1 0)), (3, .ref qo), (4, .ref qd), (5, .int (nI (6 * j)))]) C dL_law_2111 (by decide) rfl ?_
  refine l_thr (tgt := 2124) 4 1 C rfl rfl hkr dL_law_2113 dL_law_2114 dL_law_2117 dL_law_2119 (by decide) (by omega) (by omega) ?_
  refine l_finZ (t2 := 2148) (t0 := 2141) (t1 := 2142) 5 1 0 C rfl rfl rfl (ans_f (by decide) hA9) dL_law_2124 dL_law_2126 (by decide) dL_law_2129 dL_law_2130 dL_law_2131 dL_law_2132 dL_law_2134 (by decide) dL_law_2137 dL_law_2138 (by decide) dL_law_2141 rfl dL_law_2142 dL_law_2143 (by decide) dL_law_2148 (by decide) ?_
  refine l_sub [2, 3, 4, 5, 6, 7] (ls2 := [(0, .ref b), (1, .ref (wx.1 0)), (2, .ref (wm.1 0)), (3, .ref qo), (4, .ref qd), (5, .int (nI (6 * j)))]) rfl ?_
  exact kk Mx2 Mm2 _ _ hI
set_option maxRecDepth 20000 in
set_option maxHeartbeats 2000000 in
theorem case_32 {wx wm : Wp} {cL cD : ClassId} {qo qd : Nat} {p : Program} {l : Launch} {e : Env} {s : State} {m : MethodId} {below : List Frame} {meth : Method} {c : Code} {b L : Nat} {xs : Nat → Int32} {Mx Mm : Mem} {f : Nat → Int64} {g : Nat → UInt64} {k n j : Nat} (C : Lc wx wm cL cD qo qd p l s m meth c b L xs) (h : Inv j Mx Mm) (hm : j < 512) (hj : 6 * j + 6 ≤ L) (hk : k + 1 ≤ 601024) (hn : n + 6 ≤ 7293034) (kk : ∀ (Mx2 Mm2 : Mem) (f2 : Nat → Int64) (g2 : Nat → UInt64), Inv (j + 1) Mx2 Mm2 → Lj wx wm cL cD qo qd p l e s m below meth c b 2436 [(0, .ref b), (1, .ref (wx.1 0)), (2, .ref (wm.1 0)), (3, .ref qo), (4, .ref qd), (5, .int (nI (6 * j)))] [] Mx2 Mm2 f2 g2 (k + 1) (n + 6)) : Lj wx wm cL cD qo qd p l e s m below meth c b 2151 [(0, .ref b), (1, .ref (wx.1 0)), (2, .ref (wm.1 0)), (3, .ref qo), (4, .ref qd), (5, .int (nI (6 * j)))] [] Mx Mm f g k n := by
  obtain ⟨v, Mx2, Mm2, e1, e2, hI⟩ := s_longestChain h
  have hX := ev_X9_longestChain 30 (by decide) Mx
  rw [e1] at hX
  have hE := ev_X10_longestChain 30 (by decide) Mm
  rw [e2] at hE
  refine l_aload_n 1 C dL_law_2151 rfl ?_
  refine l_evx (as := []) (rest := []) C hX ⟨_, rfl⟩ mw_X9_longestChain wi_X9_longestChain wv_X9_longestChain wl_RL_243 mn_X9_longestChain rfl (by decide) (by decide) dL_law_2152 rfl (by decide) (by omega) (by omega) ?_
  refine l_aload_n 2 C dL_law_2155 rfl ?_
  refine l_ev (as := []) (rest := [.int v]) C hE ⟨_, rfl⟩ mw_X10_longestChain wi_X10_longestChain wv_X10_longestChain wl_RL_246 mn_X10_longestChain rfl (by decide) (by decide) dL_law_2156 rfl (by exact Nat.le_of_ble_eq_true rfl) (by omega) (by omega) ?_
  refine l_icmpeq (tgt := 2436) C dL_law_2159 (by decide) ?_
  exact l_wide (by omega) (by omega) (kk Mx2 Mm2 _ _ hI)
set_option maxRecDepth 20000 in
set_option maxHeartbeats 2000000 in
theorem case_33 {wx wm : Wp} {cL cD : ClassId} {qo qd : Nat} {p : Program} {l : Launch} {e : Env} {s : State} {m : MethodId} {below : List Frame} {meth : Method} {c : Code} {b L : Nat} {xs : Nat → Int32} {Mx Mm : Mem} {f : Nat → Int64} {g : Nat → UInt64} {k n j : Nat} (C : Lc wx wm cL cD qo qd p l s m meth c b L xs) (h : Inv j Mx Mm) (hm : j < 512) (hj : 6 * j + 6 ≤ L) (hk : k + 1 ≤ 601024) (hn : n + 6 ≤ 7293034) (kk : ∀ (Mx2 Mm2 : Mem) (f2 : Nat → Int64) (g2 : Nat → UInt64), Inv (j + 1) Mx2 Mm2 → Lj wx wm cL cD qo qd p l e s m below meth c b 2436 [(0, .ref b), (1, .ref (wx.1 0)), (2, .ref (wm.1 0)), (3, .ref qo), (4, .ref qd), (5, .int (nI (6 * j)))] [] Mx2 Mm2 f2 g2 (k + 1) (n + 6)) : Lj wx wm cL cD qo qd p l e s m below meth c b 2164 [(0, .ref b), (1, .ref (wx.1 0)), (2, .ref (wm.1 0)), (3, .ref qo), (4, .ref qd), (5, .int (nI (6 * j)))] [] Mx Mm f g k n := by
  obtain ⟨r, Mx2, v, Mm2, e1, e2, hI, hA9⟩ := s_bestFinish h hm
  obtain ⟨kr, hkr⟩ : ∃ kr, Mm2 0 0 = kr := ⟨_, rfl⟩
  rw [hkr] at hA9
  have hH := hm_bestFinish (cL := cL) (f := f) C.2.2.2.1.2.2.1 (lc_Oq C) e1 (ans_kr hA9)
  have hE := ev_X10_bestFinish 30 (by decide) Mm
  rw [e2] at hE
  refine l_aload_n 1 C dL_law_2164 rfl ?_
  refine l_aload_n 3 C dL_law_2165 rfl ?_
  refine l_help (rest := []) C hH wm_L_bestFinish ws_L_bestFinish w0_RL wl_RL_247 ⟨by decide, by decide, by decide +kernel⟩ (np := 2) rfl (by decide) dL_law_2166 rfl (by decide) (by omega) (by omega) ?_
  refine l_istore (ls2 := [(6, .int kr), (0, .ref b), (1, .ref (wx.1 0)), (2, .ref (wm.1 0)), (3, .ref qo), (4, .ref qd), (5, .int (nI (6 * j)))]) C dL_law_2169 (by decide) rfl ?_
  refine l_aload_n 3 C dL_law_2171 rfl ?_
  refine l_ev (as := []) (rest := []) C hE ⟨_, rfl⟩ mw_X10_bestFinish wi_X10_bestFinish wv_X10_bestFinish wl_RL_249 mn_X10_bestFinish rfl (by decide) (by decide) dL_law_2172 rfl (by decide) (by omega) (by omega) ?_
  refine l_istore (ls2 := [(7, .int v), (6, .int kr), (0, .ref b), (1, .ref (wx.1 0)), (2, .ref (wm.1 0)), (3, .ref qo), (4, .ref qd), (5, .int (nI (6 * j)))]) C dL_law_2175 (by decide) rfl ?_
  refine l_thr (tgt := 2188) 4 1 C rfl rfl hkr dL_law_2177 dL_law_2178 dL_law_2181 dL_law_2183 (by decide) (by omega) (by omega) ?_
  refine l_finL (t2 := 2205) 5 1 0 C rfl rfl rfl (ans_f (by decide) hA9) dL_law_2188 dL_law_2190 (by decide) dL_law_2193 dL_law_2194 dL_law_2195 dL_law_2196 dL_law_2198 dL_law_2199 dL_law_2200 (by decide) dL_law_2205 (by decide) ?_
  refine l_sub [2, 3, 4, 5, 6, 7] (ls2 := [(0, .ref b), (1, .ref (wx.1 0)), (2, .ref (wm.1 0)), (3, .ref qo), (4, .ref qd), (5, .int (nI (6 * j)))]) rfl ?_
  exact kk Mx2 Mm2 _ _ hI
set_option maxRecDepth 20000 in
set_option maxHeartbeats 2000000 in
theorem case_34 {wx wm : Wp} {cL cD : ClassId} {qo qd : Nat} {p : Program} {l : Launch} {e : Env} {s : State} {m : MethodId} {below : List Frame} {meth : Method} {c : Code} {b L : Nat} {xs : Nat → Int32} {Mx Mm : Mem} {f : Nat → Int64} {g : Nat → UInt64} {k n j : Nat} (C : Lc wx wm cL cD qo qd p l s m meth c b L xs) (h : Inv j Mx Mm) (hm : j < 512) (hj : 6 * j + 6 ≤ L) (hk : k + 1 ≤ 601024) (hn : n + 6 ≤ 7293034) (kk : ∀ (Mx2 Mm2 : Mem) (f2 : Nat → Int64) (g2 : Nat → UInt64), Inv (j + 1) Mx2 Mm2 → Lj wx wm cL cD qo qd p l e s m below meth c b 2436 [(0, .ref b), (1, .ref (wx.1 0)), (2, .ref (wm.1 0)), (3, .ref qo), (4, .ref qd), (5, .int (nI (6 * j)))] [] Mx2 Mm2 f2 g2 (k + 1) (n + 6)) : Lj wx wm cL cD qo qd p l e s m below meth c b 2208 [(0, .ref b), (1, .ref (wx.1 0)), (2, .ref (wm.1 0)), (3, .ref qo), (4, .ref qd), (5, .int (nI (6 * j)))] [] Mx Mm f g k n := by
  obtain ⟨r, Mx2, v, Mm2, e1, e2, hI, hA9⟩ := s_bestOrder h hm (xs (6 * j + 1))
  obtain ⟨kr, hkr⟩ : ∃ kr, Mm2 0 0 = kr := ⟨_, rfl⟩
  rw [hkr] at hA9
  have hH := hm_bestOrder (cL := cL) (f := f) C.2.2.2.1.2.2.1 (lc_Oq C) e1 (ans_kr hA9)
  have hE := ev_X10_bestOrder 30 (by decide) (xs (6 * j + 1)) Mm
  rw [e2] at hE
  refine l_aload_n 1 C dL_law_2208 rfl ?_
  refine l_arg (i := 6 * j) (v := 1) 0 5 C (by omega) (by decide) dL_law_2209 dL_law_2210 dL_law_2212 dL_law_2213 dL_law_2214 rfl rfl ?_
  refine l_aload_n 3 C dL_law_2215 rfl ?_
  refine l_help (rest := []) C hH wm_L_bestOrder ws_L_bestOrder w0_RL wl_RL_250 ⟨by decide, by decide, by decide +kernel⟩ (np := 3) rfl (by decide) dL_law_2216 rfl (by decide) (by omega) (by omega) ?_
  refine l_istore (ls2 := [(6, .int kr), (0, .ref b), (1, .ref (wx.1 0)), (2, .ref (wm.1 0)), (3, .ref qo), (4, .ref qd), (5, .int (nI (6 * j)))]) C dL_law_2219 (by decide) rfl ?_
  refine l_aload_n 3 C dL_law_2221 rfl ?_
  refine l_arg (i := 6 * j) (v := 1) 1 6 C (by omega) (by decide) dL_law_2222 dL_law_2223 dL_law_2225 dL_law_2226 dL_law_2227 rfl rfl ?_
  refine l_ev (as := [.inl (xs (6 * j + 1))]) (rest := []) C hE ⟨_, rfl⟩ mw_X10_bestOrder wi_X10_bestOrder wv_X10_bestOrder wl_RL_252 mn_X10_bestOrder rfl (by decide) (by decide) dL_law_2228 rfl (by decide) (by omega) (by omega) ?_
  refine l_istore (ls2 := [(7, .int v), (6, .int kr), (0, .ref b), (1, .ref (wx.1 0)), (2, .ref (wm.1 0)), (3, .ref qo), (4, .ref qd), (5, .int (nI (6 * j)))]) C dL_law_2231 (by decide) rfl ?_
  refine l_thr (tgt := 2244) 4 1 C rfl rfl hkr dL_law_2233 dL_law_2234 dL_law_2237 dL_law_2239 (by decide) (by omega) (by omega) ?_
  refine l_finL (t2 := 2261) 5 1 0 C rfl rfl rfl (ans_f (by decide) hA9) dL_law_2244 dL_law_2246 (by decide) dL_law_2249 dL_law_2250 dL_law_2251 dL_law_2252 dL_law_2254 dL_law_2255 dL_law_2256 (by decide) dL_law_2261 (by decide) ?_
  refine l_sub [2, 3, 4, 5, 6, 7] (ls2 := [(0, .ref b), (1, .ref (wx.1 0)), (2, .ref (wm.1 0)), (3, .ref qo), (4, .ref qd), (5, .int (nI (6 * j)))]) rfl ?_
  exact kk Mx2 Mm2 _ _ hI
set_option maxRecDepth 20000 in
set_option maxHeartbeats 2000000 in
theorem case_35 {wx wm : Wp} {cL cD : ClassId} {qo qd : Nat} {p : Program} {l : Launch} {e : Env} {s : State} {m : MethodId} {below : List Frame} {meth : Method} {c : Code} {b L : Nat} {xs : Nat → Int32} {Mx Mm : Mem} {f : Nat → Int64} {g : Nat → UInt64} {k n j : Nat} (C : Lc wx wm cL cD qo qd p l s m meth c b L xs) (h : Inv j Mx Mm) (hm : j < 512) (hj : 6 * j + 6 ≤ L) (hk : k + 1 ≤ 601024) (hn : n + 6 ≤ 7293034) (kk : ∀ (Mx2 Mm2 : Mem) (f2 : Nat → Int64) (g2 : Nat → UInt64), Inv (j + 1) Mx2 Mm2 → Lj wx wm cL cD qo qd p l e s m below meth c b 2436 [(0, .ref b), (1, .ref (wx.1 0)), (2, .ref (wm.1 0)), (3, .ref qo), (4, .ref qd), (5, .int (nI (6 * j)))] [] Mx2 Mm2 f2 g2 (k + 1) (n + 6)) : Lj wx wm cL cD qo qd p l e s m below meth c b 2264 [(0, .ref b), (1, .ref (wx.1 0)), (2, .ref (wm.1 0)), (3, .ref qo), (4, .ref qd), (5, .int (nI (6 * j)))] [] Mx Mm f g k n := by
  obtain ⟨r, Mx2, v, Mm2, e1, e2, hI, hA9⟩ := s_reorder h hm
  obtain ⟨kr, hkr⟩ : ∃ kr, Mm2 0 0 = kr := ⟨_, rfl⟩
  rw [hkr] at hA9
  have hH := hm_reorder (cL := cL) (f := f) C.2.2.2.1.2.2.1 (lc_Oq C) e1 (ans_kr hA9)
  have hE := ev_X10_reorder 30 (by decide) Mm
  rw [e2] at hE
  refine l_aload_n 1 C dL_law_2264 rfl ?_
  refine l_aload_n 3 C dL_law_2265 rfl ?_
  refine l_help (rest := []) C hH wm_L_reorder ws_L_reorder w0_RL wl_RL_253 ⟨by decide, by decide, by decide +kernel⟩ (np := 2) rfl (by decide) dL_law_2266 rfl (by decide) (by omega) (by omega) ?_
  refine l_istore (ls2 := [(6, .int kr), (0, .ref b), (1, .ref (wx.1 0)), (2, .ref (wm.1 0)), (3, .ref qo), (4, .ref qd), (5, .int (nI (6 * j)))]) C dL_law_2269 (by decide) rfl ?_
  refine l_aload_n 3 C dL_law_2271 rfl ?_
  refine l_ev (as := []) (rest := []) C hE ⟨_, rfl⟩ mw_X10_reorder wi_X10_reorder wv_X10_reorder wl_RL_255 mn_X10_reorder rfl (by decide) (by decide) dL_law_2272 rfl (by decide) (by omega) (by omega) ?_
  refine l_istore (ls2 := [(7, .int v), (6, .int kr), (0, .ref b), (1, .ref (wx.1 0)), (2, .ref (wm.1 0)), (3, .ref qo), (4, .ref qd), (5, .int (nI (6 * j)))]) C dL_law_2275 (by decide) rfl ?_
  refine l_thr (tgt := 2288) 4 1 C rfl rfl hkr dL_law_2277 dL_law_2278 dL_law_2281 dL_law_2283 (by decide) (by omega) (by omega) ?_
  refine l_finL (t2 := 2305) 5 1 0 C rfl rfl rfl (ans_f (by decide) hA9) dL_law_2288 dL_law_2290 (by decide) dL_law_2293 dL_law_2294 dL_law_2295 dL_law_2296 dL_law_2298 dL_law_2299 dL_law_2300 (by decide) dL_law_2305 (by decide) ?_
  refine l_sub [2, 3, 4, 5, 6, 7] (ls2 := [(0, .ref b), (1, .ref (wx.1 0)), (2, .ref (wm.1 0)), (3, .ref qo), (4, .ref qd), (5, .int (nI (6 * j)))]) rfl ?_
  exact kk Mx2 Mm2 _ _ hI
set_option maxRecDepth 20000 in
set_option maxHeartbeats 2000000 in
theorem case_36 {wx wm : Wp} {cL cD : ClassId} {qo qd : Nat} {p : Program} {l : Launch} {e : Env} {s : State} {m : MethodId} {below : List Frame} {meth : Method} {c : Code} {b L : Nat} {xs : Nat → Int32} {Mx Mm : Mem} {f : Nat → Int64} {g : Nat → UInt64} {k n j : Nat} (C : Lc wx wm cL cD qo qd p l s m meth c b L xs) (h : Inv j Mx Mm) (hm : j < 512) (hj : 6 * j + 6 ≤ L) (hk : k + 1 ≤ 601024) (hn : n + 6 ≤ 7293034) (kk : ∀ (Mx2 Mm2 : Mem) (f2 : Nat → Int64) (g2 : Nat → UInt64), Inv (j + 1) Mx2 Mm2 → Lj wx wm cL cD qo qd p l e s m below meth c b 2436 [(0, .ref b), (1, .ref (wx.1 0)), (2, .ref (wm.1 0)), (3, .ref qo), (4, .ref qd), (5, .int (nI (6 * j)))] [] Mx2 Mm2 f2 g2 (k + 1) (n + 6)) : Lj wx wm cL cD qo qd p l e s m below meth c b 2308 [(0, .ref b), (1, .ref (wx.1 0)), (2, .ref (wm.1 0)), (3, .ref qo), (4, .ref qd), (5, .int (nI (6 * j)))] [] Mx Mm f g k n := by
  obtain ⟨r, Mx2, v, Mm2, e1, e2, hI, hA9⟩ := s_budgetFor h hm (xs (6 * j + 1))
  obtain ⟨kr, hkr⟩ : ∃ kr, Mm2 0 0 = kr := ⟨_, rfl⟩
  rw [hkr] at hA9
  have hH := hm_budgetFor (cL := cL) (f := f) C.2.2.2.1.2.2.1 (lc_Oq C) e1 (ans_kr hA9)
  have hE := ev_X10_budgetFor 30 (by decide) (xs (6 * j + 1)) Mm
  rw [e2] at hE
  refine l_aload_n 1 C dL_law_2308 rfl ?_
  refine l_arg (i := 6 * j) (v := 1) 0 5 C (by omega) (by decide) dL_law_2309 dL_law_2310 dL_law_2312 dL_law_2313 dL_law_2314 rfl rfl ?_
  refine l_aload_n 3 C dL_law_2315 rfl ?_
  refine l_help (rest := []) C hH wm_L_budgetFor ws_L_budgetFor w0_RL wl_RL_256 ⟨by decide, by decide, by decide +kernel⟩ (np := 3) rfl (by decide) dL_law_2316 rfl (by decide) (by omega) (by omega) ?_
  refine l_istore (ls2 := [(6, .int kr), (0, .ref b), (1, .ref (wx.1 0)), (2, .ref (wm.1 0)), (3, .ref qo), (4, .ref qd), (5, .int (nI (6 * j)))]) C dL_law_2319 (by decide) rfl ?_
  refine l_aload_n 3 C dL_law_2321 rfl ?_
  refine l_arg (i := 6 * j) (v := 1) 1 6 C (by omega) (by decide) dL_law_2322 dL_law_2323 dL_law_2325 dL_law_2326 dL_law_2327 rfl rfl ?_
  refine l_ev (as := [.inl (xs (6 * j + 1))]) (rest := []) C hE ⟨_, rfl⟩ mw_X10_budgetFor wi_X10_budgetFor wv_X10_budgetFor wl_RL_258 mn_X10_budgetFor rfl (by decide) (by decide) dL_law_2328 rfl (by decide) (by omega) (by omega) ?_
  refine l_istore (ls2 := [(7, .int v), (6, .int kr), (0, .ref b), (1, .ref (wx.1 0)), (2, .ref (wm.1 0)), (3, .ref qo), (4, .ref qd), (5, .int (nI (6 * j)))]) C dL_law_2331 (by decide) rfl ?_
  refine l_thr (tgt := 2344) 4 1 C rfl rfl hkr dL_law_2333 dL_law_2334 dL_law_2337 dL_law_2339 (by decide) (by omega) (by omega) ?_
  refine l_finL (t2 := 2361) 5 1 0 C rfl rfl rfl (ans_f (by decide) hA9) dL_law_2344 dL_law_2346 (by decide) dL_law_2349 dL_law_2350 dL_law_2351 dL_law_2352 dL_law_2354 dL_law_2355 dL_law_2356 (by decide) dL_law_2361 (by decide) ?_
  refine l_sub [2, 3, 4, 5, 6, 7] (ls2 := [(0, .ref b), (1, .ref (wx.1 0)), (2, .ref (wm.1 0)), (3, .ref qo), (4, .ref qd), (5, .int (nI (6 * j)))]) rfl ?_
  exact kk Mx2 Mm2 _ _ hI
set_option maxRecDepth 20000 in
set_option maxHeartbeats 2000000 in
theorem case_37 {wx wm : Wp} {cL cD : ClassId} {qo qd : Nat} {p : Program} {l : Launch} {e : Env} {s : State} {m : MethodId} {below : List Frame} {meth : Method} {c : Code} {b L : Nat} {xs : Nat → Int32} {Mx Mm : Mem} {f : Nat → Int64} {g : Nat → UInt64} {k n j : Nat} (C : Lc wx wm cL cD qo qd p l s m meth c b L xs) (h : Inv j Mx Mm) (hm : j < 512) (hj : 6 * j + 6 ≤ L) (hk : k + 1 ≤ 601024) (hn : n + 6 ≤ 7293034) (kk : ∀ (Mx2 Mm2 : Mem) (f2 : Nat → Int64) (g2 : Nat → UInt64), Inv (j + 1) Mx2 Mm2 → Lj wx wm cL cD qo qd p l e s m below meth c b 2436 [(0, .ref b), (1, .ref (wx.1 0)), (2, .ref (wm.1 0)), (3, .ref qo), (4, .ref qd), (5, .int (nI (6 * j)))] [] Mx2 Mm2 f2 g2 (k + 1) (n + 6)) : Lj wx wm cL cD qo qd p l e s m below meth c b 2364 [(0, .ref b), (1, .ref (wx.1 0)), (2, .ref (wm.1 0)), (3, .ref qo), (4, .ref qd), (5, .int (nI (6 * j)))] [] Mx Mm f g k n := by
  obtain ⟨r, Mx2, v, Mm2, e1, e2, hI, hA9⟩ := s_save h (xs (6 * j + 1))
  obtain ⟨kr, hkr⟩ : ∃ kr, Mm2 0 0 = kr := ⟨_, rfl⟩
  rw [hkr] at hA9
  have hH := hm_save (cL := cL) (f := f) C.2.2.2.1.2.2.1 (lc_Oq C) e1 (ans_kr hA9)
  have hE := ev_X10_save 30 (by decide) (xs (6 * j + 1)) Mm
  rw [e2] at hE
  refine l_aload_n 1 C dL_law_2364 rfl ?_
  refine l_arg (i := 6 * j) (v := 1) 0 5 C (by omega) (by decide) dL_law_2365 dL_law_2366 dL_law_2368 dL_law_2369 dL_law_2370 rfl rfl ?_
  refine l_help (rest := []) C hH wm_L_save ws_L_save w0_RL wl_RL_259 ⟨by decide, by decide, by decide +kernel⟩ (np := 2) rfl (by decide) dL_law_2371 rfl (by decide) (by omega) (by omega) ?_
  refine l_istore (ls2 := [(6, .int kr), (0, .ref b), (1, .ref (wx.1 0)), (2, .ref (wm.1 0)), (3, .ref qo), (4, .ref qd), (5, .int (nI (6 * j)))]) C dL_law_2374 (by decide) rfl ?_
  refine l_aload_n 3 C dL_law_2376 rfl ?_
  refine l_arg (i := 6 * j) (v := 1) 1 6 C (by omega) (by decide) dL_law_2377 dL_law_2378 dL_law_2380 dL_law_2381 dL_law_2382 rfl rfl ?_
  refine l_evV (as := [.inl (xs (6 * j + 1))]) (rest := []) C hE rfl mw_X10_save wi_X10_save wv_X10_save wl_RL_262 mn_X10_save rfl (by decide) (by decide) dL_law_2383 rfl (by decide) (by omega) (by omega) ?_
  refine l_thr (tgt := 2397) 3 0 C rfl rfl hkr dL_law_2386 dL_law_2387 dL_law_2390 dL_law_2392 (by decide) (by omega) (by omega) ?_
  refine l_goto (tgt := 2436) C dL_law_2397 (by decide) ?_
  refine l_sub [1, 2, 3, 4, 5, 6] (ls2 := [(0, .ref b), (1, .ref (wx.1 0)), (2, .ref (wm.1 0)), (3, .ref qo), (4, .ref qd), (5, .int (nI (6 * j)))]) rfl ?_
  exact kk Mx2 Mm2 _ _ hI
set_option maxRecDepth 20000 in
set_option maxHeartbeats 2000000 in
theorem case_38 {wx wm : Wp} {cL cD : ClassId} {qo qd : Nat} {p : Program} {l : Launch} {e : Env} {s : State} {m : MethodId} {below : List Frame} {meth : Method} {c : Code} {b L : Nat} {xs : Nat → Int32} {Mx Mm : Mem} {f : Nat → Int64} {g : Nat → UInt64} {k n j : Nat} (C : Lc wx wm cL cD qo qd p l s m meth c b L xs) (h : Inv j Mx Mm) (hm : j < 512) (hj : 6 * j + 6 ≤ L) (hk : k + 1 ≤ 601024) (hn : n + 6 ≤ 7293034) (kk : ∀ (Mx2 Mm2 : Mem) (f2 : Nat → Int64) (g2 : Nat → UInt64), Inv (j + 1) Mx2 Mm2 → Lj wx wm cL cD qo qd p l e s m below meth c b 2436 [(0, .ref b), (1, .ref (wx.1 0)), (2, .ref (wm.1 0)), (3, .ref qo), (4, .ref qd), (5, .int (nI (6 * j)))] [] Mx2 Mm2 f2 g2 (k + 1) (n + 6)) : Lj wx wm cL cD qo qd p l e s m below meth c b 2400 [(0, .ref b), (1, .ref (wx.1 0)), (2, .ref (wm.1 0)), (3, .ref qo), (4, .ref qd), (5, .int (nI (6 * j)))] [] Mx Mm f g k n := by
  obtain ⟨r, Mx2, v, Mm2, e1, e2, hI, hA9⟩ := s_restore h (xs (6 * j + 1))
  obtain ⟨kr, hkr⟩ : ∃ kr, Mm2 0 0 = kr := ⟨_, rfl⟩
  rw [hkr] at hA9
  have hH := hm_restore (cL := cL) (f := f) C.2.2.2.1.2.2.1 (lc_Oq C) e1 (ans_kr hA9)
  have hE := ev_X10_restore 30 (by decide) (xs (6 * j + 1)) Mm
  rw [e2] at hE
  refine l_aload_n 1 C dL_law_2400 rfl ?_
  refine l_arg (i := 6 * j) (v := 1) 0 5 C (by omega) (by decide) dL_law_2401 dL_law_2402 dL_law_2404 dL_law_2405 dL_law_2406 rfl rfl ?_
  refine l_help (rest := []) C hH wm_L_restore ws_L_restore w0_RL wl_RL_263 ⟨by decide, by decide, by decide +kernel⟩ (np := 2) rfl (by decide) dL_law_2407 rfl (by decide) (by omega) (by omega) ?_
  refine l_istore (ls2 := [(6, .int kr), (0, .ref b), (1, .ref (wx.1 0)), (2, .ref (wm.1 0)), (3, .ref qo), (4, .ref qd), (5, .int (nI (6 * j)))]) C dL_law_2410 (by decide) rfl ?_
  refine l_aload_n 3 C dL_law_2412 rfl ?_
  refine l_arg (i := 6 * j) (v := 1) 1 6 C (by omega) (by decide) dL_law_2413 dL_law_2414 dL_law_2416 dL_law_2417 dL_law_2418 rfl rfl ?_
  refine l_evV (as := [.inl (xs (6 * j + 1))]) (rest := []) C hE rfl mw_X10_restore wi_X10_restore wv_X10_restore wl_RL_265 mn_X10_restore rfl (by decide) (by decide) dL_law_2419 rfl (by decide) (by omega) (by omega) ?_
  refine l_thr (tgt := 2433) 3 0 C rfl rfl hkr dL_law_2422 dL_law_2423 dL_law_2426 dL_law_2428 (by decide) (by omega) (by omega) ?_
  refine l_goto (tgt := 2436) C dL_law_2433 (by decide) ?_
  refine l_sub [1, 2, 3, 4, 5, 6] (ls2 := [(0, .ref b), (1, .ref (wx.1 0)), (2, .ref (wm.1 0)), (3, .ref qo), (4, .ref qd), (5, .int (nI (6 * j)))]) rfl ?_
  exact kk Mx2 Mm2 _ _ hI
