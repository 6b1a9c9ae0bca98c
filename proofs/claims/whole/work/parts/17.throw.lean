section CX
variable {KS : List Kd} {ST : StrT} {own : String} {cc : ByteArray} {nL : Nat} {ret : Option FieldType} {d : Nat} {pc : Nat} {ls : List (Nat × AV)} {st : List AV} {M : Mem}
theorem evX_of {md : MD} {as : List AV} {o : Option ((Int32 ⊕ String) × Mem)} (hp : plainName md.1.cls = true) (hlen : as.length ≤ md.2.2.1) (h : CorX KS ST md.1.cls md.2.1 md.2.2.1 md.2.2.2 d 0 (enl 0 as) [] M o) : EvX KS ST md d as M o := by
  intro l wp sz r M' hst ok hbz ho
  refine vx_ofW (cc := md.2.1) (maxL := md.2.2.1) (ret := md.2.2.2) hp rfl ?_
  intro p e s m args below meth c s₁ B hml hxt hv
  obtain ⟨rfl, rfl, hP, hK, hE⟩ := hv
  have hts := atoms_spec (ws := Cond.code md.1 md.2.1 md.2.2.1 md.2.2.2 :: WS) B.pre
  have hl := lv_entry (trs wp as) (n := md.2.2.1) (by rw [lg_len]; exact hlen)
  rw [lg_entry_eq]
  rw [← enl_tr] at hl
  exact h p l e s m _ below meth c wp s.heap [] _ r M' ⟨B.exec, B.bytes, B.returns, hml, findClass_of_methodNamed B.named, fun w hw => hts w (List.mem_cons_of_mem _ hw), B.notSynchronized, hK, hE, ok, hbz, hst, fun _ => hxt⟩ hP va_S.rf hl (enl_nd as 0) ho
theorem c_xret {v : Int32} (hr : ret = some .int) (hd : decode cc pc = .ok (.ireturn, 1)) : CorX KS ST own cc nL ret d pc ls [.inl v] M (some (.inl v, M)) := by
  intro p l e s m args below meth c wp H locs la r M' C hP hS hl hn ho
  cases ho
  obtain ⟨hx, hb, hr0, hml, hown, hts, hlk, hKK, hE, ok, hbz, -⟩ := id C
  subst hr
  refine vx_ret (Qc := QcX KS ST wp (some .int) (.inl v) M s.heap.size) ?_
  exact W.iret hx hb hr0 (fun t ht hW => ⟨⟨v, (), rfl, rfl, by rw [ht]; exact hP, va_K.moved hW.alike hKK, by rw [ht]; exact hE.next hW (fun a h1 h2 => hS.2.1 a h1 (fun h => h2 (Aw_B0 ok hbz a h)))⟩, hS.F ht⟩) hS.2.2 hd hlk
theorem c_xzret {v : Int32} (hr : ret = some .boolean) (hv : isB v) (hd : decode cc pc = .ok (.ireturn, 1)) : CorX KS ST own cc nL ret d pc ls [.inl v] M (some (.inl v, M)) := by
  intro p l e s m args below meth c wp H locs la r M' C hP hS hl hn ho
  cases ho
  obtain ⟨hx, hb, hr0, hml, hown, hts, hlk, hKK, hE, ok, hbz, -⟩ := id C
  subst hr
  refine vx_ret (Qc := QcX KS ST wp (some .boolean) (.inl v) M s.heap.size) ?_
  exact W.zret hx hb hr0 (by rcases hv with rfl | rfl <;> rfl) (fun t ht hW => ⟨⟨v, (), rfl, rfl, by rw [ht]; exact hP, va_K.moved hW.alike hKK, by rw [ht]; exact hE.next hW (fun a h1 h2 => hS.2.1 a h1 (fun h => h2 (Aw_B0 ok hbz a h)))⟩, hS.F ht⟩) hS.2.2 hd hlk
theorem c_xvret (hr : ret = none) (hd : decode cc pc = .ok (.return_, 1)) : CorX KS ST own cc nL ret d pc ls [] M (some (.inl 0, M)) := by
  intro p l e s m args below meth c wp H locs la r M' C hP hS hl hn ho
  cases ho
  obtain ⟨hx, hb, hr0, hml, hown, hts, hlk, hKK, hE, ok, hbz, -⟩ := id C
  subst hr
  refine vx_ret (Qc := QcX KS ST wp none (.inl 0) M s.heap.size) ?_
  exact W.vret hx hb hr0 (fun t ht hW => ⟨⟨(), rfl, ⟨0, rfl⟩, by rw [ht]; exact hP, va_K.moved hW.alike hKK, by rw [ht]; exact hE.next hW (fun a h1 h2 => hS.2.1 a h1 (fun h => h2 (Aw_B0 ok hbz a h)))⟩, hS.F ht⟩) hS.2.2 hd hlk
/-- behind a throw: the world as it was, one cell more -/
theorem xc_at {wp : Wp} {s t : State} {H : Heap} {locs : List Loc} {E : String} (hP : va_P wp.2.1 clX (wl KS wp M) H) (hS : va_S (Aw KS wp s.heap.size) s.heap H locs) (hz : H.size ≤ t.heap.size) (hq : ∀ q : Nat, q < H.size → t.heap[q]? = H[q]?) : XcX KS wp (.inr E) M s.heap.size E s t := by
  refine ⟨(), trivial, ⟨rfl, fun k q h => (hP k q h).kept (hq _ ((hP k q h).lt))⟩, Nat.le_trans hS.1 hz, fun q h1 h2 => ?_⟩
  rw [hq q (Nat.lt_of_lt_of_le h1 hS.1)]
  exact hS.2.1 q h1 h2
abbrev exN : List String := ["java/lang/RuntimeException", "java/lang/Exception"]
theorem hat_of {wp : Wp} {s : State} {args : Array Value} {L : List Cond} (hts : ∀ w ∈ WS, w.before args s = true) (hE : Ext ST wp s s.heap) (h1 : ∀ w ∈ L.filter goodWord, w ∈ WS) (h2 : ∀ w ∈ L.filter (fun w => !goodWord w), w ∈ nestW) : ∀ w ∈ L, w.before args s = true := by
  intro w hw
  by_cases g : goodWord w = true
  · exact hts _ (h1 w (List.mem_filter.mpr ⟨hw, g⟩))
  · have hm := h2 w (List.mem_filter.mpr ⟨hw, by simpa using g⟩)
    have hn := hE.1 w hm
    have ht : w.onTables = true := by
      have h3 := (List.mem_filter.mp hm).2
      cases w <;> simp [isNest] at h3 <;> rfl
    exact va_Nw.use ht hn
theorem c_throw {E text : String} {ik is ic sid : Nat} (hk : Cond.classLink own ik E ∈ WS) (hini : Cond.initialized E ∈ WS) (hm : (own, is, text, sid) ∈ ST) (hat : ∀ w ∈ (vx_atS own ic E exN).filter goodWord, w ∈ WS) (hatn : ∀ w ∈ (vx_atS own ic E exN).filter (fun w => !goodWord w), w ∈ nestW) (hgood : ∀ w ∈ Cond.classLink own ik E :: Cond.initialized E :: vx_atS own ic E exN, vx_ot w = true) (hcls : Bundle.fit E = true) (hd6 : 6 ≤ d) (hrs : st.length ≤ 8)
    (d0 : decode cc pc = .ok (.new ik, 3)) (d3 : decode cc (pc + 3) = .ok (.dup, 1)) (d4 : decode cc (pc + 4) = .ok (.ldc is, 2)) (d6 : decode cc (pc + 6) = .ok (.invokespecial ic, 3)) (d9 : decode cc (pc + 9) = .ok (.athrow, 1)) : CorX KS ST own cc nL ret d pc ls st M (some (.inr E, M)) := by
  intro p l e s m args below meth c wp H locs la r M' C hP hS hl hn ho
  cases ho
  obtain ⟨hx, hb, hr0, hml, hown, hts, hlk, hKK, hE, ok, hbz, hst, hxt⟩ := id C
  have hAB := Aw_B0 ok hbz
  exact vx_throwS (A := Aw KS wp s.heap.size) (names := exN) (cells := 0) (slots := 0) hx hb hst hown hcls (by decide) (hts _ hk) (hts _ hini) (hE.2.1 _ hm) (hat_of hts hE hat hatn) hgood (hE.2.2.1.narrow hAB) (hE.2.2.2.1.narrow hAB) hS (hl.1.trans hml.symm) d0 d3 d4 d6 d9 (fun x hx => (hxt rfl x hx).elim) (show 2 + 3 < d by omega) (show _ ≤ 64 * d by rw [trs_cat]; show st.length + 82 ≤ 64 * d; omega) (Nat.le_refl _) (Nat.le_refl _) hlk (fun t _ hz hq => xc_at hP hS hz hq) hS.2.2 (Nat.le_refl _) (Nat.le_refl _)
theorem c_throwW {E text : String} {ik is ic sid : Nat} (hk : Cond.classLink own ik E ∈ WS) (hini : Cond.initialized E ∈ WS) (hm : (own, is, text, sid) ∈ ST) (hat : ∀ w ∈ (vx_atS own ic E exN).filter goodWord, w ∈ WS) (hatn : ∀ w ∈ (vx_atS own ic E exN).filter (fun w => !goodWord w), w ∈ nestW) (hgood : ∀ w ∈ Cond.classLink own ik E :: Cond.initialized E :: vx_atS own ic E exN, vx_ot w = true) (hcls : Bundle.fit E = true) (hd6 : 6 ≤ d) (hrs : st.length ≤ 8)
    (d0 : decode cc pc = .ok (.new ik, 3)) (d3 : decode cc (pc + 3) = .ok (.dup, 1)) (d4 : decode cc (pc + 4) = .ok (.ldc_w is, 3)) (d6 : decode cc (pc + 7) = .ok (.invokespecial ic, 3)) (d9 : decode cc (pc + 10) = .ok (.athrow, 1)) : CorX KS ST own cc nL ret d pc ls st M (some (.inr E, M)) := by
  intro p l e s m args below meth c wp H locs la r M' C hP hS hl hn ho
  cases ho
  obtain ⟨hx, hb, hr0, hml, hown, hts, hlk, hKK, hE, ok, hbz, hst, hxt⟩ := id C
  have hAB := Aw_B0 ok hbz
  exact vx_throwSW (A := Aw KS wp s.heap.size) (names := exN) (cells := 0) (slots := 0) hx hb hst hown hcls (by decide) (hts _ hk) (hts _ hini) (hE.2.1 _ hm) (hat_of hts hE hat hatn) hgood (hE.2.2.1.narrow hAB) (hE.2.2.2.1.narrow hAB) hS (hl.1.trans hml.symm) d0 d3 d4 d6 d9 (fun x hx => (hxt rfl x hx).elim) (show 2 + 3 < d by omega) (show _ ≤ 64 * d by rw [trs_cat]; show st.length + 82 ≤ 64 * d; omega) (Nat.le_refl _) (Nat.le_refl _) hlk (fun t _ hz hq => xc_at hP hS hz hq) hS.2.2 (Nat.le_refl _) (Nat.le_refl _)
/-- a call of a method of ours that returns or throws -/
theorem runX {md : MD} {d2 idx n t ci n0 : Nat} {cq : vw_C} {as rs : List AV} {oc : Option ((Int32 ⊕ String) × Mem)} (hE : EvX KS ST md d2 (.inr t :: as) M oc) (hd2 : d2 < d) (hw : mdW md) (hi : Cond.instanceMethod md.1 ∈ WS) (hsel : Cond.selects cq.1 md.1 md.1 ∈ WS) (hK : KS[t]? = some (ci, n0)) (hci : ci < 20) (hq : clX[ci]? = some cq) (hlink : Cond.methodLink own idx md.1 ∈ WS) (hn : (parseMethodDescriptor md.1.desc).map (fun d => d.parameters.length) = some n) (hlen : as.length = n) (hmL : md.2.2.1 ≤ 45) (hrs : rs.length ≤ 8) (hd : decode cc pc = .ok (.invokevirtual idx, 3))
    {tx : Bool} {p : Program} {l : Launch} {e : Env} {s : State} {m : MethodId} {args : Array Value} {below : List Frame} {meth : Method} {c : Code} {wp : Wp} {H : Heap} {locs : List Loc} {la : Array Slot} {q : Nat × Nat} {rc : Int32 ⊕ String} {M1 : Mem} (hq1 : (costX rc).1 ≤ q.1) (hq2 : (costX rc).2 ≤ q.2) (C : Cx KS ST own cc nL ret tx p l s m args meth c wp) (hP : va_P wp.2.1 clX (wl KS wp M) H) (hS : va_S (Aw KS wp s.heap.size) s.heap H locs) (hl : la.size = nL) (ho : oc = some (rc, M1)) :
    vx_Run p l e (rmd d q) s m args below meth c H locs 0 0 (costX rc).1 (costX rc).2 (F0 m pc la (trs wp (as.reverse ++ .inr t :: rs))) (trs wp rs) (QcX KS ST wp md.2.2.2 rc M1 H.size (trs wp (.inr t :: as)).toArray) (XcX KS wp rc M1 H.size) (Aw KS wp H.size) := by
  obtain ⟨hx, hb, hr, hml, hown, hts, hlk, hKK, hEx, ok, hbz, hst, -⟩ := id C
  have hM := hE l wp H.size rc M1 hst ok (Nat.le_trans hbz hS.1) ho
  exact vx_runV (As := trs wp as) (b := wp.1 t) (C := cq.1) (n := n) ⟨hx, hb, hml, hown, hts⟩ hM ⟨callB_of n hts (md_good hw) rfl rfl rfl (hts _ hw.2.1) (hts _ hlink) ⟨hw.2.2.1, hw.2.2.2, hn⟩ (room_ok hd2 hmL), hts _ hi, hts _ hsel⟩ ⟨pcW_blind, va_recv hKK hP hq (obj_at hK hci), fun U hU hW => pcW_at (as := .inr t :: as) ok hbz hP hKK hEx hS hU hW⟩ rfl (by simpa [trs] using hlen) hl (by simp [trs, tr]) (lv_room (by rw [trs_cat]; exact hrs)) hd ⟨by rw [Nat.zero_add]; exact hq1, by rw [Nat.zero_add]; exact hq2⟩
theorem c_callX {md : MD} {d2 idx n t ci n0 : Nat} {cq : vw_C} {as rs : List AV} {oc : Option ((Int32 ⊕ String) × Mem)} {k : Int32 → Mem → Option ((Int32 ⊕ String) × Mem)} {st0 : List AV} (hE : EvX KS ST md d2 (.inr t :: as) M oc) (hst : as.reverse ++ .inr t :: rs = st0) (hd2 : d2 < d) (hw : mdW md) (hi : Cond.instanceMethod md.1 ∈ WS) (hsel : Cond.selects cq.1 md.1 md.1 ∈ WS) (hK : KS[t]? = some (ci, n0)) (hci : ci < 20) (hq : clX[ci]? = some cq) (hlink : Cond.methodLink own idx md.1 ∈ WS) (hn : (parseMethodDescriptor md.1.desc).map (fun d => d.parameters.length) = some n) (hlen : as.length = n) (hmL : md.2.2.1 ≤ 45) (hrs : rs.length ≤ 8) (hret : md.2.2.2 = none) (hd : decode cc pc = .ok (.invokevirtual idx, 3))
    (kk : ∀ (v : Int32) (M1 : Mem), oc = some (.inl v, M1) → CorX KS ST own cc nL ret d (pc + 3) ls rs M1 (k v M1)) : CorX KS ST own cc nL ret d pc ls st0 M (bndX oc k) := by
  intro p l e s m args below meth c wp H locs la r M' C hP hS hl hnd ho
  subst hst
  obtain ⟨hx, hb, hr0, hml, hown, hts, hlk, hKK, hEx, ok, hbz, hst, hxt⟩ := id C
  match oc, hE, kk, ho with
  | none, _, _, ho => cases ho
  | some (.inl v, M1), hE, kk, ho =>
    have hr := runX (rc := .inl v) (q := costX r) (below := below) (e := e) (la := la) (rs := rs) hE hd2 hw hi hsel hK hci hq hlink hn hlen hmL hrs hd (Nat.zero_le _) (Nat.zero_le _) C hP hS hl.1 rfl
    rw [hret] at hr
    refine vx_callv (a := (trs wp (.inr t :: as)).toArray) hr hS (fun q _ h => Aw_call hS q h) (Aw_call hS) (fun q _ h => Aw_call hS q h) (fun E ce q9 u t H1 locs1 ht hvm hw hB hz hk hS1 _ _ _ => by cases hB.1) (fun u t H1 locs1 ht hvm hw hB hz hk hS1 => ?_)
    exact kk v M1 rfl p l e s m args below meth c wp H1 locs1 la r M' C (by rw [← ht]; exact hB.1) hS1 hl hnd ho
  | some (.inr E, M1), hE, kk, ho =>
    cases ho
    have hr := runX (rc := .inr E) (q := costX (.inr E)) (below := below) (e := e) (la := la) (rs := rs) hE hd2 hw hi hsel hK hci hq hlink hn hlen hmL hrs hd (Nat.le_refl _) (Nat.le_refl _) C hP hS hl.1 rfl
    rw [hret] at hr
    refine vx_callv (a := (trs wp (.inr t :: as)).toArray) hr hS (fun q _ h => Aw_call hS q h) (Aw_call hS) (fun q _ h => Aw_call hS q h) (fun E2 ce q9 u t H1 locs1 ht hvm hw hB hz hk hS1 g1 g2 g3 => ?_) (fun u t H1 locs1 ht hvm hw hB hz hk hS1 => by obtain ⟨v, hv⟩ := hw; cases hv)
    obtain ⟨hB1, hB2⟩ := hB
    cases hB1
    exact vx_out (fun x hx => (hxt rfl x hx).elim) hlk g1 g2 g3 (fun t2 ht2 _ => ⟨(), trivial, ⟨rfl, by rw [ht2, ← ht]; exact hB2⟩, hS1.F ht2⟩) hS1.2.2 (Nat.le_refl _) (Nat.le_refl _)
end CX
