section CC
variable {KS : List Kd} {ST : StrT} {own : String} {cc : ByteArray} {nL : Nat} {ret : Option FieldType} {d : Nat} {ρ : Type} {tx : Bool} {FN : FNt ρ} {cost : ρ → Nat × Nat} {pc : Nat} {ls : List (Nat × AV)} {st : List AV} {M : Mem} {o : Option (ρ × Mem)}
theorem pcW_blind {wp : Wp} {as : List AV} {sz : Nat} : FrameBlind (PcW KS ST wp as M sz) := by
  intro a U g mk ⟨h0, h1, h2, h3, h4⟩
  exact ⟨h0, h1, h2, va_K.moved (u := U) (U := U.calling g mk a) (Vm.Alike.refl U.vm) h3, Ext.same (U := U.calling g mk a) h4 rfl⟩
theorem pcW_at {wp : Wp} {as : List AV} {s U : State} {H : Heap} {locs : List Loc} (ok : okW KS wp) (hbz : wp.2.2.2 ≤ s.heap.size) (hP : va_P wp.2.1 clX (wl KS wp M) H) (hK : va_K wp.2.1 clX (tysW wp) s) (hE : Ext ST wp s s.heap) (hS : va_S (Aw KS wp s.heap.size) s.heap H locs) (hU : U.heap = H) (hW : s.WarmedH U.vm) : PcW KS ST wp as M H.size (trs wp as).toArray U := by
  refine ⟨rfl, by rw [hU], by rw [hU]; exact hP, va_K.moved hW.alike hK, ?_⟩
  rw [hU]
  exact hE.next hW (fun a h1 h2 => hS.2.1 a h1 (fun h => h2 (Aw_B0 ok hbz a h)))
theorem Aw_call {wp : Wp} {s : State} {H : Heap} {locs : List Loc} (hS : va_S (Aw KS wp s.heap.size) s.heap H locs) : ∀ q, Aw KS wp H.size q → Aw KS wp s.heap.size q := Aw_mono hS.1
/-- words of a callee -/
def mdW (md : MD) : Prop := Cond.code md.1 md.2.1 md.2.2.1 md.2.2.2 ∈ WS ∧ (Cond.initialized md.1.cls ∈ WS) ∧ md.1.cls ≠ "java/lang/invoke/MethodHandle" ∧ md.1.cls ≠ "java/lang/invoke/VarHandle"
theorem md_good {md : MD} (h : mdW md) : GoodIn WS (Cond.code md.1 md.2.1 md.2.2.1 md.2.2.2 :: WS) := by
  intro w hw
  rcases List.mem_cons.mp hw with rfl | hw
  · exact WS_good _ h.1
  · exact WS_good _ hw
theorem room_ok {d d2 mL : Nat} {q q2 : Nat × Nat} (h : d2 < d) (hm : mL ≤ 45) : (rmd d2 q).frames + 1 ≤ (rmd d q2).frames ∧ 8 + (mL + 11) + (rmd d2 q).locals ≤ (rmd d q2).locals := by
  simp only [rmd]; omega
theorem call_back {md : MD} {d2 : Nat} {as : List AV} {oc : Option (Int32 × Mem)} {v : Int32} {M1 : Mem} {p : Program} {l : Launch} {e : Env} {R : Room} {s : State} {m : MethodId} {args : Array Value} {below : List Frame} {meth : Method} {c : Code} {wp : Wp} {H : Heap} {locs : List Loc} {la : Array Slot} {Q : State → Prop} {st0 rest : List Value} (hret : ∃ ty, md.2.2.2 = some ty)
    (hr : va_Run p l e R s m args below meth c H locs 0 0 0 0 (F0 m pc la st0) rest (QcW KS ST wp md.2.2.2 v M1 H.size (trs wp as).toArray) (Aw KS wp H.size)) (hS : va_S (Aw KS wp s.heap.size) s.heap H locs)
    (kk : ∀ (H1 : Heap) (locs1 : List Loc), va_P wp.2.1 clX (wl KS wp M1) H1 → va_S (Aw KS wp s.heap.size) s.heap H1 locs1 → W p l e R s m args below meth c H1 locs1 0 0 Q (F0 m (pc + 3) la (.int v :: rest))) : W p l e R s m args below meth c H locs 0 0 Q (F0 m pc la st0) := by
  have hr2 : va_Run p l e R s m args below meth c H locs 0 0 0 0 (F0 m pc la st0) rest (va_Qi (fun r (_ : Unit) => r = v) (fun _ t => Wd KS ST wp M1 t) (Aw KS wp H.size) (trs wp as).toArray) (Aw KS wp H.size) := by
    obtain ⟨ty, h⟩ := hret
    rw [h] at hr; exact hr
  refine va_calli hr2 hS (fun q _ h => Aw_call hS q h) (Aw_call hS) (fun r u t H1 locs1 ht hvm hw hB hz hk hS1 => ?_)
  cases hw
  exact kk H1 locs1 (by rw [← ht]; exact hB.1) hS1
theorem call_backV {md : MD} {d2 : Nat} {as : List AV} {v : Int32} {M1 : Mem} {p : Program} {l : Launch} {e : Env} {R : Room} {s : State} {m : MethodId} {args : Array Value} {below : List Frame} {meth : Method} {c : Code} {wp : Wp} {H : Heap} {locs : List Loc} {la : Array Slot} {Q : State → Prop} {st0 rest : List Value} (hret : md.2.2.2 = none)
    (hr : va_Run p l e R s m args below meth c H locs 0 0 0 0 (F0 m pc la st0) rest (QcW KS ST wp md.2.2.2 v M1 H.size (trs wp as).toArray) (Aw KS wp H.size)) (hS : va_S (Aw KS wp s.heap.size) s.heap H locs)
    (kk : ∀ (H1 : Heap) (locs1 : List Loc), va_P wp.2.1 clX (wl KS wp M1) H1 → va_S (Aw KS wp s.heap.size) s.heap H1 locs1 → W p l e R s m args below meth c H1 locs1 0 0 Q (F0 m (pc + 3) la rest)) : W p l e R s m args below meth c H locs 0 0 Q (F0 m pc la st0) := by
  have hr2 : va_Run p l e R s m args below meth c H locs 0 0 0 0 (F0 m pc la st0) rest (va_Qv (fun _ : Unit => True) (fun _ t => Wd KS ST wp M1 t) (Aw KS wp H.size) (trs wp as).toArray) (Aw KS wp H.size) := by
    rw [hret] at hr; exact hr
  refine va_callv hr2 hS (fun q _ h => Aw_call hS q h) (Aw_call hS) (fun u t H1 locs1 ht hvm hw hB hz hk hS1 => ?_)
  exact kk H1 locs1 (by rw [← ht]; exact hB.1) hS1
theorem bnd_of {α : Type} {oc : Option (Int32 × Mem)} {k : Int32 → Mem → Option α} {x : α} (h : bnd oc k = some x) : ∃ v M1, oc = some (v, M1) ∧ k v M1 = some x := by
  cases oc with
  | none => cases h
  | some q => exact ⟨q.1, q.2, rfl, h⟩
/-- where the callee is, and how it is called: static (of any class), static of a nest mate, on an object -/
theorem runS {md : MD} {d2 idx n : Nat} {as rs : List AV} {oc : Option (Int32 × Mem)} (hE : Ev KS ST md d2 as M oc) (hd2 : d2 < d) (hw : mdW md) (hs : Cond.static md.1 ∈ WS) (hlink : Cond.methodLink own idx md.1 ∈ WS) (hn : (parseMethodDescriptor md.1.desc).map (fun d => d.parameters.length) = some n) (hlen : as.length = n) (hmL : md.2.2.1 ≤ 45) (hrs : rs.length ≤ 8) (hd : decode cc pc = .ok (.invokestatic idx, 3))
    {p : Program} {l : Launch} {e : Env} {s : State} {m : MethodId} {args : Array Value} {below : List Frame} {meth : Method} {c : Code} {wp : Wp} {H : Heap} {locs : List Loc} {la : Array Slot} {q : Nat × Nat} {v : Int32} {M1 : Mem} (C : Cx KS ST own cc nL ret tx p l s m args meth c wp) (hP : va_P wp.2.1 clX (wl KS wp M) H) (hS : va_S (Aw KS wp s.heap.size) s.heap H locs) (hl : la.size = nL) (ho : oc = some (v, M1)) :
    va_Run p l e (rmd d q) s m args below meth c H locs 0 0 0 0 (F0 m pc la (trs wp (as.reverse ++ rs))) (trs wp rs) (QcW KS ST wp md.2.2.2 v M1 H.size (trs wp as).toArray) (Aw KS wp H.size) := by
  obtain ⟨hx, hb, hr, hml, hown, hts, hlk, hKK, hEx, ok, hbz, hst, -⟩ := id C
  have hM := hE l wp H.size v M1 hst ok (Nat.le_trans hbz hS.1) ho
  refine va_runS (As := trs wp as) (n := n) ⟨hx, hb, hml, hown, hts⟩ hM ⟨callB_of n hts (md_good hw) rfl rfl rfl (hts _ hw.2.1) (hts _ hlink) ⟨hw.2.2.1, hw.2.2.2, hn⟩ (room_ok hd2 hmL), hts _ hs⟩ ⟨pcW_blind, fun U hU hW => pcW_at ok hbz hP hKK hEx hS hU hW⟩ rfl (by simpa [trs] using hlen) hl (by simp [trs]) (lv_room (by rw [trs_cat]; exact hrs)) hd ⟨Nat.zero_le _, Nat.zero_le _⟩
theorem runSN {md : MD} {d2 idx n : Nat} {host : String} {as rs : List AV} {oc : Option (Int32 × Mem)} (hE : Ev KS ST md d2 as M oc) (hd2 : d2 < d) (hw : mdW md) (hs : Cond.static md.1 ∈ WS) (hlink : Cond.methodLinkNest own idx md.1 host ∈ nestW) (hn : (parseMethodDescriptor md.1.desc).map (fun d => d.parameters.length) = some n) (hlen : as.length = n) (hmL : md.2.2.1 ≤ 45) (hrs : rs.length ≤ 8) (hd : decode cc pc = .ok (.invokestatic idx, 3))
    {p : Program} {l : Launch} {e : Env} {s : State} {m : MethodId} {args : Array Value} {below : List Frame} {meth : Method} {c : Code} {wp : Wp} {H : Heap} {locs : List Loc} {la : Array Slot} {q : Nat × Nat} {v : Int32} {M1 : Mem} (C : Cx KS ST own cc nL ret tx p l s m args meth c wp) (hP : va_P wp.2.1 clX (wl KS wp M) H) (hS : va_S (Aw KS wp s.heap.size) s.heap H locs) (hl : la.size = nL) (ho : oc = some (v, M1)) :
    va_Run p l e (rmd d q) s m args below meth c H locs 0 0 0 0 (F0 m pc la (trs wp (as.reverse ++ rs))) (trs wp rs) (QcW KS ST wp md.2.2.2 v M1 H.size (trs wp as).toArray) (Aw KS wp H.size) := by
  obtain ⟨hx, hb, hr, hml, hown, hts, hlk, hKK, hEx, ok, hbz, hst, -⟩ := id C
  have hM := hE l wp H.size v M1 hst ok (Nat.le_trans hbz hS.1) ho
  refine va_runSN (As := trs wp as) (n := n) ⟨hx, hb, hml, hown, hts⟩ hM ⟨va_cnB n hts (md_good hw) rfl rfl rfl (hEx.1 _ hlink) (hts _ hw.2.1) ⟨hw.2.2.1, hw.2.2.2, hn⟩ (room_ok hd2 hmL), hts _ hs, trivial⟩ ⟨pcW_blind, fun U hU hW => pcW_at ok hbz hP hKK hEx hS hU hW⟩ rfl (by simpa [trs] using hlen) hl (by simp [trs]) (lv_room (by rw [trs_cat]; exact hrs)) hd ⟨Nat.zero_le _, Nat.zero_le _⟩
theorem runV {md : MD} {d2 idx n t ci n0 : Nat} {cq : vw_C} {as rs : List AV} {oc : Option (Int32 × Mem)} (hE : Ev KS ST md d2 (.inr t :: as) M oc) (hd2 : d2 < d) (hw : mdW md) (hi : Cond.instanceMethod md.1 ∈ WS) (hsel : Cond.selects cq.1 md.1 md.1 ∈ WS) (hK : KS[t]? = some (ci, n0)) (hci : ci < 20) (hq : clX[ci]? = some cq) (hlink : Cond.methodLink own idx md.1 ∈ WS) (hn : (parseMethodDescriptor md.1.desc).map (fun d => d.parameters.length) = some n) (hlen : as.length = n) (hmL : md.2.2.1 ≤ 45) (hrs : rs.length ≤ 8) (hd : decode cc pc = .ok (.invokevirtual idx, 3))
    {p : Program} {l : Launch} {e : Env} {s : State} {m : MethodId} {args : Array Value} {below : List Frame} {meth : Method} {c : Code} {wp : Wp} {H : Heap} {locs : List Loc} {la : Array Slot} {q : Nat × Nat} {v : Int32} {M1 : Mem} (C : Cx KS ST own cc nL ret tx p l s m args meth c wp) (hP : va_P wp.2.1 clX (wl KS wp M) H) (hS : va_S (Aw KS wp s.heap.size) s.heap H locs) (hl : la.size = nL) (ho : oc = some (v, M1)) :
    va_Run p l e (rmd d q) s m args below meth c H locs 0 0 0 0 (F0 m pc la (trs wp (as.reverse ++ .inr t :: rs))) (trs wp rs) (QcW KS ST wp md.2.2.2 v M1 H.size (trs wp (.inr t :: as)).toArray) (Aw KS wp H.size) := by
  obtain ⟨hx, hb, hr, hml, hown, hts, hlk, hKK, hEx, ok, hbz, hst, -⟩ := id C
  have hM := hE l wp H.size v M1 hst ok (Nat.le_trans hbz hS.1) ho
  exact va_runV (As := trs wp as) (b := wp.1 t) (C := cq.1) (n := n) ⟨hx, hb, hml, hown, hts⟩ hM ⟨callB_of n hts (md_good hw) rfl rfl rfl (hts _ hw.2.1) (hts _ hlink) ⟨hw.2.2.1, hw.2.2.2, hn⟩ (room_ok hd2 hmL), hts _ hi, hts _ hsel⟩ ⟨pcW_blind, va_recv hKK hP hq (obj_at hK hci), fun U hU hW => pcW_at (as := .inr t :: as) ok hbz hP hKK hEx hS hU hW⟩ rfl (by simpa [trs] using hlen) hl (by simp [trs, tr]) (lv_room (by rw [trs_cat]; exact hrs)) hd ⟨Nat.zero_le _, Nat.zero_le _⟩
/-! the calls as rows: the callee's pure function stands in the caller's -/
theorem c_callS {md : MD} {d2 idx n : Nat} {as rs : List AV} {oc : Option (Int32 × Mem)} {k : Int32 → Mem → Option (ρ × Mem)} {st0 : List AV} (hE : Ev KS ST md d2 as M oc) (hst : as.reverse ++ rs = st0) (hd2 : d2 < d) (hw : mdW md) (hs : Cond.static md.1 ∈ WS) (hlink : Cond.methodLink own idx md.1 ∈ WS) (hn : (parseMethodDescriptor md.1.desc).map (fun d => d.parameters.length) = some n) (hlen : as.length = n) (hmL : md.2.2.1 ≤ 45) (hrs : rs.length ≤ 8) (hret : ∃ ty, md.2.2.2 = some ty) (hd : decode cc pc = .ok (.invokestatic idx, 3))
    (kk : ∀ (v : Int32) (M1 : Mem), oc = some (v, M1) → Cor KS ST own cc nL ret d tx FN cost (pc + 3) ls (.inl v :: rs) M1 (k v M1)) : Cor KS ST own cc nL ret d tx FN cost pc ls st0 M (bnd oc k) := by
  intro p l e s m args below meth c wp H locs la r M' C hP hS hl hnd ho
  subst hst
  obtain ⟨v, M1, h1, h2⟩ := bnd_of ho
  exact call_back (d2 := 0) (oc := none) hret (runS hE hd2 hw hs hlink hn hlen hmL hrs hd C hP hS hl.1 h1) hS (fun H1 locs1 hP1 hS1 => kk v M1 h1 p l e s m args below meth c wp H1 locs1 la r M' C hP1 hS1 hl hnd h2)
theorem c_callSv {md : MD} {d2 idx n : Nat} {as rs : List AV} {oc : Option (Int32 × Mem)} {k : Int32 → Mem → Option (ρ × Mem)} {st0 : List AV} (hE : Ev KS ST md d2 as M oc) (hst : as.reverse ++ rs = st0) (hd2 : d2 < d) (hw : mdW md) (hs : Cond.static md.1 ∈ WS) (hlink : Cond.methodLink own idx md.1 ∈ WS) (hn : (parseMethodDescriptor md.1.desc).map (fun d => d.parameters.length) = some n) (hlen : as.length = n) (hmL : md.2.2.1 ≤ 45) (hrs : rs.length ≤ 8) (hret : md.2.2.2 = none) (hd : decode cc pc = .ok (.invokestatic idx, 3))
    (kk : ∀ (v : Int32) (M1 : Mem), oc = some (v, M1) → Cor KS ST own cc nL ret d tx FN cost (pc + 3) ls rs M1 (k v M1)) : Cor KS ST own cc nL ret d tx FN cost pc ls st0 M (bnd oc k) := by
  intro p l e s m args below meth c wp H locs la r M' C hP hS hl hnd ho
  subst hst
  obtain ⟨v, M1, h1, h2⟩ := bnd_of ho
  exact call_backV (d2 := 0) hret (runS hE hd2 hw hs hlink hn hlen hmL hrs hd C hP hS hl.1 h1) hS (fun H1 locs1 hP1 hS1 => kk v M1 h1 p l e s m args below meth c wp H1 locs1 la r M' C hP1 hS1 hl hnd h2)
theorem c_callN {md : MD} {d2 idx n : Nat} {host : String} {as rs : List AV} {oc : Option (Int32 × Mem)} {k : Int32 → Mem → Option (ρ × Mem)} {st0 : List AV} (hE : Ev KS ST md d2 as M oc) (hst : as.reverse ++ rs = st0) (hd2 : d2 < d) (hw : mdW md) (hs : Cond.static md.1 ∈ WS) (hlink : Cond.methodLinkNest own idx md.1 host ∈ nestW) (hn : (parseMethodDescriptor md.1.desc).map (fun d => d.parameters.length) = some n) (hlen : as.length = n) (hmL : md.2.2.1 ≤ 45) (hrs : rs.length ≤ 8) (hret : ∃ ty, md.2.2.2 = some ty) (hd : decode cc pc = .ok (.invokestatic idx, 3))
    (kk : ∀ (v : Int32) (M1 : Mem), oc = some (v, M1) → Cor KS ST own cc nL ret d tx FN cost (pc + 3) ls (.inl v :: rs) M1 (k v M1)) : Cor KS ST own cc nL ret d tx FN cost pc ls st0 M (bnd oc k) := by
  intro p l e s m args below meth c wp H locs la r M' C hP hS hl hnd ho
  subst hst
  obtain ⟨v, M1, h1, h2⟩ := bnd_of ho
  exact call_back (d2 := 0) (oc := none) hret (runSN hE hd2 hw hs hlink hn hlen hmL hrs hd C hP hS hl.1 h1) hS (fun H1 locs1 hP1 hS1 => kk v M1 h1 p l e s m args below meth c wp H1 locs1 la r M' C hP1 hS1 hl hnd h2)
theorem c_callNv {md : MD} {d2 idx n : Nat} {host : String} {as rs : List AV} {oc : Option (Int32 × Mem)} {k : Int32 → Mem → Option (ρ × Mem)} {st0 : List AV} (hE : Ev KS ST md d2 as M oc) (hst : as.reverse ++ rs = st0) (hd2 : d2 < d) (hw : mdW md) (hs : Cond.static md.1 ∈ WS) (hlink : Cond.methodLinkNest own idx md.1 host ∈ nestW) (hn : (parseMethodDescriptor md.1.desc).map (fun d => d.parameters.length) = some n) (hlen : as.length = n) (hmL : md.2.2.1 ≤ 45) (hrs : rs.length ≤ 8) (hret : md.2.2.2 = none) (hd : decode cc pc = .ok (.invokestatic idx, 3))
    (kk : ∀ (v : Int32) (M1 : Mem), oc = some (v, M1) → Cor KS ST own cc nL ret d tx FN cost (pc + 3) ls rs M1 (k v M1)) : Cor KS ST own cc nL ret d tx FN cost pc ls st0 M (bnd oc k) := by
  intro p l e s m args below meth c wp H locs la r M' C hP hS hl hnd ho
  subst hst
  obtain ⟨v, M1, h1, h2⟩ := bnd_of ho
  exact call_backV (d2 := 0) hret (runSN hE hd2 hw hs hlink hn hlen hmL hrs hd C hP hS hl.1 h1) hS (fun H1 locs1 hP1 hS1 => kk v M1 h1 p l e s m args below meth c wp H1 locs1 la r M' C hP1 hS1 hl hnd h2)
theorem c_callV {md : MD} {d2 idx n t ci n0 : Nat} {cq : vw_C} {as rs : List AV} {oc : Option (Int32 × Mem)} {k : Int32 → Mem → Option (ρ × Mem)} {st0 : List AV} (hE : Ev KS ST md d2 (.inr t :: as) M oc) (hst : as.reverse ++ .inr t :: rs = st0) (hd2 : d2 < d) (hw : mdW md) (hi : Cond.instanceMethod md.1 ∈ WS) (hsel : Cond.selects cq.1 md.1 md.1 ∈ WS) (hK : KS[t]? = some (ci, n0)) (hci : ci < 20) (hq : clX[ci]? = some cq) (hlink : Cond.methodLink own idx md.1 ∈ WS) (hn : (parseMethodDescriptor md.1.desc).map (fun d => d.parameters.length) = some n) (hlen : as.length = n) (hmL : md.2.2.1 ≤ 45) (hrs : rs.length ≤ 8) (hret : ∃ ty, md.2.2.2 = some ty) (hd : decode cc pc = .ok (.invokevirtual idx, 3))
    (kk : ∀ (v : Int32) (M1 : Mem), oc = some (v, M1) → Cor KS ST own cc nL ret d tx FN cost (pc + 3) ls (.inl v :: rs) M1 (k v M1)) : Cor KS ST own cc nL ret d tx FN cost pc ls st0 M (bnd oc k) := by
  intro p l e s m args below meth c wp H locs la r M' C hP hS hl hnd ho
  subst hst
  obtain ⟨v, M1, h1, h2⟩ := bnd_of ho
  exact call_back (d2 := 0) (oc := none) hret (runV hE hd2 hw hi hsel hK hci hq hlink hn hlen hmL hrs hd C hP hS hl.1 h1) hS (fun H1 locs1 hP1 hS1 => kk v M1 h1 p l e s m args below meth c wp H1 locs1 la r M' C hP1 hS1 hl hnd h2)
theorem c_callVv {md : MD} {d2 idx n t ci n0 : Nat} {cq : vw_C} {as rs : List AV} {oc : Option (Int32 × Mem)} {k : Int32 → Mem → Option (ρ × Mem)} {st0 : List AV} (hE : Ev KS ST md d2 (.inr t :: as) M oc) (hst : as.reverse ++ .inr t :: rs = st0) (hd2 : d2 < d) (hw : mdW md) (hi : Cond.instanceMethod md.1 ∈ WS) (hsel : Cond.selects cq.1 md.1 md.1 ∈ WS) (hK : KS[t]? = some (ci, n0)) (hci : ci < 20) (hq : clX[ci]? = some cq) (hlink : Cond.methodLink own idx md.1 ∈ WS) (hn : (parseMethodDescriptor md.1.desc).map (fun d => d.parameters.length) = some n) (hlen : as.length = n) (hmL : md.2.2.1 ≤ 45) (hrs : rs.length ≤ 8) (hret : md.2.2.2 = none) (hd : decode cc pc = .ok (.invokevirtual idx, 3))
    (kk : ∀ (v : Int32) (M1 : Mem), oc = some (v, M1) → Cor KS ST own cc nL ret d tx FN cost (pc + 3) ls rs M1 (k v M1)) : Cor KS ST own cc nL ret d tx FN cost pc ls st0 M (bnd oc k) := by
  intro p l e s m args below meth c wp H locs la r M' C hP hS hl hnd ho
  subst hst
  obtain ⟨v, M1, h1, h2⟩ := bnd_of ho
  exact call_backV (d2 := 0) hret (runV hE hd2 hw hi hsel hK hci hq hlink hn hlen hmL hrs hd C hP hS hl.1 h1) hS (fun H1 locs1 hP1 hS1 => kk v M1 h1 p l e s m args below meth c wp H1 locs1 la r M' C hP1 hS1 hl hnd h2)
theorem c_callSp {md : MD} {d2 idx n : Nat} {as rs : List AV} {v : Int32} {M1 : Mem} {st0 : List AV} (hE : Ev KS ST md d2 as M (some (v, M1))) (hst : as.reverse ++ rs = st0) (hd2 : d2 < d) (hw : mdW md) (hs : Cond.static md.1 ∈ WS) (hlink : Cond.methodLink own idx md.1 ∈ WS) (hn : (parseMethodDescriptor md.1.desc).map (fun d => d.parameters.length) = some n) (hlen : as.length = n) (hmL : md.2.2.1 ≤ 45) (hrs : rs.length ≤ 8) (hret : ∃ ty, md.2.2.2 = some ty) (hd : decode cc pc = .ok (.invokestatic idx, 3))
    (kk : Cor KS ST own cc nL ret d tx FN cost (pc + 3) ls (.inl v :: rs) M1 o) : Cor KS ST own cc nL ret d tx FN cost pc ls st0 M o :=
  c_callS (k := fun _ _ => o) hE hst hd2 hw hs hlink hn hlen hmL hrs hret hd (fun v2 M2 h => by cases h; exact kk)
theorem c_callNp {md : MD} {d2 idx n : Nat} {host : String} {as rs : List AV} {v : Int32} {M1 : Mem} {st0 : List AV} (hE : Ev KS ST md d2 as M (some (v, M1))) (hst : as.reverse ++ rs = st0) (hd2 : d2 < d) (hw : mdW md) (hs : Cond.static md.1 ∈ WS) (hlink : Cond.methodLinkNest own idx md.1 host ∈ nestW) (hn : (parseMethodDescriptor md.1.desc).map (fun d => d.parameters.length) = some n) (hlen : as.length = n) (hmL : md.2.2.1 ≤ 45) (hrs : rs.length ≤ 8) (hret : ∃ ty, md.2.2.2 = some ty) (hd : decode cc pc = .ok (.invokestatic idx, 3))
    (kk : Cor KS ST own cc nL ret d tx FN cost (pc + 3) ls (.inl v :: rs) M1 o) : Cor KS ST own cc nL ret d tx FN cost pc ls st0 M o :=
  c_callN (k := fun _ _ => o) hE hst hd2 hw hs hlink hn hlen hmL hrs hret hd (fun v2 M2 h => by cases h; exact kk)
theorem c_callVp {md : MD} {d2 idx n t ci n0 : Nat} {cq : vw_C} {as rs : List AV} {v : Int32} {M1 : Mem} {st0 : List AV} (hE : Ev KS ST md d2 (.inr t :: as) M (some (v, M1))) (hst : as.reverse ++ .inr t :: rs = st0) (hd2 : d2 < d) (hw : mdW md) (hi : Cond.instanceMethod md.1 ∈ WS) (hsel : Cond.selects cq.1 md.1 md.1 ∈ WS) (hK : KS[t]? = some (ci, n0)) (hci : ci < 20) (hq : clX[ci]? = some cq) (hlink : Cond.methodLink own idx md.1 ∈ WS) (hn : (parseMethodDescriptor md.1.desc).map (fun d => d.parameters.length) = some n) (hlen : as.length = n) (hmL : md.2.2.1 ≤ 45) (hrs : rs.length ≤ 8) (hret : ∃ ty, md.2.2.2 = some ty) (hd : decode cc pc = .ok (.invokevirtual idx, 3))
    (kk : Cor KS ST own cc nL ret d tx FN cost (pc + 3) ls (.inl v :: rs) M1 o) : Cor KS ST own cc nL ret d tx FN cost pc ls st0 M o :=
  c_callV (k := fun _ _ => o) hE hst hd2 hw hi hsel hK hci hq hlink hn hlen hmL hrs hret hd (fun v2 M2 h => by cases h; exact kk)
/-! the library's own -/
def imax (x y : Int32) : Int32 := if x < y then y else x
def imin (x y : Int32) : Int32 := if y < x then y else x
theorem c_max {idx : Nat} {x y : Int32} (hlink : Cond.methodLink own idx Lib.Math.max.name ∈ WS) (hd0 : 0 < d) (hrs : st.length ≤ 8) (hd : decode cc pc = .ok (.invokestatic idx, 3)) (kk : Cor KS ST own cc nL ret d tx FN cost (pc + 3) ls (.inl (imax x y) :: st) M o) : Cor KS ST own cc nL ret d tx FN cost pc ls (.inl y :: .inl x :: st) M o := by
  refine c_step (fun p l e s m args below meth c wp H locs la r Q C hP hS hl kk => ?_) kk
  obtain ⟨hx, hb, hr, hml, hown, hts, hlk, hKK, hE, ok, hbz, -⟩ := C
  exact va_mmax hx hb (by rw [hml]; exact hl.1.symm) hown (hts _ hlink) (hts _ wx_max_static) (hts _ wx_Math) (hts _ wx_max_code) (show 1 ≤ (rmd d (cost r)).frames from hd0) (show _ ≤ (rmd d (cost r)).locals by rw [trs_cat]; show st.length + 13 ≤ 64 * d; omega) (Nat.zero_le _) (Nat.zero_le _) hd kk
theorem c_min {idx : Nat} {x y : Int32} (hlink : Cond.methodLink own idx Lib.Math.min.name ∈ WS) (hd0 : 0 < d) (hrs : st.length ≤ 8) (hd : decode cc pc = .ok (.invokestatic idx, 3)) (kk : Cor KS ST own cc nL ret d tx FN cost (pc + 3) ls (.inl (imin x y) :: st) M o) : Cor KS ST own cc nL ret d tx FN cost pc ls (.inl y :: .inl x :: st) M o := by
  refine c_step (fun p l e s m args below meth c wp H locs la r Q C hP hS hl kk => ?_) kk
  obtain ⟨hx, hb, hr, hml, hown, hts, hlk, hKK, hE, ok, hbz, -⟩ := C
  exact va_mmin hx hb (by rw [hml]; exact hl.1.symm) hown (hts _ hlink) (hts _ wx_min_static) (hts _ wx_Math) (hts _ wx_min_code) (show 1 ≤ (rmd d (cost r)).frames from hd0) (show _ ≤ (rmd d (cost r)).locals by rw [trs_cat]; show st.length + 13 ≤ 64 * d; omega) (Nat.zero_le _) (Nat.zero_le _) hd kk
/-- arraycopy between arrays of ints (and of booleans) -/
abbrev cpOk (n0 n1 : Nat) (sp dp n : Int32) : Prop := ¬ sp < 0 ∧ ¬ dp < 0 ∧ ¬ n < 0 ∧ ix sp + ix n ≤ n0 ∧ ix dp + ix n ≤ n1
def cpy (M : Mem) (a : Nat) (sp : Int32) (b : Nat) (dp n : Int32) : Mem := upA M b (va_cpy (M a) (M b) (ix sp) (ix dp) (ix n))
theorem cp_room {k d : Nat} (hk : k ≤ 8) (hd : 0 < d) : k + (nativeFrameWords "java/lang/System" "arraycopy" 5 + 11) ≤ 64 * d := by
  have : nativeFrameWords "java/lang/System" "arraycopy" 5 ≤ 40 := by decide +kernel
  omega
theorem c_copy {idx a b n0 n1 : Nat} {sp dp n : Int32} (hlink : Cond.methodLink own idx arraycopyName ∈ WS) (hKa : KS[a]? = some (20, n0)) (hKb : KS[b]? = some (20, n1)) (hc : cpOk n0 n1 sp dp n) (hd0 : 0 < d) (hrs : st.length ≤ 8) (hd : decode cc pc = .ok (.invokestatic idx, 3)) (kk : Cor KS ST own cc nL ret d tx FN cost (pc + 3) ls st (cpy M a sp b dp n) o) : Cor KS ST own cc nL ret d tx FN cost pc ls (.inl n :: .inl dp :: .inr b :: .inl sp :: .inr a :: st) M o := by
  intro p l e s m args below meth c wp H locs la r M' C hP hS hl hn ho
  obtain ⟨hx, hb, hr, hml, hown, hts, hlk, hKK, hE, ok, hbz, -⟩ := id C
  obtain ⟨h1, h2, h3, h4, h5⟩ := hc
  refine va_copyi hx hb (by rw [hml]; exact hl.1.symm) hown (hts _ hlink) (hts _ wx_arraycopy_native) (hts _ wx_arraycopy_static) (hts _ wx_System) hKK hP (wl_D ok M _) hS a b 0 0 (wl_get hKa) (wl_get hKb) rfl rfl rfl h1 h2 h3 h4 h5 (fun _ _ => rfl) (show 1 ≤ (rmd d (cost r)).frames from hd0) (show _ ≤ (rmd d (cost r)).locals by rw [trs_cat]; exact cp_room hrs hd0) hd (fun H1 locs1 hP1 _ hS1 => ?_)
  refine kk p l e s m args below meth c wp H1 locs1 la r M' C ?_ hS1 hl hn ho
  unfold cpy
  rw [← wl_set (wp := wp) hKb]
  exact hP1
end CC
section CE
variable {KS : List Kd} {ST : StrT} {own : String} {cc : ByteArray} {nL : Nat} {ret : Option FieldType} {d : Nat} {pc : Nat} {ls : List (Nat × AV)} {st : List AV} {M : Mem}
/-! the ends -/
theorem c_iret {v : Int32} (hr : ret = some .int) (hd : decode cc pc = .ok (.ireturn, 1)) : CorM KS ST own cc nL ret d pc ls [.inl v] M (some (v, M)) := by
  intro p l e s m args below meth c wp H locs la r M' C hP hS hl hn ho
  cases ho
  obtain ⟨hx, hb, hr0, hml, hown, hts, hlk, hKK, hE, ok, hbz, -⟩ := id C
  subst hr
  exact W.iret hx hb hr0 (fun t ht hW => ⟨⟨v, (), rfl, rfl, by rw [ht]; exact hP, va_K.moved hW.alike hKK, by rw [ht]; exact hE.next hW (fun a h1 h2 => hS.2.1 a h1 (fun h => h2 (Aw_B0 ok hbz a h)))⟩, hS.F ht⟩) hS.2.2 hd hlk
theorem c_zret {v : Int32} (hr : ret = some .boolean) (hv : isB v) (hd : decode cc pc = .ok (.ireturn, 1)) : CorM KS ST own cc nL ret d pc ls [.inl v] M (some (v, M)) := by
  intro p l e s m args below meth c wp H locs la r M' C hP hS hl hn ho
  cases ho
  obtain ⟨hx, hb, hr0, hml, hown, hts, hlk, hKK, hE, ok, hbz, -⟩ := id C
  subst hr
  exact W.zret hx hb hr0 (by rcases hv with rfl | rfl <;> rfl) (fun t ht hW => ⟨⟨v, (), rfl, rfl, by rw [ht]; exact hP, va_K.moved hW.alike hKK, by rw [ht]; exact hE.next hW (fun a h1 h2 => hS.2.1 a h1 (fun h => h2 (Aw_B0 ok hbz a h)))⟩, hS.F ht⟩) hS.2.2 hd hlk
theorem c_vret (hr : ret = none) (hd : decode cc pc = .ok (.return_, 1)) : CorM KS ST own cc nL ret d pc ls [] M (some (0, M)) := by
  intro p l e s m args below meth c wp H locs la r M' C hP hS hl hn ho
  cases ho
  obtain ⟨hx, hb, hr0, hml, hown, hts, hlk, hKK, hE, ok, hbz, -⟩ := id C
  subst hr
  exact W.vret hx hb hr0 (fun t ht hW => ⟨⟨(), rfl, trivial, by rw [ht]; exact hP, va_K.moved hW.alike hKK, by rw [ht]; exact hE.next hW (fun a h1 h2 => hS.2.1 a h1 (fun h => h2 (Aw_B0 ok hbz a h)))⟩, hS.F ht⟩) hS.2.2 hd hlk
/-- the locals at the entry -/
def enl (i : Nat) : List AV → List (Nat × AV)
  | [] => []
  | v :: t => (i, v) :: enl (i + 1) t
theorem enl_tr (wp : Wp) : ∀ (as : List AV) (i : Nat), trl wp (enl i as) = lv_args i (trs wp as) := by
  intro as
  induction as with
  | nil => intro i; rfl
  | cons v t ih =>
    intro i
    have h1 := ih (i + 1)
    cases v with
    | inl x => exact congrArg (fun q => (i, Value.int x) :: q) h1
    | inr x => exact congrArg (fun q => (i, Value.ref (wp.1 x)) :: q) h1
theorem enl_lt : ∀ (as : List AV) (i : Nat) (q : Nat × AV), q ∈ enl i as → i ≤ q.1 := by
  intro as
  induction as with
  | nil => intro i q h; cases h
  | cons v t ih =>
    intro i q h
    rcases List.mem_cons.mp h with rfl | h
    · exact Nat.le_refl _
    · exact Nat.le_of_succ_le (ih (i + 1) q h)
theorem enl_nd : ∀ (as : List AV) (i : Nat), ((enl i as).map (·.1)).Nodup := by
  intro as
  induction as with
  | nil => intro i; exact List.nodup_nil
  | cons v t ih =>
    intro i
    refine List.nodup_cons.mpr ⟨fun h => ?_, ih (i + 1)⟩
    obtain ⟨q, hq, e⟩ := List.mem_map.mp h
    have h2 := enl_lt t (i + 1) q hq
    have e2 : q.1 = i := e
    omega
theorem lg_len (wp : Wp) (as : List AV) : (lg_sl (trs wp as)).length = as.length := by
  induction as with
  | nil => rfl
  | cons v t ih => cases v <;> simp [lg_sl, trs, tr, Value.category] at ih ⊢ <;> first | omega | exact ih
/-- A CONTRACT OUT OF A WALK -/
theorem ev_of {md : MD} {as : List AV} {o : Option (Int32 × Mem)} (hp : plainName md.1.cls = true) (hlen : as.length ≤ md.2.2.1) (h : CorM KS ST md.1.cls md.2.1 md.2.2.1 md.2.2.2 d 0 (enl 0 as) [] M o) : Ev KS ST md d as M o := by
  intro l wp sz r M' hst ok hbz ho
  refine Met.ofW (cc := md.2.1) (maxL := md.2.2.1) (ret := md.2.2.2) hp rfl ?_
  intro p e s m args below meth c s₁ B hml hv
  obtain ⟨rfl, rfl, hP, hK, hE⟩ := hv
  have hts := atoms_spec (ws := Cond.code md.1 md.2.1 md.2.2.1 md.2.2.2 :: WS) B.pre
  have hl := lv_entry (trs wp as) (n := md.2.2.1) (by rw [lg_len]; exact hlen)
  rw [lg_entry_eq]
  rw [← enl_tr] at hl
  exact h p l e s m _ below meth c wp s.heap [] _ r M' ⟨B.exec, B.bytes, B.returns, hml, findClass_of_methodNamed B.named, fun w hw => hts w (List.mem_cons_of_mem _ hw), B.notSynchronized, hK, hE, ok, hbz, hst, fun h => by cases h⟩ hP va_S.rf hl (enl_nd as 0) ho
/-- a way that is known -/
theorem c_T {ρ : Type} {tx : Bool} {FN : FNt ρ} {cost : ρ → Nat × Nat} {o : Option (ρ × Mem)} {b : Prop} [Decidable b] (hb : b) (h : Cor KS ST own cc nL ret d tx FN cost pc ls st M (if b then o else none)) : Cor KS ST own cc nL ret d tx FN cost pc ls st M o := by
  rw [if_pos hb] at h; exact h
theorem c_Fl {ρ : Type} {tx : Bool} {FN : FNt ρ} {cost : ρ → Nat × Nat} {o : Option (ρ × Mem)} {b : Prop} [Decidable b] (hb : ¬ b) (h : Cor KS ST own cc nL ret d tx FN cost pc ls st M (if b then none else o)) : Cor KS ST own cc nL ret d tx FN cost pc ls st M o := by
  rw [if_neg hb] at h; exact h
theorem c_ite {ρ : Type} {tx : Bool} {FN : FNt ρ} {cost : ρ → Nat × Nat} {o1 o2 : Option (ρ × Mem)} {b : Prop} [Decidable b] (kt : b → Cor KS ST own cc nL ret d tx FN cost pc ls st M o1) (kf : ¬ b → Cor KS ST own cc nL ret d tx FN cost pc ls st M o2) : Cor KS ST own cc nL ret d tx FN cost pc ls st M (if b then o1 else o2) := by
  by_cases hb : b
  · rw [if_pos hb]; exact kt hb
  · rw [if_neg hb]; exact kf hb
theorem isB_ite {b : Prop} [Decidable b] {x y : Int32} (h1 : isB x) (h2 : isB y) : isB (if b then x else y) := by
  by_cases hb : b
  · rw [if_pos hb]; exact h1
  · rw [if_neg hb]; exact h2
/-- far above what any loop of these programs needs -/
def fuelL : Nat := 10000
/-- a loop -/
theorem c_loop {ρ : Type} {tx : Bool} {FN : FNt ρ} {cost : ρ → Nat × Nat} {σ : Type} {body : (σ → Option (ρ × Mem)) → σ → Option (ρ × Mem)} {L : σ → List (Nat × AV)} {Mf : σ → Mem} (h : ∀ (K : σ → Option (ρ × Mem)), (∀ s, Cor KS ST own cc nL ret d tx FN cost pc (L s) st (Mf s) (K s)) → ∀ s, Cor KS ST own cc nL ret d tx FN cost pc (L s) st (Mf s) (body K s)) (n : Nat) (s : σ) : Cor KS ST own cc nL ret d tx FN cost pc (L s) st (Mf s) (loopC body n s) := by
  induction n generalizing s with
  | zero => exact c_none
  | succ n ih => exact h _ ih s
end CE
