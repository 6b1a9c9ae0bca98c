section NS
variable {p : Program} {l : Launch} {e : Env} {R : Room} {s : State} {m0 : MethodId} {args : Array Value} {below : List Frame} {meth : Method} {c : Code} {W0 : State} {cells slots : Nat}
/-- one of the class's methods is the one that a call on it selects -/
theorem ns_sel (hA : l.admits e) {X : String} {t : MethodName} {k : ClassId} {tm : MethodId} (hX : s.vm.findClass X = some k) (hn : s.methodNamed? t = some tm) (hp : s.methodFound? t.cls t.name t.desc = some tm) (h : (Cond.selects X t t).before args s = true) : selectMethod e.platform s.vm k tm = .method tm := by
  obtain ⟨c2, r2, m2, q1, q2, q3, q4, -⟩ := Cond.selects_spec h
  cases Option.some.inj (q1.symm.trans hX)
  cases Option.some.inj (q2.symm.trans hp)
  cases Option.some.inj (q3.symm.trans hn)
  rw [Launch.admits_selectMethod hA]
  exact q4
theorem ns_made (X : Stand p l e R s m0 args below meth c W0 [] cells slots) (hexec : p.tables.exec = Jvm.exec) (htr : e.platform.stackTraces = false) (hown : s.vm.findClass RX9 = some m0.cls) (h : ∀ w ∈ nsA, w.before args s = true) {a : Addr} {cX : ClassId} {kX : Class} (hfX : s.vm.findClass nsN = some cX) (hkX : s.vm.classes[cX]? = some kX) (hcell : W0.heap[a]? = some (freshCell cX kX)) (hnew : s.heap.size ≤ a) {msg : Value} (hmsg : msg.isRef = true) {g : JFrame} (hg : g.method = m0) (hsize : g.locals.size = c.maxLocals) (hlocked : g.locked = none) (hentered : g.entered = []) {rest : List Value} (hstack : g.stack = msg :: .ref a :: .ref a :: rest) (hd6 : decode c.code g.pc = .ok (.invokespecial 339, 3)) (hd9 : decode c.code (g.pc + 3) = .ok (.athrow, 1)) (hout : ∀ x ∈ c.exceptionTable.toList, covers x (g.pc + 3) = false) (hRframes : 2 + 3 < R.frames) (hRlocals : 2 * g.monitorRoom + ((Value.ref a :: rest).map fun v => v.category).sum + (13 * (2 + 1) + 42) ≤ R.locals) (hlocks : meth.locks = false) : ∃ U : State, Steps p.tables e below (W0.setTop g) U ∧ U.status = .running ∧ Ended U below (.threw a) ∧ s.WarmedH U.vm ∧ s.sameButNew ({ U with vm := s.vm } : State) [] cells slots ∧ ∃ ce, U.heap[a]? = some ce ∧ ce.vm = .none ∧ s.vm.findClass nsN = some ce.cls := by
  have pf := X.admits.platform
  have hpl : e.platform.magicAccessors = ({} : Platform).magicAccessors := by rw [pf]
  have w : ∀ x, decide (x ∈ nsA) = true → x.before args s = true := fun x hx => h x (of_decide_eq_true hx)
  obtain ⟨T, Z0, LT, -, Y⟩ := ThrowableC.of_atoms (args := args) (by rw [pf] : e.platform.frameOwnsMonitors = true) (by rw [pf] : e.platform.finalization = false) hpl (ns_sub ns_t h)
  obtain ⟨Z, I, LZ, LI, hnZ⟩ := Init0T.ofS_atoms (args := args) hpl LT Y (ns_sub ns_s h)
  obtain ⟨P1, L1, hm1, hs1⟩ := PassC.ofS_atoms (args := args) (s := s) hpl (X := nsN) (Y := rtN) (by decide) (by decide) ns_0 ns_1 ns_2 ns_5 (ns_sub ns_p h)
  obtain ⟨P2, Ps, hlen, L2, hL, hm2, hsup, hpass⟩ := Bundle.chainS (args := args) hpl hnZ ["java/lang/Exception"] rtN (by decide) (by decide) (ns_sub ns_c h)
  have hfd : s.vm.findClass nsN = some P1.m.cls := findClass_of_methodNamed hm1
  cases Option.some.inj (hfX.symm.trans hfd)
  obtain ⟨c1, k1, hc1, hk, hord, -, -, hn6⟩ := Cond.instantiable_spec (w (.instantiable nsN 6) (by decide +kernel))
  cases Option.some.inj (hc1.symm.trans hfd)
  cases Option.some.inj (hkX.symm.trans hk)
  have sel0 := ns_sel X.admits hfd Y.fill0 (State.methodFound?_of_named Y.fill0 (by decide)) (w (.selects nsN Bundle.tFill0 Bundle.tFill0) (by decide +kernel))
  have selF := ns_sel X.admits hfd Y.fill (State.methodFound?_of_named Y.fill (by decide)) (w (.selects nsN Bundle.tFill Bundle.tFill) (by decide +kernel))
  obtain ⟨cS, hcS, hiS⟩ := Y.statics
  obtain ⟨u0, hu0⟩ := Cond.staticRefV Y.unassigned LT.unassignedStatic LT.statics hcS hiS (w (.isRef (.static Bundle.tN "UNASSIGNED_STACK" Bundle.steD)) (by decide +kernel))
  obtain ⟨sen, hsen⟩ := Cond.staticRefV Y.sentinel LT.sentinelStatic LT.statics hcS hiS (w (.isRef (.static Bundle.tN "SUPPRESSED_SENTINEL" Bundle.listD)) (by decide +kernel))
  obtain ⟨ci9, i9, fB, hk9, hg9, ha9, hsB, -, hnB, htB, hffB⟩ := Cond.ownField (t := .object "java/lang/Object") Y.found LT.cls (by decide +kernel) (w (.fieldLink Bundle.tN 198 Bundle.tN "backtrace" "Ljava/lang/Object;") (by decide +kernel)) (w (.lays Bundle.tN Bundle.tN "backtrace" "Ljava/lang/Object;") (by decide +kernel)) e.platform hpl
  obtain ⟨cW, hcW, heW, -, keep⟩ := X.same.2.2.2.2.2 T.aS cS hcS
  have hcW : W0.heap[T.aS]? = some cW := hcW
  have noL : ∀ i, (⟨T.aS, i⟩ : Loc) ∉ ([] : List Loc) := fun _ q => nomatch q
  have known : cW.vm ≠ .unknown := by
    rw [heW]
    intro q
    rw [show cS.vm = .unknown from q] at hiS
    cases hiS
  have apart : T.aS ≠ a := Nat.ne_of_lt (Nat.lt_of_lt_of_le (Array.getElem?_eq_some_iff.mp hcS).1 hnew)
  obtain ⟨iM, hffM⟩ := Y.msg
  obtain ⟨tyC, dC, gC, nC⟩ := Cond.laysAt hfd hk Y.cause (w (.lays nsN Bundle.tN "cause" "Ljava/lang/Throwable;") (by decide +kernel))
  obtain ⟨tyS, dS, gS, nS⟩ := Cond.laysAt hfd hk Y.stack (w (.lays nsN Bundle.tN "stackTrace" Bundle.steD) (by decide +kernel))
  obtain ⟨tyP, dP, gP, nP⟩ := Cond.laysAt hfd hk Y.supp (w (.lays nsN Bundle.tN "suppressedExceptions" Bundle.listD) (by decide +kernel))
  obtain ⟨tyM, dM, gM, nM⟩ := Cond.laysAt hfd hk hffM (w (.lays nsN Bundle.tN "detailMessage" "Ljava/lang/String;") (by decide +kernel))
  obtain ⟨tyB, dB_, gB, nB⟩ := Cond.laysAt hfd hk hffB (w (.lays nsN Bundle.tN "backtrace" "Ljava/lang/Object;") (by decide +kernel))
  have bC := Cond.laysApart gB gC nB nC (by rw [hnB, Y.causeName]; decide)
  have bS := Cond.laysApart gB gS nB nS (by rw [hnB, Y.stackName]; decide)
  have bP := Cond.laysApart gB gP nB nP (by rw [hnB, Y.suppName]; decide)
  have skip : SkipFacts T e.platform s (fun u => u) u0 ((preparedCellV T.toThrowableT (freshCell P1.m.cls kX) a u0 sen).withEntry W0.cur) := by
    refine ⟨{ ci198 := ci9, i198 := i9, fBack := fB }, ⟨hk9, hg9, ha9, hsB⟩, ?_, fun _ _ => rfl⟩
    have q := fresh_default (c := P1.m.cls) tyB
    rw [htB] at q
    simpa [preparedCellV, Cell.setSlot, Cell.withEntry, Array.getElem?_setIfInBounds, bC, bS, bP, bC.symm, bS.symm, bP.symm, defaultValue] using q
  obtain ⟨tm, methC, cdC, kC, v1, hnC, -, -, -, -, -, -, -, hW1, st1⟩ := Steps.initColdS (tb := p.tables) (e := e) (below := below) (s := s) (U := W0) X.here hexec X.warmed hpl hown (t := Bundle.initS nsN) rfl rfl (by decide) (w (.methodLink RX9 339 (Bundle.initS nsN)) (by decide +kernel)) (w (.instanceMethod (Bundle.initS nsN)) (by decide +kernel)) (bytes := prog_31_method_4_code) (maxL := 2) (w (.code (Bundle.initS nsN) prog_31_method_4_code 2 none) (by decide +kernel)) (f := g) hg (a := a) (msg := msg) (rest := .ref a :: rest) hstack hd6
  cases Option.some.inj (hnC.symm.trans hm1)
  obtain ⟨v2, X2, st2⟩ := (X.noted hW1).ctorMessageOffV hexec (g := { g with stack := .ref a :: rest }) hg hsize T LT Z LZ I LI (P1 :: P2 :: Ps)
    (fun P hP => by
      rcases List.mem_cons.mp hP with q | q
      · rw [q]; exact L1
      · rcases List.mem_cons.mp q with q | q
        · rw [q]; exact L2
        · exact hL P q) ⟨Option.some.inj (hs1.symm.trans hm2), hsup, hpass⟩ (u0 := u0) (sen := sen) (self := a) hmsg (cell := freshCell P1.m.cls kX) (cellS := cW)
    hcell (fun _ => by simp) (by simp) rfl rfl sel0 selF hcW apart known (by rw [keep _ (noL _)]; exact hu0) (by rw [keep _ (noL _)]; exact hsen)
    (Takes.of_laid hk hord tyC (by rw [Y.causeType]; rfl)) (Takes.of_laid hk hord tyS (by rw [Y.stackType]; exact fits_refV_array _ u0)) (Takes.of_laid hk hord tyP (by rw [Y.suppType]; exact fits_refV_object _ sen))
    (Takes.of_laid hk hord tyM (by rw [Y.msgType]; exact fits_refV_object _ ⟨msg, hmsg⟩)) Y.objLocals skip htr [] hd6
    (by simp only [List.length_cons, hlen, List.length_nil]; omega) (by simp only [List.length_cons, hlen, List.length_nil]; exact hRlocals)
  obtain ⟨walk, run, ended, hWU, same⟩ := X2.athrowLeaves hexec (g := { g with stack := .ref a :: rest, pc := g.pc + 3 }) hg hlocked hentered hout (a := a) (rest := rest) rfl hd9
  have lt : a < ((W0.setVm v1).setVm v2).heap.size := (Array.getElem?_eq_some_iff.mp hcell).1
  have hU := heapAt_setCell_self (s := (W0.setVm v1).setVm v2) (plainBareV T.toThrowableT (freshCell P1.m.cls kX) a u0 sen msg) lt
  refine ⟨_, st1 _ (fun acts => ?_), run, ended, hWU, same.weaken (fun y hy hlt => ?_) (Nat.le_refl _) (Nat.le_refl _), _, hU, rfl, hfd⟩
  · rw [doInvoke_state]
    exact st2 _ walk
  · exfalso
    have q : y.base = a := by
      simp only [List.nil_append, List.mem_cons, List.not_mem_nil, or_false] at hy
      rcases hy with q | q | q | q | q <;> rw [q]
    rw [q] at hlt
    exact Nat.not_lt.mpr hnew hlt
end NS
