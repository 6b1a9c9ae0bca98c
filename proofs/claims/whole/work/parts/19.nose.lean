/-! ===== new NoSuchElementException(text) ===== -/
abbrev nsN : String := "java/util/NoSuchElementException"
abbrev rtN : String := "java/lang/RuntimeException"
/-- the words about it: those of any such class but for its constructor's pool entry -/
def nsA : List Cond := (Bundle.ownAtoms RX9 339 nsN exN).filter (fun w => !decide (w ∈ Bundle.passSAtoms nsN rtN 7 Bundle.six)) ++ Bundle.passSAtoms nsN rtN 13 prog_31_method_4_code
theorem ns_sub {L : List Cond} (h : L.all (fun w => decide (w ∈ nsA)) = true) {args : Array Value} {s : State} (g : ∀ w ∈ nsA, w.before args s = true) : ∀ w ∈ L, w.before args s = true := fun w hw => g w (of_decide_eq_true (List.all_eq_true.mp h w hw))
theorem ns_t : Bundle.throwableAtoms.all (fun w => decide (w ∈ nsA)) = true := by decide +kernel
theorem ns_s : Bundle.throwableSAtoms.all (fun w => decide (w ∈ nsA)) = true := by decide +kernel
theorem ns_p : (Bundle.passSAtoms nsN rtN 13 prog_31_method_4_code).all (fun w => decide (w ∈ nsA)) = true := by decide +kernel
theorem ns_c : (Bundle.chainSAtoms rtN ["java/lang/Exception"]).all (fun w => decide (w ∈ nsA)) = true := by decide +kernel
theorem ns_ws : ((nsA.filter vx_no).filter goodWord).all (fun w => decide (w ∈ WS)) = true := by decide +kernel
theorem ns_nw : ((nsA.filter vx_no).filter (fun w => !goodWord w)).all (fun w => decide (w ∈ nestW)) = true := by decide +kernel
theorem ns_ot : ∀ w ∈ Cond.classLink RX9 335 nsN :: Cond.initialized nsN :: nsA.filter vx_no, vx_ot w = true := by decide +kernel
theorem ns_ini : (decide (Cond.initialized nsN ∈ WS)) = true := by decide +kernel
theorem ns_0 : decode prog_31_method_4_code 0 = .ok (.aload_n 0, 1) := by decide +kernel
theorem ns_1 : decode prog_31_method_4_code 1 = .ok (.aload_n 1, 1) := by decide +kernel
theorem ns_2 : decode prog_31_method_4_code 2 = .ok (.invokespecial 13, 3) := by decide +kernel
theorem ns_5 : decode prog_31_method_4_code 5 = .ok (.return_, 1) := by decide +kernel
section NS
variable {p : Program} {l : Launch} {e : Env} {R : Room} {s : State} {m0 : MethodId} {args : Array Value} {below : List Frame} {meth : Method} {c : Code} {W0 : State} {cells slots : Nat}
/-- one of the class's methods is the one that a call on it selects -/
theorem ns_sel (hA : l.admits e) {X : String} {t : MethodName} {k : ClassId} {tm : MethodId} (hX : s.vm.findClass X = some k) (hn : s.methodNamed? t = some tm) (hp : s.methodFound? t.cls t.name t.desc = some tm) (h : (Cond.selects X t t).before args s = true) : selectMethod e.platform s.vm k tm = .method tm := by
  obtain ⟨c2, r2, m2, q1, q2, q3, q4, -⟩ := Cond.selects_spec h
  cases Option.some.inj (q1.symm.trans hX)
  cases Option.some.inj (q2.symm.trans hp)
  cases Option.some.inj (q3.symm.trans hn)
  rw [Launch.admits_selectMethod hA]
  exact q4
theorem ns_made (X : Stand p l e R s m0 args below meth c W0 [] cells slots) (hexec : p.tables.exec = Jvm.exec) (htr : e.platform.stackTraces = false) (hown : s.vm.findClass RX9 = some m0.cls) (h : ∀ w ∈ nsA, w.before args s = true) {a : Addr} {cX : ClassId} {kX : Class} (hfX : s.vm.findClass nsN = some cX) (hkX : s.vm.classes[cX]? = some kX) (hcell : W0.heap[a]? = some (freshCell cX kX)) (hnew : s.heap.size ≤ a) {msg : Value} (hmsg : msg.isRef = true) {g : JFrame} (hg : g.method = m0) (hsize : g.locals.size = c.maxLocals) (hlocked : g.locked = none) (hentered : g.entered = []) {rest : List Value} (hstack : g.stack = msg :: .ref a :: .ref a :: rest) (hd6 : decode c.code g.pc = .ok (.invokespecial 339, 3)) (hd9 : decode c.code (g.pc + 3) = .ok (.athrow, 1)) (hout : ∀ x ∈ c.exceptionTable.toList, covers x (g.pc + 3) = false) (hRframes : 2 + 3 < R.frames) (hRlocals : 2 * g.monitorRoom + ((Value.ref a :: rest).map fun v => v.category).sum + (13 * (2 + 1) + 42) ≤ R.locals) (hlocks : meth.locks = false) : ∃ U : State, Steps p.tables e below (W0.setTop g) U ∧ U.status = .running ∧ Ended U below (.threw a) ∧ s.WarmedH U.vm ∧ s.sameButNew ({ U with vm := s.vm } : State) [] cells slots ∧ ∃ ce, U.heap[a]? = some ce ∧ ce.vm = .none ∧ s.vm.findClass nsN = some ce.cls := by
  have pf := X.admits.platform
  have hpl : e.platform.magicAccessors = ({} : Platform).magicAccessors := by rw [pf]
  have w : ∀ x, decide (x ∈ nsA) = true → x.before args s = true := fun x hx => h x (of_decide_eq_true hx)
  obtain ⟨T, Z0, LT, -, Y⟩ := ThrowableC.of_atoms (args := args) (by rw [pf] : e.platform.frameOwnsMonitors = true) (by rw [pf] : e.platform.finalization = false) hpl (ns_sub ns_t h)
  obtain ⟨Z, I, LZ, LI, hnZ⟩ := Init0T.ofS_atoms (args := args) hpl LT Y (ns_sub ns_s h)
  obtain ⟨P1, L1, hm1, hs1⟩ := PassC.ofS_atoms (args := args) (s := s) hpl (X := nsN) (Y := rtN) (by decide) (by decide) ns_0 ns_1 ns_2 ns_5 (ns_sub ns_p h)
  obtain ⟨P2, Ps, hlen, L2, hL, hm2, hsup, hpass⟩ := Bundle.chainS (args := args) hpl hnZ ["java/lang/Exception"] rtN (by decide) (by decide) (ns_sub ns_c h)
  have hfd : s.vm.findClass nsN = some P1.m.cls := findClass_of_methodNamed hm1
  cases Option.some.inj (hfX.symm.trans hfd)
  obtain ⟨c1, k1, hc1, hk, hord, -, -, hn6⟩ := Cond.instantiable_spec (w (.instantiable nsN 6) (by decide +kernel))
  cases Option.some.inj (hc1.symm.trans hfd)
  cases Option.some.inj (hkX.symm.trans hk)
  have sel0 := ns_sel X.admits hfd Y.fill0 (State.methodFound?_of_named Y.fill0 (by decide)) (w (.selects nsN Bundle.tFill0 Bundle.tFill0) (by decide +kernel))
  have selF := ns_sel X.admits hfd Y.fill (State.methodFound?_of_named Y.fill (by decide)) (w (.selects nsN Bundle.tFill Bundle.tFill) (by decide +kernel))
  obtain ⟨cS, hcS, hiS⟩ := Y.statics
  obtain ⟨u0, hu0⟩ := Cond.staticRefV Y.unassigned LT.unassignedStatic LT.statics hcS hiS (w (.isRef (.static Bundle.tN "UNASSIGNED_STACK" Bundle.steD)) (by decide +kernel))
  obtain ⟨sen, hsen⟩ := Cond.staticRefV Y.sentinel LT.sentinelStatic LT.statics hcS hiS (w (.isRef (.static Bundle.tN "SUPPRESSED_SENTINEL" Bundle.listD)) (by decide +kernel))
  obtain ⟨ci9, i9, fB, hk9, hg9, ha9, hsB, -, hnB, htB, hffB⟩ := Cond.ownField (t := .object "java/lang/Object") Y.found LT.cls (by decide +kernel) (w (.fieldLink Bundle.tN 198 Bundle.tN "backtrace" "Ljava/lang/Object;") (by decide +kernel)) (w (.lays Bundle.tN Bundle.tN "backtrace" "Ljava/lang/Object;") (by decide +kernel)) e.platform hpl
  obtain ⟨cW, hcW, heW, -, keep⟩ := X.same.2.2.2.2.2 T.aS cS hcS
  have hcW : W0.heap[T.aS]? = some cW := hcW
  have noL : ∀ i, (⟨T.aS, i⟩ : Loc) ∉ ([] : List Loc) := fun _ q => nomatch q
  have known : cW.vm ≠ .unknown := by
    rw [heW]
    intro q
    rw [show cS.vm = .unknown from q] at hiS
    cases hiS
  have apart : T.aS ≠ a := Nat.ne_of_lt (Nat.lt_of_lt_of_le (Array.getElem?_eq_some_iff.mp hcS).1 hnew)
  obtain ⟨iM, hffM⟩ := Y.msg
  obtain ⟨tyC, dC, gC, nC⟩ := Cond.laysAt hfd hk Y.cause (w (.lays nsN Bundle.tN "cause" "Ljava/lang/Throwable;") (by decide +kernel))
  obtain ⟨tyS, dS, gS, nS⟩ := Cond.laysAt hfd hk Y.stack (w (.lays nsN Bundle.tN "stackTrace" Bundle.steD) (by decide +kernel))
  obtain ⟨tyP, dP, gP, nP⟩ := Cond.laysAt hfd hk Y.supp (w (.lays nsN Bundle.tN "suppressedExceptions" Bundle.listD) (by decide +kernel))
  obtain ⟨tyM, dM, gM, nM⟩ := Cond.laysAt hfd hk hffM (w (.lays nsN Bundle.tN "detailMessage" "Ljava/lang/String;") (by decide +kernel))
  obtain ⟨tyB, dB_, gB, nB⟩ := Cond.laysAt hfd hk hffB (w (.lays nsN Bundle.tN "backtrace" "Ljava/lang/Object;") (by decide +kernel))
  have bC := Cond.laysApart gB gC nB nC (by rw [hnB, Y.causeName]; decide)
  have bS := Cond.laysApart gB gS nB nS (by rw [hnB, Y.stackName]; decide)
  have bP := Cond.laysApart gB gP nB nP (by rw [hnB, Y.suppName]; decide)
  have skip : SkipFacts T e.platform s (fun u => u) u0 ((preparedCellV T.toThrowableT (freshCell P1.m.cls kX) a u0 sen).withEntry W0.cur) := by
    refine ⟨{ ci198 := ci9, i198 := i9, fBack := fB }, ⟨hk9, hg9, ha9, hsB⟩, ?_, fun _ _ => rfl⟩
    have q := fresh_default (c := P1.m.cls) tyB
    rw [htB] at q
    simpa [preparedCellV, Cell.setSlot, Cell.withEntry, Array.getElem?_setIfInBounds, bC, bS, bP, bC.symm, bS.symm, bP.symm, defaultValue] using q
  obtain ⟨tm, methC, cdC, kC, v1, hnC, -, -, -, -, -, -, -, hW1, st1⟩ := Steps.initColdS (tb := p.tables) (e := e) (below := below) (s := s) (U := W0) X.here hexec X.warmed hpl hown (t := Bundle.initS nsN) rfl rfl (by decide) (w (.methodLink RX9 339 (Bundle.initS nsN)) (by decide +kernel)) (w (.instanceMethod (Bundle.initS nsN)) (by decide +kernel)) (bytes := prog_31_method_4_code) (maxL := 2) (w (.code (Bundle.initS nsN) prog_31_method_4_code 2 none) (by decide +kernel)) (f := g) hg (a := a) (msg := msg) (rest := .ref a :: rest) hstack hd6
  cases Option.some.inj (hnC.symm.trans hm1)
  obtain ⟨v2, X2, st2⟩ := (X.noted hW1).ctorMessageOffV hexec (g := { g with stack := .ref a :: rest }) hg hsize T LT Z LZ I LI (P1 :: P2 :: Ps)
    (fun P hP => by
      rcases List.mem_cons.mp hP with q | q
      · rw [q]; exact L1
      · rcases List.mem_cons.mp q with q | q
        · rw [q]; exact L2
        · exact hL P q) ⟨Option.some.inj (hs1.symm.trans hm2), hsup, hpass⟩ (u0 := u0) (sen := sen) (self := a) hmsg (cell := freshCell P1.m.cls kX) (cellS := cW)
    hcell (fun _ => by simp) (by simp) rfl rfl sel0 selF hcW apart known (by rw [keep _ (noL _)]; exact hu0) (by rw [keep _ (noL _)]; exact hsen)
    (Takes.of_laid hk hord tyC (by rw [Y.causeType]; rfl)) (Takes.of_laid hk hord tyS (by rw [Y.stackType]; exact fits_refV_array _ u0)) (Takes.of_laid hk hord tyP (by rw [Y.suppType]; exact fits_refV_object _ sen))
    (Takes.of_laid hk hord tyM (by rw [Y.msgType]; exact fits_refV_object _ ⟨msg, hmsg⟩)) Y.objLocals skip htr [] hd6
    (by simp only [List.length_cons, hlen, List.length_nil]; omega) (by simp only [List.length_cons, hlen, List.length_nil]; exact hRlocals)
  obtain ⟨walk, run, ended, hWU, same⟩ := X2.athrowLeaves hexec (g := { g with stack := .ref a :: rest, pc := g.pc + 3 }) hg hlocked hentered hout (a := a) (rest := rest) rfl hd9
  have lt : a < ((W0.setVm v1).setVm v2).heap.size := (Array.getElem?_eq_some_iff.mp hcell).1
  have hU := heapAt_setCell_self (s := (W0.setVm v1).setVm v2) (plainBareV T.toThrowableT (freshCell P1.m.cls kX) a u0 sen msg) lt
  refine ⟨_, st1 _ (fun acts => ?_), run, ended, hWU, same.weaken (fun y hy hlt => ?_) (Nat.le_refl _) (Nat.le_refl _), _, hU, rfl, hfd⟩
  · rw [doInvoke_state]
    exact st2 _ walk
  · exfalso
    have q : y.base = a := by
      simp only [List.nil_append, List.mem_cons, List.not_mem_nil, or_false] at hy
      rcases hy with q | q | q | q | q <;> rw [q]
    rw [q] at hlt
    exact Nat.not_lt.mpr hnew hlt
end NS
section NT
variable {KS : List Kd} {ST : StrT} {cc : ByteArray} {nL : Nat} {ret : Option FieldType} {d : Nat} {pc : Nat} {ls : List (Nat × AV)} {st : List AV} {M : Mem}
theorem ns_throw {p : Program} {l : Launch} {e : Env} {R : Room} {s : State} {m : MethodId} {args : Array Value} {below : List Frame} {meth : Method} {c : Code} {H : Heap} {locs : List Loc} {cells slots : Nat} {mc ms : Nat} {free : Addr → Prop} {la : Array Slot} {rest : List Value} {Qc : Array Value → State → Outcome → State → Prop} {XC : String → State → State → Prop} {text : String} {is sa : Nat} {A : Nat → Prop}
    (hexec : p.tables.exec = Jvm.exec) (hb : c.code = cc) (hl : l.stackTraces = false) (hown : s.vm.findClass RX9 = some m.cls) (hk : (Cond.classLink RX9 335 nsN).before args s = true) (hini : (Cond.initialized nsN).before args s = true) (hstr : vk_R RX9 is text sa s) (hat : ∀ w ∈ nsA.filter vx_no, w.before args s = true)
    (hU : vx_Zq Bundle.tN "UNASSIGNED_STACK" Bundle.steD A s s.heap) (hN : vx_Zq Bundle.tN "SUPPRESSED_SENTINEL" Bundle.listD A s s.heap) (hS : va_S A s.heap H locs) (hsize : la.size = c.maxLocals)
    (d0 : decode cc pc = .ok (.new 335, 3)) (d3 : decode cc (pc + 3) = .ok (.dup, 1)) (d4 : decode cc (pc + 4) = .ok (.ldc_w is, 3)) (d7 : decode cc (pc + 7) = .ok (.invokespecial 339, 3)) (d10 : decode cc (pc + 10) = .ok (.athrow, 1)) (hout : ∀ x ∈ c.exceptionTable.toList, covers x (pc + 10) = false)
    (hRf : 2 + 3 < R.frames) (hRl : (rest.map fun v => v.category).sum + 82 ≤ R.locals) (hRc : cells + 1 ≤ R.cells) (hRs : slots + 6 ≤ R.slots) (hlocks : meth.locks = false)
    (hx : ∀ t : State, s.vm.Alike t.vm → H.size ≤ t.heap.size → (∀ q : Nat, q < H.size → t.heap[q]? = H[q]?) → XC nsN s t) (hf : ∀ z ∈ locs, free z.base) (hc : cells + 1 ≤ mc) (hs : slots + 6 ≤ ms) :
    W p l e R s m args below meth c H locs cells slots (vx_MQ below Qc XC args s mc ms free) (F0 m pc la rest) := by
  intro T hT X
  have htr : e.platform.stackTraces = false := by
    have q : e.platform.stackTraces = l.stackTraces := by rw [X.admits.platform]
    rw [q, hl]
  have Y := vx_rebase X (R' := { frames := R.frames, locals := R.locals, cells := 1, slots := 6 }) (Nat.le_refl _) (Nat.le_refl _) hRc hRs
  obtain ⟨s', hA⟩ : ∃ z, z = (T.setVm s.vm).setFrames (.invoking m args :: below) := ⟨_, rfl⟩
  rw [← hA] at Y
  have ev : s'.vm = s.vm := by rw [hA]; rfl
  have eh : s'.heap = H := by rw [hA]; exact hT
  have w0 : s.WarmedH s'.vm := by rw [ev]; exact State.WarmedH.refl s
  have there : ∀ w, w ∈ Cond.classLink RX9 335 nsN :: Cond.initialized nsN :: nsA.filter vx_no → w.before args s = true → w.before args s' = true := fun w hw h => vx_ot_at w0 ev.symm (ns_ot w hw) h
  have k' := there _ List.mem_cons_self hk
  have ini' := there _ (List.mem_cons_of_mem _ List.mem_cons_self) hini
  have U' : vx_Zq Bundle.tN "UNASSIGNED_STACK" Bundle.steD A s' s'.heap := by rw [eh]; exact vx_Zq.moved w0.alike (hU.kept hS.2.1)
  have N' : vx_Zq Bundle.tN "SUPPRESSED_SENTINEL" Bundle.listD A s' s'.heap := by rw [eh]; exact vx_Zq.moved w0.alike (hN.kept hS.2.1)
  have h : ∀ w ∈ nsA, w.before args s' = true := vx_own (fun w hw => there w (List.mem_cons_of_mem _ (List.mem_cons_of_mem _ hw)) (hat w hw)) (vx_isRefq U'.1) (vx_isRefq N'.1) U'.2.word N'.2.word
  have own' : s'.vm.findClass RX9 = some m.cls := by rw [ev]; exact hown
  obtain ⟨v1, cX, kX, hfX, hkX, -, -, X1, st1⟩ := Y.newCold hexec (own := RX9) (C := nsN) (index := 335) (n := 6) own' k' (h _ (of_decide_eq_true (by decide +kernel : decide (Cond.instantiable nsN 6 ∈ nsA) = true))) ini' (g := F0 m pc la rest) rfl (by rw [hb]; exact d0) (Nat.le_refl _) (Nat.le_refl _)
  generalize hT1 : (T.setVm v1).pushCell { cls := cX, slots := kX.instanceTypes.map defaultValue, vm := .none } = T1 at X1 st1
  have hcell : T1.heap[T.heap.size]? = some (freshCell cX kX) := by rw [← hT1]; exact State.heap_pushCell_size _ _
  have str' : vk_R RX9 is text sa s' := vk_R.warm w0 hstr
  have one : (Value.ref T.heap.size).category = 1 := rfl
  obtain ⟨U, steps, run, fin, hW, same, ce, hce, hvm0, hcl⟩ := ns_made X1 hexec htr own' h hfX hkX hcell (by rw [eh, hT]; exact Nat.le_refl _) (msg := .ref sa) rfl (g := { method := m, pc := pc + 7, locals := la, stack := .ref sa :: .ref T.heap.size :: .ref T.heap.size :: rest, locked := none }) rfl hsize rfl rfl (rest := rest) rfl (by rw [hb]; exact d7) (by rw [hb]; exact d10) hout hRf (by simp only [List.map_cons, List.sum_cons, one]; omega) hlocks
  obtain ⟨f1, f2⟩ := vx_frame same
  rw [eh] at f1 f2
  rw [ev] at hcl
  have ws : s.WarmedH U.vm := State.WarmedH.trans w0 hW
  have whole : s.sameButNew ({ U with vm := s.vm } : State) locs mc ms := by
    subst hA
    obtain ⟨e1, e2⟩ := same
    rw [State.setFrames_setFrames] at e1
    have q := X.same.trans (show (T.setVm s.vm).sameButNew ({ U with vm := s.vm } : State) [] (0 + 1) (0 + 6) from ⟨e1, e2⟩)
    rw [List.append_nil] at q
    exact q.mono hc hs
  have d3' : decode c.code (pc + 3) = .ok (.dup, 1) := by rw [hb]; exact d3
  refine ⟨U, st1 _ ?_, .threw T.heap.size, run, fin, Or.inr ⟨T.heap.size, rfl, nsN, ce, locs, hx U ws.alike f1 (fun q hq => f2 q hq (fun z hz => nomatch hz)), hce, hvm0, hcl, ws, whole, hf⟩⟩
  show Steps p.tables e below (T1.setTop { method := m, pc := pc + 3, locals := la, stack := .ref T.heap.size :: rest, locked := none }) _
  jvm_step X1.here [X1.here.top, hexec, d3', Value.category]
  exact X1.ldcStringW hexec (own := RX9) (text := text) (index := is) (a := sa) own' str'.1 str'.2 (g := { method := m, pc := pc + 4, locals := la, stack := .ref T.heap.size :: .ref T.heap.size :: rest, locked := none }) rfl (by rw [hb]; exact d4) _ steps
theorem th_nsw {text : String} {is sid : Nat} (hm : (RX9, is, text, sid) ∈ ST) (hd6 : 6 ≤ d) (hrs : st.length ≤ 8) (d0 : decode cc pc = .ok (.new 335, 3)) (d3 : decode cc (pc + 3) = .ok (.dup, 1)) (d4 : decode cc (pc + 4) = .ok (.ldc_w is, 3)) (d6 : decode cc (pc + 7) = .ok (.invokespecial 339, 3)) (d9 : decode cc (pc + 10) = .ok (.athrow, 1)) : CorX KS ST RX9 cc nL ret d pc ls st M (some (.inr "java/util/NoSuchElementException", M)) := by
  intro p l e s m args below meth c wp H locs la r M' C hP hS hl hn ho
  cases ho
  obtain ⟨hx, hb, hr0, hml, hown, hts, hlk, hKK, hE, ok, hbz, hst, hxt⟩ := id C
  have hAB := Aw_B0 ok hbz
  have hat : ∀ w ∈ nsA.filter vx_no, w.before args s = true := hat_of hts hE (fun w hw => of_decide_eq_true (List.all_eq_true.mp ns_ws w hw)) (fun w hw => of_decide_eq_true (List.all_eq_true.mp ns_nw w hw))
  exact ns_throw (A := Aw KS wp s.heap.size) (cells := 0) (slots := 0) hx hb hst hown (hts _ wk_RX9_335) (hts _ (of_decide_eq_true ns_ini)) (hE.2.1 _ hm) hat (hE.2.2.1.narrow hAB) (hE.2.2.2.1.narrow hAB) hS (hl.1.trans hml.symm) d0 d3 d4 d6 d9 (fun x hx => (hxt rfl x hx).elim) (show 2 + 3 < d by omega) (show _ ≤ 64 * d by rw [trs_cat]; show st.length + 82 ≤ 64 * d; omega) (Nat.le_refl _) (Nat.le_refl _) hlk (fun t _ hz hq => xc_at hP hS hz hq) hS.2.2 (Nat.le_refl _) (Nat.le_refl _)
end NT
