section NT
variable {KS : List Kd} {ST : StrT} {cc : ByteArray} {nL : Nat} {ret : Option FieldType} {d : Nat} {pc : Nat} {ls : List (Nat × AV)} {st : List AV} {M : Mem}
theorem ns_throw {p : Program} {l : Launch} {e : Env} {R : Room} {s : State} {m : MethodId} {args : Array Value} {below : List Frame} {meth : Method} {c : Code} {H : Heap} {locs : List Loc} {cells slots : Nat} {mc ms : Nat} {free : Addr → Prop} {la : Array Slot} {rest : List Value} {Qc : Array Value → State → Outcome → State → Prop} {XC : String → State → State → Prop} {text : String} {is sa : Nat} {A : Nat → Prop}
    (hexec : p.tables.exec = Jvm.exec) (hb : c.code = cc) (hl : l.stackTraces = false) (hown : s.vm.findClass RX9 = some m.cls) (hk : (Cond.classLink RX9 335 nsN).before args s = true) (hini : (Cond.initialized nsN).before args s = true) (hstr : vk_R RX9 is text sa s) (hat : ∀ w ∈ nsA.filter vx_no, w.before args s = true)
    (hU : vx_Zq Bundle.tN "UNASSIGNED_STACK" Bundle.steD A s s.heap) (hN : vx_Zq Bundle.tN "SUPPRESSED_SENTINEL" Bundle.listD A s s.heap) (hS : va_S A s.heap H locs) (hsize : la.size = c.maxLocals)
    (d0 : decode cc pc = .ok (.new 335, 3)) (d3 : decode cc (pc + 3) = .ok (.dup, 1)) (d4 : decode cc (pc + 4) = .ok (.ldc_w is, 3)) (d7 : decode cc (pc + 7) = .ok (.invokespecial 339, 3)) (d10 : decode cc (pc + 10) = .ok (.athrow, 1)) (hout : ∀ x ∈ c.exceptionTable.toList, covers x (pc + 10) = false)
    (hRf : 2 + 3 < R.frames) (hRl : (rest.map fun v => v.category).sum + 82 ≤ R.locals) (hRc : cells + 1 ≤ R.cells) (hRs : slots + 6 ≤ R.slots) (hlocks : meth.locks = false)
    (hx : ∀ t : State, s.vm.Alike t.vm → H.size ≤ t.heap.size → (∀ q : Nat, q < H.size → t.heap[q]? = H[q]?) → XC nsN s t) (hf : ∀ z ∈ locs, free z.base) (hc : cells + 1 ≤ mc) (hs : slots + 6 ≤ ms) :
    W p l e R s m args below meth c H locs cells slots (vx_MQ below Qc XC args s mc ms free) (F0 m pc la rest) := by
  intro T hT X
  have htr : e.platform.stackTraces = false := by
    have q : e.platform.stackTraces = l.stackTraces := by rw [X.admits.platform]
    rw [q, hl]
  have Y := vx_rebase X (R' := { frames := R.frames, locals := R.locals, cells := 1, slots := 6 }) (Nat.le_refl _) (Nat.le_refl _) hRc hRs
  obtain ⟨s', hA⟩ : ∃ z, z = (T.setVm s.vm).setFrames (.invoking m args :: below) := ⟨_, rfl⟩
  rw [← hA] at Y
  have ev : s'.vm = s.vm := by rw [hA]; rfl
  have eh : s'.heap = H := by rw [hA]; exact hT
  have w0 : s.WarmedH s'.vm := by rw [ev]; exact State.WarmedH.refl s
  have there : ∀ w, w ∈ Cond.classLink RX9 335 nsN :: Cond.initialized nsN :: nsA.filter vx_no → w.before args s = true → w.before args s' = true := fun w hw h => vx_ot_at w0 ev.symm (ns_ot w hw) h
  have k' := there _ List.mem_cons_self hk
  have ini' := there _ (List.mem_cons_of_mem _ List.mem_cons_self) hini
  have U' : vx_Zq Bundle.tN "UNASSIGNED_STACK" Bundle.steD A s' s'.heap := by rw [eh]; exact vx_Zq.moved w0.alike (hU.kept hS.2.1)
  have N' : vx_Zq Bundle.tN "SUPPRESSED_SENTINEL" Bundle.listD A s' s'.heap := by rw [eh]; exact vx_Zq.moved w0.alike (hN.kept hS.2.1)
  have h : ∀ w ∈ nsA, w.before args s' = true := vx_own (fun w hw => there w (List.mem_cons_of_mem _ (List.mem_cons_of_mem _ hw)) (hat w hw)) (vx_isRefq U'.1) (vx_isRefq N'.1) U'.2.word N'.2.word
  have own' : s'.vm.findClass RX9 = some m.cls := by rw [ev]; exact hown
  obtain ⟨v1, cX, kX, hfX, hkX, -, -, X1, st1⟩ := Y.newCold hexec (own := RX9) (C := nsN) (index := 335) (n := 6) own' k' (h _ (of_decide_eq_true (by decide +kernel : decide (Cond.instantiable nsN 6 ∈ nsA) = true))) ini' (g := F0 m pc la rest) rfl (by rw [hb]; exact d0) (Nat.le_refl _) (Nat.le_refl _)
  generalize hT1 : (T.setVm v1).pushCell { cls := cX, slots := kX.instanceTypes.map defaultValue, vm := .none } = T1 at X1 st1
  have hcell : T1.heap[T.heap.size]? = some (freshCell cX kX) := by rw [← hT1]; exact State.heap_pushCell_size _ _
  have str' : vk_R RX9 is text sa s' := vk_R.warm w0 hstr
  have one : (Value.ref T.heap.size).category = 1 := rfl
  obtain ⟨U, steps, run, fin, hW, same, ce, hce, hvm0, hcl⟩ := ns_made X1 hexec htr own' h hfX hkX hcell (by rw [eh, hT]; exact Nat.le_refl _) (msg := .ref sa) rfl (g := { method := m, pc := pc + 7, locals := la, stack := .ref sa :: .ref T.heap.size :: .ref T.heap.size :: rest, locked := none }) rfl hsize rfl rfl (rest := rest) rfl (by rw [hb]; exact d7) (by rw [hb]; exact d10) hout hRf (by simp only [List.map_cons, List.sum_cons, one]; omega) hlocks
  obtain ⟨f1, f2⟩ := vx_frame same
  rw [eh] at f1 f2
  rw [ev] at hcl
  have ws : s.WarmedH U.vm := State.WarmedH.trans w0 hW
  have whole : s.sameButNew ({ U with vm := s.vm } : State) locs mc ms := by
    subst hA
    obtain ⟨e1, e2⟩ := same
    rw [State.setFrames_setFrames] at e1
    have q := X.same.trans (show (T.setVm s.vm).sameButNew ({ U with vm := s.vm } : State) [] (0 + 1) (0 + 6) from ⟨e1, e2⟩)
    rw [List.append_nil] at q
    exact q.mono hc hs
  have d3' : decode c.code (pc + 3) = .ok (.dup, 1) := by rw [hb]; exact d3
  refine ⟨U, st1 _ ?_, .threw T.heap.size, run, fin, Or.inr ⟨T.heap.size, rfl, nsN, ce, locs, hx U ws.alike f1 (fun q hq => f2 q hq (fun z hz => nomatch hz)), hce, hvm0, hcl, ws, whole, hf⟩⟩
  show Steps p.tables e below (T1.setTop { method := m, pc := pc + 3, locals := la, stack := .ref T.heap.size :: rest, locked := none }) _
  jvm_step X1.here [X1.here.top, hexec, d3', Value.category]
  exact X1.ldcStringW hexec (own := RX9) (text := text) (index := is) (a := sa) own' str'.1 str'.2 (g := { method := m, pc := pc + 4, locals := la, stack := .ref T.heap.size :: .ref T.heap.size :: rest, locked := none }) rfl (by rw [hb]; exact d4) _ steps
theorem th_nsw2 {text : String} {is sid : Nat} (hm : (RX9, is, text, sid) ∈ ST) (hd6 : 6 ≤ d) (hrs : st.length ≤ 8) (d0 : decode cc pc = .ok (.new 335, 3)) (d3 : decode cc (pc + 3) = .ok (.dup, 1)) (d4 : decode cc (pc + 4) = .ok (.ldc_w is, 3)) (d6 : decode cc (pc + 7) = .ok (.invokespecial 339, 3)) (d9 : decode cc (pc + 10) = .ok (.athrow, 1)) : CorX KS ST RX9 cc nL ret d pc ls st M (some (.inr "java/util/NoSuchElementException", M)) := by
  intro p l e s m args below meth c wp H locs la r M' C hP hS hl hn ho
  cases ho
  obtain ⟨hx, hb, hr0, hml, hown, hts, hlk, hKK, hE, ok, hbz, hst, hxt⟩ := id C
  have hAB := Aw_B0 ok hbz
  have hat : ∀ w ∈ nsA.filter vx_no, w.before args s = true := hat_of hts hE (fun w hw => of_decide_eq_true (List.all_eq_true.mp ns_ws w hw)) (fun w hw => of_decide_eq_true (List.all_eq_true.mp ns_nw w hw))
  exact ns_throw (A := Aw KS wp s.heap.size) (cells := 0) (slots := 0) hx hb hst hown (hts _ wk_RX9_335) (hts _ (of_decide_eq_true ns_ini)) (hE.2.1 _ hm) hat (hE.2.2.1.narrow hAB) (hE.2.2.2.1.narrow hAB) hS (hl.1.trans hml.symm) d0 d3 d4 d6 d9 (fun x hx => (hxt rfl x hx).elim) (show 2 + 3 < d by omega) (show _ ≤ 64 * d by rw [trs_cat]; show st.length + 82 ≤ 64 * d; omega) (Nat.le_refl _) (Nat.le_refl _) hlk (fun t _ hz hq => xc_at hP hS hz hq) hS.2.2 (Nat.le_refl _) (Nat.le_refl _)
end NT
