/-! ===== a contract out of a walk, for a method of a class that has rows in the table of natives, but none for this method ===== -/
theorem met_ofF {l : Launch} {y : MethodName} {ws ws' : List Cond} {rm : Room} {Pc : Array Value → State → Prop} {Qc : Array Value → State → Outcome → State → Prop} {mc ms : Nat} {free : Addr → Prop} {cc : ByteArray} {maxL : Nat} {ret : Option FieldType} (hy : plainFor y = true) (hw : ws = Cond.code y cc maxL ret :: ws') (body : ∀ p e s m args below meth c s₁, BodyLoose p l y (headSpec ws rm) cc maxL ret e s m args below meth c s₁ → c.maxLocals = maxL → Pc args s → W p l e (headSpec ws rm).room s m args below meth c s.heap [] 0 0 (MQ below Qc args s mc ms free) (entryFrame m args maxL)) : Met l y ws rm Pc Qc mc ms free := by
  refine MetFree.of_bodySF (code := cc) (maxLocals := maxL) (ret := ret) hy (fun args s m h hn => ?_) (fun p e s m args below meth c s₁ B hml hP _ => ?_)
  · obtain ⟨meth, c, h1, h2, h3, h4, h5, h6, -, -⟩ := Cond.code_spec hn (atoms_spec (ws := ws) h _ (by rw [hw]; exact List.mem_cons_self))
    exact ⟨meth, c, h1, h2, h3, h4, h5, h6⟩
  · obtain ⟨t, a1, o, b1, b2, b3⟩ := body p e s m args below meth c s₁ B hml hP s₁ (by rw [B.state]; rfl) (Stand.of_body B)
    exact ⟨t, o, a1, b1, b2, ⟨b3.1, b3.2⟩⟩
theorem ev_ofF {KS : List Kd} {ST : StrT} {d : Nat} {M : Mem} {md : MD} {as : List AV} {o : Option (Int32 × Mem)} (hp : plainFor md.1 = true) (hlen : as.length ≤ md.2.2.1) (h : CorM KS ST md.1.cls md.2.1 md.2.2.1 md.2.2.2 d 0 (enl 0 as) [] M o) : Ev KS ST md d as M o := by
  intro l wp sz r M' hst ok hbz ho
  refine met_ofF (cc := md.2.1) (maxL := md.2.2.1) (ret := md.2.2.2) hp rfl ?_
  intro p e s m args below meth c s₁ B hml hv
  obtain ⟨rfl, rfl, hP, hK, hE⟩ := hv
  have hts := atoms_spec (ws := Cond.code md.1 md.2.1 md.2.2.1 md.2.2.2 :: WS) B.pre
  have hl := lv_entry (trs wp as) (n := md.2.2.1) (by rw [lg_len]; exact hlen)
  rw [lg_entry_eq]
  rw [← enl_tr] at hl
  exact h p l e s m _ below meth c wp s.heap [] _ r M' ⟨B.exec, B.bytes, B.returns, hml, findClass_of_methodNamed B.named, fun w hw => hts w (List.mem_cons_of_mem _ hw), B.notSynchronized, hK, hE, ok, hbz, hst, fun h => by cases h⟩ hP va_S.rf hl (enl_nd as 0) ho
