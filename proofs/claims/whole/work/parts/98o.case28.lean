/-! ===== the helper utilization, and the case 28 ===== -/
def HPd (wp : Wp) (cD : ClassId) (qd : Nat) (f : Nat → UInt64) (M : Mem) (sz : Nat) (av : List Value) : Array Value → State → Prop := va_Pc av (fun U => U.heap.size = sz ∧ Wd KSx ST1 wp M U ∧ va_at wp.2.1 clX (qd, outD cD f) U.heap ∧ va_K wp.2.1 clX [(cD, .double)] U ∧ Ncs U)
def HQd (wp : Wp) (cD : ClassId) (qd : Nat) (f : Nat → UInt64) (M : Mem) (sz : Nat) (kr : Int32) : Array Value → State → Outcome → State → Prop := va_Qi (fun v (_ : Unit) => v = kr) (fun _ t => va_P wp.2.1 clX (wl KSx wp M) t.heap ∧ va_at wp.2.1 clX (qd, outD cD f) t.heap) (hA wp sz qd)
/-- the contract of a helper: it answers kr, the world is M2, the row holds f2 -/
def HMd (hd : HDt) (av : List Value) (wp : Wp) (cD : ClassId) (qd : Nat) (f f2 : Nat → UInt64) (M M2 : Mem) (kr : Int32) : Prop := ∀ (l : Launch) (sz : Nat), l.stackTraces = false → wp.2.2.2 ≤ sz → qd < sz →
  vx_Met l hd.1 (Cond.codeWith hd.1 hd.2.1 hd.2.2.1 (some .int) hd.2.2.2 :: WS) (rmd 30 (1, 6)) (HPd wp cD qd f M sz av) (HQd wp cD qd f2 M2 sz kr) HXc 1 6 (hA wp sz qd)
def Hxd (cc : ByteArray) (nL : Nat) (hh : List (Nat × Nat × Nat × Nat)) (wp : Wp) (cD : ClassId) (qd : Nat) (p : Program) (l : Launch) (s : State) (m : MethodId) (args : Array Value) (meth : Method) (c : Code) : Prop :=
  Fx RL cc nL p l s m args c ∧ Ox KSx s wp ∧ meth.sig.returnType = some .int ∧ meth.locks = false ∧ c.exceptionTable.toList = tableOf hh ∧ va_K wp.2.1 clX [(cD, .double)] s ∧ Oq wp qd ∧ Ncs s ∧ qd < s.heap.size
theorem D_outd {wp : Wp} {qd sz : Nat} {M : Mem} {e : va_E} (ok : okW KSx wp) (hq : Oq wp qd) : va_D (hA wp sz qd) ((qd, e) :: wl KSx wp M) := by
  refine D_cons (wl_D ok M sz) (fun j q hj => ?_) (fun _ h => Or.inl h) (Or.inr rfl)
  obtain ⟨kd, h1, h2⟩ := wl_of hj
  rw [h2]
  exact fun e => hq.2 j (List.getElem?_eq_some_iff.mp h1).1 e.symm
theorem hA_atd {wp : Wp} {sz qd : Nat} {cD : ClassId} {f : Nat → UInt64} {H H1 : Heap} (hq : Oq wp qd) (hz : qd < sz) (h : va_at wp.2.1 clX (qd, outD cD f) H) (hk : ∀ q, q < sz → ¬ Aw KSx wp sz q → H1[q]? = H[q]?) : va_at wp.2.1 clX (qd, outD cD f) H1 := by
  refine h.kept (hk qd hz ?_)
  rintro (⟨k, h1, h2⟩ | h2)
  · exact hq.2 k h1 h2.symm
  · exact absurd hz (Nat.not_lt.mpr h2)
/-- the contract out of a walk -/
theorem hpd_of {hd : HDt} {av : List Value} {wp : Wp} {cD : ClassId} {qd : Nat} {f f2 : Nat → UInt64} {M M2 : Mem} {kr : Int32} (hp : plainName hd.1.cls = true) (hown : hd.1.cls = RL) (hav : (lg_sl av).length ≤ hd.2.2.1) (ok : okW KSx wp) (hq : Oq wp qd)
    (h : ∀ (p : Program) (l : Launch) (e : Env) (s : State) (m : MethodId) (args : Array Value) (below : List Frame) (meth : Method) (c : Code) (la : Array Slot), Hxd hd.2.1 hd.2.2.1 hd.2.2.2 wp cD qd p l s m args meth c → va_P wp.2.1 clX (wl KSx wp M) s.heap → va_at wp.2.1 clX (qd, outD cD f) s.heap → lv_has la hd.2.2.1 (lv_args 0 av) →
      W p l e (rmd 30 (1, 6)) s m args below meth c s.heap [] 0 0 (vx_MQ below (HQd wp cD qd f2 M2 s.heap.size kr) HXc args s 1 6 (hA wp s.heap.size qd)) (F0 m 0 la [])) : HMd hd av wp cD qd f f2 M M2 kr := by
  intro l sz hst hbz hqs
  refine vx_ofWH (cc := hd.2.1) (maxL := hd.2.2.1) (ret := some .int) (hh := hd.2.2.2) hp rfl ?_
  intro p e s m args below meth c s₁ B hml hv
  obtain ⟨rfl, rfl, ⟨hP, hK, hE⟩, ho, hKo, hN⟩ := hv
  have hts := atoms_spec (ws := Cond.codeWith hd.1 hd.2.1 hd.2.2.1 (some .int) hd.2.2.2 :: WS) B.pre
  have htb := vx_table (x := hd.1) B (hts _ List.mem_cons_self)
  have hl := lv_entry av (n := hd.2.2.1) hav
  rw [lg_entry_eq]
  have hcl : s.vm.findClass RL = some m.cls := by rw [← hown]; exact findClass_of_methodNamed B.named
  exact h p l e s m _ below meth c _ ⟨⟨B.exec, B.bytes, hml, hcl, fun w hw => hts w (List.mem_cons_of_mem _ hw), hst⟩, ⟨hK, hE, ok, hbz⟩, B.returns, B.notSynchronized, htb, hKo, hq, hN, hqs⟩ hP ho hl
section HPD
variable {cc : ByteArray} {nL : Nat} {hh : List (Nat × Nat × Nat × Nat)} {wp : Wp} {cD : ClassId} {qd : Nat} {p : Program} {l : Launch} {e : Env} {R : Room} {s : State} {m : MethodId} {args : Array Value} {below : List Frame} {meth : Method} {c : Code} {H : Heap} {locs : List Loc} {k n : Nat} {pc : Nat} {la : Array Slot} {f f2 : Nat → UInt64} {M2 : Mem} {kr : Int32}
theorem hpd_S (C : Hxd cc nL hh wp cD qd p l s m args meth c) : Sx KSx wp (hA wp s.heap.size qd) s s.heap [] := ⟨va_S.rf, hA_B0 C.2.1.2.2.1 C.2.1.2.2.2 C.2.2.2.2.2.2.1, fun _ h => Or.inl h⟩
theorem hpd_ret (C : Hxd cc nL hh wp cD qd p l s m args meth c) (hd : decode cc pc = .ok (.ireturn, 1)) (hP : va_P wp.2.1 clX (wl KSx wp M2) H) (ho : va_at wp.2.1 clX (qd, outD cD f2) H) (hS : va_S (hA wp s.heap.size qd) s.heap H locs) (hk : k ≤ 1) (hn : n ≤ 6) : W p l e R s m args below meth c H locs k n (vx_MQ below (HQd wp cD qd f2 M2 s.heap.size kr) HXc args s 1 6 (hA wp s.heap.size qd)) (F0 m pc la [.int kr]) := by
  obtain ⟨F, O, hr, hlk, -⟩ := id C
  refine W.widen hk hn (vx_ret ?_)
  exact W.iret F.1 F.2.1 hr (fun t ht hW => ⟨⟨kr, (), rfl, rfl, by rw [ht]; exact hP, by rw [ht]; exact ho⟩, hS.F ht⟩) hS.2.2 hd hlk
/-- 0 is answered -/
theorem hpd_zero (C : Hxd cc nL hh wp cD qd p l s m args meth c) {off : Int} {tgt : Nat} (d2 : decode cc pc = .ok (.goto off, 3)) (ht : (pc : Int) + off = (tgt : Int)) (d3 : decode cc tgt = .ok (.iconst 0, 1)) (d4 : decode cc (tgt + 1) = .ok (.ireturn, 1)) (hP : va_P wp.2.1 clX (wl KSx wp M2) H) (ho : va_at wp.2.1 clX (qd, outD cD f2) H) (hS : va_S (hA wp s.heap.size qd) s.heap H locs) (hk : k ≤ 1) (hn : n ≤ 6) : W p l e R s m args below meth c H locs k n (vx_MQ below (HQd wp cD qd f2 M2 s.heap.size 0) HXc args s 1 6 (hA wp s.heap.size qd)) (F0 m pc la []) := by
  refine lv_goto (tgt := tgt) C.1.1 C.1.2.1 d2 ht ?_
  refine lv_iconst (v := 0) C.1.1 C.1.2.1 d3 (by decide) ?_
  exact hpd_ret C d4 hP ho hS hk hn
theorem hpd_st (C : Hxd cc nL hh wp cD qd p l s m args meth c) {x : UInt64} {off : Int} {tgt : Nat} (d1 : decode cc pc = .ok (.dastore, 1)) (d2 : decode cc (pc + 1) = .ok (.goto off, 3)) (ht : ((pc + 1 : Nat) : Int) + off = (tgt : Int)) (d3 : decode cc tgt = .ok (.iconst 0, 1)) (d4 : decode cc (tgt + 1) = .ok (.ireturn, 1)) (hP : va_P wp.2.1 clX (wl KSx wp M2) H) (ho : va_at wp.2.1 clX (qd, outD cD f) H) (hS : va_S (hA wp s.heap.size qd) s.heap H locs) (hk : k ≤ 1) (hn : n ≤ 6) : W p l e R s m args below meth c H locs k n (vx_MQ below (HQd wp cD qd (vf_upd f 0 x) M2 s.heap.size 0) HXc args s 1 6 (hA wp s.heap.size qd)) (F0 m pc la [.double x, .int 0, .ref qd]) := by
  obtain ⟨F, O, hr, hlk, htb, hKo, hq, -⟩ := id C
  refine va_dast (ws := (qd, outD cD f) :: wl KSx wp M2) F.1 F.2.1 hKo (P_cons ho hP) (D_outd O.2.2.1 hq) hS 0 0 (n := 1) (f := f) rfl rfl (i := 0) (by unfold vp_in; decide) d1 (fun H1 locs1 hP1 hD1 hS1 => ?_)
  exact hpd_zero C d2 ht d3 d4 (P_tail hP1) (P_head hP1) hS1 hk hn
/-- a throw is caught -/
theorem hpd_ex {E : String} {ce : Cell} {q9 : Addr} {rest : List Value} {ls : List (Nat × Value)} (C : Hxd cc nL hh wp cD qd p l s m args meth c) (hl : lv_has la nL ls) (pre : List ExceptionTableEntry) (x : ExceptionTableEntry) (suf : List ExceptionTableEntry) (hsp : tableOf hh = pre ++ x :: suf) (hpass : ∀ z ∈ pre, z.catchType ≠ 0 ∧ ∃ nm : String, Cond.classLink RL z.catchType nm ∈ WS ∧ va_Nc E nm s) (hx : covers x pc = true) (h0 : x.catchType ≠ 0) (hlink : Cond.classLink RL x.catchType E ∈ WS) (hcast : Cond.castable E E ∈ nestW) (g1 : H[q9]? = some ce) (g2 : ce.vm = .none) (g3 : s.vm.findClass E = some ce.cls)
    {kc : Int} {t1 : Nat} (hst : (∃ i : Fin 4, decode cc x.handlerPc = .ok (.astore_n i, 1) ∧ (i : Nat) < nL ∧ x.handlerPc + 1 = t1) ∨ (∃ i : Nat, decode cc x.handlerPc = .ok (.astore i, 2) ∧ i < nL ∧ x.handlerPc + 2 = t1)) (d1 : decode cc t1 = .ok (.iconst kc, 1)) (hkr : Int32.ofInt kc = kr) (d2 : decode cc (t1 + 1) = .ok (.ireturn, 1))
    (hP : va_P wp.2.1 clX (wl KSx wp M2) H) (ho : va_at wp.2.1 clX (qd, outD cD f2) H) (hS : va_S (hA wp s.heap.size qd) s.heap H locs) (hk : k ≤ 1) (hn : n ≤ 6) : vx_W p l e R s m args below meth c H locs k n (vx_MQ below (HQd wp cD qd f2 M2 s.heap.size kr) HXc args s 1 6 (hA wp s.heap.size qd)) (F0 m pc la rest) q9 := by
  obtain ⟨F, O, hr, hlk, htb, hKo, hq, -⟩ := id C
  obtain ⟨hx0, hb, hml, hown, hts, hstk⟩ := id F
  refine vx_catch hown pre x suf (htb.trans hsp) (fun z hz => ?_) hx h0 (hts _ hlink) (va_Nw.use rfl (O.2.1.1 _ hcast)) g1 g2 g3 ?_
  · obtain ⟨z1, nm, z2, z3⟩ := hpass z hz
    exact Or.inr ⟨z1, nm, hts _ z2, z3⟩
  · rcases hst with ⟨i, s1, s2, s3⟩ | ⟨i, s1, s2, s3⟩
    · refine lv_astore_n hx0 hb s1 rfl hl s2 rfl (fun la2 h2 => ?_)
      rw [s3]
      exact lv_iconst hx0 hb d1 hkr (hpd_ret C d2 hP ho hS hk hn)
    · refine lv_astore hx0 hb s1 hl s2 rfl (fun la2 h2 => ?_)
      rw [s3]
      exact lv_iconst hx0 hb d1 hkr (hpd_ret C d2 hP ho hS hk hn)
end HPD
/-! ===== a call that answers a double, from any frame ===== -/
section LD
variable {KS : List Kd} {p : Program} {l : Launch} {e : Env} {R : Room} {s : State} {m : MethodId} {args : Array Value} {below : List Frame} {meth : Method} {c : Code} {H : Heap} {locs : List Loc} {k n : Nat} {Q : State → Prop} {own : String} {cc : ByteArray} {nL : Nat} {wp : Wp} {pc : Nat} {la : Array Slot} {A : Nat → Prop} {st0 rest : List Value} {M M1 : Mem}
theorem w_evD {md : MD} {d2 idx np t ci n0 : Nat} {cq : vw_C} {as : List AV} {r : UInt64} {qq : Nat × Nat} (hE : EvD KS ST1 md d2 qq (.inr t :: as) M (some (r, M1))) (hw : mdW md) (hi : Cond.instanceMethod md.1 ∈ WS) (hsel : Cond.selects cq.1 md.1 md.1 ∈ WS) (hK : KS[t]? = some (ci, n0)) (hci : ci < 20) (hq : clX[ci]? = some cq) (hlink : Cond.methodLink own idx md.1 ∈ WS) (hn : (parseMethodDescriptor md.1.desc).map (fun d => d.parameters.length) = some np) (hlen : as.length = np) (hmL : md.2.2.1 ≤ 45) (hfr : d2 + 1 ≤ R.frames) (hlo : 64 + 64 * d2 ≤ R.locals) (hd : decode cc pc = .ok (.invokevirtual idx, 3)) (hst : (trs wp as).reverse ++ .ref (wp.1 t) :: rest = st0) (hrs : (rest.map fun v => v.category).sum ≤ 8)
    (F : Fx own cc nL p l s m args c) (O : Ox KS s wp) (hP : va_P wp.2.1 clX (wl KS wp M) H) (S : Sx KS wp A s H locs) (hl : la.size = nL) (hk : k + qq.1 ≤ R.cells) (hs : n + qq.2 ≤ R.slots)
    (kk : ∀ (H1 : Heap) (locs1 : List Loc), va_P wp.2.1 clX (wl KS wp M1) H1 → H.size ≤ H1.size → (∀ q, q < H.size → ¬ Aw KS wp H.size q → H1[q]? = H[q]?) → va_S A s.heap H1 locs1 → W p l e R s m args below meth c H1 locs1 (k + qq.1) (n + qq.2) Q (F0 m (pc + 3) la (.double r :: rest))) : W p l e R s m args below meth c H locs k n Q (F0 m pc la st0) := by
  obtain ⟨hx, hb, hml, hown, hts, hstk⟩ := id F
  have hM := hE l wp H.size r M1 hstk O.2.2.1 (ox_z O S) rfl
  subst hst
  have hr := va_runV (p := p) (e := e) (R := R) (below := below) (meth := meth) (cells := k) (slots := n) (locs := locs) (rest := rest) (g := F0 m pc la ((trs wp as).reverse ++ .ref (wp.1 t) :: rest)) (As := trs wp as) (b := wp.1 t) (C := cq.1) (n := np) ⟨hx, hb, hml, hown, hts⟩ hM ⟨callB_of np hts (md_good hw) rfl rfl rfl (hts _ hw.2.1) (hts _ hlink) ⟨hw.2.2.1, hw.2.2.2, hn⟩ ⟨hfr, by show 8 + (md.2.2.1 + 11) + 64 * d2 ≤ R.locals; omega⟩, hts _ hi, hts _ hsel⟩ ⟨pcW_blind, va_recv O.1 hP hq (obj_at hK hci), fun U hU hW => ox_pc (as := .inr t :: as) O hP S hU hW⟩ rfl (by simpa [trs] using hlen) hl rfl (lv_room hrs) hd ⟨hk, hs⟩
  unfold QcD at hr
  refine va_calld hr S.1 (fun q _ h => S.2.2 q h) S.2.2 (fun r2 u t H1 locs1 ht hvm hw hB hz hk hS1 => ?_)
  cases hw
  exact kk H1 locs1 (by rw [← ht]; exact hB.1) hz hk hS1
end LD
abbrev hdL_utilization : HDt := (yL_utilization, cL_utilization, 4, [(0, 8, 11, 19), (0, 8, 14, 13)])
set_option maxRecDepth 20000 in
set_option maxHeartbeats 2000000 in
theorem hmd_ex {wp : Wp} (ok : okW KSx wp) {cD : ClassId} {qd : Nat} (hq : Oq wp qd) {f : Nat → UInt64} {M : Mem} {x1 : Int32} {E : String} {kr : Int32} (hE : EvX KSx ST1 mdX9_utilization 25 [.inr 0, .inl x1] M (some (.inr E, M))) (hc : (E = eIO ∧ kr = 1) ∨ (E = eIS ∧ kr = 2)) : HMd hdL_utilization [.ref (wp.1 0), .int x1, .ref qd] wp cD qd f f M M kr := by
  refine hpd_of rfl rfl (Nat.le_of_ble_eq_true rfl) ok hq (fun p l e s m args below meth c la C hP ho hl => ?_)
  have hl : lv_has la 4 [(0, .ref (wp.1 0)), (1, .int x1), (2, .ref qd)] := hl
  obtain ⟨F, O, hr, hlk, htb, hKo, hq9, hN, hqs⟩ := id C
  obtain ⟨hx, hb, hml, hown, hts, hstk⟩ := id F
  refine lv_aload_n hx hb dL_utilization_0 rfl (lv_at hl 2 rfl) ?_
  refine lv_iconst (v := 0) hx hb dL_utilization_1 (by decide) ?_
  refine lv_aload_n hx hb dL_utilization_2 rfl (lv_at hl 0 rfl) ?_
  refine lv_iload_n hx hb dL_utilization_3 rfl (lv_at hl 1 rfl) ?_
  refine w_xex (as := [.inl x1]) (rest := [.int 0, .ref qd]) hE mw_X9_utilization wi_X9_utilization wv_X9_utilization (KS := KSx) (t := 0) (ci := 9) (n0 := 0) rfl (by decide) rfl wl_RL_91 mn_X9_utilization rfl (Nat.le_of_ble_eq_true rfl) (Nat.le_of_ble_eq_true rfl) (Nat.le_of_ble_eq_true rfl) dL_utilization_4 rfl (Nat.le_of_ble_eq_true rfl) F O hP (hpd_S C) hl.1 (Nat.le_of_ble_eq_true rfl) (Nat.le_of_ble_eq_true rfl) (fun ce q9 H1 locs1 hP1 hz1 hk1 hS1 g1 g2 g3 => ?_)
  rcases hc with ⟨rfl, rfl⟩ | ⟨rfl, rfl⟩
  · exact hpd_ex C hl [] ⟨0, 8, 11, 19⟩ [⟨0, 8, 14, 13⟩] rfl (fun z hz => by cases hz) (by decide) (by decide) wk_RL_19 wq_io g1 g2 g3 (t1 := 12) (Or.inl ⟨3, dL_utilization_11, by decide, rfl⟩) dL_utilization_12 (by decide) dL_utilization_13 hP1 (hA_atd hq hqs ho hk1) hS1 (by decide) (by decide)
  · exact hpd_ex C hl [⟨0, 8, 11, 19⟩] ⟨0, 8, 14, 13⟩ [] rfl (fun z hz => by cases List.mem_singleton.mp hz; exact ⟨by decide, eIO, wk_RL_19, hN.1⟩) (by decide) (by decide) wk_RL_13 wq_is g1 g2 g3 (t1 := 15) (Or.inl ⟨3, dL_utilization_14, by decide, rfl⟩) dL_utilization_15 (by decide) dL_utilization_16 hP1 (hA_atd hq hqs ho hk1) hS1 (by decide) (by decide)
set_option maxRecDepth 20000 in
set_option maxHeartbeats 2000000 in
theorem hmd_ok {wp : Wp} (ok : okW KSx wp) {cD : ClassId} {qd : Nat} (hq : Oq wp qd) {f : Nat → UInt64} {M : Mem} {x1 : Int32} {r : UInt64} (hE : EvD KSx ST1 mdX9_utilization 25 (1, 6) [.inr 0, .inl x1] M (some (r, M))) : HMd hdL_utilization [.ref (wp.1 0), .int x1, .ref qd] wp cD qd f (vf_upd f 0 r) M M 0 := by
  refine hpd_of rfl rfl (Nat.le_of_ble_eq_true rfl) ok hq (fun p l e s m args below meth c la C hP ho hl => ?_)
  have hl : lv_has la 4 [(0, .ref (wp.1 0)), (1, .int x1), (2, .ref qd)] := hl
  obtain ⟨F, O, hr, hlk, htb, hKo, hq9, hN, hqs⟩ := id C
  obtain ⟨hx, hb, hml, hown, hts, hstk⟩ := id F
  refine lv_aload_n hx hb dL_utilization_0 rfl (lv_at hl 2 rfl) ?_
  refine lv_iconst (v := 0) hx hb dL_utilization_1 (by decide) ?_
  refine lv_aload_n hx hb dL_utilization_2 rfl (lv_at hl 0 rfl) ?_
  refine lv_iload_n hx hb dL_utilization_3 rfl (lv_at hl 1 rfl) ?_
  refine w_evD (as := [.inl x1]) (rest := [.int 0, .ref qd]) hE mw_X9_utilization wi_X9_utilization wv_X9_utilization (KS := KSx) (t := 0) (ci := 9) (n0 := 0) rfl (by decide) rfl wl_RL_91 mn_X9_utilization rfl (Nat.le_of_ble_eq_true rfl) (Nat.le_of_ble_eq_true rfl) (Nat.le_of_ble_eq_true rfl) dL_utilization_4 rfl (Nat.le_of_ble_eq_true rfl) F O hP (hpd_S C) hl.1 (Nat.le_of_ble_eq_true rfl) (Nat.le_of_ble_eq_true rfl) (fun H1 locs1 hP1 hz1 hk1 hS1 => ?_)
  exact hpd_st C (tgt := 17) dL_utilization_7 dL_utilization_8 (by decide) dL_utilization_17 dL_utilization_18 hP1 (hA_atd hq hqs ho hk1) hS1 (by decide) (by decide)
section LWD
variable {wx wm : Wp} {cL cD : ClassId} {qo qd : Nat} {p : Program} {l : Launch} {e : Env} {s : State} {m : MethodId} {below : List Frame} {meth : Method} {c : Code} {b L : Nat} {xs : Nat → Int32} {pc : Nat} {ls : List (Nat × Value)} {st : List Value} {Mx Mm Mx2 Mm2 : Mem} {f : Nat → Int64} {g g2 : Nat → UInt64} {k n : Nat}
theorem lh_d (C : Lc wx wm cL cD qo qd p l s m meth c b L xs) {H H1 : Heap} (h : LH wx wm cL cD qo qd H Mx Mm f g) (h1 : va_P wx.2.1 clX (wl KSx wx Mx2) H1) (h2 : va_at wx.2.1 clX (qd, outD cD g2) H1) (hk : ∀ q, q < H.size → ¬ hA wx H.size qd q → H1[q]? = H[q]?) : LH wx wm cL cD qo qd H1 Mx2 Mm f g2 := by
  obtain ⟨F, hr, hlk, Ox1, Om, -, -, A, -⟩ := C
  obtain ⟨a1, a2, a3, a4⟩ := h
  refine ⟨h1, wl_keep a2 (fun i hi hl => hk _ hl ?_), a3.kept (hk _ a3.lt ?_), h2⟩
  · rintro ((⟨j, j1, j2⟩ | j1) | j1)
    · exact A.1 j i j1 hi j2.symm
    · omega
    · exact (A.2.2.1 i hi).2 j1
  · have hl : qo < H.size := a3.lt
    rintro ((⟨j, j1, j2⟩ | j1) | j1)
    · exact (A.2.1 j j1).1 j2.symm
    · exact absurd hl (Nat.not_lt.mpr j1)
    · exact A.2.2.2.1 j1
theorem lc_Od (C : Lc wx wm cL cD qo qd p l s m meth c b L xs) : Oq wx qd := by
  obtain ⟨F, hr, hlk, Ox1, Om, -, -, A, -, -, -, -, e1, -⟩ := C
  exact ⟨by rw [e1]; exact A.2.2.2.2.2, fun i hi => (A.2.1 i hi).2⟩
theorem hpd_blind {sz : Nat} {av : List Value} : FrameBlind (HPd wx cD qd g Mx sz av) := by
  intro a U g mk ⟨h0, h1, ⟨h2, h3, h4⟩, h5, h6, h7⟩
  exact ⟨h0, h1, ⟨h2, va_K.moved (u := U) (U := U.calling g mk a) (Vm.Alike.refl U.vm) h3, Ext.same (U := U.calling g mk a) h4 rfl⟩, h5, va_K.moved (u := U) (U := U.calling g mk a) (Vm.Alike.refl U.vm) h6, Ncs.moved (u := U) (U := U.calling g mk a) (Vm.Alike.refl U.vm) h7⟩
theorem l_helpD {hd : HDt} {idx np : Nat} {av rest st0 : List Value} {kr : Int32} (C : Lc wx wm cL cD qo qd p l s m meth c b L xs) (hH : HMd hd av wx cD qd g g2 Mx Mx2 kr) (hw : Cond.codeWith hd.1 hd.2.1 hd.2.2.1 (some .int) hd.2.2.2 ∈ WS) (hs : Cond.static hd.1 ∈ WS) (hini : Cond.initialized hd.1.cls ∈ WS) (hlink : Cond.methodLink RL idx hd.1 ∈ WS) (hy : hd.1.cls ≠ "java/lang/invoke/MethodHandle" ∧ hd.1.cls ≠ "java/lang/invoke/VarHandle" ∧ (parseMethodDescriptor hd.1.desc).map (fun d => d.parameters.length) = some np) (hlen : av.length = np) (hmL : hd.2.2.1 ≤ 45) (hdd : decode code pc = .ok (.invokestatic idx, 3)) (hst : av.reverse ++ rest = st0) (hrs : (rest.map fun v => v.category).sum ≤ 8) (hk : k + 1 ≤ 601024) (hn : n + 6 ≤ 7293034) (kk : Lj wx wm cL cD qo qd p l e s m below meth c b (pc + 3) ls (.int kr :: rest) Mx2 Mm f g2 (k + 1) (n + 6)) : Lj wx wm cL cD qo qd p l e s m below meth c b (pc) ls (st0) Mx Mm f g k n := by
  intro H locs la hHp hS hl
  obtain ⟨F, hr, hlk, Ox1, Om, KL, KD, A, hN, hX, hbl, hL, e1, e2⟩ := id C
  obtain ⟨hx, hb, hml, hown, hts, hstk⟩ := id F
  subst hst
  have hz : wx.2.2.2 ≤ H.size := Nat.le_trans Ox1.2.2.2 hS.1
  have hqz : qd < H.size := hHp.2.2.2.lt
  have hM := hH l H.size hstk hz hqz
  have S := lc_Sx C hS
  have hrun := vx_runSX (p := p) (e := e) (R := room_1) (below := below) (meth := meth) (cells := k) (slots := n) (H := H) (locs := locs) (As := av) (rest := rest) (g := F0 m pc la (av.reverse ++ rest)) (n := np) ⟨hx, hb, hml, hown, hts⟩ hM (vx_cwSW (R := room_1) np hts (hd_good hw hlink hs hini) rfl rfl rfl hy ⟨by show 30 + 1 ≤ 2048; omega, by show 8 + (hd.2.2.1 + 11) + 64 * 30 ≤ 84000; omega⟩)
    ⟨hpd_blind, fun U hU hW => ⟨rfl, by rw [hU], (ox_pc (as := []) Ox1 hHp.1 S hU hW).2.2, by rw [hU]; exact hHp.2.2.2, va_K.moved hW.alike KD, hN.moved hW.alike⟩⟩ rfl hlen hl.1 rfl (lv_room hrs) hdd ⟨hk, hn⟩
  unfold HQd at hrun
  have hAB : ∀ q, hA wx H.size qd q → B0 wx q := hA_B0 Ox1.2.2.1 hz (lc_Od C)
  refine vx_calli hrun hS (fun q _ h => hAB q h) hAB (fun q _ h => h.elim) (fun E ce q9 u t H1 locs1 ht hvm hw hB hz hk hS1 _ _ _ => hw.elim) (fun r u t H1 locs1 ht hvm hw hB hz1 hk1 hS1 => ?_)
  subst hw
  obtain ⟨b1, b2⟩ := hB
  rw [ht] at b1 b2
  exact kk H1 locs1 la (lh_d C hHp b1 b2 hk1) hS1 hl
theorem l_evD {md : MD} {d2 idx np : Nat} {as : List AV} {r : UInt64} {rest st0 : List Value} (C : Lc wx wm cL cD qo qd p l s m meth c b L xs) (hE : EvD KSm ST1 md d2 (0, 0) (.inr 0 :: as) Mm (some (r, Mm2))) (hw : mdW md) (hi : Cond.instanceMethod md.1 ∈ WS) (hsel : Cond.selects RX10 md.1 md.1 ∈ WS) (hlink : Cond.methodLink RL idx md.1 ∈ WS) (hnp : (parseMethodDescriptor md.1.desc).map (fun d => d.parameters.length) = some np) (hlen : as.length = np) (hmL : md.2.2.1 ≤ 45) (hd2 : d2 ≤ 40) (hd : decode code pc = .ok (.invokevirtual idx, 3)) (hst : (trs wm as).reverse ++ .ref (wm.1 0) :: rest = st0) (hrs : (rest.map fun v => v.category).sum ≤ 8) (hk : k ≤ 601024) (hn : n ≤ 7293034) (kk : Lj wx wm cL cD qo qd p l e s m below meth c b (pc + 3) ls (.double r :: rest) Mx Mm2 f g (k) (n)) : Lj wx wm cL cD qo qd p l e s m below meth c b (pc) ls (st0) Mx Mm f g k n := by
  intro H locs la hHp hS hl
  refine w_evD (KS := KSm) (wp := wm) (t := 0) (ci := 10) (n0 := 0) (cq := (RX10, TX10, 25)) hE hw hi hsel rfl (by decide) rfl hlink hnp hlen hmL (by show d2 + 1 ≤ 2048; omega) (by show 64 + 64 * d2 ≤ 84000; omega) hd hst hrs C.1 C.2.2.2.2.1 hHp.2.1 (lc_Sm C hS) hl.1 hk hn (fun H1 locs1 hP1 hz1 hk1 hS1 => ?_)
  exact kk H1 locs1 la (lh_m C hHp hP1 hk1) hS1 hl
theorem l_dstore {i : Nat} {x : UInt64} {ls2 : List (Nat × Value)} (C : Lc wx wm cL cD qo qd p l s m meth c b L xs) (hd : decode code pc = .ok (.dstore i, 2)) (hn : i + 1 < 9) (hl : (i, Value.double x) :: ls.filter (fun q => !(q.1 == i) && (!(q.1 == i + 1) && !(q.1 + 1 == i && q.2.category == 2))) = ls2) (kk : Lj wx wm cL cD qo qd p l e s m below meth c b (pc + 2) (ls2) (st) Mx Mm f g k n) : Lj wx wm cL cD qo qd p l e s m below meth c b (pc) ls (.double x :: st) Mx Mm f g k n := by
  intro H locs la hH hS h
  exact lv_dstore C.1.1 C.1.2.1 hd h hn hl (fun la2 h2 => kk H locs la2 hH hS h2)
theorem l_daload (C : Lc wx wm cL cD qo qd p l s m meth c b L xs) (hd : decode code pc = .ok (.daload, 1)) (kk : Lj wx wm cL cD qo qd p l e s m below meth c b (pc + 1) ls (.double (g 0) :: st) Mx Mm f g k n) : Lj wx wm cL cD qo qd p l e s m below meth c b (pc) ls (.int 0 :: .ref qd :: st) Mx Mm f g k n := by
  refine l_step (fun H locs la Q hH hS hl kk => ?_) kk
  obtain ⟨F, hr, hlk, Ox1, Om, KL, KD, -⟩ := C
  exact va_dald (D := wx.2.1) (cl := clX) (ws := [(qd, outD cD g)]) F.1 F.2.1 KD (P_cons hH.2.2.2 (fun k q h => by simp at h)) 0 0 (n := 1) (f := g) rfl rfl (i := 0) (by unfold vp_in; decide) hd kk
theorem l_dload {i : Nat} {x : UInt64} (j : Nat) (C : Lc wx wm cL cD qo qd p l s m meth c b L xs) (hd : decode code pc = .ok (.dload i, 2)) (hl : ls[j]? = some (i, .double x)) (kk : Lj wx wm cL cD qo qd p l e s m below meth c b (pc + 2) ls (.double x :: st) Mx Mm f g k n) : Lj wx wm cL cD qo qd p l e s m below meth c b pc ls st Mx Mm f g k n :=
  l_step (fun _ _ _ _ _ _ h kk => lv_dload C.1.1 C.1.2.1 hd (lv_at h j hl) kk) kk
end LWD
set_option maxRecDepth 20000 in
set_option maxHeartbeats 2000000 in
theorem case_28 {wx wm : Wp} {cL cD : ClassId} {qo qd : Nat} {p : Program} {l : Launch} {e : Env} {s : State} {m : MethodId} {below : List Frame} {meth : Method} {c : Code} {b L : Nat} {xs : Nat → Int32} {Mx Mm : Mem} {f : Nat → Int64} {g : Nat → UInt64} {k n j : Nat} (C : Lc wx wm cL cD qo qd p l s m meth c b L xs) (h : Inv j Mx Mm) (hm : j < 512) (hj : 6 * j + 6 ≤ L) (hk : k + 1 ≤ 601024) (hn : n + 6 ≤ 7293034) (kk : ∀ (Mx2 Mm2 : Mem) (f2 : Nat → Int64) (g2 : Nat → UInt64), Inv (j + 1) Mx2 Mm2 → Lj wx wm cL cD qo qd p l e s m below meth c b 2436 [(0, .ref b), (1, .ref (wx.1 0)), (2, .ref (wm.1 0)), (3, .ref qo), (4, .ref qd), (5, .int (nI (6 * j)))] [] Mx2 Mm2 f2 g2 (k + 1) (n + 6)) : Lj wx wm cL cD qo qd p l e s m below meth c b 1863 [(0, .ref b), (1, .ref (wx.1 0)), (2, .ref (wm.1 0)), (3, .ref qo), (4, .ref qd), (5, .int (nI (6 * j)))] [] Mx Mm f g k n := by
  obtain ⟨M1, e1, t0, hI, hc⟩ := s_util h (xs (6 * j + 1))
  obtain ⟨g2, kr, r, Mm2, hH, hE, hkr, hI2, hg⟩ : ∃ (g2 : Nat → UInt64) (kr : Int32) (r : UInt64) (Mm2 : Mem), HMd hdL_utilization [.ref (wx.1 0), .int (xs (6 * j + 1)), .ref qd] wx cD qd g g2 Mx Mx kr ∧ EvD KSm ST1 mdX10_utilization 25 (0, 0) [.inr 0, .inl (xs (6 * j + 1))] Mm (some (r, Mm2)) ∧ Mm2 0 0 = kr ∧ Inv (j + 1) Mx Mm2 ∧ (kr = 0 → g2 0 = r ∧ FP.dcmp r r = some .eq) := by
    have ok := C.2.2.2.1.2.2.1
    rcases hc with ⟨bk, F, hb8, ex, hF, c1, c2, c3, c4, c5⟩ | ⟨c1, c2⟩
    · by_cases hz : F = 0
      · subst hz
        rw [nI_0] at c3 c4
        exact ⟨g, 2, _, _, hmd_ex ok (lc_Od C) (ux_is _ _ c1 c3) (Or.inr ⟨rfl, rfl⟩), um_is _ _ _ e1 t0 c2 c4, up_eq _ _ _ _, hI.th (by omega) _, fun q => absurd q (by decide)⟩
      · have hne : ¬ nI F = 0 := nI_ne0 (by omega) (by omega)
        have hle : ¬ nI F ≤ 0 := nI_nle (by omega) (by omega)
        rw [ex] at c1 c2 ⊢
        refine ⟨_, 0, _, _, hmd_ok ok (lc_Od C) (ux_ok bk (nI F) Mx hb8 c1 c3 hne), um_ok bk Mm M1 (nI F) e1 t0 hb8 c2 c4 hle, t0, hI.next, fun _ => ⟨?_, fl_cmp (fl_no _ _ hne)⟩⟩
        rw [← c5]
        simp [vf_upd]
    · exact ⟨g, 1, _, _, hmd_ex ok (lc_Od C) (ux_io _ _ c1) (Or.inl ⟨rfl, rfl⟩), um_io _ _ _ e1 t0 c2, up_eq _ _ _ _, hI.th (by omega) _, fun q => absurd q (by decide)⟩
  refine l_aload_n 1 C dL_law_1863 rfl ?_
  refine l_arg (i := 6 * j) (v := 1) 0 5 C (by omega) (by decide) dL_law_1864 dL_law_1865 dL_law_1867 dL_law_1868 dL_law_1869 rfl rfl ?_
  refine l_aload 4 C dL_law_1870 rfl ?_
  refine l_helpD (rest := []) C hH wm_L_utilization ws_L_utilization w0_RL wl_RL_230 ⟨by decide, by decide, by decide +kernel⟩ (np := 3) rfl (by decide) dL_law_1872 rfl (by decide) (by omega) (by omega) ?_
  refine l_istore (ls2 := [(6, .int kr), (0, .ref b), (1, .ref (wx.1 0)), (2, .ref (wm.1 0)), (3, .ref qo), (4, .ref qd), (5, .int (nI (6 * j)))]) C dL_law_1875 (by decide) rfl ?_
  refine l_aload_n 3 C dL_law_1877 rfl ?_
  refine l_arg (i := 6 * j) (v := 1) 1 6 C (by omega) (by decide) dL_law_1878 dL_law_1879 dL_law_1881 dL_law_1882 dL_law_1883 rfl rfl ?_
  refine l_evD (as := [.inl (xs (6 * j + 1))]) (rest := []) C hE mw_X10_utilization wi_X10_utilization wv_X10_utilization wl_RL_233 mn_X10_utilization rfl (by decide) (by decide) dL_law_1884 rfl (by decide) (by omega) (by omega) ?_
  refine l_dstore (ls2 := [(7, .double r), (6, .int kr), (0, .ref b), (1, .ref (wx.1 0)), (2, .ref (wm.1 0)), (3, .ref qo), (4, .ref qd), (5, .int (nI (6 * j)))]) C dL_law_1887 (by decide) rfl ?_
  refine l_thr (tgt := 1900) 4 1 C rfl rfl hkr dL_law_1889 dL_law_1890 dL_law_1893 dL_law_1895 (by decide) (by omega) (by omega) ?_
  have K2 : Lj wx wm cL cD qo qd p l e s m below meth c b 1937 [(7, .double r), (6, .int kr), (0, .ref b), (1, .ref (wx.1 0)), (2, .ref (wm.1 0)), (3, .ref qo), (4, .ref qd), (5, .int (nI (6 * j)))] [] Mx Mm2 f g2 (k + 1) (n + 6) := by
    refine l_goto (tgt := 2436) C dL_law_1937 (by decide) ?_
    refine l_sub [2, 3, 4, 5, 6, 7] (ls2 := [(0, .ref b), (1, .ref (wx.1 0)), (2, .ref (wm.1 0)), (3, .ref qo), (4, .ref qd), (5, .int (nI (6 * j)))]) rfl ?_
    exact kk Mx Mm2 _ _ hI2
  refine l_iload 1 C dL_law_1900 rfl ?_
  by_cases hz : kr = 0
  · obtain ⟨hg0, hcmp⟩ := hg hz
    refine l_step (pc2 := 1905) (st2 := []) (fun H locs la Q hH hS hl kk => lv_if_ne (tgt := 1937) C.1.1 C.1.2.1 dL_law_1902 (by decide) (fun q => absurd hz q) (fun _ => kk)) ?_
    refine l_aload 6 C dL_law_1905 rfl ?_
    refine l_iconst (v := 0) C dL_law_1907 (by decide) ?_
    refine l_daload C dL_law_1908 ?_
    refine l_dload 0 C dL_law_1909 rfl ?_
    rw [hg0]
    refine l_step (pc2 := 1912) (st2 := [.int 0]) (fun H locs la Q hH hS hl kk => ?_) ?_
    · refine lv_dcmp C.1.1 C.1.2.1 dL_law_1911 ?_
      rw [hcmp]
      exact kk
    · exact l_step (fun H locs la Q hH hS hl kk => lv_if_eq (tgt := 1937) C.1.1 C.1.2.1 dL_law_1912 (by decide) (fun _ => kk) (fun q => absurd rfl q)) K2
  · exact l_step (fun H locs la Q hH hS hl kk => lv_if_ne (tgt := 1937) C.1.1 C.1.2.1 dL_law_1902 (by decide) (fun _ => kk) (fun q => absurd q hz)) K2
