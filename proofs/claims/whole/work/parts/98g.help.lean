/-! ===== the law's helpers: a call in a try, its value in a row of longs ===== -/
def outE (cL : ClassId) (f : Nat → Int64) : va_E := .inl (cL, 1, .inr (.inl f))
def Ncs (U : State) : Prop := va_Nc eIS eIO U ∧ va_Nc eIA eIO U ∧ va_Nc eIO eIS U ∧ va_Nc eNS eIO U
theorem Ncs.moved {u U : State} (hv : u.vm.Alike U.vm) (h : Ncs u) : Ncs U := ⟨va_Nc.moved hv h.1, va_Nc.moved hv h.2.1, va_Nc.moved hv h.2.2.1, va_Nc.moved hv h.2.2.2⟩
def Oq (wp : Wp) (qo : Nat) : Prop := wp.2.2.2 ≤ qo ∧ ∀ i, i < KSx.length → wp.1 i ≠ qo
def hA (wp : Wp) (sz qo : Nat) : Nat → Prop := fun q => Aw KSx wp sz q ∨ q = qo
def HPc (wp : Wp) (cL : ClassId) (qo : Nat) (f : Nat → Int64) (M : Mem) (sz : Nat) (av : List Value) : Array Value → State → Prop := va_Pc av (fun U => U.heap.size = sz ∧ Wd KSx ST1 wp M U ∧ va_at wp.2.1 clX (qo, outE cL f) U.heap ∧ va_K wp.2.1 clX [(cL, .long)] U ∧ Ncs U)
def HQc (wp : Wp) (cL : ClassId) (qo : Nat) (f : Nat → Int64) (M : Mem) (sz : Nat) (kr : Int32) : Array Value → State → Outcome → State → Prop := va_Qi (fun v (_ : Unit) => v = kr) (fun _ t => va_P wp.2.1 clX (wl KSx wp M) t.heap ∧ va_at wp.2.1 clX (qo, outE cL f) t.heap) (hA wp sz qo)
abbrev HXc : String → State → State → Prop := vx_X (fun _ : Unit => False) (fun _ _ _ => True) (fun _ => False)
abbrev HDt : Type := MethodName × ByteArray × Nat × List (Nat × Nat × Nat × Nat)
/-- the contract of a helper: it answers kr, the world is M2, the row holds f2 -/
def HM (hd : HDt) (av : List Value) (wp : Wp) (cL : ClassId) (qo : Nat) (f f2 : Nat → Int64) (M M2 : Mem) (kr : Int32) : Prop := ∀ (l : Launch) (sz : Nat), l.stackTraces = false → wp.2.2.2 ≤ sz → qo < sz →
  vx_Met l hd.1 (Cond.codeWith hd.1 hd.2.1 hd.2.2.1 (some .int) hd.2.2.2 :: WS) (rmd 30 (1, 6)) (HPc wp cL qo f M sz av) (HQc wp cL qo f2 M2 sz kr) HXc 1 6 (hA wp sz qo)
def Hx (cc : ByteArray) (nL : Nat) (hh : List (Nat × Nat × Nat × Nat)) (wp : Wp) (cL : ClassId) (qo : Nat) (p : Program) (l : Launch) (s : State) (m : MethodId) (args : Array Value) (meth : Method) (c : Code) : Prop :=
  Fx RL cc nL p l s m args c ∧ Ox KSx s wp ∧ meth.sig.returnType = some .int ∧ meth.locks = false ∧ c.exceptionTable.toList = tableOf hh ∧ va_K wp.2.1 clX [(cL, .long)] s ∧ Oq wp qo ∧ Ncs s ∧ qo < s.heap.size
theorem P_cons {D : va_G} {cl : List vw_C} {q : Nat × va_E} {ws : va_W} {H : Heap} (h1 : va_at D cl q H) (h2 : va_P D cl ws H) : va_P D cl (q :: ws) H := by
  intro k x hx
  cases k with
  | zero => cases hx; exact h1
  | succ k => exact h2 k x hx
theorem P_head {D : va_G} {cl : List vw_C} {q : Nat × va_E} {ws : va_W} {H : Heap} (h : va_P D cl (q :: ws) H) : va_at D cl q H := h 0 q rfl
theorem P_tail {D : va_G} {cl : List vw_C} {q : Nat × va_E} {ws : va_W} {H : Heap} (h : va_P D cl (q :: ws) H) : va_P D cl ws H := fun k x hx => h (k + 1) x hx
theorem D_cons {A A2 : Nat → Prop} {ws : va_W} {qo : Nat} {e : va_E} (hD : va_D A ws) (ne : ∀ (j : Nat) (q : Nat × va_E), ws[j]? = some q → qo ≠ q.1) (h1 : ∀ q, A q → A2 q) (h0 : A2 qo) : va_D A2 ((qo, e) :: ws) := by
  refine ⟨fun i j p q hp hq e => ?_, fun k q hk => ?_⟩
  · cases i with
    | zero =>
      cases j with
      | zero => rfl
      | succ j => cases hp; exact absurd e (ne j q hq)
    | succ i =>
      cases j with
      | zero => cases hq; exact absurd e.symm (ne i p hp)
      | succ j => rw [hD.1 i j p q hp hq e]
  · cases k with
    | zero => cases hk; exact h0
    | succ k => exact h1 _ (hD.2 k q hk)
theorem D_out {wp : Wp} {qo sz : Nat} {M : Mem} {e : va_E} (ok : okW KSx wp) (hq : Oq wp qo) : va_D (hA wp sz qo) ((qo, e) :: wl KSx wp M) := by
  refine D_cons (wl_D ok M sz) (fun j q hj => ?_) (fun _ h => Or.inl h) (Or.inr rfl)
  obtain ⟨kd, h1, h2⟩ := wl_of hj
  rw [h2]
  exact fun e => hq.2 j (List.getElem?_eq_some_iff.mp h1).1 e.symm
theorem hA_B0 {wp : Wp} {qo sz : Nat} (ok : okW KSx wp) (hz : wp.2.2.2 ≤ sz) (hq : Oq wp qo) : ∀ q, hA wp sz qo q → B0 wp q := by
  intro q h
  rcases h with h | rfl
  · exact Aw_B0 ok hz q h
  · exact hq.1
theorem hA_at {wp : Wp} {sz qo : Nat} {cL : ClassId} {f : Nat → Int64} {H H1 : Heap} (hq : Oq wp qo) (hz : qo < sz) (h : va_at wp.2.1 clX (qo, outE cL f) H) (hk : ∀ q, q < sz → ¬ Aw KSx wp sz q → H1[q]? = H[q]?) : va_at wp.2.1 clX (qo, outE cL f) H1 := by
  refine h.kept (hk qo hz ?_)
  rintro (⟨k, h1, h2⟩ | h2)
  · exact hq.2 k h1 h2.symm
  · exact absurd hz (Nat.not_lt.mpr h2)
/-- the contract out of a walk -/
theorem hp_of {hd : HDt} {av : List Value} {wp : Wp} {cL : ClassId} {qo : Nat} {f f2 : Nat → Int64} {M M2 : Mem} {kr : Int32} (hp : plainName hd.1.cls = true) (hown : hd.1.cls = RL) (hav : (lg_sl av).length ≤ hd.2.2.1) (ok : okW KSx wp) (hq : Oq wp qo)
    (h : ∀ (p : Program) (l : Launch) (e : Env) (s : State) (m : MethodId) (args : Array Value) (below : List Frame) (meth : Method) (c : Code) (la : Array Slot), Hx hd.2.1 hd.2.2.1 hd.2.2.2 wp cL qo p l s m args meth c → va_P wp.2.1 clX (wl KSx wp M) s.heap → va_at wp.2.1 clX (qo, outE cL f) s.heap → lv_has la hd.2.2.1 (lv_args 0 av) →
      W p l e (rmd 30 (1, 6)) s m args below meth c s.heap [] 0 0 (vx_MQ below (HQc wp cL qo f2 M2 s.heap.size kr) HXc args s 1 6 (hA wp s.heap.size qo)) (F0 m 0 la [])) : HM hd av wp cL qo f f2 M M2 kr := by
  intro l sz hst hbz hqs
  refine vx_ofWH (cc := hd.2.1) (maxL := hd.2.2.1) (ret := some .int) (hh := hd.2.2.2) hp rfl ?_
  intro p e s m args below meth c s₁ B hml hv
  obtain ⟨rfl, rfl, ⟨hP, hK, hE⟩, ho, hKo, hN⟩ := hv
  have hts := atoms_spec (ws := Cond.codeWith hd.1 hd.2.1 hd.2.2.1 (some .int) hd.2.2.2 :: WS) B.pre
  have htb := vx_table (x := hd.1) B (hts _ List.mem_cons_self)
  have hl := lv_entry av (n := hd.2.2.1) hav
  rw [lg_entry_eq]
  have hcl : s.vm.findClass RL = some m.cls := by rw [← hown]; exact findClass_of_methodNamed B.named
  exact h p l e s m _ below meth c _ ⟨⟨B.exec, B.bytes, hml, hcl, fun w hw => hts w (List.mem_cons_of_mem _ hw), hst⟩, ⟨hK, hE, ok, hbz⟩, B.returns, B.notSynchronized, htb, hKo, hq, hN, hqs⟩ hP ho hl
section HP
variable {cc : ByteArray} {nL : Nat} {hh : List (Nat × Nat × Nat × Nat)} {wp : Wp} {cL : ClassId} {qo : Nat} {p : Program} {l : Launch} {e : Env} {R : Room} {s : State} {m : MethodId} {args : Array Value} {below : List Frame} {meth : Method} {c : Code} {H : Heap} {locs : List Loc} {k n : Nat} {pc : Nat} {la : Array Slot} {f f2 : Nat → Int64} {M2 : Mem} {kr : Int32}
theorem hp_S (C : Hx cc nL hh wp cL qo p l s m args meth c) : Sx KSx wp (hA wp s.heap.size qo) s s.heap [] := ⟨va_S.rf, hA_B0 C.2.1.2.2.1 C.2.1.2.2.2 C.2.2.2.2.2.2.1, fun _ h => Or.inl h⟩
theorem hp_ret (C : Hx cc nL hh wp cL qo p l s m args meth c) (hd : decode cc pc = .ok (.ireturn, 1)) (hP : va_P wp.2.1 clX (wl KSx wp M2) H) (ho : va_at wp.2.1 clX (qo, outE cL f2) H) (hS : va_S (hA wp s.heap.size qo) s.heap H locs) (hk : k ≤ 1) (hn : n ≤ 6) : W p l e R s m args below meth c H locs k n (vx_MQ below (HQc wp cL qo f2 M2 s.heap.size kr) HXc args s 1 6 (hA wp s.heap.size qo)) (F0 m pc la [.int kr]) := by
  obtain ⟨F, O, hr, hlk, -⟩ := id C
  refine W.widen hk hn (vx_ret ?_)
  exact W.iret F.1 F.2.1 hr (fun t ht hW => ⟨⟨kr, (), rfl, rfl, by rw [ht]; exact hP, by rw [ht]; exact ho⟩, hS.F ht⟩) hS.2.2 hd hlk
/-- 0 is answered -/
theorem hp_zero (C : Hx cc nL hh wp cL qo p l s m args meth c) {off : Int} {tgt : Nat} (d2 : decode cc pc = .ok (.goto off, 3)) (ht : (pc : Int) + off = (tgt : Int)) (d3 : decode cc tgt = .ok (.iconst 0, 1)) (d4 : decode cc (tgt + 1) = .ok (.ireturn, 1)) (hP : va_P wp.2.1 clX (wl KSx wp M2) H) (ho : va_at wp.2.1 clX (qo, outE cL f2) H) (hS : va_S (hA wp s.heap.size qo) s.heap H locs) (hk : k ≤ 1) (hn : n ≤ 6) : W p l e R s m args below meth c H locs k n (vx_MQ below (HQc wp cL qo f2 M2 s.heap.size 0) HXc args s 1 6 (hA wp s.heap.size qo)) (F0 m pc la []) := by
  refine lv_goto (tgt := tgt) C.1.1 C.1.2.1 d2 ht ?_
  refine lv_iconst (v := 0) C.1.1 C.1.2.1 d3 (by decide) ?_
  exact hp_ret C d4 hP ho hS hk hn
theorem hp_st (C : Hx cc nL hh wp cL qo p l s m args meth c) {x : Int64} {off : Int} {tgt : Nat} (d1 : decode cc pc = .ok (.lastore, 1)) (d2 : decode cc (pc + 1) = .ok (.goto off, 3)) (ht : ((pc + 1 : Nat) : Int) + off = (tgt : Int)) (d3 : decode cc tgt = .ok (.iconst 0, 1)) (d4 : decode cc (tgt + 1) = .ok (.ireturn, 1)) (hP : va_P wp.2.1 clX (wl KSx wp M2) H) (ho : va_at wp.2.1 clX (qo, outE cL f) H) (hS : va_S (hA wp s.heap.size qo) s.heap H locs) (hk : k ≤ 1) (hn : n ≤ 6) : W p l e R s m args below meth c H locs k n (vx_MQ below (HQc wp cL qo (vp_updL f 0 x) M2 s.heap.size 0) HXc args s 1 6 (hA wp s.heap.size qo)) (F0 m pc la [.long x, .int 0, .ref qo]) := by
  obtain ⟨F, O, hr, hlk, htb, hKo, hq, -⟩ := id C
  refine va_last (ws := (qo, outE cL f) :: wl KSx wp M2) F.1 F.2.1 hKo (P_cons ho hP) (D_out O.2.2.1 hq) hS 0 0 (n := 1) (f := f) rfl rfl (i := 0) (by unfold vp_in; decide) d1 (fun H1 locs1 hP1 hD1 hS1 => ?_)
  exact hp_zero C d2 ht d3 d4 (P_tail hP1) (P_head hP1) hS1 hk hn
theorem hp_okL (C : Hx cc nL hh wp cL qo p l s m args meth c) {v : Int32} {off : Int} {tgt : Nat} (d0 : decode cc pc = .ok (.i2l, 1)) (d1 : decode cc (pc + 1) = .ok (.lastore, 1)) (d2 : decode cc (pc + 1 + 1) = .ok (.goto off, 3)) (ht : ((pc + 1 + 1 : Nat) : Int) + off = (tgt : Int)) (d3 : decode cc tgt = .ok (.iconst 0, 1)) (d4 : decode cc (tgt + 1) = .ok (.ireturn, 1)) (hP : va_P wp.2.1 clX (wl KSx wp M2) H) (ho : va_at wp.2.1 clX (qo, outE cL f) H) (hS : va_S (hA wp s.heap.size qo) s.heap H locs) (hk : k ≤ 1) (hn : n ≤ 6) : W p l e R s m args below meth c H locs k n (vx_MQ below (HQc wp cL qo (vp_updL f 0 v.toInt64) M2 s.heap.size 0) HXc args s 1 6 (hA wp s.heap.size qo)) (F0 m pc la [.int v, .int 0, .ref qo]) := by
  refine lv_i2l C.1.1 C.1.2.1 d0 rfl ?_
  exact hp_st C d1 d2 ht d3 d4 hP ho hS hk hn
def zL (v : Int32) : Int64 := if v = 0 then 0 else 1
theorem hp_okZ (C : Hx cc nL hh wp cL qo p l s m args meth c) {v : Int32} {o0 o1 off : Int} {t0 t1 tgt : Nat} (d0 : decode cc pc = .ok (.ifCond .eq o0, 3)) (h0 : (pc : Int) + o0 = (t0 : Int)) (e1 : decode cc (pc + 3) = .ok (.lconst 1, 1)) (e2 : decode cc (pc + 3 + 1) = .ok (.goto o1, 3)) (h1 : ((pc + 3 + 1 : Nat) : Int) + o1 = (t1 : Int)) (e3 : decode cc t0 = .ok (.lconst 0, 1)) (h2 : t0 + 1 = t1) (d1 : decode cc t1 = .ok (.lastore, 1)) (d2 : decode cc (t1 + 1) = .ok (.goto off, 3)) (ht : ((t1 + 1 : Nat) : Int) + off = (tgt : Int)) (d3 : decode cc tgt = .ok (.iconst 0, 1)) (d4 : decode cc (tgt + 1) = .ok (.ireturn, 1)) (hP : va_P wp.2.1 clX (wl KSx wp M2) H) (ho : va_at wp.2.1 clX (qo, outE cL f) H) (hS : va_S (hA wp s.heap.size qo) s.heap H locs) (hk : k ≤ 1) (hn : n ≤ 6) : W p l e R s m args below meth c H locs k n (vx_MQ below (HQc wp cL qo (vp_updL f 0 (zL v)) M2 s.heap.size 0) HXc args s 1 6 (hA wp s.heap.size qo)) (F0 m pc la [.int v, .int 0, .ref qo]) := by
  refine lv_if_eq (tgt := t0) C.1.1 C.1.2.1 d0 h0 (fun hz => ?_) (fun hz => ?_)
  · refine lv_lconst (v := 0) C.1.1 C.1.2.1 e3 (by decide) ?_
    rw [h2, show zL v = 0 by unfold zL; rw [if_pos hz]]
    exact hp_st C d1 d2 ht d3 d4 hP ho hS hk hn
  · refine lv_lconst (v := 1) C.1.1 C.1.2.1 e1 (by decide) ?_
    refine lv_goto (tgt := t1) C.1.1 C.1.2.1 e2 h1 ?_
    rw [show zL v = 1 by unfold zL; rw [if_neg hz]]
    exact hp_st C d1 d2 ht d3 d4 hP ho hS hk hn
/-- a throw is caught -/
theorem hp_ex {E : String} {ce : Cell} {q9 : Addr} {rest : List Value} {ls : List (Nat × Value)} (C : Hx cc nL hh wp cL qo p l s m args meth c) (hl : lv_has la nL ls) (pre : List ExceptionTableEntry) (x : ExceptionTableEntry) (suf : List ExceptionTableEntry) (hsp : tableOf hh = pre ++ x :: suf) (hpass : ∀ z ∈ pre, z.catchType ≠ 0 ∧ ∃ nm : String, Cond.classLink RL z.catchType nm ∈ WS ∧ va_Nc E nm s) (hx : covers x pc = true) (h0 : x.catchType ≠ 0) (hlink : Cond.classLink RL x.catchType E ∈ WS) (hcast : Cond.castable E E ∈ nestW) (g1 : H[q9]? = some ce) (g2 : ce.vm = .none) (g3 : s.vm.findClass E = some ce.cls)
    {kc : Int} {t1 : Nat} (hst : (∃ i : Fin 4, decode cc x.handlerPc = .ok (.astore_n i, 1) ∧ (i : Nat) < nL ∧ x.handlerPc + 1 = t1) ∨ (∃ i : Nat, decode cc x.handlerPc = .ok (.astore i, 2) ∧ i < nL ∧ x.handlerPc + 2 = t1)) (d1 : decode cc t1 = .ok (.iconst kc, 1)) (hkr : Int32.ofInt kc = kr) (d2 : decode cc (t1 + 1) = .ok (.ireturn, 1))
    (hP : va_P wp.2.1 clX (wl KSx wp M2) H) (ho : va_at wp.2.1 clX (qo, outE cL f2) H) (hS : va_S (hA wp s.heap.size qo) s.heap H locs) (hk : k ≤ 1) (hn : n ≤ 6) : vx_W p l e R s m args below meth c H locs k n (vx_MQ below (HQc wp cL qo f2 M2 s.heap.size kr) HXc args s 1 6 (hA wp s.heap.size qo)) (F0 m pc la rest) q9 := by
  obtain ⟨F, O, hr, hlk, htb, hKo, hq, -⟩ := id C
  obtain ⟨hx0, hb, hml, hown, hts, hstk⟩ := id F
  refine vx_catch hown pre x suf (htb.trans hsp) (fun z hz => ?_) hx h0 (hts _ hlink) (va_Nw.use rfl (O.2.1.1 _ hcast)) g1 g2 g3 ?_
  · obtain ⟨z1, nm, z2, z3⟩ := hpass z hz
    exact Or.inr ⟨z1, nm, hts _ z2, z3⟩
  · rcases hst with ⟨i, s1, s2, s3⟩ | ⟨i, s1, s2, s3⟩
    · refine lv_astore_n hx0 hb s1 rfl hl s2 rfl (fun la2 h2 => ?_)
      rw [s3]
      exact lv_iconst hx0 hb d1 hkr (hp_ret C d2 hP ho hS hk hn)
    · refine lv_astore hx0 hb s1 hl s2 rfl (fun la2 h2 => ?_)
      rw [s3]
      exact lv_iconst hx0 hb d1 hkr (hp_ret C d2 hP ho hS hk hn)
end HP
/-- what a helper answers, and what its row holds behind it -/
def Kr (cs : List String) (r : Int32 ⊕ String) (kr : Int32) : Prop := (∃ v, r = .inl v ∧ kr = 0) ∨ (∃ k E, r = .inr E ∧ cs[k]? = some E ∧ kr = nI (k + 1))
def fOf (g : Int32 → Int64) (f : Nat → Int64) : Int32 ⊕ String → Nat → Int64
  | .inl v => vp_updL f 0 (g v)
  | .inr _ => f
