/-! ===== calls of the methods' contracts from any frame ===== -/
def Fx (own : String) (cc : ByteArray) (nL : Nat) (p : Program) (l : Launch) (s : State) (m : MethodId) (args : Array Value) (c : Code) : Prop := p.tables.exec = Jvm.exec ∧ c.code = cc ∧ c.maxLocals = nL ∧ s.vm.findClass own = some m.cls ∧ (∀ w ∈ WS, w.before args s = true) ∧ l.stackTraces = false
def Ox (KS : List Kd) (s : State) (wp : Wp) : Prop := va_K wp.2.1 clX (tysW wp) s ∧ Ext ST1 wp s s.heap ∧ okW KS wp ∧ wp.2.2.2 ≤ s.heap.size
def Sx (KS : List Kd) (wp : Wp) (A : Nat → Prop) (s : State) (H : Heap) (locs : List Loc) : Prop := va_S A s.heap H locs ∧ (∀ q, A q → B0 wp q) ∧ ∀ q, Aw KS wp H.size q → A q
section LC
variable {KS : List Kd} {p : Program} {l : Launch} {e : Env} {R : Room} {s : State} {m : MethodId} {args : Array Value} {below : List Frame} {meth : Method} {c : Code} {H : Heap} {locs : List Loc} {k n : Nat} {Q : State → Prop} {own : String} {cc : ByteArray} {nL : Nat} {wp : Wp} {pc : Nat} {la : Array Slot} {A : Nat → Prop} {st0 rest : List Value} {M M1 : Mem}
theorem ox_pc {U : State} {as : List AV} (O : Ox KS s wp) (hP : va_P wp.2.1 clX (wl KS wp M) H) (S : Sx KS wp A s H locs) (hU : U.heap = H) (hW : s.WarmedH U.vm) : PcW KS ST1 wp as M H.size (trs wp as).toArray U := by
  obtain ⟨hK, hE, ok, hbz⟩ := O
  refine ⟨rfl, by rw [hU], by rw [hU]; exact hP, va_K.moved hW.alike hK, ?_⟩
  rw [hU]
  exact hE.next hW (fun a h1 h2 => S.1.2.1 a h1 (fun h => h2 (S.2.1 a h)))
theorem ox_z (O : Ox KS s wp) (S : Sx KS wp A s H locs) : wp.2.2.2 ≤ H.size := Nat.le_trans O.2.2.2 S.1.1
/-- a method of a world's object that doesn't throw -/
theorem w_run {md : MD} {d2 idx np t ci n0 : Nat} {cq : vw_C} {as : List AV} {v : Int32} (hE : Ev KS ST1 md d2 (.inr t :: as) M (some (v, M1))) (hw : mdW md) (hi : Cond.instanceMethod md.1 ∈ WS) (hsel : Cond.selects cq.1 md.1 md.1 ∈ WS) (hK : KS[t]? = some (ci, n0)) (hci : ci < 20) (hq : clX[ci]? = some cq) (hlink : Cond.methodLink own idx md.1 ∈ WS) (hn : (parseMethodDescriptor md.1.desc).map (fun d => d.parameters.length) = some np) (hlen : as.length = np) (hmL : md.2.2.1 ≤ 45) (hfr : d2 + 1 ≤ R.frames) (hlo : 64 + 64 * d2 ≤ R.locals) (hd : decode cc pc = .ok (.invokevirtual idx, 3)) (hst : (trs wp as).reverse ++ .ref (wp.1 t) :: rest = st0) (hrs : (rest.map fun v => v.category).sum ≤ 8)
    (F : Fx own cc nL p l s m args c) (O : Ox KS s wp) (hP : va_P wp.2.1 clX (wl KS wp M) H) (S : Sx KS wp A s H locs) (hl : la.size = nL) (hk : k ≤ R.cells) (hs : n ≤ R.slots) :
    va_Run p l e R s m args below meth c H locs k n 0 0 (F0 m pc la st0) rest (QcW KS ST1 wp md.2.2.2 v M1 H.size (trs wp (.inr t :: as)).toArray) (Aw KS wp H.size) := by
  obtain ⟨hx, hb, hml, hown, hts, hstk⟩ := id F
  have hM := hE l wp H.size v M1 hstk O.2.2.1 (ox_z O S) rfl
  subst hst
  exact va_runV (As := trs wp as) (b := wp.1 t) (C := cq.1) (n := np) ⟨hx, hb, hml, hown, hts⟩ hM ⟨callB_of np hts (md_good hw) rfl rfl rfl (hts _ hw.2.1) (hts _ hlink) ⟨hw.2.2.1, hw.2.2.2, hn⟩ ⟨hfr, by show 8 + (md.2.2.1 + 11) + 64 * d2 ≤ R.locals; omega⟩, hts _ hi, hts _ hsel⟩ ⟨pcW_blind, va_recv O.1 hP hq (obj_at hK hci), fun U hU hW => ox_pc (as := .inr t :: as) O hP S hU hW⟩ rfl (by simpa [trs] using hlen) hl rfl (lv_room hrs) hd ⟨hk, hs⟩
theorem w_ev {md : MD} {d2 idx np t ci n0 : Nat} {cq : vw_C} {as : List AV} {v : Int32} (hE : Ev KS ST1 md d2 (.inr t :: as) M (some (v, M1))) (hret : ∃ ty, md.2.2.2 = some ty) (hw : mdW md) (hi : Cond.instanceMethod md.1 ∈ WS) (hsel : Cond.selects cq.1 md.1 md.1 ∈ WS) (hK : KS[t]? = some (ci, n0)) (hci : ci < 20) (hq : clX[ci]? = some cq) (hlink : Cond.methodLink own idx md.1 ∈ WS) (hn : (parseMethodDescriptor md.1.desc).map (fun d => d.parameters.length) = some np) (hlen : as.length = np) (hmL : md.2.2.1 ≤ 45) (hfr : d2 + 1 ≤ R.frames) (hlo : 64 + 64 * d2 ≤ R.locals) (hd : decode cc pc = .ok (.invokevirtual idx, 3)) (hst : (trs wp as).reverse ++ .ref (wp.1 t) :: rest = st0) (hrs : (rest.map fun v => v.category).sum ≤ 8)
    (F : Fx own cc nL p l s m args c) (O : Ox KS s wp) (hP : va_P wp.2.1 clX (wl KS wp M) H) (S : Sx KS wp A s H locs) (hl : la.size = nL) (hk : k ≤ R.cells) (hs : n ≤ R.slots)
    (kk : ∀ (H1 : Heap) (locs1 : List Loc), va_P wp.2.1 clX (wl KS wp M1) H1 → H.size ≤ H1.size → (∀ q, q < H.size → ¬ Aw KS wp H.size q → H1[q]? = H[q]?) → va_S A s.heap H1 locs1 → W p l e R s m args below meth c H1 locs1 k n Q (F0 m (pc + 3) la (.int v :: rest))) : W p l e R s m args below meth c H locs k n Q (F0 m pc la st0) := by
  have hr := w_run (e := e) (below := below) (meth := meth) (k := k) (n := n) hE hw hi hsel hK hci hq hlink hn hlen hmL hfr hlo hd hst hrs F O hP S hl hk hs
  have hr2 : va_Run p l e R s m args below meth c H locs k n 0 0 (F0 m pc la st0) rest (va_Qi (fun r (_ : Unit) => r = v) (fun _ t => Wd KS ST1 wp M1 t) (Aw KS wp H.size) (trs wp (.inr t :: as)).toArray) (Aw KS wp H.size) := by
    obtain ⟨ty, h⟩ := hret
    rw [h] at hr; exact hr
  refine va_calli hr2 S.1 (fun q _ h => S.2.2 q h) S.2.2 (fun r u t H1 locs1 ht hvm hw hB hz hk hS1 => ?_)
  cases hw
  exact kk H1 locs1 (by rw [← ht]; exact hB.1) hz hk hS1
theorem w_evV {md : MD} {d2 idx np t ci n0 : Nat} {cq : vw_C} {as : List AV} {v : Int32} (hE : Ev KS ST1 md d2 (.inr t :: as) M (some (v, M1))) (hret : md.2.2.2 = none) (hw : mdW md) (hi : Cond.instanceMethod md.1 ∈ WS) (hsel : Cond.selects cq.1 md.1 md.1 ∈ WS) (hK : KS[t]? = some (ci, n0)) (hci : ci < 20) (hq : clX[ci]? = some cq) (hlink : Cond.methodLink own idx md.1 ∈ WS) (hn : (parseMethodDescriptor md.1.desc).map (fun d => d.parameters.length) = some np) (hlen : as.length = np) (hmL : md.2.2.1 ≤ 45) (hfr : d2 + 1 ≤ R.frames) (hlo : 64 + 64 * d2 ≤ R.locals) (hd : decode cc pc = .ok (.invokevirtual idx, 3)) (hst : (trs wp as).reverse ++ .ref (wp.1 t) :: rest = st0) (hrs : (rest.map fun v => v.category).sum ≤ 8)
    (F : Fx own cc nL p l s m args c) (O : Ox KS s wp) (hP : va_P wp.2.1 clX (wl KS wp M) H) (S : Sx KS wp A s H locs) (hl : la.size = nL) (hk : k ≤ R.cells) (hs : n ≤ R.slots)
    (kk : ∀ (H1 : Heap) (locs1 : List Loc), va_P wp.2.1 clX (wl KS wp M1) H1 → H.size ≤ H1.size → (∀ q, q < H.size → ¬ Aw KS wp H.size q → H1[q]? = H[q]?) → va_S A s.heap H1 locs1 → W p l e R s m args below meth c H1 locs1 k n Q (F0 m (pc + 3) la rest)) : W p l e R s m args below meth c H locs k n Q (F0 m pc la st0) := by
  have hr := w_run (e := e) (below := below) (meth := meth) (k := k) (n := n) hE hw hi hsel hK hci hq hlink hn hlen hmL hfr hlo hd hst hrs F O hP S hl hk hs
  have hr2 : va_Run p l e R s m args below meth c H locs k n 0 0 (F0 m pc la st0) rest (va_Qv (fun _ : Unit => True) (fun _ t => Wd KS ST1 wp M1 t) (Aw KS wp H.size) (trs wp (.inr t :: as)).toArray) (Aw KS wp H.size) := by
    rw [hret] at hr; exact hr
  refine va_callv hr2 S.1 (fun q _ h => S.2.2 q h) S.2.2 (fun u t H1 locs1 ht hvm hw hB hz hk hS1 => ?_)
  exact kk H1 locs1 (by rw [← ht]; exact hB.1) hz hk hS1
/-- a method that returns or throws -/
theorem w_runX {md : MD} {d2 idx np t ci n0 : Nat} {cq : vw_C} {as : List AV} {r : Int32 ⊕ String} (hE : EvX KS ST1 md d2 (.inr t :: as) M (some (r, M1))) (hw : mdW md) (hi : Cond.instanceMethod md.1 ∈ WS) (hsel : Cond.selects cq.1 md.1 md.1 ∈ WS) (hK : KS[t]? = some (ci, n0)) (hci : ci < 20) (hq : clX[ci]? = some cq) (hlink : Cond.methodLink own idx md.1 ∈ WS) (hn : (parseMethodDescriptor md.1.desc).map (fun d => d.parameters.length) = some np) (hlen : as.length = np) (hmL : md.2.2.1 ≤ 45) (hfr : d2 + 1 ≤ R.frames) (hlo : 64 + 64 * d2 ≤ R.locals) (hd : decode cc pc = .ok (.invokevirtual idx, 3)) (hst : (trs wp as).reverse ++ .ref (wp.1 t) :: rest = st0) (hrs : (rest.map fun v => v.category).sum ≤ 8)
    (F : Fx own cc nL p l s m args c) (O : Ox KS s wp) (hP : va_P wp.2.1 clX (wl KS wp M) H) (S : Sx KS wp A s H locs) (hl : la.size = nL) (hk : k + 1 ≤ R.cells) (hs : n + 6 ≤ R.slots) :
    vx_Run p l e R s m args below meth c H locs k n (costX r).1 (costX r).2 (F0 m pc la st0) rest (QcX KS ST1 wp md.2.2.2 r M1 H.size (trs wp (.inr t :: as)).toArray) (XcX KS wp r M1 H.size) (Aw KS wp H.size) := by
  obtain ⟨hx, hb, hml, hown, hts, hstk⟩ := id F
  have hM := hE l wp H.size r M1 hstk O.2.2.1 (ox_z O S) rfl
  subst hst
  have hc : k + (costX r).1 ≤ R.cells ∧ n + (costX r).2 ≤ R.slots := by
    cases r <;> simp only [costX] <;> omega
  exact vx_runV (As := trs wp as) (b := wp.1 t) (C := cq.1) (n := np) ⟨hx, hb, hml, hown, hts⟩ hM ⟨callB_of np hts (md_good hw) rfl rfl rfl (hts _ hw.2.1) (hts _ hlink) ⟨hw.2.2.1, hw.2.2.2, hn⟩ ⟨hfr, by show 8 + (md.2.2.1 + 11) + 64 * d2 ≤ R.locals; omega⟩, hts _ hi, hts _ hsel⟩ ⟨pcW_blind, va_recv O.1 hP hq (obj_at hK hci), fun U hU hW => ox_pc (as := .inr t :: as) O hP S hU hW⟩ rfl (by simpa [trs] using hlen) hl rfl (lv_room hrs) hd hc
theorem w_xok {md : MD} {d2 idx np t ci n0 : Nat} {cq : vw_C} {as : List AV} {v : Int32} (hE : EvX KS ST1 md d2 (.inr t :: as) M (some (.inl v, M1))) (hret : ∃ ty, md.2.2.2 = some ty) (hw : mdW md) (hi : Cond.instanceMethod md.1 ∈ WS) (hsel : Cond.selects cq.1 md.1 md.1 ∈ WS) (hK : KS[t]? = some (ci, n0)) (hci : ci < 20) (hq : clX[ci]? = some cq) (hlink : Cond.methodLink own idx md.1 ∈ WS) (hn : (parseMethodDescriptor md.1.desc).map (fun d => d.parameters.length) = some np) (hlen : as.length = np) (hmL : md.2.2.1 ≤ 45) (hfr : d2 + 1 ≤ R.frames) (hlo : 64 + 64 * d2 ≤ R.locals) (hd : decode cc pc = .ok (.invokevirtual idx, 3)) (hst : (trs wp as).reverse ++ .ref (wp.1 t) :: rest = st0) (hrs : (rest.map fun v => v.category).sum ≤ 8)
    (F : Fx own cc nL p l s m args c) (O : Ox KS s wp) (hP : va_P wp.2.1 clX (wl KS wp M) H) (S : Sx KS wp A s H locs) (hl : la.size = nL) (hk : k + 1 ≤ R.cells) (hs : n + 6 ≤ R.slots)
    (kk : ∀ (H1 : Heap) (locs1 : List Loc), va_P wp.2.1 clX (wl KS wp M1) H1 → H.size ≤ H1.size → (∀ q, q < H.size → ¬ Aw KS wp H.size q → H1[q]? = H[q]?) → va_S A s.heap H1 locs1 → W p l e R s m args below meth c H1 locs1 k n Q (F0 m (pc + 3) la (.int v :: rest))) : W p l e R s m args below meth c H locs k n Q (F0 m pc la st0) := by
  have hr := w_runX (e := e) (below := below) (meth := meth) (k := k) (n := n) hE hw hi hsel hK hci hq hlink hn hlen hmL hfr hlo hd hst hrs F O hP S hl hk hs
  have hr2 : vx_Run p l e R s m args below meth c H locs k n 0 0 (F0 m pc la st0) rest (va_Qi (fun x (_ : Unit) => (.inl v : Int32 ⊕ String) = .inl x) (fun _ t => Wd KS ST1 wp M1 t) (Aw KS wp H.size) (trs wp (.inr t :: as)).toArray) (XcX KS wp (.inl v) M1 H.size) (Aw KS wp H.size) := by
    obtain ⟨ty, h⟩ := hret
    rw [h] at hr; exact hr
  refine vx_calli hr2 S.1 (fun q _ h => S.2.2 q h) S.2.2 (fun q _ h => S.2.2 q h) (fun E ce q9 u t H1 locs1 ht hvm hw hB hz hk hS1 _ _ _ => by cases hB.1) (fun r u t H1 locs1 ht hvm hw hB hz hk hS1 => ?_)
  cases hw
  exact kk H1 locs1 (by rw [← ht]; exact hB.1) hz hk hS1
theorem w_xokV {md : MD} {d2 idx np t ci n0 : Nat} {cq : vw_C} {as : List AV} {v : Int32} (hE : EvX KS ST1 md d2 (.inr t :: as) M (some (.inl v, M1))) (hret : md.2.2.2 = none) (hw : mdW md) (hi : Cond.instanceMethod md.1 ∈ WS) (hsel : Cond.selects cq.1 md.1 md.1 ∈ WS) (hK : KS[t]? = some (ci, n0)) (hci : ci < 20) (hq : clX[ci]? = some cq) (hlink : Cond.methodLink own idx md.1 ∈ WS) (hn : (parseMethodDescriptor md.1.desc).map (fun d => d.parameters.length) = some np) (hlen : as.length = np) (hmL : md.2.2.1 ≤ 45) (hfr : d2 + 1 ≤ R.frames) (hlo : 64 + 64 * d2 ≤ R.locals) (hd : decode cc pc = .ok (.invokevirtual idx, 3)) (hst : (trs wp as).reverse ++ .ref (wp.1 t) :: rest = st0) (hrs : (rest.map fun v => v.category).sum ≤ 8)
    (F : Fx own cc nL p l s m args c) (O : Ox KS s wp) (hP : va_P wp.2.1 clX (wl KS wp M) H) (S : Sx KS wp A s H locs) (hl : la.size = nL) (hk : k + 1 ≤ R.cells) (hs : n + 6 ≤ R.slots)
    (kk : ∀ (H1 : Heap) (locs1 : List Loc), va_P wp.2.1 clX (wl KS wp M1) H1 → H.size ≤ H1.size → (∀ q, q < H.size → ¬ Aw KS wp H.size q → H1[q]? = H[q]?) → va_S A s.heap H1 locs1 → W p l e R s m args below meth c H1 locs1 k n Q (F0 m (pc + 3) la rest)) : W p l e R s m args below meth c H locs k n Q (F0 m pc la st0) := by
  have hr := w_runX (e := e) (below := below) (meth := meth) (k := k) (n := n) hE hw hi hsel hK hci hq hlink hn hlen hmL hfr hlo hd hst hrs F O hP S hl hk hs
  have hr2 : vx_Run p l e R s m args below meth c H locs k n 0 0 (F0 m pc la st0) rest (va_Qv (fun _ : Unit => ∃ x, (.inl v : Int32 ⊕ String) = .inl x) (fun _ t => Wd KS ST1 wp M1 t) (Aw KS wp H.size) (trs wp (.inr t :: as)).toArray) (XcX KS wp (.inl v) M1 H.size) (Aw KS wp H.size) := by
    rw [hret] at hr; exact hr
  refine vx_callv hr2 S.1 (fun q _ h => S.2.2 q h) S.2.2 (fun q _ h => S.2.2 q h) (fun E ce q9 u t H1 locs1 ht hvm hw hB hz hk hS1 _ _ _ => by cases hB.1) (fun u t H1 locs1 ht hvm hw hB hz hk hS1 => ?_)
  exact kk H1 locs1 (by rw [← ht]; exact hB.1) hz hk hS1
theorem w_xex {md : MD} {d2 idx np t ci n0 : Nat} {cq : vw_C} {as : List AV} {E : String} (hE : EvX KS ST1 md d2 (.inr t :: as) M (some (.inr E, M1))) (hw : mdW md) (hi : Cond.instanceMethod md.1 ∈ WS) (hsel : Cond.selects cq.1 md.1 md.1 ∈ WS) (hK : KS[t]? = some (ci, n0)) (hci : ci < 20) (hq : clX[ci]? = some cq) (hlink : Cond.methodLink own idx md.1 ∈ WS) (hn : (parseMethodDescriptor md.1.desc).map (fun d => d.parameters.length) = some np) (hlen : as.length = np) (hmL : md.2.2.1 ≤ 45) (hfr : d2 + 1 ≤ R.frames) (hlo : 64 + 64 * d2 ≤ R.locals) (hd : decode cc pc = .ok (.invokevirtual idx, 3)) (hst : (trs wp as).reverse ++ .ref (wp.1 t) :: rest = st0) (hrs : (rest.map fun v => v.category).sum ≤ 8)
    (F : Fx own cc nL p l s m args c) (O : Ox KS s wp) (hP : va_P wp.2.1 clX (wl KS wp M) H) (S : Sx KS wp A s H locs) (hl : la.size = nL) (hk : k + 1 ≤ R.cells) (hs : n + 6 ≤ R.slots)
    (kx : ∀ (ce : Cell) (q9 : Addr) (H1 : Heap) (locs1 : List Loc), va_P wp.2.1 clX (wl KS wp M1) H1 → H.size ≤ H1.size → (∀ q, q < H.size → ¬ Aw KS wp H.size q → H1[q]? = H[q]?) → va_S A s.heap H1 locs1 → H1[q9]? = some ce → ce.vm = .none → s.vm.findClass E = some ce.cls → vx_W p l e R s m args below meth c H1 locs1 (k + 1) (n + 6) Q (F0 m pc la rest) q9) : W p l e R s m args below meth c H locs k n Q (F0 m pc la st0) := by
  have hr := w_runX (e := e) (below := below) (meth := meth) (k := k) (n := n) hE hw hi hsel hK hci hq hlink hn hlen hmL hfr hlo hd hst hrs F O hP S hl hk hs
  have fin : ∀ (E2 : String) (ce : Cell) (q9 : Addr) (u : Unit) (t : State) (H1 : Heap) (locs1 : List Loc), t.heap = H1 → s.vm.Alike t.vm → True → ((.inr E : Int32 ⊕ String) = .inr E2 ∧ va_P wp.2.1 clX (wl KS wp M1) t.heap) → H.size ≤ H1.size → (∀ q : Nat, q < H.size → ¬ Aw KS wp H.size q → H1[q]? = H[q]?) → va_S A s.heap H1 locs1 → H1[q9]? = some ce → ce.vm = .none → s.vm.findClass E2 = some ce.cls → vx_W p l e R s m args below meth c H1 locs1 (k + 1) (n + 6) Q (F0 m pc la rest) q9 := by
    intro E2 ce q9 u t H1 locs1 ht hvm hw hB hz hk hS1 g1 g2 g3
    obtain ⟨hB1, hB2⟩ := hB
    cases hB1
    exact kx ce q9 H1 locs1 (by rw [← ht]; exact hB2) hz hk hS1 g1 g2 g3
  cases hret : md.2.2.2 with
  | none =>
    rw [hret] at hr
    exact vx_callv (a := (trs wp (.inr t :: as)).toArray) hr S.1 (fun q _ h => S.2.2 q h) S.2.2 (fun q _ h => S.2.2 q h) fin (fun u t H1 locs1 ht hvm hw hB hz hk hS1 => by obtain ⟨v, hv⟩ := hw; cases hv)
  | some ty =>
    rw [hret] at hr
    exact vx_calli (a := (trs wp (.inr t :: as)).toArray) hr S.1 (fun q _ h => S.2.2 q h) S.2.2 (fun q _ h => S.2.2 q h) fin (fun r u t H1 locs1 ht hvm hw hB hz hk hS1 => by cases hw)
end LC
