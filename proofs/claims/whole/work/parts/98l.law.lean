/-! ===== the law: its frame, its heap, its rows ===== -/
def outD (cD : ClassId) (g : Nat → UInt64) : va_E := .inl (cD, 1, .inr (.inr (.inr (.inl g))))
def Apt (wx wm : Wp) (qo qd z : Nat) : Prop := (∀ i j, i < KSx.length → j < KSm.length → wx.1 i ≠ wm.1 j) ∧ (∀ i, i < KSx.length → wx.1 i ≠ qo ∧ wx.1 i ≠ qd) ∧ (∀ j, j < KSm.length → wm.1 j ≠ qo ∧ wm.1 j ≠ qd) ∧ qo ≠ qd ∧ z ≤ qo ∧ z ≤ qd
def Lc (wx wm : Wp) (cL cD : ClassId) (qo qd : Nat) (p : Program) (l : Launch) (s : State) (m : MethodId) (meth : Method) (c : Code) (b L : Nat) (xs : Nat → Int32) : Prop :=
  Fx RL code 9 p l s m #[Value.ref b] c ∧ meth.sig.returnType = ret ∧ meth.locks = false ∧ Ox KSx s wx ∧ Ox KSm s wm ∧ va_K wx.2.1 clX [(cL, .long)] s ∧ va_K wx.2.1 clX [(cD, .double)] s ∧ Apt wx wm qo qd s.heap.size ∧ Ncs s ∧ va_X b L xs s s.heap ∧ b < s.heap.size ∧ L ≤ 3072 ∧ wx.2.2.2 = s.heap.size ∧ wm.2.2.2 = s.heap.size
def LH (wx wm : Wp) (cL cD : ClassId) (qo qd : Nat) (H : Heap) (Mx Mm : Mem) (f : Nat → Int64) (g : Nat → UInt64) : Prop := va_P wx.2.1 clX (wl KSx wx Mx) H ∧ va_P wm.2.1 clX (wl KSm wm Mm) H ∧ va_at wx.2.1 clX (qo, outE cL f) H ∧ va_at wx.2.1 clX (qd, outD cD g) H
def Lj (wx wm : Wp) (cL cD : ClassId) (qo qd : Nat) (p : Program) (l : Launch) (e : Env) (s : State) (m : MethodId) (below : List Frame) (meth : Method) (c : Code) (b : Nat) (pc : Nat) (ls : List (Nat × Value)) (st : List Value) (Mx Mm : Mem) (f : Nat → Int64) (g : Nat → UInt64) (k n : Nat) : Prop :=
  ∀ (H : Heap) (locs : List Loc) (la : Array Slot), LH wx wm cL cD qo qd H Mx Mm f g → va_S (B0 wx) s.heap H locs → lv_has la 9 ls → W p l e room_1 s m #[Value.ref b] below meth c H locs k n (lw_Z below #[Value.ref b] s) (F0 m pc la st)
theorem wl_keep {KS : List Kd} {wp : Wp} {M : Mem} {H H1 : Heap} (h : va_P wp.2.1 clX (wl KS wp M) H) (hq : ∀ i, i < KS.length → wp.1 i < H.size → H1[wp.1 i]? = H[wp.1 i]?) : va_P wp.2.1 clX (wl KS wp M) H1 := by
  intro k q hk
  have h1 := h k q hk
  obtain ⟨kd, h2, h3⟩ := wl_of hk
  have hl := (List.getElem?_eq_some_iff.mp h2).1
  subst h3
  exact h1.kept (hq k hl h1.lt)
section LW
variable {wx wm : Wp} {cL cD : ClassId} {qo qd : Nat} {p : Program} {l : Launch} {e : Env} {s : State} {m : MethodId} {below : List Frame} {meth : Method} {c : Code} {b L : Nat} {xs : Nat → Int32} {pc : Nat} {ls : List (Nat × Value)} {st : List Value} {Mx Mm Mx2 Mm2 : Mem} {f f2 : Nat → Int64} {g : Nat → UInt64} {k n : Nat}
theorem lc_Sx (C : Lc wx wm cL cD qo qd p l s m meth c b L xs) {H : Heap} {locs : List Loc} (hS : va_S (B0 wx) s.heap H locs) : Sx KSx wx (B0 wx) s H locs := by
  obtain ⟨F, hr, hlk, Ox1, Om, -⟩ := C
  exact ⟨hS, fun _ h => h, Aw_B0 Ox1.2.2.1 (Nat.le_trans Ox1.2.2.2 hS.1)⟩
theorem lc_B0 (C : Lc wx wm cL cD qo qd p l s m meth c b L xs) (q : Nat) : B0 wm q ↔ B0 wx q := by
  obtain ⟨F, hr, hlk, Ox1, Om, -, -, -, -, -, -, -, e1, e2⟩ := C
  unfold B0
  rw [e1, e2]
theorem lc_Sm (C : Lc wx wm cL cD qo qd p l s m meth c b L xs) {H : Heap} {locs : List Loc} (hS : va_S (B0 wx) s.heap H locs) : Sx KSm wm (B0 wx) s H locs := by
  obtain ⟨F, hr, hlk, Ox1, Om, -⟩ := id C
  exact ⟨hS, fun q h => (lc_B0 C q).mpr h, fun q h => (lc_B0 C q).mp (Aw_B0 Om.2.2.1 (Nat.le_trans Om.2.2.2 hS.1) q h)⟩
/-- behind a call on the object, its world alone has changed (or the row of longs, too) -/
theorem lh_x (C : Lc wx wm cL cD qo qd p l s m meth c b L xs) {H H1 : Heap} (h : LH wx wm cL cD qo qd H Mx Mm f g) (h1 : va_P wx.2.1 clX (wl KSx wx Mx2) H1) (h2 : va_at wx.2.1 clX (qo, outE cL f2) H1) (hk : ∀ q, q < H.size → ¬ hA wx H.size qo q → H1[q]? = H[q]?) : LH wx wm cL cD qo qd H1 Mx2 Mm f2 g := by
  obtain ⟨F, hr, hlk, Ox1, Om, -, -, A, -⟩ := C
  obtain ⟨a1, a2, a3, a4⟩ := h
  refine ⟨h1, wl_keep a2 (fun i hi hl => hk _ hl ?_), h2, a4.kept (hk _ a4.lt ?_)⟩
  · rintro ((⟨j, j1, j2⟩ | j1) | j1)
    · exact A.1 j i j1 hi j2.symm
    · omega
    · exact (A.2.2.1 i hi).1 j1
  · have hl : qd < H.size := a4.lt
    rintro ((⟨j, j1, j2⟩ | j1) | j1)
    · exact (A.2.1 j j1).2 j2.symm
    · exact absurd hl (Nat.not_lt.mpr j1)
    · exact A.2.2.2.1 j1.symm
theorem lh_c (C : Lc wx wm cL cD qo qd p l s m meth c b L xs) {H H1 : Heap} (h : LH wx wm cL cD qo qd H Mx Mm f g) (h1 : va_P wx.2.1 clX (wl KSx wx Mx2) H1) (hk : ∀ q, q < H.size → ¬ Aw KSx wx H.size q → H1[q]? = H[q]?) : LH wx wm cL cD qo qd H1 Mx2 Mm f g := by
  have A := C.2.2.2.2.2.2.2.1
  have hl : qo < H.size := h.2.2.1.lt
  refine lh_x C h h1 (h.2.2.1.kept (hk _ hl ?_)) (fun q q1 q2 => hk q q1 (fun z => q2 (Or.inl z)))
  rintro (⟨j, j1, j2⟩ | j1)
  · exact (A.2.1 j j1).1 j2.symm
  · exact absurd hl (Nat.not_lt.mpr j1)
theorem lh_m (C : Lc wx wm cL cD qo qd p l s m meth c b L xs) {H H1 : Heap} (h : LH wx wm cL cD qo qd H Mx Mm f g) (h1 : va_P wm.2.1 clX (wl KSm wm Mm2) H1) (hk : ∀ q, q < H.size → ¬ Aw KSm wm H.size q → H1[q]? = H[q]?) : LH wx wm cL cD qo qd H1 Mx Mm2 f g := by
  obtain ⟨F, hr, hlk, Ox1, Om, -, -, A, -⟩ := C
  obtain ⟨a1, a2, a3, a4⟩ := h
  have l3 : qo < H.size := a3.lt
  have l4 : qd < H.size := a4.lt
  refine ⟨wl_keep a1 (fun i hi hl => hk _ hl ?_), h1, a3.kept (hk _ l3 ?_), a4.kept (hk _ l4 ?_)⟩
  · rintro (⟨j, j1, j2⟩ | j1)
    · exact A.1 i j hi j1 j2
    · omega
  · rintro (⟨j, j1, j2⟩ | j1)
    · exact (A.2.2.1 j j1).1 j2.symm
    · exact absurd l3 (Nat.not_lt.mpr j1)
  · rintro (⟨j, j1, j2⟩ | j1)
    · exact (A.2.2.1 j j1).2 j2.symm
    · exact absurd l4 (Nat.not_lt.mpr j1)
theorem l_step {pc2 : Nat} {st2 : List Value} (h : ∀ (H : Heap) (locs : List Loc) (la : Array Slot) (Q : State → Prop), LH wx wm cL cD qo qd H Mx Mm f g → va_S (B0 wx) s.heap H locs → lv_has la 9 ls → W p l e room_1 s m #[Value.ref b] below meth c H locs k n Q (F0 m pc2 la st2) → W p l e room_1 s m #[Value.ref b] below meth c H locs k n Q (F0 m pc la st)) (kk : Lj wx wm cL cD qo qd p l e s m below meth c b (pc2) ls (st2) Mx Mm f g k n) : Lj wx wm cL cD qo qd p l e s m below meth c b pc ls st Mx Mm f g k n := by
  intro H locs la hH hS hl
  exact h H locs la _ hH hS hl (kk H locs la hH hS hl)
theorem l_aload_n {i : Fin 4} {q : Nat} (j : Nat) (C : Lc wx wm cL cD qo qd p l s m meth c b L xs) (hd : decode code pc = .ok (.aload_n i, 1)) (hl : ls[j]? = some ((i : Nat), .ref q)) (kk : Lj wx wm cL cD qo qd p l e s m below meth c b (pc + 1) ls (.ref q :: st) Mx Mm f g k n) : Lj wx wm cL cD qo qd p l e s m below meth c b pc ls st Mx Mm f g k n :=
  l_step (fun _ _ _ _ _ _ h kk => lv_aload_n C.1.1 C.1.2.1 hd rfl (lv_at h j hl) kk) kk
theorem l_aload {i q : Nat} (j : Nat) (C : Lc wx wm cL cD qo qd p l s m meth c b L xs) (hd : decode code pc = .ok (.aload i, 2)) (hl : ls[j]? = some (i, .ref q)) (kk : Lj wx wm cL cD qo qd p l e s m below meth c b (pc + 2) ls (.ref q :: st) Mx Mm f g k n) : Lj wx wm cL cD qo qd p l e s m below meth c b pc ls st Mx Mm f g k n :=
  l_step (fun _ _ _ _ _ _ h kk => lv_aload C.1.1 C.1.2.1 hd (lv_at h j hl) kk) kk
theorem l_iload {i : Nat} {x : Int32} (j : Nat) (C : Lc wx wm cL cD qo qd p l s m meth c b L xs) (hd : decode code pc = .ok (.iload i, 2)) (hl : ls[j]? = some (i, .int x)) (kk : Lj wx wm cL cD qo qd p l e s m below meth c b (pc + 2) ls (.int x :: st) Mx Mm f g k n) : Lj wx wm cL cD qo qd p l e s m below meth c b pc ls st Mx Mm f g k n :=
  l_step (fun _ _ _ _ _ _ h kk => lv_iload C.1.1 C.1.2.1 hd (lv_at h j hl) kk) kk
theorem l_iconst {i : Int} {v : Int32} (C : Lc wx wm cL cD qo qd p l s m meth c b L xs) (hd : decode code pc = .ok (.iconst i, 1)) (hv : Int32.ofInt i = v) (kk : Lj wx wm cL cD qo qd p l e s m below meth c b (pc + 1) ls (.int v :: st) Mx Mm f g k n) : Lj wx wm cL cD qo qd p l e s m below meth c b pc ls st Mx Mm f g k n :=
  l_step (fun _ _ _ _ _ _ _ kk => lv_iconst C.1.1 C.1.2.1 hd hv kk) kk
theorem l_goto {off : Int} {tgt : Nat} (C : Lc wx wm cL cD qo qd p l s m meth c b L xs) (hd : decode code pc = .ok (.goto off, 3)) (ht : (pc : Int) + off = (tgt : Int)) (kk : Lj wx wm cL cD qo qd p l e s m below meth c b (tgt) ls (st) Mx Mm f g k n) : Lj wx wm cL cD qo qd p l e s m below meth c b pc ls st Mx Mm f g k n :=
  l_step (fun _ _ _ _ _ _ _ kk => lv_goto C.1.1 C.1.2.1 hd ht kk) kk
theorem l_icmpeq {off : Int} {tgt : Nat} {x : Int32} (C : Lc wx wm cL cD qo qd p l s m meth c b L xs) (hd : decode code pc = .ok (.if_icmp .eq off, 3)) (ht : (pc : Int) + off = (tgt : Int)) (kk : Lj wx wm cL cD qo qd p l e s m below meth c b (tgt) ls (st) Mx Mm f g k n) : Lj wx wm cL cD qo qd p l e s m below meth c b (pc) ls (.int x :: .int x :: st) Mx Mm f g k n :=
  l_step (fun _ _ _ _ _ _ _ kk => lv_icmp_eq C.1.1 C.1.2.1 hd ht (fun _ => kk) (fun q => absurd rfl q)) kk
theorem l_istore {i : Nat} {x : Int32} {ls2 : List (Nat × Value)} (C : Lc wx wm cL cD qo qd p l s m meth c b L xs) (hd : decode code pc = .ok (.istore i, 2)) (hn : i < 9) (hl : (i, Value.int x) :: ls.filter (fun q => !(q.1 == i) && !(q.1 + 1 == i && q.2.category == 2)) = ls2) (kk : Lj wx wm cL cD qo qd p l e s m below meth c b (pc + 2) (ls2) (st) Mx Mm f g k n) : Lj wx wm cL cD qo qd p l e s m below meth c b (pc) ls (.int x :: st) Mx Mm f g k n := by
  intro H locs la hH hS h
  exact lv_istore C.1.1 C.1.2.1 hd h hn hl (fun la2 h2 => kk H locs la2 hH hS h2)
/-- fewer locals -/
theorem l_sub {ls2 : List (Nat × Value)} (ks : List Nat) (h : lv_pick ls ks = ls2) (kk : Lj wx wm cL cD qo qd p l e s m below meth c b (pc) (ls2) (st) Mx Mm f g k n) : Lj wx wm cL cD qo qd p l e s m below meth c b pc ls st Mx Mm f g k n := by
  intro H locs la hH hS hl
  exact kk H locs la hH hS (lv_sub hl ks h)
theorem l_wide {k2 n2 : Nat} (h1 : k ≤ k2) (h2 : n ≤ n2) (kk : Lj wx wm cL cD qo qd p l e s m below meth c b (pc) ls (st) Mx Mm f g k2 n2) : Lj wx wm cL cD qo qd p l e s m below meth c b pc ls st Mx Mm f g k n := by
  intro H locs la hH hS hl
  exact W.widen h1 h2 (kk H locs la hH hS hl)
/-- a number of the script -/
theorem l_arg {i v : Nat} {q : Int} (ja jb : Nat) (C : Lc wx wm cL cD qo qd p l s m meth c b L xs) (hi : i + v < L) (hq : Int32.ofInt q = nI v) (d0 : decode code pc = .ok (.aload_n 0, 1)) (d1 : decode code (pc + 1) = .ok (.iload 5, 2)) (d2 : decode code (pc + 1 + 2) = .ok (.iconst q, 1)) (d3 : decode code (pc + 1 + 2 + 1) = .ok (.iadd, 1)) (d4 : decode code (pc + 1 + 2 + 1 + 1) = .ok (.iaload, 1)) (ha : ls[ja]? = some (0, .ref b)) (hb : ls[jb]? = some (5, .int (nI i))) (kk : Lj wx wm cL cD qo qd p l e s m below meth c b (pc + 1 + 2 + 1 + 1 + 1) ls (.int (xs (i + v)) :: st) Mx Mm f g k n) : Lj wx wm cL cD qo qd p l e s m below meth c b pc ls st Mx Mm f g k n := by
  refine l_aload_n ja C d0 ha ?_
  refine l_iload jb C d1 hb ?_
  refine l_iconst C d2 hq ?_
  refine l_step (fun H locs la Q hH hS hl kk => ?_) kk
  obtain ⟨F, hr, hlk, Ox1, Om, -, -, A, -, hX, hbl, hL, e1, e2⟩ := C
  refine lv_iadd F.1 F.2.1 d3 ?_
  rw [nI_add]
  refine va_sld F.1 F.2.1 hX hbl (A := B0 wx) (by unfold B0; rw [e1]; omega) hS (i := nI (i + v)) (nI_in hi (by omega)) d4 ?_
  rw [nI_clamp (show i + v < 2 ^ 31 by omega)]
  exact kk
/-- the number of the call -/
theorem l_op {i : Nat} (ja jb : Nat) (C : Lc wx wm cL cD qo qd p l s m meth c b L xs) (hi : i < L) (d0 : decode code pc = .ok (.aload_n 0, 1)) (d1 : decode code (pc + 1) = .ok (.iload 5, 2)) (d4 : decode code (pc + 1 + 2) = .ok (.iaload, 1)) (ha : ls[ja]? = some (0, .ref b)) (hb : ls[jb]? = some (5, .int (nI i))) (kk : Lj wx wm cL cD qo qd p l e s m below meth c b (pc + 1 + 2 + 1) ls (.int (xs i) :: st) Mx Mm f g k n) : Lj wx wm cL cD qo qd p l e s m below meth c b pc ls st Mx Mm f g k n := by
  refine l_aload_n ja C d0 ha ?_
  refine l_iload jb C d1 hb ?_
  refine l_step (fun H locs la Q hH hS hl kk => ?_) kk
  obtain ⟨F, hr, hlk, Ox1, Om, -, -, A, -, hX, hbl, hL, e1, e2⟩ := C
  refine va_sld F.1 F.2.1 hX hbl (A := B0 wx) (by unfold B0; rw [e1]; omega) hS (i := nI i) (nI_in hi (by omega)) d4 ?_
  rw [nI_clamp (show i < 2 ^ 31 by omega)]
  exact kk
theorem hpc_blind {sz : Nat} {av : List Value} : FrameBlind (HPc wx cL qo f Mx sz av) := by
  intro a U g mk ⟨h0, h1, ⟨h2, h3, h4⟩, h5, h6, h7⟩
  exact ⟨h0, h1, ⟨h2, va_K.moved (u := U) (U := U.calling g mk a) (Vm.Alike.refl U.vm) h3, Ext.same (U := U.calling g mk a) h4 rfl⟩, h5, va_K.moved (u := U) (U := U.calling g mk a) (Vm.Alike.refl U.vm) h6, Ncs.moved (u := U) (U := U.calling g mk a) (Vm.Alike.refl U.vm) h7⟩
theorem lc_Oq (C : Lc wx wm cL cD qo qd p l s m meth c b L xs) : Oq wx qo := by
  obtain ⟨F, hr, hlk, Ox1, Om, -, -, A, -, -, -, -, e1, -⟩ := C
  exact ⟨by rw [e1]; exact A.2.2.2.2.1, fun i hi => (A.2.1 i hi).1⟩
theorem hd_good {y : MethodName} {idx : Nat} {w : Cond} (hw : w ∈ WS) (hl : Cond.methodLink RL idx y ∈ WS) (hs : Cond.static y ∈ WS) (hi : Cond.initialized y.cls ∈ WS) : GoodIn WS (va_wsS RL idx y (w :: WS)) := by
  intro x hx
  unfold va_wsS at hx
  rcases List.mem_append.mp hx with h | h
  · rcases List.mem_cons.mp h with rfl | h
    · exact WS_good _ hl
    · rcases List.mem_cons.mp h with rfl | h
      · exact WS_good _ hs
      · rcases List.mem_cons.mp h with rfl | h
        · exact WS_good _ hi
        · cases h
  · rcases List.mem_cons.mp h with rfl | h
    · exact WS_good _ hw
    · exact WS_good _ h
/-- a helper is called -/
theorem l_help {hd : HDt} {idx np : Nat} {av rest st0 : List Value} {kr : Int32} (C : Lc wx wm cL cD qo qd p l s m meth c b L xs) (hH : HM hd av wx cL qo f f2 Mx Mx2 kr) (hw : Cond.codeWith hd.1 hd.2.1 hd.2.2.1 (some .int) hd.2.2.2 ∈ WS) (hs : Cond.static hd.1 ∈ WS) (hini : Cond.initialized hd.1.cls ∈ WS) (hlink : Cond.methodLink RL idx hd.1 ∈ WS) (hy : hd.1.cls ≠ "java/lang/invoke/MethodHandle" ∧ hd.1.cls ≠ "java/lang/invoke/VarHandle" ∧ (parseMethodDescriptor hd.1.desc).map (fun d => d.parameters.length) = some np) (hlen : av.length = np) (hmL : hd.2.2.1 ≤ 45) (hdd : decode code pc = .ok (.invokestatic idx, 3)) (hst : av.reverse ++ rest = st0) (hrs : (rest.map fun v => v.category).sum ≤ 8) (hk : k + 1 ≤ 601024) (hn : n + 6 ≤ 7293034) (kk : Lj wx wm cL cD qo qd p l e s m below meth c b (pc + 3) ls (.int kr :: rest) Mx2 Mm f2 g (k + 1) (n + 6)) : Lj wx wm cL cD qo qd p l e s m below meth c b (pc) ls (st0) Mx Mm f g k n := by
  intro H locs la hHp hS hl
  obtain ⟨F, hr, hlk, Ox1, Om, KL, KD, A, hN, hX, hbl, hL, e1, e2⟩ := id C
  obtain ⟨hx, hb, hml, hown, hts, hstk⟩ := id F
  subst hst
  have hz : wx.2.2.2 ≤ H.size := Nat.le_trans Ox1.2.2.2 hS.1
  have hqz : qo < H.size := hHp.2.2.1.lt
  have hM := hH l H.size hstk hz hqz
  have S := lc_Sx C hS
  have hrun := vx_runSX (p := p) (e := e) (R := room_1) (below := below) (meth := meth) (cells := k) (slots := n) (H := H) (locs := locs) (As := av) (rest := rest) (g := F0 m pc la (av.reverse ++ rest)) (n := np) ⟨hx, hb, hml, hown, hts⟩ hM (vx_cwSW (R := room_1) np hts (hd_good hw hlink hs hini) rfl rfl rfl hy ⟨by show 30 + 1 ≤ 2048; omega, by show 8 + (hd.2.2.1 + 11) + 64 * 30 ≤ 84000; omega⟩)
    ⟨hpc_blind, fun U hU hW => ⟨rfl, by rw [hU], (ox_pc (as := []) Ox1 hHp.1 S hU hW).2.2, by rw [hU]; exact hHp.2.2.1, va_K.moved hW.alike KL, hN.moved hW.alike⟩⟩ rfl hlen hl.1 rfl (lv_room hrs) hdd ⟨hk, hn⟩
  unfold HQc at hrun
  have hAB : ∀ q, hA wx H.size qo q → B0 wx q := hA_B0 Ox1.2.2.1 hz (lc_Oq C)
  refine vx_calli hrun hS (fun q _ h => hAB q h) hAB (fun q _ h => h.elim) (fun E ce q9 u t H1 locs1 ht hvm hw hB hz hk hS1 _ _ _ => hw.elim) (fun r u t H1 locs1 ht hvm hw hB hz1 hk1 hS1 => ?_)
  subst hw
  obtain ⟨b1, b2⟩ := hB
  rw [ht] at b1 b2
  exact kk H1 locs1 la (lh_x C hHp b1 b2 hk1) hS1 hl
/-- a method of the reference -/
theorem l_ev {md : MD} {d2 idx np : Nat} {as : List AV} {v : Int32} {rest st0 : List Value} (C : Lc wx wm cL cD qo qd p l s m meth c b L xs) (hE : Ev KSm ST1 md d2 (.inr 0 :: as) Mm (some (v, Mm2))) (hret : ∃ ty, md.2.2.2 = some ty) (hw : mdW md) (hi : Cond.instanceMethod md.1 ∈ WS) (hsel : Cond.selects RX10 md.1 md.1 ∈ WS) (hlink : Cond.methodLink RL idx md.1 ∈ WS) (hnp : (parseMethodDescriptor md.1.desc).map (fun d => d.parameters.length) = some np) (hlen : as.length = np) (hmL : md.2.2.1 ≤ 45) (hd2 : d2 ≤ 40) (hd : decode code pc = .ok (.invokevirtual idx, 3)) (hst : (trs wm as).reverse ++ .ref (wm.1 0) :: rest = st0) (hrs : (rest.map fun v => v.category).sum ≤ 8) (hk : k ≤ 601024) (hn : n ≤ 7293034) (kk : Lj wx wm cL cD qo qd p l e s m below meth c b (pc + 3) ls (.int v :: rest) Mx Mm2 f g (k) (n)) : Lj wx wm cL cD qo qd p l e s m below meth c b (pc) ls (st0) Mx Mm f g k n := by
  intro H locs la hHp hS hl
  refine w_ev (KS := KSm) (wp := wm) (t := 0) (ci := 10) (n0 := 0) (cq := (RX10, TX10, 25)) hE hret hw hi hsel rfl (by decide) rfl hlink hnp hlen hmL (by show d2 + 1 ≤ 2048; omega) (by show 64 + 64 * d2 ≤ 84000; omega) hd hst hrs C.1 C.2.2.2.2.1 hHp.2.1 (lc_Sm C hS) hl.1 hk hn (fun H1 locs1 hP1 hz1 hk1 hS1 => ?_)
  exact kk H1 locs1 la (lh_m C hHp hP1 hk1) hS1 hl
theorem l_evV {md : MD} {d2 idx np : Nat} {as : List AV} {v : Int32} {rest st0 : List Value} (C : Lc wx wm cL cD qo qd p l s m meth c b L xs) (hE : Ev KSm ST1 md d2 (.inr 0 :: as) Mm (some (v, Mm2))) (hret : md.2.2.2 = none) (hw : mdW md) (hi : Cond.instanceMethod md.1 ∈ WS) (hsel : Cond.selects RX10 md.1 md.1 ∈ WS) (hlink : Cond.methodLink RL idx md.1 ∈ WS) (hnp : (parseMethodDescriptor md.1.desc).map (fun d => d.parameters.length) = some np) (hlen : as.length = np) (hmL : md.2.2.1 ≤ 45) (hd2 : d2 ≤ 40) (hd : decode code pc = .ok (.invokevirtual idx, 3)) (hst : (trs wm as).reverse ++ .ref (wm.1 0) :: rest = st0) (hrs : (rest.map fun v => v.category).sum ≤ 8) (hk : k ≤ 601024) (hn : n ≤ 7293034) (kk : Lj wx wm cL cD qo qd p l e s m below meth c b (pc + 3) ls (rest) Mx Mm2 f g (k) (n)) : Lj wx wm cL cD qo qd p l e s m below meth c b (pc) ls (st0) Mx Mm f g k n := by
  intro H locs la hHp hS hl
  refine w_evV (KS := KSm) (wp := wm) (t := 0) (ci := 10) (n0 := 0) (cq := (RX10, TX10, 25)) hE hret hw hi hsel rfl (by decide) rfl hlink hnp hlen hmL (by show d2 + 1 ≤ 2048; omega) (by show 64 + 64 * d2 ≤ 84000; omega) hd hst hrs C.1 C.2.2.2.2.1 hHp.2.1 (lc_Sm C hS) hl.1 hk hn (fun H1 locs1 hP1 hz1 hk1 hS1 => ?_)
  exact kk H1 locs1 la (lh_m C hHp hP1 hk1) hS1 hl
/-- a method of the object that never throws -/
theorem l_evx {md : MD} {d2 idx np : Nat} {as : List AV} {v : Int32} {rest st0 : List Value} (C : Lc wx wm cL cD qo qd p l s m meth c b L xs) (hE : Ev KSx ST1 md d2 (.inr 0 :: as) Mx (some (v, Mx2))) (hret : ∃ ty, md.2.2.2 = some ty) (hw : mdW md) (hi : Cond.instanceMethod md.1 ∈ WS) (hsel : Cond.selects RX9 md.1 md.1 ∈ WS) (hlink : Cond.methodLink RL idx md.1 ∈ WS) (hnp : (parseMethodDescriptor md.1.desc).map (fun d => d.parameters.length) = some np) (hlen : as.length = np) (hmL : md.2.2.1 ≤ 45) (hd2 : d2 ≤ 40) (hd : decode code pc = .ok (.invokevirtual idx, 3)) (hst : (trs wx as).reverse ++ .ref (wx.1 0) :: rest = st0) (hrs : (rest.map fun v => v.category).sum ≤ 8) (hk : k ≤ 601024) (hn : n ≤ 7293034) (kk : Lj wx wm cL cD qo qd p l e s m below meth c b (pc + 3) ls (.int v :: rest) Mx2 Mm f g (k) (n)) : Lj wx wm cL cD qo qd p l e s m below meth c b (pc) ls (st0) Mx Mm f g k n := by
  intro H locs la hHp hS hl
  refine w_ev (KS := KSx) (wp := wx) (t := 0) (ci := 9) (n0 := 0) (cq := (RX9, TX9, 12)) hE hret hw hi hsel rfl (by decide) rfl hlink hnp hlen hmL (by show d2 + 1 ≤ 2048; omega) (by show 64 + 64 * d2 ≤ 84000; omega) hd hst hrs C.1 C.2.2.2.1 hHp.1 (lc_Sx C hS) hl.1 hk hn (fun H1 locs1 hP1 hz1 hk1 hS1 => ?_)
  exact kk H1 locs1 la (lh_c C hHp hP1 hk1) hS1 hl
/-- both threw alike -/
theorem l_thr {off : Int} {tgt : Nat} {kr : Int32} (j2 j6 : Nat) (C : Lc wx wm cL cD qo qd p l s m meth c b L xs) (h2 : ls[j2]? = some (2, .ref (wm.1 0))) (h6 : ls[j6]? = some (6, .int kr)) (hth : Mm 0 0 = kr) (d0 : decode code pc = .ok (.aload_n 2, 1)) (d1 : decode code (pc + 1) = .ok (.invokevirtual 135, 3)) (d2 : decode code (pc + 1 + 3) = .ok (.iload 6, 2)) (d3 : decode code (pc + 1 + 3 + 2) = .ok (.if_icmp .eq off, 3)) (ht : ((pc + 1 + 3 + 2 : Nat) : Int) + off = (tgt : Int)) (hk : k ≤ 601024) (hn : n ≤ 7293034) (kk : Lj wx wm cL cD qo qd p l e s m below meth c b (tgt) ls ([]) Mx Mm f g k n) : Lj wx wm cL cD qo qd p l e s m below meth c b (pc) ls ([]) Mx Mm f g k n := by
  refine l_aload_n j2 C d0 h2 ?_
  refine l_ev (as := []) (rest := []) (v := p_X10_thrown Mm) C (ev_X10_thrown 5 (by decide) Mm) ⟨_, rfl⟩ mw_X10_thrown wi_X10_thrown wv_X10_thrown wl_RL_135 mn_X10_thrown rfl (by decide) (by decide) d1 rfl (by decide) hk hn ?_
  refine l_iload j6 C d2 h6 ?_
  rw [show p_X10_thrown Mm = kr from hth]
  exact l_icmpeq C d3 ht kk
theorem l_laload (C : Lc wx wm cL cD qo qd p l s m meth c b L xs) (hd : decode code pc = .ok (.laload, 1)) (kk : Lj wx wm cL cD qo qd p l e s m below meth c b (pc + 1) ls (.long (f 0) :: st) Mx Mm f g k n) : Lj wx wm cL cD qo qd p l e s m below meth c b (pc) ls (.int 0 :: .ref qo :: st) Mx Mm f g k n := by
  refine l_step (fun H locs la Q hH hS hl kk => ?_) kk
  obtain ⟨F, hr, hlk, Ox1, Om, KL, -⟩ := C
  exact va_lald (D := wx.2.1) (cl := clX) (ws := [(qo, outE cL f)]) F.1 F.2.1 KL (P_cons hH.2.2.1 (fun k q h => by simp at h)) 0 0 (n := 1) (f := f) rfl rfl (i := 0) (by unfold vp_in; decide) hd kk
theorem lg_self (x : Int64) : lg_cmp x x = 0 := by
  unfold lg_cmp
  rw [if_neg (show ¬ x > x from Int64.lt_irrefl), if_pos rfl]
theorem l_lcmp {x : Int64} {off : Int} {tgt : Nat} (C : Lc wx wm cL cD qo qd p l s m meth c b L xs) (d0 : decode code pc = .ok (.lcmp, 1)) (d1 : decode code (pc + 1) = .ok (.ifCond .eq off, 3)) (ht : ((pc + 1 : Nat) : Int) + off = (tgt : Int)) (kk : Lj wx wm cL cD qo qd p l e s m below meth c b (tgt) ls (st) Mx Mm f g k n) : Lj wx wm cL cD qo qd p l e s m below meth c b (pc) ls (.long x :: .long x :: st) Mx Mm f g k n := by
  refine l_step (fun H locs la Q hH hS hl kk => ?_) kk
  refine W.lcmp C.1.1 C.1.2.1 d0 ?_
  rw [lg_self]
  exact lv_if_eq C.1.1 C.1.2.1 d1 ht (fun _ => kk) (fun q => absurd rfl q)
/-- x != 0 -/
theorem l_bool {o0 o1 : Int} {t0 t1 : Nat} {x z : Int32} (C : Lc wx wm cL cD qo qd p l s m meth c b L xs) (hz : (if x = 0 then 0 else 1) = z) (d0 : decode code pc = .ok (.ifCond .eq o0, 3)) (h0 : (pc : Int) + o0 = (t0 : Int)) (e1 : decode code (pc + 3) = .ok (.iconst 1, 1)) (e2 : decode code (pc + 3 + 1) = .ok (.goto o1, 3)) (h1 : ((pc + 3 + 1 : Nat) : Int) + o1 = (t1 : Int)) (e3 : decode code t0 = .ok (.iconst 0, 1)) (h2 : t0 + 1 = t1) (kk : Lj wx wm cL cD qo qd p l e s m below meth c b (t1) ls (.int z :: st) Mx Mm f g k n) : Lj wx wm cL cD qo qd p l e s m below meth c b (pc) ls (.int x :: st) Mx Mm f g k n := by
  by_cases hx : x = 0
  · refine l_step (pc2 := t0) (st2 := st) (fun H locs la Q hH hS hl kk => lv_if_eq C.1.1 C.1.2.1 d0 h0 (fun _ => kk) (fun q => absurd hx q)) ?_
    refine l_iconst (v := 0) C e3 (by decide) ?_
    rw [h2]
    rw [if_pos hx] at hz
    rw [hz]
    exact kk
  · refine l_step (pc2 := pc + 3) (st2 := st) (fun H locs la Q hH hS hl kk => lv_if_eq C.1.1 C.1.2.1 d0 h0 (fun q => absurd q hx) (fun _ => kk)) ?_
    refine l_iconst (v := 1) C e1 (by decide) ?_
    refine l_goto C e2 h1 ?_
    rw [if_neg hx] at hz
    rw [hz]
    exact kk
/-- the answers agree: ints -/
theorem l_finL {o1 o2 o3 : Int} {t2 : Nat} {kr v : Int32} (j3 j6 j7 : Nat) (C : Lc wx wm cL cD qo qd p l s m meth c b L xs) (h3 : ls[j3]? = some (3, .ref qo)) (h6 : ls[j6]? = some (6, .int kr)) (h7 : ls[j7]? = some (7, .int v)) (hv : kr = 0 → f 0 = v.toInt64) (d0 : decode code pc = .ok (.iload 6, 2)) (d1 : decode code (pc + 2) = .ok (.ifCond .ne o1, 3)) (e1 : ((pc + 2 : Nat) : Int) + o1 = (t2 : Int)) (d2 : decode code (pc + 2 + 3) = .ok (.aload_n 3, 1)) (d3 : decode code (pc + 2 + 3 + 1) = .ok (.iconst 0, 1)) (d4 : decode code (pc + 2 + 3 + 1 + 1) = .ok (.laload, 1)) (d5 : decode code (pc + 2 + 3 + 1 + 1 + 1) = .ok (.iload 7, 2)) (d6 : decode code (pc + 2 + 3 + 1 + 1 + 1 + 2) = .ok (.i2l, 1)) (d7 : decode code (pc + 2 + 3 + 1 + 1 + 1 + 2 + 1) = .ok (.lcmp, 1)) (d8 : decode code (pc + 2 + 3 + 1 + 1 + 1 + 2 + 1 + 1) = .ok (.ifCond .eq o2, 3)) (e2 : ((pc + 2 + 3 + 1 + 1 + 1 + 2 + 1 + 1 : Nat) : Int) + o2 = (t2 : Int)) (d9 : decode code t2 = .ok (.goto o3, 3)) (e3 : (t2 : Int) + o3 = ((2436 : Nat) : Int)) (kk : Lj wx wm cL cD qo qd p l e s m below meth c b (2436) ls ([]) Mx Mm f g k n) : Lj wx wm cL cD qo qd p l e s m below meth c b (pc) ls ([]) Mx Mm f g k n := by
  have K2 : Lj wx wm cL cD qo qd p l e s m below meth c b (t2) ls ([]) Mx Mm f g k n := l_goto C d9 e3 kk
  refine l_iload j6 C d0 h6 ?_
  by_cases hz : kr = 0
  · refine l_step (pc2 := pc + 2 + 3) (st2 := []) (fun H locs la Q hH hS hl kk => lv_if_ne C.1.1 C.1.2.1 d1 e1 (fun q => absurd hz q) (fun _ => kk)) ?_
    refine l_aload_n j3 C d2 h3 ?_
    refine l_iconst (v := 0) C d3 (by decide) ?_
    refine l_laload C d4 ?_
    refine l_iload j7 C d5 h7 ?_
    refine l_step (pc2 := pc + 2 + 3 + 1 + 1 + 1 + 2 + 1) (st2 := [.long v.toInt64, .long (f 0)]) (fun H locs la Q hH hS hl kk => lv_i2l C.1.1 C.1.2.1 d6 rfl kk) ?_
    rw [hv hz]
    exact l_lcmp C d7 d8 e2 K2
  · exact l_step (fun H locs la Q hH hS hl kk => lv_if_ne C.1.1 C.1.2.1 d1 e1 (fun _ => kk) (fun q => absurd q hz)) K2
/-- the answers agree: booleans -/
theorem l_finZ {o1 o2 o3 p1 p2 : Int} {t2 t0 t1 : Nat} {kr v : Int32} (j3 j6 j7 : Nat) (C : Lc wx wm cL cD qo qd p l s m meth c b L xs) (h3 : ls[j3]? = some (3, .ref qo)) (h6 : ls[j6]? = some (6, .int kr)) (h7 : ls[j7]? = some (7, .int v)) (hv : kr = 0 → f 0 = zL v) (d0 : decode code pc = .ok (.iload 6, 2)) (d1 : decode code (pc + 2) = .ok (.ifCond .ne o1, 3)) (e1 : ((pc + 2 : Nat) : Int) + o1 = (t2 : Int)) (d2 : decode code (pc + 2 + 3) = .ok (.aload_n 3, 1)) (d3 : decode code (pc + 2 + 3 + 1) = .ok (.iconst 0, 1)) (d4 : decode code (pc + 2 + 3 + 1 + 1) = .ok (.laload, 1)) (d5 : decode code (pc + 2 + 3 + 1 + 1 + 1) = .ok (.iload 7, 2)) (d6 : decode code (pc + 2 + 3 + 1 + 1 + 1 + 2) = .ok (.ifCond .eq p1, 3)) (g1 : ((pc + 2 + 3 + 1 + 1 + 1 + 2 : Nat) : Int) + p1 = (t0 : Int)) (d61 : decode code (pc + 2 + 3 + 1 + 1 + 1 + 2 + 3) = .ok (.lconst 1, 1)) (d62 : decode code (pc + 2 + 3 + 1 + 1 + 1 + 2 + 3 + 1) = .ok (.goto p2, 3)) (g2 : ((pc + 2 + 3 + 1 + 1 + 1 + 2 + 3 + 1 : Nat) : Int) + p2 = (t1 : Int)) (d63 : decode code t0 = .ok (.lconst 0, 1)) (g3 : t0 + 1 = t1) (d7 : decode code t1 = .ok (.lcmp, 1)) (d8 : decode code (t1 + 1) = .ok (.ifCond .eq o2, 3)) (e2 : ((t1 + 1 : Nat) : Int) + o2 = (t2 : Int)) (d9 : decode code t2 = .ok (.goto o3, 3)) (e3 : (t2 : Int) + o3 = ((2436 : Nat) : Int)) (kk : Lj wx wm cL cD qo qd p l e s m below meth c b (2436) ls ([]) Mx Mm f g k n) : Lj wx wm cL cD qo qd p l e s m below meth c b (pc) ls ([]) Mx Mm f g k n := by
  have K2 : Lj wx wm cL cD qo qd p l e s m below meth c b (t2) ls ([]) Mx Mm f g k n := l_goto C d9 e3 kk
  refine l_iload j6 C d0 h6 ?_
  by_cases hz : kr = 0
  · refine l_step (pc2 := pc + 2 + 3) (st2 := []) (fun H locs la Q hH hS hl kk => lv_if_ne C.1.1 C.1.2.1 d1 e1 (fun q => absurd hz q) (fun _ => kk)) ?_
    refine l_aload_n j3 C d2 h3 ?_
    refine l_iconst (v := 0) C d3 (by decide) ?_
    refine l_laload C d4 ?_
    refine l_iload j7 C d5 h7 ?_
    have K3 : Lj wx wm cL cD qo qd p l e s m below meth c b (t1) ls ([.long (zL v), .long (f 0)]) Mx Mm f g k n := by
      rw [hv hz]
      exact l_lcmp C d7 d8 e2 K2
    by_cases hw : v = 0
    · refine l_step (pc2 := t0) (st2 := [.long (f 0)]) (fun H locs la Q hH hS hl kk => lv_if_eq C.1.1 C.1.2.1 d6 g1 (fun _ => kk) (fun q => absurd hw q)) ?_
      refine l_step (pc2 := t0 + 1) (st2 := [.long 0, .long (f 0)]) (fun H locs la Q hH hS hl kk => lv_lconst C.1.1 C.1.2.1 d63 (by decide) kk) ?_
      rw [g3]
      rw [show zL v = 0 by unfold zL; rw [if_pos hw]] at K3
      exact K3
    · refine l_step (pc2 := pc + 2 + 3 + 1 + 1 + 1 + 2 + 3) (st2 := [.long (f 0)]) (fun H locs la Q hH hS hl kk => lv_if_eq C.1.1 C.1.2.1 d6 g1 (fun q => absurd q hw) (fun _ => kk)) ?_
      refine l_step (pc2 := pc + 2 + 3 + 1 + 1 + 1 + 2 + 3 + 1) (st2 := [.long 1, .long (f 0)]) (fun H locs la Q hH hS hl kk => lv_lconst C.1.1 C.1.2.1 d61 (by decide) kk) ?_
      refine l_goto C d62 g2 ?_
      rw [show zL v = 1 by unfold zL; rw [if_neg hw]] at K3
      exact K3
  · exact l_step (fun H locs la Q hH hS hl kk => lv_if_ne C.1.1 C.1.2.1 d1 e1 (fun _ => kk) (fun q => absurd q hz)) K2
end LW
theorem ans_kr {r : Int32 ⊕ String} {v th : Int32} {cs : List String} (h : Ans r v th cs) : Kr cs r th := by
  rcases h with ⟨x, h1, h2, h3⟩ | ⟨k, E, h1, h2, h3⟩
  · exact Or.inl ⟨x, h1, h2⟩
  · exact Or.inr ⟨k, E, h1, h2, h3⟩
theorem ans_f {r : Int32 ⊕ String} {v th : Int32} {cs : List String} {g : Int32 → Int64} {f : Nat → Int64} (hcs : cs.length < 100) (h : Ans r v th cs) : th = 0 → fOf g f r 0 = g v := by
  intro hz
  rcases h with ⟨x, rfl, h2, rfl⟩ | ⟨k, E, h1, h2, h3⟩
  · simp [fOf, vp_updL]
  · exfalso
    have hk := (List.getElem?_eq_some_iff.mp h2).1
    rw [h3] at hz
    exact nI_ne0 (Nat.succ_pos k) (by omega) hz
