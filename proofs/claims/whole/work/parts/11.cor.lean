/-! ===== what lies outside the world and is read: nest links, strings, static arrays, the throwables' statics ===== -/
/-- String constants: class, entry, text, the number that the abstract machine gives it -/
abbrev StrT : Type := List (String × Nat × String × Nat)
def strAt (wp : Wp) (U : State) (H : Heap) (j : Nat) : Prop := va_O "java/lang/String" (wp.1 j) (B0 wp) U H ∧ va_OF "java/lang/String" "coder" "B" (.int 0) (wp.1 j) (B0 wp) U H ∧ va_OF "java/lang/String" "value" "[B" (.ref (wp.1 (j + 1000))) (wp.1 j) (B0 wp) U H ∧ va_T .byte (wp.1 (j + 1000)) (slen j) (fun i => .int (sbyt j i)) (B0 wp) U H
def statAt (wp : Wp) (U : State) (H : Heap) (j : Nat) : Prop := va_Z "ProcessingMemory" (statN j) "[I" (.ref (wp.1 j)) (B0 wp) U H ∧ va_T .int (wp.1 j) 9 (fun i => .int (statA j i)) (B0 wp) U H
def Ext (ST : StrT) (wp : Wp) (U : State) (H : Heap) : Prop :=
  (∀ w ∈ nestW, va_Nw w U) ∧ (∀ q ∈ ST, vk_R q.1 q.2.1 q.2.2.1 (wp.1 q.2.2.2) U) ∧
  vx_Zq Bundle.tN "UNASSIGNED_STACK" Bundle.steD (B0 wp) U H ∧ vx_Zq Bundle.tN "SUPPRESSED_SENTINEL" Bundle.listD (B0 wp) U H ∧
  (∀ j, strOk j → strAt wp U H j) ∧ va_Z "java/lang/String" "COMPACT_STRINGS" "Z" (.int 1) (B0 wp) U H ∧ va_Zq "jdk/internal/util/Preconditions" "SIOOBE_FORMATTER" "Ljava/util/function/BiFunction;" (B0 wp) U H ∧
  (∀ j, 900 ≤ j ∧ j < 903 → statAt wp U H j)
theorem nestW_warm {w : Cond} (h : w ∈ nestW) {s U : State} (hW : s.WarmedH U.vm) (hz : va_Nw w s) : va_Nw w U := by
  have h2 := (List.mem_filter.mp h).2
  cases w <;> simp [isNest] at h2
  all_goals first | exact va_Nw.warmM hW hz | exact va_Nw.warmF hW hz | exact va_Nw.warmC hW hz | exact va_Nw.warmD hW hz
theorem nestW_same {w : Cond} (h : w ∈ nestW) {s U : State} (hv : s.vm = U.vm) (hz : va_Nw w s) : va_Nw w U := by
  have h2 := (List.mem_filter.mp h).2
  cases w <;> simp [isNest] at h2
  all_goals exact va_Nw.same rfl hv hz
theorem strAt.next {wp : Wp} {s U : State} {H H1 : Heap} {j : Nat} (h : strAt wp s H j) (hv : s.vm.Alike U.vm) (hq : ∀ a : Nat, a < H.size → ¬ B0 wp a → H1[a]? = H[a]?) : strAt wp U H1 j :=
  ⟨va_O.moved hv (h.1.kept hq), va_OF.moved hv (h.2.1.kept hq), va_OF.moved hv (h.2.2.1.kept hq), va_T.moved hv (h.2.2.2.kept hq)⟩
theorem statAt.next {wp : Wp} {s U : State} {H H1 : Heap} {j : Nat} (h : statAt wp s H j) (hv : s.vm.Alike U.vm) (hq : ∀ a : Nat, a < H.size → ¬ B0 wp a → H1[a]? = H[a]?) : statAt wp U H1 j :=
  ⟨va_Z.moved hv (h.1.kept hq), va_T.moved hv (h.2.kept hq)⟩
theorem Ext.next {ST : StrT} {wp : Wp} {s U : State} {H : Heap} (h : Ext ST wp s s.heap) (hW : s.WarmedH U.vm) (hq : ∀ a : Nat, a < s.heap.size → ¬ B0 wp a → H[a]? = s.heap[a]?) : Ext ST wp U H := by
  obtain ⟨h1, h2, h3, h4, h5, h6, h7, h8⟩ := h
  refine ⟨fun w hw => ?_, fun q hq => vk_R.warm hW (h2 q hq), (h3.kept hq).moved hW.alike, (h4.kept hq).moved hW.alike, fun j hj => (h5 j hj).next hW.alike hq, va_Z.moved hW.alike (h6.kept hq), va_Zq.moved hW.alike (h7.kept hq), fun j hj => (h8 j hj).next hW.alike hq⟩
  exact nestW_warm hw hW (h1 _ hw)
theorem Ext.same {ST : StrT} {wp : Wp} {s U : State} {H : Heap} (h : Ext ST wp s H) (hv : s.vm = U.vm) : Ext ST wp U H := by
  obtain ⟨h1, h2, h3, h4, h5, h6, h7, h8⟩ := h
  have hA : s.vm.Alike U.vm := hv ▸ Vm.Alike.refl _
  refine ⟨fun w hw => ?_, fun q hq => vk_R.same hv.symm (h2 q hq), h3.moved hA, h4.moved hA, fun j hj => (h5 j hj).next hA (fun _ _ _ => rfl), va_Z.moved hA h6, va_Zq.moved hA h7, fun j hj => (h8 j hj).next hA (fun _ _ _ => rfl)⟩
  exact nestW_same hw hv (h1 _ hw)
def rmd (d : Nat) (q : Nat × Nat) : Room := { frames := d, cells := q.1, slots := q.2, locals := 64 * d }
abbrev MD : Type := MethodName × ByteArray × Nat × Option FieldType
/-- the world at a state -/
def Wd (KS : List Kd) (ST : StrT) (wp : Wp) (M : Mem) (U : State) : Prop := va_P wp.2.1 clX (wl KS wp M) U.heap ∧ va_K wp.2.1 clX (tysW wp) U ∧ Ext ST wp U U.heap
def PcW (KS : List Kd) (ST : StrT) (wp : Wp) (as : List AV) (M : Mem) (sz : Nat) : Array Value → State → Prop := va_Pc (trs wp as) (fun U => U.heap.size = sz ∧ Wd KS ST wp M U)
/-- the end of a method that returns: an int, or nothing -/
def QcW (KS : List Kd) (ST : StrT) (wp : Wp) (ret : Option FieldType) (r : Int32) (M : Mem) (sz : Nat) : Array Value → State → Outcome → State → Prop := match ret with
  | none => va_Qv (fun _ : Unit => True) (fun _ t => Wd KS ST wp M t) (Aw KS wp sz)
  | some _ => va_Qi (fun v (_ : Unit) => v = r) (fun _ t => Wd KS ST wp M t) (Aw KS wp sz)
/-- THE CONTRACT of a method that never throws: from the arguments as and the world M it returns r with the world M', where o = some (r, M') -/
def Ev (KS : List Kd) (ST : StrT) (md : MD) (d : Nat) (as : List AV) (M : Mem) (o : Option (Int32 × Mem)) : Prop :=
  ∀ (l : Launch) (wp : Wp) (sz : Nat) (r : Int32) (M' : Mem), l.stackTraces = false → okW KS wp → wp.2.2.2 ≤ sz → o = some (r, M') →
    Met l md.1 (Cond.code md.1 md.2.1 md.2.2.1 md.2.2.2 :: WS) (rmd d (0, 0)) (PcW KS ST wp as M sz) (QcW KS ST wp md.2.2.2 r M' sz) 0 0 (Aw KS wp sz)
def costX : Int32 ⊕ String → Nat × Nat
  | .inl _ => (0, 0)
  | .inr _ => (1, 6)
def QcX (KS : List Kd) (ST : StrT) (wp : Wp) (ret : Option FieldType) (r : Int32 ⊕ String) (M : Mem) (sz : Nat) : Array Value → State → Outcome → State → Prop := match ret with
  | none => va_Qv (fun _ : Unit => ∃ v, r = .inl v) (fun _ t => Wd KS ST wp M t) (Aw KS wp sz)
  | some _ => va_Qi (fun v (_ : Unit) => r = .inl v) (fun _ t => Wd KS ST wp M t) (Aw KS wp sz)
abbrev XcX (KS : List Kd) (wp : Wp) (r : Int32 ⊕ String) (M : Mem) (sz : Nat) : String → State → State → Prop := vx_X (fun _ : Unit => True) (fun E _ t => r = .inr E ∧ va_P wp.2.1 clX (wl KS wp M) t.heap) (Aw KS wp sz)
/-- the contract of a method that returns or throws -/
def EvX (KS : List Kd) (ST : StrT) (md : MD) (d : Nat) (as : List AV) (M : Mem) (o : Option ((Int32 ⊕ String) × Mem)) : Prop :=
  ∀ (l : Launch) (wp : Wp) (sz : Nat) (r : Int32 ⊕ String) (M' : Mem), l.stackTraces = false → okW KS wp → wp.2.2.2 ≤ sz → o = some (r, M') →
    vx_Met l md.1 (Cond.code md.1 md.2.1 md.2.2.1 md.2.2.2 :: WS) (rmd d (costX r)) (PcW KS ST wp as M sz) (QcX KS ST wp md.2.2.2 r M' sz) (XcX KS wp r M' sz) (costX r).1 (costX r).2 (Aw KS wp sz)
/-- what is fixed while a method runs -/
def Cx (KS : List Kd) (ST : StrT) (own : String) (cc : ByteArray) (nL : Nat) (ret : Option FieldType) (tx : Bool) (p : Program) (l : Launch) (s : State) (m : MethodId) (args : Array Value) (meth : Method) (c : Code) (wp : Wp) : Prop :=
  p.tables.exec = Jvm.exec ∧ c.code = cc ∧ meth.sig.returnType = ret ∧ c.maxLocals = nL ∧ s.vm.findClass own = some m.cls ∧ (∀ w ∈ WS, w.before args s = true) ∧ meth.locks = false ∧
  va_K wp.2.1 clX (tysW wp) s ∧ Ext ST wp s s.heap ∧ okW KS wp ∧ wp.2.2.2 ≤ s.heap.size ∧ l.stackTraces = false ∧ (tx = true → ∀ x ∈ c.exceptionTable.toList, False)
/-- how a walk ends -/
abbrev FNt (ρ : Type) : Type := Wp → Nat → List Frame → Array Value → State → ρ → Mem → State → Prop
def fnM (KS : List Kd) (ST : StrT) (ret : Option FieldType) : FNt Int32 := fun wp sz below args s r M => MQ below (QcW KS ST wp ret r M sz) args s 0 0 (Aw KS wp sz)
def fnX (KS : List Kd) (ST : StrT) (ret : Option FieldType) : FNt (Int32 ⊕ String) := fun wp sz below args s r M => vx_MQ below (QcX KS ST wp ret r M sz) (XcX KS wp r M sz) args s (costX r).1 (costX r).2 (Aw KS wp sz)
/-- THE JUDGEMENT: at pc, with these locals, this stack and this world, the rest of the method computes o -/
def Cor (KS : List Kd) (ST : StrT) (own : String) (cc : ByteArray) (nL : Nat) (ret : Option FieldType) (d : Nat) {ρ : Type} (tx : Bool) (FN : FNt ρ) (cost : ρ → Nat × Nat) (pc : Nat) (ls : List (Nat × AV)) (st : List AV) (M : Mem) (o : Option (ρ × Mem)) : Prop :=
  ∀ (p : Program) (l : Launch) (e : Env) (s : State) (m : MethodId) (args : Array Value) (below : List Frame) (meth : Method) (c : Code) (wp : Wp) (H : Heap) (locs : List Loc) (la : Array Slot) (r : ρ) (M' : Mem),
    Cx KS ST own cc nL ret tx p l s m args meth c wp → va_P wp.2.1 clX (wl KS wp M) H → va_S (Aw KS wp s.heap.size) s.heap H locs → lv_has la nL (trl wp ls) → (ls.map (·.1)).Nodup → o = some (r, M') →
    W p l e (rmd d (cost r)) s m args below meth c H locs 0 0 (FN wp s.heap.size below args s r M') (F0 m pc la (trs wp st))
abbrev CorM (KS : List Kd) (ST : StrT) (own : String) (cc : ByteArray) (nL : Nat) (ret : Option FieldType) (d : Nat) (pc : Nat) (ls : List (Nat × AV)) (st : List AV) (M : Mem) (o : Option (Int32 × Mem)) : Prop :=
  Cor KS ST own cc nL ret d false (fnM KS ST ret) (fun _ => (0, 0)) pc ls st M o
abbrev CorX (KS : List Kd) (ST : StrT) (own : String) (cc : ByteArray) (nL : Nat) (ret : Option FieldType) (d : Nat) (pc : Nat) (ls : List (Nat × AV)) (st : List AV) (M : Mem) (o : Option ((Int32 ⊕ String) × Mem)) : Prop :=
  Cor KS ST own cc nL ret d true (fnX KS ST ret) costX pc ls st M o
section CR
variable {KS : List Kd} {ST : StrT} {own : String} {cc : ByteArray} {nL : Nat} {ret : Option FieldType} {d : Nat} {ρ : Type} {tx : Bool} {FN : FNt ρ} {cost : ρ → Nat × Nat} {pc : Nat} {ls : List (Nat × AV)} {st : List AV} {M : Mem} {o : Option (ρ × Mem)}
theorem c_none : Cor KS ST own cc nL ret d tx FN cost pc ls st M none := by
  intro p l e s m args below meth c wp H locs la r M' _ _ _ _ _ h
  cases h
theorem c_wrt {F : Mem → Option (ρ × Mem)} (k : ∀ M2 : Mem, Cor KS ST own cc nL ret d tx FN cost pc ls st M2 (F M2)) : Cor KS ST own cc nL ret d tx FN cost pc ls st M (wrt M F) := k M
/-- a row that leaves heap and locals alone -/
theorem c_step {pc2 : Nat} {st2 : List AV} (h : ∀ (p : Program) (l : Launch) (e : Env) (s : State) (m : MethodId) (args : Array Value) (below : List Frame) (meth : Method) (c : Code) (wp : Wp) (H : Heap) (locs : List Loc) (la : Array Slot) (r : ρ) (Q : State → Prop),
      Cx KS ST own cc nL ret tx p l s m args meth c wp → va_P wp.2.1 clX (wl KS wp M) H → va_S (Aw KS wp s.heap.size) s.heap H locs → lv_has la nL (trl wp ls) →
      W p l e (rmd d (cost r)) s m args below meth c H locs 0 0 Q (F0 m pc2 la (trs wp st2)) → W p l e (rmd d (cost r)) s m args below meth c H locs 0 0 Q (F0 m pc la (trs wp st)))
    (k : Cor KS ST own cc nL ret d tx FN cost pc2 ls st2 M o) : Cor KS ST own cc nL ret d tx FN cost pc ls st M o := by
  intro p l e s m args below meth c wp H locs la r M' C hP hS hl hn ho
  exact h p l e s m args below meth c wp H locs la r _ C hP hS hl (k p l e s m args below meth c wp H locs la r M' C hP hS hl hn ho)
theorem c_iconst {n : Int} {v : Int32} (hd : decode cc pc = .ok (.iconst n, 1)) (hv : Int32.ofInt n = v) (k : Cor KS ST own cc nL ret d tx FN cost (pc + 1) ls (.inl v :: st) M o) : Cor KS ST own cc nL ret d tx FN cost pc ls st M o :=
  c_step (fun _ _ _ _ _ _ _ _ _ _ _ _ _ _ _ C _ _ _ k => lv_iconst C.1 C.2.1 hd hv k) k
theorem c_bipush {n : Int} {v : Int32} (hd : decode cc pc = .ok (.bipush n, 2)) (hv : (Int8.ofInt n).toInt32 = v) (k : Cor KS ST own cc nL ret d tx FN cost (pc + 2) ls (.inl v :: st) M o) : Cor KS ST own cc nL ret d tx FN cost pc ls st M o :=
  c_step (fun _ _ _ _ _ _ _ _ _ _ _ _ _ _ _ C _ _ _ k => lv_bipush C.1 C.2.1 hd hv k) k
theorem c_sipush {n : Int} {v : Int32} (hd : decode cc pc = .ok (.sipush n, 3)) (hv : (Int16.ofInt n).toInt32 = v) (k : Cor KS ST own cc nL ret d tx FN cost (pc + 3) ls (.inl v :: st) M o) : Cor KS ST own cc nL ret d tx FN cost pc ls st M o :=
  c_step (fun _ _ _ _ _ _ _ _ _ _ _ _ _ _ _ C _ _ _ k => lv_sipush C.1 C.2.1 hd hv k) k
theorem c_ldc {n : Nat} {v : Int32} (hw : Cond.constant own n v ∈ WS) (hd : decode cc pc = .ok (.ldc n, 2)) (k : Cor KS ST own cc nL ret d tx FN cost (pc + 2) ls (.inl v :: st) M o) : Cor KS ST own cc nL ret d tx FN cost pc ls st M o :=
  c_step (fun _ _ _ _ _ _ _ _ _ _ _ _ _ _ _ C _ _ _ k => lv_ldc C.1 C.2.1 C.2.2.2.2.1 (C.2.2.2.2.2.1 _ hw) hd k) k
theorem lk_at {wp : Wp} {la : Array Slot} {i : Nat} {v : AV} (h : lk ls i = some v) (hl : lv_has la nL (trl wp ls)) : la[i]? = some (.val (tr wp v)) :=
  hl.2.2 (i, tr wp v) (List.mem_map_of_mem (f := fun q : Nat × AV => (q.1, tr wp q.2)) (lk_mem h))
theorem c_iload_n {n : Fin 4} {i : Nat} {x : Int32} (hd : decode cc pc = .ok (.iload_n n, 1)) (hi : (n : Nat) = i) (h : lk ls i = some (.inl x)) (k : Cor KS ST own cc nL ret d tx FN cost (pc + 1) ls (.inl x :: st) M o) : Cor KS ST own cc nL ret d tx FN cost pc ls st M o :=
  c_step (fun _ _ _ _ _ _ _ _ _ _ _ _ _ _ _ C _ _ hl k => lv_iload_n C.1 C.2.1 hd hi (lk_at h hl) k) k
theorem c_iload {i : Nat} {x : Int32} (hd : decode cc pc = .ok (.iload i, 2)) (h : lk ls i = some (.inl x)) (k : Cor KS ST own cc nL ret d tx FN cost (pc + 2) ls (.inl x :: st) M o) : Cor KS ST own cc nL ret d tx FN cost pc ls st M o :=
  c_step (fun _ _ _ _ _ _ _ _ _ _ _ _ _ _ _ C _ _ hl k => lv_iload C.1 C.2.1 hd (lk_at h hl) k) k
theorem c_aload_n {n : Fin 4} {i : Nat} {x : Nat} (hd : decode cc pc = .ok (.aload_n n, 1)) (hi : (n : Nat) = i) (h : lk ls i = some (.inr x)) (k : Cor KS ST own cc nL ret d tx FN cost (pc + 1) ls (.inr x :: st) M o) : Cor KS ST own cc nL ret d tx FN cost pc ls st M o :=
  c_step (fun _ _ _ _ _ _ _ _ _ _ _ _ _ _ _ C _ _ hl k => lv_aload_n C.1 C.2.1 hd hi (lk_at h hl) k) k
theorem c_aload {i : Nat} {x : Nat} (hd : decode cc pc = .ok (.aload i, 2)) (h : lk ls i = some (.inr x)) (k : Cor KS ST own cc nL ret d tx FN cost (pc + 2) ls (.inr x :: st) M o) : Cor KS ST own cc nL ret d tx FN cost pc ls st M o :=
  c_step (fun _ _ _ _ _ _ _ _ _ _ _ _ _ _ _ C _ _ hl k => lv_aload C.1 C.2.1 hd (lk_at h hl) k) k
theorem c_dup {v : AV} (hd : decode cc pc = .ok (.dup, 1)) (k : Cor KS ST own cc nL ret d tx FN cost (pc + 1) ls (v :: v :: st) M o) : Cor KS ST own cc nL ret d tx FN cost pc ls (v :: st) M o :=
  c_step (fun _ _ _ _ _ _ _ _ _ _ _ _ _ _ _ C _ _ _ k => lv_dup C.1 C.2.1 hd (tr_cat _ v) k) k
theorem c_dup2 {v u : AV} (hd : decode cc pc = .ok (.dup2, 1)) (k : Cor KS ST own cc nL ret d tx FN cost (pc + 1) ls (v :: u :: v :: u :: st) M o) : Cor KS ST own cc nL ret d tx FN cost pc ls (v :: u :: st) M o :=
  c_step (fun _ _ _ _ _ _ _ _ _ _ _ _ _ _ _ C _ _ _ k => lv_dup2_11 C.1 C.2.1 hd (tr_cat _ v) (tr_cat _ u) k) k
theorem c_pop {v : AV} (hd : decode cc pc = .ok (.pop, 1)) (k : Cor KS ST own cc nL ret d tx FN cost (pc + 1) ls st M o) : Cor KS ST own cc nL ret d tx FN cost pc ls (v :: st) M o :=
  c_step (fun _ _ _ _ _ _ _ _ _ _ _ _ _ _ _ C _ _ _ k => lv_pop C.1 C.2.1 hd (tr_cat _ v) k) k
theorem c_dup_x1 {v u : AV} (hd : decode cc pc = .ok (.dup_x1, 1)) (k : Cor KS ST own cc nL ret d tx FN cost (pc + 1) ls (v :: u :: v :: st) M o) : Cor KS ST own cc nL ret d tx FN cost pc ls (v :: u :: st) M o :=
  c_step (fun _ _ _ _ _ _ _ _ _ _ _ _ _ _ _ C _ _ _ k => lv_dup_x1 C.1 C.2.1 hd (tr_cat _ v) (tr_cat _ u) k) k
theorem c_iadd {x y : Int32} (hd : decode cc pc = .ok (.iadd, 1)) (k : Cor KS ST own cc nL ret d tx FN cost (pc + 1) ls (.inl (x + y) :: st) M o) : Cor KS ST own cc nL ret d tx FN cost pc ls (.inl y :: .inl x :: st) M o :=
  c_step (fun _ _ _ _ _ _ _ _ _ _ _ _ _ _ _ C _ _ _ k => lv_iadd C.1 C.2.1 hd k) k
theorem c_isub {x y : Int32} (hd : decode cc pc = .ok (.isub, 1)) (k : Cor KS ST own cc nL ret d tx FN cost (pc + 1) ls (.inl (x - y) :: st) M o) : Cor KS ST own cc nL ret d tx FN cost pc ls (.inl y :: .inl x :: st) M o :=
  c_step (fun _ _ _ _ _ _ _ _ _ _ _ _ _ _ _ C _ _ _ k => lv_isub C.1 C.2.1 hd k) k
theorem c_imul {x y : Int32} (hd : decode cc pc = .ok (.imul, 1)) (k : Cor KS ST own cc nL ret d tx FN cost (pc + 1) ls (.inl (x * y) :: st) M o) : Cor KS ST own cc nL ret d tx FN cost pc ls (.inl y :: .inl x :: st) M o :=
  c_step (fun _ _ _ _ _ _ _ _ _ _ _ _ _ _ _ C _ _ _ k => lv_imul C.1 C.2.1 hd k) k
theorem c_iand {x y : Int32} (hd : decode cc pc = .ok (.iand, 1)) (k : Cor KS ST own cc nL ret d tx FN cost (pc + 1) ls (.inl (x &&& y) :: st) M o) : Cor KS ST own cc nL ret d tx FN cost pc ls (.inl y :: .inl x :: st) M o :=
  c_step (fun _ _ _ _ _ _ _ _ _ _ _ _ _ _ _ C _ _ _ k => lv_iand C.1 C.2.1 hd k) k
theorem c_ior {x y : Int32} (hd : decode cc pc = .ok (.ior, 1)) (k : Cor KS ST own cc nL ret d tx FN cost (pc + 1) ls (.inl (x ||| y) :: st) M o) : Cor KS ST own cc nL ret d tx FN cost pc ls (.inl y :: .inl x :: st) M o :=
  c_step (fun _ _ _ _ _ _ _ _ _ _ _ _ _ _ _ C _ _ _ k => lv_ior C.1 C.2.1 hd k) k
theorem c_ixor {x y : Int32} (hd : decode cc pc = .ok (.ixor, 1)) (k : Cor KS ST own cc nL ret d tx FN cost (pc + 1) ls (.inl (x ^^^ y) :: st) M o) : Cor KS ST own cc nL ret d tx FN cost pc ls (.inl y :: .inl x :: st) M o :=
  c_step (fun _ _ _ _ _ _ _ _ _ _ _ _ _ _ _ C _ _ _ k => lv_ixor C.1 C.2.1 hd k) k
theorem c_ishl {x y : Int32} (hd : decode cc pc = .ok (.ishl, 1)) (k : Cor KS ST own cc nL ret d tx FN cost (pc + 1) ls (.inl (x <<< (y &&& 31)) :: st) M o) : Cor KS ST own cc nL ret d tx FN cost pc ls (.inl y :: .inl x :: st) M o :=
  c_step (fun _ _ _ _ _ _ _ _ _ _ _ _ _ _ _ C _ _ _ k => lv_ishl C.1 C.2.1 hd k) k
theorem c_ishr {x y : Int32} (hd : decode cc pc = .ok (.ishr, 1)) (k : Cor KS ST own cc nL ret d tx FN cost (pc + 1) ls (.inl (x >>> (y &&& 31)) :: st) M o) : Cor KS ST own cc nL ret d tx FN cost pc ls (.inl y :: .inl x :: st) M o :=
  c_step (fun _ _ _ _ _ _ _ _ _ _ _ _ _ _ _ C _ _ _ k => lv_ishr C.1 C.2.1 hd k) k
/-- the unsigned shift -/
def ushr (x y : Int32) : Int32 := (x.toUInt32 >>> (y.toUInt32 &&& Int32.toUInt32 31)).toInt32
theorem c_iushr {x y : Int32} (hd : decode cc pc = .ok (.iushr, 1)) (k : Cor KS ST own cc nL ret d tx FN cost (pc + 1) ls (.inl (ushr x y) :: st) M o) : Cor KS ST own cc nL ret d tx FN cost pc ls (.inl y :: .inl x :: st) M o :=
  c_step (fun _ _ _ _ _ _ _ _ _ _ _ _ _ _ _ C _ _ _ k => lv_iushr C.1 C.2.1 hd rfl k) k
theorem c_ineg {x : Int32} (hd : decode cc pc = .ok (.ineg, 1)) (k : Cor KS ST own cc nL ret d tx FN cost (pc + 1) ls (.inl (-x) :: st) M o) : Cor KS ST own cc nL ret d tx FN cost pc ls (.inl x :: st) M o :=
  c_step (fun _ _ _ _ _ _ _ _ _ _ _ _ _ _ _ C _ _ _ k => lv_ineg C.1 C.2.1 hd k) k
/-- the remainder as Java has it -/
def jrem (x y : Int32) : Int32 := x - x / y * y
theorem c_idiv {x y : Int32} (hd : decode cc pc = .ok (.idiv, 1)) (hne : ¬ y = 0) (k : Cor KS ST own cc nL ret d tx FN cost (pc + 1) ls (.inl (x / y) :: st) M o) : Cor KS ST own cc nL ret d tx FN cost pc ls (.inl y :: .inl x :: st) M o :=
  c_step (fun _ _ _ _ _ _ _ _ _ _ _ _ _ _ _ C _ _ _ k => lv_idiv C.1 C.2.1 hd hne k) k
theorem c_irem {x y : Int32} (hd : decode cc pc = .ok (.irem, 1)) (hne : ¬ y = 0) (k : Cor KS ST own cc nL ret d tx FN cost (pc + 1) ls (.inl (jrem x y) :: st) M o) : Cor KS ST own cc nL ret d tx FN cost pc ls (.inl y :: .inl x :: st) M o :=
  c_step (fun _ _ _ _ _ _ _ _ _ _ _ _ _ _ _ C _ _ _ k => lv_irem C.1 C.2.1 hd hne k) k
theorem c_goto {off : Int} {tgt : Nat} (hd : decode cc pc = .ok (.goto off, 3)) (ht : (pc : Int) + off = (tgt : Int)) (k : Cor KS ST own cc nL ret d tx FN cost tgt ls st M o) : Cor KS ST own cc nL ret d tx FN cost pc ls st M o :=
  c_step (fun _ _ _ _ _ _ _ _ _ _ _ _ _ _ _ C _ _ _ k => lv_goto C.1 C.2.1 hd ht k) k
/-- fewer locals -/
theorem c_keep (ks : List Nat) {ls2 : List (Nat × AV)} (hk : kp ls ks = ls2) (k : Cor KS ST own cc nL ret d tx FN cost pc ls2 st M o) : Cor KS ST own cc nL ret d tx FN cost pc ls st M o := by
  intro p l e s m args below meth c wp H locs la r M' C hP hS hl hn ho
  subst hk
  refine k p l e s m args below meth c wp H locs la r M' C hP hS ⟨hl.1, hl.2.1, fun q hq => ?_⟩ ?_ ho
  · obtain ⟨z, hz, rfl⟩ := List.mem_map.mp hq
    exact hl.2.2 _ (List.mem_map_of_mem (f := fun q : Nat × AV => (q.1, tr wp q.2)) (List.mem_filter.mp hz).1)
  · exact List.Sublist.nodup (List.Sublist.map _ List.filter_sublist) hn
theorem stl_map {ls : List (Nat × AV)} {i : Nat} {v : AV} (hnd : (ls.map (·.1)).Nodup) : ((stl ls i v).map (·.1)).Nodup := by
  induction ls with
  | nil => simp [stl]
  | cons x l ih =>
    have hn := List.nodup_cons.mp hnd
    unfold stl
    cases hb : Nat.beq x.1 i with
    | true =>
      have hx := Nat.eq_of_beq_eq_true hb
      exact List.nodup_cons.mpr ⟨by rw [← hx]; exact hn.1, hn.2⟩
    | false =>
      have hxi : x.1 ≠ i := fun e => by
        have : Nat.beq x.1 i = true := by rw [e]; exact Nat.beq_refl i
        rw [this] at hb; cases hb
      cases hc : Nat.ble i x.1 with
      | true =>
        refine List.nodup_cons.mpr ⟨fun h => ?_, List.nodup_cons.mpr ⟨fun h => ?_, List.Sublist.nodup (List.Sublist.map _ List.filter_sublist) hn.2⟩⟩
        · rcases List.mem_cons.mp h with h | h
          · exact hxi h.symm
          · obtain ⟨q, hq, e⟩ := List.mem_map.mp h
            have h2 := (List.mem_filter.mp hq).2
            have e2 : q.1 = i := e
            rw [e2, Nat.beq_refl] at h2; cases h2
        · obtain ⟨q, hq, e⟩ := List.mem_map.mp h
          exact hn.1 (by rw [← e]; exact List.mem_map_of_mem (f := (·.1)) (List.mem_filter.mp hq).1)
      | false =>
        refine List.nodup_cons.mpr ⟨fun h => ?_, ih hn.2⟩
        obtain ⟨q, hq, e⟩ := List.mem_map.mp h
        rcases stl_mem hn.2 hq with h | ⟨h, -⟩
        · rw [h] at e
          exact hxi e.symm
        · exact hn.1 (by rw [← e]; exact List.mem_map_of_mem (f := (·.1)) h)
theorem stl_has {wp : Wp} {la : Array Slot} {i : Nat} {v : AV} (hnd : (ls.map (·.1)).Nodup) (h : lv_has la nL ((i, tr wp v) :: (trl wp ls).filter (fun q => !(q.1 == i) && !(q.1 + 1 == i && q.2.category == 2)))) : lv_has la nL (trl wp (stl ls i v)) := by
  refine ⟨h.1, h.2.1, fun q hq => ?_⟩
  obtain ⟨z, hz, rfl⟩ := List.mem_map.mp hq
  rcases stl_mem hnd hz with rfl | ⟨h1, h2⟩
  · exact h.2.2 _ List.mem_cons_self
  · refine h.2.2 _ (List.mem_cons_of_mem _ (List.mem_filter.mpr ⟨List.mem_map_of_mem (f := fun q : Nat × AV => (q.1, tr wp q.2)) h1, ?_⟩))
    simp [h2, tr_cat]
theorem c_istore_n {n : Fin 4} {i : Nat} {x : Int32} {ls2 : List (Nat × AV)} (hd : decode cc pc = .ok (.istore_n n, 1)) (hi : (n : Nat) = i) (hn : i < nL) (hl2 : stl ls i (.inl x) = ls2) (k : Cor KS ST own cc nL ret d tx FN cost (pc + 1) ls2 st M o) : Cor KS ST own cc nL ret d tx FN cost pc ls (.inl x :: st) M o := by
  intro p l e s m args below meth c wp H locs la r M' C hP hS hl hnd ho
  subst hl2
  exact lv_istore_n C.1 C.2.1 hd hi hl hn rfl (fun la2 h2 => k p l e s m args below meth c wp H locs la2 r M' C hP hS (stl_has (v := .inl x) hnd h2) (stl_map hnd) ho)
theorem c_istore {i : Nat} {x : Int32} {ls2 : List (Nat × AV)} (hd : decode cc pc = .ok (.istore i, 2)) (hn : i < nL) (hl2 : stl ls i (.inl x) = ls2) (k : Cor KS ST own cc nL ret d tx FN cost (pc + 2) ls2 st M o) : Cor KS ST own cc nL ret d tx FN cost pc ls (.inl x :: st) M o := by
  intro p l e s m args below meth c wp H locs la r M' C hP hS hl hnd ho
  subst hl2
  exact lv_istore C.1 C.2.1 hd hl hn rfl (fun la2 h2 => k p l e s m args below meth c wp H locs la2 r M' C hP hS (stl_has (v := .inl x) hnd h2) (stl_map hnd) ho)
theorem c_astore_n {n : Fin 4} {i : Nat} {x : Nat} {ls2 : List (Nat × AV)} (hd : decode cc pc = .ok (.astore_n n, 1)) (hi : (n : Nat) = i) (hn : i < nL) (hl2 : stl ls i (.inr x) = ls2) (k : Cor KS ST own cc nL ret d tx FN cost (pc + 1) ls2 st M o) : Cor KS ST own cc nL ret d tx FN cost pc ls (.inr x :: st) M o := by
  intro p l e s m args below meth c wp H locs la r M' C hP hS hl hnd ho
  subst hl2
  exact lv_astore_n C.1 C.2.1 hd hi hl hn rfl (fun la2 h2 => k p l e s m args below meth c wp H locs la2 r M' C hP hS (stl_has (v := .inr x) hnd h2) (stl_map hnd) ho)
theorem c_astore {i : Nat} {x : Nat} {ls2 : List (Nat × AV)} (hd : decode cc pc = .ok (.astore i, 2)) (hn : i < nL) (hl2 : stl ls i (.inr x) = ls2) (k : Cor KS ST own cc nL ret d tx FN cost (pc + 2) ls2 st M o) : Cor KS ST own cc nL ret d tx FN cost pc ls (.inr x :: st) M o := by
  intro p l e s m args below meth c wp H locs la r M' C hP hS hl hnd ho
  subst hl2
  exact lv_astore C.1 C.2.1 hd hl hn rfl (fun la2 h2 => k p l e s m args below meth c wp H locs la2 r M' C hP hS (stl_has (v := .inr x) hnd h2) (stl_map hnd) ho)
theorem c_iinc {i : Nat} {n : Int} {x v : Int32} {ls2 : List (Nat × AV)} (hd : decode cc pc = .ok (.iinc i n, 3)) (h : lk ls i = some (.inl x)) (hv : Int32.ofInt n = v) (hn : i < nL) (hl2 : stl ls i (.inl (x + v)) = ls2) (k : Cor KS ST own cc nL ret d tx FN cost (pc + 3) ls2 st M o) : Cor KS ST own cc nL ret d tx FN cost pc ls st M o := by
  intro p l e s m args below meth c wp H locs la r M' C hP hS hl hnd ho
  subst hl2; subst hv
  obtain ⟨j, hj⟩ := List.getElem?_of_mem (List.mem_map_of_mem (f := fun q : Nat × AV => (q.1, tr wp q.2)) (lk_mem h))
  exact lv_iinc (k := j) C.1 C.2.1 hd hl hj rfl hn rfl (fun la2 h2 => k p l e s m args below meth c wp H locs la2 r M' C hP hS (stl_has (v := .inl (x + Int32.ofInt n)) hnd h2) (stl_map hnd) ho)
end CR
