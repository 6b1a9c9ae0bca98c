/-! ===== objects in the making: the cells from a on, in the order in which they are made ===== -/
def LW (a : Nat) (Es : List va_E) : va_W := Es.mapIdx (fun j e => (a + j, e))
theorem LW_get {a j : Nat} {Es : List va_E} {e : va_E} (h : Es[j]? = some e) : (LW a Es)[j]? = some (a + j, e) := by simp [LW, h]
theorem LW_of {a j : Nat} {Es : List va_E} {q : Nat × va_E} (h : (LW a Es)[j]? = some q) : ∃ e, Es[j]? = some e ∧ q = (a + j, e) := by
  cases hk : Es[j]? with
  | none => simp [LW, hk] at h
  | some e =>
    rw [LW_get hk] at h
    exact ⟨e, rfl, (Option.some.inj h).symm⟩
theorem LW_D (a : Nat) (Es : List va_E) : va_D (fun q => a ≤ q) (LW a Es) := by
  refine ⟨fun i j p q hp hq e => ?_, fun k q hq => ?_⟩
  · obtain ⟨_, _, rfl⟩ := LW_of hp
    obtain ⟨_, _, rfl⟩ := LW_of hq
    have e2 : a + i = a + j := e
    omega
  · obtain ⟨_, _, rfl⟩ := LW_of hq
    show a ≤ a + k
    omega
theorem LW_set (a j : Nat) (Es : List va_E) (e : va_E) : (LW a Es).set j (a + j, e) = LW a (Es.set j e) := by
  apply List.ext_getElem?
  intro k
  by_cases hk : k = j
  · subst hk
    by_cases hl : k < Es.length
    · rw [List.getElem?_set_self (by simpa [LW] using hl), LW_get (List.getElem?_set_self hl)]
    · rw [List.getElem?_eq_none (by simp [LW]; omega), List.getElem?_eq_none (by simp [LW]; omega)]
  · rw [List.getElem?_set_ne (fun q => hk q.symm)]
    simp only [LW, List.getElem?_mapIdx]
    rw [List.getElem?_set_ne (fun q => hk q.symm)]
section LP
variable {D : va_G} {cl : List vw_C} {a : Nat} {Es Fs : List va_E} {H H1 : Heap}
theorem LW_app (h1 : va_P D cl (LW a Es) H) (h2 : va_P D cl (LW (a + Es.length) Fs) H) : va_P D cl (LW a (Es ++ Fs)) H := by
  intro k q hq
  obtain ⟨e, he, rfl⟩ := LW_of hq
  by_cases hk : k < Es.length
  · rw [List.getElem?_append_left hk] at he
    exact h1 k _ (LW_get he)
  · rw [List.getElem?_append_right (by omega)] at he
    have := h2 _ _ (LW_get he)
    rwa [show a + Es.length + (k - Es.length) = a + k by omega] at this
theorem LW_left (h : va_P D cl (LW a (Es ++ Fs)) H) : va_P D cl (LW a Es) H := by
  intro k q hq
  obtain ⟨e, he, rfl⟩ := LW_of hq
  exact h k _ (LW_get (by rw [List.getElem?_append_left (List.getElem?_eq_some_iff.mp he).1]; exact he))
theorem LW_right (h : va_P D cl (LW a (Es ++ Fs)) H) : va_P D cl (LW (a + Es.length) Fs) H := by
  intro k q hq
  obtain ⟨e, he, rfl⟩ := LW_of hq
  have := h (Es.length + k) _ (LW_get (by rw [List.getElem?_append_right (by omega), show Es.length + k - Es.length = k by omega]; exact he))
  rwa [show a + (Es.length + k) = a + Es.length + k by omega] at this
theorem LW_kept (h : va_P D cl (LW a Es) H) (hq : ∀ q : Nat, a ≤ q → q < a + Es.length → H1[q]? = H[q]?) : va_P D cl (LW a Es) H1 := by
  refine h.kept (fun k q hk => ?_)
  obtain ⟨e, he, rfl⟩ := LW_of hk
  have := (List.getElem?_eq_some_iff.mp he).1
  exact hq _ (by show a ≤ a + k; omega) (by show a + k < _; omega)
theorem LW_one {e : va_E} (h : va_at D cl (a, e) H) : va_P D cl (LW a [e]) H := by
  intro k q hq
  obtain ⟨e2, he, rfl⟩ := LW_of hq
  have hk := (List.getElem?_eq_some_iff.mp he).1
  have hk0 : k = 0 := by simp at hk; exact hk
  subst hk0
  cases he
  exact h
/-- one entry said otherwise -/
theorem LW_swap {e e2 : va_E} (h : va_P D cl (LW a (Es ++ e :: Fs)) H) (hc : va_at D cl (a + Es.length, e) H → va_at D cl (a + Es.length, e2) H) : va_P D cl (LW a (Es ++ e2 :: Fs)) H := by
  have h1 := LW_left h
  have h2 : va_P D cl (LW (a + Es.length) ([e] ++ Fs)) H := LW_right h
  exact LW_app h1 (LW_app (Es := [e2]) (LW_one (hc (h2 0 _ (LW_get rfl)))) (LW_right (Es := [e]) h2))
end LP
abbrev tysA (arr : Nat → ClassId) : List (ClassId × FieldType) := [(arr 0, .int), (arr 1, .boolean), (arr 2, .object RX5), (arr 3, .object RX6)]
/-- what is known of nest mates and of rows of objects -/
def Nst (U : State) : Prop := (∀ w ∈ nestW, va_Nw w U) ∧ va_AO RX5 U ∧ va_AO RX6 U
theorem Nst.warm {s U : State} (hW : s.WarmedH U.vm) (h : Nst s) : Nst U := ⟨fun w hw => nestW_warm hw hW (h.1 w hw), va_AO.moved hW.alike h.2.1, va_AO.moved hW.alike h.2.2⟩
theorem Nst.same {s U : State} (hv : s.vm = U.vm) (h : Nst s) : Nst U := ⟨fun w hw => nestW_same hw hv (h.1 w hw), va_AO.moved (hv ▸ Vm.Alike.refl _) h.2.1, va_AO.moved (hv ▸ Vm.Alike.refl _) h.2.2⟩
/-- a new cell's numbers: 0, but -1 where a reference is null -/
def zM (kd : Kd) (k : Nat) : Int32 := if kd.1 < 20 ∧ lay kd.1 k = 2 then -1 else 0
def blkE (D : va_G) (arr : Nat → ClassId) (a : Nat) (B : List Kd) : List va_E := B.mapIdx (fun j kd => ent (fun i => a + i, D, arr, 0) j kd (zM kd))
theorem blkE_len (D : va_G) (arr : Nat → ClassId) (a : Nat) (B : List Kd) : (blkE D arr a B).length = B.length := by simp [blkE]
theorem fv_shift (D : va_G) (arr : Nat → ClassId) (a n j ci k : Nat) (f : Nat → Int32) (hf : lay ci k = 2 → f k < 0) : fv (fun i => a + i, D, arr, 0) (n + j) ci f k = fv (fun i => a + n + i, D, arr, 0) j ci f k := by
  unfold fv
  split
  · rfl
  · rfl
  · rename_i h
    rw [if_pos (hf h), if_pos (hf h)]
  · rename_i z h
    show Value.ref (a + (n + j + z)) = Value.ref (a + n + (j + z))
    rw [show a + (n + j + z) = a + n + (j + z) by omega]
theorem ent_shift (D : va_G) (arr : Nat → ClassId) (a n j : Nat) (kd : Kd) : ent (fun i => a + i, D, arr, 0) (n + j) kd (zM kd) = ent (fun i => a + n + i, D, arr, 0) j kd (zM kd) := by
  unfold ent
  by_cases h1 : kd.1 < 20
  · rw [if_pos h1, if_pos h1]
    have : fv (fun i => a + i, D, arr, 0) (n + j) kd.1 (zM kd) = fv (fun i => a + n + i, D, arr, 0) j kd.1 (zM kd) := by
      funext k
      refine fv_shift D arr a n j kd.1 k _ (fun h => ?_)
      unfold zM
      rw [if_pos ⟨h1, h⟩]
      decide
    rw [this]
  · rw [if_neg h1, if_neg h1]
    by_cases h2 : kd.1 < 22
    · rw [if_pos h2, if_pos h2]
    · rw [if_neg h2, if_neg h2]
      have e : ∀ z, a + (n + j + z) = a + n + (j + z) := fun z => by omega
      by_cases h3 : kd.1 = 22
      · rw [if_pos h3, if_pos h3]
        simp only [e]
      · rw [if_neg h3, if_neg h3]
        simp only [e]
theorem blkE_app (D : va_G) (arr : Nat → ClassId) (a : Nat) (B C : List Kd) : blkE D arr a (B ++ C) = blkE D arr a B ++ blkE D arr (a + B.length) C := by
  apply List.ext_getElem?
  intro k
  by_cases hk : k < B.length
  · rw [List.getElem?_append_left (by rw [blkE_len]; exact hk)]
    simp only [blkE, List.getElem?_mapIdx]
    rw [List.getElem?_append_left hk]
  · rw [List.getElem?_append_right (by rw [blkE_len]; omega), blkE_len]
    simp only [blkE, List.getElem?_mapIdx]
    rw [List.getElem?_append_right (by omega)]
    cases hq : C[k - B.length]? with
    | none => rfl
    | some kd =>
      simp only [Option.map_some]
      have := ent_shift D arr a B.length (k - B.length) kd
      rw [show B.length + (k - B.length) = k by omega] at this
      rw [this]
theorem blkE_at (D : va_G) (arr : Nat → ClassId) {a a2 : Nat} {B : List Kd} (C : List Kd) (h : a + B.length = a2) : blkE D arr a (B ++ C) = blkE D arr a B ++ blkE D arr a2 C := by rw [blkE_app, h]
theorem blkE_cons (D : va_G) (arr : Nat → ClassId) (a : Nat) (kd : Kd) (C : List Kd) : blkE D arr a (kd :: C) = ent (fun i => a + i, D, arr, 0) 0 kd (zM kd) :: blkE D arr (a + 1) C := blkE_app D arr a [kd] C
def eI (arr : Nat → ClassId) (N : Nat) : va_E := .inl (arr 0, N, .inl (fun _ => 0))
def eB (arr : Nat → ClassId) (N : Nat) : va_E := .inl (arr 1, N, .inl (fun _ => 0))
/-- a row of references -/
def eQ (arr : Nat → ClassId) (t N : Nat) (f : Nat → Option Nat) : va_E := .inl (arr t, N, .inr (.inr (.inr (.inr f))))
theorem eQ_cg {D : va_G} {cl : List vw_C} {q t N : Nat} {arr : Nat → ClassId} {f g : Nat → Option Nat} {H : Heap} (h : ∀ j, j < N → f j = g j) (hv : va_at D cl (q, eQ arr t N f) H) : va_at D cl (q, eQ arr t N g) H := by
  have e : arrV (arr t) N (fun j => va_rf (f j)) = arrV (arr t) N (fun j => va_rf (g j)) := by
    unfold arrV
    congr 2
    funext j
    show va_rf (f j.val) = va_rf (g j.val)
    rw [h j.val j.isLt]
  have hv2 : H[q]? = some (arrV (arr t) N (fun j => va_rf (f j))) := hv
  show H[q]? = some (arrV (arr t) N (fun j => va_rf (g j)))
  rw [← e]
  exact hv2
theorem blkE_i (D : va_G) (arr : Nat → ClassId) (a N : Nat) (C : List Kd) : blkE D arr a ((20, N) :: C) = eI arr N :: blkE D arr (a + 1) C := by
  rw [blkE_cons]
  have : zM (20, N) = fun _ => 0 := by funext k; simp [zM]
  rw [this]
  rfl
theorem blkE_b (D : va_G) (arr : Nat → ClassId) (a N : Nat) (C : List Kd) : blkE D arr a ((21, N) :: C) = eB arr N :: blkE D arr (a + 1) C := by
  rw [blkE_cons]
  have : zM (21, N) = fun _ => 0 := by funext k; simp [zM]
  rw [this]
  rfl
theorem blkE_nil (D : va_G) (arr : Nat → ClassId) (a : Nat) : blkE D arr a [] = [] := rfl
theorem LW_size {D : va_G} {cl : List vw_C} {a n : Nat} {Es : List va_E} {H : Heap} (h : va_P D cl (LW a Es) H) (hn : Es.length = n + 1) : a + Es.length ≤ H.size := by
  have hl : n < Es.length := by omega
  have := (h n _ (LW_get (List.getElem?_eq_getElem hl))).lt
  have h2 : a + n < H.size := this
  omega
theorem W_size {p : Program} {l : Launch} {e : Env} {R : Room} {s : State} {m : MethodId} {args : Array Value} {below : List Frame} {meth : Method} {c : Code} {H : Heap} {locs : List Loc} {cells slots : Nat} {Q : State → Prop} {g : JFrame} (k : H.size ≤ s.heap.size + cells → W p l e R s m args below meth c H locs cells slots Q g) : W p l e R s m args below meth c H locs cells slots Q g := fun T hT X => k (by
  have h : T.heap.size ≤ s.heap.size + cells := X.same.2.2.1
  rw [← hT]; exact h) T hT X
/-! ===== the judgement of a constructor ===== -/
def QcG (D : va_G) (a0 : Nat) (Ef : List va_E) : Array Value → State → Outcome → State → Prop := va_Qv (fun _ : Unit => True) (fun _ t => t.heap.size = a0 + Ef.length ∧ va_P D clX (LW a0 Ef) t.heap) (fun q => a0 ≤ q)
def PcG (D : va_G) (arr : Nat → ClassId) (a0 : Nat) (e0 : va_E) : Array Value → State → Prop := va_Pc [.ref a0] (fun U => U.heap.size = a0 + 1 ∧ va_P D clX (LW a0 [e0]) U.heap ∧ va_K D clX (tysA arr) U ∧ Nst U)
/-- THE CONTRACT of a constructor: the object's cell lies last in the heap; behind it the heap has the whole block -/
def CtC (md : MD) (d mc ms ci : Nat) (dfl : List Value) (B : List Kd) : Prop := ∀ (l : Launch) (D : va_G) (arr : Nat → ClassId) (a0 : Nat),
  Met l md.1 (Cond.code md.1 md.2.1 md.2.2.1 md.2.2.2 :: WS) (rmd d (mc, ms)) (PcG D arr a0 (.inr (ci, dfl))) (QcG D a0 (blkE D arr a0 B)) mc ms (fun q => a0 ≤ q)
def Gx (own : String) (cc : ByteArray) (nL : Nat) (p : Program) (s : State) (m : MethodId) (args : Array Value) (meth : Method) (c : Code) (D : va_G) (arr : Nat → ClassId) (a0 : Nat) (Z : State → Prop) : Prop :=
  p.tables.exec = Jvm.exec ∧ c.code = cc ∧ meth.sig.returnType = none ∧ c.maxLocals = nL ∧ s.vm.findClass own = some m.cls ∧ (∀ w ∈ WS, w.before args s = true) ∧ meth.locks = false ∧ va_K D clX (tysA arr) s ∧ Nst s ∧ meth.name = "<init>" ∧ s.heap.size = a0 + 1 ∧ Z s
def Gr (own : String) (cc : ByteArray) (nL : Nat) (R : Room) (D : va_G) (arr : Nat → ClassId) (a0 : Nat) (Z : Launch → State → Prop) (QQ : List Frame → Array Value → State → State → Prop) (pc : Nat) (ls : List (Nat × Value)) (st : List Value) (Es : List va_E) (k n : Nat) : Prop :=
  ∀ (p : Program) (l : Launch) (e : Env) (s : State) (m : MethodId) (args : Array Value) (below : List Frame) (meth : Method) (c : Code) (H : Heap) (locs : List Loc) (la : Array Slot),
    Gx own cc nL p s m args meth c D arr a0 (Z l) → H.size = a0 + Es.length → va_P D clX (LW a0 Es) H → va_S (fun q => a0 ≤ q) s.heap H locs → lv_has la nL ls →
    W p l e R s m args below meth c H locs k n (QQ below args s) (F0 m pc la st)
section GR
variable {own : String} {cc : ByteArray} {nL : Nat} {R : Room} {D : va_G} {arr : Nat → ClassId} {a0 : Nat} {Z : Launch → State → Prop} {QQ : List Frame → Array Value → State → State → Prop} {pc : Nat} {ls : List (Nat × Value)} {st : List Value} {Es Er : List va_E} {k n : Nat}
theorem g_step {pc2 : Nat} {st2 : List Value} (h : ∀ (p : Program) (l : Launch) (e : Env) (s : State) (m : MethodId) (args : Array Value) (below : List Frame) (meth : Method) (c : Code) (H : Heap) (locs : List Loc) (la : Array Slot) (Q : State → Prop),
      Gx own cc nL p s m args meth c D arr a0 (Z l) → va_P D clX (LW a0 Es) H → lv_has la nL ls →
      W p l e R s m args below meth c H locs k n Q (F0 m pc2 la st2) → W p l e R s m args below meth c H locs k n Q (F0 m pc la st))
    (kk : Gr own cc nL R D arr a0 Z QQ pc2 ls st2 Es k n) : Gr own cc nL R D arr a0 Z QQ pc ls st Es k n := by
  intro p l e s m args below meth c H locs la C hz hP hS hl
  exact h p l e s m args below meth c H locs la _ C hP hl (kk p l e s m args below meth c H locs la C hz hP hS hl)
theorem g_iconst {i : Int} {v : Int32} (hd : decode cc pc = .ok (.iconst i, 1)) (hv : Int32.ofInt i = v) (kk : Gr own cc nL R D arr a0 Z QQ (pc + 1) ls (.int v :: st) Es k n) : Gr own cc nL R D arr a0 Z QQ pc ls st Es k n :=
  g_step (fun _ _ _ _ _ _ _ _ _ _ _ _ _ C _ _ kk => lv_iconst C.1 C.2.1 hd hv kk) kk
theorem g_bipush {i : Int} {v : Int32} (hd : decode cc pc = .ok (.bipush i, 2)) (hv : (Int8.ofInt i).toInt32 = v) (kk : Gr own cc nL R D arr a0 Z QQ (pc + 2) ls (.int v :: st) Es k n) : Gr own cc nL R D arr a0 Z QQ pc ls st Es k n :=
  g_step (fun _ _ _ _ _ _ _ _ _ _ _ _ _ C _ _ kk => lv_bipush C.1 C.2.1 hd hv kk) kk
theorem g_sipush {i : Int} {v : Int32} (hd : decode cc pc = .ok (.sipush i, 3)) (hv : (Int16.ofInt i).toInt32 = v) (kk : Gr own cc nL R D arr a0 Z QQ (pc + 3) ls (.int v :: st) Es k n) : Gr own cc nL R D arr a0 Z QQ pc ls st Es k n :=
  g_step (fun _ _ _ _ _ _ _ _ _ _ _ _ _ C _ _ kk => lv_sipush C.1 C.2.1 hd hv kk) kk
theorem g_aload {q : Nat} (i : Nat) (hd : decode cc pc = .ok (.aload_n 0, 1)) (hl : ls[i]? = some (0, .ref q)) (kk : Gr own cc nL R D arr a0 Z QQ (pc + 1) ls (.ref q :: st) Es k n) : Gr own cc nL R D arr a0 Z QQ pc ls st Es k n :=
  g_step (fun _ _ _ _ _ _ _ _ _ _ _ _ _ C _ h kk => lv_aload_n C.1 C.2.1 hd rfl (lv_at h i hl) kk) kk
theorem g_iload {x : Int32} (i : Nat) (hd : decode cc pc = .ok (.iload_n 1, 1)) (hl : ls[i]? = some (1, .int x)) (kk : Gr own cc nL R D arr a0 Z QQ (pc + 1) ls (.int x :: st) Es k n) : Gr own cc nL R D arr a0 Z QQ pc ls st Es k n :=
  g_step (fun _ _ _ _ _ _ _ _ _ _ _ _ _ C _ h kk => lv_iload_n C.1 C.2.1 hd rfl (lv_at h i hl) kk) kk
theorem g_dup {q : Nat} (hd : decode cc pc = .ok (.dup, 1)) (kk : Gr own cc nL R D arr a0 Z QQ (pc + 1) ls (.ref q :: .ref q :: st) Es k n) : Gr own cc nL R D arr a0 Z QQ pc ls (.ref q :: st) Es k n :=
  g_step (fun _ _ _ _ _ _ _ _ _ _ _ _ _ C _ _ kk => lv_dup C.1 C.2.1 hd rfl kk) kk
theorem g_goto {off : Int} {tgt : Nat} (hd : decode cc pc = .ok (.goto off, 3)) (ht : (pc : Int) + off = (tgt : Int)) (kk : Gr own cc nL R D arr a0 Z QQ tgt ls st Es k n) : Gr own cc nL R D arr a0 Z QQ pc ls st Es k n :=
  g_step (fun _ _ _ _ _ _ _ _ _ _ _ _ _ C _ _ kk => lv_goto C.1 C.2.1 hd ht kk) kk
theorem g_gtF {off : Int} {tgt : Nat} {x y : Int32} (hd : decode cc pc = .ok (.if_icmp .gt off, 3)) (ht : (pc : Int) + off = (tgt : Int)) (h : ¬ y < x) (kk : Gr own cc nL R D arr a0 Z QQ (pc + 3) ls st Es k n) : Gr own cc nL R D arr a0 Z QQ pc ls (.int y :: .int x :: st) Es k n :=
  g_step (fun _ _ _ _ _ _ _ _ _ _ _ _ _ C _ _ kk => lv_icmp_gt C.1 C.2.1 hd ht (fun q => absurd q h) (fun _ => kk)) kk
theorem g_gtT {off : Int} {tgt : Nat} {x y : Int32} (hd : decode cc pc = .ok (.if_icmp .gt off, 3)) (ht : (pc : Int) + off = (tgt : Int)) (h : y < x) (kk : Gr own cc nL R D arr a0 Z QQ tgt ls st Es k n) : Gr own cc nL R D arr a0 Z QQ pc ls (.int y :: .int x :: st) Es k n :=
  g_step (fun _ _ _ _ _ _ _ _ _ _ _ _ _ C _ _ kk => lv_icmp_gt C.1 C.2.1 hd ht (fun _ => kk) (fun q => absurd h q)) kk
theorem g_objinit (hlink : Cond.methodLink own 3 objectInit ∈ WS) (hd : decode cc pc = .ok (.invokespecial 3, 3)) (hf : 1 ≤ R.frames) (hlo : 12 ≤ R.locals) (kk : Gr own cc nL R D arr a0 Z QQ (pc + 3) ls [] Es k n) {q : Nat} : Gr own cc nL R D arr a0 Z QQ pc ls [.ref q] Es k n := by
  refine g_step (fun p l e s m args below meth c H locs la Q C _ h kk => ?_) kk
  obtain ⟨hx, hb, hr, hml, hown, hts, -⟩ := C
  exact W.objInit hx hb hown (hts _ hlink) (hts _ wx_objinit) (hts _ wx_objcode) rfl (by rw [hml]; exact h.1) rfl hd hf hlo (W.eq (g2 := F0 m (pc + 3) la []) rfl kk)
theorem g_istore {x : Int32} {ls2 : List (Nat × Value)} (hd : decode cc pc = .ok (.istore_n 1, 1)) (hn : 1 < nL) (hl : (1, Value.int x) :: ls.filter (fun q => !(q.1 == 1) && !(q.1 + 1 == 1 && q.2.category == 2)) = ls2) (kk : Gr own cc nL R D arr a0 Z QQ (pc + 1) ls2 st Es k n) : Gr own cc nL R D arr a0 Z QQ pc ls (.int x :: st) Es k n := by
  intro p l e s m args below meth c H locs la C hz hP hS h
  exact lv_istore_n C.1 C.2.1 hd rfl h hn hl (fun la2 h2 => kk p l e s m args below meth c H locs la2 C hz hP hS h2)
theorem g_iinc {x v : Int32} {ls2 : List (Nat × Value)} (j : Nat) (hd : decode cc pc = .ok (.iinc 1 1, 3)) (hj : ls[j]? = some (1, .int x)) (hv : x + Int32.ofInt 1 = v) (hn : 1 < nL) (hl : (1, Value.int v) :: ls.filter (fun q => !(q.1 == 1) && !(q.1 + 1 == 1 && q.2.category == 2)) = ls2) (kk : Gr own cc nL R D arr a0 Z QQ (pc + 3) ls2 st Es k n) : Gr own cc nL R D arr a0 Z QQ pc ls st Es k n := by
  intro p l e s m args below meth c H locs la C hz hP hS h
  exact lv_iinc C.1 C.2.1 hd h hj hv hn hl (fun la2 h2 => kk p l e s m args below meth c H locs la2 C hz hP hS h2)
/-- a new cell at the end of the heap -/
theorem grow_S {s : State} {H H1 : Heap} {locs : List Loc} (h : va_S (fun q => a0 ≤ q) s.heap H locs) (z : H1.size = H.size + 1) (o : ∀ q, q < H.size → H1[q]? = H[q]?) : va_S (fun q => a0 ≤ q) s.heap H1 locs :=
  ⟨Nat.le_trans h.1 (by omega), fun x h1 h2 => (o x (Nat.lt_of_lt_of_le h1 h.1)).trans (h.2.1 x h1 h2), h.2.2⟩
theorem g_newi {v : Int32} {N q : Nat} (hd : decode cc pc = .ok (.newarray .int, 2)) (hv : ¬ v < 0) (hN : v.toNatClampNeg = N) (hb4 : N * 4 ≤ 536870912) (hq : a0 + Es.length = q) (hc : k + 1 ≤ R.cells) (hs : n + N ≤ R.slots) {E2 : List va_E} (he : Es ++ [eI arr N] = E2) (kk : Gr own cc nL R D arr a0 Z QQ (pc + 2) ls (.ref q :: st) E2 (k + 1) (n + N)) : Gr own cc nL R D arr a0 Z QQ pc ls (.int v :: st) Es k n := by
  subst he
  intro p l e s m args below meth c H locs la C hz hP hS h
  obtain ⟨hx, hb, hr, hml, hown, hts, hlk, hK, hNs, hin, hsz, hZ⟩ := id C
  refine va_newaK (atype := .int) hx hb (hts _ wa_int) rfl hd rfl hv hN hb4 hc hs (hz.trans hq) (fun H1 cA e1 z1 o1 hAr hNm => ?_)
  have hcA : cA = arr 0 := Option.some.inj (hNm.symm.trans (hK.2 0 _ rfl).2)
  subst hcA
  have z2 : H1.size = H.size + 1 := by omega
  have o2 : ∀ q, q < H.size → H1[q]? = H[q]? := fun x hx => o1 x (by omega)
  refine kk p l e s m args below meth c H1 locs la C (by simp; omega) (LW_app (LW_kept hP (fun x _ h2 => o2 x (by omega))) (LW_one ?_)) (grow_S hS z2 o2) h
  show H1[a0 + Es.length]? = some (vp_cell (arr 0) (N, .inl (fun _ => 0)))
  rw [hq, e1]
  rfl
theorem g_newz {v : Int32} {N q : Nat} (hd : decode cc pc = .ok (.newarray .boolean, 2)) (hv : ¬ v < 0) (hN : v.toNatClampNeg = N) (hb4 : N * componentBytes (newarray.typeOf .boolean) ≤ 536870912) (hq : a0 + Es.length = q) (hc : k + 1 ≤ R.cells) (hs : n + N ≤ R.slots) {E2 : List va_E} (he : Es ++ [eB arr N] = E2) (kk : Gr own cc nL R D arr a0 Z QQ (pc + 2) ls (.ref q :: st) E2 (k + 1) (n + N)) : Gr own cc nL R D arr a0 Z QQ pc ls (.int v :: st) Es k n := by
  subst he
  intro p l e s m args below meth c H locs la C hz hP hS h
  obtain ⟨hx, hb, hr, hml, hown, hts, hlk, hK, hNs, hin, hsz, hZ⟩ := id C
  refine va_newaK (atype := .boolean) hx hb (hts _ wa_boolean) rfl hd rfl hv hN hb4 hc hs (hz.trans hq) (fun H1 cA e1 z1 o1 hAr hNm => ?_)
  have hcA : cA = arr 1 := Option.some.inj (hNm.symm.trans (hK.2 1 _ rfl).2)
  subst hcA
  have z2 : H1.size = H.size + 1 := by omega
  have o2 : ∀ q, q < H.size → H1[q]? = H[q]? := fun x hx => o1 x (by omega)
  refine kk p l e s m args below meth c H1 locs la C (by simp; omega) (LW_app (LW_kept hP (fun x _ h2 => o2 x (by omega))) (LW_one ?_)) (grow_S hS z2 o2) h
  show H1[a0 + Es.length]? = some (vp_cell (arr 1) (N, .inl (fun _ => 0)))
  rw [hq, e1]
  rfl
theorem g_newq {C : String} {v : Int32} {N q idx t : Nat} (hw : Cond.classLink own idx C ∈ WS) (hover : ∀ s, Nst s → va_AO C s) (htp : (tysA arr)[t]? = some (arr t, .object C)) (hd : decode cc pc = .ok (.anewarray idx, 3)) (hv : ¬ v < 0) (hN : v.toNatClampNeg = N) (hb4 : N * 4 ≤ 536870912) (hq : a0 + Es.length = q) (hc : k + 1 ≤ R.cells) (hs : n + N ≤ R.slots) {E2 : List va_E} (he : Es ++ [eQ arr t N (fun _ => none)] = E2) (kk : Gr own cc nL R D arr a0 Z QQ (pc + 3) ls (.ref q :: st) E2 (k + 1) (n + N)) : Gr own cc nL R D arr a0 Z QQ pc ls (.int v :: st) Es k n := by
  subst he
  intro p l e s m args below meth c H locs la Cx hz hP hS h
  obtain ⟨hx, hb, hr, hml, hown, hts, hlk, hK, hNs, hin, hsz, hZ⟩ := id Cx
  subst hN
  refine W.anew hx hb hown (hts _ hw) (va_AO.use (hover s hNs)) rfl hd rfl hv hb4 hc hs (fun cA kA comp f1 f2 f3 f4 => ?_)
  have hRA := (hK.2 t _ htp).2
  obtain ⟨kA2, comp2, -, -, -, g4⟩ := hRA
  have hcA : cA = arr t := Option.some.inj (f1.symm.trans g4)
  subst hcA
  generalize hH1 : H.push ({ cls := arr t, slots := Array.replicate v.toNatClampNeg .null, vm := .none } : Cell) = H1
  have z1 : H1.size = H.size + 1 := by rw [← hH1, Array.size_push]
  have e1 : H1[H.size]? = some (arrV (arr t) v.toNatClampNeg (fun _ => .null)) := by rw [← hH1, Array.getElem?_push_size, ← arrV_new]
  have o1 : ∀ q : Nat, q < H.size → H1[q]? = H[q]? := fun q hq => by rw [← hH1, Array.getElem?_push, if_neg (Nat.ne_of_lt hq)]
  refine W.eq (g2 := F0 m (pc + 3) la (.ref q :: st)) (by rw [← hq, ← hz]) ?_
  refine kk p l e s m args below meth c H1 locs la Cx (by simp; omega) (LW_app (LW_kept hP (fun x _ h2 => o1 x (by omega))) (LW_one ?_)) (grow_S hS z1 o1) h
  show H1[a0 + Es.length]? = some (vp_cell (arr t) (v.toNatClampNeg, .inr (.inr (.inr (.inr (fun _ => none))))))
  rw [← hz, e1]
  rfl
/-- a new object -/
theorem g_new {C : String} {T : u_T} {N ci idx q : Nat} {ty : Nat → FieldType} {dfl : List Value} (hin : ∀ w ∈ u_ws C T N, w ∈ WS) (hty : ∀ k, k < N → parseFieldDescriptor (T k).2.2.1 = some (ty k)) (hw : Cond.classLink own idx C ∈ WS) (hinst : Cond.instantiable C N ∈ WS) (hini : Cond.initialized C ∈ WS) (hcl : clX[ci]? = some (C, T, N)) (hfs : ∀ j, j < N → defaultValue (ty j) = vp_V dfl j) (hd : decode cc pc = .ok (.new idx, 3)) (hq : a0 + Es.length = q) (hc : k + 1 ≤ R.cells) (hs : n + N ≤ R.slots) {E2 : List va_E} (he : Es ++ [.inr (ci, dfl)] = E2) (kk : Gr own cc nL R D arr a0 Z QQ (pc + 3) ls (.ref q :: st) E2 (k + 1) (n + N)) : Gr own cc nL R D arr a0 Z QQ pc ls st Es k n := by
  subst he
  intro p l e s m args below meth c H locs la Cx hz hP hS h
  obtain ⟨hx, hb, hr, hml, hown, hts, hlk, hK, hNs, hi, hsz, hZ⟩ := id Cx
  have hKn := hK.1 ci _ hcl
  refine W.newcK hx hb hown (hts _ hw) (hts _ hinst) (hts _ hini) rfl hd hc hs hKn.2.1 (hz.trans hq) (fun H1 kC hkC e1 z1 o1 => ?_)
  have z2 : H1.size = H.size + 1 := by omega
  have o2 : ∀ q, q < H.size → H1[q]? = H[q]? := fun x hx => o1 x (by omega)
  refine W.eq (g2 := F0 m (pc + 3) la (.ref q :: st)) rfl ?_
  refine kk p l e s m args below meth c H1 locs la Cx (by simp; omega) (LW_app (LW_kept hP (fun x _ h2 => o2 x (by omega))) (LW_one ?_)) (grow_S hS z2 o2) h
  exact ⟨_, hcl, (u_born ty hts hin hKn hkC (by show H1[a0 + Es.length]? = _; rw [hq]; exact e1) hty).to hfs⟩
/-- behind a write the heap has the size that it had -/
theorem g_back {p : Program} {l : Launch} {e : Env} {s : State} {m : MethodId} {args : Array Value} {below : List Frame} {meth : Method} {c : Code} {H : Heap} {locs : List Loc} {la : Array Slot} (hk : Es.length = k + 1) (C : Gx own cc nL p s m args meth c D arr a0 (Z l)) (hP : va_P D clX (LW a0 Es) H) (hS : va_S (fun q => a0 ≤ q) s.heap H locs) (h : lv_has la nL ls) (kk : Gr own cc nL R D arr a0 Z QQ pc ls st Es k n) : W p l e R s m args below meth c H locs k n (QQ below args s) (F0 m pc la st) :=
  W_size (fun hz => kk p l e s m args below meth c H locs la C (by have h1 := LW_size hP hk; have h2 := C.2.2.2.2.2.2.2.2.2.2.1; omega) hP hS h)
/-- a field of the object that is made -/
theorem g_putF {C : String} {T : u_T} {N ci idx j : Nat} {ty : Nat → FieldType} {t1 : FieldType} {fs fs2 : List Value} {v : Value} {ref : String} (hin : ∀ w ∈ u_ws C T N, w ∈ WS) (hty : ∀ k, k < N → parseFieldDescriptor (T k).2.2.1 = some (ty k)) (hnm : ∀ a, a < N → ∀ b, b < N → a ≠ b → (T a).2.1 ≠ (T b).2.1) (hcl : clX[ci]? = some (C, T, N)) (hj : j < N) (hw : Cond.fieldLink own idx ref (T j).2.1 (T j).2.2.1 ∈ WS) (href : (T j).1 = ref) (hfin : (T j).2.2.2 = true) (hdecl : (T j).1 = own) (hd1 : parseFieldDescriptor (T j).2.2.1 = some t1) (hn1 : narrow t1 v = v) (hf1 : fits t1 v = true) (hl : j < fs.length) (hfs : fs.set j v = fs2) (hd : decode cc pc = .ok (.putfield idx, 3)) (hk : Er.length = k) (kk : Gr own cc nL R D arr a0 Z QQ (pc + 3) ls st (.inr (ci, fs2) :: Er) k n) : Gr own cc nL R D arr a0 Z QQ pc ls (v :: .ref a0 :: st) (.inr (ci, fs) :: Er) k n := by
  intro p l e s m args below meth c H locs la Cx hz hP hS h
  obtain ⟨hx, hb, hr, hml, hown, hts, hlk, hK, hNs, hi, hsz, hZ⟩ := id Cx
  subst hfs
  have hD := LW_D a0 (.inr (ci, fs) :: Er)
  refine va_putF (ref := ref) hx hb hts hin ty hty hnm hown hK hP hD hS 0 (fs := fs) (LW_get (a := a0) (j := 0) rfl) hcl j hj (hts _ hw) (fun x hx => by rw [← href]; exact hx) hfin hi hdecl hd1 hn1 hf1 hl hd (fun H1 locs1 hP1 hD1 hS1 => ?_)
  have hP2 : va_P D clX (LW a0 (.inr (ci, fs.set j v) :: Er)) H1 := by
    have e := LW_set a0 0 (.inr (ci, fs) :: Er) (.inr (ci, fs.set j v))
    rw [show (.inr (ci, fs.set j v) :: Er : List va_E) = (.inr (ci, fs) :: Er : List va_E).set 0 (.inr (ci, fs.set j v)) from rfl, ← e]
    exact hP1
  exact g_back (by simp [hk]) Cx hP2 hS1 h kk
theorem g_put {C : String} {T : u_T} {N ci idx j : Nat} {ty : Nat → FieldType} {t1 : FieldType} {fs fs2 : List Value} {v : Value} {ref : String} (hin : ∀ w ∈ u_ws C T N, w ∈ WS) (hty : ∀ k, k < N → parseFieldDescriptor (T k).2.2.1 = some (ty k)) (hnm : ∀ a, a < N → ∀ b, b < N → a ≠ b → (T a).2.1 ≠ (T b).2.1) (hcl : clX[ci]? = some (C, T, N)) (hj : j < N) (hw : Cond.fieldLink own idx ref (T j).2.1 (T j).2.2.1 ∈ WS) (href : (T j).1 = ref) (hfin : (T j).2.2.2 = false) (hd1 : parseFieldDescriptor (T j).2.2.1 = some t1) (hn1 : narrow t1 v = v) (hf1 : fits t1 v = true) (hl : j < fs.length) (hfs : fs.set j v = fs2) (hd : decode cc pc = .ok (.putfield idx, 3)) (hk : Er.length = k) (kk : Gr own cc nL R D arr a0 Z QQ (pc + 3) ls st (.inr (ci, fs2) :: Er) k n) : Gr own cc nL R D arr a0 Z QQ pc ls (v :: .ref a0 :: st) (.inr (ci, fs) :: Er) k n := by
  intro p l e s m args below meth c H locs la Cx hz hP hS h
  obtain ⟨hx, hb, hr, hml, hown, hts, hlk, hK, hNs, hi, hsz, hZ⟩ := id Cx
  subst hfs
  have hD := LW_D a0 (.inr (ci, fs) :: Er)
  refine va_put (ref := ref) hx hb hts hin ty hty hnm hown hK hP hD hS 0 (fs := fs) (LW_get (a := a0) (j := 0) rfl) hcl j hj (hts _ hw) (fun x hx => by rw [← href]; exact hx) hfin hd1 hn1 hf1 hl hd (fun H1 locs1 hP1 hD1 hS1 => ?_)
  have hP2 : va_P D clX (LW a0 (.inr (ci, fs.set j v) :: Er)) H1 := by
    have e := LW_set a0 0 (.inr (ci, fs) :: Er) (.inr (ci, fs.set j v))
    rw [show (.inr (ci, fs.set j v) :: Er : List va_E) = (.inr (ci, fs) :: Er : List va_E).set 0 (.inr (ci, fs.set j v)) from rfl, ← e]
    exact hP1
  exact g_back (by simp [hk]) Cx hP2 hS1 h kk
theorem g_get {C : String} {T : u_T} {N ci idx j : Nat} {fs : List Value} {v : Value} {ref : String} (hin : ∀ w ∈ u_ws C T N, w ∈ WS) (hcl : clX[ci]? = some (C, T, N)) (hj : j < N) (hw : Cond.fieldLink own idx ref (T j).2.1 (T j).2.2.1 ∈ WS) (href : (T j).1 = ref) (hv : fs[j]? = some v) (hd : decode cc pc = .ok (.getfield idx, 3)) (kk : Gr own cc nL R D arr a0 Z QQ (pc + 3) ls (v :: st) (.inr (ci, fs) :: Er) k n) : Gr own cc nL R D arr a0 Z QQ pc ls (.ref a0 :: st) (.inr (ci, fs) :: Er) k n := by
  refine g_step (fun p l e s m args below meth c H locs la Q C hP h kk => ?_) kk
  obtain ⟨hx, hb, hr, hml, hown, hts, hlk, hK, hNs, hi, hsz, hZ⟩ := C
  exact va_get (ref := ref) hx hb hts hin hown hK hP 0 (fs := fs) (LW_get (a := a0) (j := 0) rfl) hcl j hj (hts _ hw) (fun x hx => by rw [← href]; exact hx) hv hd kk
/-- a reference into a row of references -/
theorem g_aast {r : vw_C} {i : Int32} {iA iV t N ci : Nat} {f : Nat → Option Nat} {vs : List Value} {E2 : List va_E} (hA : Es[iA]? = some (eQ arr t N f)) (hV : Es[iV]? = some (.inr (ci, vs))) (htp : (tysA arr)[t]? = some (arr t, .object r.1)) (hcl : clX[ci]? = some r) (hi : vp_in i N) {ii : Nat} (hii : i.toNatClampNeg = ii) (he : Es.set iA (eQ arr t N (va_up f ii (some (a0 + iV)))) = E2) (hk : E2.length = k + 1) (hd : decode cc pc = .ok (.aastore, 1)) {qV qA : Nat} (hqV : qV = a0 + iV) (hqA : qA = a0 + iA) (kk : Gr own cc nL R D arr a0 Z QQ (pc + 1) ls st E2 k n) : Gr own cc nL R D arr a0 Z QQ pc ls (.ref qV :: .int i :: .ref qA :: st) Es k n := by
  intro p l e s m args below meth c H locs la Cx hz hP hS h
  obtain ⟨hx, hb, hr, hml, hown, hts, hlk, hK, hNs, hin, hsz, hZ⟩ := id Cx
  subst hii
  subst he
  subst hqV
  subst hqA
  refine va_astq hx hb hK hP (LW_D a0 Es) hS iA t iV ci (LW_get hA) htp (LW_get hV) hcl hi hd (fun H1 locs1 hP1 hD1 hS1 => ?_)
  have e := LW_set a0 iA Es (eQ arr t N (va_up f i.toNatClampNeg (some (a0 + iV))))
  exact g_back hk Cx (by rw [← e]; exact hP1) hS1 h kk
theorem pcG_blind {e0 : va_E} : FrameBlind (PcG D arr a0 e0) := by
  intro a U g mk ⟨h0, h1, h2, h3, h4⟩
  exact ⟨h0, h1, h2, va_K.moved (u := U) (U := U.calling g mk a) (Vm.Alike.refl U.vm) h3, Nst.same (s := U) (U := U.calling g mk a) rfl h4⟩
theorem pcG_at {s U : State} {H : Heap} {a1 ci : Nat} {dfl : List Value} (hz : H.size = a1 + 1) (hP : va_P D clX (LW a1 [.inr (ci, dfl)]) H) (hK : va_K D clX (tysA arr) s) (hN : Nst s) (hU : U.heap = H) (hW : s.WarmedH U.vm) : PcG D arr a1 (.inr (ci, dfl)) ([Value.ref a1] : List Value).toArray U :=
  ⟨rfl, by rw [hU]; exact hz, by rw [hU]; exact hP, va_K.moved hW.alike hK, hN.warm hW⟩
/-- the constructor of a part, behind its 'new' and 'dup' -/
theorem g_after {p : Program} {l : Launch} {e : Env} {s : State} {m : MethodId} {args : Array Value} {below : List Frame} {meth : Method} {c : Code} {H : Heap} {locs : List Loc} {la : Array Slot} {ci mc ms q : Nat} {dfl : List Value} {B : List Kd} (hq : a0 + Es.length = q) (C : Gx own cc nL p s m args meth c D arr a0 (Z l)) (hP : va_P D clX (LW a0 (Es ++ [.inr (ci, dfl)])) H) (hz : H.size = a0 + (Es ++ [(.inr (ci, dfl) : va_E)]).length) (hS : va_S (fun q => a0 ≤ q) s.heap H locs) (h : lv_has la nL ls)
    (hr : va_Run p l e R s m args below meth c H locs k n mc ms (F0 m pc la (.ref q :: st)) st (QcG D q (blkE D arr q B) ([Value.ref q] : List Value).toArray) (fun x => q ≤ x)) (kk : Gr own cc nL R D arr a0 Z QQ (pc + 3) ls st (Es ++ blkE D arr q B) (k + mc) (n + ms)) : W p l e R s m args below meth c H locs k n (QQ below args s) (F0 m pc la (.ref q :: st)) := by
  unfold QcG at hr
  have hq0 : ∀ x, q ≤ x → a0 ≤ x := fun x hx => by omega
  refine va_callv hr hS (fun x _ hx => hq0 x hx) hq0 (fun u t H1 locs1 ht hvm hw hB hz1 hk1 hS1 => ?_)
  obtain ⟨b1, b2⟩ := hB
  rw [ht] at b1 b2
  have hzq : H.size = q + 1 := by rw [hz]; simp; omega
  refine kk p l e s m args below meth c H1 locs1 la C ?_ (LW_app (LW_kept (LW_left hP) (fun x _ hx => hk1 x (by omega) (by omega))) (by rw [hq]; exact b2)) hS1 h
  rw [b1]
  simp
  omega
theorem g_initN {E1 E2 : List va_E} {md : MD} {d mc ms ci idx q : Nat} {host : String} {dfl : List Value} {B : List Kd} (hC : CtC md d mc ms ci dfl B) (hret : md.2.2.2 = none) (hw : mdW md) (hi : Cond.instanceMethod md.1 ∈ WS) (hn : md.1.name = "<init>") (hds : (parseMethodDescriptor md.1.desc).map (fun d => d.parameters.length) = some 0) (hlink : Cond.methodLinkNest own idx md.1 host ∈ nestW) (hmL : md.2.2.1 ≤ 45) (hf : d + 1 ≤ R.frames) (hlo : 64 + 64 * d ≤ R.locals) (hd : decode cc pc = .ok (.invokespecial idx, 3)) (hst : (st.map fun v => v.category).sum ≤ 8) (hq : a0 + Es.length = q) (hc : k + mc ≤ R.cells) (hs : n + ms ≤ R.slots) (h1 : Es ++ [.inr (ci, dfl)] = E1) (h2 : Es ++ blkE D arr q B = E2) (kk : Gr own cc nL R D arr a0 Z QQ (pc + 3) ls st E2 (k + mc) (n + ms)) : Gr own cc nL R D arr a0 Z QQ pc ls (.ref q :: st) E1 k n := by
  subst h1
  subst h2
  intro p l e s m args below meth c H locs la C hz hP hS h
  obtain ⟨hx, hb, hr, hml, hown, hts, hlk, hK, hNs, hin, hsz, hZ⟩ := id C
  have hM := hC l D arr q
  have hgood : GoodIn WS (Cond.code md.1 md.2.1 md.2.2.1 md.2.2.2 :: WS) := md_good hw
  rw [hret] at hM hgood
  have hPq : va_P D clX (LW q [.inr (ci, dfl)]) H := by rw [← hq]; exact LW_right hP
  have hzq : H.size = q + 1 := by rw [hz]; simp; omega
  refine g_after hq C hP hz hS h ?_ kk
  exact va_runIN (As := []) (b := q) (n := 0) ⟨hx, hb, hml, hown, hts⟩ hM ⟨va_cnB 0 hts hgood rfl rfl rfl (hNs.1 _ hlink) (hts _ hw.2.1) ⟨hw.2.2.1, hw.2.2.2, hds⟩ ⟨hf, by show 8 + (md.2.2.1 + 11) + 64 * d ≤ R.locals; omega⟩, hn, hts _ hi⟩ ⟨pcG_blind, fun U hU hW => pcG_at hzq hPq hK hNs hU hW⟩ rfl rfl h.1 rfl (lv_room hst) hd ⟨hc, hs⟩
theorem g_initM {E1 E2 : List va_E} {md : MD} {d mc ms ci idx q : Nat} {dfl : List Value} {B : List Kd} (hC : CtC md d mc ms ci dfl B) (hret : md.2.2.2 = none) (hw : mdW md) (hi : Cond.instanceMethod md.1 ∈ WS) (hn : md.1.name = "<init>") (hds : (parseMethodDescriptor md.1.desc).map (fun d => d.parameters.length) = some 0) (hlink : Cond.methodLink own idx md.1 ∈ WS) (hmL : md.2.2.1 ≤ 45) (hf : d + 1 ≤ R.frames) (hlo : 64 + 64 * d ≤ R.locals) (hd : decode cc pc = .ok (.invokespecial idx, 3)) (hst : (st.map fun v => v.category).sum ≤ 8) (hq : a0 + Es.length = q) (hc : k + mc ≤ R.cells) (hs : n + ms ≤ R.slots) (h1 : Es ++ [.inr (ci, dfl)] = E1) (h2 : Es ++ blkE D arr q B = E2) (kk : Gr own cc nL R D arr a0 Z QQ (pc + 3) ls st E2 (k + mc) (n + ms)) : Gr own cc nL R D arr a0 Z QQ pc ls (.ref q :: st) E1 k n := by
  subst h1
  subst h2
  intro p l e s m args below meth c H locs la C hz hP hS h
  obtain ⟨hx, hb, hr, hml, hown, hts, hlk, hK, hNs, hin, hsz, hZ⟩ := id C
  have hM := hC l D arr q
  have hgood : GoodIn WS (Cond.code md.1 md.2.1 md.2.2.1 md.2.2.2 :: WS) := md_good hw
  rw [hret] at hM hgood
  have hPq : va_P D clX (LW q [.inr (ci, dfl)]) H := by rw [← hq]; exact LW_right hP
  have hzq : H.size = q + 1 := by rw [hz]; simp; omega
  refine g_after hq C hP hz hS h ?_ kk
  exact va_runI (As := []) (b := q) (n := 0) ⟨hx, hb, hml, hown, hts⟩ hM ⟨callB_of 0 hts hgood rfl rfl rfl (hts _ hw.2.1) (hts _ hlink) ⟨hw.2.2.1, hw.2.2.2, hds⟩ ⟨hf, by show 8 + (md.2.2.1 + 11) + 64 * d ≤ R.locals; omega⟩, hn, hts _ hi⟩ ⟨pcG_blind, fun U hU hW => pcG_at hzq hPq hK hNs hU hW⟩ rfl rfl h.1 rfl (lv_room hst) hd ⟨hc, hs⟩
/-- the end of a constructor -/
theorem g_ret {Ef : List va_E} (hd : decode cc pc = .ok (.return_, 1)) (hlen : Es.length = Ef.length) (hconv : ∀ H, va_P D clX (LW a0 Es) H → va_P D clX (LW a0 Ef) H) : Gr own cc nL R D arr a0 Z (fun below args s => MQ below (QcG D a0 Ef) args s k n (fun q => a0 ≤ q)) pc ls [] Es k n := by
  intro p l e s m args below meth c H locs la C hz hP hS h
  obtain ⟨hx, hb, hr, hml, hown, hts, hlk, hK, hNs, hin, hsz, hZ⟩ := id C
  exact W.vret hx hb hr (fun t ht hW => ⟨⟨(), rfl, trivial, by rw [ht, ← hlen]; exact hz, by rw [ht]; exact hconv H hP⟩, hS.F ht⟩) hS.2.2 hd hlk
end GR
/-- a contract out of a walk -/
theorem ct_of {md : MD} {d mc ms ci : Nat} {dfl : List Value} {B : List Kd} (hp : plainName md.1.cls = true) (hn : md.1.name = "<init>") (hr : md.2.2.2 = none) (hm : 1 ≤ md.2.2.1) (h : ∀ (D : va_G) (arr : Nat → ClassId) (a0 : Nat), Gr md.1.cls md.2.1 md.2.2.1 (rmd d (mc, ms)) D arr a0 (fun _ _ => True) (fun below args s => MQ below (QcG D a0 (blkE D arr a0 B)) args s mc ms (fun q => a0 ≤ q)) 0 [(0, .ref a0)] [] [.inr (ci, dfl)] 0 0) : CtC md d mc ms ci dfl B := by
  intro l D arr a0
  rw [hr]
  refine Met.ofW (cc := md.2.1) (maxL := md.2.2.1) (ret := none) hp rfl ?_
  intro p e s m args below meth c s₁ Bd hml hv
  obtain ⟨rfl, hz, hP, hK, hN⟩ := hv
  have hts := atoms_spec (ws := Cond.code md.1 md.2.1 md.2.2.1 none :: WS) Bd.pre
  have hl := lv_entry ([.ref a0] : List Value) (n := md.2.2.1) hm
  rw [lg_entry_eq]
  exact h D arr a0 p l e s m _ below meth c s.heap [] _ ⟨Bd.exec, Bd.bytes, Bd.returns, hml, findClass_of_methodNamed Bd.named, fun w hw => hts w (List.mem_cons_of_mem _ hw), Bd.notSynchronized, hK, hN, (name_of_methodNamed Bd.named Bd.method).1.trans hn, hz, trivial⟩ (by rw [hz]; rfl) hP va_S.rf hl
