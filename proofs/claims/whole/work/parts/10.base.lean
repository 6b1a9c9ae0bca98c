/-! ===== the abstract machine: a world of numbered cells, and the judgement Cor that a method's code computes a pure function ===== -/
abbrev Mem : Type := Nat → Nat → Int32
abbrev AV : Type := Int32 ⊕ Nat
abbrev Kd : Type := Nat × Nat
/-- where cells lie, the classes' numbers, the array classes, the first address that is ours -/
abbrev Wp : Type := (Nat → Nat) × va_G × (Nat → ClassId) × Nat
def ix (i : Int32) : Nat := i.toNatClampNeg
abbrev inb (i : Int32) (n : Nat) : Prop := ¬ (i < 0 ∨ n ≤ ix i)
abbrev isB (x : Int32) : Prop := x = 0 ∨ x = 1
def up (M : Mem) (a i : Nat) (x : Int32) : Mem := fun b j => if b = a then (if j = i then x else M b j) else M b j
def upA (M : Mem) (a : Nat) (f : Nat → Int32) : Mem := fun b j => if b = a then f j else M b j
theorem up_A (M : Mem) (a i : Nat) (x : Int32) : up M a i x = upA M a (upd (M a) i x) := by
  funext b j
  by_cases h : b = a
  · subst h; simp [up, upA, upd]
  · simp [up, upA, h]
abbrev clX : List vw_C := [(RX0, TX0, 4), (RX1, TX1, 7), (RX2, TX2, 7), (RX3, TX3, 11), (RX4, TX4, 17), (RX5, TX5, 5), (RX6, TX6, 7), (RX7, TX7, 4), (RX8, TX8, 2), (RX9, TX9, 12), (RX10, TX10, 25)]
def nFl : List Nat := [4, 7, 7, 11, 17, 5, 7, 4, 2, 12, 25]
/-- what a field is: 0 an int, 1 a boolean, 2 a reference that changes, n + 3 the cell n places behind its object -/
def layT : List (List Nat) := [[4, 0, 5, 0], [4, 5, 6, 7, 0, 0, 0], [4, 2, 0, 0, 0, 0, 0], [1, 0, 4, 5, 0, 6, 7, 8, 9, 2, 2], [0, 0, 0, 4, 0, 0, 5, 6, 7, 8, 9, 10, 11, 12, 13, 14, 15], [4, 7, 15, 20, 1], [4, 5, 6, 7, 8, 9, 10], [4, 5, 6, 0], [4, 5], [4, 0, 0, 0, 5, 2, 2, 36, 56, 76, 0, 117], [0, 4, 5, 6, 7, 8, 9, 10, 0, 0, 0, 0, 0, 0, 0, 0, 11, 0, 0, 12, 13, 14, 15, 16, 0]]
def lay (ci k : Nat) : Nat := (layT.getD ci []).getD k 0
def fv (wp : Wp) (t ci : Nat) (f : Nat → Int32) (k : Nat) : Value := match lay ci k with
  | 0 => .int (f k)
  | 1 => .int (f k)
  | 2 => if f k < 0 then .null else .ref (wp.1 (ix (f k)))
  | n + 3 => .ref (wp.1 (t + n))
/-- a cell's contents by its kind: below 20 an object of that class, 20 ints, 21 booleans, 22 State[], 23 Times[] (rows of objects of a fixed size behind the array) -/
def ent (wp : Wp) (t : Nat) (kd : Kd) (f : Nat → Int32) : va_E :=
  if kd.1 < 20 then .inr (kd.1, (List.range (nFl.getD kd.1 0)).map (fv wp t kd.1 f))
  else if kd.1 < 22 then .inl (wp.2.2.1 (kd.1 - 20), kd.2, .inl f)
  else if kd.1 = 22 then .inl (wp.2.2.1 2, kd.2, .inr (.inr (.inr (.inr (fun j => some (wp.1 (t + (1 + 20 * j))))))))
  else .inl (wp.2.2.1 3, kd.2, .inr (.inr (.inr (.inr (fun j => some (wp.1 (t + (1 + 8 * j))))))))
def wl (KS : List Kd) (wp : Wp) (M : Mem) : va_W := KS.mapIdx (fun t kd => (wp.1 t, ent wp t kd (M t)))
abbrev tysW (wp : Wp) : List (ClassId × FieldType) := [(wp.2.2.1 0, .int), (wp.2.2.1 1, .boolean), (wp.2.2.1 2, .object RX5), (wp.2.2.1 3, .object RX6)]
theorem wl_get {KS : List Kd} {wp : Wp} {M : Mem} {t : Nat} {kd : Kd} (h : KS[t]? = some kd) : (wl KS wp M)[t]? = some (wp.1 t, ent wp t kd (M t)) := by
  simp [wl, h]
theorem wl_of {KS : List Kd} {wp : Wp} {M : Mem} {t : Nat} {q : Nat × va_E} (h : (wl KS wp M)[t]? = some q) : ∃ kd, KS[t]? = some kd ∧ q = (wp.1 t, ent wp t kd (M t)) := by
  cases hk : KS[t]? with
  | none => simp [wl, hk] at h
  | some kd =>
    rw [wl_get hk] at h
    exact ⟨kd, rfl, (Option.some.inj h).symm⟩
theorem wl_set {KS : List Kd} {wp : Wp} {M : Mem} {a : Nat} {kd : Kd} (h : KS[a]? = some kd) (f : Nat → Int32) : (wl KS wp M).set a (wp.1 a, ent wp a kd f) = wl KS wp (upA M a f) := by
  apply List.ext_getElem?
  intro k
  have ha : a < KS.length := (List.getElem?_eq_some_iff.mp h).1
  by_cases hk : k = a
  · subst hk
    rw [List.getElem?_set_self (by simpa [wl] using ha), wl_get h]
    have : upA M k f k = f := by funext j; simp [upA]
    rw [this]
  · rw [List.getElem?_set_ne (fun q => hk q.symm)]
    simp only [wl, List.getElem?_mapIdx]
    have : upA M a f k = M k := by funext j; simp [upA, hk]
    rw [this]
/-- the world's addresses are apart and ours -/
def okW (KS : List Kd) (wp : Wp) : Prop := (∀ i j : Nat, i < KS.length → j < KS.length → wp.1 i = wp.1 j → i = j) ∧ ∀ i : Nat, i < KS.length → wp.2.2.2 ≤ wp.1 i
/-- which cells a method may change -/
def Aw (KS : List Kd) (wp : Wp) (sz : Nat) : Nat → Prop := fun q => (∃ k : Nat, k < KS.length ∧ q = wp.1 k) ∨ sz ≤ q
def B0 (wp : Wp) : Nat → Prop := fun q => wp.2.2.2 ≤ q
theorem wl_D {KS : List Kd} {wp : Wp} (ok : okW KS wp) (M : Mem) (sz : Nat) : va_D (Aw KS wp sz) (wl KS wp M) := by
  have hlt : ∀ {k : Nat} {q : Nat × va_E}, (wl KS wp M)[k]? = some q → k < KS.length ∧ q.1 = wp.1 k := by
    intro k q h
    obtain ⟨kd, h1, h2⟩ := wl_of h
    exact ⟨(List.getElem?_eq_some_iff.mp h1).1, by rw [h2]⟩
  refine ⟨fun i j p q hp hq e => ?_, fun k q hq => ?_⟩
  · obtain ⟨a1, a2⟩ := hlt hp
    obtain ⟨b1, b2⟩ := hlt hq
    exact ok.1 i j a1 b1 (by rw [← a2, ← b2]; exact e)
  · obtain ⟨a1, a2⟩ := hlt hq
    exact Or.inl ⟨k, a1, a2⟩
theorem Aw_B0 {KS : List Kd} {wp : Wp} {sz : Nat} (ok : okW KS wp) (h : wp.2.2.2 ≤ sz) : ∀ q, Aw KS wp sz q → B0 wp q := by
  intro q hq
  rcases hq with ⟨k, h1, rfl⟩ | h1
  · exact ok.2 k h1
  · exact Nat.le_trans h h1
theorem Aw_mono {KS : List Kd} {wp : Wp} {sz sz2 : Nat} (h : sz ≤ sz2) : ∀ q, Aw KS wp sz2 q → Aw KS wp sz q := fun q hq => hq.elim Or.inl (fun h1 => Or.inr (Nat.le_trans h h1))
theorem va_D.wk {A B : Nat → Prop} {ws : va_W} (h : va_D A ws) (hAB : ∀ q, A q → B q) : va_D B ws := ⟨h.1, fun k q hq => hAB _ (h.2 k q hq)⟩
/-- a block of cells of these kinds from t on -/
def blkAt (KS : List Kd) (t : Nat) (B : List Kd) : Prop := ∀ i : Nat, i < B.length → KS[t + i]? = B[i]?
theorem blk_get {KS : List Kd} {t : Nat} {B : List Kd} (h : blkAt KS t B) {i : Nat} {kd : Kd} (hi : B[i]? = some kd) : KS[t + i]? = some kd := by
  rw [h i (List.getElem?_eq_some_iff.mp hi).1, hi]
theorem blk_sub {KS : List Kd} {t : Nat} {B : List Kd} (h : blkAt KS t B) {i : Nat} {C : List Kd} (hi : (B.drop i).take C.length = C) : blkAt KS (t + i) C := by
  intro j hj
  have hl : ((B.drop i).take C.length).length = C.length := by rw [hi]
  rw [List.length_take, List.length_drop] at hl
  have e : C[j]? = B[i + j]? := by
    rw [← hi, List.getElem?_take, List.getElem?_drop]
    simp [hi, hj]
  rw [e, Nat.add_assoc]
  exact h (i + j) (by omega)
theorem blk_of {KS : List Kd} {t : Nat} {B : List Kd} (h : (KS.drop t).take B.length = B) : blkAt KS t B := by
  intro j hj
  have e : B[j]? = KS[t + j]? := by
    rw [← h, List.getElem?_take, List.getElem?_drop]
    simp [h, hj]
  exact e.symm
def tr (wp : Wp) : AV → Value
  | .inl x => .int x
  | .inr k => .ref (wp.1 k)
theorem tr_cat (wp : Wp) (v : AV) : (tr wp v).category = 1 := by cases v <;> rfl
abbrev trs (wp : Wp) (st : List AV) : List Value := st.map (tr wp)
abbrev trl (wp : Wp) (ls : List (Nat × AV)) : List (Nat × Value) := ls.map (fun q => (q.1, tr wp q.2))
theorem trs_cat (wp : Wp) (st : List AV) : ((trs wp st).map fun v => v.category).sum = st.length := by
  induction st with
  | nil => rfl
  | cons v t ih => simp only [trs, List.map_cons, List.sum_cons, tr_cat, List.length_cons]; rw [show ((t.map (tr wp)).map fun v => v.category).sum = t.length from ih]; omega
/-- the locals -/
def lk : List (Nat × AV) → Nat → Option AV
  | [], _ => none
  | q :: l, i => match Nat.beq q.1 i with
    | true => some q.2
    | false => lk l i
def stl (ls : List (Nat × AV)) (i : Nat) (v : AV) : List (Nat × AV) := match ls with
  | [] => [(i, v)]
  | q :: l => match Nat.beq q.1 i with
    | true => (i, v) :: l
    | false => match Nat.ble i q.1 with
      | true => (i, v) :: q :: l.filter (fun z => !(Nat.beq z.1 i))
      | false => q :: stl l i v
/-- fewer of them: those whose numbers are listed -/
def kp (ls : List (Nat × AV)) (ks : List Nat) : List (Nat × AV) := ls.filter (fun q => ks.contains q.1)
theorem lk_mem {ls : List (Nat × AV)} {i : Nat} {v : AV} (h : lk ls i = some v) : (i, v) ∈ ls := by
  induction ls with
  | nil => cases h
  | cons q l ih =>
    unfold lk at h
    cases hb : Nat.beq q.1 i with
    | true =>
      rw [hb] at h
      cases h
      have := Nat.eq_of_beq_eq_true hb
      subst this
      exact List.mem_cons_self
    | false =>
      rw [hb] at h
      exact List.mem_cons_of_mem _ (ih h)
theorem stl_mem {ls : List (Nat × AV)} {i : Nat} {v : AV} (hnd : (ls.map (·.1)).Nodup) {q : Nat × AV} (h : q ∈ stl ls i v) : q = (i, v) ∨ (q ∈ ls ∧ q.1 ≠ i) := by
  induction ls with
  | nil => simp [stl] at h; exact Or.inl h
  | cons x l ih =>
    have hn := List.nodup_cons.mp hnd
    unfold stl at h
    cases hb : Nat.beq x.1 i with
    | true =>
      rw [hb] at h
      have hx := Nat.eq_of_beq_eq_true hb
      rcases List.mem_cons.mp h with h | h
      · exact Or.inl h
      · refine Or.inr ⟨List.mem_cons_of_mem _ h, fun e => hn.1 ?_⟩
        show x.1 ∈ List.map (fun x => x.1) l
        rw [hx, ← e]
        exact List.mem_map_of_mem (f := (·.1)) h
    | false =>
      rw [hb] at h
      have hxi : x.1 ≠ i := fun e => by
        have : Nat.beq x.1 i = true := by rw [e]; exact Nat.beq_refl i
        rw [this] at hb; cases hb
      cases hc : Nat.ble i x.1 with
      | true =>
        rw [hc] at h
        rcases List.mem_cons.mp h with h | h
        · exact Or.inl h
        · rcases List.mem_cons.mp h with h | h
          · exact Or.inr ⟨by rw [h]; exact List.mem_cons_self, by rw [h]; exact hxi⟩
          · obtain ⟨h1, h2⟩ := List.mem_filter.mp h
            refine Or.inr ⟨List.mem_cons_of_mem _ h1, fun e => ?_⟩
            rw [e, Nat.beq_refl] at h2; cases h2
      | false =>
        rw [hc] at h
        rcases List.mem_cons.mp h with h | h
        · exact Or.inr ⟨by rw [h]; exact List.mem_cons_self, by rw [h]; exact hxi⟩
        · rcases ih hn.2 h with h | ⟨h, h2⟩
          · exact Or.inl h
          · exact Or.inr ⟨List.mem_cons_of_mem _ h, h2⟩
def bnd {α : Type} (o : Option (Int32 × Mem)) (k : Int32 → Mem → Option α) : Option α := match o with
  | some (v, M) => k v M
  | none => none
theorem bnd_some {α : Type} (v : Int32) (M : Mem) (k : Int32 → Mem → Option α) : bnd (some (v, M)) k = k v M := rfl
theorem bnd_none {α : Type} (k : Int32 → Mem → Option α) : bnd none k = none := rfl
def bndX {α : Type} (o : Option ((Int32 ⊕ String) × Mem)) (k : Int32 → Mem → Option ((α ⊕ String) × Mem)) : Option ((α ⊕ String) × Mem) := match o with
  | some (.inl v, M) => k v M
  | some (.inr E, M) => some (.inr E, M)
  | none => none
/-- a loop: the body is given what goes on at its head -/
def loopC {σ ρ : Type} (body : (σ → Option ρ) → σ → Option ρ) : Nat → σ → Option ρ
  | 0, _ => none
  | n + 1, s => body (loopC body n) s
/-- what goes on over a written memory -/
def wrt {α : Type} (M : Mem) (k : Mem → Option α) : Option α := k M
