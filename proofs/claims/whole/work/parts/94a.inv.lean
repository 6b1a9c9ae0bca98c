/-! ===== what holds between calls ===== -/
def QA (a : Nat → Int32) : Nat := ix (a 1440)
def qbA (a : Nat → Int32) (k : Nat) : Nat := if k < 16 then ix (a (1441 + k)) else 0
def trT (a : Nat → Int32) : Nat → Int32 := fun j => if j < 160 then a j else 0
/-- a state of the class at st, the reference's array a; m calls were made -/
def IS (p : Nat → Int32) (nB : Nat) (M : Mem) (st : Nat) (a : Nat → Int32) (m : Nat) : Prop :=
  ∃ (n : Nat) (l : Nat → Nat) (T N U K : Nat), SR p M st a n l T N 0 (QA a) U ∧ ZB (ix (p 0)) a ∧ dB (st + 14) M ∧ QA a ≤ 16 ∧ (∀ k, k < QA a → qbA a k < nB ∧ a (1441 + k) = nI (qbA a k)) ∧ TB K a ∧ T ≤ m ∧ N + 480 * QA a ≤ 480 * m ∧ U + QA a ≤ m ∧ K + 690000 * QA a ≤ 690000 * m
noncomputable def qC (p : Nat → Int32) (qb : Nat → Nat) (o q : Nat) : Bool := decide (cfI p (qb o) (qb q) = 1)
/-- the best order of the queue -/
noncomputable def bst (p a : Nat → Int32) : Int32 × (Nat → Nat) := ol (qC p (qbA a)) (fun q x => spBatch p (qbA a q) x) (spLat (ix (p 0)) 255) (QA a) (QA a) (fun _ => false) (trT a)
def PL (p : Nat → Int32) (M : Mem) (a : Nat → Int32) : Prop := M 114 0 = 0 ∨ (M 114 0 = 1 ∧ QA a ≤ 6 ∧ M 114 1 = (bst p a).1 ∧ ∀ i, i < QA a → M 115 i = nI ((bst p a).2 i))
def TX (Mx Mm : Mem) : Prop := ∃ L, L ≤ 900 ∧ Mx 0 1 = nI L ∧ Mm 0 8 = nI L ∧ ∀ i, i < 900 → Mx 1 i = Mm 7 i ∧ ∃ y, y < 256 ∧ Mm 7 i = nI y
/-- what is saved in slot s -/
def SL (p : Nat → Int32) (nB : Nat) (Mx Mm : Mem) (m s : Nat) : Prop := isB (Mm 4 s) ∧ (bit (Mx 0 10) s = true ↔ Mm 4 s = 1) ∧ (Mm 4 s = 1 → IS p nB Mx (74 + 20 * s) (fun j => Mm 2 (1671 * s + j)) m)
def PG (Mx Mm : Mem) (pr nB : Nat) : Prop := PP Mx pr ∧ (pr = 7 ∨ pr = 20) ∧ Mx 0 6 = nI (27 - pr) ∧ PR Mx pr (Mm 5) nB ∧ WFt (Mm 5)
def Inv (m : Nat) (Mx Mm : Mem) : Prop := ∃ pr nB, PG Mx Mm pr nB ∧ IS (Mm 5) nB Mx 33 (Mm 1) m ∧ (∀ s, s < 2 → SL (Mm 5) nB Mx Mm m s) ∧ (∃ k, k < 4 ∧ Mx 0 10 = nI k) ∧ TX Mx Mm ∧ (Mx 0 2 = Mm 0 14 ∧ Mx 0 3 = Mm 0 15) ∧ PL (Mm 5) Mx (Mm 1)
theorem qbA_cg {a b : Nat → Int32} (h : ∀ j, 1440 ≤ j → j < 1457 → b j = a j) : qbA b = qbA a ∧ QA b = QA a := by
  constructor
  · funext k
    unfold qbA
    split
    · rw [h _ (by omega) (by omega)]
    · rfl
  · unfold QA
    rw [h _ (by omega) (by omega)]
theorem trT_cg {a b : Nat → Int32} (h : ∀ j, j < 160 → b j = a j) : trT b = trT a := by
  funext j
  unfold trT
  split
  · exact h j (by assumption)
  · rfl
theorem bst_cg {p a b : Nat → Int32} (h1 : ∀ j, j < 160 → b j = a j) (h2 : ∀ j, 1440 ≤ j → j < 1457 → b j = a j) : bst p b = bst p a := by
  unfold bst
  rw [(qbA_cg h2).1, (qbA_cg h2).2, trT_cg h1]
theorem PL.of {p : Nat → Int32} {M M2 : Mem} {a b : Nat → Int32} (h : PL p M a) (e0 : M2 114 = M 114) (e1 : M2 115 = M 115) (h1 : ∀ j, j < 160 → b j = a j) (h2 : ∀ j, 1440 ≤ j → j < 1457 → b j = a j) : PL p M2 b := by
  unfold PL
  rw [bst_cg h1 h2, (qbA_cg h2).2, e0, e1]
  exact h
theorem SR.of {p : Nat → Int32} {M M2 : Mem} {st : Nat} {a a2 : Nat → Int32} {n : Nat} {l : Nat → Nat} {T N Q U : Nat} (h : SR p M st a n l T N 0 Q U) (h28 : ix (p 2) ≤ 8) (hQ : Q ≤ 16) (e : ∀ c, st ≤ c → c ≤ st + 19 → M2 c = M c) (ea : ∀ j, j < 1671 → a2 j = a j) : SR p M2 st a2 n l T N 0 Q U := by
  obtain ⟨hR, hC, hT, hau, hau2, hn, hA, hnC⟩ := h
  refine ⟨rv_a hR (e _ (by omega) (by omega)) (e _ (by omega) (by omega)) (fun j h1 h2 => ea j (by omega)), hC.of (fun c h1 h2 => e c (by omega) (by omega)) (fun j h1 h2 => ea j (by omega)) h28, ?_, ?_, ?_, hn.of (fun b hb => ea _ (by omega)), ?_, hnC⟩
  · rw [setT_congr M2 (st + 4) (fun j hj => ea j (by omega))]
    exact setT_of hT (fun c h1 h2 => e c (by omega) (by omega))
  · rw [e st (by omega) (by omega), ea _ (by omega)]; exact hau
  · rw [ea _ (by omega)]; exact hau2
  · obtain ⟨g1, g2, g3, g4, g5, g6⟩ := hA
    exact ⟨by rw [e _ (by omega) (by omega)]; exact g1, by rw [ea _ (by omega)]; exact g2, fun i hi => by rw [e _ (by omega) (by omega), ea _ (by omega)]; exact g3 i hi, by rw [e _ (by omega) (by omega)]; exact g4, by rw [ea _ (by omega)]; exact g5, fun i hi => by rw [e _ (by omega) (by omega), ea _ (by omega)]; exact g6 i hi⟩
theorem IS.of {p : Nat → Int32} {nB : Nat} {M M2 : Mem} {st : Nat} {a a2 : Nat → Int32} {m m2 : Nat} (h : IS p nB M st a m) (h28 : ix (p 2) ≤ 8) (hm : m ≤ m2) (e : ∀ c, st ≤ c → c ≤ st + 19 → M2 c = M c) (ea : ∀ j, j < 1671 → a2 j = a j) : IS p nB M2 st a2 m2 := by
  obtain ⟨n, l, T, N, U, K, hS, hZ, hd, hQ, hq, hK, b1, b2, b3, b4⟩ := h
  obtain ⟨eq, eQ⟩ := qbA_cg (a := a) (b := a2) (fun j h1 h2 => ea j (by omega))
  have h0 : ix (p 0) = ix (p 0) := rfl
  refine ⟨n, l, T, N, U, K, ?_, ?_, dB_of hd (e _ (by omega) (by omega)), by rw [eQ]; exact hQ, ?_, hK.of (fun j hj => ea j (by omega)), by omega, by rw [eQ]; omega, by rw [eQ]; omega, by rw [eQ]; omega⟩
  · rw [eQ]; exact hS.of h28 hQ e ea
  · intro b h1 h2
    obtain ⟨z1, z2⟩ := hZ b h1 h2
    exact ⟨by rw [ea _ (by omega)]; exact z1, fun r hr => by rw [ea _ (by omega)]; exact z2 r hr⟩
  · rw [eQ, eq]
    exact fun k hk => ⟨(hq k hk).1, by rw [ea _ (by omega)]; exact (hq k hk).2⟩
theorem SL.of {p : Nat → Int32} {nB : Nat} {Mx Mm Mx2 Mm2 : Mem} {m m2 s : Nat} (h : SL p nB Mx Mm m s) (h28 : ix (p 2) ≤ 8) (hs : s < 2) (hm : m ≤ m2) (e0 : Mx2 0 10 = Mx 0 10) (e : ∀ c, 74 ≤ c → c ≤ 113 → Mx2 c = Mx c) (e4 : Mm2 4 = Mm 4) (e2 : Mm2 2 = Mm 2) : SL p nB Mx2 Mm2 m2 s := by
  obtain ⟨h1, h2, h3⟩ := h
  refine ⟨by rw [e4]; exact h1, by rw [e0, e4]; exact h2, fun h4 => ?_⟩
  rw [e4] at h4
  refine (h3 h4).of h28 hm (fun c c1 c2 => e c (by omega) (by omega)) (fun j hj => by rw [e2])
theorem PG.of {Mx Mm Mx2 Mm2 : Mem} {pr nB : Nat} (h : PG Mx Mm pr nB) (e5 : Mx2 0 5 = Mx 0 5) (e6 : Mx2 0 6 = Mx 0 6) (e : ∀ c, 7 ≤ c → c ≤ 32 → Mx2 c = Mx c) (em : Mm2 5 = Mm 5) : PG Mx2 Mm2 pr nB := by
  obtain ⟨h1, h2, h3, h4, h5⟩ := h
  unfold PG PP
  rw [e5, e6, em]
  refine ⟨h1, h2, h3, h4.of (fun k hk => e _ (by omega) (by omega)), h5⟩
theorem PG.c8 {Mx Mm : Mem} {pr nB : Nat} (h : PG Mx Mm pr nB) : ix (Mm 5 2) ≤ 8 := by
  obtain ⟨-, -, -, ⟨hs, -⟩, -⟩ := h
  exact hs.2.2.2.2.2.2.2.2.1
/-- nothing that is seen has changed -/
theorem Inv.keep {m m2 : Nat} {Mx Mm Mx2 Mm2 : Mem} (h : Inv m Mx Mm) (hm : m ≤ m2) (e : ∀ c, c ≤ 1 ∨ (7 ≤ c ∧ c ≤ 52) ∨ (74 ≤ c ∧ c ≤ 115) → Mx2 c = Mx c) (f : ∀ c, c = 1 ∨ c = 2 ∨ c = 4 ∨ c = 5 ∨ c = 7 → Mm2 c = Mm c) (f8 : Mm2 0 8 = Mm 0 8) (f14 : Mm2 0 14 = Mm 0 14) (f15 : Mm2 0 15 = Mm 0 15) : Inv m2 Mx2 Mm2 := by
  obtain ⟨pr, nB, hP, hS, hL, hk, hT, hE, hpl⟩ := h
  have e0 : Mx2 0 = Mx 0 := e 0 (by omega)
  have g5 : Mm2 5 = Mm 5 := f 5 (by omega)
  have g1 : Mm2 1 = Mm 1 := f 1 (by omega)
  refine ⟨pr, nB, hP.of (by rw [e0]) (by rw [e0]) (fun c h1 h2 => e c (by omega)) g5, ?_, fun s hs => ?_, by rw [e0]; exact hk, ?_, ?_, ?_⟩
  · rw [g5, g1]; exact hS.of hP.c8 hm (fun c h1 h2 => e c (by omega)) (fun _ _ => rfl)
  · rw [g5]; exact (hL s hs).of hP.c8 hs hm (by rw [e0]) (fun c h1 h2 => e c (by omega)) (f 4 (by omega)) (f 2 (by omega))
  · obtain ⟨L, l1, l2, l3, l4⟩ := hT
    exact ⟨L, l1, by rw [e0]; exact l2, by rw [f8]; exact l3, fun i hi => by rw [e 1 (by omega), f 7 (by omega)]; exact l4 i hi⟩
  · rw [e0, f14, f15]; exact hE
  · rw [g5, g1]; exact hpl.of (e _ (by omega)) (e _ (by omega)) (fun _ _ => rfl) (fun _ _ _ => rfl)
/-- the state is another one; times and queue are the same, or the plan is forgotten -/
theorem Inv.state {m : Nat} {Mx Mm Mx2 Mm2 : Mem} {a2 : Nat → Int32} (h : Inv m Mx Mm) (hS : ∀ pr nB, PG Mx Mm pr nB → IS (Mm 5) nB Mx2 33 a2 (m + 1)) (e : ∀ c, c ≤ 1 ∨ (7 ≤ c ∧ c ≤ 32) ∨ (74 ≤ c ∧ c ≤ 113) → Mx2 c = Mx c) (f1 : Mm2 1 = a2) (f : ∀ c, c = 2 ∨ c = 4 ∨ c = 5 ∨ c = 7 → Mm2 c = Mm c) (f8 : Mm2 0 8 = Mm 0 8) (f14 : Mm2 0 14 = Mm 0 14) (f15 : Mm2 0 15 = Mm 0 15) (hpl : Mx2 114 0 = 0 ∨ (Mx2 114 = Mx 114 ∧ Mx2 115 = Mx 115 ∧ (∀ j, j < 160 → a2 j = Mm 1 j) ∧ ∀ j, 1440 ≤ j → j < 1457 → a2 j = Mm 1 j)) : Inv (m + 1) Mx2 Mm2 := by
  obtain ⟨pr, nB, hP, -, hL, hk, hT, hE, hpl0⟩ := h
  have e0 : Mx2 0 = Mx 0 := e 0 (by omega)
  have g5 : Mm2 5 = Mm 5 := f 5 (by omega)
  refine ⟨pr, nB, hP.of (by rw [e0]) (by rw [e0]) (fun c h1 h2 => e c (by omega)) g5, ?_, fun s hs => ?_, by rw [e0]; exact hk, ?_, ?_, ?_⟩
  · rw [g5, f1]; exact hS pr nB hP
  · rw [g5]; exact (hL s hs).of hP.c8 hs (by omega) (by rw [e0]) (fun c h1 h2 => e c (by omega)) (f 4 (by omega)) (f 2 (by omega))
  · obtain ⟨L, l1, l2, l3, l4⟩ := hT
    exact ⟨L, l1, by rw [e0]; exact l2, by rw [f8]; exact l3, fun i hi => by rw [e 1 (by omega), f 7 (by omega)]; exact l4 i hi⟩
  · rw [e0, f14, f15]; exact hE
  · rw [g5, f1]
    rcases hpl with z | ⟨z1, z2, z3, z4⟩
    · exact Or.inl z
    · exact hpl0.of z1 z2 z3 z4
/-! the answers of a call -/
def Ans (r : Int32 ⊕ String) (v th : Int32) (cs : List String) : Prop := (∃ x, r = .inl x ∧ th = 0 ∧ v = x) ∨ (∃ k E, r = .inr E ∧ cs[k]? = some E ∧ th = nI (k + 1))
def CallR (m : Nat) (cs : List String) (fx : Option ((Int32 ⊕ String) × Mem)) (fm : Option (Int32 × Mem)) : Prop := ∃ r Mx2 v Mm2, fx = some (r, Mx2) ∧ fm = some (v, Mm2) ∧ Inv (m + 1) Mx2 Mm2 ∧ Ans r v (Mm2 0 0) cs
def CallN (m : Nat) (fx : Option (Int32 × Mem)) (fm : Option (Int32 × Mem)) : Prop := ∃ x Mx2 Mm2, fx = some (x, Mx2) ∧ fm = some (x, Mm2) ∧ Inv (m + 1) Mx2 Mm2
abbrev eIO : String := "java/lang/IndexOutOfBoundsException"
abbrev eIA : String := "java/lang/IllegalArgumentException"
abbrev eIS : String := "java/lang/IllegalStateException"
abbrev eNS : String := "java/util/NoSuchElementException"
theorem Inv.th {m m2 : Nat} {Mx Mm : Mem} (h : Inv m Mx Mm) (hm : m ≤ m2) (x : Int32) : Inv m2 Mx (up Mm 0 0 x) :=
  h.keep hm (fun _ _ => rfl) (fun c hc => up_a _ _ _ (by omega)) (up_i _ _ (by decide)) (up_i _ _ (by decide)) (up_i _ _ (by decide))
theorem Inv.next {m : Nat} {Mx Mm : Mem} (h : Inv m Mx Mm) : Inv (m + 1) Mx Mm := h.keep (by omega) (fun _ _ => rfl) (fun _ _ => rfl) rfl rfl rfl
theorem inv_0 {m : Nat} {Mx Mm : Mem} (h : Inv m Mx Mm) : ∃ M1, up Mm 0 0 0 = M1 ∧ M1 0 0 = 0 ∧ Inv m Mx M1 := ⟨_, rfl, up_eq _ _ _ _, h.th (Nat.le_refl _) 0⟩
theorem stp_ok {m : Nat} {cs : List String} {fx : Option ((Int32 ⊕ String) × Mem)} {fm : Option (Int32 × Mem)} (x : Int32) (Mx2 Mm2 : Mem) (h1 : fx = some (rOk x, Mx2)) (h2 : fm = some (x, Mm2)) (h3 : Mm2 0 0 = 0) (h4 : Inv (m + 1) Mx2 Mm2) : CallR m cs fx fm := ⟨_, Mx2, x, Mm2, h1, h2, h4, Or.inl ⟨x, rfl, h3, rfl⟩⟩
theorem stp_ex {m : Nat} {cs : List String} {fx : Option ((Int32 ⊕ String) × Mem)} {fm : Option (Int32 × Mem)} (k : Nat) (E : String) {v : Int32} {Mx2 M1 : Mem} (hE : cs[k]? = some E) (h1 : fx = some (rEx E, Mx2)) (h2 : fm = some (v, up M1 0 0 (nI (k + 1)))) (h4 : Inv m Mx2 M1) : CallR m cs fx fm := ⟨_, Mx2, v, _, h1, h2, h4.th (by omega) _, Or.inr ⟨k, E, rfl, hE, up_eq _ _ _ _⟩⟩
/-! ranges -/
def okN (x : Int32) (n : Nat) : Prop := ∃ k, k < n ∧ x = nI k
theorem okN_F {x : Int32} {n : Nat} (h : ¬ okN x n) (hx : ¬ x < 0) : ¬ x < nI n := by
  intro z
  obtain ⟨e1, e2⟩ := nn_ix hx
  refine h ⟨ix x, ?_, e1⟩
  by_cases q : ix x < n
  · exact q
  · exfalso
    rw [e1] at z
    by_cases hn : n < 2147483648
    · exact nI_nlt (by omega) e2 z
    · omega
theorem rq_T {α : Type} {E T : α} {x : Int32} {n : Nat} (h : okN x n) (hn : n < 2147483648) : (if x < 0 then E else if x < nI n then T else E) = T := by
  obtain ⟨k, hk, rfl⟩ := h
  rw [if_neg (nI_pos (by omega)), if_pos (nI_lt hk hn)]
theorem rq_F {α : Type} {E T : α} {x : Int32} {n : Nat} (h : ¬ okN x n) : (if x < 0 then E else if x < nI n then T else E) = E := by
  by_cases q : x < 0
  · rw [if_pos q]
  · rw [if_neg q, if_neg (okN_F h q)]
theorem le_pred {x : Int32} {k : Nat} (hk : k < 2147483648) (hx : ¬ x < 0) : x ≤ nI k - 1 ↔ x < nI k := by
  obtain ⟨e1, e2⟩ := nn_ix hx
  rw [e1]
  by_cases z : k = 0
  · subst z
    constructor
    · intro h
      exfalso
      have : (nI (ix x)).toInt ≤ -1 := i32_le.mp h
      have h2 : ¬ nI (ix x) < 0 := nI_pos e2
      exact h2 (i32_lt.mpr (by show (nI (ix x)).toInt < 0; omega))
    · intro h
      exact absurd h (nI_nlt (Nat.zero_le _) e2)
  · have e : nI k - 1 = nI (k - 1) := ss (a := k) (b := 1) (by omega)
    rw [e]
    constructor
    · intro h
      by_cases q : ix x ≤ k - 1
      · exact nI_lt (by omega) hk
      · exact absurd h (nI_ge (by omega) e2)
    · intro h
      by_cases q : ix x < k
      · exact nI_le (by omega) (by omega)
      · exact absurd h (nI_nlt (by omega) e2)
theorem m_in_T {x : Int32} {n : Nat} (h : okN x n) (hn : n < 2147483648) : p_X10_isIn x 0 (nI n - 1) = 1 := by
  obtain ⟨k, hk, rfl⟩ := h
  exact m_isIn_T (i32_nlt.mp (nI_pos (by omega))) ((le_pred hn (nI_pos (by omega))).mpr (nI_lt hk hn))
theorem m_in_F {x : Int32} {n : Nat} (h : ¬ okN x n) (hn : n < 2147483648) : p_X10_isIn x 0 (nI n - 1) = 0 := by
  refine m_isIn_F (fun ⟨h1, h2⟩ => ?_)
  have h3 : ¬ x < 0 := i32_nlt.mpr h1
  exact okN_F h h3 ((le_pred hn h3).mp h2)
