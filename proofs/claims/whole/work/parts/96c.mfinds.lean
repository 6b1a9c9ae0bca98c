/-! ===== the reference finds the best order ===== -/
section OP
variable {α : Type} {C : Nat → Nat → Bool} {stp : Nat → α → α} {fin : α → Int32} {Q : Nat}
theorem ol_pos : ∀ n (S : Nat → Bool) (a : α), (ol C stp fin Q n S a).1 < 2147483647 → ∀ i, i < n → (ol C stp fin Q n S a).2 i < Q := by
  intro n
  induction n with
  | zero => intro S a _ i hi; omega
  | succ n ih =>
    intro S a
    rw [ol_s]
    have key : ∀ k, k ≤ Q → (olk C stp fin Q n S a k).1 < 2147483647 → ∀ i, i < n + 1 → (olk C stp fin Q n S a k).2 i < Q := by
      intro k
      induction k with
      | zero => intro _ h; exact absurd h Int32.lt_irrefl
      | succ k ihk =>
        intro hk
        rw [olk_s]
        split
        · intro h i hi
          show csq k _ i < Q
          unfold csq
          split
          · omega
          · exact ih _ _ h _ (by omega)
        · exact ihk (by omega)
    exact key Q (Nat.le_refl _)
end OP
section MF
variable {Mx Mm : Mem} {m : Nat}
theorem cfI_01 (p : Nat → Int32) (x y : Nat) : cfI p x y = 0 ∨ cfI p x y = 1 := by
  unfold cfI
  split
  · exact Or.inr rfl
  · exact Or.inl rfl
theorem trT_lo (a : Nat → Int32) {j : Nat} (hj : j < 160) : trT a j = a j := if_pos hj
/-- what the search needs -/
theorem PG.ct {pr nB : Nat} (hm : m < 512) (hP : PG Mx Mm pr nB) (hS : IS (Mm 5) nB Mx 33 (Mm 1) m) (h6 : QA (Mm 1) ≤ 6) : CT (Mm 5) (qbA (Mm 1)) (QA (Mm 1)) ∧ JJ (Mm 5) (QA (Mm 1)) (trT (Mm 1)) := by
  obtain ⟨n, l, T, N, U, K, ⟨-, -, -, -, -, hn, -⟩, hZ, -, -, hq, hK, b1, b2, b3, b4⟩ := hS
  refine ⟨⟨hP.ws, hP.2.2.2.2, h6, fun k hk => (hP.bt _ (hq k hk).1).1, fun k hk a b N2 hn2 hN2 h => ?_⟩, h6, ?_, ?_, ?_⟩
  · exact spBatch_cg hP.ws (hP.bt _ (hq k hk).1).1 (hP.bt _ (hq k hk).1).2.1 hP.2.2.2.1.2.1 hn2 hN2 h
  · exact (hn.mono (by omega)).of (fun b hb => trT_lo _ (by omega))
  · exact (hK.mono (by omega)).of (fun j hj => trT_lo _ hj)
  · intro b z1 z2
    obtain ⟨y1, y2⟩ := hZ b z1 z2
    exact ⟨by rw [trT_lo _ (by omega)]; exact y1, fun r hr => by rw [trT_lo _ (by omega)]; exact y2 r hr⟩
/-- there is a best order, and it is one of positions -/
theorem cntF_no (n : Nat) : cntF (fun _ => false) n = n := by
  induction n with
  | zero => rfl
  | succ n ih =>
    have e : cntF (fun _ => false) (n + 1) = cntF (fun _ => false) n + 1 := rfl
    rw [e, ih]
theorem olP_ok {p : Nat → Int32} {qb : Nat → Nat} {Q : Nat} {x : Nat → Int32} (hct : CT p qb Q) (hJ : JJ p Q x) : (olP p qb Q Q (fun _ => false) x).1 < 2147483647 ∧ 0 ≤ (olP p qb Q Q (fun _ => false) x).1 ∧ ∀ i, i < Q → (olP p qb Q Q (fun _ => false) x).2 i < Q := by
  have s1 : ∀ n q y, q < Q → JJ p (n + 1) y → JJ p n (spBatch p (qb q) y) := fun n q y hq hj => (JJ_s hct hj hq).1
  have s2 : ∀ n y, JJ p n y → spLat (ix (p 0)) 255 y < 2147483647 := fun n y hj => (JJ_lt hct.1 hj).1
  have s3 : ∀ n q y, q < Q → JJ p (n + 1) y → JJ p n (spBatch p (qb q) y) ∧ spLat (ix (p 0)) 255 y ≤ spLat (ix (p 0)) 255 (spBatch p (qb q) y) := fun n q y hq hj => JJ_s hct hj hq
  have h0 : 0 ≤ spLat (ix (p 0)) 255 x := (JJ_lt hct.1 hJ).2
  unfold olP
  generalize JJ p = J at *
  generalize spLat (ix (p 0)) 255 = fin at *
  have h1 := ol_lt (C := qC p qb) (stp := fun q y => spBatch p (qb q) y) (fin := fin) (Q := Q) (J := J) s1 s2 Q (fun _ => false) x hJ (cntF_no Q)
  have h2 := ol_fin (C := qC p qb) (stp := fun q y => spBatch p (qb q) y) (fin := fin) (Q := Q) (J := J) s3 Q (fun _ => false) x hJ
  have h3 := ol_pos (C := qC p qb) (stp := fun q y => spBatch p (qb q) y) (fin := fin) (Q := Q) Q (fun _ => false) x h1
  exact ⟨h1, Int32.le_trans h0 h2, h3⟩
theorem bst_ok {p : Nat → Int32} {a : Nat → Int32} (hct : CT p (qbA a) (QA a)) (hJ : JJ p (QA a) (trT a)) : (bst p a).1 < 2147483647 ∧ 0 ≤ (bst p a).1 ∧ ∀ i, i < QA a → (bst p a).2 i < QA a := by
  unfold bst
  exact olP_ok hct hJ
theorem m_bef {p : Nat → Int32} {qb : Nat → Nat} {Q : Nat} {M : Mem} (hct : CT p qb Q) (h5 : M 5 = p) (hq0 : M 1 1440 = nI Q) (hq : ∀ q, q < Q → M 1 (1441 + q) = nI (qb q)) : ∃ M2, f_X10_finds M = wrt (up M2 0 24 (-1)) (fun M2 => bnd (f_X10_tries 8 0 0 M2) (fun _ M4 => some (M4 0 24, M4))) ∧ (∀ q, q < Q → MK (M2 13 q) (bfS (qC p qb) q)) ∧ (∀ c, c ≠ 0 → c ≠ 13 → M2 c = M c) ∧ (∀ j, j ≠ 17 → j ≠ 18 → M2 0 j = M 0 j) := by
  obtain ⟨hs, -, h6, hwb, -⟩ := hct
  unfold f_X10_finds
  have X := loop_inv (body := l_X10_finds_2) (init := (0, M)) (Q := fun res => ∃ M2, res = wrt (up M2 0 24 (-1)) (fun M2 => bnd (f_X10_tries 8 0 0 M2) (fun _ M4 => some (M4 0 24, M4))) ∧ (∀ q, q < Q → MK (M2 13 q) (bfS (qC p qb) q)) ∧ (∀ c, c ≠ 0 → c ≠ 13 → M2 c = M c) ∧ (∀ j, j ≠ 17 → j ≠ 18 → M2 0 j = M 0 j)) Q (fun k s => s.1 = nI k ∧ (∀ q, q < k → MK (s.2 13 q) (bfS (qC p qb) q)) ∧ (∀ c, c ≠ 0 → c ≠ 13 → s.2 c = M c) ∧ (∀ j, j ≠ 17 → j ≠ 18 → s.2 0 j = M 0 j)) ⟨rfl, fun q hq => by omega, fun _ _ _ => rfl, fun _ _ _ => rfl⟩ (by omega) ?_ ?_
  · obtain ⟨res, ⟨M2, er, rest⟩, el⟩ := X
    exact ⟨M2, by rw [el, er], rest⟩
  · rintro k hk ⟨y, M1⟩ ⟨hy, B1, F1, Z1⟩
    have hy : y = nI k := hy
    subst hy
    have B1 : ∀ q, q < k → MK (M1 13 q) (bfS (qC p qb) q) := B1
    have F1 : ∀ c, c ≠ 0 → c ≠ 13 → M1 c = M c := F1
    have Z1 : ∀ j, j ≠ 17 → j ≠ 18 → M1 0 j = M 0 j := Z1
    -- the inner loop, for whatever goes on
    have inner : ∃ M2, (∀ K2, loopC (l_X10_finds_23 (nI k) K2) fuelL (0, up M1 13 k 0) = K2 (nI (k + 1), M2)) ∧ (∀ q, q < k + 1 → MK (M2 13 q) (bfS (qC p qb) q)) ∧ (∀ c, c ≠ 0 → c ≠ 13 → M2 c = M c) ∧ (∀ j, j ≠ 17 → j ≠ 18 → M2 0 j = M 0 j) := by
      obtain ⟨f, f0, fI, fR⟩ := seq_of (σ := Mem) (fun o s => MK (s 13 k) (fun i => decide (i < o) && qC p qb i k) ∧ (∀ q, q < k → MK (s 13 q) (bfS (qC p qb) q)) ∧ (∀ c, c ≠ 0 → c ≠ 13 → s c = M c) ∧ (∀ j, j ≠ 17 → j ≠ 18 → s 0 j = M 0 j)) (fun o s s2 => ∀ K2 K : Int32 × Mem → Option (Int32 × Mem), l_X10_finds_23 (nI k) K2 K (nI o, s) = K (nI (o + 1), s2)) (up M1 13 k 0) ⟨by
          rw [up_eq]
          have : (fun i => decide (i < 0) && qC p qb i k) = fun _ => false := by funext i; simp
          rw [this]; exact mk_0, fun q hq => by rw [up_i _ _ (by omega)]; exact B1 q hq, fun c c1 c2 => by rw [up_a _ _ _ c2]; exact F1 c c1 c2, fun j j1 j2 => by rw [up_a _ _ _ (by decide)]; exact Z1 j j1 j2⟩ k (by
        rintro o ho s ⟨s1, s2, s3, s4⟩
        have g5 : s 5 = p := by rw [s3 5 (by decide) (by decide)]; exact h5
        have g1 : s 1 = M 1 := s3 1 (by decide) (by decide)
        obtain ⟨u, w, mm⟩ := m_meets (M := s) (x := qb o) (y := qb k) (by rw [g5]; exact hs) (by rw [g5]; exact hwb o (by omega)) (by rw [g5]; exact hwb k hk)
        rw [g5] at mm
        have e13 : (st2 s u w) 13 = s 13 := st2_ne _ _ _ (by decide)
        have new := mk_if (q := o) (c := qC p qb o k) s1 (by omega)
        have ef : (fun i => (decide (i = o) && qC p qb o k) || (decide (i < o) && qC p qb i k)) = fun i => decide (i < o + 1) && qC p qb i k := by
          funext i
          by_cases z : i = o
          · subst z; simp
          · have z2 : decide (i = o) = false := decide_eq_false z
            have z3 : decide (i < o) = decide (i < o + 1) := by
              by_cases y : i < o
              · rw [decide_eq_true y, decide_eq_true (by omega)]
              · rw [decide_eq_false y, decide_eq_false (by omega)]
            rw [z2, z3, Bool.false_and, Bool.false_or]
        rw [ef] at new
        have ev : (s 13 k ||| (if cfI p (qb o) (qb k) = 0 then (0 : Int32) else 1 <<< (nI o &&& 31))) = if qC p qb o k = true then s 13 k ||| (1 <<< (nI o &&& 31)) else s 13 k := by
          unfold qC
          rcases cfI_01 p (qb o) (qb k) with z | z
          · rw [z, if_pos rfl, if_neg (by decide), Int32.or_zero]
          · rw [z, if_neg (by decide), if_pos (by decide)]
        refine ⟨up (st2 s u w) 13 k (if qC p qb o k = true then s 13 k ||| (1 <<< (nI o &&& 31)) else s 13 k), ⟨by rw [up_eq]; exact new, fun q hq => by rw [up_i _ _ (by omega), e13]; exact s2 q hq, fun c c1 c2 => by rw [up_a _ _ _ c2, st2_ne _ _ _ c1]; exact s3 c c1 c2, fun j j1 j2 => ?_⟩, fun K2 K => ?_⟩
        · rw [up_a _ _ _ (by decide)]
          unfold st2
          rw [upA_eq, upd_ne _ _ j2, upd_ne _ _ j1]; exact s4 j j1 j2
        · simp only [l_X10_finds_23]
          rw [if_neg (nI_ge ho (by omega)), if_pos (of_eq_true (inb_T (by first | omega | (unfold wdP; omega) | (unfold lnP; omega) | (unfold cl; omega)) (by omega))), n1441, nI_add, nI_add, if_pos (of_eq_true (inb_T (by first | omega | (unfold wdP; omega) | (unfold lnP; omega) | (unfold cl; omega)) (by omega))), if_pos (of_eq_true (inb_T (by first | omega | (unfold wdP; omega) | (unfold lnP; omega) | (unfold cl; omega)) (by omega))), ix_nI (by omega), ix_nI (by omega), g1, hq o (by omega), hq k hk, mm, bnd_some, if_pos (of_eq_true (inb_T (by first | omega | (unfold wdP; omega) | (unfold lnP; omega) | (unfold cl; omega)) (by omega))), ix_nI (by omega), wrt_def, ev, nI_1])
      refine ⟨f k, fun K2 => ?_, fun q hq => ?_, (fI k (Nat.le_refl _)).2.2.1, (fI k (Nat.le_refl _)).2.2.2⟩
      · refine loop_run k (fun o => (nI o, f o)) (by rw [f0]; rfl) (by omega) (fun o ho K => fR o ho K2 K) (fun K => ?_)
        simp only [l_X10_finds_23]
        rw [if_pos (nI_le (Nat.le_refl _) (by omega)), nI_1]
      · by_cases z : q = k
        · rw [z]; exact (fI k (Nat.le_refl _)).1
        · exact (fI k (Nat.le_refl _)).2.1 q (by omega)
    obtain ⟨M2, i1, i2, i3, i4⟩ := inner
    refine ⟨(nI (k + 1), M2), ⟨rfl, i2, i3, i4⟩, fun K => ?_⟩
    simp only [l_X10_finds_2]
    rw [F1 1 (by decide) (by decide), hq0, if_neg (nI_ge hk (by omega)), if_pos (of_eq_true (inb_T (by first | omega | (unfold wdP; omega) | (unfold lnP; omega) | (unfold cl; omega)) (by omega))), ix_nI (by omega), wrt_def, i1]
  · rintro ⟨y, M1⟩ ⟨hy, B1, F1, Z1⟩
    have hy : y = nI Q := hy
    subst hy
    refine ⟨_, ⟨M1, rfl, B1, F1, Z1⟩, fun K => ?_⟩
    have F1 : ∀ c, c ≠ 0 → c ≠ 13 → M1 c = M c := F1
    simp only [l_X10_finds_2]
    rw [F1 1 (by decide) (by decide), hq0, if_pos (nI_le (Nat.le_refl _) (by omega))]
theorem m_finds {p : Nat → Int32} {M : Mem} (hct : CT p (qbA (M 1)) (QA (M 1))) (hJ : JJ p (QA (M 1)) (trT (M 1))) (h5 : M 5 = p) (hq0 : M 1 1440 = nI (QA (M 1))) (hq : ∀ q, q < QA (M 1) → M 1 (1441 + q) = nI (qbA (M 1) q)) : ∃ M2, f_X10_finds M = some ((bst p (M 1)).1, M2) ∧ (∀ i, i < QA (M 1) → M2 11 i = nI ((bst p (M 1)).2 i)) ∧ (∀ j, j ≠ 17 → j ≠ 18 → j ≠ 24 → M2 0 j = M 0 j) ∧ (∀ c, c ≠ 0 → c ≠ 10 → c ≠ 11 → c ≠ 12 → c ≠ 13 → M2 c = M c) := by
  obtain ⟨M2, e, B2, F2, Z2⟩ := m_bef hct h5 hq0 hq
  obtain ⟨b1, b2, b3⟩ := bst_ok hct hJ
  have F3 : ∀ c, c ≠ 0 → c ≠ 13 → (up M2 0 24 (-1)) c = M c := fun c c1 c2 => by rw [up_a _ _ _ c1]; exact F2 c c1 c2
  have e1 : (up M2 0 24 (-1)) 1 = M 1 := F3 1 (by decide) (by decide)
  obtain ⟨M4, r1, r2, r3, r4, r5, r6, r7⟩ := m_tries (f13 := M2 13) hct B2 (QA (M 1)) 0 8 (up M2 0 24 (-1)) (fun _ => false) (trT (M 1)) (fun _ => 0) (2147483647, fun _ => 0) 0 (by omega) (by have := hct.2.2.1; omega) (by rw [F3 5 (by decide) (by decide)]; exact h5) (up_a _ _ _ (by decide)) (by rw [e1]; exact hq0) (by rw [e1]; exact hq) (fun j hj => by rw [e1]; exact (trT_lo _ hj).symm) hJ mk_0 (fun i hi => by omega) ⟨by decide, Or.inl ⟨rfl, up_eq _ _ _ _⟩⟩
  have eb : mrg (2147483647, fun _ => 0) (embP 0 (fun _ => 0) (olP p (qbA (M 1)) (QA (M 1)) (QA (M 1)) (fun _ => false) (trT (M 1)))) = embP 0 (fun _ => 0) (bst p (M 1)) := if_pos b1
  rw [eb] at r2
  obtain ⟨-, r2 | r2⟩ := r2
  · exfalso
    have z : (bst p (M 1)).1 = 2147483647 := r2.1
    rw [z] at b1
    exact Int32.lt_irrefl b1
  · obtain ⟨-, r8, r9⟩ := r2
    refine ⟨M4, ?_, fun i hi => ?_, fun j j1 j2 j3 => ?_, fun c c1 c2 c3 c4 c5 => ?_⟩
    · rw [e, wrt_def]
      have r1 : f_X10_tries 8 0 0 (up M2 0 24 (-1)) = some (0, M4) := r1
      rw [r1, bnd_some, r8]
      rfl
    · rw [r9 i hi]
      rfl
    · rw [r6 j j3, up_i _ _ j3]; exact Z2 j j1 j2
    · rw [r7 c c1 c2 c3 c4]; exact F3 c c1 c5
end MF
