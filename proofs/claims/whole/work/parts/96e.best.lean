/-! ===== bestFinish, bestOrder, reorder ===== -/
section BE
variable {Mx Mm : Mem} {m : Nat}
theorem x_preds {p : Nat → Int32} {qb : Nat → Nat} {Q pr : Nat} {M : Mem} (h6 : Q ≤ 6) (g1 : (¬ M 114 9 < 0 ∧ blkD KSx (ix (M 114 9)) blk4) ∧ ix (M 114 9) = pr) (g2 : (¬ M 114 10 < 0 ∧ blkD KSx (ix (M 114 10)) blk0) ∧ ix (M 114 10) = 50) (g3 : M 50 1 = nI Q) (g4 : ∀ q, q < Q → M 51 q = nI (qb q)) (h12 : pr + 12 < 33) (hu : ∀ q, q < Q → qb q < 12 ∧ PUs M pr p (qb q)) : ∃ M2, f_X3_findPredecessors M = some (0, M2) ∧ (∀ q, q < Q → MK (M2 117 q) (bfS (qD p qb) q)) ∧ (∀ c, c ≠ 117 → M2 c = M c) := by
  unfold f_X3_findPredecessors
  have X := loop_inv (body := l_X3_findPredecessors_2) (init := (0, M)) (Q := fun res => ∃ M2, res = some (0, M2) ∧ (∀ q, q < Q → MK (M2 117 q) (bfS (qD p qb) q)) ∧ (∀ c, c ≠ 117 → M2 c = M c)) Q (fun k s => s.1 = nI k ∧ (∀ q, q < k → MK (s.2 117 q) (bfS (qD p qb) q)) ∧ (∀ c, c ≠ 117 → s.2 c = M c)) ⟨rfl, fun q hq => by omega, fun _ _ => rfl⟩ (by omega) ?_ ?_
  · obtain ⟨res, ⟨M2, er, rest⟩, el⟩ := X
    exact ⟨M2, by rw [el, er], rest⟩
  · rintro k hk ⟨y, M1⟩ ⟨hy, B1, F1⟩
    have hy : y = nI k := hy
    subst hy
    have B1 : ∀ q, q < k → MK (M1 117 q) (bfS (qD p qb) q) := B1
    have F1 : ∀ c, c ≠ 117 → M1 c = M c := F1
    have inner : ∃ M2, (∀ K2, loopC (l_X3_findPredecessors_22 (nI k) K2) fuelL (0, up M1 117 k 0) = K2 (nI (k + 1), M2)) ∧ (∀ q, q < k + 1 → MK (M2 117 q) (bfS (qD p qb) q)) ∧ (∀ c, c ≠ 117 → M2 c = M c) := by
      obtain ⟨f, f0, fI, fR⟩ := seq_of (σ := Mem) (fun o s => MK (s 117 k) (fun i => decide (i < o) && qD p qb i k) ∧ (∀ q, q < k → MK (s 117 q) (bfS (qD p qb) q)) ∧ (∀ c, c ≠ 117 → s c = M c)) (fun o s s2 => ∀ K2 K : Int32 × Mem → Option (Int32 × Mem), l_X3_findPredecessors_22 (nI k) K2 K (nI o, s) = K (nI (o + 1), s2)) (up M1 117 k 0) ⟨by
          rw [up_eq]
          have : (fun i => decide (i < 0) && qD p qb i k) = fun _ => false := by funext i; simp
          rw [this]; exact mk_0, fun q hq => by rw [up_i _ _ (by omega)]; exact B1 q hq, fun c c1 => by rw [up_a _ _ _ c1]; exact F1 c c1⟩ k (by
        rintro o ho s ⟨s1, s2, s3⟩
        have e114 : s 114 = M 114 := s3 114 (by decide)
        have e51 : s 51 = M 51 := s3 51 (by decide)
        obtain ⟨u1, u2⟩ := hu o (by omega)
        obtain ⟨v1, v2⟩ := hu k hk
        have pk : ∀ j, j ≤ 12 → s (pr + j) = M (pr + j) := fun j hj => s3 _ (by omega)
        have xc := x_conf (M := s) (pr := pr) u1 v1 (u2.of pk) (v2.of pk)
        have new := mk_if (q := o) (c := qD p qb o k) s1 (by omega)
        have ef : (fun i => (decide (i = o) && qD p qb o k) || (decide (i < o) && qD p qb i k)) = fun i => decide (i < o + 1) && qD p qb i k := by
          funext i
          by_cases z : i = o
          · subst z; simp
          · have z2 : decide (i = o) = false := decide_eq_false z
            have z3 : decide (i < o) = decide (i < o + 1) := by
              by_cases y : i < o
              · rw [decide_eq_true y, decide_eq_true (by omega)]
              · rw [decide_eq_false y, decide_eq_false (by omega)]
            rw [z2, z3, Bool.false_and, Bool.false_or]
        rw [ef] at new
        have yes : ∀ K2 K : Int32 × Mem → Option (Int32 × Mem), j_X3_findPredecessors_67 (nI k) (nI o) K2 K s = K (nI (o + 1), up s 117 k (s 117 k ||| (1 <<< (nI o &&& 31)))) := by
          intro K2 K
          unfold j_X3_findPredecessors_67 j_X3_findPredecessors_79
          rw [if_pos (of_eq_true (inb_T (by first | omega | (unfold wdP; omega) | (unfold lnP; omega) | (unfold cl; omega)) (by omega))), if_pos (of_eq_true (inb_T (by first | omega | (unfold wdP; omega) | (unfold lnP; omega) | (unfold cl; omega)) (by omega))), ix_nI (by omega), wrt_def, nI_1]
        have no : ∀ K2 K : Int32 × Mem → Option (Int32 × Mem), j_X3_findPredecessors_79 (nI k) (nI o) K2 K s = K (nI (o + 1), s) := by
          intro K2 K
          unfold j_X3_findPredecessors_79
          rw [nI_1]
        have head : ∀ K2 K : Int32 × Mem → Option (Int32 × Mem), l_X3_findPredecessors_22 (nI k) K2 K (nI o, s) = if qD p qb o k = true then K (nI (o + 1), up s 117 k (s 117 k ||| (1 <<< (nI o &&& 31)))) else K (nI (o + 1), s) := by
          intro K2 K
          have g4o : s (50 + 1) (ix (nI o)) = nI (qb o) := by rw [ix_nI (by omega)]; show s 51 o = _; rw [e51]; exact g4 o (by omega)
          have g4k : s (50 + 1) (ix (nI k)) = nI (qb k) := by rw [ix_nI (by omega)]; show s 51 k = _; rw [e51]; exact g4 k hk
          simp only [l_X3_findPredecessors_22]
          rw [if_neg (nI_ge ho (by omega)), e114, if_pos g2.1, if_pos (of_eq_true (inb_T (by first | omega | (unfold wdP; omega) | (unfold lnP; omega) | (unfold cl; omega)) (by omega))), if_pos g2.1, if_pos (of_eq_true (inb_T (by first | omega | (unfold wdP; omega) | (unfold lnP; omega) | (unfold cl; omega)) (by omega))), g2.2, g4o, g4k, if_pos g1.1, g1.2, xc, bnd_some, yes, no]
          unfold qD qC
          by_cases z : qb o = qb k
          · rw [z, if_pos rfl, if_pos (by simp)]
          · rw [if_neg (fun y => z ((nI_eq (by omega) (by omega)).mp y)), decide_eq_false z, Bool.false_or]
            rcases cfI_01 p (qb o) (qb k) with y | y
            · rw [y, if_pos rfl, if_neg (by decide)]
            · rw [y, if_neg (by decide), if_pos (by decide)]
        by_cases hD : qD p qb o k = true
        · rw [hD, if_pos rfl] at new
          refine ⟨up s 117 k (s 117 k ||| (1 <<< (nI o &&& 31))), ⟨by rw [up_eq]; exact new, fun q hq => by rw [up_i _ _ (by omega)]; exact s2 q hq, fun c c1 => by rw [up_a _ _ _ c1]; exact s3 c c1⟩, fun K2 K => by rw [head, if_pos hD]⟩
        · rw [if_neg hD] at new
          exact ⟨s, ⟨new, s2, s3⟩, fun K2 K => by rw [head, if_neg hD]⟩)
      refine ⟨f k, fun K2 => ?_, fun q hq => ?_, (fI k (Nat.le_refl _)).2.2⟩
      · refine loop_run k (fun o => (nI o, f o)) (by rw [f0]; rfl) (by omega) (fun o ho K => fR o ho K2 K) (fun K => ?_)
        simp only [l_X3_findPredecessors_22]
        rw [if_pos (nI_le (Nat.le_refl _) (by omega)), nI_1]
      · by_cases z : q = k
        · rw [z]; exact (fI k (Nat.le_refl _)).1
        · exact (fI k (Nat.le_refl _)).2.1 q (by omega)
    obtain ⟨M2, i1, i2, i3⟩ := inner
    refine ⟨(nI (k + 1), M2), ⟨rfl, i2, i3⟩, fun K => ?_⟩
    simp only [l_X3_findPredecessors_2]
    rw [F1 114 (by decide), if_pos g2.1, g2.2, F1 50 (by decide), g3, if_neg (nI_ge hk (by omega)), if_pos (of_eq_true (inb_T (by first | omega | (unfold wdP; omega) | (unfold lnP; omega) | (unfold cl; omega)) (by omega))), ix_nI (by omega), wrt_def, i1]
  · rintro ⟨y, M1⟩ ⟨hy, B1, F1⟩
    have hy : y = nI Q := hy
    subst hy
    refine ⟨_, ⟨M1, rfl, B1, F1⟩, fun K => ?_⟩
    have F1 : ∀ c, c ≠ 117 → M1 c = M c := F1
    simp only [l_X3_findPredecessors_2]
    rw [F1 114 (by decide), if_pos g2.1, g2.2, F1 50 (by decide), g3, if_pos (nI_le (Nat.le_refl _) (by omega))]
theorem pr_blk {pr : Nat} (h : pr = 7 ∨ pr = 20) : (¬ nI pr < 0 ∧ blkD KSx (ix (nI pr)) blk4) ∧ ix (nI pr) = pr := by
  rcases h with rfl | rfl
  · exact ⟨⟨by decide, by decide⟩, rfl⟩
  · exact ⟨⟨by decide, by decide⟩, rfl⟩
theorem x_plan {pr nB : Nat} (hm : m < 512) (hP : PG Mx Mm pr nB) (hS : IS (Mm 5) nB Mx 33 (Mm 1) m) (h6 : QA (Mm 1) ≤ 6) (hpl : PL (Mm 5) Mx (Mm 1)) : ∃ M2, f_X3_plan pr 33 Mx = some (0, M2) ∧ M2 114 0 = 1 ∧ M2 114 1 = (bst (Mm 5) (Mm 1)).1 ∧ (∀ i, i < QA (Mm 1) → M2 115 i = nI ((bst (Mm 5) (Mm 1)).2 i)) ∧ (∀ c, c < 114 → M2 c = Mx c) := by
  obtain ⟨hct, hJ⟩ := hP.ct hm hS h6
  obtain ⟨b1, b2, b3⟩ := bst_ok hct hJ
  unfold f_X3_plan
  rcases hpl with z | ⟨z1, z2, z3, z4⟩
  · obtain ⟨q1, q2, q3, q4, -⟩ := hS.q
    rw [z, if_pos rfl, wrt_def, wrt_def, wrt_def, wrt_def, wrt_def, if_pos (by decide)]
    let M6 : Mem := up (up (up (up (up Mx 114 0 1) 114 9 (nI pr)) 114 10 (nI (33 + 17))) 114 1 2147483647) 114 4 0
    have n6 : ∀ c, c ≠ 114 → M6 c = Mx c := fun c hc => by
      show up (up (up (up (up Mx 114 0 1) 114 9 (nI pr)) 114 10 (nI (33 + 17))) 114 1 2147483647) 114 4 0 c = _
      rw [up_a _ _ _ hc, up_a _ _ _ hc, up_a _ _ _ hc, up_a _ _ _ hc, up_a _ _ _ hc]
    have v0 : M6 114 0 = 1 := by
      show up (up (up (up (up Mx 114 0 1) 114 9 (nI pr)) 114 10 (nI (33 + 17))) 114 1 2147483647) 114 4 0 114 0 = _
      rw [up_i _ _ (by decide), up_i _ _ (by decide), up_i _ _ (by decide), up_i _ _ (by decide), up_eq]
    have v9 : M6 114 9 = nI pr := by
      show up (up (up (up (up Mx 114 0 1) 114 9 (nI pr)) 114 10 (nI (33 + 17))) 114 1 2147483647) 114 4 0 114 9 = _
      rw [up_i _ _ (by decide), up_i _ _ (by decide), up_i _ _ (by decide), up_eq]
    have v10 : M6 114 10 = nI 50 := by
      show up (up (up (up (up Mx 114 0 1) 114 9 (nI pr)) 114 10 (nI (33 + 17))) 114 1 2147483647) 114 4 0 114 10 = _
      rw [up_i _ _ (by decide), up_i _ _ (by decide), up_eq]
    have v1 : M6 114 1 = 2147483647 := by
      show up (up (up (up (up Mx 114 0 1) 114 9 (nI pr)) 114 10 (nI (33 + 17))) 114 1 2147483647) 114 4 0 114 1 = _
      rw [up_i _ _ (by decide), up_eq]
    have v4 : M6 114 4 = 0 := up_eq _ _ _ _
    have hT6 : M6 = setT M6 37 (trT (Mm 1)) := by
      rw [setT_congr M6 37 (fun j hj => trT_lo (Mm 1) hj)]
      exact setT_of hS.tm.2.2.2.2.2 (fun c h1 h2 => n6 c (by omega))
    have xc := x_copyT (M := M6) (t0 := 120 + (1 + 8 * 0)) (t1 := 37) (a := trT (Mm 1)) (Or.inr (by omega)) hT6
    have xc : f_X6_copyFrom (120 + (1 + 8 * ix 0)) (33 + 4) (up (up (up (up (up Mx 114 0 1) 114 9 (nI pr)) 114 10 (nI (33 + 17))) 114 1 2147483647) 114 4 0) = some (0, setT M6 (120 + (1 + 8 * 0)) (trT (Mm 1))) := xc
    rw [xc, bnd_some]
    have s0 : ∀ c, c ≤ 121 ∨ 128 < c → (setT M6 (120 + (1 + 8 * 0)) (trT (Mm 1))) c = M6 c := fun c hc => sTn _ _ (by omega)
    have p12 := hP.pr12
    have pk : ∀ k, k ≤ 12 → (setT M6 (120 + (1 + 8 * 0)) (trT (Mm 1))) (pr + k) = Mx (pr + k) := fun k hk => by rw [s0 _ (by omega), n6 _ (by omega)]
    have g1 : (¬ (setT M6 (120 + (1 + 8 * 0)) (trT (Mm 1))) 114 9 < 0 ∧ blkD KSx (ix ((setT M6 (120 + (1 + 8 * 0)) (trT (Mm 1))) 114 9)) blk4) ∧ ix ((setT M6 (120 + (1 + 8 * 0)) (trT (Mm 1))) 114 9) = pr := by
      rw [s0 114 (by omega), v9]; exact pr_blk hP.2.1
    have g2 : (¬ (setT M6 (120 + (1 + 8 * 0)) (trT (Mm 1))) 114 10 < 0 ∧ blkD KSx (ix ((setT M6 (120 + (1 + 8 * 0)) (trT (Mm 1))) 114 10)) blk0) ∧ ix ((setT M6 (120 + (1 + 8 * 0)) (trT (Mm 1))) 114 10) = 50 := by
      rw [s0 114 (by omega), v10]; exact ⟨⟨by decide, by decide⟩, rfl⟩
    have h12 := hP.nb.1
    obtain ⟨M2, x2, B2, F2⟩ := x_preds (p := Mm 5) (qb := qbA (Mm 1)) (Q := QA (Mm 1)) (pr := pr) h6 g1 g2 (by rw [s0 50 (by omega), n6 50 (by omega)]; exact q1) (fun q hq => by rw [s0 51 (by omega), n6 51 (by omega)]; exact (q4 q hq).2.2) p12 (fun q hq => ⟨by have := (q4 q hq).1; omega, (hP.bt _ (q4 q hq).1).2.2.of pk⟩)
    rw [x2, bnd_some]
    have F3 : ∀ c, c < 114 → M2 c = Mx c := fun c hc => by rw [F2 c (by omega), s0 c (by omega), n6 c (by omega)]
    have e114 : M2 114 = M6 114 := by rw [F2 114 (by omega), s0 114 (by omega)]
    have hcx : CX (Mm 5) (qbA (Mm 1)) (QA (Mm 1)) pr M2 := by
      refine ⟨?_, ?_, by rw [F3 50 (by omega)]; exact q1, fun q hq => by rw [F3 51 (by omega)]; exact (q4 q hq).2.2, p12, hP.2.2.2.1.2.1.of (fun k hk => F3 _ (by omega)), by rw [F3 _ (by omega)]; exact hP.2.2.2.1.2.2.1, fun q hq => (hP.bt _ (q4 q hq).1).2.1.of (fun k hk => F3 _ (by omega)), B2⟩
      · rw [e114, v9]; exact pr_blk hP.2.1
      · rw [e114, v10]; exact ⟨⟨by decide, by decide⟩, rfl⟩
    have hT2 : M2 = setT M2 (120 + (1 + 8 * 0)) (trT (Mm 1)) := setT_of (M := setT M6 (120 + (1 + 8 * 0)) (trT (Mm 1))) (setT_setT _ _ _ _).symm (fun c h1 h2 => F2 c (by omega))
    obtain ⟨M4, r1, r2, r3, r4, r5⟩ := x_extend (pr := pr) hct (QA (Mm 1)) 0 8 M2 (fun _ => false) (trT (Mm 1)) (fun _ => 0) (2147483647, fun _ => 0) (by omega) (by omega) hcx hT2 hJ (by rw [e114, v4]; exact mk_0) (fun i hi => by omega) ⟨by rw [e114]; exact v1, fun hh => absurd hh Int32.lt_irrefl⟩ (JJ_lt hct.1 hJ).1
    have eb : mrg (2147483647, fun _ => 0) (embP 0 (fun _ => 0) (olP (Mm 5) (qbA (Mm 1)) (QA (Mm 1)) (QA (Mm 1)) (fun _ => false) (trT (Mm 1)))) = embP 0 (fun _ => 0) (bst (Mm 5) (Mm 1)) := if_pos b1
    rw [eb] at r2
    have r1 : f_X3_extend 8 0 M2 = some (0, M4) := r1
    refine ⟨M4, by rw [r1, bnd_some], by rw [r3 0 (by decide), e114]; exact v0, r2.1, fun i hi => r2.2 b1 i hi, fun c hc => by rw [r5 c (Or.inl hc)]; exact F3 c hc⟩
  · rw [if_neg (by rw [z1]; decide)]
    exact ⟨Mx, rfl, z1, z3, z4, fun _ _ => rfl⟩
/-- the plan stands -/
theorem Inv.plan {M2 M3 : Mem} (h : Inv m Mx Mm) (h6 : QA (Mm 1) ≤ 6) (p0 : M2 114 0 = 1) (p1 : M2 114 1 = (bst (Mm 5) (Mm 1)).1) (p2 : ∀ i, i < QA (Mm 1) → M2 115 i = nI ((bst (Mm 5) (Mm 1)).2 i)) (F : ∀ c, c < 114 → M2 c = Mx c) (f : ∀ c, c = 1 ∨ c = 2 ∨ c = 4 ∨ c = 5 ∨ c = 7 → M3 c = Mm c) (f8 : M3 0 8 = Mm 0 8) (f14 : M3 0 14 = Mm 0 14) (f15 : M3 0 15 = Mm 0 15) : Inv (m + 1) M2 M3 := by
  obtain ⟨pr, nB, hP, hS, hL, hk, hT, hE, -⟩ := h.next
  have e0 : M2 0 = Mx 0 := F 0 (by omega)
  have g5 : M3 5 = Mm 5 := f 5 (by omega)
  have g1 : M3 1 = Mm 1 := f 1 (by omega)
  refine ⟨pr, nB, hP.of (by rw [e0]) (by rw [e0]) (fun c h1 h2 => F c (by omega)) g5, ?_, fun s hs => ?_, by rw [e0]; exact hk, ?_, ?_, ?_⟩
  · rw [g5, g1]; exact hS.of hP.c8 (Nat.le_refl _) (fun c h1 h2 => F c (by omega)) (fun _ _ => rfl)
  · rw [g5]; exact (hL s hs).of hP.c8 hs (Nat.le_refl _) (by rw [e0]) (fun c h1 h2 => F c (by omega)) (f 4 (by omega)) (f 2 (by omega))
  · obtain ⟨L, l1, l2, l3, l4⟩ := hT
    exact ⟨L, l1, by rw [e0]; exact l2, by rw [f8]; exact l3, fun i hi => by rw [F 1 (by omega), f 7 (by omega)]; exact l4 i hi⟩
  · rw [e0, f14, f15]; exact hE
  · rw [g5, g1]; exact Or.inr ⟨p0, h6, p1, p2⟩
theorem s_bestFinish (h : Inv m Mx Mm) (hm : m < 512) : CallR m [eIS] (f_X9_bestFinish Mx) (f_X10_bestFinish Mm) := by
  obtain ⟨M1, e1, t0, hI⟩ := inv_0 h
  obtain ⟨pr, nB, hP, hS, -, -, -, -, hpl⟩ := id hI
  obtain ⟨q1, q2, q3, q4, -⟩ := hS.q
  unfold f_X10_bestFinish f_X9_bestFinish f_X9_requirePlannable j_X10_bestFinish_39
  rw [wrt_def, e1, q1, q2]
  by_cases h6 : QA (M1 1) ≤ 6
  · obtain ⟨hct, hJ⟩ := hP.ct hm hS h6
    obtain ⟨M2, x2, p0, p1, p2, F2⟩ := x_plan hm hP hS h6 hpl
    obtain ⟨M3, m3, b3, Z3, F3⟩ := m_finds hct hJ rfl q2 (fun q hq => (q4 q hq).2.1)
    rw [if_pos (show nI (QA (M1 1)) ≤ 6 from nI_le (b := 6) h6 (by omega)), bX_ok, if_neg (show ¬ (6 : Int32) < nI (QA (M1 1)) from nI_nlt (a := 6) h6 (by omega)), may_T t0, bnd_some, if_neg ne10, m3, bnd_some, if_pos hP.pp, hP.ixp, x2, bnd_some, p1]
    exact stp_ok _ M2 M3 rfl rfl (by rw [Z3 0 (by decide) (by decide) (by decide)]; exact t0) (hI.plan h6 p0 p1 p2 F2 (fun c hc => F3 c (by omega) (by omega) (by omega) (by omega) (by omega)) (Z3 _ (by decide) (by decide) (by decide)) (Z3 _ (by decide) (by decide) (by decide)) (Z3 _ (by decide) (by decide) (by decide)))
  · rw [if_neg (show ¬ nI (QA (M1 1)) ≤ 6 from nI_ge (a := 6) (by omega) (by omega)), bX_ex, if_pos (show (6 : Int32) < nI (QA (M1 1)) from nI_lt (a := 6) (by omega) (by omega)), may_F1 t0, bnd_some, if_pos rfl]
    exact stp_ex 0 eIS rfl rfl rfl hI
theorem s_bestOrder (h : Inv m Mx Mm) (hm : m < 512) (x : Int32) : CallR m [eIS, eIO] (f_X9_bestOrder x Mx) (f_X10_bestOrder x Mm) := by
  obtain ⟨M1, e1, t0, hI⟩ := inv_0 h
  obtain ⟨pr, nB, hP, hS, -, -, -, -, hpl⟩ := id hI
  obtain ⟨q1, q2, q3, q4, -⟩ := hS.q
  unfold f_X10_bestOrder f_X9_bestOrder f_X9_requirePlannable j_X10_bestOrder_54 j_X9_bestOrder_37
  rw [wrt_def, e1, q1, q2]
  by_cases h6 : QA (M1 1) ≤ 6
  · obtain ⟨hct, hJ⟩ := hP.ct hm hS h6
    obtain ⟨M2, x2, p0, p1, p2, F2⟩ := x_plan hm hP hS h6 hpl
    rw [if_pos (show nI (QA (M1 1)) ≤ 6 from nI_le (b := 6) h6 (by omega)), bX_ok, if_neg (show ¬ (6 : Int32) < nI (QA (M1 1)) from nI_nlt (a := 6) h6 (by omega)), may_T t0, bnd_some, if_neg ne10, q2, if_pos hP.pp, hP.ixp, x2, bnd_some, F2 50 (by omega), q1]
    by_cases hx : okN x (QA (M1 1))
    · obtain ⟨M3, m3, b3, Z3, F3⟩ := m_finds hct hJ rfl q2 (fun q hq => (q4 q hq).2.1)
      rw [m_in_T hx (by omega), may_T t0, bnd_some, if_pos ne10, m3, bnd_some, rq_T hx (by omega)]
      obtain ⟨k, hk, rfl⟩ := id hx
      rw [if_pos (of_eq_true (inb_T (by first | omega | (unfold wdP; omega) | (unfold lnP; omega) | (unfold cl; omega)) (by omega))), if_pos (of_eq_true (inb_T (by first | omega | (unfold wdP; omega) | (unfold lnP; omega) | (unfold cl; omega)) (by omega))), ix_nI (by omega), p2 k hk, b3 k hk]
      exact stp_ok _ M2 M3 rfl rfl (by rw [Z3 0 (by decide) (by decide) (by decide)]; exact t0) (hI.plan h6 p0 p1 p2 F2 (fun c hc => F3 c (by omega) (by omega) (by omega) (by omega) (by omega)) (Z3 _ (by decide) (by decide) (by decide)) (Z3 _ (by decide) (by decide) (by decide)) (Z3 _ (by decide) (by decide) (by decide)))
    · rw [m_in_F hx (by omega), may_F2 t0, bnd_some, if_neg nn00, rq_F hx]
      exact ⟨_, M2, 0, _, rfl, rfl, hI.plan h6 p0 p1 p2 F2 (fun c hc => up_a _ _ _ (by omega)) (up_i _ _ (by decide)) (up_i _ _ (by decide)) (up_i _ _ (by decide)), Or.inr ⟨1, eIO, rfl, rfl, up_eq _ _ _ _⟩⟩
  · rw [if_neg (show ¬ nI (QA (M1 1)) ≤ 6 from nI_ge (a := 6) (by omega) (by omega)), bX_ex, if_pos (show (6 : Int32) < nI (QA (M1 1)) from nI_lt (a := 6) (by omega) (by omega)), may_F1 t0, bnd_some, if_pos rfl]
    exact stp_ex 0 eIS rfl rfl rfl hI
end BE
