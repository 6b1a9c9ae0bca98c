/-! ===== reorder ===== -/
section RO
variable {Mx Mm : Mem} {m : Nat}
theorem up_same {M : Mem} {c i : Nat} {x : Int32} (h : M c i = x) : up M c i x = M := by
  have z := up_back M c i x
  rw [h, up_up] at z
  exact z
def reA (a : Nat → Int32) (Q : Nat) (b : Nat → Nat) : Nat → Int32 := fun j => if 1441 ≤ j ∧ j < 1441 + Q then a (1441 + b (j - 1441)) else a j
theorem m_re46 {M : Mem} {Q : Nat} {b : Nat → Nat} {x y : Int32} (h6 : Q ≤ 6) (hq : M 1 1440 = nI Q) (hb : ∀ i, i < Q → M 11 i = nI (b i) ∧ b i < Q) : loopC (l_X10_reorder_46 x y) fuelL (0, M) = some (x - y, upA (upA M 9 (fun j => if j < Q then M 1 (1441 + b j) else M 9 j)) 1 (reA (M 1) Q b)) := by
  have l2 : loopC (l_X10_reorder_87 x y) fuelL (0, upA M 9 (fun j => if j < Q then M 1 (1441 + b j) else M 9 j)) = some (x - y, upA (upA M 9 (fun j => if j < Q then M 1 (1441 + b j) else M 9 j)) 1 (reA (M 1) Q b)) := by
    refine loop_run Q (fun k => (nI k, upA (upA M 9 (fun j => if j < Q then M 1 (1441 + b j) else M 9 j)) 1 (reA (M 1) k b))) ?_ (by omega) (fun k hk K => ?_) (fun K => ?_)
    · have : reA (M 1) 0 b = M 1 := by
        funext j
        unfold reA
        rw [if_neg (by omega)]
      show (0, _) = (nI 0, _)
      rw [this]
      have z := upA_self (upA M 9 (fun j => if j < Q then M 1 (1441 + b j) else M 9 j)) 1
      rw [upA_ne _ _ (by decide)] at z
      rw [z]
      rfl
    · simp only [l_X10_reorder_87]
      have e40 : (upA (upA M 9 (fun j => if j < Q then M 1 (1441 + b j) else M 9 j)) 1 (reA (M 1) k b)) 1 1440 = nI Q := by
        rw [upA_eq]
        unfold reA
        rw [if_neg (by omega)]; exact hq
      rw [e40, if_neg (nI_ge hk (by omega)), if_pos (of_eq_true (inb_T (by first | omega | (unfold wdP; omega) | (unfold lnP; omega) | (unfold cl; omega)) (by omega))), n1441, nI_add, if_pos (of_eq_true (inb_T (by first | omega | (unfold wdP; omega) | (unfold lnP; omega) | (unfold cl; omega)) (by omega))), ix_nI (by omega), ix_nI (by omega), wrt_def, nI_1, up_upA, upA_ne _ _ (by decide), upA_eq, if_pos hk]
      refine congrArg (fun z => K (nI (k + 1), upA (upA M 9 (fun j => if j < Q then M 1 (1441 + b j) else M 9 j)) 1 z)) ?_
      funext j
      unfold reA
      by_cases z : j = 1441 + k
      · rw [z, upd_eq, if_pos (by omega), show 1441 + k - 1441 = k by omega]
      · rw [upd_ne _ _ z]
        by_cases z2 : 1441 ≤ j ∧ j < 1441 + k
        · rw [if_pos z2, if_pos (by omega)]
        · rw [if_neg z2, if_neg (by omega)]
    · simp only [l_X10_reorder_87]
      have e40 : (upA (upA M 9 (fun j => if j < Q then M 1 (1441 + b j) else M 9 j)) 1 (reA (M 1) Q b)) 1 1440 = nI Q := by
        rw [upA_eq]
        unfold reA
        rw [if_neg (by omega)]; exact hq
      rw [e40, if_pos (nI_le (Nat.le_refl _) (by omega))]
  rw [← l2]
  refine loop_run Q (fun k => (nI k, upA M 9 (fun j => if j < k then M 1 (1441 + b j) else M 9 j))) ?_ (by omega) (fun k hk K => ?_) (fun K => ?_)
  · have : (fun j => if j < 0 then M 1 (1441 + b j) else M 9 j) = M 9 := by
      funext j
      rw [if_neg (by omega)]
    show (0, M) = (nI 0, upA M 9 (fun j => if j < 0 then M 1 (1441 + b j) else M 9 j))
    rw [this, upA_self]
    rfl
  · simp only [l_X10_reorder_46]
    have i0 : ix (nI k) = k := ix_nI (by omega)
    have e11 : (upA M 9 (fun j => if j < k then M 1 (1441 + b j) else M 9 j)) 11 (ix (nI k)) = nI (b k) := by rw [upA_ne _ _ (by decide), i0]; exact (hb k hk).1
    have bk := (hb k hk).2
    rw [upA_ne _ _ (by decide), hq, if_neg (nI_ge hk (by omega)), if_pos (of_eq_true (inb_T (by first | omega | (unfold wdP; omega) | (unfold lnP; omega) | (unfold cl; omega)) (by omega))), e11, n1441, nI_add, if_pos (of_eq_true (inb_T (by first | omega | (unfold wdP; omega) | (unfold lnP; omega) | (unfold cl; omega)) (by omega))), if_pos (of_eq_true (inb_T (by first | omega | (unfold wdP; omega) | (unfold lnP; omega) | (unfold cl; omega)) (by omega))), i0, ix_nI (by omega), wrt_def, nI_1, up_upA]
    refine congrArg (fun z => K (nI (k + 1), upA M 9 z)) ?_
    funext j
    by_cases z : j = k
    · rw [z, upd_eq, if_pos (by omega)]
    · rw [upd_ne _ _ z]
      by_cases z2 : j < k
      · rw [if_pos z2, if_pos (by omega)]
      · rw [if_neg z2, if_neg (by omega)]
  · simp only [l_X10_reorder_46]
    rw [upA_ne _ _ (by decide), hq, if_pos (nI_le (Nat.le_refl _) (by omega))]
theorem cpOk616 {Q : Nat} (h : Q ≤ 6) : cpOk 6 16 0 0 (nI Q) := ⟨by decide, by decide, nI_pos (by omega), by rw [ix_nI (by omega)]; show 0 + Q ≤ 6; omega, by rw [ix_nI (by omega)]; show 0 + Q ≤ 16; omega⟩
theorem x_apply {M : Mem} {Q : Nat} {b : Nat → Nat} (h6 : Q ≤ 6) (hq : M 50 1 = nI Q) (hb : ∀ i, i < Q → M 115 i = nI (b i) ∧ b i < Q) : ∃ M2, f_X3_applyTo 50 M = some (0, M2) ∧ (∀ i, i < Q → M2 51 i = M 51 (b i)) ∧ (∀ c, c ≠ 51 → c ≠ 118 → M2 c = M c) := by
  refine ⟨cpy (upA M 118 (fun j => if j < Q then M 51 (b j) else M 118 j)) 118 0 (50 + 1) 0 (nI Q), ?_, fun i hi => ?_, fun c c1 c2 => ?_⟩
  · unfold f_X3_applyTo
    refine loop_run Q (fun k => (nI k, upA M 118 (fun j => if j < k then M 51 (b j) else M 118 j))) ?_ (by omega) (fun k hk K => ?_) (fun K => ?_)
    · have : (fun j => if j < 0 then M 51 (b j) else M 118 j) = M 118 := by
        funext j
        rw [if_neg (by omega)]
      show (0, M) = (nI 0, upA M 118 (fun j => if j < 0 then M 51 (b j) else M 118 j))
      rw [this, upA_self]
      rfl
    · simp only [l_X3_applyTo_2]
      have i0 : ix (nI k) = k := ix_nI (by omega)
      have e11 : (upA M 118 (fun j => if j < k then M 51 (b j) else M 118 j)) 115 (ix (nI k)) = nI (b k) := by rw [upA_ne _ _ (by decide), i0]; exact (hb k hk).1
      have bk := (hb k hk).2
      rw [upA_ne _ _ (by decide), hq, if_neg (nI_ge hk (by omega)), if_pos (of_eq_true (inb_T (by first | omega | (unfold wdP; omega) | (unfold lnP; omega) | (unfold cl; omega)) (by omega))), e11, if_pos (of_eq_true (inb_T (by first | omega | (unfold wdP; omega) | (unfold lnP; omega) | (unfold cl; omega)) (by omega))), if_pos (of_eq_true (inb_T (by first | omega | (unfold wdP; omega) | (unfold lnP; omega) | (unfold cl; omega)) (by omega))), i0, ix_nI (by omega), wrt_def, nI_1, up_upA]
      refine congrArg (fun z => K (nI (k + 1), upA M 118 z)) ?_
      funext j
      by_cases z : j = k
      · rw [z, upd_eq, if_pos (by omega)]; rfl
      · rw [upd_ne _ _ z]
        by_cases z2 : j < k
        · rw [if_pos z2, if_pos (by omega)]
        · rw [if_neg z2, if_neg (by omega)]
    · simp only [l_X3_applyTo_2]
      rw [upA_ne _ _ (by decide), hq, if_pos (nI_le (Nat.le_refl _) (by omega)), if_pos (cpOk616 h6), wrt_def]
  · show cpy _ 118 0 51 0 (nI Q) 51 i = _
    rw [cpy_eq _ _ _ (n := Q) (ix_nI (by omega)), if_pos hi, upA_eq, if_pos hi]
  · rw [cpy_ne _ _ _ _ c1, upA_ne _ _ c2]
theorem s_reorder (h : Inv m Mx Mm) (hm : m < 512) : CallR m [eIS] (f_X9_reorder Mx) (f_X10_reorder Mm) := by
  obtain ⟨M1, e1, t0, hI⟩ := inv_0 h
  obtain ⟨pr, nB, hP, hS, -, -, -, -, hpl⟩ := id hI
  obtain ⟨q1, q2, q3, q4, -⟩ := hS.q
  unfold f_X10_reorder f_X9_reorder f_X9_requirePlannable
  rw [wrt_def, e1, q1, q2]
  by_cases h6 : QA (M1 1) ≤ 6
  · obtain ⟨hct, hJ⟩ := hP.ct hm hS h6
    obtain ⟨b1, b2, b3⟩ := bst_ok hct hJ
    obtain ⟨M2, x2, p0, p1, p2, F2⟩ := x_plan hm hP hS h6 hpl
    obtain ⟨N, hN, hn, hZ⟩ := hS.n
    have p12 := hP.pr12
    have pk : ∀ k, k ≤ 12 → M2 (pr + k) = Mx (pr + k) := fun k hk => F2 _ (by omega)
    have pp2 : PP M2 pr := by
      unfold PP
      rw [F2 0 (by omega)]
      exact hP.1
    have hqb : ∀ i, i < QA (M1 1) → M1 1 (1441 + i) = nI (qbA (M1 1) i) ∧ WFb (M1 5) (qbA (M1 1) i) := fun i hi => ⟨(q4 i hi).2.1, (hP.bt _ (q4 i hi).1).1⟩
    obtain ⟨xp, -⟩ := x_predict (M := M2) (pr := pr) (p := M1 5) (a := M1 1) (qb := qbA (M1 1)) (Q := QA (M1 1)) (N := N) pp2 p12 hP.ws (hP.2.2.2.1.2.1.of pk) (setT_of hS.tm.2.2.2.2.2 (fun c h1 h2 => F2 c (by omega))) q3 (by rw [F2 50 (by omega)]; exact q1) (fun i hi => ⟨by rw [F2 51 (by omega)]; exact (q4 i hi).2.2, (hqb i hi).2, (hP.bt _ (q4 i hi).1).2.1.of pk⟩) hn (by omega)
    have zz : ZB (ix (M1 5 0)) (spQ (M1 5) (qbA (M1 1)) (QA (M1 1)) (M1 1)) := spQ_z hP.ws (fun i hi => (hqb i hi).2) hZ
    rw [spLat_z hP.n0.2 zz] at xp
    -- the reference's finish as it is
    have mw := m_would t0 hP.ws q3 q2 hqb hn (by omega)
    have ew : f_X10_wouldFinish (-1) M1 = some (spLat (ix (M1 5 0)) 255 (spQ (M1 5) (qbA (M1 1)) (QA (M1 1)) (M1 1)), kpM M1) := by
      unfold f_X10_wouldFinish
      rw [wrt_def, up_same t0, if_pos rfl, may_T t0, bnd_some, if_pos ne10]
      have e : bnd (f_X10_keeps M1) (fun _ M7 => bnd (f_X10_allTicks M7) (fun v8 M9 => if (-1 : Int32) = (-1) then j_X10_wouldFinish_52 M9 else bnd (f_X10_ticks (-1) M9) (fun _ M16 => j_X10_wouldFinish_52 M16))) = bnd (f_X10_keeps M1) (fun _ M7 => bnd (f_X10_allTicks M7) (fun v8 M9 => j_X10_wouldFinish_52 M9)) := by
        simp only [↓reduceIte]
      rw [e, mw]
    have k1 : (kpM M1) 1 = M1 1 := upA_ne _ _ (by decide)
    have k5 : (kpM M1) 5 = M1 5 := upA_ne _ _ (by decide)
    have k0 : ∀ c, c ≠ 3 → (kpM M1) c = M1 c := fun c hc => upA_ne _ _ hc
    obtain ⟨M3, m3, c3, Z3, F3⟩ := m_finds (p := M1 5) (M := kpM M1) (by rw [k1]; exact hct) (by rw [k1]; exact hJ) k5 (by rw [k1]; exact q2) (by rw [k1]; exact fun q hq => (q4 q hq).2.1)
    rw [k1] at m3 c3
    have F4 : ∀ c, c ≠ 0 → c ≠ 3 → c ≠ 10 → c ≠ 11 → c ≠ 12 → c ≠ 13 → M3 c = M1 c := fun c a0 a3 a10 a11 a12 a13 => by rw [F3 c a0 a10 a11 a12 a13]; exact k0 c a3
    have e31 : M3 1 = M1 1 := F4 1 (by decide) (by decide) (by decide) (by decide) (by decide) (by decide)
    have r46 := m_re46 (M := M3) (Q := QA (M1 1)) (b := (bst (M1 5) (M1 1)).2) (x := spLat (ix (M1 5 0)) 255 (spQ (M1 5) (qbA (M1 1)) (QA (M1 1)) (M1 1))) (y := (bst (M1 5) (M1 1)).1) h6 (by rw [e31]; exact q2) (fun i hi => ⟨c3 i hi, b3 i hi⟩)
    rw [e31] at r46
    -- the class
    have s0 : ∀ A c, c ≤ 57 ∨ 64 < c → (setT M2 57 A) c = M2 c := fun A c hc => sTn _ _ (by omega)
    generalize hA : spQ (M1 5) (qbA (M1 1)) (QA (M1 1)) (M1 1) = A at *
    obtain ⟨M5, x5, y5, F5⟩ := x_apply (M := setT M2 57 A) (Q := QA (M1 1)) (b := (bst (M1 5) (M1 1)).2) h6 (by rw [s0 _ 50 (by omega), F2 50 (by omega)]; exact q1) (fun i hi => ⟨by rw [s0 _ 115 (by omega)]; exact p2 i hi, b3 i hi⟩)
    have G5 : ∀ c, c < 53 → c ≠ 51 → M5 c = Mx c := fun c c1 c2 => by rw [F5 c c2 (by omega), s0 _ c (by omega), F2 c (by omega)]
    have G51 : ∀ i, i < QA (M1 1) → M5 51 i = nI (qbA (M1 1) ((bst (M1 5) (M1 1)).2 i)) := fun i hi => by rw [y5 i hi, s0 _ 51 (by omega), F2 51 (by omega)]; exact (q4 _ (b3 i hi)).2.2
    rw [if_pos (show nI (QA (M1 1)) ≤ 6 from nI_le (b := 6) h6 (by omega)), bX_ok, if_neg (show ¬ (6 : Int32) < nI (QA (M1 1)) from nI_nlt (a := 6) h6 (by omega)), may_T t0, bnd_some, if_pos ne10, ew, bnd_some, m3, bnd_some, r46, if_pos hP.pp, hP.ixp, x2, bnd_some, F2 0 (by omega), if_pos hP.pp, hP.ixp, F2 (pr + 1) (by omega), hP.2.2.2.1.2.2.1, xp, bnd_some, x5, bnd_some]
    unfold f_X3_forgetPlan
    have e1141 : (up M5 114 0 0) 114 1 = (bst (M1 5) (M1 1)).1 := by rw [up_i _ _ (by decide), F5 114 (by decide) (by decide), s0 _ 114 (by omega)]; exact p1
    rw [wrt_def, bnd_some, e1141]
    have c0 : ∀ c, (c < 53 ∨ 72 < c) → c < 114 → c ≠ 51 → (up M5 114 0 0) c = Mx c := fun c z1 z2 z3 => by
      rw [up_a _ _ _ (by omega), F5 c z3 (by omega), s0 _ c (by omega)]; exact F2 c z2
    have ne : ∀ j, j < 1441 ∨ 1441 + QA (M1 1) ≤ j → reA (M1 1) (QA (M1 1)) (bst (M1 5) (M1 1)).2 j = M1 1 j := fun j hj => by
      unfold reA
      rw [if_neg (by omega)]
    have sq : ∀ j, j < QA (M1 1) → reA (M1 1) (QA (M1 1)) (bst (M1 5) (M1 1)).2 (1441 + j) = nI (qbA (M1 1) ((bst (M1 5) (M1 1)).2 j)) := fun j hj => by
      unfold reA
      rw [if_pos (by omega), show 1441 + j - 1441 = j by omega]; exact (q4 _ (b3 j hj)).2.1
    have eQ : QA (reA (M1 1) (QA (M1 1)) (bst (M1 5) (M1 1)).2) = QA (M1 1) := by
      show ix (reA (M1 1) (QA (M1 1)) (bst (M1 5) (M1 1)).2 1440) = ix (M1 1 1440)
      rw [ne _ (by omega)]
    have h12 := hP.nb.1
    have eq : ∀ j, j < QA (M1 1) → qbA (reA (M1 1) (QA (M1 1)) (bst (M1 5) (M1 1)).2) j = qbA (M1 1) ((bst (M1 5) (M1 1)).2 j) := fun j hj => by
      have := (q4 _ (b3 j hj)).1
      show (if j < 16 then ix (reA (M1 1) (QA (M1 1)) (bst (M1 5) (M1 1)).2 (1441 + j)) else 0) = _
      rw [if_pos (by omega), sq j hj, ix_nI (by omega)]
    refine stp_ok _ _ _ rfl rfl ?_ (hI.state (a2 := reA (M1 1) (QA (M1 1)) (bst (M1 5) (M1 1)).2) (fun pr2 nB2 hP2 => ?_) (fun c hc => c0 c (by omega) (by omega) (by omega)) (upA_eq _ _ _) (fun c hc => ?_) ?_ ?_ ?_ (Or.inl (up_eq _ _ _ _)))
    · rw [upA_ne _ _ (by decide), upA_ne _ _ (by decide), Z3 0 (by decide) (by decide) (by decide), k0 0 (by decide)]; exact t0
    · rw [hP.uniq hP2]
      obtain ⟨n, l, T, N, U, K, hS, hZ, hd, -, hq, hK, u1, u2, u3, u4⟩ := hS
      obtain ⟨hR, hC, hT, hau, hau2, hn, hA2, hnC⟩ := hS
      refine ⟨n, l, T, N, U, K, ⟨rv_a hR (c0 _ (by omega) (by omega) (by omega)) (c0 _ (by omega) (by omega) (by omega)) (fun j h1 h2 => ne j (by omega)), hC.of (fun c h1 h2 => c0 c (by omega) (by omega) (by omega)) (fun j h1 h2 => ne j (by omega)) hP.c8, ?_, ?_, ?_, hn.of (fun b hb => ne _ (by omega)), ?_, hnC⟩, ?_, dB_of hd (c0 _ (by omega) (by omega) (by omega)), by rw [eQ]; omega, ?_, hK.of (fun j hj => ne j (by omega)), by omega, by rw [eQ]; omega, by rw [eQ]; omega, by rw [eQ]; omega⟩
      · rw [setT_congr _ (33 + 4) (fun j hj => ne j (by omega))]
        exact setT_of hT (fun c h1 h2 => c0 c (by omega) (by omega) (by omega))
      · rw [c0 _ (by omega) (by omega) (by omega), ne _ (by omega)]; exact hau
      · rw [ne _ (by omega)]; exact hau2
      · obtain ⟨a1, a2, a3, a4, a5, a6⟩ := hA2
        rw [eQ]
        refine ⟨by rw [c0 _ (by omega) (by omega) (by omega)]; exact a1, by rw [ne _ (by omega)]; exact a2, fun i hi => ?_, by rw [c0 _ (by omega) (by omega) (by omega)]; exact a4, by rw [ne _ (by omega)]; exact a5, fun i hi => by rw [c0 _ (by omega) (by omega) (by omega), ne _ (by omega)]; exact a6 i hi⟩
        rw [up_a _ _ _ (by omega), show 1441 + 0 + i = 1441 + i by omega, sq i (by omega)]
        exact G51 i (by omega)
      · intro b z1 z2
        obtain ⟨y1, y2⟩ := hZ b z1 z2
        exact ⟨by rw [ne _ (by omega)]; exact y1, fun r hr => by rw [ne _ (by omega)]; exact y2 r hr⟩
      · rw [eQ]
        intro j hj
        rw [eq j hj, sq j hj]
        exact ⟨(q4 _ (b3 j hj)).1, rfl⟩
    · rw [upA_ne _ _ (by omega), upA_ne _ _ (by omega)]; exact F4 c (by omega) (by omega) (by omega) (by omega) (by omega) (by omega)
    · rw [upA_ne _ _ (by decide), upA_ne _ _ (by decide), Z3 _ (by decide) (by decide) (by decide), k0 0 (by decide)]
    · rw [upA_ne _ _ (by decide), upA_ne _ _ (by decide), Z3 _ (by decide) (by decide) (by decide), k0 0 (by decide)]
    · rw [upA_ne _ _ (by decide), upA_ne _ _ (by decide), Z3 _ (by decide) (by decide) (by decide), k0 0 (by decide)]
  · rw [if_neg (show ¬ nI (QA (M1 1)) ≤ 6 from nI_ge (a := 6) (by omega) (by omega)), bX_ex, if_pos (show (6 : Int32) < nI (QA (M1 1)) from nI_lt (a := 6) (by omega) (by omega)), may_F1 t0, bnd_some, if_neg nn00]
    exact stp_ex 0 eIS rfl rfl rfl hI
end RO
