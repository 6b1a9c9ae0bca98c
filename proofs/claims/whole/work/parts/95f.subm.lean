/-! ===== line, submit, isConflict, longestChain, wouldFinish ===== -/
section SU
variable {Mx Mm : Mem} {m : Nat}
theorem s_line (h : Inv m Mx Mm) (x y : Int32) : CallR m [eIO] (f_X9_line x y Mx) (f_X10_line x y Mm) := by
  obtain ⟨M1, e1, t0, hI⟩ := inv_0 h
  obtain ⟨pr, nB, hP, hS, -⟩ := id hI
  unfold f_X10_line f_X9_line j_X10_line_63
  rw [wrt_def, e1]
  by_cases hx : okR (M1 5) x y
  · obtain ⟨⟨b, hb, rfl⟩, ⟨r, hr, rfl⟩⟩ := id hx
    have h0 := hP.n0
    have h1 := hP.n1
    have h2 := hP.n2
    obtain ⟨n, l, T, hT, hn, hR, hC, -⟩ := hS.c
    rw [mRw_T hP hx, may_T t0, bnd_some, if_pos ne10, rqRw_T hP hx, bX_ok]
    by_cases q : ∃ i, i < n ∧ isL (M1 1) b r i
    · obtain ⟨i, hi, hL⟩ := q
      obtain ⟨x1, m1⟩ := hC.found hi (by omega) (by omega) hL
      have n8 := hC.n8
      have l8 := hC.l8 i hi
      obtain ⟨b', r', hb', hr', hL', f1, f2, fd, fw⟩ := hC.line i hi
      have eb : b' = b := (nI_eq (by omega) (by omega)).mp (hL'.1.symm.trans hL.1)
      have er : r' = r := (nI_eq (by omega) (by omega)).mp (hL'.2.symm.trans hL.2)
      subst eb
      subst er
      have f1 : Mx 46 (l i) = nI (16 * b' + r') := f1
      have f2 : Mx 47 (l i) = M1 1 (cl i 2) := f2
      have fw : ∀ k, k < ix (M1 5 2) → Mx 49 (8 * l i + k) = M1 1 (cl i (3 + k)) := fw
      have fv : ∀ k, k < ix (M1 5 2) → Mx 35 (8 * (16 * b' + r') + k) = M1 1 (wdP b' r' k) := fun k hk => by
        have e : Mx 35 (8 * (16 * b' + r') + k) = M1 1 (160 + (8 * (16 * b' + r') + k)) := hR.1 _ (by omega) (by omega)
        rw [e, show wdP b' r' k = 160 + (8 * (16 * b' + r') + k) by unfold wdP; omega]
      have xs : ∀ k, k < ix (M1 5 2) → ∀ K, l_X1_differs_3 45 (nI (l i)) (nI (ix (M1 5 2))) 34 K (nI k, Mx) = if M1 1 (cl i (3 + k)) = M1 1 (wdP b' r' k) then K (nI (k + 1), Mx) else some (1, Mx) := by
        intro k hk K
        simp only [l_X1_differs_3]
        rw [if_neg (nI_ge hk (by omega)), show (8 : Int32) = nI 8 from rfl, pk_mul, nI_add, if_pos (of_eq_true (inb_T (by first | omega | (unfold wdP; omega) | (unfold lnP; omega) | (unfold cl; omega)) (by omega))), if_pos (of_eq_true (inb_T (by first | omega | (unfold wdP; omega) | (unfold lnP; omega) | (unfold cl; omega)) (by omega))), ix_nI (by omega), ix_nI (by omega), show Mx (45 + 1) (l i) = nI (16 * b' + r') from f1, pk_mul, nI_add, if_pos (of_eq_true (inb_T (by first | omega | (unfold wdP; omega) | (unfold lnP; omega) | (unfold cl; omega)) (by omega))), ix_nI (by omega), show l i * 8 + k = 8 * l i + k by omega, show (16 * b' + r') * 8 + k = 8 * (16 * b' + r') + k by omega, show Mx (45 + 4) (8 * l i + k) = _ from fw k hk, show Mx (34 + 1) (8 * (16 * b' + r') + k) = _ from fv k hk, nI_1]
      have ms : ∀ k, k < ix (M1 5 2) → ∀ K, l_X10_differs_2 (nI i) K (nI k, M1) = if M1 1 (cl i (3 + k)) = M1 1 (wdP b' r' k) then K (nI (k + 1), M1) else some (1, M1) := by
        intro k hk K
        simp only [l_X10_differs_2]
        rw [hP.ws.2.2.2.2.2.2.1, if_neg (nI_ge hk (by omega)), m_cell3, m_cell0, m_cell1, if_pos (of_eq_true (inb_T (by first | omega | (unfold wdP; omega) | (unfold lnP; omega) | (unfold cl; omega)) (by omega))), if_pos (of_eq_true (inb_T (by first | omega | (unfold wdP; omega) | (unfold lnP; omega) | (unfold cl; omega)) (by omega))), if_pos (of_eq_true (inb_T (by first | omega | (unfold wdP; omega) | (unfold lnP; omega) | (unfold cl; omega)) (by omega))), ix_nI (by unfold cl; omega), ix_nI (by unfold cl; omega), ix_nI (by unfold cl; omega), hL.1, hL.2, m_word, if_pos (of_eq_true (inb_T (by first | omega | (unfold wdP; omega) | (unfold lnP; omega) | (unfold cl; omega)) (by omega))), ix_nI (by unfold wdP; omega), nI_1]
      have both : ∃ d : Int32, (d = 0 ∨ d = 1) ∧ f_X1_differs 45 (nI (l i)) (nI (ix (M1 5 2))) 34 Mx = some (d, Mx) ∧ f_X10_differs (nI i) M1 = some (d, M1) := by
        unfold f_X1_differs f_X10_differs
        by_cases q2 : ∃ k, k < ix (M1 5 2) ∧ ¬ M1 1 (cl i (3 + k)) = M1 1 (wdP b' r' k)
        · obtain ⟨k, hk, hk2, hk3⟩ := least_of q2
          refine ⟨1, Or.inr rfl, loop_run k (fun k => (nI k, Mx)) rfl (by omega) (fun j hj K => ?_) (fun K => ?_), loop_run k (fun k => (nI k, M1)) rfl (by omega) (fun j hj K => ?_) (fun K => ?_)⟩
          · rw [xs j (by omega), if_pos (Classical.not_not.mp (fun z => hk3 j hj z))]
          · rw [xs k hk, if_neg hk2]
          · rw [ms j (by omega), if_pos (Classical.not_not.mp (fun z => hk3 j hj z))]
          · rw [ms k hk, if_neg hk2]
        · have al : ∀ k, k < ix (M1 5 2) → M1 1 (cl i (3 + k)) = M1 1 (wdP b' r' k) := fun k hk => Classical.not_not.mp (fun z => q2 ⟨k, hk, z⟩)
          refine ⟨0, Or.inl rfl, loop_run (ix (M1 5 2)) (fun k => (nI k, Mx)) rfl (by omega) (fun j hj K => ?_) (fun K => ?_), loop_run (ix (M1 5 2)) (fun k => (nI k, M1)) rfl (by omega) (fun j hj K => ?_) (fun K => ?_)⟩
          · rw [xs j hj, if_pos (al j hj)]
          · simp only [l_X1_differs_3]
            rw [if_pos (nI_le (Nat.le_refl _) (by omega))]
          · rw [ms j hj, if_pos (al j hj)]
          · simp only [l_X10_differs_2]
            rw [if_pos (show M1 5 2 ≤ nI (ix (M1 5 2)) from by rw [← hP.ws.2.2.2.2.2.2.1]; exact Int32.le_refl _)]
      obtain ⟨d, hd, xd, md⟩ := both
      rw [x1, m1, bnd_some, bnd_some, if_pos (ne_m1 (by omega)), if_pos (ne_m1 (by omega)), m_cell2, if_pos (of_eq_true (inb_T (by first | omega | (unfold wdP; omega) | (unfold lnP; omega) | (unfold cl; omega)) (by omega))), if_pos (of_eq_true (inb_T (by first | omega | (unfold wdP; omega) | (unfold lnP; omega) | (unfold cl; omega)) (by omega))), ix_nI (by omega), ix_nI (by unfold cl; omega)]
      show CallR m [eIO] (if ¬ Mx 0 5 < 0 ∧ blkD KSx (ix (Mx 0 5)) blk4 then bnd (f_X1_differs 45 (nI (l i)) (Mx (ix (Mx 0 5)) 2) 34 Mx) (fun v9 M10 => some (rOk (if v9 = 0 then (if Mx 47 (l i) = 0 then (1 : Int32) else 2) else (if Mx 47 (l i) = 0 then (1 : Int32) else 2) + 4), M10)) else none) _
      rw [if_pos hP.pp, hP.ixp, hP.d2, xd, md, bnd_some, bnd_some, f2]
      refine stp_ok _ Mx M1 rfl ?_ t0 hI.next
      rcases fd with z | z <;> rcases hd with z2 | z2 <;> rw [z, z2] <;> rfl
    · obtain ⟨x1, m1⟩ := hC.nofound (b := b) (r := r) (by omega) (by omega) (fun i hi z => q ⟨i, hi, z⟩)
      rw [x1, m1, bnd_some, bnd_some, if_neg (fun z => z rfl), if_neg (fun z => z rfl)]
      exact stp_ok 0 Mx M1 rfl rfl t0 hI.next
  · rw [mRw_F hP hx, may_F1 t0, bnd_some, if_neg nn00, rqRw_F hP hx, bX_ex]
    exact stp_ex 0 eIO rfl rfl rfl hI
theorem s_isConflict (h : Inv m Mx Mm) (x y : Int32) : CallR m [eIO] (f_X9_isConflict x y Mx) (f_X10_isConflict x y Mm) := by
  obtain ⟨M1, e1, t0, hI⟩ := inv_0 h
  obtain ⟨pr, nB, hP, hS, -⟩ := id hI
  unfold f_X10_isConflict f_X9_isConflict j_X10_isConflict_47 j_X10_isConflict_48
  rw [wrt_def, e1]
  have no : (if p_X10_isBatch x M1 = 0 then (0 : Int32) else if p_X10_isBatch y M1 = 0 then (0 : Int32) else 1) = 0 → CallR m [eIO] (some (rEx eIO, Mx)) (bnd (f_X10_may (if p_X10_isBatch x M1 = 0 then (0 : Int32) else if p_X10_isBatch y M1 = 0 then (0 : Int32) else 1) 1 M1) (fun v3 M4 => if v3 = 0 then (if isB 0 then some (0, M4) else none) else bnd (f_X10_meets x y M4) (fun v7 M8 => some ((if v7 = 0 then (0 : Int32) else (1 : Int32)), M8)))) := by
    intro z
    rw [z, may_F1 t0, bnd_some, if_pos rfl, if_pos (Or.inl rfl)]
    exact stp_ex 0 eIO rfl rfl rfl hI
  by_cases hx : okN x nB
  · by_cases hy : okN y nB
    · obtain ⟨k, hk, rfl⟩ := id hx
      obtain ⟨j, hj, rfl⟩ := id hy
      have h12 := hP.nb.1
      obtain ⟨wk, -, uk⟩ := hP.2.2.2.1.2.2.2.2.2.2 k hk
      obtain ⟨wj, -, uj⟩ := hP.2.2.2.1.2.2.2.2.2.2 j hj
      obtain ⟨u, w, mm⟩ := m_meets hP.ws wk wj
      rw [mBt_T hP hx, mBt_T hP hy, if_neg ne10, if_neg ne10, may_T t0, bnd_some, if_neg ne10, mm, bnd_some, rqBt_T hP hx, bX_ok, rqBt_T hP hy, bX_ok, if_pos hP.pp, hP.ixp, x_conf (by omega) (by omega) uk uj, bnd_some]
      have ec : cfI (M1 5) k j = 0 ∨ cfI (M1 5) k j = 1 := by
        unfold cfI
        split
        · exact Or.inr rfl
        · exact Or.inl rfl
      rw [if_pos ec]
      refine stp_ok _ Mx (st2 M1 u w) rfl ?_ ?_ ?_
      · rcases ec with z | z <;> rw [z] <;> rfl
      · unfold st2
        rw [upA_eq, upd_ne _ _ (by decide), upd_ne _ _ (by decide)]; exact t0
      · refine hI.keep (by omega) (fun _ _ => rfl) (fun c hc => st2_ne _ _ _ (by omega)) ?_ ?_ ?_ <;> (unfold st2; rw [upA_eq, upd_ne _ _ (by decide), upd_ne _ _ (by decide)])
    · have z := no (by rw [mBt_T hP hx, mBt_F hP hy]; rfl)
      rw [rqBt_T hP hx, bX_ok, rqBt_F hP hy, bX_ex]
      exact z
  · have z := no (by rw [mBt_F hP hx]; rfl)
    rw [rqBt_F hP hx, bX_ex]
    exact z
theorem s_longestChain (h : Inv m Mx Mm) : CallN m (f_X9_longestChain Mx) (f_X10_longestChain Mm) := by
  obtain ⟨M1, e1, t0, hI⟩ := inv_0 h
  obtain ⟨pr, nB, hP, hS, -⟩ := id hI
  obtain ⟨q1, q2, q3, q4, -⟩ := hS.q
  have h12 := hP.nb.1
  have bt := hP.2.2.2.1.2.2.2.2.2.2
  unfold f_X10_longestChain f_X9_longestChain
  rw [wrt_def, e1]
  obtain ⟨u, w, mc⟩ := m_chain (M := M1) (Q := QA (M1 1)) (qb := qbA (M1 1)) hP.ws q3 q2 (fun i hi => ⟨(q4 i hi).2.1, (bt _ (q4 i hi).1).1⟩)
  have xc := x_chain (M := Mx) (pr := pr) (g := 50) (Q := QA (M1 1)) (p := M1 5) (qb := qbA (M1 1)) (by rcases hP.2.1 with z | z <;> omega) (by omega) q3 q1 (fun i hi => ⟨(q4 i hi).2.2, by have := (q4 i hi).1; omega, (bt _ (q4 i hi).1).2.2⟩)
  rw [mc, if_pos hP.pp, hP.ixp, xc, bnd_some]
  refine ⟨_, _, upA (st2 M1 u w) 9 (chO (M1 5) (qbA (M1 1)) (QA (M1 1)) (M1 9)).2, rfl, ?_, hI.keep (by omega) (fun c hc => upA_ne _ _ (by omega)) (fun c hc => ?_) ?_ ?_ ?_⟩
  · rw [(chO_eq (M1 9) (Mx 119)).1]
  · rw [upA_ne _ _ (by omega)]; exact st2_ne _ _ _ (by omega)
  · rw [upA_ne _ _ (by decide)]; unfold st2; rw [upA_eq, upd_ne _ _ (by decide), upd_ne _ _ (by decide)]
  · rw [upA_ne _ _ (by decide)]; unfold st2; rw [upA_eq, upd_ne _ _ (by decide), upd_ne _ _ (by decide)]
  · rw [upA_ne _ _ (by decide)]; unfold st2; rw [upA_eq, upd_ne _ _ (by decide), upd_ne _ _ (by decide)]
theorem s_submit (h : Inv m Mx Mm) (x : Int32) : CallR m [eIO, eIS] (f_X9_submit x Mx) (f_X10_submit x Mm) := by
  obtain ⟨M1, e1, t0, hI⟩ := inv_0 h
  obtain ⟨pr, nB, hP, hS, -⟩ := id hI
  obtain ⟨q1, q2, q3, q4, -⟩ := hS.q
  unfold f_X10_submit f_X9_submit j_X10_submit_44
  rw [wrt_def, e1]
  by_cases hx : okN x nB
  · rw [mBt_T hP hx, may_T t0, bnd_some, if_neg ne10, rqBt_T hP hx, bX_ok, q1, q2]
    by_cases hQ : QA (M1 1) < 16
    · obtain ⟨k, hk, rfl⟩ := id hx
      have h12 := hP.nb.1
      rw [if_pos (show nI (QA (M1 1)) < 16 from nI_lt (b := 16) hQ (by omega)), if_neg (show ¬ (16 : Int32) ≤ nI (QA (M1 1)) from nI_ge (b := 16) hQ (by omega)), may_T t0, bnd_some, if_pos ne10]
      unfold f_X0_addBatch f_X3_forgetPlan
      rw [q1, q2, n1441, nI_add, if_pos (of_eq_true (inb_T (by first | omega | (unfold wdP; omega) | (unfold lnP; omega) | (unfold cl; omega)) (by omega))), if_pos (of_eq_true (inb_T (by first | omega | (unfold wdP; omega) | (unfold lnP; omega) | (unfold cl; omega)) (by omega))), ix_nI (by omega), ix_nI (by omega), wrt_def, wrt_def]
      generalize hQe : QA (M1 1) = Q at *
      have g1 : (up Mx (50 + 1) Q (nI k)) 50 1 = nI Q := by rw [up_a _ _ _ (by omega)]; exact q1
      have g2 : (up M1 1 (1441 + Q) (nI k)) 1 1440 = nI Q := by rw [up_i _ _ (by omega)]; exact q2
      rw [g1, bnd_some, wrt_def, bnd_some, wrt_def, g2, wrt_def, n1, nI_add, up_eq]
      have g3 : (up (up (up Mx (50 + 1) Q (nI k)) 50 1 (nI (Q + 1))) 114 0 0) 50 1 = nI (Q + 1) := by rw [up_a _ _ _ (by omega), up_eq]
      rw [g3]
      have c0 : ∀ c, c ≠ 50 → c ≠ 51 → c ≠ 114 → (up (up (up Mx (50 + 1) Q (nI k)) 50 1 (nI (Q + 1))) 114 0 0) c = Mx c := fun c z1 z2 z3 => by rw [up_a _ _ _ z3, up_a _ _ _ z1, up_a _ _ _ (by omega)]
      have eM : up (up M1 1 (1441 + Q) (nI k)) 1 1440 (nI (Q + 1)) = upA M1 1 (upd (upd (M1 1) (1441 + Q) (nI k)) 1440 (nI (Q + 1))) := by rw [up_as, up_as, upA_eq, upA_upA]
      rw [eM]
      have ne : ∀ j, j ≠ 1440 → j ≠ 1441 + Q → upd (upd (M1 1) (1441 + Q) (nI k)) 1440 (nI (Q + 1)) j = M1 1 j := fun j z1 z2 => by rw [upd_ne _ _ z1, upd_ne _ _ z2]
      have eQ : QA (upd (upd (M1 1) (1441 + Q) (nI k)) 1440 (nI (Q + 1))) = Q + 1 := by unfold QA; rw [upd_eq, ix_nI (by omega)]
      have eq : ∀ j, j < Q → qbA (upd (upd (M1 1) (1441 + Q) (nI k)) 1440 (nI (Q + 1))) j = qbA (M1 1) j := fun j hj => by unfold qbA; rw [if_pos (by omega), if_pos (by omega), ne _ (by omega) (by omega)]
      have eq2 : qbA (upd (upd (M1 1) (1441 + Q) (nI k)) 1440 (nI (Q + 1))) Q = k := by unfold qbA; rw [if_pos (by omega), upd_ne _ _ (by omega), upd_eq, ix_nI (by omega)]
      refine stp_ok (nI (Q + 1)) _ _ rfl rfl (by rw [upA_ne _ _ (by omega)]; exact t0) (hI.state (a2 := upd (upd (M1 1) (1441 + Q) (nI k)) 1440 (nI (Q + 1))) (fun pr2 nB2 hP2 => ?_) (fun c hc => c0 c (by omega) (by omega) (by omega)) (upA_eq _ _ _) (fun c hc => upA_ne _ _ (by omega)) (by rw [upA_ne _ _ (by omega)]) (by rw [upA_ne _ _ (by omega)]) (by rw [upA_ne _ _ (by omega)]) (Or.inl (up_eq _ _ _ _)))
      rw [hP.uniq hP2]
      obtain ⟨n, l, T, N, U, K, hS, hZ, hd, -, hq, hK, b1, b2, b3, b4⟩ := hS
      rw [hQe] at hS hq b2 b3 b4
      obtain ⟨hR, hC, hT, hau, hau2, hn, hA, hnC⟩ := hS
      refine ⟨n, l, T, N, U, K, ⟨rv_a hR (c0 _ (by omega) (by omega) (by omega)) (c0 _ (by omega) (by omega) (by omega)) (fun j h1 h2 => ne j (by omega) (by omega)), hC.of (fun c h1 h2 => c0 c (by omega) (by omega) (by omega)) (fun j h1 h2 => ne j (by omega) (by omega)) hP.c8, ?_, ?_, ?_, hn.of (fun b hb => ne _ (by omega) (by omega)), ?_, hnC⟩, ?_, dB_of hd (c0 _ (by omega) (by omega) (by omega)), by rw [eQ]; omega, ?_, hK.of (fun j hj => ne j (by omega) (by omega)), by omega, by rw [eQ]; omega, by rw [eQ]; omega, by rw [eQ]; omega⟩
      · rw [setT_congr _ (33 + 4) (fun j hj => ne j (by omega) (by omega))]
        exact setT_of hT (fun c h1 h2 => c0 c (by omega) (by omega) (by omega))
      · rw [c0 _ (by omega) (by omega) (by omega), ne _ (by omega) (by omega)]; exact hau
      · rw [ne _ (by omega) (by omega)]; exact hau2
      · obtain ⟨a1, a2, a3, a4, a5, a6⟩ := hA
        rw [eQ]
        refine ⟨g3, upd_eq _ _ _, fun i hi => ?_, ?_, by rw [ne _ (by omega) (by omega)]; exact a5, fun i hi => by rw [c0 _ (by omega) (by omega) (by omega), ne _ (by omega) (by omega)]; exact a6 i hi⟩
        · rw [up_a _ _ _ (by omega), up_a _ _ _ (by omega)]
          by_cases z : i = Q
          · rw [z, show 33 + 17 + 1 = 50 + 1 from rfl, up_eq, show 1441 + 0 + Q = 1441 + Q by omega, upd_ne _ _ (by omega), upd_eq]
          · rw [show 33 + 17 + 1 = 50 + 1 from rfl, up_i _ _ z, ne _ (by omega) (by omega)]
            exact a3 i (by omega)
        · rw [up_a _ _ _ (by omega), show 33 + 17 = 50 from rfl, up_i _ _ (by omega), up_a _ _ _ (by omega)]; exact a4
      · intro b z1 z2
        obtain ⟨y1, y2⟩ := hZ b z1 z2
        exact ⟨by rw [ne _ (by omega) (by omega)]; exact y1, fun r hr => by rw [ne _ (by omega) (by omega)]; exact y2 r hr⟩
      · rw [eQ]
        intro j hj
        by_cases z : j = Q
        · rw [z, eq2, upd_ne _ _ (by omega), upd_eq]; exact ⟨hk, rfl⟩
        · rw [eq j (by omega), ne _ (by omega) (by omega)]; exact hq j (by omega)
    · rw [if_neg (show ¬ nI (QA (M1 1)) < 16 from nI_nlt (b := 16) (by omega) (by omega)), if_pos (show (16 : Int32) ≤ nI (QA (M1 1)) from nI_le (a := 16) (by omega) (by omega)), may_F2 t0, bnd_some, if_neg nn00]
      exact stp_ex 1 eIS rfl rfl rfl hI
  · rw [mBt_F hP hx, may_F1 t0, bnd_some, if_pos rfl, rqBt_F hP hx, bX_ex]
    exact stp_ex 0 eIO rfl rfl rfl hI
end SU
