/-! ===== more calls that only look, and the text ===== -/
section MR
variable {Mx Mm : Mem} {m : Nat}
theorem IS.q {p : Nat → Int32} {nB : Nat} {a : Nat → Int32} (h : IS p nB Mx 33 a m) : Mx 50 1 = nI (QA a) ∧ a 1440 = nI (QA a) ∧ QA a ≤ 16 ∧ (∀ k, k < QA a → qbA a k < nB ∧ a (1441 + k) = nI (qbA a k) ∧ Mx 51 k = nI (qbA a k)) ∧ ∃ U, U ≤ m ∧ Mx 50 3 = nI U ∧ a 1457 = nI U ∧ ∀ i, i < min 120 (3 * U) → Mx 52 i = a (1458 + i) := by
  obtain ⟨n, l, T, N, U, K, hS, -, -, hQ, hq, -, -, -, b3, -⟩ := h
  obtain ⟨-, -, -, -, -, -, hA, -⟩ := hS
  obtain ⟨g1, g2, g3, g4, g5, g6⟩ := hA
  refine ⟨g1, g2, hQ, fun k hk => ⟨(hq k hk).1, (hq k hk).2, ?_⟩, U, by omega, g4, g5, g6⟩
  have := g3 k (by omega)
  rw [show 1441 + 0 + k = 1441 + k by omega, (hq k hk).2] at this
  exact this
theorem IS.c {p : Nat → Int32} {nB : Nat} {a : Nat → Int32} (h : IS p nB Mx 33 a m) : ∃ n l T, T ≤ m ∧ n ≤ ix (p 11) ∧ RV (ix (p 2)) Mx 34 a ∧ RC (ix (p 2)) Mx 45 a n l T ∧ Mx 33 4 = a 1670 ∧ (a 1670 = 0 ∨ a 1670 = 1) := by
  obtain ⟨n, l, T, N, U, K, hS, -, -, -, -, -, b1, -⟩ := h
  obtain ⟨hR, hC, -, hau, hau2, -, -, hnC⟩ := hS
  exact ⟨n, l, T, b1, hnC, hR, hC, hau, hau2⟩
theorem sw7 {x : Int32} (h : okN x 7) : x = 0 ∨ x = 1 ∨ x = 2 ∨ x = 3 ∨ x = 4 ∨ x = 5 ∨ x = 6 := by
  obtain ⟨k, hk, rfl⟩ := h
  rcases (show k = 0 ∨ k = 1 ∨ k = 2 ∨ k = 3 ∨ k = 4 ∨ k = 5 ∨ k = 6 by omega) with e | e | e | e | e | e | e <;> subst e
  · exact Or.inl rfl
  · exact Or.inr (Or.inl rfl)
  · exact Or.inr (Or.inr (Or.inl rfl))
  · exact Or.inr (Or.inr (Or.inr (Or.inl rfl)))
  · exact Or.inr (Or.inr (Or.inr (Or.inr (Or.inl rfl))))
  · exact Or.inr (Or.inr (Or.inr (Or.inr (Or.inr (Or.inl rfl)))))
  · exact Or.inr (Or.inr (Or.inr (Or.inr (Or.inr (Or.inr rfl)))))
theorem ok_ne {x : Int32} {n k : Nat} (h : ¬ okN x n) (hk : k < n) : ¬ x = nI k := fun e => h ⟨k, hk, e⟩
theorem s_count (h : Inv m Mx Mm) (x : Int32) : CallR m [eIA] (f_X9_count x Mx) (f_X10_count x Mm) := by
  obtain ⟨M1, e1, t0, hI⟩ := inv_0 h
  obtain ⟨pr, nB, hP, hS, -⟩ := id hI
  unfold f_X10_count j_X10_count_93 f_X9_count
  rw [wrt_def, e1]
  by_cases hx : okN x 7
  · rw [show p_X10_isIn x 0 6 = 1 from m_in_T (n := 7) hx (by omega), may_T t0, bnd_some, if_pos ne10]
    obtain ⟨q1, q2, -, -, U, -, u1, u2, -⟩ := hS.q
    obtain ⟨n, l, T, -, -, -, hC, -⟩ := hS.c
    obtain ⟨b1, b2, b3⟩ := hP.nb
    have w0 := hP.ws.1
    have w1 := hP.ws.2.2.2.1
    have w2 := hP.ws.2.2.2.2.2.2.1
    rcases sw7 hx with rfl | rfl | rfl | rfl | rfl | rfl | rfl
    · rw [if_pos rfl, if_pos hP.pp, hP.ixp, hP.d0, if_neg (by decide), if_pos (by decide)]
      exact stp_ok (nI (ix (M1 5 0))) Mx M1 rfl (by rw [show ix (0 + 0) = 0 from rfl, ← w0]) t0 hI.next
    · rw [if_neg (by decide), if_pos rfl, if_pos hP.pp, hP.ixp, hP.d1, if_neg (by decide), if_pos (by decide)]
      exact stp_ok (nI (ix (M1 5 1))) Mx M1 rfl (by rw [show ix (0 + 1) = 1 from rfl, ← w1]) t0 hI.next
    · rw [if_neg (by decide), if_neg (by decide), if_pos rfl, if_pos hP.pp, hP.ixp, hP.d2, if_neg (by decide), if_pos (by decide)]
      exact stp_ok (nI (ix (M1 5 2))) Mx M1 rfl (by rw [show ix (0 + 2) = 2 from rfl, ← w2]) t0 hI.next
    · rw [if_neg (by decide), if_neg (by decide), if_neg (by decide), if_pos rfl, if_pos hP.pp, hP.ixp, b3, if_pos (by decide), if_neg (by decide), b2]
      exact stp_ok (nI nB) Mx M1 rfl rfl t0 hI.next
    · rw [if_neg (by decide), if_neg (by decide), if_neg (by decide), if_neg (by decide), if_pos rfl, q1, if_pos (by decide), if_pos (by decide), if_neg (by decide), q2]
      exact stp_ok (nI (QA (M1 1))) Mx M1 rfl rfl t0 hI.next
    · rw [if_neg (by decide), if_neg (by decide), if_neg (by decide), if_neg (by decide), if_neg (by decide), if_pos rfl, u1, if_pos (by decide), if_pos (by decide), if_pos (by decide), if_neg (by decide), u2]
      exact stp_ok (nI U) Mx M1 rfl rfl t0 hI.next
    · rw [if_neg (by decide), if_neg (by decide), if_neg (by decide), if_neg (by decide), if_neg (by decide), if_neg (by decide), if_pos rfl, hC.count, bnd_some, if_pos (by decide), if_pos (by decide), if_pos (by decide), if_pos (by decide), hC.cnt]
      exact stp_ok (nI n) Mx M1 rfl rfl t0 hI.next
  · rw [show p_X10_isIn x 0 6 = 0 from m_in_F (n := 7) hx (by omega), may_F1 t0, bnd_some, if_neg nn00]
    rw [if_neg (show ¬ x = 0 from ok_ne hx (k := 0) (by omega)), if_neg (show ¬ x = 1 from ok_ne hx (k := 1) (by omega)), if_neg (show ¬ x = 2 from ok_ne hx (k := 2) (by omega)), if_neg (show ¬ x = 3 from ok_ne hx (k := 3) (by omega)), if_neg (show ¬ x = 4 from ok_ne hx (k := 4) (by omega)), if_neg (show ¬ x = 5 from ok_ne hx (k := 5) (by omega)), if_neg (show ¬ x = 6 from ok_ne hx (k := 6) (by omega))]
    exact stp_ex 0 eIA rfl rfl rfl hI
theorem s_cache (h : Inv m Mx Mm) (x : Int32) : CallR m [eIA] (f_X9_cache x Mx) (f_X10_cache x Mm) := by
  obtain ⟨M1, e1, t0, hI⟩ := inv_0 h
  obtain ⟨pr, nB, hP, hS, -⟩ := id hI
  unfold f_X10_cache j_X10_cache_33 f_X9_cache
  rw [wrt_def, e1]
  by_cases hx : okN x 3
  · rw [show p_X10_isIn x 0 2 = 1 from m_in_T (n := 3) hx (by omega), may_T t0, bnd_some, if_neg ne10]
    obtain ⟨n, l, T, -, -, -, hC, -⟩ := hS.c
    obtain ⟨k, hk, rfl⟩ := id hx
    rw [n1667, nI_add, if_pos (of_eq_true (inb_T (by first | omega | (unfold wdP; omega) | (unfold lnP; omega) | (unfold cl; omega)) (by omega))), ix_nI (by omega)]
    rcases (show k = 0 ∨ k = 1 ∨ k = 2 by omega) with e | e | e <;> subst e
    · rw [if_pos (show nI 0 = 0 from rfl), hC.hit]
      exact stp_ok _ Mx M1 rfl rfl t0 hI.next
    · rw [if_neg (by decide), if_pos (show nI 1 = 1 from rfl), hC.mis]
      exact stp_ok _ Mx M1 rfl rfl t0 hI.next
    · rw [if_neg (by decide), if_neg (by decide), if_pos (show nI 2 = 2 from rfl), hC.wrb]
      exact stp_ok _ Mx M1 rfl rfl t0 hI.next
  · rw [show p_X10_isIn x 0 2 = 0 from m_in_F (n := 3) hx (by omega), may_F1 t0, bnd_some, if_pos rfl]
    rw [if_neg (show ¬ x = 0 from ok_ne hx (k := 0) (by omega)), if_neg (show ¬ x = 1 from ok_ne hx (k := 1) (by omega)), if_neg (show ¬ x = 2 from ok_ne hx (k := 2) (by omega))]
    exact stp_ex 0 eIA rfl rfl rfl hI
theorem s_queued (h : Inv m Mx Mm) (x : Int32) : CallR m [eIO] (f_X9_queued x Mx) (f_X10_queued x Mm) := by
  obtain ⟨M1, e1, t0, hI⟩ := inv_0 h
  obtain ⟨pr, nB, hP, hS, -⟩ := id hI
  obtain ⟨q1, q2, q3, q4, -⟩ := hS.q
  unfold f_X10_queued j_X10_queued_42 f_X9_queued j_X9_queued_18
  rw [wrt_def, e1, q1, q2]
  by_cases hx : okN x (QA (M1 1))
  · rw [m_in_T hx (by omega), may_T t0, bnd_some, if_neg ne10, rq_T hx (by omega)]
    obtain ⟨k, hk, rfl⟩ := id hx
    rw [n1441, nI_add, if_pos (of_eq_true (inb_T (by first | omega | (unfold wdP; omega) | (unfold lnP; omega) | (unfold cl; omega)) (by omega))), if_pos (of_eq_true (inb_T (by first | omega | (unfold wdP; omega) | (unfold lnP; omega) | (unfold cl; omega)) (by omega))), ix_nI (by omega), ix_nI (by omega), (q4 k hk).2.2, (q4 k hk).2.1]
    exact stp_ok _ Mx M1 rfl rfl t0 hI.next
  · rw [m_in_F hx (by omega), may_F1 t0, bnd_some, if_pos rfl, rq_F hx]
    exact stp_ex 0 eIO rfl rfl rfl hI
theorem s_runOf (h : Inv m Mx Mm) (hm : m < 512) (x y : Int32) : CallR m [eIO, eIA] (f_X9_runOf x y Mx) (f_X10_runOf x y Mm) := by
  obtain ⟨M1, e1, t0, hI⟩ := inv_0 h
  obtain ⟨pr, nB, hP, hS, -⟩ := id hI
  obtain ⟨-, -, -, -, U, u0, u1, u2, u3⟩ := hS.q
  unfold f_X10_runOf j_X10_runOf_71 f_X9_runOf j_X9_runOf_28 j_X9_runOf_47
  rw [wrt_def, e1, u1, u2]
  have no : CallR m [eIO, eIA] (some (rEx "java/lang/IndexOutOfBoundsException", Mx)) (bnd (f_X10_may 0 1 M1) (fun v3 M4 => if v3 = 0 then some (0, M4) else bnd (f_X10_may (p_X10_isIn y 0 2) 2 M4) (fun v6 M7 => if ¬ v6 = 0 then if inb ((1458 + (3 * (jrem x 40))) + y) 1671 then some (M7 1 (ix ((1458 + (3 * (jrem x 40))) + y)), M7) else none else some (0, M7)))) := by
    rw [may_F1 t0, bnd_some, if_pos rfl]
    exact stp_ex 0 eIO rfl rfl rfl hI
  by_cases hx0 : x < 0
  · rw [if_pos hx0]
    have : p_X10_isIn x (if nI U ≤ 40 then (0 : Int32) else nI U - 40) (nI U - 1) = 0 := by
      refine m_isIn_F (fun ⟨z1, z2⟩ => ?_)
      by_cases q : U ≤ 40
      · rw [if_pos (show nI U ≤ 40 from nI_le (b := 40) q (by omega))] at z1
        exact (i32_nlt.mpr z1) hx0
      · rw [if_neg (show ¬ nI U ≤ 40 from nI_ge (a := 40) (by omega) (by omega)), show nI U - 40 = nI (U - 40) from ss (a := U) (b := 40) (by omega)] at z1
        have : ¬ nI (U - 40) < 0 := nI_pos (by omega)
        exact this (Int32.lt_of_le_of_lt z1 hx0)
    rw [this]
    exact no
  · rw [if_neg hx0]
    obtain ⟨ex, lx⟩ := nn_ix hx0
    generalize ix x = k at ex lx
    subst ex
    by_cases h1 : U ≤ k
    · rw [if_pos (nI_le h1 lx)]
      have : p_X10_isIn (nI k) (if nI U ≤ 40 then (0 : Int32) else nI U - 40) (nI U - 1) = 0 := m_isIn_F (fun ⟨z1, z2⟩ => nI_nlt h1 lx ((le_pred (by omega) (nI_pos lx)).mp z2))
      rw [this]
      exact no
    · rw [if_neg (nI_ge (by omega) (by omega))]
      have hU1 : nI k ≤ nI U - 1 := (le_pred (by omega) (nI_pos lx)).mpr (nI_lt (by omega) (by omega))
      have two : (nI U - 40 ≤ nI k ∧ (if nI U ≤ 40 then (0 : Int32) else nI U - 40) ≤ nI k) ∨ (¬ nI U - 40 ≤ nI k ∧ ¬ (if nI U ≤ 40 then (0 : Int32) else nI U - 40) ≤ nI k) := by
        by_cases q : U ≤ 40
        · left
          rw [if_pos (show nI U ≤ 40 from nI_le (b := 40) q (by omega))]
          refine ⟨?_, nI_le (a := 0) (Nat.zero_le _) lx⟩
          have t : (nI U - 40).toInt ≤ 0 := by
            have e : ∀ u, u ≤ 40 → (nI u - 40).toInt ≤ 0 := by decide +kernel
            exact e U q
          have t2 : 0 ≤ (nI k).toInt := i32_le.mp (nI_le (a := 0) (Nat.zero_le _) lx)
          exact i32_le.mpr (by omega)
        · rw [if_neg (show ¬ nI U ≤ 40 from nI_ge (a := 40) (by omega) (by omega)), show nI U - 40 = nI (U - 40) from ss (a := U) (b := 40) (by omega)]
          by_cases q2 : U - 40 ≤ k
          · exact Or.inl ⟨nI_le q2 lx, nI_le q2 lx⟩
          · exact Or.inr ⟨nI_ge (by omega) (by omega), nI_ge (by omega) (by omega)⟩
      rcases two with ⟨z1, z2⟩ | ⟨z1, z2⟩
      · rw [if_pos z1, m_isIn_T z2 hU1, may_T t0, bnd_some, if_neg ne10]
        have e40 : jrem (nI k) 40 = nI (k % 40) := rem_nI (d := 40) lx (by omega) (by omega)
        have m40 : k % 40 < 40 := Nat.mod_lt _ (by omega)
        rw [e40]
        by_cases hy : okN y 3
        · rw [show p_X10_isIn y 0 2 = 1 from m_in_T (n := 3) hy (by omega), may_T t0, bnd_some, if_pos ne10]
          obtain ⟨d, hd, rfl⟩ := id hy
          rw [if_neg (nI_pos (by omega)), if_pos (show nI d < 3 from nI_lt (b := 3) hd (by omega)), n3, n1458, pk_mul, pk_mul, nI_add, nI_add, nI_add, if_pos (of_eq_true (inb_T (by first | omega | (unfold wdP; omega) | (unfold lnP; omega) | (unfold cl; omega)) (by omega))), if_pos (of_eq_true (inb_T (by first | omega | (unfold wdP; omega) | (unfold lnP; omega) | (unfold cl; omega)) (by omega))), ix_nI (by omega), ix_nI (by omega), u3 _ (by omega)]
          refine stp_ok _ Mx M1 rfl ?_ t0 hI.next
          rw [show 1458 + (k % 40 * 3 + d) = 1458 + 3 * (k % 40) + d by omega]
        · rw [show p_X10_isIn y 0 2 = 0 from m_in_F (n := 3) hy (by omega), may_F2 t0, bnd_some, if_neg nn00]
          have q := rq_F (E := (some (rEx "java/lang/IllegalArgumentException", Mx) : Option ((Int32 ⊕ String) × Mem))) (T := if inb ((nI (k % 40) * 3) + y) 120 then some (rOk (Mx 52 (ix ((nI (k % 40) * 3) + y))), Mx) else none) hy
          rw [show (nI 3 : Int32) = 3 from rfl] at q
          rw [q]
          exact stp_ex 1 eIA rfl rfl rfl hI
      · rw [if_neg z1, m_isIn_F (fun z => z2 z.1)]
        exact no
theorem s_setCoherence (h : Inv m Mx Mm) {x : Int32} (hx : isB x) : CallN m (f_X9_setCoherence x Mx) (f_X10_setCoherence x Mm) := by
  obtain ⟨M1, e1, t0, hI⟩ := inv_0 h
  obtain ⟨pr, nB, hP, hS, -⟩ := id hI
  obtain ⟨n, l, T, -, -, -, -, a1, a2⟩ := hS.c
  unfold f_X10_setCoherence f_X9_setCoherence
  rw [wrt_def, e1, wrt_def, if_pos hx, wrt_def, a1, if_pos a2]
  have ex : (if x = 0 then (0 : Int32) else 1) = x := by rcases hx with z | z <;> rw [z] <;> rfl
  have ea : (if ¬ M1 1 1670 = 1 then (0 : Int32) else 1) = M1 1 1670 := by rcases a2 with z | z <;> rw [z] <;> rfl
  rw [ex, ea]
  refine ⟨_, _, _, rfl, rfl, ?_⟩
  rw [up_as M1 1 1670]
  have c0 : ∀ c, c ≠ 33 → (up Mx 33 4 x) c = Mx c := fun c hc => up_a _ _ _ hc
  refine hI.state (a2 := upd (M1 1) 1670 x) (fun pr2 nB2 hP2 => ?_) (fun c hc => c0 c (by omega)) (upA_eq _ _ _) (fun c hc => upA_ne _ _ (by omega)) (by rw [upA_ne _ _ (by omega)]) (by rw [upA_ne _ _ (by omega)]) (by rw [upA_ne _ _ (by omega)]) (Or.inr ⟨c0 _ (by omega), c0 _ (by omega), fun j hj => upd_ne _ _ (by omega), fun j h1 h2 => upd_ne _ _ (by omega)⟩)
  have eB : nB2 = nB := by
    have z1 := hP2.nb.2.1
    have z2 := hP.nb.2.1
    rw [z1] at z2
    have := hP2.nb.1
    have := hP.nb.1
    exact (nI_eq (by omega) (by omega)).mp z2
  subst eB
  obtain ⟨n, l, T, N, U, K, hS, hZ, hd, hQ, hq, hK, b1, b2, b3, b4⟩ := hS
  have ne : ∀ j, j ≠ 1670 → upd (M1 1) 1670 x j = M1 1 j := fun j hj => upd_ne _ _ hj
  obtain ⟨eq, eQ⟩ := qbA_cg (a := M1 1) (b := upd (M1 1) 1670 x) (fun j h1 h2 => ne j (by omega))
  obtain ⟨hR, hC, hT, hau, hau2, hn, hA, hnC⟩ := hS
  refine ⟨n, l, T, N, U, K, ⟨rv_a hR (c0 _ (by omega)) (c0 _ (by omega)) (fun j h1 h2 => ne j (by omega)), hC.of (fun c h1 h2 => c0 c (by omega)) (fun j h1 h2 => ne j (by omega)) hP.c8, ?_, ?_, ?_, hn.of (fun b hb => ne _ (by omega)), ?_, hnC⟩, ?_, dB_of hd (c0 _ (by omega)), by rw [eQ]; exact hQ, ?_, hK.of (fun j hj => ne j (by omega)), by omega, by rw [eQ]; omega, by rw [eQ]; omega, by rw [eQ]; omega⟩
  · rw [setT_congr _ (33 + 4) (fun j hj => ne j (by omega))]
    exact setT_of hT (fun c h1 h2 => c0 c (by omega))
  · rw [up_eq, upd_eq]
  · rw [upd_eq]; exact hx
  · obtain ⟨g1, g2, g3, g4, g5, g6⟩ := hA
    rw [eQ]
    exact ⟨by rw [c0 _ (by omega)]; exact g1, by rw [ne _ (by omega)]; exact g2, fun i hi => by rw [c0 _ (by omega), ne _ (by omega)]; exact g3 i hi, by rw [c0 _ (by omega)]; exact g4, by rw [ne _ (by omega)]; exact g5, fun i hi => by rw [c0 _ (by omega), ne _ (by omega)]; exact g6 i hi⟩
  · intro b h1 h2
    obtain ⟨z1, z2⟩ := hZ b h1 h2
    exact ⟨by rw [ne _ (by omega)]; exact z1, fun r hr => by rw [ne _ (by omega)]; exact z2 r hr⟩
  · rw [eQ, eq]
    exact fun k hk => ⟨(hq k hk).1, by rw [ne _ (by omega)]; exact (hq k hk).2⟩
end MR
