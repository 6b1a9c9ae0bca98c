/-! ===== saved states and runs ===== -/
section RU
variable {Mx Mm : Mem} {m : Nat}
theorem slot_or : ∀ k, k < 4 → ∀ s, s < 2 → ∃ j, j < 4 ∧ nI k ||| (1 <<< (nI s &&& 31)) = nI j ∧ bit (nI j) s = true ∧ bit (nI j) (1 - s) = bit (nI k) (1 - s) := by
  have key : ∀ k, k < 4 → ∀ s, s < 2 → (nI k ||| (1 <<< (nI s &&& 31)) = nI (k ||| 2 ^ s)) ∧ (k ||| 2 ^ s) < 4 ∧ bit (nI (k ||| 2 ^ s)) s = true ∧ bit (nI (k ||| 2 ^ s)) (1 - s) = bit (nI k) (1 - s) := by decide +kernel
  intro k hk s hs
  obtain ⟨h1, h2, h3, h4⟩ := key k hk s hs
  exact ⟨_, h2, h1, h3, h4⟩
theorem IS.copy {p : Nat → Int32} {nB : Nat} {M : Mem} {a : Nat → Int32} {s0 s1 : Nat} (h : IS p nB M s1 a m) (hs : s0 + 19 < s1 ∨ s1 + 19 < s0) (h28 : ix (p 2) ≤ 8) : ∃ M2, f_X5_copyFrom s0 s1 M = some (0, M2) ∧ IS p nB M2 s0 a m ∧ ∀ c, c < s0 ∨ s0 + 19 < c → M2 c = M c := by
  obtain ⟨n, l, T, N, U, K, hS, hZ, hd, hQ, hq, hK, b⟩ := h
  obtain ⟨M2, x, S2, d2, F2⟩ := x_copyS (p := p) hs h28 hQ hd hS
  exact ⟨M2, x, ⟨n, l, T, N, U, K, S2, hZ, d2, hQ, hq, hK, b⟩, F2⟩
theorem s_save (h : Inv m Mx Mm) (x : Int32) : CallR m [eIO] (f_X9_save x Mx) (f_X10_save x Mm) := by
  obtain ⟨M1, e1, t0, hI⟩ := inv_0 h
  unfold f_X10_save f_X9_save f_X9_requireSlot j_X9_requireSlot_9
  rw [wrt_def, e1]
  by_cases hx : okN x 2
  · obtain ⟨s, hs, rfl⟩ := id hx
    obtain ⟨pr, nB, hP, hS, hL, ⟨k, hk, ek⟩, hT, hE, hpl⟩ := hI.next
    have q := rq_T (E := (some (rEx "java/lang/IndexOutOfBoundsException", Mx) : Option ((Int32 ⊕ String) × Mem))) (T := some (rOk 0, Mx)) hx (by omega)
    rw [show (nI 2 : Int32) = 2 from rfl] at q
    rw [q, bX_ok, show p_X10_isIn (nI s) 0 1 = 1 from m_in_T (n := 2) hx (by omega), may_T t0, bnd_some, if_pos ne10, if_pos (of_eq_true (inb_T (by first | omega | (unfold wdP; omega) | (unfold lnP; omega) | (unfold cl; omega)) (by omega))), if_pos (of_eq_true (inb_T (by first | omega | (unfold wdP; omega) | (unfold lnP; omega) | (unfold cl; omega)) (by omega))), ix_nI (by omega), wrt_def]
    obtain ⟨M2, x2, S2, F2⟩ := hS.copy (s0 := 73 + (1 + 20 * s)) (by omega) hP.c8
    rw [x2, bnd_some, wrt_def, m_saveL hs]
    obtain ⟨j, hj, ej, bj, bo⟩ := slot_or k hk s hs
    have e10 : M2 0 10 = nI k := by rw [F2 0 (by omega)]; exact ek
    rw [e10, ej]
    have c0 : ∀ c, c ≠ 0 → c < 74 + 20 * s ∨ 74 + 20 * s + 19 < c → (up M2 0 10 (nI j)) c = Mx c := fun c z1 z2 => by rw [up_a _ _ _ z1]; exact F2 c (by omega)
    have c1 : ∀ i, i ≠ 10 → (up M2 0 10 (nI j)) 0 i = Mx 0 i := fun i hi => by rw [up_i _ _ hi, F2 0 (by omega)]
    have d0 : ∀ c, c ≠ 2 → c ≠ 4 → ∀ f, (upA (up M1 4 s 1) 2 f) c = M1 c := fun c z1 z2 f => by rw [upA_ne _ _ z1, up_a _ _ _ z2]
    refine stp_ok 0 _ _ rfl rfl (by rw [d0 0 (by omega) (by omega)]; exact t0) ?_
    have e41 : (up M1 4 s 1) 1 = M1 1 := up_a _ _ _ (by omega)
    have e42 : (up M1 4 s 1) 2 = M1 2 := up_a _ _ _ (by omega)
    rw [e41, e42]
    refine ⟨pr, nB, hP.of (c1 _ (by omega)) (c1 _ (by omega)) (fun c h1 h2 => c0 c (by omega) (by omega)) (d0 5 (by omega) (by omega) _), ?_, fun s2 hs2 => ?_, ⟨j, hj, up_eq _ _ _ _⟩, ?_, ⟨?_, ?_⟩, ?_⟩
    · rw [d0 5 (by omega) (by omega), d0 1 (by omega) (by omega)]; exact hS.of hP.c8 (Nat.le_refl _) (fun c h1 h2 => c0 c (by omega) (by omega)) (fun _ _ => rfl)
    · rw [d0 5 (by omega) (by omega)]
      by_cases z : s2 = s
      · subst z
        refine ⟨?_, ?_, fun _ => ?_⟩
        · rw [upA_ne _ _ (by decide), up_eq]; exact Or.inr rfl
        · rw [up_eq, upA_ne _ _ (by decide), up_eq]; exact ⟨fun _ => rfl, fun _ => bj⟩
        · refine IS.of (M := M2) (a := M1 1) (m := m + 1) (by rw [show 74 + 20 * s2 = 73 + (1 + 20 * s2) by omega]; exact S2) hP.c8 (Nat.le_refl _) (fun c h1 h2 => up_a _ _ _ (by omega)) (fun i hi => ?_)
          show (upA _ 2 _) 2 (1671 * s2 + i) = _
          rw [upA_eq, if_pos (by omega), show 1671 * s2 + i - 1671 * s2 = i by omega]
      · have zo : s2 = 1 - s := by omega
        obtain ⟨h1, h2, h3⟩ := hL s2 hs2
        have e4 : ∀ f, (upA (up M1 4 s 1) 2 f) 4 s2 = M1 4 s2 := fun f => by rw [upA_ne _ _ (by decide), up_i _ _ z]
        refine ⟨by rw [e4]; exact h1, ?_, fun h4 => ?_⟩
        · rw [up_eq, e4, zo, bo, ← zo, ← ek]; exact h2
        · rw [e4] at h4
          refine (h3 h4).of hP.c8 (Nat.le_refl _) (fun c h1 h2 => c0 c (by omega) (by omega)) (fun i hi => ?_)
          show (upA _ 2 _) 2 (1671 * s2 + i) = _
          rw [upA_eq, if_neg (by omega)]
    · obtain ⟨L, l1, l2, l3, l4⟩ := hT
      exact ⟨L, l1, by rw [c1 _ (by omega)]; exact l2, by rw [d0 0 (by omega) (by omega)]; exact l3, fun i hi => by rw [c0 1 (by omega) (by omega), d0 7 (by omega) (by omega)]; exact l4 i hi⟩
    · rw [c1 _ (by omega), d0 0 (by omega) (by omega)]; exact hE.1
    · rw [c1 _ (by omega), d0 0 (by omega) (by omega)]; exact hE.2
    · rw [d0 5 (by omega) (by omega), d0 1 (by omega) (by omega)]; exact hpl.of (c0 _ (by omega) (by omega)) (c0 _ (by omega) (by omega)) (fun _ _ => rfl) (fun _ _ _ => rfl)
  · have q := rq_F (E := (some (rEx "java/lang/IndexOutOfBoundsException", Mx) : Option ((Int32 ⊕ String) × Mem))) (T := some (rOk 0, Mx)) hx
    rw [show (nI 2 : Int32) = 2 from rfl] at q
    rw [q, bX_ex, show p_X10_isIn x 0 1 = 0 from m_in_F (n := 2) hx (by omega), may_F1 t0, bnd_some, if_neg nn00]
    exact stp_ex 0 eIO rfl rfl rfl hI
theorem bit_ne {x : Int32} {s : Nat} : bit x s = true ↔ ¬ (x >>> (nI s &&& 31)) &&& 1 = 0 := by
  unfold bit
  exact decide_eq_true_iff
theorem s_restore (h : Inv m Mx Mm) (x : Int32) : CallR m [eIO, eNS] (f_X9_restore x Mx) (f_X10_restore x Mm) := by
  obtain ⟨M1, e1, t0, hI⟩ := inv_0 h
  unfold f_X10_restore f_X9_restore f_X9_requireSlot j_X9_requireSlot_9 j_X10_restore_33
  rw [wrt_def, e1]
  by_cases hx : okN x 2
  · obtain ⟨s, hs, rfl⟩ := id hx
    obtain ⟨pr, nB, hP, hS, hL, -⟩ := id hI.next
    have q := rq_T (E := (some (rEx "java/lang/IndexOutOfBoundsException", Mx) : Option ((Int32 ⊕ String) × Mem))) (T := some (rOk 0, Mx)) hx (by omega)
    rw [show (nI 2 : Int32) = 2 from rfl] at q
    obtain ⟨l1, l2, l3⟩ := hL s hs
    rw [q, bX_ok, show p_X10_isIn (nI s) 0 1 = 1 from m_in_T (n := 2) hx (by omega), may_T t0, bnd_some, if_neg ne10, if_pos (of_eq_true (inb_T (by first | omega | (unfold wdP; omega) | (unfold lnP; omega) | (unfold cl; omega)) (by omega))), if_pos (of_eq_true (inb_T (by first | omega | (unfold wdP; omega) | (unfold lnP; omega) | (unfold cl; omega)) (by omega))), ix_nI (by omega)]
    rcases l1 with z | z
    · have nb : ¬ ¬ (Mx 0 10 >>> (nI s &&& 31)) &&& 1 = 0 := fun y => by
        have := l2.mp (bit_ne.mpr y)
        rw [z] at this
        exact absurd this (by decide)
      rw [z, may_F2 t0, bnd_some, if_neg nn00, if_neg nb]
      exact stp_ex 1 eNS rfl rfl rfl hI
    · have nb : ¬ (Mx 0 10 >>> (nI s &&& 31)) &&& 1 = 0 := bit_ne.mp (l2.mpr z)
      rw [z, may_T t0, bnd_some, if_pos ne10, if_pos nb, m_restoreL hs]
      obtain ⟨M2, x2, S2, F2⟩ := (l3 z).copy (s0 := 33) (by omega) hP.c8
      rw [show 73 + (1 + 20 * s) = 74 + 20 * s by omega, x2, bnd_some]
      unfold f_X3_forgetPlan
      rw [wrt_def, bnd_some]
      refine stp_ok 0 _ _ rfl rfl (by rw [upA_ne _ _ (by omega)]; exact t0) (hI.state (fun pr2 nB2 hP2 => ?_) (fun c hc => by rw [up_a _ _ _ (by omega)]; exact F2 c (by omega)) (upA_eq _ _ _) (fun c hc => upA_ne _ _ (by omega)) (by rw [upA_ne _ _ (by omega)]) (by rw [upA_ne _ _ (by omega)]) (by rw [upA_ne _ _ (by omega)]) (Or.inl (up_eq _ _ _ _)))
      rw [hP.uniq hP2]
      refine S2.of hP.c8 (Nat.le_refl _) (fun c h1 h2 => up_a _ _ _ (by omega)) (fun j hj => ?_)
      show (if 0 ≤ j ∧ j < 0 + 1671 then M1 2 (1671 * s + (j - 0)) else M1 1 j) = _
      rw [if_pos (by omega), Nat.sub_zero]
  · have q := rq_F (E := (some (rEx "java/lang/IndexOutOfBoundsException", Mx) : Option ((Int32 ⊕ String) × Mem))) (T := some (rOk 0, Mx)) hx
    rw [show (nI 2 : Int32) = 2 from rfl] at q
    rw [q, bX_ex, show p_X10_isIn x 0 1 = 0 from m_in_F (n := 2) hx (by omega), may_F1 t0, bnd_some, if_pos rfl]
    exact stp_ex 0 eIO rfl rfl rfl hI
theorem s_run (h : Inv m Mx Mm) (hm : m < 512) (x : Int32) : CallR m [eIA] (f_X9_run x Mx) (f_X10_run x Mm) := by
  obtain ⟨M1, e1, t0, hI⟩ := inv_0 h
  obtain ⟨pr, nB, hP, hS, -⟩ := id hI
  obtain ⟨q1, q2, q3, q4, -⟩ := hS.q
  unfold f_X10_run f_X9_run j_X9_run_11 j_X10_run_29
  rw [wrt_def, e1]
  by_cases hx : ∃ k, 1 ≤ k ∧ k ≤ 16 ∧ x = nI k
  · obtain ⟨k, k1, k2, rfl⟩ := hx
    rw [if_neg (show ¬ nI k < 1 from nI_nlt (b := 1) k1 (by omega)), if_pos (show nI k ≤ 16 from nI_le (b := 16) k2 (by omega)), show p_X10_isIn (nI k) 1 16 = 1 from m_isIn_T (nI_le (a := 1) k1 (by omega)) (nI_le (b := 16) k2 (by omega)), may_T t0, bnd_some, if_neg ne10, q1]
    generalize hQe : QA (M1 1) = Q at *
    obtain ⟨D, hD1, hD2, hD3⟩ : ∃ D, D ≤ Q ∧ imin (nI k) (nI Q) = nI D ∧ (if M1 1 1440 ≤ nI k then M1 1 1440 else nI k) = nI D := by
      rw [imin_mn]
      unfold mn
      rw [q2]
      by_cases z : k ≤ Q
      · refine ⟨k, z, by rw [if_pos (nI_le z (by omega))], ?_⟩
        by_cases z2 : Q = k
        · rw [z2, if_pos (Int32.le_refl _)]
        · rw [if_neg (nI_ge (by omega) (by omega))]
      · exact ⟨Q, Nat.le_refl _, by rw [if_neg (nI_ge (by omega) (by omega))], by rw [if_pos (nI_le (by omega) (by omega))]⟩
    rw [hD2]
    obtain ⟨n, l, T, N, U, K, hS2, hZ, hd, -, hq, hK, b1, b2, b3, b4⟩ := id hS
    rw [hQe] at hS2 hq b2 b3 b4
    obtain ⟨X, A, X0, A0, hI2, hR2⟩ := c_seq2 (Mx := Mx) (Mm := M1) (st := 33) (pr := pr) (nB := nB) (qb := qbA (M1 1)) (Or.inl rfl) hP.pr12 hP.2.2.2.1 hS2 hD1 q3 hq (by omega) (by omega) hd
    have mr := m_runs (Mm := M1) A q3 hD1 A0 (fun k hk => (hI2 k hk).2.2.1) q2 (fun k hk => (hR2 k hk).2) (nI k) hD3
    have xl := loop_run (body := l_X9_run_38 (nI D)) D (fun i => (nI i, X i)) (init := (0, Mx)) (r := some (rOk (nI D), up (X D) 114 0 0)) (by rw [X0]; rfl) (by omega) (fun i hi K => by
      simp only [l_X9_run_38]
      have e0 : X i 0 = Mx 0 := (hI2 i (by omega)).2.1 0 (by omega)
      rw [if_neg (nI_ge hi (by omega)), e0, if_pos hP.pp, hP.ixp, (hR2 i hi).1, bnd_some, nI_1]) (fun K => by
      simp only [l_X9_run_38]
      unfold f_X3_forgetPlan
      rw [if_pos (nI_le (Nat.le_refl _) (by omega)), wrt_def, bnd_some])
    rw [xl, mr, bnd_some]
    obtain ⟨⟨n2, l2, S2⟩, F2, Q2, E2, D2⟩ := hI2 D (Nat.le_refl _)
    refine stp_ok (nI D) _ _ rfl rfl (by rw [upA_ne _ _ (by omega)]; exact t0) (hI.state (a2 := shQ (A D) D Q) (fun pr2 nB2 hP2 => ?_) (fun c hc => by rw [up_a _ _ _ (by omega)]; exact F2 c (by omega)) (upA_eq _ _ _) (fun c hc => upA_ne _ _ (by omega)) (by rw [upA_ne _ _ (by omega)]) (by rw [upA_ne _ _ (by omega)]) (by rw [upA_ne _ _ (by omega)]) (Or.inl (up_eq _ _ _ _)))
    rw [hP.uniq hP2]
    have S3 := S2.shift hD1 q3 hP.c8
    have sh0 : ∀ j, j < 1440 ∨ 1457 ≤ j → shQ (A D) D Q j = A D j := fun j hj => by
      unfold shQ
      rw [if_neg (by omega), upd_ne _ _ (by omega)]
    have eQ : QA (shQ (A D) D Q) = Q - D := by
      unfold QA shQ
      rw [if_neg (by omega), upd_eq, ix_nI (by omega)]
    have sq : ∀ j, j < Q - D → shQ (A D) D Q (1441 + j) = M1 1 (1441 + (j + D)) := fun j hj => by
      unfold shQ
      rw [if_pos (by omega), Q2 _ (by omega) (by omega), show 1441 + j + D = 1441 + (j + D) by omega]
    have eq : ∀ j, j < Q - D → qbA (shQ (A D) D Q) j = qbA (M1 1) (j + D) := fun j hj => by
      unfold qbA
      rw [if_pos (by omega), if_pos (by omega), sq j hj]
    have wq : ∀ i, i < D → WFb (M1 5) (qbA (M1 1) i) := fun i hi => (hP.bt _ (hq i (by omega)).1).1
    have tb := spQ_tb (n := D) (K := K) hP.ws hP.2.2.2.2 wq hK (by omega)
    have zb := spQ_z (n := D) hP.ws wq hZ
    refine IS.of (M := X D) (a := shQ (A D) D Q) (m := m) ⟨n2, l2, T, N + 480 * D, U + D, K + 690000 * D, by rw [eQ]; exact S3, ?_, D2, by rw [eQ]; omega, ?_, tb.of (fun j hj => by rw [sh0 j (by omega)]; exact E2 j hj), b1, by rw [eQ]; omega, by rw [eQ]; omega, by rw [eQ]; omega⟩ hP.c8 (by omega) (fun c h1 h2 => up_a _ _ _ (by omega)) (fun _ _ => rfl)
    · intro b z1 z2
      obtain ⟨y1, y2⟩ := zb b z1 z2
      exact ⟨by rw [sh0 _ (by omega), E2 _ (by omega)]; exact y1, fun r hr => by rw [sh0 _ (by omega), E2 _ (by omega)]; exact y2 r hr⟩
    · rw [eQ]
      intro j hj
      rw [eq j hj, sq j hj]
      exact hq (j + D) (by omega)
  · have e : p_X10_isIn x 1 16 = 0 := by
      refine m_isIn_F (fun ⟨z1, z2⟩ => ?_)
      have h3 : ¬ x < 0 := fun y => absurd (Int32.lt_of_le_of_lt z1 y) (by decide)
      obtain ⟨y1, y2⟩ := nn_ix h3
      rw [y1] at z1 z2
      refine hx ⟨ix x, ?_, ?_, y1⟩
      · by_cases y : 1 ≤ ix x
        · exact y
        · exact absurd z1 (nI_ge (b := 1) (by omega) (by omega))
      · by_cases y : ix x ≤ 16
        · exact y
        · exact absurd z2 (nI_ge (a := 16) (by omega) y2)
    rw [e, may_F1 t0, bnd_some, if_pos rfl]
    refine stp_ex 0 eIA rfl ?_ rfl hI
    by_cases y : x < 1
    · rw [if_pos y]
    · rw [if_neg y, if_neg]
      intro y2
      rw [m_isIn_T (i32_nlt.mp y) y2] at e
      exact absurd e (by decide)
end RU
