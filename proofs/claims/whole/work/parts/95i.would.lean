/-! ===== wouldBe ===== -/
section WB
variable {Mx Mm : Mem} {m : Nat}
theorem c_vseq {pr nB n : Nat} {qb : Nat → Nat} {l : Nat → Nat} {T N Q U : Nat} (hpr : pr + 12 < 33) (hP : PR Mx pr (Mm 5) nB) (hR : RV (ix (Mm 5 2)) Mx 54 (Mm 1)) (hC : RC (ix (Mm 5 2)) Mx 65 (Mm 1) n l T) (hau : Mx 53 4 = Mm 1 1670) (hau2 : Mm 1 1670 = 0 ∨ Mm 1 1670 = 1) (hn : WFn N (Mm 1)) (hU1 : Mm 1 1457 = nI U) (hQ : Q ≤ 16) (hq : ∀ k, k < Q → qb k < nB ∧ Mm 1 (1441 + k) = nI (qb k)) (hN : N + 480 * 16 < 2147483648) (hU : U + 16 < 2147483648) : ∃ (X : Nat → Mem) (A : Nat → Nat → Int32), X 0 = Mx ∧ A 0 = Mm 1 ∧ (∀ k, k ≤ Q → RV (ix (Mm 5 2)) (X k) 54 (A k) ∧ (∀ c, c < 53 ∨ 72 < c → X k c = Mx c) ∧ (∀ j, 1440 ≤ j → j < 1457 → A k j = Mm 1 j)) ∧ ∀ k, k < Q → f_X5_computeBatch 53 pr (nI (qb k)) (X k) = some (0, X (k + 1)) ∧ f_X10_does (Mm 1 (1441 + k)) (upA Mm 1 (A k)) = some (0, upA Mm 1 (A (k + 1))) := by
  obtain ⟨hs, hps, h9, hB, -, -, hb⟩ := id hP
  have h28 : ix (Mm 5 2) ≤ 8 := hs.2.2.2.2.2.2.2.2.1
  obtain ⟨f, f0, fI, fR⟩ := seq_of (σ := Mem × (Nat → Int32)) (fun k s => RV (ix (Mm 5 2)) s.1 54 s.2 ∧ (∃ n2 l2, RC (ix (Mm 5 2)) s.1 65 s.2 n2 l2 T) ∧ s.1 53 4 = s.2 1670 ∧ (s.2 1670 = 0 ∨ s.2 1670 = 1) ∧ WFn (N + 480 * k) s.2 ∧ s.2 1457 = nI (U + k) ∧ (∀ c, c < 53 ∨ 72 < c → s.1 c = Mx c) ∧ (∀ j, 1440 ≤ j → j < 1457 → s.2 j = Mm 1 j)) (fun k s s2 => f_X5_computeBatch 53 pr (nI (qb k)) s.1 = some (0, s2.1) ∧ f_X10_does (Mm 1 (1441 + k)) (upA Mm 1 s.2) = some (0, upA Mm 1 s2.2)) (Mx, Mm 1) ⟨hR, ⟨n, l, hC⟩, hau, hau2, hn, hU1, fun _ _ => rfl, fun _ _ _ => rfl⟩ Q (by
    rintro k hk ⟨M1, a1⟩ ⟨R1, ⟨n1, l1, C1⟩, u1, u2, w1, v1, F1, Q1⟩
    have R1 : RV (ix (Mm 5 2)) M1 54 a1 := R1
    have C1 : RC (ix (Mm 5 2)) M1 65 a1 n1 l1 T := C1
    have u1 : M1 53 4 = a1 1670 := u1
    have u2 : a1 1670 = 0 ∨ a1 1670 = 1 := u2
    have w1 : WFn (N + 480 * k) a1 := w1
    have v1 : a1 1457 = nI (U + k) := v1
    have F1 : ∀ c, c < 53 ∨ 72 < c → M1 c = Mx c := F1
    have Q1 : ∀ j, 1440 ≤ j → j < 1457 → a1 j = Mm 1 j := Q1
    obtain ⟨hbt, ebt⟩ := hq k hk
    obtain ⟨hw, hx, hu⟩ := hb _ hbt
    have e1 : (upA Mm 1 a1) 1 = a1 := upA_eq _ _ _
    have e5 : (upA Mm 1 a1) 5 = Mm 5 := upA_ne _ _ (by decide)
    have p1 : ∀ j, j ≤ 12 → M1 (pr + j) = Mx (pr + j) := fun j hj => F1 _ (by omega)
    obtain ⟨M2, a2, n2, l2, x2, m2, R2, C2, hn2, F2, FA2, a3, h3, h4⟩ := x_compute (Mx := M1) (Mm := upA Mm 1 a1) (v := 54) (pr := pr) (nc := ix (Mm 5 2)) (bt := qb k) (N := N + 480 * k) (Or.inr (Or.inl rfl)) (by omega) (by rw [e5]; exact hs) (by rw [e5]) (by rw [e5]; exact hw) (by rw [e5]; exact hx.of p1) (by rw [e5]; exact hps.of p1) (by rw [e5]; exact hu.of p1) (by rw [e1]; exact u1) (by rw [e1]; exact u2) (by rw [e1]; exact w1) (by omega) (by rw [e1]; exact R1) (by rw [e1]; exact C1)
    rw [e5, e1, upA_upA] at m2
    rw [e1] at FA2 h3
    rw [e5] at h4
    have hU2 : a2 1457 = nI (U + k) := by rw [FA2 _ (by omega)]; exact v1
    have mN := m_116 (Mm := Mm) (A := a2) (bt := qb k) (spFrom 8 (setN (Mm 5) (qb k)) a1) hs hU2 (by omega)
    have nr : ∀ j, j < 1457 ∨ 1578 ≤ j → nrA (Mm 5) (qb k) (spFrom 8 (setN (Mm 5) (qb k)) a1) a2 j = a2 j := by
      intro j hj
      have m40 : ix (a2 1457) % 40 < 40 := Nat.mod_lt _ (by decide)
      unfold nrA
      rw [upd_ne _ _ (by omega), upd_ne _ _ (by omega), upd_ne _ _ (by omega), upd_ne _ _ (by omega)]
    refine ⟨(M2, nrA (Mm 5) (qb k) (spFrom 8 (setN (Mm 5) (qb k)) a1) a2), ⟨rv_a R2 rfl rfl (fun j h1 h2 => nr j (by omega)), ⟨n2, l2, C2.of (fun _ _ _ => rfl) (fun j h1 h2 => nr j (by omega)) h28⟩, ?_, ?_, ?_, ?_, fun c hc => ?_, fun j h1 h2 => ?_⟩, x2, by rw [ebt, m2, mN]⟩
    · show M2 53 4 = nrA _ _ _ _ 1670
      rw [F2 53 (by omega) (by omega) (by omega), nr _ (by omega), FA2 _ (by omega)]; exact u1
    · show nrA _ _ _ _ 1670 = 0 ∨ nrA _ _ _ _ 1670 = 1
      rw [nr _ (by omega), FA2 _ (by omega)]; exact u2
    · have hb2 := spBatch_n (bt := qb k) hs hw (w1.of (a2 := a3) (fun b hb3 => h3 _ (by omega))) (by omega)
      show WFn (N + 480 * (k + 1)) (nrA _ _ _ _)
      rw [show N + 480 * (k + 1) = N + 480 * k + 480 by omega]
      exact hb2.of (fun b hb3 => by rw [nr _ (by omega), h4 _ (by omega)])
    · show nrA (Mm 5) (qb k) (spFrom 8 (setN (Mm 5) (qb k)) a1) a2 1457 = nI (U + (k + 1))
      unfold nrA
      rw [upd_eq, hU2, nI_1, Nat.add_assoc]
    · show M2 c = Mx c
      rw [F2 c (by omega) (by omega) (by omega), F1 c hc]
    · show nrA _ _ _ _ j = Mm 1 j
      rw [nr _ (by omega), FA2 _ (by omega), Q1 j h1 h2])
  exact ⟨fun k => (f k).1, fun k => (f k).2, congrArg Prod.fst f0, congrArg Prod.snd f0, fun k hk => ⟨(fI k hk).1, (fI k hk).2.2.2.2.2.2.1, (fI k hk).2.2.2.2.2.2.2⟩, fun k hk => fR k hk⟩
theorem s_wouldBe (h : Inv m Mx Mm) (hm : m < 512) (x y z : Int32) : CallR m [eIO] (f_X9_wouldBe x y z Mx) (f_X10_wouldBe x y z Mm) := by
  obtain ⟨M1, e1, t0, hI⟩ := inv_0 h
  obtain ⟨pr, nB, hP, hS, -⟩ := id hI
  unfold f_X10_wouldBe f_X9_wouldBe
  rw [wrt_def, e1]
  by_cases hx : okL (M1 5) x y z
  · obtain ⟨⟨⟨b, hb, rfl⟩, ⟨r, hr, rfl⟩⟩, ⟨k, hk, rfl⟩⟩ := id hx
    have h0 := hP.n0
    have h2 := hP.n2
    obtain ⟨q1, q2, q3, q4, U, u0, u1, u2, -⟩ := hS.q
    obtain ⟨n, l, T, hT, hn, hR, hC, hau, hau2⟩ := hS.c
    obtain ⟨N, hN, hnn, -⟩ := hS.n
    have p12 := hP.pr12
    generalize hQe : QA (M1 1) = Q at *
    rw [mLn_T hP hx, may_T t0, bnd_some, if_pos ne10, rqLn_T hP hx, bX_ok, m_keeps, bnd_some]
    obtain ⟨M2, x2, R2, C2, a2, d2, F2⟩ := x_copyVals (M := Mx) (s0 := 53) (s1 := 33) (by omega) hS.dirty (by rw [hau]; exact hau2)
    have eK : upA M1 3 (fun j => if j < 1671 then M1 1 j else M1 3 j) = kpM M1 := rfl
    have k1 : (kpM M1) 1 = M1 1 := upA_ne _ _ (by decide)
    have k5 : (kpM M1) 5 = M1 5 := upA_ne _ _ (by decide)
    have k3 : (kpM M1) 3 = fun j => if j < 1671 then M1 1 j else M1 3 j := upA_eq _ _ _
    have pk : ∀ j, j ≤ 12 → M2 (pr + j) = Mx (pr + j) := fun j hj => F2 _ (by omega)
    obtain ⟨X, A, X0, A0, hI2, hR2⟩ := c_vseq (Mx := M2) (Mm := kpM M1) (pr := pr) (nB := nB) (qb := qbA (M1 1)) (N := N) (Q := Q) (U := U) (T := T) (n := n) (l := l) p12 (by rw [k5]; exact hP.2.2.2.1.of pk) (by rw [k5, k1]; exact R2 _ _ hR) (by rw [k5, k1]; exact C2 _ _ _ _ _ hP.c8 hC) (by rw [a2, k1]; exact hau) (by rw [k1]; exact hau2) (by rw [k1]; exact hnn) (by rw [k1]; exact u2) q3 (by rw [k1]; exact fun j hj => ⟨(q4 j hj).1, (q4 j hj).2.1⟩) (by omega) (by omega)
    have mr := m_runs (Mm := kpM M1) (D := Q) A q3 (Nat.le_refl _) A0 (fun k hk => (hI2 k hk).2.2) (by rw [k1]; exact q2) (fun k hk => (hR2 k hk).2) 16 (by rw [k1, q2, if_pos (show nI Q ≤ 16 from nI_le (b := 16) q3 (by omega))])
    rw [eK, mr, bnd_some, m_lane, if_pos (of_eq_true (inb_T (by first | omega | (unfold wdP; omega) | (unfold lnP; omega) | (unfold cl; omega)) (by omega))), ix_nI (by unfold lnP; omega), m_back, bnd_some, x2, bnd_some]
    have xl := loop_run (body := l_X9_wouldBe_21 (nI b) (nI r) (nI k)) Q (fun i => (nI i, X i)) (init := (0, M2)) (r := some (rOk (A Q (lnP b r k)), X Q)) (by rw [X0]; rfl) (by omega) (fun i hi K => by
      have F3 : ∀ c, c < 53 → X i c = Mx c := fun c hc => by rw [(hI2 i (by omega)).2.1 c (by omega), F2 c (by omega)]
      simp only [l_X9_wouldBe_21]
      rw [F3 50 (by omega), q1, if_neg (nI_ge hi (by omega)), F3 0 (by omega), if_pos hP.pp, hP.ixp, if_pos (of_eq_true (inb_T (by first | omega | (unfold wdP; omega) | (unfold lnP; omega) | (unfold cl; omega)) (by omega))), ix_nI (by omega), F3 51 (by omega), (q4 i hi).2.2, (hR2 i hi).1, bnd_some, nI_1]) (fun K => by
      have F3 : ∀ c, c < 53 → X Q c = Mx c := fun c hc => by rw [(hI2 Q (by omega)).2.1 c (by omega), F2 c (by omega)]
      simp only [l_X9_wouldBe_21]
      rw [F3 50 (by omega), q1, if_pos (nI_le (Nat.le_refl _) (by omega)), x_laneP, if_pos (of_eq_true (inb_T (by first | omega | (unfold wdP; omega) | (unfold lnP; omega) | (unfold cl; omega)) (by omega))), ix_nI (by omega)]
      have e := (hI2 Q (by omega)).1.2 (8 * (4 * b + r) + k) (by omega) (by rw [k5]; omega)
      have e : X Q 56 (8 * (4 * b + r) + k) = A Q (1184 + (8 * (4 * b + r) + k)) := e
      rw [e, show lnP b r k = 1184 + (8 * (4 * b + r) + k) by unfold lnP; omega])
    rw [xl]
    have esh : shQ (A Q) Q Q (lnP b r k) = A Q (lnP b r k) := by
      unfold shQ
      rw [if_neg (by unfold lnP; omega), upd_ne _ _ (by unfold lnP; omega)]
    refine stp_ok (A Q (lnP b r k)) (X Q) _ rfl (by rw [upA_eq, esh]) ?_ ?_
    · rw [upA_ne _ _ (by omega), upA_ne _ _ (by omega)]
      unfold kpM
      rw [upA_ne _ _ (by omega)]; exact t0
    · rw [upA_upA, upA_ne _ _ (by decide), k3]
      have cx : ∀ c, c < 53 ∨ 72 < c → X Q c = Mx c := fun c hc => by rw [(hI2 Q (by omega)).2.1 c hc, F2 c (by omega)]
      have ea : ∀ j, j < 1671 → (fun j => if j < 1671 then (fun j => if j < 1671 then M1 1 j else M1 3 j) j else (upA (kpM M1) 1 (shQ (A Q) Q Q)) 1 j) j = M1 1 j := fun j hj => by
        show (if j < 1671 then (if j < 1671 then M1 1 j else M1 3 j) else _) = _
        rw [if_pos hj, if_pos hj]
      refine hI.state (fun pr2 nB2 hP2 => ?_) (fun c hc => cx c (by omega)) (upA_eq _ _ _) (fun c hc => ?_) ?_ ?_ ?_ (Or.inr ⟨cx _ (by omega), cx _ (by omega), fun j hj => ea j (by omega), fun j h1 h2 => ea j (by omega)⟩)
      · rw [hP.uniq hP2]
        exact hS.of hP.c8 (by omega) (fun c h1 h2 => cx c (by omega)) (fun j hj => ea j hj)
      · rw [upA_ne _ _ (by omega)]; exact upA_ne _ _ (by omega)
      · rw [upA_ne _ _ (by decide)]; unfold kpM; rw [upA_ne _ _ (by decide)]
      · rw [upA_ne _ _ (by decide)]; unfold kpM; rw [upA_ne _ _ (by decide)]
      · rw [upA_ne _ _ (by decide)]; unfold kpM; rw [upA_ne _ _ (by decide)]
  · rw [mLn_F hP hx, may_F1 t0, bnd_some, if_neg nn00, rqLn_F hP hx, bX_ex]
    exact stp_ex 0 eIO rfl rfl rfl hI
end WB
