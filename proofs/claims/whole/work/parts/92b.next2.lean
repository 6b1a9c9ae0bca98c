/-! ===== the next batch once more, with its times and the dirty marks ===== -/
theorem setT_inj {M : Mem} {t : Nat} {a b : Nat → Int32} (h : setT M t a = setT M t b) : ∀ j, j < 160 → a j = b j := by
  have k : ∀ c j, setT M t a c j = setT M t b c j := fun c j => congrFun (congrFun h c) j
  intro j hj
  rcases (show j < 8 ∨ (8 ≤ j ∧ j < 40) ∨ (40 ≤ j ∧ j < 48) ∨ (48 ≤ j ∧ j < 56) ∨ (56 ≤ j ∧ j < 120) ∨ (120 ≤ j ∧ j < 152) ∨ 152 ≤ j by omega) with q | q | q | q | q | q | q
  · have := k (t + 1) j
    rwa [sT1 _ _ _ q, sT1 _ _ _ q] at this
  · have := k (t + 2) (j - 8)
    rwa [sT2b _ _ _ (by omega), sT2b _ _ _ (by omega), show 8 + (j - 8) = j by omega] at this
  · have := k (t + 3) (j - 40)
    rw [sT3 _ _ _ (by omega), sT3 _ _ _ (by omega), show 40 + (j - 40) = j by omega] at this
    have e := sub1.mp this
    rwa [Int32.sub_add_cancel] at e
  · have := k (t + 4) (j - 48)
    rwa [sT4 _ _ _ (by omega), sT4 _ _ _ (by omega), show 48 + (j - 48) = j by omega] at this
  · have := k (t + 5) (j - 56)
    rwa [sT5b _ _ _ (by omega), sT5b _ _ _ (by omega), show 56 + (j - 56) = j by omega] at this
  · have := k (t + 6) (j - 120)
    rwa [sT6b _ _ _ (by omega), sT6b _ _ _ (by omega), show 120 + (j - 120) = j by omega] at this
  · have := k (t + 7) (j - 152)
    rwa [sT7 _ _ _ (by omega), sT7 _ _ _ (by omega), show 152 + (j - 152) = j by omega] at this
/-- a batch's times are made of times alone -/
theorem spBatch_cg {M : Mem} {pr bt N : Nat} {p a b : Nat → Int32} (hs : WFs p) (hw : WFb p bt) (hx : PBt M pr p bt) (hp : PRs M pr p) (hn : WFn N a) (hN : N + 480 < 2147483648) (h : ∀ j, j < 160 → a j = b j) : ∀ j, j < 160 → spBatch p bt a j = spBatch p bt b j := by
  have x1 := x_runBatch (M := M) (t := pr + 13) (pr := pr) (by omega) hs hw hx hp hn hN
  have x2 := x_runBatch (M := M) (t := pr + 13) (pr := pr) (a := b) (by omega) hs hw hx hp (hn.of (fun i hi => (h _ (by omega)).symm)) hN
  rw [← setT_congr M (pr + 13) h, x1] at x2
  exact setT_inj (congrArg Prod.snd (Option.some.inj x2))
theorem c_next2 {Mx Mm : Mem} {st pr nB n bt : Nat} {l : Nat → Nat} {T N k Q U : Nat} (hst : isS st) (hpr : pr + 12 < st) (hP : PR Mx pr (Mm 5) nB) (hS : SR (Mm 5) Mx st (Mm 1) n l T N k Q U) (hk : k < Q) (hQ : Q ≤ 16) (hbt : bt < nB) (hq : Mm 1 (1441 + k) = nI bt) (hN : N + 480 < 2147483648) (hU : U + 1 < 2147483648) (hd : dB (st + 14) Mx) : ∃ M2 a2 n2 l2, f_X5_runNext st pr Mx = some (0, M2) ∧ f_X10_does (nI bt) Mm = some (0, upA Mm 1 a2) ∧ SR (Mm 5) M2 st a2 n2 l2 T (N + 480) (k + 1) Q (U + 1) ∧ (∀ c, c ≤ st ∨ st + 19 < c → M2 c = Mx c) ∧ (∀ j, 1440 ≤ j → j < 1457 → a2 j = Mm 1 j) ∧ (∀ j, j < 160 → a2 j = spBatch (Mm 5) bt (Mm 1) j) ∧ dB (st + 14) M2 := by
  obtain ⟨hs, hps, h9, hB, -, -, hb⟩ := id hP
  obtain ⟨hw, hx, hu⟩ := hb bt hbt
  obtain ⟨hR, hC, hTm, hau, hau2, hn, hA, hnC⟩ := hS
  obtain ⟨h12, hset, hno, -⟩ := id hw
  obtain ⟨h0, h01, h08, -, -, -, h2, h21, h28, -⟩ := id hs
  have hv := hst.v
  have hNB : NoB (setN (Mm 5) bt) (ix (Mm 5 0)) := ⟨h08, hno⟩
  obtain ⟨M1, x1, A1, F1⟩ := x_take hA hk hQ
  rw [hq] at x1
  have p1 : ∀ k, k ≤ 12 → M1 (pr + k) = Mx (pr + k) := fun k hk => F1 _ (by omega) (by omega)
  have R1 : RV (ix (Mm 5 2)) M1 (st + 1) (Mm 1) := rv_a hR (F1 _ (by omega) (by omega)) (F1 _ (by omega) (by omega)) (fun _ _ _ => rfl)
  have C1 : RC (ix (Mm 5 2)) M1 (st + 1 + 11) (Mm 1) n l T := hC.of (fun c h1 h2 => F1 c (by omega) (by omega)) (fun _ _ _ => rfl) h28
  have T1 : M1 = setT M1 (st + 4) (Mm 1) := setT_of hTm (fun c h1 h2 => F1 c (by omega) (by omega))
  have hs1 : st + 1 - 1 = st := Nat.add_sub_cancel st 1
  obtain ⟨M2, a2, n2, l2, x2, m2, R2, C2, hn2, F2, FA2, a1, ha1, ha2⟩ := x_compute (v := st + 1) (bt := bt) (N := N) hv (by omega) hs rfl hw (hx.of p1) (hps.of p1) (hu.of p1) (by rw [hs1, F1 _ (by omega) (by omega)]; exact hau) hau2 hn hN R1 C1
  rw [hs1] at x2
  have p2 : ∀ k, k ≤ 12 → M2 (pr + k) = Mx (pr + k) := fun k hk => by rw [F2 _ (by omega) (by omega) (by omega)]; exact p1 k hk
  have T2 : M2 = setT M2 (st + 4) a1 := by
    have := setT_of T1 (M2 := M2) (fun c h1 h2 => F2 c (by omega) (by omega) (by omega))
    rw [this, setT_setT]
    exact setT_congr _ _ (fun j hj => (ha1 j hj).symm)
  have hn1 : WFn N a1 := hn.of (fun b hb2 => ha1 _ (by omega))
  have xr := x_runBatch (M := M2) (t := st + 4) (pr := pr) (p := Mm 5) (a := a1) (bt := bt) (N := N) (by omega) hs hw (hx.of p2) (hps.of p2) hn1 hN
  have e3 : setT M2 (st + 4) (spBatch (Mm 5) bt a1) = setT M2 (st + 4) a2 := setT_congr _ _ (fun j hj => (ha2 j hj).symm)
  rw [← T2, e3] at xr
  have xl : f_X6_latest (st + 4) (setN (Mm 5) bt) (setT M2 (st + 4) a2) = some (spLat (ix (Mm 5 0)) (setN (Mm 5) bt) a2, setT M2 (st + 4) a2) := by
    rw [x_latest]
    have : spLat 8 (setN (Mm 5) bt) a2 = spLat (ix (Mm 5 0)) (setN (Mm 5) bt) a2 := fold8 hNB (fun b v => foldN (fun r v => mx v (a2 (8 + 4 * b + r))) 4 (mx v (a2 b))) 0
    rw [this]
  have xe := x_earliest M1 (st + 4) (Mm 1) hset
  rw [← T1] at xe
  -- the run is noted
  have s3 : ∀ c, c ≤ st + 4 ∨ st + 4 + 7 < c → (setT M2 (st + 4) a2) c = M2 c := fun c hc => sTn _ _ hc
  have A3 : AG (setT M2 (st + 4) a2) (st + 17) a2 (k + 1) Q U := by
    obtain ⟨g1, g2, g3, g4, g5, g6⟩ := A1
    have r0 : ∀ d, d ≤ 2 → (setT M2 (st + 4) a2) (st + 17 + d) = M1 (st + 17 + d) := fun d hd => by rw [s3 _ (by omega), F2 _ (by omega) (by omega) (by omega)]
    have r00 : (setT M2 (st + 4) a2) (st + 17) = M1 (st + 17) := r0 0 (by omega)
    exact ⟨by rw [r00]; exact g1, by rw [FA2 _ (by omega)]; exact g2, fun i hi => by rw [r0 1 (by omega), FA2 _ (by omega)]; exact g3 i hi, by rw [r00]; exact g4, by rw [FA2 _ (by omega)]; exact g5, fun i hi => by rw [r0 2 (by omega), FA2 _ (by omega)]; exact g6 i hi⟩
  obtain ⟨M4, x4, A4, F4⟩ := x_noteRun (p := Mm 5) (bt := bt) (fr := spFrom 8 (setN (Mm 5) bt) (Mm 1)) A3 hQ hU
  have hU2 : a2 1457 = nI U := A3.2.2.2.2.1
  have mN := m_116 (Mm := Mm) (A := a2) (bt := bt) (spFrom 8 (setN (Mm 5) bt) (Mm 1)) hs hU2 (by omega)
  have nr : ∀ j, j < 1457 ∨ 1578 ≤ j → nrA (Mm 5) bt (spFrom 8 (setN (Mm 5) bt) (Mm 1)) a2 j = a2 j := by
    intro j hj
    have m40 : ix (a2 1457) % 40 < 40 := Nat.mod_lt _ (by decide)
    unfold nrA
    rw [upd_ne _ _ (by omega), upd_ne _ _ (by omega), upd_ne _ _ (by omega), upd_ne _ _ (by omega)]
  have T2m : M2 = setT M2 (st + 4) (Mm 1) := setT_of T1 (fun c h1 h2 => F2 c (by omega) (by omega) (by omega))
  have xm := x_runBatch (M := M2) (t := st + 4) (pr := pr) (p := Mm 5) (a := Mm 1) (bt := bt) (N := N) (by omega) hs hw (hx.of p2) (hps.of p2) hn hN
  rw [← T2m, xr] at xm
  have et : ∀ j, j < 160 → a2 j = spBatch (Mm 5) bt (Mm 1) j := setT_inj (congrArg Prod.snd (Option.some.inj xm))
  have d2 : dB (st + 14) M2 := pres_comp (pr := pr) (x := nI bt) (dB_of hd (F1 _ (by omega) (by omega))) _ _ x2
  refine ⟨M4, nrA (Mm 5) bt (spFrom 8 (setN (Mm 5) bt) (Mm 1)) a2, n2, l2, ?_, by rw [m2, mN], ⟨?_, ?_, ?_, ?_, ?_, ?_, A4, by omega⟩, fun c hc => ?_, fun j h1 h2 => ?_, fun j hj => ?_, ?_⟩
  · unfold f_X5_runNext
    rw [x1, bnd_some, if_pos (of_eq_true (inb_T h12 (by decide))), ix_nI (by omega)]
    have e2 : M1 (pr + 2) bt = setN (Mm 5) bt := by rw [p1 2 (by omega)]; exact hx.1
    rw [e2, xe, bnd_some, x2, bnd_some]
    have e9 : M2 (pr + 1) 5 = Mm 5 9 := by rw [p2 1 (by omega)]; exact h9
    rw [e9, xr, bnd_some, xl, bnd_some, x4, bnd_some]
  · exact rv_a R2 (by rw [F4 _ (by omega) (by omega), s3 _ (by omega)]) (by rw [F4 _ (by omega) (by omega), s3 _ (by omega)]) (fun j h1 h2 => nr j (by omega))
  · exact C2.of (fun c h1 h2 => by rw [F4 _ (by omega) (by omega), s3 _ (by omega)]) (fun j h1 h2 => nr j (by omega)) h28
  · have t3 : setT M2 (st + 4) a2 = setT (setT M2 (st + 4) a2) (st + 4) a2 := (setT_setT _ _ _ _).symm
    have t4 := setT_of t3 (M2 := M4) (fun c h1 h2 => F4 c (by omega) (by omega))
    rw [t4, setT_setT]
    exact setT_congr _ _ (fun j hj => (nr j (by omega)).symm)
  · rw [F4 _ (by omega) (by omega), s3 _ (by omega), F2 _ (by omega) (by omega) (by omega), F1 _ (by omega) (by omega), nr _ (by omega), FA2 _ (by omega)]; exact hau
  · rw [nr _ (by omega), FA2 _ (by omega)]; exact hau2
  · have hb2 := spBatch_n hs hw hn1 hN
    exact hb2.of (fun b hb3 => by rw [nr _ (by omega), ha2 _ (by omega)])
  · rw [F4 _ (by omega) (by omega), s3 _ (by omega), F2 _ (by omega) (by omega) (by omega), F1 _ (by omega) (by omega)]
  · rw [nr _ (by omega), FA2 _ (by omega)]
  · rw [nr _ (by omega)]; exact et j hj
  · exact dB_of d2 (by rw [F4 _ (by omega) (by omega), s3 _ (by omega)])
theorem c_seq2 {Mx Mm : Mem} {st pr nB n : Nat} {qb : Nat → Nat} {l : Nat → Nat} {T N Q U D : Nat} (hst : isS st) (hpr : pr + 12 < st) (hP : PR Mx pr (Mm 5) nB) (hS : SR (Mm 5) Mx st (Mm 1) n l T N 0 Q U) (hD : D ≤ Q) (hQ : Q ≤ 16) (hq : ∀ k, k < Q → qb k < nB ∧ Mm 1 (1441 + k) = nI (qb k)) (hN : N + 480 * 16 < 2147483648) (hU : U + 16 < 2147483648) (hd : dB (st + 14) Mx) : ∃ (X : Nat → Mem) (A : Nat → Nat → Int32), X 0 = Mx ∧ A 0 = Mm 1 ∧ (∀ k, k ≤ D → (∃ n2 l2, SR (Mm 5) (X k) st (A k) n2 l2 T (N + 480 * k) k Q (U + k)) ∧ (∀ c, c ≤ st ∨ st + 19 < c → X k c = Mx c) ∧ (∀ j, 1440 ≤ j → j < 1457 → A k j = Mm 1 j) ∧ (∀ j, j < 160 → A k j = spQ (Mm 5) qb k (Mm 1) j) ∧ dB (st + 14) (X k)) ∧ ∀ k, k < D → f_X5_runNext st pr (X k) = some (0, X (k + 1)) ∧ f_X10_does (Mm 1 (1441 + k)) (upA Mm 1 (A k)) = some (0, upA Mm 1 (A (k + 1))) := by
  obtain ⟨f, f0, fI, fR⟩ := seq_of (σ := Mem × (Nat → Int32)) (fun k s => (∃ n2 l2, SR (Mm 5) s.1 st s.2 n2 l2 T (N + 480 * k) k Q (U + k)) ∧ (∀ c, c ≤ st ∨ st + 19 < c → s.1 c = Mx c) ∧ (∀ j, 1440 ≤ j → j < 1457 → s.2 j = Mm 1 j) ∧ (∀ j, j < 160 → s.2 j = spQ (Mm 5) qb k (Mm 1) j) ∧ dB (st + 14) s.1) (fun k s s2 => f_X5_runNext st pr s.1 = some (0, s2.1) ∧ f_X10_does (Mm 1 (1441 + k)) (upA Mm 1 s.2) = some (0, upA Mm 1 s2.2)) (Mx, Mm 1) ⟨⟨n, l, hS⟩, fun _ _ => rfl, fun _ _ _ => rfl, fun _ _ => rfl, hd⟩ D (by
    rintro k hk ⟨M1, a1⟩ ⟨⟨n1, l1, S1⟩, F1, Q1, E1, D1⟩
    have S1 : SR (Mm 5) M1 st a1 n1 l1 T (N + 480 * k) k Q (U + k) := S1
    have F1 : ∀ c, c ≤ st ∨ st + 19 < c → M1 c = Mx c := F1
    have Q1 : ∀ j, 1440 ≤ j → j < 1457 → a1 j = Mm 1 j := Q1
    have E1 : ∀ j, j < 160 → a1 j = spQ (Mm 5) qb k (Mm 1) j := E1
    have D1 : dB (st + 14) M1 := D1
    obtain ⟨hbt, ebt⟩ := hq k (by omega)
    obtain ⟨hs, hps, -, -, -, -, hb⟩ := id hP
    obtain ⟨hw, hx, -⟩ := hb _ hbt
    have e1 : (upA Mm 1 a1) 1 = a1 := upA_eq _ _ _
    have e5 : (upA Mm 1 a1) 5 = Mm 5 := upA_ne _ _ (by decide)
    obtain ⟨M2, a2, n2, l2, x2, m2, S2, F2, Q2, E2, D2⟩ := c_next2 (Mx := M1) (Mm := upA Mm 1 a1) (st := st) (pr := pr) (nB := nB) (bt := qb k) hst hpr (by rw [e5]; exact hP.of (fun j hj => F1 _ (by omega))) (by rw [e5, e1]; exact S1) (by omega) hQ hbt (by rw [e1, Q1 _ (by omega) (by omega)]; exact ebt) (by omega) (by omega) D1
    rw [upA_upA] at m2
    rw [e5] at S2
    rw [e1] at Q2
    rw [e1, e5] at E2
    refine ⟨(M2, a2), ⟨⟨n2, l2, by rw [show N + 480 * (k + 1) = N + 480 * k + 480 by omega, show U + (k + 1) = U + k + 1 by omega]; exact S2⟩, fun c hc => ?_, fun j h1 h2 => ?_, fun j hj => ?_, D2⟩, x2, by rw [ebt]; exact m2⟩
    · show M2 c = Mx c
      rw [F2 c hc, F1 c hc]
    · show a2 j = Mm 1 j
      rw [Q2 j h1 h2, Q1 j h1 h2]
    · show a2 j = spQ (Mm 5) qb (k + 1) (Mm 1) j
      rw [E2 j hj]
      exact spBatch_cg (N := N + 480 * k) hs hw hx hps (by exact S1.2.2.2.2.2.1) (by omega) E1 j hj)
  refine ⟨fun k => (f k).1, fun k => (f k).2, congrArg Prod.fst f0, congrArg Prod.snd f0, fun k hk => fI k hk, fun k hk => fR k hk⟩
