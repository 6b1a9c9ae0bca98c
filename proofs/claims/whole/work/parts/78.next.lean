/-! ===== the next batch of the queue is run ===== -/
theorem RC.of {nc : Nat} {M M2 : Mem} {q : Nat} {a a2 : Nat → Int32} {n : Nat} {l : Nat → Nat} {T : Nat} (h : RC nc M q a n l T) (hM : ∀ c, q ≤ c → c ≤ q + 4 → M2 c = M c) (ha : ∀ j, 1578 ≤ j → j < 1670 → a2 j = a j) (hnc : nc ≤ 8) : RC nc M2 q a2 n l T := by
  have h8 := h.n8
  have hcl : ∀ i k, i < 8 → k < 11 → a2 (cl i k) = a (cl i k) := fun i k h1 h2 => ha _ (by unfold cl; omega) (by unfold cl; omega)
  refine ⟨by rw [ha _ (by omega) (by omega)]; exact h.cnt, h.n8, h.l8, fun i hi => ?_, ?_, ?_, ?_, ?_, ?_, ?_, ?_, ?_⟩
  · obtain ⟨b, r, hb, hr, hL, f1, f2, fd, fw⟩ := h.line i hi
    exact ⟨b, r, hb, hr, ⟨by rw [hcl _ _ (by omega) (by omega)]; exact hL.1, by rw [hcl _ _ (by omega) (by omega)]; exact hL.2⟩, by rw [hM _ (by omega) (by omega)]; exact f1, by rw [hM _ (by omega) (by omega), hcl _ _ (by omega) (by omega)]; exact f2, by rw [hcl _ _ (by omega) (by omega)]; exact fd, fun k hk => by rw [hM _ (by omega) (by omega), hcl _ _ (by omega) (by omega)]; exact fw k hk⟩
  · rw [hM _ (by omega) (by omega)]; exact h.ord
  · rw [hM _ (by omega) (by omega)]; exact h.top
  · rw [hM _ (by omega) (by omega)]; exact h.cov
  · rw [hM _ (by omega) (by omega)]; exact h.dist
  · rw [hM _ (by omega) (by omega), ha _ (by omega) (by omega)]; exact h.hit
  · rw [hM _ (by omega) (by omega), ha _ (by omega) (by omega)]; exact h.mis
  · rw [hM _ (by omega) (by omega), ha _ (by omega) (by omega)]; exact h.wrb
  · rw [ha _ (by omega) (by omega), ha _ (by omega) (by omega)]; exact h.sum
theorem setT_of {M M2 : Mem} {t : Nat} {a : Nat → Int32} (h : M = setT M t a) (e : ∀ c, t + 1 ≤ c → c ≤ t + 7 → M2 c = M c) : M2 = setT M2 t a := by
  funext c j
  by_cases q : t + 1 ≤ c ∧ c ≤ t + 7
  · have h1 : M2 c j = M c j := by rw [e c q.1 q.2]
    have h2 : M c j = setT M t a c j := congrFun (congrFun h c) j
    rw [h1, h2]
    unfold setT
    rw [h1]
  · rw [sTn _ _ (by omega)]
/-- the class's state st and the reference's array a; k batches of the queue are run -/
def SR (p : Nat → Int32) (M : Mem) (st : Nat) (a : Nat → Int32) (n : Nat) (l : Nat → Nat) (T N k Q U : Nat) : Prop := RV (ix (p 2)) M (st + 1) a ∧ RC (ix (p 2)) M (st + 1 + 11) a n l T ∧ M = setT M (st + 4) a ∧ M st 4 = a 1670 ∧ (a 1670 = 0 ∨ a 1670 = 1) ∧ WFn N a ∧ AG M (st + 17) a k Q U ∧ n ≤ ix (p 11)
/-- the class's program pr is the reference's p -/
def PR (M : Mem) (pr : Nat) (p : Nat → Int32) (nB : Nat) : Prop := WFs p ∧ PRs M pr p ∧ M (pr + 1) 5 = p 9 ∧ nB ≤ 12 ∧ p 12 = nI nB ∧ M pr 4 = nI nB ∧ ∀ bt, bt < nB → WFb p bt ∧ PBt M pr p bt ∧ PUs M pr p bt
theorem PR.of {M M2 : Mem} {pr nB : Nat} {p : Nat → Int32} (h : PR M pr p nB) (e : ∀ k, k ≤ 12 → M2 (pr + k) = M (pr + k)) : PR M2 pr p nB := by
  obtain ⟨h1, h2, h3, h4, h5, h6, h7⟩ := h
  have e0 : M2 pr = M pr := e 0 (by omega)
  exact ⟨h1, h2.of e, by rw [e 1 (by omega)]; exact h3, h4, h5, by rw [e0]; exact h6, fun bt hb => ⟨(h7 bt hb).1, (h7 bt hb).2.1.of e, (h7 bt hb).2.2.of e⟩⟩
def isS (st : Nat) : Prop := st = 33 ∨ st = 53 ∨ st = 74 ∨ st = 94
theorem isS.v {st : Nat} (h : isS st) : isV (st + 1) := by
  rcases h with rfl | rfl | rfl | rfl
  · exact Or.inl rfl
  · exact Or.inr (Or.inl rfl)
  · exact Or.inr (Or.inr (Or.inl rfl))
  · exact Or.inr (Or.inr (Or.inr rfl))
theorem spBatch_n {p a : Nat → Int32} {bt N : Nat} (hs : WFs p) (hw : WFb p bt) (h : WFn N a) (hN : N + 480 < 2147483648) : WFn (N + 480) (spBatch p bt a) := by
  obtain ⟨-, -, -, -, -, hr⟩ := hw
  have := hr.1
  exact (spRun_n h hs.2.2.1 (by omega) hr).mono (by omega)
theorem c_next {Mx Mm : Mem} {st pr nB n bt : Nat} {l : Nat → Nat} {T N k Q U : Nat} (hst : isS st) (hpr : pr + 12 < st) (hP : PR Mx pr (Mm 5) nB) (hS : SR (Mm 5) Mx st (Mm 1) n l T N k Q U) (hk : k < Q) (hQ : Q ≤ 16) (hbt : bt < nB) (hq : Mm 1 (1441 + k) = nI bt) (hN : N + 480 < 2147483648) (hU : U + 1 < 2147483648) : ∃ M2 a2 n2 l2, f_X5_runNext st pr Mx = some (0, M2) ∧ f_X10_does (nI bt) Mm = some (0, upA Mm 1 a2) ∧ SR (Mm 5) M2 st a2 n2 l2 T (N + 480) (k + 1) Q (U + 1) ∧ (∀ c, c ≤ st ∨ st + 19 < c → M2 c = Mx c) ∧ (∀ j, 1440 ≤ j → j < 1457 → a2 j = Mm 1 j) := by
  obtain ⟨hs, hps, h9, hB, -, -, hb⟩ := id hP
  obtain ⟨hw, hx, hu⟩ := hb bt hbt
  obtain ⟨hR, hC, hTm, hau, hau2, hn, hA, hnC⟩ := hS
  obtain ⟨h12, hset, hno, -⟩ := id hw
  obtain ⟨h0, h01, h08, -, -, -, h2, h21, h28, -⟩ := id hs
  have hv := hst.v
  have hNB : NoB (setN (Mm 5) bt) (ix (Mm 5 0)) := ⟨h08, hno⟩
  obtain ⟨M1, x1, A1, F1⟩ := x_take hA hk hQ
  rw [hq] at x1
  have p1 : ∀ k, k ≤ 12 → M1 (pr + k) = Mx (pr + k) := fun k hk => F1 _ (by omega) (by omega)
  have R1 : RV (ix (Mm 5 2)) M1 (st + 1) (Mm 1) := rv_a hR (F1 _ (by omega) (by omega)) (F1 _ (by omega) (by omega)) (fun _ _ _ => rfl)
  have C1 : RC (ix (Mm 5 2)) M1 (st + 1 + 11) (Mm 1) n l T := hC.of (fun c h1 h2 => F1 c (by omega) (by omega)) (fun _ _ _ => rfl) h28
  have T1 : M1 = setT M1 (st + 4) (Mm 1) := setT_of hTm (fun c h1 h2 => F1 c (by omega) (by omega))
  have hs1 : st + 1 - 1 = st := Nat.add_sub_cancel st 1
  obtain ⟨M2, a2, n2, l2, x2, m2, R2, C2, hn2, F2, FA2, a1, ha1, ha2⟩ := x_compute (v := st + 1) (bt := bt) (N := N) hv (by omega) hs rfl hw (hx.of p1) (hps.of p1) (hu.of p1) (by rw [hs1, F1 _ (by omega) (by omega)]; exact hau) hau2 hn hN R1 C1
  rw [hs1] at x2
  have p2 : ∀ k, k ≤ 12 → M2 (pr + k) = Mx (pr + k) := fun k hk => by rw [F2 _ (by omega) (by omega) (by omega)]; exact p1 k hk
  have T2 : M2 = setT M2 (st + 4) a1 := by
    have := setT_of T1 (M2 := M2) (fun c h1 h2 => F2 c (by omega) (by omega) (by omega))
    rw [this, setT_setT]
    exact setT_congr _ _ (fun j hj => (ha1 j hj).symm)
  have hn1 : WFn N a1 := hn.of (fun b hb2 => ha1 _ (by omega))
  have xr := x_runBatch (M := M2) (t := st + 4) (pr := pr) (p := Mm 5) (a := a1) (bt := bt) (N := N) (by omega) hs hw (hx.of p2) (hps.of p2) hn1 hN
  have e3 : setT M2 (st + 4) (spBatch (Mm 5) bt a1) = setT M2 (st + 4) a2 := setT_congr _ _ (fun j hj => (ha2 j hj).symm)
  rw [← T2, e3] at xr
  have xl : f_X6_latest (st + 4) (setN (Mm 5) bt) (setT M2 (st + 4) a2) = some (spLat (ix (Mm 5 0)) (setN (Mm 5) bt) a2, setT M2 (st + 4) a2) := by
    rw [x_latest]
    have : spLat 8 (setN (Mm 5) bt) a2 = spLat (ix (Mm 5 0)) (setN (Mm 5) bt) a2 := fold8 hNB (fun b v => foldN (fun r v => mx v (a2 (8 + 4 * b + r))) 4 (mx v (a2 b))) 0
    rw [this]
  have xe := x_earliest M1 (st + 4) (Mm 1) hset
  rw [← T1] at xe
  -- the run is noted
  have s3 : ∀ c, c ≤ st + 4 ∨ st + 4 + 7 < c → (setT M2 (st + 4) a2) c = M2 c := fun c hc => sTn _ _ hc
  have A3 : AG (setT M2 (st + 4) a2) (st + 17) a2 (k + 1) Q U := by
    obtain ⟨g1, g2, g3, g4, g5, g6⟩ := A1
    have r0 : ∀ d, d ≤ 2 → (setT M2 (st + 4) a2) (st + 17 + d) = M1 (st + 17 + d) := fun d hd => by rw [s3 _ (by omega), F2 _ (by omega) (by omega) (by omega)]
    have r00 : (setT M2 (st + 4) a2) (st + 17) = M1 (st + 17) := r0 0 (by omega)
    exact ⟨by rw [r00]; exact g1, by rw [FA2 _ (by omega)]; exact g2, fun i hi => by rw [r0 1 (by omega), FA2 _ (by omega)]; exact g3 i hi, by rw [r00]; exact g4, by rw [FA2 _ (by omega)]; exact g5, fun i hi => by rw [r0 2 (by omega), FA2 _ (by omega)]; exact g6 i hi⟩
  obtain ⟨M4, x4, A4, F4⟩ := x_noteRun (p := Mm 5) (bt := bt) (fr := spFrom 8 (setN (Mm 5) bt) (Mm 1)) A3 hQ hU
  have hU2 : a2 1457 = nI U := A3.2.2.2.2.1
  have mN := m_116 (Mm := Mm) (A := a2) (bt := bt) (spFrom 8 (setN (Mm 5) bt) (Mm 1)) hs hU2 (by omega)
  have nr : ∀ j, j < 1457 ∨ 1578 ≤ j → nrA (Mm 5) bt (spFrom 8 (setN (Mm 5) bt) (Mm 1)) a2 j = a2 j := by
    intro j hj
    have m40 : ix (a2 1457) % 40 < 40 := Nat.mod_lt _ (by decide)
    unfold nrA
    rw [upd_ne _ _ (by omega), upd_ne _ _ (by omega), upd_ne _ _ (by omega), upd_ne _ _ (by omega)]
  refine ⟨M4, nrA (Mm 5) bt (spFrom 8 (setN (Mm 5) bt) (Mm 1)) a2, n2, l2, ?_, by rw [m2, mN], ⟨?_, ?_, ?_, ?_, ?_, ?_, A4, by omega⟩, fun c hc => ?_, fun j h1 h2 => ?_⟩
  · unfold f_X5_runNext
    rw [x1, bnd_some, if_pos (of_eq_true (inb_T h12 (by decide))), ix_nI (by omega)]
    have e2 : M1 (pr + 2) bt = setN (Mm 5) bt := by rw [p1 2 (by omega)]; exact hx.1
    rw [e2, xe, bnd_some, x2, bnd_some]
    have e9 : M2 (pr + 1) 5 = Mm 5 9 := by rw [p2 1 (by omega)]; exact h9
    rw [e9, xr, bnd_some, xl, bnd_some, x4, bnd_some]
  · exact rv_a R2 (by rw [F4 _ (by omega) (by omega), s3 _ (by omega)]) (by rw [F4 _ (by omega) (by omega), s3 _ (by omega)]) (fun j h1 h2 => nr j (by omega))
  · exact C2.of (fun c h1 h2 => by rw [F4 _ (by omega) (by omega), s3 _ (by omega)]) (fun j h1 h2 => nr j (by omega)) h28
  · have t3 : setT M2 (st + 4) a2 = setT (setT M2 (st + 4) a2) (st + 4) a2 := (setT_setT _ _ _ _).symm
    have t4 := setT_of t3 (M2 := M4) (fun c h1 h2 => F4 c (by omega) (by omega))
    rw [t4, setT_setT]
    exact setT_congr _ _ (fun j hj => (nr j (by omega)).symm)
  · rw [F4 _ (by omega) (by omega), s3 _ (by omega), F2 _ (by omega) (by omega) (by omega), F1 _ (by omega) (by omega), nr _ (by omega), FA2 _ (by omega)]; exact hau
  · rw [nr _ (by omega), FA2 _ (by omega)]; exact hau2
  · have hb2 := spBatch_n hs hw hn1 hN
    exact hb2.of (fun b hb3 => by rw [nr _ (by omega), ha2 _ (by omega)])
  · rw [F4 _ (by omega) (by omega), s3 _ (by omega), F2 _ (by omega) (by omega) (by omega), F1 _ (by omega) (by omega)]
  · rw [nr _ (by omega), FA2 _ (by omega)]
