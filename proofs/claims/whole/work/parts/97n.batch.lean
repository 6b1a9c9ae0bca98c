/-! ===== a batch ===== -/
/-- sizes and settings as both have read them -/
def HD (pr : Nat) (Mx Mm : Mem) : Prop := (∃ y0 y1 y2, (1 ≤ y0 ∧ y0 ≤ 8) ∧ (1 ≤ y1 ∧ y1 ≤ 16) ∧ (1 ≤ y2 ∧ y2 ≤ 8) ∧ (Mx pr 0 = nI y0 ∧ Mx pr 1 = nI y1 ∧ Mx pr 2 = nI y2) ∧ (Mm 6 0 = nI y0 ∧ Mm 6 1 = nI y1 ∧ Mm 6 2 = nI y2)) ∧ SS pr Mx Mm
theorem HD.of {pr : Nat} {Mx Mm Mx2 Mm2 : Mem} (h : HD pr Mx Mm) (e0 : ∀ i, i < 3 → Mx2 pr i = Mx pr i) (e1 : Mx2 (pr + 1) = Mx (pr + 1)) (f : ∀ j, j < 12 → Mm2 6 j = Mm 6 j) : HD pr Mx2 Mm2 := by
  unfold HD SS at *
  rw [e0 0 (by omega), e0 1 (by omega), e0 2 (by omega), f 0 (by omega), f 1 (by omega), f 2 (by omega), e1]
  refine ⟨h.1, fun s hs => ?_⟩
  have := sm_ok s hs
  rw [f _ (by omega)]
  exact h.2 s hs
theorem HD.rel {pr : Nat} {Mx Mm : Mem} (h : HD pr Mx Mm) : PRs Mx pr (Mm 6) ∧ WFs (Mm 6) ∧ Mx (pr + 1) 5 = Mm 6 9 ∧ WFt (Mm 6) := by
  obtain ⟨⟨y0, y1, y2, b0, b1, b2, ⟨x0, x1, x2⟩, m0, m1, m2⟩, hs⟩ := h
  obtain ⟨s0, z0, l0, u0, v0⟩ := hs 0 (by omega)
  obtain ⟨s1, z1, l1, u1, v1⟩ := hs 1 (by omega)
  obtain ⟨s2, z2, l2, u2, v2⟩ := hs 2 (by omega)
  obtain ⟨s3, z3, l3, u3, v3⟩ := hs 3 (by omega)
  obtain ⟨s4, z4, l4, u4, v4⟩ := hs 4 (by omega)
  obtain ⟨s5, z5, l5, u5, v5⟩ := hs 5 (by omega)
  obtain ⟨s6, z6, l6, u6, v6⟩ := hs 6 (by omega)
  obtain ⟨s7, z7, l7, u7, v7⟩ := hs 7 (by omega)
  obtain ⟨s8, z8, l8, u8, v8⟩ := hs 8 (by omega)
  have s0 : Mx (pr + 1) 0 = Mm 6 3 := s0
  have s1 : Mx (pr + 1) 1 = Mm 6 4 := s1
  have s2 : Mx (pr + 1) 2 = Mm 6 5 := s2
  have s3 : Mx (pr + 1) 3 = Mm 6 6 := s3
  have s4 : Mx (pr + 1) 4 = Mm 6 8 := s4
  have s5 : Mx (pr + 1) 5 = Mm 6 9 := s5
  have s6 : Mx (pr + 1) 6 = Mm 6 10 := s6
  have s7 : Mx (pr + 1) 7 = Mm 6 11 := s7
  have s8 : Mx (pr + 1) 8 = Mm 6 7 := s8
  have u0 : z0 ≤ 100 := u0
  have u1 : z1 ≤ 100 := u1
  have u2 : z2 ≤ 100 := u2
  have u3 : z3 ≤ 100 := u3
  have u4 : z4 ≤ 100 := u4
  have u5 : z5 ≤ 8 := u5
  have u6 : z6 ≤ 1000 := u6
  have u7 : z7 ≤ 8 := u7
  have u8 : z8 ≤ 100 := u8
  have l5 : 1 ≤ z5 := l5
  rw [s0] at v0
  rw [s1] at v1
  rw [s2] at v2
  rw [s3] at v3
  rw [s4] at v4
  rw [s5] at v5
  rw [s6] at v6
  rw [s7] at v7
  rw [s8] at v8
  refine ⟨⟨by rw [x0, m0], by rw [x1, m1], by rw [x2, m2], s0, s1, s2, s3, s8, s4, s6, s7⟩, ?_, s5, fun k k1 k2 => ?_, ⟨z6, u6, v6⟩⟩
  · unfold WFs
    have i0 : ix (nI y0) = y0 := ix_nI (by omega)
    have i1 : ix (nI y1) = y1 := ix_nI (by omega)
    have i2 : ix (nI y2) = y2 := ix_nI (by omega)
    have i5 : ix (nI z5) = z5 := ix_nI (by omega)
    have i7 : ix (nI z7) = z7 := ix_nI (by omega)
    rw [m0, m1, m2, v5, v7, i0, i1, i2, i5, i7]
    exact ⟨rfl, b0.1, b0.2, rfl, b1.1, b1.2, rfl, b2.1, b2.2, rfl, l5, u5, rfl, u7⟩
  · rcases (show k = 3 ∨ k = 4 ∨ k = 5 ∨ k = 6 ∨ k = 7 ∨ k = 8 by omega) with z | z | z | z | z | z
    · rw [z]; exact ⟨z0, u0, v0⟩
    · rw [z]; exact ⟨z1, u1, v1⟩
    · rw [z]; exact ⟨z2, u2, v2⟩
    · rw [z]; exact ⟨z3, u3, v3⟩
    · rw [z]; exact ⟨z8, u8, v8⟩
    · rw [z]; exact ⟨z4, u4, v4⟩
/-- the finished batches -/
def BT (pr nc bt : Nat) (M : Mem) (p : Nat → Int32) : Prop := WFb p bt ∧ PBt M pr p bt ∧ PUs M pr p bt ∧ fstN p bt + lenN p bt ≤ nc
section KB
variable {p p2 : Nat → Int32} {c : Nat}
theorem cg_c (e : ∀ k, k < 4 → p2 (50 + 4 * c + k) = p (50 + 4 * c + k)) : kdN p2 c = kdN p c ∧ wyN p2 c = wyN p c ∧ rgN p2 c = rgN p c ∧ (WFc p c → WFc p2 c) ∧ (∀ il, cR p2 c il = cR p c il) ∧ ∀ il, cW p2 c il = cW p c il := by
  have e0 : p2 (50 + 4 * c) = p (50 + 4 * c) := e 0 (by omega)
  have e1 := e 1 (by omega)
  have e2 := e 2 (by omega)
  have e3 := e 3 (by omega)
  have ek : kdN p2 c = kdN p c := by unfold kdN; rw [e0]
  refine ⟨ek, by unfold wyN; rw [e0], by unfold rgN; rw [e1], fun h => ?_, fun il => ?_, fun il => ?_⟩
  · unfold WFc x2N x3N rgN at *
    rw [ek, e0, e1, e2, e3]
    exact h
  · unfold cR
    rw [ek, e1, e2, e3]
  · unfold cW
    rw [ek, e1, e2]
theorem cg_dl {s : Int32} (e : ∀ k, k < 4 → p2 (50 + 4 * c + k) = p (50 + 4 * c + k)) (f : ∀ j, j < 12 → p2 j = p j) : dlN p2 s c = dlN p s c := by
  obtain ⟨ek, ew, -⟩ := cg_c e
  unfold dlN spBy spE
  rw [ek, ew, f 2 (by omega), f 4 (by omega), f 5 (by omega), f 6 (by omega), f 7 (by omega), f 8 (by omega)]
end KB
theorem BT.keep {pr nb nc nc2 bt : Nat} {M M2 : Mem} {p p2 : Nat → Int32} (h : BT pr nc bt M p) (hbt : bt < nb) (hn : nb ≤ 12) (hnc : nc ≤ 60) (hnc2 : nc ≤ nc2) (ep : ∀ j, j ≠ 12 → j ≠ 13 → (j < 14 + 3 * nb ∨ (50 ≤ j ∧ j < 50 + 4 * nc)) → p2 j = p j) (e2 : ∀ k, 2 ≤ k → k ≤ 4 → M2 (pr + k) bt = M (pr + k) bt) (e5 : ∀ k c, 5 ≤ k → k ≤ 10 → c < nc → M2 (pr + k) c = M (pr + k) c) (e11 : ∀ k j, 11 ≤ k → k ≤ 12 → j < 8 * nb → M2 (pr + k) j = M (pr + k) j) : BT pr nc2 bt M2 p2 := by
  obtain ⟨⟨w1, w2, w3, w4, w5, w6⟩, ⟨b1, b2, b3, b4⟩, u, l⟩ := h
  have s0 : p2 (14 + 3 * bt) = p (14 + 3 * bt) := ep _ (by omega) (by omega) (by omega)
  have s1 : p2 (14 + 3 * bt + 1) = p (14 + 3 * bt + 1) := ep _ (by omega) (by omega) (by omega)
  have s2 : p2 (14 + 3 * bt + 2) = p (14 + 3 * bt + 2) := ep _ (by omega) (by omega) (by omega)
  have es : setN p2 bt = setN p bt := s0
  have ef : fstN p2 bt = fstN p bt := by unfold fstN; rw [s1]
  have el : lenN p2 bt = lenN p bt := by unfold lenN; rw [s2]
  have ec : ∀ c, fstN p bt ≤ c → c < fstN p bt + lenN p bt → ∀ k, k < 4 → p2 (50 + 4 * c + k) = p (50 + 4 * c + k) := fun c c1 c2 k hk => ep _ (by omega) (by omega) (by omega)
  have lo : ∀ b, isLo p2 bt b = isLo p bt b := fun b => by unfold isLo; rw [es]
  refine ⟨⟨w1, by rw [es]; exact w2, by rw [es, ep 0 (by omega) (by omega) (by omega)]; exact w3, by rw [ef, s1]; exact w4, by rw [el, s2]; exact w5, by rw [ef, el]; exact w6.1, fun c c1 c2 => ?_⟩, ⟨by rw [e2 2 (by omega) (by omega), es]; exact b1, by rw [e2 3 (by omega) (by omega), ef]; exact b2, by rw [e2 4 (by omega) (by omega), ef, el]; exact b3, fun c c1 c2 => ?_⟩, fun b hb => ?_, by rw [ef, el]; omega⟩
  · rw [ef] at c1 c2
    rw [el] at c2
    exact (cg_c (ec c c1 c2)).2.2.2.1 (w6.2 c c1 c2)
  · rw [ef] at c1 c2
    rw [el] at c2
    have cn : c < nc := by omega
    have hc := b4 c c1 c2
    obtain ⟨g1, g2, g3, g4, g5, g6⟩ := cg_c (ec c c1 c2)
    have d2 : p2 (50 + 4 * c + 2) = p (50 + 4 * c + 2) := ec c c1 c2 2 (by omega)
    have d3 : p2 (50 + 4 * c + 3) = p (50 + 4 * c + 3) := ec c c1 c2 3 (by omega)
    unfold PCm at *
    rw [es, g1, g2, g3, d2, d3, cg_dl (ec c c1 c2) (fun j hj => ep j (by omega) (by omega) (by omega)), e5 5 c (by omega) (by omega) cn, e5 6 c (by omega) (by omega) cn, e5 7 c (by omega) (by omega) cn, e5 8 c (by omega) (by omega) cn, e5 9 c (by omega) (by omega) cn, e5 10 c (by omega) (by omega) cn]
    exact hc
  · have rr : rdS p2 bt b = rdS p bt b := by
      unfold rdS rdF
      rw [ef, el, lo]
      exact foldN_congr (fun i hi s => by rw [(cg_c (ec (fstN p bt + i) (by omega) (by omega))).2.2.2.2.1]) _
    have rw_ : wrS p2 bt b = wrS p bt b := by
      unfold wrS wrF
      rw [ef, el, lo]
      exact foldN_congr (fun i hi s => by rw [(cg_c (ec (fstN p bt + i) (by omega) (by omega))).2.2.2.2.2]) _
    rw [e11 11 _ (by omega) (by omega) (by omega), e11 12 _ (by omega) (by omega) (by omega), es, rr, rw_]
    exact u b hb
/-- what holds after nb batches of nc commands -/
def PI (pr nb nc : Nat) (Mx Mm : Mem) : Prop := HD pr Mx Mm ∧ (nb ≤ 12 ∧ nc ≤ 60) ∧ (Mx pr 4 = nI nb ∧ Mm 6 12 = nI nb) ∧ (Mx pr 5 = nI nc ∧ Mm 6 13 = nI nc) ∧ (∀ j, 50 + 4 * nc ≤ j → j < 290 → Mm 6 j = 0) ∧ (∀ j, 8 * nb ≤ j → j < 96 → Mx (pr + 11) j = 0 ∧ Mx (pr + 12) j = 0) ∧ ∀ bt, bt < nb → BT pr nc bt Mx (Mm 6)
section BE
variable {T : Nat → Int32} {L pr : Nat}
theorem p_batchEnd (hp : pr = 7 ∨ pr = 20) {nb nc f : Nat} {X M : Mem} (P : PS T L pr X M) (hb : nb < 12) (hnc : nc ≤ 60) (hf : f ≤ nc) (h4 : X pr 4 = nI nb) (h5 : X pr 5 = nI nc) (h3 : X (pr + 3) nb = nI f) (g12 : M 6 12 = nI nb) (g13 : M 6 13 = nI nc) (g1 : M 6 (14 + 3 * nb + 1) = nI f) : ∃ X1 X2 M2, finX X = some (0, X2) ∧ j_X10_batch_201 (nI (14 + 3 * nb)) M = some (0, M2) ∧ PS T L pr X2 M2 ∧ FrP X X1 ∧ FM M M2 ∧ M2 6 = upd (upd (M 6) (14 + 3 * nb + 2) (nI (nc - f))) 12 (nI (nb + 1)) ∧ (X2 2 5 = 0 → X 2 5 = 0) ∧ f_X4_endBatch pr X1 = some (0, X2) := by
  have hp7 : 7 ≤ pr := by rcases hp with z | z <;> omega
  have P0 : PS T L pr X (up M 6 (14 + 3 * nb + 2) (nI (nc - f))) := P.of (fun _ _ => rfl) (fun d hd => up_a _ _ _ (by omega))
  obtain ⟨X1, v1, N1, M1, a1, b1, c1, P1, F1, G1, E1⟩ := p_word (w := 27) P0 (by omega)
  obtain ⟨X2, v2, N2, M2, a2, b2, c2, P2, F2, G2, E2⟩ := p_sign (w := 30) P1 (by omega)
  have F12 := F1.trans F2
  have bk := P2.blk hp
  obtain ⟨X3, x3, q1, q2, q3, -⟩ := x_endBatch (pr := pr) (M := X2) (nb := nb) (nc := nc) (f := f) hb (by rw [F12 pr (by omega)]; exact h4) (by rw [F12 pr (by omega)]; exact h5) hnc (by rw [F12 _ (by omega)]; exact h3) hf
  have e12 : M2 6 12 = nI nb := by rw [G2.1 6 (by decide), G1.1 6 (by decide), up_i _ _ (by omega)]; exact g12
  refine ⟨X2, X3, up M2 6 12 (nI (nb + 1)), ?_, ?_, ?_, F12, ?_, ?_, fun z => ?_, x3⟩
  · unfold finX
    have a1' : f_X2_take 27 X = some (0, X1) := a1
    have a2' : f_X2_take 30 X1 = some (0, X2) := a2
    rw [a1', bnd_some, a2', bnd_some, if_pos bk.1, bk.2, x3, bnd_some]
  · have b1' : f_X10_takesWord 1051 (up M 6 (14 + 3 * nb + 2) (nI (nc - f))) = some (v1, N1) := b1
    have b2' : f_X10_takesSign 59 M1 = some (v2, N2) := b2
    have i1 : ix (nI (14 + 3 * nb + 1)) = 14 + 3 * nb + 1 := ix_nI (by omega)
    have i2 : ix (nI (14 + 3 * nb + 2)) = 14 + 3 * nb + 2 := ix_nI (by omega)
    have es : nI nc - nI f = nI (nc - f) := ss hf
    unfold j_X10_batch_201
    rw [show nI (14 + 3 * nb) + 1 = nI (14 + 3 * nb + 1) from nI_add _ 1, show nI (14 + 3 * nb) + 2 = nI (14 + 3 * nb + 2) from nI_add _ 2, if_pos (of_eq_true (inb_T (by first | omega | (unfold wdP; omega) | (unfold lnP; omega) | (unfold cl; omega)) (by omega))), if_pos (of_eq_true (inb_T (by first | omega | (unfold wdP; omega) | (unfold lnP; omega) | (unfold cl; omega)) (by omega))), i1, i2, g13, g1, es, wrt_def, b1', bnd_some, c1, bnd_some, b2', bnd_some, c2, bnd_some, e12, nI_1, wrt_def]
  · exact P2.of (fun d hd => q1 d (by omega) (by omega) (by omega) (by omega) (by omega)) (fun d hd => up_a _ _ _ (by omega))
  · exact ((((FM.refl M).up6 (i := 14 + 3 * nb + 2) (x := nI (nc - f))).trans G1.m).trans G2.m).up6
  · rw [up_row, G2.1 6 (by decide), G1.1 6 (by decide), up_row]
  · refine E1 (E2 ?_)
    rw [← q1 2 (by omega) (by omega) (by omega) (by omega) (by omega)]
    exact z
end BE
