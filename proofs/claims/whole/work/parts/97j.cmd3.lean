/-! ===== set, reductions; the whole command ===== -/
section CP
variable {T : Nat → Int32} {L pr : Nat} {Mx Mm : Mem}
theorem p_signed (h : PS T L pr Mx Mm) : ∃ x X2 v M1 w M2, f_X2_takeSignedNumber Mx = some (x, X2) ∧ f_X10_takesSign 45 Mm = some (v, M1) ∧ f_X10_figure 0 999999 M1 = some (w, M2) ∧ PS T L pr X2 M2 ∧ FrP Mx X2 ∧ FrQ Mm M2 ∧ (X2 2 5 = 0 → Mx 2 5 = 0 ∧ (if v = 0 then w else -w) = x) := by
  rcases h with ⟨b, h⟩ | h
  · have ms := m_sign h (w := 31) (by omega)
    have ms : f_X10_takesSign 45 Mm = if kd T L b = 31 then bnd (f_X10_token Mm) (fun _ M5 => some (1, M5)) else some (0, Mm) := ms
    unfold f_X2_takeSignedNumber
    rw [ms, h.2.2.2.2.2.2.2.1]
    by_cases z : kd T L b = 31
    · obtain ⟨X1, M1, x1, m1, o1, F1, G1⟩ := p_next h (kdL_lt (show kd T L b ≠ 32 by omega))
      obtain ⟨y, X2, w, M2, a2, b2, P2, F2, G2, l2, u2, E2⟩ := p_num (l := 0) (hi := 999999) (H := 999999) (Or.inl ⟨_, o1⟩) (by omega) (by omega) (fun _ => rfl)
      refine ⟨-nI y, X2, 1, M1, w, M2, ?_, by rw [if_pos z, m1, bnd_some], b2, P2, F1.trans F2, G1.trans G2, fun q => ⟨h.2.1, by rw [if_neg ne10, (E2 q).2]⟩⟩
      have a2' : f_X2_takeNumber 0 999999 X1 = some (nI y, X2) := a2
      rw [z, if_pos (show nI 31 = 31 from rfl), show (31 : Int32) = nI 31 from rfl, x_takeT h z, x1, bnd_some, bnd_some, a2', bnd_some]
    · obtain ⟨y, X2, w, M2, a2, b2, P2, F2, G2, l2, u2, E2⟩ := p_num (l := 0) (hi := 999999) (H := 999999) (show PS T L pr Mx Mm from Or.inl ⟨_, h⟩) (by omega) (by omega) (fun _ => rfl)
      refine ⟨nI y, X2, 0, Mm, w, M2, ?_, by rw [if_neg z], b2, P2, F2, G2, fun q => ⟨h.2.1, by rw [if_pos rfl, (E2 q).2]⟩⟩
      have a2' : f_X2_takeNumber 0 999999 Mx = some (nI y, X2) := a2
      rw [if_neg (show ¬ nI (kd T L b) = 31 from fun y => z ((nI_kd (by omega)).mp (show nI (kd T L b) = nI 31 from y))), a2', bnd_some]
  · obtain ⟨y, X2, w, M2, a2, b2, P2, F2, G2, l2, u2, E2⟩ := p_num (l := 0) (hi := 999999) (H := 999999) (show PS T L pr Mx Mm from Or.inr h) (by omega) (by omega) (fun _ => rfl)
    have a2' : f_X2_takeNumber 0 999999 Mx = some (nI y, X2) := a2
    unfold f_X2_takeSignedNumber
    by_cases z : Mx 2 3 = 31
    · rw [if_pos z, x_takeE h, bnd_some, a2', bnd_some]
      exact ⟨_, X2, 0, Mm, w, M2, rfl, m_signE h _, b2, P2, F2, G2, fun q => absurd ((E2 q).1) h.2.1⟩
    · rw [if_neg z, a2', bnd_some]
      exact ⟨_, X2, 0, Mm, w, M2, rfl, m_signE h _, b2, P2, F2, G2, fun q => absurd ((E2 q).1) h.2.1⟩
theorem p_o2 {c : Nat} (hc : c < 60) (h : PS T L pr Mx Mm) (hp : pr = 7 ∨ pr = 20) : ∃ X2 M2 y x, j_X2_parseOperands_42 (nI c) 11 Mx = some (0, X2) ∧ j_X10_command_127 2 (nI (50 + 4 * c)) Mm = j_X10_command_247 M2 ∧ PS T L pr X2 M2 ∧ FO pr c Mx X2 ∧ FQ c Mm M2 ∧ y < 4 ∧ X2 (pr + 7) c = nI y ∧ X2 (pr + 8) c = x ∧ (∀ d, d ≠ 2 → d ≠ pr + 7 → d ≠ pr + 8 → X2 d = Mx d) ∧ (∀ j, j ≠ 50 + 4 * c + 1 → j ≠ 50 + 4 * c + 2 → M2 6 j = Mm 6 j) ∧ (X2 2 5 = 0 → Mx 2 5 = 0 ∧ M2 6 (50 + 4 * c + 1) = nI y ∧ M2 6 (50 + 4 * c + 2) = x) := by
  have hp7 : 7 ≤ pr := by rcases hp with z | z <;> omega
  have bk := h.blk hp
  obtain ⟨y, X1, w1, M1, a1, b1, P1, y4, F1, G1, E1⟩ := p_reg (c := c) (d := pr + 7) (k := 50 + 4 * c + 1) h hp (by omega)
  have bk1 := P1.blk hp
  obtain ⟨x, X2, v, N2, w2, M2, a2, n2, b2, P2, F2, G2, E2⟩ := p_signed P1
  have P2' := P2.up hp7 (c := pr + 8) (i := c) (k := 50 + 4 * c + 2) (x := x) (y := if v = 0 then w2 else -w2) (by omega)
  have FO1 := (FO.refl (pr := pr) c Mx).step (x := nI y) F1 hp7 (d := pr + 7) (by omega)
  have FQ1 := (FQ.refl c Mm).step (x := w1) G1 (k := 50 + 4 * c + 1) (by omega)
  refine ⟨up X2 (pr + 8) c x, up M2 6 (50 + 4 * c + 2) (if v = 0 then w2 else -w2), y, x, ?_, ?_, P2', FO1.step F2 hp7 (by omega), FQ1.step G2 (by omega), y4, ?_, up_eq _ _ _ _, fun d d1 d2 d3 => by rw [up_a _ _ _ d3, F2 d d1, up_a _ _ _ d2, F1 d d1], fun j j1 j2 => by rw [up_i _ _ j2, G2.1 6 (by decide), up_i _ _ j1, G1.1 6 (by decide)], fun z => ?_⟩
  · have i0 : ix (nI c) = c := ix_nI (by omega)
    have inn : inb (nI c) 60 := of_eq_true (inb_T hc (by omega))
    have key : ∀ j, j = c → (if ¬ (up X1 (pr + 7) j (nI y)) 2 1 < 0 ∧ blkD KSx (ix ((up X1 (pr + 7) j (nI y)) 2 1)) blk4 then bnd (f_X2_takeSignedNumber (up X1 (pr + 7) j (nI y))) (fun v36 M37 => if inb (nI c) 60 then wrt (up M37 (ix ((up X1 (pr + 7) j (nI y)) 2 1) + 8) j v36) (fun M39 => some ((0 : Int32), M39)) else none) else none) = some (0, up X2 (pr + 8) c x) := by
      intro j hj
      subst hj
      rw [if_pos bk1.1, bk1.2, a2, bnd_some, if_pos inn, wrt_def]
    unfold j_X2_parseOperands_42 j_X2_parseOperands_153
    rw [if_pos bk.1, bk.2, a1, bnd_some, if_pos inn, wrt_def, if_neg (by decide), if_pos (by decide), if_neg (fun y => y rfl)]
    exact key _ i0
  · unfold j_X10_command_127
    rw [show nI (50 + 4 * c) + 1 = nI (50 + 4 * c + 1) from nI_add _ 1, if_neg (by decide), b1, bnd_some, if_pos (of_eq_true (inb_T (by first | omega | (unfold wdP; omega) | (unfold lnP; omega) | (unfold cl; omega)) (by omega))), ix_nI (by omega), wrt_def]
    unfold j_X10_command_145
    rw [if_neg (by decide), if_pos (by decide)]
    unfold j_X10_command_175
    rw [if_neg (fun y => y rfl), n2, bnd_some, b2, bnd_some, show nI (50 + 4 * c) + 2 = nI (50 + 4 * c + 2) from nI_add _ 2, if_pos (of_eq_true (inb_T (by first | omega | (unfold wdP; omega) | (unfold lnP; omega) | (unfold cl; omega)) (by omega))), ix_nI (by omega), wrt_def]
    unfold j_X10_command_218
    rw [if_pos (by decide)]
  · rw [up_a _ _ _ (by omega), F2 _ (by omega), up_eq]
  · rw [up_a _ _ _ (by omega)] at z
    obtain ⟨z1, z2⟩ := E2 z
    obtain ⟨z3, z4⟩ := E1 z1
    refine ⟨z3, ?_, ?_⟩
    · rw [up_i _ _ (by omega), G2.1 6 (by decide), up_eq]; exact z4
    · rw [up_eq]; exact z2
theorem p_red (h : PS T L pr Mx Mm) (kk at_ : Int32) : ∃ x X2 w M2, f_X2_takeReduction Mx = some (x, X2) ∧ j_X10_command_88 kk at_ Mm = j_X10_command_115 kk at_ w M2 ∧ PS T L pr X2 M2 ∧ FrP Mx X2 ∧ FrQ Mm M2 ∧ (X2 2 5 = 0 → Mx 2 5 = 0 ∧ ∃ y, y ≤ 6 ∧ x = nI (15 + y) ∧ w = nI y) := by
  unfold f_X2_takeReduction j_X2_takeReduction_17 j_X10_command_88
  rcases h with ⟨b, h⟩ | h
  · have k33 := kd_le (T := T) (L := L) b
    rw [m_way h (Or.inl rfl), bnd_some, h.2.2.2.2.2.2.2.1, h.2.2.2.2.2.2.2.2.1]
    by_cases z : 15 ≤ kd T L b ∧ kd T L b ≤ 21
    · obtain ⟨X1, M1, x1, m1, o1, F1, G1⟩ := p_next h (kdL_lt (show kd T L b ≠ 32 by omega))
      have e1 : (if 15 ≤ kd T L b ∧ (kd T L b ≤ 21 ∨ (kd T L b = 22 ∧ (0 : Int32) = 1)) then nI (kd T L b - 15) else -1) = nI (kd T L b - 15) := if_pos ⟨z.1, Or.inl z.2⟩
      refine ⟨nI (kd T L b), X1, nI (kd T L b - 15), M1, ?_, ?_, Or.inl ⟨_, o1⟩, F1, G1, fun _ => ⟨h.2.1, kd T L b - 15, by omega, by rw [show 15 + (kd T L b - 15) = kd T L b by omega], rfl⟩⟩
      · rw [if_neg (show ¬ nI (kd T L b) < 15 from nI_nlt (b := 15) z.1 (by omega)), if_pos (show nI (kd T L b) ≤ 21 from nI_le (b := 21) z.2 (by omega)), x_takeT h rfl, x1, bnd_some, bnd_some]
      · rw [e1, if_pos (ne_m1 (by omega))]
        unfold j_X10_command_104
        rw [if_neg (fun y => y (wr0 h.2.2.1)), m1, bnd_some]
    · obtain ⟨X1, M1, x1, m1, o1, F1, G1⟩ := p_fail h 1 (by decide)
      have e1 : (if 15 ≤ kd T L b ∧ (kd T L b ≤ 21 ∨ (kd T L b = 22 ∧ (0 : Int32) = 1)) then nI (kd T L b - 15) else -1) = -1 := if_neg (by rintro ⟨a1, a2 | ⟨a2, a3⟩⟩; omega; exact absurd a3 (by decide))
      refine ⟨15, X1, -1, M1, ?_, ?_, Or.inr o1, F1, G1, fun y => absurd y o1.2.1⟩
      · rw [x1, bnd_some]
        by_cases y : kd T L b < 15
        · rw [if_pos (show nI (kd T L b) < 15 from nI_lt (b := 15) y (by omega))]
        · rw [if_neg (show ¬ nI (kd T L b) < 15 from nI_nlt (b := 15) (by omega) (by omega)), if_neg (show ¬ nI (kd T L b) ≤ 21 from nI_ge (a := 21) (by omega) (by omega))]
      · rw [e1, if_neg (fun y => y rfl), m1, bnd_some]
        unfold j_X10_command_104
        rw [if_pos o1.w]
  · rw [m_wayE h, bnd_some, if_neg (show ¬ ¬ (-1 : Int32) = -1 from fun y => y rfl), (p_fail2 h 1 0).2, bnd_some, (p_fail2 h 1 (Mx 2 4)).1, bnd_some]
    have e : j_X10_command_104 kk at_ (-1) Mm = j_X10_command_115 kk at_ (-1) Mm := by
      unfold j_X10_command_104
      rw [if_pos h.w]
    rw [e]
    by_cases y : Mx 2 3 < 15
    · rw [if_pos y]
      exact ⟨_, Mx, -1, Mm, rfl, rfl, Or.inr h, FrP.refl _, FrQ.refl _, fun q => absurd q h.2.1⟩
    · rw [if_neg y]
      by_cases y2 : Mx 2 3 ≤ 21
      · rw [if_pos y2, x_takeE h, bnd_some]
        exact ⟨_, Mx, -1, Mm, rfl, rfl, Or.inr h, FrP.refl _, FrQ.refl _, fun q => absurd q h.2.1⟩
      · rw [if_neg y2]
        exact ⟨_, Mx, -1, Mm, rfl, rfl, Or.inr h, FrP.refl _, FrQ.refl _, fun q => absurd q h.2.1⟩
end CP
