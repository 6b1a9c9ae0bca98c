/-! ===== the whole command ===== -/
theorem mk_PC0 {M : Mem} {pr c k w y : Nat} {p : Nat → Int32} (hk : k < 8) (hw : w < 8) (h0 : p (50 + 4 * c) = nI (k + 8 * w)) (hy : y < 4) (h1 : p (50 + 4 * c + 1) = nI y) (h3 : k = 3 → ∃ r q, r < 4 ∧ q < 4 ∧ p (50 + 4 * c + 2) = nI r ∧ p (50 + 4 * c + 3) = nI q) (h01 : k ≤ 1 → ∃ r, r < 16 ∧ p (50 + 4 * c + 2) = nI r) (m5 : M (pr + 5) c = nI (vbN k)) (m7 : k ≠ 7 → M (pr + 7) c = nI y) (m8 : k ≤ 3 → M (pr + 8) c = p (50 + 4 * c + 2)) (m9 : k = 3 → M (pr + 9) c = p (50 + 4 * c + 3)) (m6 : k = 3 ∨ k = 4 ∨ k = 5 → M (pr + 6) c = nI (15 + w)) : PC0 M pr p c := by
  have i0 : ix (p (50 + 4 * c)) = k + 8 * w := by rw [h0]; exact ix_nI (by omega)
  have ek : kdN p c = k := by unfold kdN; rw [i0]; omega
  have ew : wyN p c = w := by unfold wyN; rw [i0]; omega
  have er : rgN p c = y := by unfold rgN; rw [h1]; exact ix_nI (by omega)
  refine ⟨⟨by rw [i0]; exact h0, by rw [i0]; omega, by rw [er]; exact h1, by rw [er]; exact hy, fun z => ?_, fun z => ?_⟩, by rw [ek]; exact m5, by rw [ek, er]; exact m7, by rw [ek]; exact m8, by rw [ek]; exact m9, by rw [ek, ew]; exact m6⟩
  · obtain ⟨r, q, r1, q1, r2, q2⟩ := h3 (by rw [← ek]; exact z)
    have e2 : x2N p c = r := by unfold x2N; rw [r2]; exact ix_nI (by omega)
    have e3 : x3N p c = q := by unfold x3N; rw [q2]; exact ix_nI (by omega)
    rw [e2, e3]
    exact ⟨r2, r1, q2, q1⟩
  · obtain ⟨r, r1, r2⟩ := h01 (by rw [← ek]; exact z)
    have e2 : x2N p c = r := by unfold x2N; rw [r2]; exact ix_nI (by omega)
    rw [e2]
    exact ⟨r2, r1⟩
section CQ
variable {T : Nat → Int32} {L pr : Nat} {Mx Mm : Mem}
theorem p_command {b nc y1 : Nat} (h : OKb T L pr b Mx Mm) (hp : pr = 7 ∨ pr = 20) (hw : 8 ≤ kd T L b ∧ kd T L b ≤ 22) (hx5 : Mx pr 5 = nI nc) (hm13 : Mm 6 13 = nI nc) (hc : nc < 60) (hy : 1 ≤ y1 ∧ y1 ≤ 16) (hx1 : Mx pr 1 = nI y1) (hm1 : Mm 6 1 = nI y1) (hz : ∀ j, 50 + 4 * nc ≤ j → j < 290 → Mm 6 j = 0) : ∃ Mx2 Mm2, f_X2_parseCommand Mx = some (0, Mx2) ∧ f_X10_command (nI (kK (kd T L b))) Mm = some (0, Mm2) ∧ PS T L pr Mx2 Mm2 ∧ Mx2 pr = upd (Mx pr) 5 (nI (nc + 1)) ∧ (∀ d, d ≠ 2 → d ≠ pr → ¬ (pr + 5 ≤ d ∧ d ≤ pr + 9) → Mx2 d = Mx d) ∧ (∀ d i, pr + 5 ≤ d → d ≤ pr + 9 → i ≠ nc → Mx2 d i = Mx d i) ∧ FM Mm Mm2 ∧ Mm2 6 13 = nI (nc + 1) ∧ (∀ j, j ≠ 13 → ¬ (50 + 4 * nc ≤ j ∧ j < 54 + 4 * nc) → Mm2 6 j = Mm 6 j) ∧ (Mx2 2 5 = 0 → PC0 Mx2 pr (Mm2 6) nc) := by
  have hp7 : 7 ≤ pr := by rcases hp with z | z <;> omega
  generalize hk : kd T L b = k at hw
  obtain ⟨X1, M1, x1, m1, o1, F1, G1⟩ := p_next h (kdL_lt (show kd T L b ≠ 32 by omega))
  have bk := (show PS T L pr Mx Mm from Or.inl ⟨b, h⟩).blk hp
  have i0 : ix (nI nc) = nc := ix_nI (by omega)
  have inn : inb (nI nc) 60 := of_eq_true (inb_T hc (by omega))
  -- what stands behind the first word
  have go : ∀ (vb : Nat) (tv : Int32), vb < 100 → (if (15 : Int32) ≤ nI k then (34 : Int32) else nI k) = nI vb → ∀ X2 M2, f_X2_parseOperands (nI nc) (up (up X1 (pr + 5) nc (nI vb)) (pr + 6) nc (nI k)) = some (0, X2) → (∀ K : Mem → Option (Int32 × Mem), True) → PS T L pr X2 M2 → FO pr nc (up (up X1 (pr + 5) nc (nI vb)) (pr + 6) nc (nI k)) X2 → FQ nc (up M1 6 (50 + 4 * nc) tv) M2 → (X2 2 5 = 0 → ∀ Mx3, (∀ d, d ≠ 2 → d ≠ pr → Mx3 d = X2 d) → ∀ p, (∀ j, j ≠ 13 → p j = M2 6 j) → PC0 Mx3 pr p nc) → (f_X10_command (nI (kK k)) Mm = j_X10_command_247 M2) → ∃ Mx2 Mm2, f_X2_parseCommand Mx = some (0, Mx2) ∧ f_X10_command (nI (kK k)) Mm = some (0, Mm2) ∧ PS T L pr Mx2 Mm2 ∧ Mx2 pr = upd (Mx pr) 5 (nI (nc + 1)) ∧ (∀ d, d ≠ 2 → d ≠ pr → ¬ (pr + 5 ≤ d ∧ d ≤ pr + 9) → Mx2 d = Mx d) ∧ (∀ d i, pr + 5 ≤ d → d ≤ pr + 9 → i ≠ nc → Mx2 d i = Mx d i) ∧ FM Mm Mm2 ∧ Mm2 6 13 = nI (nc + 1) ∧ (∀ j, j ≠ 13 → ¬ (50 + 4 * nc ≤ j ∧ j < 54 + 4 * nc) → Mm2 6 j = Mm 6 j) ∧ (Mx2 2 5 = 0 → PC0 Mx2 pr (Mm2 6) nc) := by
    intro vb tv hvb evb X2 M2 xo _ P2 FO2 FQ2 rel mo
    have x2pr : X2 pr = Mx pr := by rw [FO2.1 pr (by omega) (by omega), up_a _ _ _ (by omega), up_a _ _ _ (by omega), F1 pr (by omega)]
    have m213 : M2 6 13 = nI nc := by rw [FQ2.2 13 (by omega), up_i _ _ (by omega), G1.1 6 (by decide)]; exact hm13
    obtain ⟨X3, M3, a3, b3, P3, r3, F3, G3, t3, E3⟩ := p_cmdEnd P2 hp (by rw [x2pr]; exact hx5) m213
    refine ⟨X3, M3, ?_, by rw [mo]; exact b3, P3, by rw [r3, x2pr], fun d d1 d2 d3 => ?_, fun d i d1 d2 hi => ?_, ?_, by rw [t3, upd_eq], fun j j1 j2 => ?_, fun z => ?_⟩
    · have e3 : Mx 2 3 = nI k := by rw [← hk]; exact h.2.2.2.2.2.2.2.1
      have tk : f_X2_take (nI k) Mx = some (0, X1) := by rw [x_takeT h hk, x1, bnd_some]
      have bk1 := (show PS T L pr X1 M1 from Or.inl ⟨_, o1⟩).blk hp
      have bk2 : (¬ (up X1 (pr + 5) nc (nI vb)) 2 1 < 0 ∧ blkD KSx (ix ((up X1 (pr + 5) nc (nI vb)) 2 1)) blk4) ∧ ix ((up X1 (pr + 5) nc (nI vb)) 2 1) = pr := by rw [up_a _ _ _ (by omega)]; exact bk1
      unfold f_X2_parseCommand
      rw [e3, if_neg (show ¬ nI k < 8 from nI_nlt (b := 8) hw.1 (by omega)), if_pos (show nI k ≤ 22 from nI_le (b := 22) hw.2 (by omega)), if_pos bk.1, bk.2, hx5, if_pos (show nI nc < 60 from nI_lt (b := 60) hc (by omega)), tk, bnd_some, if_pos bk1.1, if_pos inn, bk1.2, evb, wrt_def]
      have key : ∀ j, j = nc → (if ¬ (up X1 (pr + 5) j (nI vb)) 2 1 < 0 ∧ blkD KSx (ix ((up X1 (pr + 5) j (nI vb)) 2 1)) blk4 then if inb (nI nc) 60 then wrt (up (up X1 (pr + 5) j (nI vb)) (ix ((up X1 (pr + 5) j (nI vb)) 2 1) + 6) j (nI k)) (fun M15 => bnd (f_X2_parseOperands (nI nc) M15) (fun _ M17 => bnd (f_X2_take 30 M17) (fun _ M19 => if ¬ M19 2 1 < 0 ∧ blkD KSx (ix (M19 2 1)) blk4 then wrt (up M19 (ix (M19 2 1)) 5 ((M19 (ix (M19 2 1)) 5) + 1)) (fun M21 => some ((0 : Int32), M21)) else none))) else none else none) = some (0, X3) := by
        intro j hj
        subst hj
        rw [if_pos bk2.1, if_pos inn, bk2.2, wrt_def, xo, bnd_some, a3]
      exact key _ i0
    · rw [F3 d d1 d2, FO2.1 d d1 (by omega), up_a _ _ _ (by omega), up_a _ _ _ (by omega), F1 d d1]
    · rw [F3 d (by omega) (by omega)]
      by_cases z : pr + 6 ≤ d
      · rw [FO2.2 d i z d2 hi]
        by_cases z2 : d = pr + 6
        · rw [z2, up_i _ _ hi, up_a _ _ _ (by omega), F1 _ (by omega)]
        · rw [up_a _ _ _ z2, up_a _ _ _ (by omega), F1 _ (by omega)]
      · have z3 : d = pr + 5 := by omega
        rw [z3, FO2.1 (pr + 5) (by omega) (by omega), up_a _ _ _ (by omega), up_i _ _ hi, F1 _ (by omega)]
    · exact ((G1.m.up6 (i := 50 + 4 * nc) (x := tv)).trans FQ2.1).trans G3
    · rw [t3, upd_ne _ _ j1, FQ2.2 j j2, up_i _ _ (by omega), G1.1 6 (by decide)]
    · exact rel (E3 z) X3 F3 (M3 6) (fun j hj => by rw [t3, upd_ne _ _ hj])
  -- the reference up to the operands
  have mc : ∀ w0 : Int32, (kK k = 3 → w0 = nI (k - 15)) → (¬ kK k = 3 → w0 = -1) → f_X10_command (nI (kK k)) Mm = (if nI (kK k) = 4 then j_X10_command_88 (nI (kK k)) (nI (50 + 4 * nc)) (up M1 6 (50 + 4 * nc) (if ¬ nI (kK k) = 3 then nI (kK k) else 3 + 8 * w0)) else if ¬ nI (kK k) = 5 then j_X10_command_127 (nI (kK k)) (nI (50 + 4 * nc)) (up M1 6 (50 + 4 * nc) (if ¬ nI (kK k) = 3 then nI (kK k) else 3 + 8 * w0)) else j_X10_command_88 (nI (kK k)) (nI (50 + 4 * nc)) (up M1 6 (50 + 4 * nc) (if ¬ nI (kK k) = 3 then nI (kK k) else 3 + 8 * w0))) := by
    intro w0 w3 wn
    have n60 : ¬ Mm 6 13 = 60 := by
      rw [hm13]
      intro z
      have := (nI_eq (a := nc) (b := 60) (by omega) (by omega)).mp z
      omega
    have e52 : j_X10_command_52 (nI (kK k)) (nI (50 + 4 * nc)) w0 Mm = (if nI (kK k) = 4 then j_X10_command_88 (nI (kK k)) (nI (50 + 4 * nc)) (up M1 6 (50 + 4 * nc) (if ¬ nI (kK k) = 3 then nI (kK k) else 3 + 8 * w0)) else if ¬ nI (kK k) = 5 then j_X10_command_127 (nI (kK k)) (nI (50 + 4 * nc)) (up M1 6 (50 + 4 * nc) (if ¬ nI (kK k) = 3 then nI (kK k) else 3 + 8 * w0)) else j_X10_command_88 (nI (kK k)) (nI (50 + 4 * nc)) (up M1 6 (50 + 4 * nc) (if ¬ nI (kK k) = 3 then nI (kK k) else 3 + 8 * w0))) := by
      unfold j_X10_command_52
      rw [m1, bnd_some, if_pos (of_eq_true (inb_T (by first | omega | (unfold wdP; omega) | (unfold lnP; omega) | (unfold cl; omega)) (by omega))), ix_nI (k := 50 + 4 * nc) (by omega), wrt_def]
    have ea : (50 : Int32) + 4 * nI nc = nI (50 + 4 * nc) := by rw [show (50 : Int32) = nI 50 from rfl, show (4 : Int32) = nI 4 from rfl, pk_mul, nI_add]
    unfold f_X10_command j_X10_command_17
    rw [if_pos n60, if_pos (wr0 h.2.2.1), hm13, ea]
    by_cases z : kK k = 3
    · have kr : 15 ≤ k ∧ k ≤ 22 := by
        unfold kK at z
        split at z
        · omega
        · split at z
          · omega
          · split at z
            · omega
            · split at z
              · assumption
              · split at z
                · omega
                · split at z
                  · omega
                  · split at z <;> omega
      have ew := m_way h (x := 1) (Or.inr rfl)
      rw [hk, if_pos (show 15 ≤ k ∧ (k ≤ 21 ∨ (k = 22 ∧ (1 : Int32) = 1)) from ⟨kr.1, by
        by_cases y : k ≤ 21
        · exact Or.inl y
        · exact Or.inr ⟨by omega, rfl⟩⟩)] at ew
      rw [if_neg (show ¬ ¬ nI (kK k) = 3 from fun y => y (by rw [z]; rfl)), ew, bnd_some, ← w3 z, e52]
    · have k8 : kK k < 8 := by
        unfold kK
        repeat' split
        all_goals omega
      rw [if_pos (show ¬ nI (kK k) = 3 from fun y => z ((nI_eq (by omega) (by omega)).mp (show nI (kK k) = nI 3 from y))), ← wn z, e52]
  have pz1 : ∀ tv : Int32, (up M1 6 (50 + 4 * nc) tv) 6 (50 + 4 * nc + 1) = 0 := fun tv => by rw [up_i _ _ (by omega), G1.1 6 (by decide)]; exact hz _ (by omega) (by omega)
  have vcell : ∀ vb : Nat, (up (up X1 (pr + 5) nc (nI vb)) (pr + 6) nc (nI k)) (pr + 5) nc = nI vb := fun vb => by rw [up_a _ _ _ (by omega), up_eq]
  have ocell : ∀ vb : Nat, (up (up X1 (pr + 5) nc (nI vb)) (pr + 6) nc (nI k)) (pr + 6) nc = nI k := fun vb => up_eq _ _ _ _
  have PSt : ∀ (vb : Nat) (tv : Int32), PS T L pr (up (up X1 (pr + 5) nc (nI vb)) (pr + 6) nc (nI k)) (up M1 6 (50 + 4 * nc) tv) := fun vb tv => (show PS T L pr X1 M1 from Or.inl ⟨_, o1⟩).of (fun d hd => by rw [up_a _ _ _ (by omega), up_a _ _ _ (by omega)]) (fun d hd => up_a _ _ _ (by omega))
  have opr : ∀ (vb : Nat), vb < 100 → ¬ vb = 14 → f_X2_parseOperands (nI nc) (up (up X1 (pr + 5) nc (nI vb)) (pr + 6) nc (nI k)) = if vb = 8 ∨ vb = 12 then j_X2_parseOperands_29 (nI nc) (nI vb) (up (up X1 (pr + 5) nc (nI vb)) (pr + 6) nc (nI k)) else j_X2_parseOperands_42 (nI nc) (nI vb) (up (up X1 (pr + 5) nc (nI vb)) (pr + 6) nc (nI k)) := by
    intro vb hvb h14
    have bkt := (PSt vb 0).blk hp
    unfold f_X2_parseOperands
    have vc : (up (up X1 (pr + 5) nc (nI vb)) (pr + 6) nc (nI k)) (pr + 5) (ix (nI nc)) = nI vb := by rw [i0]; exact vcell vb
    rw [if_pos bkt.1, if_pos inn, bkt.2, vc, if_pos (show ¬ nI vb = 14 from fun z => h14 ((nI_eq (by omega) (by omega)).mp (show nI vb = nI 14 from z)))]
    by_cases z1 : vb = 8
    · rw [if_pos (show nI vb = 8 by rw [z1]; rfl), if_pos (Or.inl z1)]
    · rw [if_neg (show ¬ nI vb = 8 from fun z => z1 ((nI_eq (by omega) (by omega)).mp (show nI vb = nI 8 from z)))]
      by_cases z2 : vb = 12
      · rw [if_neg (show ¬ ¬ nI vb = 12 from fun z => z (by rw [z2]; rfl)), if_pos (Or.inr z2)]
      · rw [if_pos (show ¬ nI vb = 12 from fun z => z2 ((nI_eq (by omega) (by omega)).mp (show nI vb = nI 12 from z))), if_neg (by omega)]
  have gen : ∀ kk : Nat, kK k = kk → kk < 8 → ¬ kk = 3 → ¬ kk = 4 → ¬ kk = 5 → f_X10_command (nI (kK k)) Mm = j_X10_command_127 (nI kk) (nI (50 + 4 * nc)) (up M1 6 (50 + 4 * nc) (nI kk)) := by
    intro kk e k8 k3 k4 k5
    have := mc (-1) (fun z => absurd (e.symm.trans z) k3) (fun _ => rfl)
    rw [this, e, if_neg (show ¬ nI kk = 4 from fun z => k4 ((nI_eq (by omega) (by omega)).mp (show nI kk = nI 4 from z))), if_pos (show ¬ nI kk = 5 from fun z => k5 ((nI_eq (by omega) (by omega)).mp (show nI kk = nI 5 from z))), if_pos (show ¬ nI kk = 3 from fun z => k3 ((nI_eq (by omega) (by omega)).mp (show nI kk = nI 3 from z)))]
  have gen2 : ∀ kk : Nat, kK k = kk → (kk = 4 ∨ kk = 5) → f_X10_command (nI (kK k)) Mm = j_X10_command_88 (nI kk) (nI (50 + 4 * nc)) (up M1 6 (50 + 4 * nc) (nI kk)) := by
    intro kk e k45
    have := mc (-1) (fun z => absurd (e.symm.trans z) (by omega)) (fun _ => rfl)
    rw [this, e]
    rcases k45 with z | z
    · subst z
      rw [if_pos (show nI 4 = 4 from rfl), if_pos (show ¬ nI 4 = 3 by decide)]
    · subst z
      rw [if_neg (show ¬ nI 5 = 4 by decide), if_neg (show ¬ ¬ nI 5 = 5 from fun y => y rfl), if_pos (show ¬ nI 5 = 3 by decide)]
  have vsm : ∀ vb : Nat, k < 15 → (if (15 : Int32) ≤ nI k then (34 : Int32) else nI k) = nI k := fun _ z => if_neg (show ¬ (15 : Int32) ≤ nI k from nI_ge (b := 15) z (by omega))
  have tcell : ∀ (tv : Int32) (M2 : Mem), (∀ j, j ≠ 50 + 4 * nc + 1 → j ≠ 50 + 4 * nc + 2 → j ≠ 50 + 4 * nc + 3 → M2 6 j = (up M1 6 (50 + 4 * nc) tv) 6 j) → M2 6 (50 + 4 * nc) = tv := fun tv M2 e => by rw [e _ (by omega) (by omega) (by omega), up_eq]
  have F14 : k = 14 ∨ k = 13 ∨ k = 9 ∨ k = 10 ∨ k = 11 ∨ (k = 8 ∨ k = 12) ∨ 15 ≤ k := by omega
  rcases F14 with z | z | z | z | z | z | z
  · subst z
    have o := p_o7 hc (PSt 14 7) hp (vcell 14) (nI (50 + 4 * nc))
    refine go 14 7 (by omega) (vsm 0 (by omega)) _ _ o.1 (fun _ => True.intro) (PSt 14 7) (FO.refl _ _) (FQ.refl _ _) (fun _ Mx3 e p ep => ?_) ((gen 7 rfl (by omega) (by omega) (by omega) (by omega)).trans o.2)
    exact mk_PC0 (k := 7) (w := 0) (y := 0) (by omega) (by omega) (by rw [ep _ (by omega), up_eq]; rfl) (by omega) (by rw [ep _ (by omega), pz1]; rfl) (fun z => absurd z (by omega)) (fun z => absurd z (by omega)) (by rw [e _ (by omega) (by omega), vcell]; rfl) (fun z => absurd rfl z) (fun z => absurd z (by omega)) (fun z => absurd z (by omega)) (fun z => absurd z (by omega))
  · subst z
    have e1 := opr 13 (by omega) (by omega)
    rw [if_neg (by omega)] at e1
    obtain ⟨X2, M2, y, w, a, b2, P2, o2, q2, y4, r2, w2, u2, v2, E2⟩ := p_o6 (v := 13) (kk := 6) hc (PSt 13 6) hp (Or.inl rfl) (Or.inl rfl)
    refine go 13 6 (by omega) (vsm 0 (by omega)) X2 M2 (e1.trans a) (fun _ => True.intro) P2 o2 q2 (fun z Mx3 e p ep => ?_) ((gen 6 rfl (by omega) (by omega) (by omega) (by omega)).trans b2)
    exact mk_PC0 (k := 6) (w := 0) (y := y) (by omega) (by omega) (by rw [ep _ (by omega), v2 _ (by omega), up_eq]; rfl) (by omega) (by rw [ep _ (by omega), w2]; exact (E2 z).2) (fun z => absurd z (by omega)) (fun z => absurd z (by omega)) (by rw [e _ (by omega) (by omega), u2 _ (by omega) (by omega), vcell]; rfl) (fun _ => by rw [e _ (by omega) (by omega)]; exact r2) (fun z => absurd z (by omega)) (fun z => absurd z (by omega)) (fun z => absurd z (by omega))
  · subst z
    have e1 := opr 9 (by omega) (by omega)
    rw [if_neg (by omega)] at e1
    obtain ⟨X2, M2, y, r, a, b2, P2, o2, q2, y4, r4, r2, s2, u2, v2, E2⟩ := p_o0 (v := 9) (kk := 0) (y1 := y1) hc (PSt 9 0) hp (Or.inl ⟨rfl, rfl⟩) hy (by rw [up_a _ _ _ (by omega), up_a _ _ _ (by omega), F1 pr (by omega)]; exact hx1) (fun _ => by rw [up_i _ _ (by omega), G1.1 6 (by decide)]; exact hm1)
    refine go 9 0 (by omega) (vsm 0 (by omega)) X2 M2 (e1.trans a) (fun _ => True.intro) P2 o2 q2 (fun z Mx3 e p ep => ?_) ((gen 0 rfl (by omega) (by omega) (by omega) (by omega)).trans b2)
    exact mk_PC0 (k := 0) (w := 0) (y := y) (by omega) (by omega) (by rw [ep _ (by omega), v2 _ (by omega) (by omega), up_eq]; rfl) (by omega) (by rw [ep _ (by omega)]; exact (E2 z).2.1) (fun z => absurd z (by omega)) (fun _ => ⟨r, by omega, by rw [ep _ (by omega)]; exact (E2 z).2.2⟩) (by rw [e _ (by omega) (by omega), u2 _ (by omega) (by omega) (by omega), vcell]; rfl) (fun _ => by rw [e _ (by omega) (by omega)]; exact r2) (fun _ => by rw [e _ (by omega) (by omega), ep _ (by omega), (E2 z).2.2]; exact s2) (fun z => absurd z (by omega)) (fun z => absurd z (by omega))
  · subst z
    have e1 := opr 10 (by omega) (by omega)
    rw [if_neg (by omega)] at e1
    obtain ⟨X2, M2, y, r, a, b2, P2, o2, q2, y4, r4, r2, s2, u2, v2, E2⟩ := p_o0 (v := 10) (kk := 1) (y1 := y1) hc (PSt 10 1) hp (Or.inr ⟨rfl, rfl⟩) hy (by rw [up_a _ _ _ (by omega), up_a _ _ _ (by omega), F1 pr (by omega)]; exact hx1) (fun _ => by rw [up_i _ _ (by omega), G1.1 6 (by decide)]; exact hm1)
    refine go 10 1 (by omega) (vsm 0 (by omega)) X2 M2 (e1.trans a) (fun _ => True.intro) P2 o2 q2 (fun z Mx3 e p ep => ?_) ((gen 1 rfl (by omega) (by omega) (by omega) (by omega)).trans b2)
    exact mk_PC0 (k := 1) (w := 0) (y := y) (by omega) (by omega) (by rw [ep _ (by omega), v2 _ (by omega) (by omega), up_eq]; rfl) (by omega) (by rw [ep _ (by omega)]; exact (E2 z).2.1) (fun z => absurd z (by omega)) (fun _ => ⟨r, by omega, by rw [ep _ (by omega)]; exact (E2 z).2.2⟩) (by rw [e _ (by omega) (by omega), u2 _ (by omega) (by omega) (by omega), vcell]; rfl) (fun _ => by rw [e _ (by omega) (by omega)]; exact r2) (fun _ => by rw [e _ (by omega) (by omega), ep _ (by omega), (E2 z).2.2]; exact s2) (fun z => absurd z (by omega)) (fun z => absurd z (by omega))
  · subst z
    have e1 := opr 11 (by omega) (by omega)
    rw [if_neg (by omega)] at e1
    obtain ⟨X2, M2, y, x, a, b2, P2, o2, q2, y4, r2, s2, u2, v2, E2⟩ := p_o2 hc (PSt 11 2) hp
    refine go 11 2 (by omega) (vsm 0 (by omega)) X2 M2 (e1.trans a) (fun _ => True.intro) P2 o2 q2 (fun z Mx3 e p ep => ?_) ((gen 2 rfl (by omega) (by omega) (by omega) (by omega)).trans b2)
    exact mk_PC0 (k := 2) (w := 0) (y := y) (by omega) (by omega) (by rw [ep _ (by omega), v2 _ (by omega) (by omega), up_eq]; rfl) (by omega) (by rw [ep _ (by omega)]; exact (E2 z).2.1) (fun z => absurd z (by omega)) (fun z => absurd z (by omega)) (by rw [e _ (by omega) (by omega), u2 _ (by omega) (by omega) (by omega), vcell]; rfl) (fun _ => by rw [e _ (by omega) (by omega)]; exact r2) (fun _ => by rw [e _ (by omega) (by omega), ep _ (by omega), (E2 z).2.2]; exact s2) (fun z => absurd z (by omega)) (fun z => absurd z (by omega))
  · obtain ⟨kk, ek, k45, evk, hv, hkk⟩ : ∃ kk, kK k = kk ∧ (kk = 4 ∨ kk = 5) ∧ vbN kk = k ∧ (nI k = 13 ∨ nI k = 8 ∨ nI k = 12) ∧ (nI kk = 6 ∨ nI kk = 4 ∨ nI kk = 5) := by
      rcases z with y | y
      · subst y; exact ⟨4, rfl, Or.inl rfl, rfl, Or.inr (Or.inl rfl), Or.inr (Or.inl rfl)⟩
      · subst y; exact ⟨5, rfl, Or.inr rfl, rfl, Or.inr (Or.inr rfl), Or.inr (Or.inr rfl)⟩
    have e1 := opr k (by omega) (by omega)
    rw [if_pos z] at e1
    have bkt := (PSt k (nI kk)).blk hp
    obtain ⟨x, X2, w, M2, a, b2, P2, F2, G2, E2⟩ := p_red (PSt k (nI kk)) (nI kk) (nI (50 + 4 * nc))
    have P2' := P2.up hp7 (c := pr + 6) (i := nc) (k := 50 + 4 * nc) (x := x) (y := nI kk + 8 * w) (by omega)
    obtain ⟨X3, M3, y, w3, a3, b3, P3, o3, q3, y4, r3, w3e, u3, v3, E3⟩ := p_o6 (v := nI k) (kk := nI kk) hc P2' hp hv hkk
    have FO1 := (FO.refl (pr := pr) nc (up (up X1 (pr + 5) nc (nI k)) (pr + 6) nc (nI k))).step (x := x) F2 hp7 (d := pr + 6) (by omega)
    have FQ1 := (FQ.refl nc (up M1 6 (50 + 4 * nc) (nI kk))).step (x := nI kk + 8 * w) G2 (k := 50 + 4 * nc) (by omega)
    have FO3 : FO pr nc (up (up X1 (pr + 5) nc (nI k)) (pr + 6) nc (nI k)) X3 := ⟨fun d d1 d2 => (o3.1 d d1 d2).trans (FO1.1 d d1 d2), fun d i d1 d2 hi => (o3.2 d i d1 d2 hi).trans (FO1.2 d i d1 d2 hi)⟩
    have FQ3 : FQ nc (up M1 6 (50 + 4 * nc) (nI kk)) M3 := ⟨FQ1.1.trans q3.1, fun j hj => (q3.2 j hj).trans (FQ1.2 j hj)⟩
    have xo : f_X2_parseOperands (nI nc) (up (up X1 (pr + 5) nc (nI k)) (pr + 6) nc (nI k)) = some (0, X3) := by
      rw [e1]
      unfold j_X2_parseOperands_29
      rw [if_pos bkt.1, bkt.2, a, bnd_some, if_pos inn, wrt_def, i0, a3]
    have mo : f_X10_command (nI (kK k)) Mm = j_X10_command_247 M3 := by
      rw [gen2 kk ek k45, b2]
      unfold j_X10_command_115
      rw [if_pos (of_eq_true (inb_T (by first | omega | (unfold wdP; omega) | (unfold lnP; omega) | (unfold cl; omega)) (by omega))), ix_nI (k := 50 + 4 * nc) (by omega), wrt_def, b3]
    refine go k (nI kk) (by omega) (vsm 0 (by omega)) X3 M3 xo (fun _ => True.intro) P3 FO3 FQ3 (fun q Mx3 e p ep => ?_) mo
    obtain ⟨q1, q2⟩ := E3 q
    rw [up_a _ _ _ (by omega)] at q1
    obtain ⟨q3, y', q4, q5, q6⟩ := E2 q1
    exact mk_PC0 (k := kk) (w := y') (y := y) (by omega) (by omega) (by rw [ep _ (by omega), v3 _ (by omega), up_eq, q6, show (8 : Int32) = nI 8 from rfl, pk_mul, nI_add]) (by omega) (by rw [ep _ (by omega), w3e]; exact q2) (fun z => absurd z (by omega)) (fun z => absurd z (by omega)) (by rw [e _ (by omega) (by omega), u3 _ (by omega) (by omega), up_a _ _ _ (by omega), F2 _ (by omega), vcell, evk]) (fun _ => by rw [e _ (by omega) (by omega)]; exact r3) (fun z => absurd z (by omega)) (fun z => absurd z (by omega)) (fun _ => by rw [e _ (by omega) (by omega), u3 _ (by omega) (by omega), up_eq]; exact q5)
  · have k3 : kK k = 3 := by
      unfold kK
      rw [if_neg (by omega), if_neg (by omega), if_neg (by omega), if_pos (by omega)]
    have e1 := opr 34 (by omega) (by omega)
    rw [if_neg (by omega)] at e1
    have ev : (if (15 : Int32) ≤ nI k then (34 : Int32) else nI k) = nI 34 := if_pos (show (15 : Int32) ≤ nI k from nI_le (a := 15) z (by omega))
    have et : (3 : Int32) + 8 * nI (k - 15) = nI (3 + 8 * (k - 15)) := by rw [show (3 : Int32) = nI 3 from rfl, show (8 : Int32) = nI 8 from rfl, pk_mul, nI_add]
    have mo : f_X10_command (nI (kK k)) Mm = j_X10_command_127 3 (nI (50 + 4 * nc)) (up M1 6 (50 + 4 * nc) (nI (3 + 8 * (k - 15)))) := by
      rw [mc (nI (k - 15)) (fun _ => rfl) (fun y => absurd k3 y), k3, if_neg (show ¬ nI 3 = 4 by decide), if_pos (show ¬ nI 3 = 5 by decide), if_neg (show ¬ ¬ nI 3 = 3 from fun y => y rfl), et]
      rfl
    obtain ⟨X2, M2, y, r, q, a, b2, P2, o2, q2, y4, r4, q4, r2, s2, t2, u2, v2, E2⟩ := p_o3 hc (PSt 34 (nI (3 + 8 * (k - 15)))) hp
    refine go 34 _ (by omega) ev X2 M2 (e1.trans a) (fun _ => True.intro) P2 o2 q2 (fun z Mx3 e p ep => ?_) (mo.trans b2)
    exact mk_PC0 (k := 3) (w := k - 15) (y := y) (by omega) (by omega) (by rw [ep _ (by omega), v2 _ (by omega) (by omega) (by omega), up_eq]) (by omega) (by rw [ep _ (by omega)]; exact (E2 z).2.1) (fun _ => ⟨r, q, r4, q4, by rw [ep _ (by omega)]; exact (E2 z).2.2.1, by rw [ep _ (by omega)]; exact (E2 z).2.2.2⟩) (fun z => absurd z (by omega)) (by rw [e _ (by omega) (by omega), u2 _ (by omega) (by omega) (by omega) (by omega), vcell]; rfl) (fun _ => by rw [e _ (by omega) (by omega)]; exact r2) (fun _ => by rw [e _ (by omega) (by omega), ep _ (by omega), (E2 z).2.2.1]; exact s2) (fun _ => by rw [e _ (by omega) (by omega), ep _ (by omega), (E2 z).2.2.2]; exact t2) (fun _ => by rw [e _ (by omega) (by omega), u2 _ (by omega) (by omega) (by omega) (by omega), ocell, show 15 + (k - 15) = k by omega])
end CQ
