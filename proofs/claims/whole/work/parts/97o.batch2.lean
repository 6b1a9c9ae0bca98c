/-! ===== a whole batch ===== -/
theorem upd_self {a : Nat → Int32} {i : Nat} {x : Int32} (h : a i = x) : upd a i x = a := by
  funext j
  by_cases y : j = i
  · rw [y, upd_eq, h]
  · rw [upd_ne _ _ y]
section BA
variable {T : Nat → Int32} {L pr : Nat}
theorem p_batch (hp : pr = 7 ∨ pr = 20) {nb nc b : Nat} {Mx Mm : Mem} (ob : OKb T L pr b Mx Mm) (hk : kd T L b = 26) (hI : PI pr nb nc Mx Mm) : ∃ X2 M2, f_X2_parseBatch Mx = some (0, X2) ∧ f_X10_batch Mm = some (0, M2) ∧ PS T L pr X2 M2 ∧ FX pr Mx X2 ∧ FM Mm M2 ∧ (X2 2 5 = 0 → nb < 12 ∧ ∃ nc2, PI pr (nb + 1) nc2 X2 M2) := by
  have hp7 : 7 ≤ pr := by rcases hp with z | z <;> omega
  have k3 : Mx 2 3 = 26 := by rw [ob.2.2.2.2.2.2.2.1, hk]; rfl
  have bk := (show PS T L pr Mx Mm from Or.inl ⟨b, ob⟩).blk hp
  obtain ⟨hd, ⟨n12, n60⟩, ⟨h4, g12⟩, ⟨h5, g13⟩, hz, hz2, hB⟩ := id hI
  obtain ⟨⟨y0, y1, y2, b0, b1, b2, ⟨x0, x1, x2⟩, m0, m1, m2⟩, hss⟩ := id hd
  by_cases c12 : nb = 12
  · obtain ⟨X1, M1, xf, mf, o1, F1, G1⟩ := p_fail ob 4 (by decide)
    refine ⟨X1, M1, ?_, ?_, Or.inr o1, fun c c1 c2 => F1 c c1, G1.m, fun y => absurd y o1.2.1⟩
    · unfold f_X2_parseBatch
      rw [if_pos k3, if_pos bk.1, bk.2, h4, c12, if_neg (show ¬ nI 12 < 12 by decide), ob.2.2.2.2.2.2.2.2.1, xf, bnd_some]
    · unfold f_X10_batch j_X10_batch_17
      rw [if_neg (show ¬ ¬ Mm 6 12 = 12 from fun y => y (by rw [g12, c12]; rfl)), mf, bnd_some, if_neg o1.w]
  have hb : nb < 12 := by omega
  obtain ⟨X1, M1, xn, mn, o1, F1, G1⟩ := p_next ob (kdL_lt (show kd T L b ≠ 32 by omega))
  have bk1 := (show PS T L pr X1 M1 from Or.inl ⟨_, o1⟩).blk hp
  have tk : f_X2_take 26 Mx = some (0, X1) := by
    have := x_takeT ob hk
    rw [xn, bnd_some] at this
    exact this
  have fu : (9999 : Nat) ≤ fuelL := by decide
  have cn : cntF (fun q => bit 0 q) y0 = y0 := by
    have e : ∀ n, n ≤ 8 → cntF (fun q => bit 0 q) n = n := by decide +kernel
    exact e y0 b0.2
  obtain ⟨set, X2, set2, M2, r1, r2, F2, G2, r3⟩ := p_banks hp y0 0 fuelL fuelL (nxT T L b) X1 M1 0 1 (nI (14 + 3 * nb)) y0 (by omega) b0.1 b0.2 (by omega) (by omega) o1 (by rw [F1 pr (by omega)]; exact x0) (by rw [G1.1 6 (by decide)]; exact m0) (by rw [if_pos rfl]) cn (fun q q1 q2 => bit_z q (by omega)) (fun z => absurd z (by omega)) ⟨0, by omega, rfl⟩
  have F12 := F1.trans F2
  have G12 := G1.trans G2
  have i1 : ix (nI nb) = nb := ix_nI (by omega)
  have in1 := inb_T (k := nb) (n := 12) hb (by decide)
  have w4 : X2 pr 4 = nI nb := by rw [F12 pr (by omega)]; exact h4
  have w5 : X2 pr 5 = nI nc := by rw [F12 pr (by omega)]; exact h5
  have bg : f_X4_beginBatch pr set X2 = some (0, up (up X2 (pr + 2) nb set) (pr + 3) nb (nI nc)) := by
    have w4' : (up X2 (pr + 2) nb set) pr 4 = nI nb := by rw [up_a _ _ _ (by omega)]; exact w4
    have w5' : (up X2 (pr + 2) nb set) pr 5 = nI nc := by rw [up_a _ _ _ (by omega)]; exact w5
    unfold f_X4_beginBatch
    simp only [↓reduceIte, w4, in1, i1, wrt_def, w4', w5']
  -- the colon
  obtain ⟨Y, v, N1, N, y1_, y2_, y3_, PY, FY, GY, EY⟩ : ∃ Y v N1 N, f_X2_take 29 (up (up X2 (pr + 2) nb set) (pr + 3) nb (nI nc)) = some (0, Y) ∧ f_X10_takesSign 58 M2 = some (v, N1) ∧ f_X10_must v N1 = some (0, N) ∧ PS T L pr Y N ∧ FrP (up (up X2 (pr + 2) nb set) (pr + 3) nb (nI nc)) Y ∧ FrQ M2 N ∧ (Y 2 5 = 0 → (set2 = set ∧ ∃ k, k < 256 ∧ set = nI k) ∧ (∀ q, y0 ≤ q → q < 8 → bit set q = false) ∧ ∃ q, q < 8 ∧ bit set q = true) := by
    rcases r3 with ⟨b2_, o2, k29, s1, s2, s3⟩ | ⟨Mm2, ⟨⟨v, N1, q1, q2⟩, oe⟩, G3⟩
    · have P3 : PS T L pr (up (up X2 (pr + 2) nb set) (pr + 3) nb (nI nc)) M2 := (show PS T L pr X2 M2 from Or.inl ⟨_, o2⟩).of (fun d hd => by rw [up_a _ _ _ (by omega), up_a _ _ _ (by omega)]) (fun _ _ => rfl)
      obtain ⟨Y, v, N1, N, a, b_, c, P, F, G, E⟩ := p_sign (w := 29) P3 (by omega)
      exact ⟨Y, v, N1, N, a, b_, c, P, F, G, fun _ => ⟨s1, s2, s3⟩⟩
    · have P3 : PS T L pr (up (up X2 (pr + 2) nb set) (pr + 3) nb (nI nc)) Mm2 := (show PS T L pr X2 Mm2 from Or.inr oe).of (fun d hd => by rw [up_a _ _ _ (by omega), up_a _ _ _ (by omega)]) (fun _ _ => rfl)
      have e2 : (up (up X2 (pr + 2) nb set) (pr + 3) nb (nI nc)) 2 5 = X2 2 5 := by rw [up_a _ _ _ (by omega), up_a _ _ _ (by omega)]
      have oe3 : ERe T L pr (up (up X2 (pr + 2) nb set) (pr + 3) nb (nI nc)) Mm2 := by
        rcases P3 with ⟨b3, o3⟩ | o3
        · exact absurd (o3.2.1) (by rw [e2]; exact oe.2.1)
        · exact o3
      exact ⟨_, v, N1, Mm2, x_takeE oe3 29, q1, q2, Or.inr oe3, FrP.refl _, G3, fun y => absurd y oe3.2.1⟩
  have N6 : N 6 = Mm 6 := by rw [GY.1 6 (by decide), G12.1 6 (by decide)]
  have Ypr : Y pr = Mx pr := by rw [FY pr (by omega), up_a _ _ _ (by omega), up_a _ _ _ (by omega), F12 pr (by omega)]
  -- the reference's two numbers
  have m46 : (up (up N 6 (14 + 3 * nb) set2) 6 (14 + 3 * nb + 1) (nI nc)) 6 = upd (upd (Mm 6) (14 + 3 * nb) set2) (14 + 3 * nb + 1) (nI nc) := by rw [up_row, up_row, N6]
  have PM : PS T L pr Y (up (up N 6 (14 + 3 * nb) set2) 6 (14 + 3 * nb + 1) (nI nc)) := PY.of (fun _ _ => rfl) (fun d hd => by rw [up_a _ _ _ (by omega), up_a _ _ _ (by omega)])
  have FM4 : FM Mm (up (up N 6 (14 + 3 * nb) set2) 6 (14 + 3 * nb + 1) (nI nc)) := ((G12.trans GY).m).up6.up6
  generalize hM4 : up (up N 6 (14 + 3 * nb) set2) 6 (14 + 3 * nb + 1) (nI nc) = M4 at *
  obtain ⟨vk, ek, hv1, hv2⟩ : ∃ v, f_X10_kind M4 = some (v, M4) ∧ (Y 2 5 = 0 → ∃ b, OKb T L pr b Y M4 ∧ v = nxK T L b) ∧ (¬ Y 2 5 = 0 → v = -1) := by
    rcases PM with ⟨b1_, o1_⟩ | o1_
    · exact ⟨_, m_kind o1_, fun _ => ⟨b1_, o1_, rfl⟩, fun y => absurd o1_.2.1 y⟩
    · exact ⟨_, m_kindE o1_, fun y => absurd y o1_.2.1, fun _ => rfl⟩
  have lf0 : LF pr nc nc Y M4 Y M4 := ⟨(upd_self (by rw [Ypr]; exact h5)).symm, fun _ _ _ _ => rfl, fun _ _ _ _ _ => rfl, FM.refl _, by rw [m46, upd_ne _ _ (by omega), upd_ne _ _ (by omega)]; exact g13, fun _ _ _ => rfl⟩
  obtain ⟨X5, M5, nc2, l1, l2, P5, n5, n5', lf, R5, E5⟩ := p_cmds (f := nc) (y1 := y1) (X0 := Y) (M0 := M4) hp b1 (by rw [Ypr]; exact x1) (by rw [m46, upd_ne _ _ (by omega), upd_ne _ _ (by omega)]; exact m1) (fun j j1 j2 => by rw [m46, upd_ne _ _ (by omega), upd_ne _ _ (by omega)]; exact hz j j1 j2) (nI (14 + 3 * nb)) (60 - nc) 0 fuelL fuelL nc Y M4 vk (by omega) (by omega) (by omega) (by omega) PM hv1 hv2 lf0 (fun _ c c1 c2 => absurd c2 (by omega))
  obtain ⟨lf1, lf2, lf3, lf4, lf5, lf6⟩ := lf
  have q4 : X5 pr 4 = nI nb := by rw [lf1, upd_ne _ _ (by omega), Ypr]; exact h4
  have q3 : X5 (pr + 3) nb = nI nc := by rw [lf2 _ (by omega) (by omega) (by omega), FY _ (by omega), up_eq]
  have c12_ : M5 6 12 = nI nb := by rw [lf6 12 (by omega) (by omega), m46, upd_ne _ _ (by omega), upd_ne _ _ (by omega)]; exact g12
  have cf : M5 6 (14 + 3 * nb + 1) = nI nc := by rw [lf6 _ (by omega) (by omega), m46, upd_eq]
  obtain ⟨X1', X6, M6, f1, f2, P6, F6, G6, e6, E6, xe⟩ := p_batchEnd (nb := nb) (nc := nc2) (f := nc) hp P5 hb n5 n5' q4 (by rw [lf1, upd_eq]) q3 c12_ lf5 cf
  obtain ⟨X6', xe', u1, u2, u3, u4, u5, u6⟩ := x_endBatch (pr := pr) (M := X1') (nb := nb) (nc := nc2) (f := nc) hb (by rw [F6 pr (by omega)]; exact q4) (by rw [F6 pr (by omega), lf1, upd_eq]) n5 (by rw [F6 _ (by omega)]; exact q3) n5'
  have e66 : X6' = X6 := by
    rw [xe] at xe'
    exact (congrArg Prod.snd (Option.some.inj xe')).symm
  subst e66
  -- rows that are as before
  have row : ∀ d, d ≠ 2 → d ≠ pr → d ≠ pr + 2 → d ≠ pr + 3 → ¬ (pr + 5 ≤ d ∧ d ≤ pr + 9) → X1' d = Mx d := fun d d1 d2 d3 d4 d5 => by rw [F6 d d1, lf2 d d1 d2 d5, FY d d1, up_a _ _ _ d4, up_a _ _ _ d3, F12 d d1]
  refine ⟨X6', M6, ?_, ?_, P6, fun d d1 d2 => ?_, (FM4.trans lf4).trans G6, fun z => ⟨hb, nc2, ?_⟩⟩
  · have tb : f_X2_takeBanks X1 = some (set, X2) := r1
    unfold f_X2_parseBatch
    have l1' : loopC l_X2_parseBatch_66 fuelL (0, Y) = finX X5 := l1
    rw [if_pos k3, if_pos bk.1, bk.2, h4, if_pos (show nI nb < 12 from nI_lt (b := 12) hb (by omega)), tk, bnd_some, if_pos bk1.1, tb, bnd_some, bk1.2, bg, bnd_some, y1_, bnd_some, l1', f1]
  · have ea : (14 : Int32) + 3 * nI nb = nI (14 + 3 * nb) := by rw [show (14 : Int32) = nI 14 from rfl, show (3 : Int32) = nI 3 from rfl, pk_mul, nI_add]
    have ia : ix (nI (14 + 3 * nb)) = 14 + 3 * nb := ix_nI (by omega)
    have ia1 : ix (nI (14 + 3 * nb + 1)) = 14 + 3 * nb + 1 := ix_nI (by omega)
    have n13 : (up N 6 (14 + 3 * nb) set2) 6 13 = nI nc := by rw [up_i _ _ (by omega), N6]; exact g13
    have m112 : M1 6 12 = nI nb := by rw [G1.1 6 (by decide)]; exact g12
    unfold f_X10_batch j_X10_batch_17
    rw [if_pos (show ¬ Mm 6 12 = 12 from fun y => c12 ((nI_eq (by omega) (by omega)).mp (show nI nb = nI 12 by rw [← g12]; exact y))), if_pos (wr0 ob.2.2.1), mn, bnd_some, m112, ea, r2]
    unfold j_X10_batch_135
    rw [y2_, bnd_some, y3_, bnd_some, show nI (14 + 3 * nb) + 1 = nI (14 + 3 * nb + 1) from nI_add _ 1, if_pos (of_eq_true (inb_T (by first | omega | (unfold wdP; omega) | (unfold lnP; omega) | (unfold cl; omega)) (by omega))), ia, wrt_def, if_pos (of_eq_true (inb_T (by first | omega | (unfold wdP; omega) | (unfold lnP; omega) | (unfold cl; omega)) (by omega))), ia1, n13, wrt_def, hM4, ek, bnd_some, l2, f2]
  · rw [u1 d (by omega) (by omega) (by omega) (by omega) (by omega), row d d1 (by omega) (by omega) (by omega) (by omega)]
  · have z5 := E6 z
    have zY := E5 z5
    obtain ⟨⟨s1, s8⟩, s2, s3⟩ := EY zY
    subst s1
    -- the numbers of the reference
    have p_lo : ∀ j, j ≠ 12 → j ≠ 13 → j < 14 + 3 * nb ∨ (50 ≤ j ∧ j < 50 + 4 * nc) → M6 6 j = Mm 6 j := fun j j1 j2 j3 => by
      rw [e6, upd_ne _ _ j1, upd_ne _ _ (by omega), lf6 j j2 (by omega), m46, upd_ne _ _ (by omega), upd_ne _ _ (by omega)]
    have ps : M6 6 (14 + 3 * nb) = set2 := by rw [e6, upd_ne _ _ (by omega), upd_ne _ _ (by omega), lf6 _ (by omega) (by omega), m46, upd_ne _ _ (by omega), upd_eq]
    have pf : M6 6 (14 + 3 * nb + 1) = nI nc := by rw [e6, upd_ne _ _ (by omega), upd_ne _ _ (by omega)]; exact cf
    have pl : M6 6 (14 + 3 * nb + 2) = nI (nc2 - nc) := by rw [e6, upd_ne _ _ (by omega), upd_eq]
    have es : setN (M6 6) nb = set2 := ps
    have ef : fstN (M6 6) nb = nc := by unfold fstN; rw [pf]; exact ix_nI (by omega)
    have el : lenN (M6 6) nb = nc2 - nc := by unfold lenN; rw [pl]; exact ix_nI (by omega)
    have r2_ : X1' (pr + 2) = upd (Mx (pr + 2)) nb set2 := by rw [F6 _ (by omega), lf2 _ (by omega) (by omega) (by omega), FY _ (by omega), up_a _ _ _ (by omega), up_row, F12 _ (by omega)]
    have r3_ : X1' (pr + 3) = upd (Mx (pr + 3)) nb (nI nc) := by rw [F6 _ (by omega), lf2 _ (by omega) (by omega) (by omega), FY _ (by omega), up_row, up_a _ _ _ (by omega), F12 _ (by omega)]
    have r5_ : ∀ d i, pr + 5 ≤ d → d ≤ pr + 9 → i < nc → X1' d i = Mx d i := fun d i d1 d2 hi => by rw [F6 _ (by omega), lf3 d i d1 d2 hi, FY _ (by omega), up_a _ _ _ (by omega), up_a _ _ _ (by omega), F12 _ (by omega)]
    have rp : ∀ i, i ≠ 5 → X1' pr i = Mx pr i := fun i hi => by rw [F6 pr (by omega), lf1, upd_ne _ _ hi, Ypr]
    have hd1 : HD pr X1' M6 := hd.of (fun i hi => rp i (by omega)) (row _ (by omega) (by omega) (by omega) (by omega) (by omega)) (fun j hj => p_lo j (by omega) (by omega) (by omega))
    obtain ⟨hR, hW, -, -⟩ := hd1.rel
    have pc : ∀ c, nc ≤ c → c < nc2 → PC0 X1' pr (M6 6) c := fun c c1 c2 => (R5 z5 c c1 c2).of (fun d d1 d2 => by rw [F6 _ (by omega)]) (fun k hk4 => by rw [e6, upd_ne _ _ (by omega), upd_ne _ _ (by omega)])
    have x2n : X1' (pr + 2) nb = set2 := by rw [r2_, upd_eq]
    have hE : EC pr nb nc2 nc X1' (M6 6) := ⟨hR, hW, by rw [x2n]; exact s8, by rw [x2n]; exact s3, pc, fun b_ hb_ => by
      rw [row _ (by omega) (by omega) (by omega) (by omega) (by omega), row _ (by omega) (by omega) (by omega) (by omega) (by omega)]
      exact hz2 _ (by omega) (by omega)⟩
    obtain ⟨v1, v2⟩ := u6 _ hE
    rw [x2n] at v1 v2
    refine ⟨?_, ⟨by omega, n5⟩, ⟨by rw [u2, upd_eq], by rw [e6, upd_eq]⟩, ⟨?_, ?_⟩, fun j j1 j2 => ?_, fun j j1 j2 => ?_, fun bt hbt => ?_⟩
    · exact hd1.of (fun i hi => by rw [u2, upd_ne _ _ (by omega)]) (u1 _ (by omega) (by omega) (by omega) (by omega) (by omega)) (fun _ _ => rfl)
    · rw [u2, upd_ne _ _ (by omega), F6 pr (by omega), lf1, upd_eq]
    · rw [e6, upd_ne _ _ (by omega), upd_ne _ _ (by omega)]; exact lf5
    · rw [e6, upd_ne _ _ (by omega), upd_ne _ _ (by omega), lf6 j (by omega) (by omega), m46, upd_ne _ _ (by omega), upd_ne _ _ (by omega)]
      exact hz j (by omega) j2
    · rw [(u5 j (by omega)).1, (u5 j (by omega)).2, row _ (by omega) (by omega) (by omega) (by omega) (by omega), row _ (by omega) (by omega) (by omega) (by omega) (by omega)]
      exact hz2 j (by omega) j2
    · by_cases y : bt = nb
      · subst y
        refine ⟨⟨hb, by rw [es]; exact s3, ?_, by rw [ef]; exact pf, by rw [el]; exact pl, ?_⟩, ⟨?_, ?_, ?_, ?_⟩, ?_, ?_⟩
        · rw [es, p_lo 0 (by omega) (by omega) (by omega), m0, ix_nI (by omega)]
          intro b_ hb1 hb2
          rw [s2 b_ hb1 hb2]
          decide
        · rw [ef, el]
          exact ⟨by omega, fun c c1 c2 => (pc c c1 (by omega)).1⟩
        · rw [u1 _ (by omega) (by omega) (by omega) (by omega) (by omega), x2n, es]
        · rw [u1 _ (by omega) (by omega) (by omega) (by omega) (by omega), r3_, upd_eq, ef]
        · rw [u3, upd_eq, ef, el, show nc + (nc2 - nc) = nc2 by omega]
        · rw [ef, el, es]
          intro c c1 c2
          obtain ⟨a1, a2, a3, a4, a5, a6⟩ := (pc c c1 (by omega)).of (M2 := X6') (p2 := M6 6) (fun d d1 d2 => by rw [u1 _ (by omega) (by omega) (by omega) (by omega) (by omega)]) (fun _ _ => rfl)
          exact ⟨a2, a3, a4, a5, v1 c c1 (by omega), a6⟩
        · intro b_ hb_
          have := v2 b_ hb_
          unfold rdS wrS isLo
          rw [es, ef, el]
          exact this
        · rw [ef, el]; omega
      · refine (hB bt (by omega)).keep (nb := nb) (by omega) n12 n60 n5' p_lo (fun k k1 k2 => ?_) (fun k c k1 k2 hc => ?_) (fun k j k1 k2 hj => ?_)
        · rcases (show k = 2 ∨ k = 3 ∨ k = 4 by omega) with q | q | q
          · rw [q, u1 _ (by omega) (by omega) (by omega) (by omega) (by omega), r2_, upd_ne _ _ y]
          · rw [q, u1 _ (by omega) (by omega) (by omega) (by omega) (by omega), r3_, upd_ne _ _ y]
          · rw [q, u3, upd_ne _ _ y, row _ (by omega) (by omega) (by omega) (by omega) (by omega)]
        · by_cases q : k = 10
          · rw [q, u4 c (by omega), row _ (by omega) (by omega) (by omega) (by omega) (by omega)]
          · rw [u1 _ (by omega) (by omega) (by omega) (by omega) (by omega), r5_ _ _ (by omega) (by omega) hc]
        · rcases (show k = 11 ∨ k = 12 by omega) with q | q
          · rw [q, (u5 j (by omega)).1, row _ (by omega) (by omega) (by omega) (by omega) (by omega)]
          · rw [q, (u5 j (by omega)).2, row _ (by omega) (by omega) (by omega) (by omega) (by omega)]
end BA
