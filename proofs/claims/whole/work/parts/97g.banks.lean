/-! ===== the banks of a batch ===== -/
section BK
variable {T : Nat → Int32} {L pr : Nat}
theorem x_bkE {Mx Mm : Mem} (h : ERe T L pr Mx Mm) (f t : Nat) (s : Int32) : loopC l_X2_takeBanks_4 (f + 1) (s, nI t, Mx) = some (s, Mx) := by
  show l_X2_takeBanks_4 _ (s, nI t, Mx) = _
  simp only [l_X2_takeBanks_4, j_X2_takeBanks_40]
  rw [if_pos h.2.1]
  split <;> rfl
theorem m_bkE {Mx Mm : Mem} (h : ERe T L pr Mx Mm) (f : Nat) (at_ s mo : Int32) : loopC (l_X10_batch_46 at_) (f + 1) (s, mo, Mm) = j_X10_batch_135 at_ s Mm := by
  show l_X10_batch_46 at_ _ (s, mo, Mm) = _
  simp only [l_X10_batch_46]
  rw [if_pos h.w]
  split <;> rfl
/-- both have failed, with the colon wanted -/
def ColD (T : Nat → Int32) (L pr : Nat) (Mx Mm1 Mm2 : Mem) : Prop := (∃ v N, f_X10_takesSign 58 Mm1 = some (v, N) ∧ f_X10_must v N = some (0, Mm2)) ∧ ERe T L pr Mx Mm2
theorem ColD.ofE {Mx Mm : Mem} (h : ERe T L pr Mx Mm) : ColD T L pr Mx Mm Mm := by
  refine ⟨⟨0, Mm, m_signE h _, ?_⟩, h⟩
  unfold f_X10_must j_X10_must_9
  rw [if_neg nn00, (p_fail2 h 1 0).2, bnd_some]
/-- one round: the end, or an error, or one bank more -/
theorem p_bank1 (hp : pr = 7 ∨ pr = 20) {n t b : Nat} {Mx Mm : Mem} {s mo at_ : Int32} {y0 : Nat} (hn : t + n = y0) (y1 : 1 ≤ y0) (y8 : y0 ≤ 8) (ob : OKb T L pr b Mx Mm) (hx0 : Mx pr 0 = nI y0) (hm0 : Mm 6 0 = nI y0) (hmo : mo = (if t = 0 then 1 else if kd T L b = 28 then 1 else 0)) (hcn : cntF (fun q => bit s q) y0 = n) (hhi : ∀ q, y0 ≤ q → q < 8 → bit s q = false) (hne : 0 < t → ∃ q, q < 8 ∧ bit s q = true) (hs8 : ∃ k, k < 256 ∧ s = nI k) : (∀ f1 f2, ∃ set Mx2 set2 Mm1, loopC l_X2_takeBanks_4 (f1 + 2) (s, nI t, Mx) = some (set, Mx2) ∧ loopC (l_X10_batch_46 at_) (f2 + 2) (s, mo, Mm) = j_X10_batch_135 at_ set2 Mm1 ∧ FrP Mx Mx2 ∧ FrQ Mm Mm1 ∧ ((∃ b2, OKb T L pr b2 Mx2 Mm1 ∧ kd T L b2 = 29 ∧ (set2 = set ∧ ∃ k, k < 256 ∧ set = nI k) ∧ (∀ q, y0 ≤ q → q < 8 → bit set q = false) ∧ ∃ q, q < 8 ∧ bit set q = true) ∨ (∃ Mm2, ColD T L pr Mx2 Mm1 Mm2 ∧ FrQ Mm1 Mm2))) ∨ (∃ q b2 X2 M2, q < y0 ∧ bit s q = false ∧ OKb T L pr b2 X2 M2 ∧ FrP Mx X2 ∧ FrQ Mm M2 ∧ (∀ f1, loopC l_X2_takeBanks_4 (f1 + 1) (s, nI t, Mx) = loopC l_X2_takeBanks_4 f1 (s ||| (1 <<< (nI q &&& 31)), nI (t + 1), X2)) ∧ (∀ f2, loopC (l_X10_batch_46 at_) (f2 + 1) (s, mo, Mm) = loopC (l_X10_batch_46 at_) f2 (s ||| (1 <<< (nI q &&& 31)), (if kd T L b2 = 28 then 1 else 0), M2))) := by
  have hp7 : 7 ≤ pr := by rcases hp with z | z <;> omega
  have bk := (show PS T L pr Mx Mm from Or.inl ⟨b, ob⟩).blk hp
  obtain ⟨h1, h2, h3, h4, h5, h6, h7, h8, h9, t10, t11, t12, t2, t3⟩ := id ob
  obtain ⟨s1, s2, s3, s4, s5⟩ := srt3 (T := T) (L := L) (b := b)
  have k33 := kd_le (T := T) (L := L) b
  have ehx : Mx pr 0 - 1 = nI (y0 - 1) := by rw [hx0]; exact ss (a := y0) (b := 1) (by omega)
  have ehm : Mm 6 0 - 1 = nI (y0 - 1) := by rw [hm0]; exact ss (a := y0) (b := 1) (by omega)
  have t9 : ¬ (8 : Int32) < nI t := nI_nlt (a := 8) (by omega) (by omega)
  -- the end
  by_cases hcol : 0 < t ∧ kd T L b = 29
  · left
    intro f1 f2
    refine ⟨s, Mx, s, Mm, ?_, ?_, FrP.refl _, FrQ.refl _, Or.inl ⟨b, ob, hcol.2, ⟨rfl, hs8⟩, hhi, hne hcol.1⟩⟩
    · show l_X2_takeBanks_4 _ (s, nI t, Mx) = _
      simp only [l_X2_takeBanks_4, j_X2_takeBanks_40]
      rw [if_neg t9, if_neg (fun z => z h2), h8, hcol.2, if_neg (show ¬ nI t ≤ 0 from nI_ge (a := 0) (by omega) (by omega)), if_neg (show ¬ ¬ nI 29 = 29 from fun z => z rfl), if_neg ne10]
    · show l_X10_batch_46 at_ _ (s, mo, Mm) = _
      have e0 : mo = 0 := by rw [hmo, if_neg (by omega), if_neg (by omega)]
      rw [e0]
      simp only [l_X10_batch_46]
      rw [if_pos trivial]
  · -- the class goes for a number
    have xh : ∀ K, l_X2_takeBanks_4 K (s, nI t, Mx) = bnd (f_X2_takeNumber 0 (nI (y0 - 1)) Mx) (fun v6 M7 => if (p_X9_isIn v6 s) = 0 then j_X2_takeBanks_80 s (nI t) v6 K M7 else bnd (f_X2_fail 3 (nI b) M7) (fun _ M10 => j_X2_takeBanks_80 s (nI t) v6 K M10)) := by
      intro K
      have ei : (if nI t ≤ 0 then (0 : Int32) else if ¬ Mx 2 3 = 29 then (0 : Int32) else 1) = 0 := by
        by_cases z : t = 0
        · rw [if_pos (show nI t ≤ 0 from nI_le (b := 0) (by omega) (by omega))]
        · rw [if_neg (show ¬ nI t ≤ 0 from nI_ge (a := 0) (by omega) (by omega)), if_pos]
          rw [h8]
          exact fun y => hcol ⟨by omega, (nI_kd (by omega)).mp (show nI (kd T L b) = nI 29 from y)⟩
      simp only [l_X2_takeBanks_4]
      rw [if_neg t9, if_neg (fun z => z h2), ei, if_pos rfl, if_pos bk.1, bk.2, ehx, h9]
    -- after an error the class's loop ends
    have xend : ∀ (X2 M2 : Mem) (y : Nat), ERe T L pr X2 M2 → f_X2_takeNumber 0 (nI (y0 - 1)) Mx = some (nI y, X2) → ∀ f1, loopC l_X2_takeBanks_4 (f1 + 2) (s, nI t, Mx) = some (s ||| (1 <<< (nI y &&& 31)), X2) := by
      intro X2 M2 y oe ex f1
      show l_X2_takeBanks_4 (loopC l_X2_takeBanks_4 (f1 + 1)) (s, nI t, Mx) = _
      rw [xh, ex, bnd_some]
      unfold j_X2_takeBanks_80
      rw [(p_fail2 oe 3 (nI b)).1, bnd_some, nI_1, x_bkE oe]
      split <;> rfl
    by_cases k28 : kd T L b = 28
    · -- a number stands there
      have emo : mo = 1 := by
        rw [hmo, k28]
        split <;> rfl
      have hb : b < L := kdL_lt (show kd T L b ≠ 32 by omega)
      have i0 : ix (nI (cnt T b)) = cnt T b := ix_nI (by have := cnt_le T b; have := h6.1; have := h1.2.1.2.1; omega)
      have c901 : cnt T b < 901 := by have := cnt_le T b; have := h6.1; have := h1.2.1.2.1; omega
      have e6 : Mx 6 (cnt T b) = numF T b (rn isDg T L b - b) := (h1.1 b (by omega) h6.2).2.2 k28
      have e13 : Mm 0 13 = numF T b (rn isDg T L b - b) := t2 (s3.mpr k28)
      generalize hnum : numF T b (rn isDg T L b - b) = num at *
      have mh : ∀ K, l_X10_batch_46 at_ K (s, mo, Mm) = if (p_X10_isIn num 0 (nI (y0 - 1))) = 0 then j_X10_batch_100 at_ s K Mm else if (p_X10_has s num) = 0 then j_X10_batch_100 at_ s K Mm else bnd (f_X10_fails 3 Mm) (fun _ M43 => j_X10_batch_100 at_ s K M43) := by
        intro K
        rw [emo]
        simp only [l_X10_batch_46]
        rw [if_neg ne10, if_neg (fun z => z (wr0 h3)), t12, s3.mpr k28, if_neg (show ¬ ¬ nI 2 = 2 from fun z => z rfl), e13, ehm]
      have xt : f_X2_takeNumber 0 (nI (y0 - 1)) Mx = if num < 0 then j_X2_takeNumber_44 0 Mx else if num ≤ nI (y0 - 1) then bnd (f_X2_goTo (Mx 2 2 + 1) Mx) (fun _ M9 => some (num, M9)) else j_X2_takeNumber_44 0 Mx := by
        unfold f_X2_takeNumber
        rw [h7, if_pos (of_eq_true (inb_T c901 (by omega))), i0, h8, k28, if_pos (show nI 28 = 28 from rfl), e6, if_neg (show ¬ ¬ Mx 2 5 = 0 from fun z => z h2)]
      by_cases inr : 0 ≤ num ∧ num ≤ nI (y0 - 1)
      · have nn : ¬ num < 0 := i32_nlt.mpr inr.1
        obtain ⟨en, ln⟩ := nn_ix nn
        have lt : ix num < y0 := by
          apply Classical.byContradiction
          intro z
          have q2 := inr.2
          rw [en] at q2
          exact nI_ge (by omega) ln q2
        obtain ⟨X1, M1, x1, m1, o1, F1, G1⟩ := p_next ob hb
        have xt2 : f_X2_takeNumber 0 (nI (y0 - 1)) Mx = some (num, X1) := by rw [xt, if_neg nn, if_pos inr.2, x1, bnd_some]
        have fig : f_X10_figure 0 (nI (y0 - 1)) Mm = some (num, M1) := by
          unfold f_X10_figure
          rw [if_pos (wr0 h3), t12, s3.mpr k28, if_pos (show nI 2 = 2 from rfl), e13, m_isIn_T inr.1 inr.2, if_pos ne10]
          unfold j_X10_figure_42 j_X10_figure_58
          rw [if_neg (fun z => z (wr0 h3)), m1, bnd_some, e13]
        generalize ix num = q at *
        subst en
        by_cases hS : bit s q = true
        · -- it is there twice
          left
          intro f1 f2
          have g11 : (up Mm 0 14 3) 0 11 = nI b := by rw [up_i _ _ (by decide)]; exact t11
          have ff : f_X10_fails 3 Mm = some (0, up (up Mm 0 14 3) 0 15 (nI b)) := by
            unfold f_X10_fails
            rw [if_pos (wr0 h3), wrt_def, wrt_def, g11]
          have xf : f_X2_fail 3 (nI b) X1 = some (0, up (up X1 2 5 3) 2 6 (nI b)) := by
            unfold f_X2_fail j_X2_fail_17
            rw [if_neg (fun z => z o1.2.1), wrt_def, wrt_def]
          obtain ⟨-, -, -, kk, kk1, kk2⟩ := (show PS T L pr X1 M1 from Or.inl ⟨_, o1⟩).ps
          have oe : ERe T L pr (up (up X1 2 5 3) 2 6 (nI b)) (up (up Mm 0 14 3) 0 15 (nI b)) := by
            refine ⟨h1.of (fun c hc => by rw [up_a _ _ _ (by omega), up_a _ _ _ (by omega)]; exact F1 c (by omega)) (by rw [up_i _ _ (by decide), up_i _ _ (by decide), o1.1.2.2]; exact h1.2.2.symm) (by rw [up_i _ _ (by decide), up_i _ _ (by decide)]) (by rw [up_a _ _ _ (by decide), up_a _ _ _ (by decide)]), ?_, ?_, ?_, kk, kk1, ?_⟩
            · rw [up_i _ _ (by decide), up_eq]; decide
            · rw [up_i _ _ (by decide), up_eq, up_i _ _ (by decide), up_eq]
            · rw [up_eq, up_eq]
            · rw [up_i _ _ (by decide), up_i _ _ (by decide)]; exact kk2
          have fE : f_X10_figure 0 ((up (up Mm 0 14 3) 0 15 (nI b)) 6 0 - 1) (up (up Mm 0 14 3) 0 15 (nI b)) = some (0, up (up Mm 0 14 3) 0 15 (nI b)) := by
            unfold f_X10_figure
            rw [if_neg oe.w]
          refine ⟨s ||| (1 <<< (nI q &&& 31)), up (up X1 2 5 3) 2 6 (nI b), s ||| (1 <<< ((0 : Int32) &&& 31)), up (up Mm 0 14 3) 0 15 (nI b), ?_, ?_, ?_, ?_, Or.inr ⟨_, ColD.ofE oe, FrQ.refl _⟩⟩
          · show l_X2_takeBanks_4 (loopC l_X2_takeBanks_4 (f1 + 1)) (s, nI t, Mx) = _
            rw [xh, xt2, bnd_some, if_neg (in_t hS), xf, bnd_some]
            unfold j_X2_takeBanks_80
            rw [nI_1, x_bkE oe]
          · show l_X10_batch_46 at_ (loopC (l_X10_batch_46 at_) (f2 + 1)) (s, mo, Mm) = _
            rw [mh, m_isIn_T inr.1 inr.2, if_neg ne10, if_neg (has_t hS), ff, bnd_some]
            unfold j_X10_batch_100
            rw [fE, bnd_some, m_bkE oe]
          · intro c hc
            rw [up_a _ _ _ hc, up_a _ _ _ hc]; exact F1 c hc
          · exact ⟨fun c hc => by rw [up_a _ _ _ hc, up_a _ _ _ hc], fun j hj => by rw [up_i _ _ (by omega), up_i _ _ (by omega)]⟩
        · right
          refine ⟨q, nxT T L b, X1, M1, lt, bF hS, o1, F1, G1, fun f1 => ?_, fun f2 => ?_⟩
          · show l_X2_takeBanks_4 (loopC l_X2_takeBanks_4 f1) (s, nI t, Mx) = _
            rw [xh, xt2, bnd_some, if_pos (in_f hS)]
            unfold j_X2_takeBanks_80
            rw [nI_1]
          · show l_X10_batch_46 at_ (loopC (l_X10_batch_46 at_) f2) (s, mo, Mm) = _
            rw [mh, m_isIn_T inr.1 inr.2, if_neg ne10, if_pos (Classical.not_not.mp (has_f hS))]
            unfold j_X10_batch_100
            rw [ehm, fig, bnd_some, o1.2.2.2.2.2.2.2.2.2.2.2.1]
            have s3b := (srt3 (T := T) (L := L) (b := nxT T L b)).2.2.1
            have s5b := (srt3 (T := T) (L := L) (b := nxT T L b)).2.2.2.2
            have e2 : (if ¬ nI (srt T L (nxT T L b)) = 2 then (0 : Int32) else 1) = if kd T L (nxT T L b) = 28 then 1 else 0 := by
              by_cases z : srt T L (nxT T L b) = 2
              · rw [z, if_neg (show ¬ ¬ nI 2 = 2 from fun y => y rfl), if_pos (s3b.mp z)]
              · rw [if_pos (show ¬ nI (srt T L (nxT T L b)) = 2 from fun y => z ((nI_eq (by omega) (by omega)).mp (show nI (srt T L (nxT T L b)) = nI 2 from y))), if_neg (fun y => z (s3b.mpr y))]
            rw [e2]
      · -- out of range
        left
        intro f1 f2
        obtain ⟨X1, M1, x1, m1, o1, F1, G1⟩ := p_fail ob 2 (by decide)
        have xt2 : f_X2_takeNumber 0 (nI (y0 - 1)) Mx = some (nI 0, X1) := by
          have e44 : j_X2_takeNumber_44 0 Mx = some (nI 0, X1) := by
            unfold j_X2_takeNumber_44 j_X2_takeNumber_75
            rw [h9, x1, bnd_some]
            rfl
          rw [xt, e44]
          by_cases z : num < 0
          · rw [if_pos z]
          · rw [if_neg z, if_neg (fun y => inr ⟨i32_nlt.mp z, y⟩)]
        have fig : f_X10_figure 0 (nI (y0 - 1)) Mm = some (M1 0 13, M1) := by
          unfold f_X10_figure
          rw [if_pos (wr0 h3), t12, s3.mpr k28, if_pos (show nI 2 = 2 from rfl), e13, m_isIn_F inr, if_neg nn00, m1, bnd_some]
          unfold j_X10_figure_42 j_X10_figure_58
          rw [if_pos o1.w]
        refine ⟨_, X1, s ||| (1 <<< (M1 0 13 &&& 31)), M1, xend X1 M1 0 o1 xt2 f1, ?_, F1, G1, Or.inr ⟨M1, ColD.ofE o1, FrQ.refl _⟩⟩
        · show l_X10_batch_46 at_ (loopC (l_X10_batch_46 at_) (f2 + 1)) (s, mo, Mm) = _
          rw [mh, m_isIn_F inr, if_pos rfl]
          unfold j_X10_batch_100
          rw [ehm, fig, bnd_some, m_bkE o1]
    · -- no number
      left
      intro f1 f2
      obtain ⟨X1, M1, x1, m1, o1, F1, G1⟩ := p_fail ob 1 (by decide)
      have c901 : cnt T b < 901 := by have := cnt_le T b; have := h6.1; have := h1.2.1.2.1; omega
      have xt2 : f_X2_takeNumber 0 (nI (y0 - 1)) Mx = some (nI 0, X1) := by
        unfold f_X2_takeNumber j_X2_takeNumber_75
        rw [h7, if_pos (of_eq_true (inb_T c901 (by omega))), h8, if_neg (show ¬ nI (kd T L b) = 28 from fun z => k28 ((nI_kd (by omega)).mp (show nI (kd T L b) = nI 28 from z))), h9, x1, bnd_some]
        rfl
      have ns2 : ¬ nI (srt T L b) = 2 := fun y => k28 (s3.mp ((nI_eq (by omega) (by omega)).mp (show nI (srt T L b) = nI 2 from y)))
      by_cases t0 : t = 0
      · have fig : f_X10_figure 0 (nI (y0 - 1)) Mm = some (M1 0 13, M1) := by
          unfold f_X10_figure
          rw [if_pos (wr0 h3), t12, if_neg ns2, m1, bnd_some]
          unfold j_X10_figure_42 j_X10_figure_58
          rw [if_pos o1.w]
        refine ⟨_, X1, s ||| (1 <<< (M1 0 13 &&& 31)), M1, xend X1 M1 0 o1 xt2 f1, ?_, F1, G1, Or.inr ⟨M1, ColD.ofE o1, FrQ.refl _⟩⟩
        · show l_X10_batch_46 at_ (loopC (l_X10_batch_46 at_) (f2 + 1)) (s, mo, Mm) = _
          have emo : mo = 1 := by rw [hmo, if_pos t0]
          rw [emo]
          simp only [l_X10_batch_46]
          rw [if_neg ne10, if_neg (fun z => z (wr0 h3)), t12, if_pos ns2]
          unfold j_X10_batch_100
          rw [ehm, fig, bnd_some, m_bkE o1]
      · have emo : mo = 0 := by rw [hmo, if_neg t0, if_neg k28]
        have k29 : ¬ kd T L b = 29 := fun z => hcol ⟨by omega, z⟩
        refine ⟨_, X1, s, Mm, xend X1 M1 0 o1 xt2 f1, ?_, F1, FrQ.refl _, Or.inr ⟨M1, ⟨⟨0, Mm, ?_, ?_⟩, o1⟩, G1⟩⟩
        · show l_X10_batch_46 at_ _ (s, mo, Mm) = _
          rw [emo]
          simp only [l_X10_batch_46]
          rw [if_pos trivial]
        · have := m_sign ob (w := 29) (by omega)
          rw [if_neg k29] at this
          exact this
        · unfold f_X10_must j_X10_must_9
          rw [if_neg nn00, m1, bnd_some]
theorem or8 {s : Int32} {q : Nat} (h : ∃ k, k < 256 ∧ s = nI k) (hq : q < 8) : ∃ k, k < 256 ∧ s ||| (1 <<< (nI q &&& 31)) = nI k := by
  obtain ⟨k, hk, rfl⟩ := h
  have e : ∀ k, k < 256 → ∀ q, q < 8 → k ||| (1 <<< q) < 256 ∧ nI k ||| (1 <<< (nI q &&& 31)) = nI (k ||| (1 <<< q)) := by decide +kernel
  exact ⟨_, e k hk q hq⟩
theorem p_banks (hp : pr = 7 ∨ pr = 20) : ∀ n t f1 f2 b (Mx Mm : Mem) (s mo at_ : Int32) (y0 : Nat), t + n = y0 → 1 ≤ y0 → y0 ≤ 8 → n + 2 ≤ f1 → n + 2 ≤ f2 → OKb T L pr b Mx Mm → Mx pr 0 = nI y0 → Mm 6 0 = nI y0 → mo = (if t = 0 then 1 else if kd T L b = 28 then 1 else 0) → cntF (fun q => bit s q) y0 = n → (∀ q, y0 ≤ q → q < 8 → bit s q = false) → (0 < t → ∃ q, q < 8 ∧ bit s q = true) → (∃ k, k < 256 ∧ s = nI k) → ∃ set Mx2 set2 Mm1, loopC l_X2_takeBanks_4 f1 (s, nI t, Mx) = some (set, Mx2) ∧ loopC (l_X10_batch_46 at_) f2 (s, mo, Mm) = j_X10_batch_135 at_ set2 Mm1 ∧ FrP Mx Mx2 ∧ FrQ Mm Mm1 ∧ ((∃ b2, OKb T L pr b2 Mx2 Mm1 ∧ kd T L b2 = 29 ∧ (set2 = set ∧ ∃ k, k < 256 ∧ set = nI k) ∧ (∀ q, y0 ≤ q → q < 8 → bit set q = false) ∧ ∃ q, q < 8 ∧ bit set q = true) ∨ (∃ Mm2, ColD T L pr Mx2 Mm1 Mm2 ∧ FrQ Mm1 Mm2)) := by
  have hp7 : 7 ≤ pr := by rcases hp with z | z <;> omega
  intro n
  induction n with
  | zero =>
    intro t f1 f2 b Mx Mm s mo at_ y0 hn y1 y8 hf1 hf2 ob hx0 hm0 hmo hcn hhi hne hs8
    obtain ⟨f1, rfl⟩ : ∃ k, f1 = k + 2 := ⟨f1 - 2, by omega⟩
    obtain ⟨f2, rfl⟩ : ∃ k, f2 = k + 2 := ⟨f2 - 2, by omega⟩
    rcases p_bank1 (at_ := at_) hp hn y1 y8 ob hx0 hm0 hmo hcn hhi hne hs8 with r | ⟨q, b2, X2, M2, q1, q2, -⟩
    · exact r f1 f2
    · exfalso
      have := (cntF_ins (S := fun q => bit s q) (q := q) q2 y0).1 q1
      omega
  | succ n ih =>
    intro t f1 f2 b Mx Mm s mo at_ y0 hn y1 y8 hf1 hf2 ob hx0 hm0 hmo hcn hhi hne hs8
    rcases p_bank1 (at_ := at_) hp hn y1 y8 ob hx0 hm0 hmo hcn hhi hne hs8 with r | ⟨q, b2, X2, M2, q1, q2, o2, F2, G2, x2, m2⟩
    · obtain ⟨f1, rfl⟩ : ∃ k, f1 = k + 2 := ⟨f1 - 2, by omega⟩
      obtain ⟨f2, rfl⟩ : ∃ k, f2 = k + 2 := ⟨f2 - 2, by omega⟩
      exact r f1 f2
    · obtain ⟨f1, rfl⟩ : ∃ k, f1 = k + 1 := ⟨f1 - 1, by omega⟩
      obtain ⟨f2, rfl⟩ : ∃ k, f2 = k + 1 := ⟨f2 - 1, by omega⟩
      have ei : ∀ j, j < 12 → bit (s ||| (1 <<< (nI q &&& 31))) j = (decide (j = q) || bit s j) := fun j hj => bit_or s (by omega) hj
      have hc2 : cntF (fun j => bit (s ||| (1 <<< (nI q &&& 31))) j) y0 = n := by
        have c1 := (cntF_ins (S := fun j => bit s j) (q := q) q2 y0).1 q1
        have c2 : ∀ m, m ≤ 8 → cntF (fun j => bit (s ||| (1 <<< (nI q &&& 31))) j) m = cntF (ins (fun j => bit s j) q) m := by
          intro m
          induction m with
          | zero => intro _; rfl
          | succ m ihm =>
            intro hm
            have u1 : cntF (fun j => bit (s ||| (1 <<< (nI q &&& 31))) j) (m + 1) = if bit (s ||| (1 <<< (nI q &&& 31))) m = true then cntF (fun j => bit (s ||| (1 <<< (nI q &&& 31))) j) m else cntF (fun j => bit (s ||| (1 <<< (nI q &&& 31))) j) m + 1 := rfl
            have u2 : cntF (ins (fun j => bit s j) q) (m + 1) = if ins (fun j => bit s j) q m = true then cntF (ins (fun j => bit s j) q) m else cntF (ins (fun j => bit s j) q) m + 1 := rfl
            rw [u1, u2, ihm (by omega), ei m (by omega)]
            rfl
        rw [c2 y0 y8]
        omega
      obtain ⟨set, X3, set2, M3, r1, r2, r3, r4, r5⟩ := ih (t + 1) f1 f2 b2 X2 M2 (s ||| (1 <<< (nI q &&& 31))) (if kd T L b2 = 28 then 1 else 0) at_ y0 (by omega) y1 y8 (by omega) (by omega) o2 (by rw [F2 pr (by omega)]; exact hx0) (by rw [G2.1 6 (by decide)]; exact hm0) (by rw [if_neg (show ¬ t + 1 = 0 by omega)]) hc2 (fun j j1 j2 => by rw [ei j (by omega), decide_eq_false (by omega), Bool.false_or]; exact hhi j j1 j2) (fun _ => ⟨q, by omega, by rw [ei q (by omega), decide_eq_true rfl, Bool.true_or]⟩) (or8 hs8 (by omega))
      exact ⟨set, X3, set2, M3, by rw [x2]; exact r1, by rw [m2]; exact r2, F2.trans r3, G2.trans r4, r5⟩
end BK
