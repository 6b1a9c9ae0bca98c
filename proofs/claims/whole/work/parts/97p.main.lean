/-! ===== all batches ===== -/
theorem x_idle2 : ∀ k t (M : Mem), t + k = 13 → (¬ M 2 5 = 0 ∨ M 2 3 = 32) → ∀ m, loopC l_X2_parse_47 (k + 1 + m) (nI t, M) = some (0, M) := by
  intro k
  induction k with
  | zero =>
    intro t M ht _ m
    rw [show 0 + 1 + m = m + 1 by omega]
    show l_X2_parse_47 _ (nI t, M) = _
    simp only [l_X2_parse_47]
    rw [if_pos (show (12 : Int32) < nI t from nI_lt (a := 12) (by omega) (by omega))]
  | succ k ih =>
    intro t M ht hM m
    rw [show k + 1 + 1 + m = (k + 1 + m) + 1 by omega]
    show l_X2_parse_47 (loopC l_X2_parse_47 (k + 1 + m)) (nI t, M) = _
    simp only [l_X2_parse_47, j_X2_parse_74]
    rw [if_neg (show ¬ (12 : Int32) < nI t from nI_nlt (a := 12) (by omega) (by omega)), nI_1, ih (t + 1) M (by omega) hM m]
    rcases hM with z | z
    · rw [if_pos z]
    · rw [if_pos z]
      split <;> rfl
section MN
variable {T : Nat → Int32} {L pr : Nat}
theorem p_main (hp : pr = 7 ∨ pr = 20) : ∀ n t f1 f2 nc (Mx Mm : Mem), t + n = 13 → n + 1 ≤ f1 → n + 1 ≤ f2 → PS T L pr Mx Mm → (Mx 2 5 = 0 → t ≤ 12 ∧ PI pr t nc Mx Mm) → ∃ X2 M2, loopC l_X2_parse_47 f1 (nI t, Mx) = some (0, X2) ∧ loopC l_X10_load_49 f2 Mm = j_X10_load_84 M2 ∧ PS T L pr X2 M2 ∧ FX pr Mx X2 ∧ FM Mm M2 ∧ (X2 2 5 = 0 → ∃ nb nc, PI pr nb nc X2 M2) := by
  have idle : ∀ t f1 (M : Mem), t ≤ 13 → 14 ≤ t + f1 → (¬ M 2 5 = 0 ∨ M 2 3 = 32) → loopC l_X2_parse_47 f1 (nI t, M) = some (0, M) := by
    intro t f1 M h1 h2 h3
    have := x_idle2 (13 - t) t M (by omega) h3 (f1 - (13 - t + 1))
    rw [show 13 - t + 1 + (f1 - (13 - t + 1)) = f1 by omega] at this
    exact this
  have err : ∀ t f1 f2 (Mx Mm : Mem), t ≤ 13 → 14 ≤ t + f1 → 1 ≤ f2 → ERe T L pr Mx Mm → loopC l_X2_parse_47 f1 (nI t, Mx) = some (0, Mx) ∧ loopC l_X10_load_49 f2 Mm = j_X10_load_84 Mm := by
    intro t f1 f2 Mx Mm h1 h2 h3 oe
    refine ⟨idle t f1 Mx h1 h2 (Or.inl oe.2.1), ?_⟩
    obtain ⟨f2, rfl⟩ : ∃ k, f2 = k + 1 := ⟨f2 - 1, by omega⟩
    show l_X10_load_49 _ Mm = _
    simp only [l_X10_load_49]
    rw [m_isWordE oe, bnd_some, if_pos rfl, if_pos oe.w]
  intro n
  induction n with
  | zero =>
    intro t f1 f2 nc Mx Mm ht h1 h2 P hI
    rcases id P with ⟨b, ob⟩ | oe
    · exact absurd (hI ob.2.1).1 (by omega)
    · obtain ⟨a1, a2⟩ := err t f1 f2 Mx Mm (by omega) (by omega) (by omega) oe
      exact ⟨Mx, Mm, a1, a2, P, FX.refl _ _, FM.refl _, fun z => absurd z oe.2.1⟩
  | succ n ih =>
    intro t f1 f2 nc Mx Mm ht h1 h2 P hI
    rcases id P with ⟨b, ob⟩ | oe
    · obtain ⟨t12, hPI⟩ := hI ob.2.1
      have k3 : Mx 2 3 = nI (kd T L b) := ob.2.2.2.2.2.2.2.1
      have k33 := kd_le (T := T) (L := L) b
      obtain ⟨s1, s2, s3, s4, s5⟩ := srt3 (T := T) (L := L) (b := b)
      have m12 : Mm 0 12 = nI (srt T L b) := ob.2.2.2.2.2.2.2.2.2.2.2.1
      have hw : f_X10_isWord 1036 Mm = some ((if kd T L b = 26 then 1 else 0), Mm) := m_isWord ob (w := 26) (by omega)
      obtain ⟨f2, rfl⟩ : ∃ k, f2 = k + 1 := ⟨f2 - 1, by omega⟩
      by_cases z : kd T L b = 32
      · refine ⟨Mx, Mm, idle t f1 Mx (by omega) (by omega) (Or.inr (by rw [k3, z]; rfl)), ?_, P, FX.refl _ _, FM.refl _, fun _ => ⟨t, nc, hPI⟩⟩
        show l_X10_load_49 _ Mm = _
        simp only [l_X10_load_49]
        rw [hw, bnd_some, if_neg (show ¬ kd T L b = 26 by omega), if_pos rfl, if_neg (fun y => y (wr0 ob.2.2.1)), if_pos (show Mm 0 12 = 0 by rw [m12, s4.mpr z]; rfl)]
      · obtain ⟨f1, rfl⟩ : ∃ k, f1 = k + 1 := ⟨f1 - 1, by omega⟩
        have xs : ∀ X1, f_X2_parseBatch Mx = some (0, X1) → loopC l_X2_parse_47 (f1 + 1) (nI t, Mx) = loopC l_X2_parse_47 f1 (nI (t + 1), X1) := by
          intro X1 e
          show l_X2_parse_47 (loopC l_X2_parse_47 f1) (nI t, Mx) = _
          simp only [l_X2_parse_47, j_X2_parse_74]
          rw [if_neg (show ¬ (12 : Int32) < nI t from nI_nlt (a := 12) (by omega) (by omega)), if_neg (fun y => y ob.2.1), if_neg (show ¬ Mx 2 3 = 32 from fun y => z ((nI_kd (by omega)).mp (show nI (kd T L b) = nI 32 by rw [← k3]; exact y))), e, bnd_some, nI_1]
        by_cases z2 : kd T L b = 26
        · obtain ⟨X1, M1, x1, m1, P1, F1, G1, E1⟩ := p_batch hp ob z2 hPI
          obtain ⟨nc2, hn2⟩ : ∃ nc2, X1 2 5 = 0 → t + 1 ≤ 12 ∧ PI pr (t + 1) nc2 X1 M1 := by
            by_cases y : X1 2 5 = 0
            · obtain ⟨e1, nc2, e2⟩ := E1 y
              exact ⟨nc2, fun _ => ⟨by omega, e2⟩⟩
            · exact ⟨0, fun q => absurd q y⟩
          obtain ⟨X2, M2, a1, a2, a3, a4, a5, a6⟩ := ih (t + 1) f1 f2 nc2 X1 M1 (by omega) (by omega) (by omega) P1 hn2
          refine ⟨X2, M2, by rw [xs X1 x1]; exact a1, ?_, a3, F1.trans a4, G1.trans a5, a6⟩
          show l_X10_load_49 (loopC l_X10_load_49 f2) Mm = _
          simp only [l_X10_load_49]
          rw [hw, bnd_some, if_pos z2, if_neg ne10, m1, bnd_some, a2]
        · obtain ⟨X1, M1, x1, m1, o1, F1, G1⟩ := p_fail ob 1 (by decide)
          have pb : f_X2_parseBatch Mx = some (0, X1) := by
            unfold f_X2_parseBatch
            rw [if_neg (show ¬ Mx 2 3 = 26 from fun y => z2 ((nI_kd (by omega)).mp (show nI (kd T L b) = nI 26 by rw [← k3]; exact y))), ob.2.2.2.2.2.2.2.2.1, x1, bnd_some]
          refine ⟨X1, M1, by rw [xs X1 pb]; exact idle (t + 1) f1 X1 (by omega) (by omega) (Or.inl o1.2.1), ?_, Or.inr o1, fun c c1 _ => F1 c c1, G1.m, fun y => absurd y o1.2.1⟩
          show l_X10_load_49 _ Mm = _
          simp only [l_X10_load_49]
          rw [hw, bnd_some, if_neg z2, if_pos rfl, if_neg (fun y => y (wr0 ob.2.2.1)), if_neg (show ¬ Mm 0 12 = 0 from fun y => z (s4.mp ((nI_eq (by omega) (by omega)).mp (show nI (srt T L b) = nI 0 by rw [← m12]; exact y)))), m1, bnd_some]
    · obtain ⟨a1, a2⟩ := err t f1 f2 Mx Mm (by omega) (by omega) (by omega) oe
      exact ⟨Mx, Mm, a1, a2, P, FX.refl _ _, FM.refl _, fun z => absurd z oe.2.1⟩
end MN
/-! ===== what both begin with ===== -/
theorem x_fill {t n : Nat} (hn : lenK KSx t = n) (h9 : n < 9999) (x : Int32) (M : Mem) : f_J7_fill_53178 t x M = some (0, upA M t (fun j => if j < n then x else M t j)) := by
  unfold f_J7_fill_53178
  rw [hn]
  refine loop_run n (fun i => (nI i, upA M t (fun j => if j < i then x else M t j))) ?_ h9 (fun i hi K => ?_) (fun K => ?_)
  · have : (fun j => if j < 0 then x else M t j) = M t := by
      funext j
      rw [if_neg (by omega)]
    rw [this, upA_self]
    rfl
  · simp only [l_J7_fill_53178_5]
    rw [if_neg (nI_ge hi (by omega)), hn, if_pos (of_eq_true (inb_T (by first | omega | (unfold wdP; omega) | (unfold lnP; omega) | (unfold cl; omega)) (by omega))), ix_nI (by omega), wrt_def, nI_1, up_upA]
    congr 3
    funext j
    by_cases y : j = i
    · rw [y, upd_eq, if_pos (by omega)]
    · rw [upd_ne _ _ y]
      by_cases q : j < i
      · rw [if_pos q, if_pos (by omega)]
      · rw [if_neg q, if_neg (by omega)]
  · simp only [l_J7_fill_53178_5]
    rw [if_pos (nI_le (Nat.le_refl _) (by omega))]
