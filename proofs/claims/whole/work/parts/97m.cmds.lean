/-! ===== the commands of a batch ===== -/
def finX (M : Mem) : Option (Int32 × Mem) := bnd (f_X2_take 27 M) (fun _ M15 => bnd (f_X2_take 30 M15) (fun _ M17 => if ¬ M17 2 1 < 0 ∧ blkD KSx (ix (M17 2 1)) blk4 then bnd (f_X4_endBatch (ix (M17 2 1)) M17) (fun _ M20 => some (0, M20)) else none))
theorem x_idle : ∀ k t (M : Mem), t + k = 61 → (¬ M 2 5 = 0 ∨ M 2 3 = 27) → ∀ m, loopC l_X2_parseBatch_66 (k + 1 + m) (nI t, M) = finX M := by
  intro k
  induction k with
  | zero =>
    intro t M ht _ m
    rw [show 0 + 1 + m = m + 1 by omega]
    show l_X2_parseBatch_66 _ (nI t, M) = _
    simp only [l_X2_parseBatch_66]
    rw [if_pos (show (60 : Int32) < nI t from nI_lt (a := 60) (by omega) (by omega))]
    rfl
  | succ k ih =>
    intro t M ht hM m
    rw [show k + 1 + 1 + m = (k + 1 + m) + 1 by omega]
    show l_X2_parseBatch_66 (loopC l_X2_parseBatch_66 (k + 1 + m)) (nI t, M) = _
    simp only [l_X2_parseBatch_66, j_X2_parseBatch_92]
    rw [if_neg (show ¬ (60 : Int32) < nI t from nI_nlt (a := 60) (by omega) (by omega)), nI_1, ih (t + 1) M (by omega) hM m]
    rcases hM with z | z
    · rw [if_pos z]
    · rw [if_pos z]
      split <;> rfl
/-- what the commands from f on have changed -/
def LF (pr f nc2 : Nat) (Mx Mm Mx2 Mm2 : Mem) : Prop := Mx2 pr = upd (Mx pr) 5 (nI nc2) ∧ (∀ d, d ≠ 2 → d ≠ pr → ¬ (pr + 5 ≤ d ∧ d ≤ pr + 9) → Mx2 d = Mx d) ∧ (∀ d i, pr + 5 ≤ d → d ≤ pr + 9 → i < f → Mx2 d i = Mx d i) ∧ FM Mm Mm2 ∧ Mm2 6 13 = nI nc2 ∧ (∀ j, j ≠ 13 → (j < 50 + 4 * f ∨ 50 + 4 * nc2 ≤ j) → Mm2 6 j = Mm 6 j)
section CS
variable {T : Nat → Int32} {L pr : Nat}
theorem p_cmds (hp : pr = 7 ∨ pr = 20) {f y1 : Nat} {X0 M0 : Mem} (hy : 1 ≤ y1 ∧ y1 ≤ 16) (hx1 : X0 pr 1 = nI y1) (hm1 : M0 6 1 = nI y1) (hz : ∀ j, 50 + 4 * f ≤ j → j < 290 → M0 6 j = 0) (at_ : Int32) : ∀ n t f1 f2 nc (Mx Mm : Mem) (x4 : Int32), nc + n = 60 → f + t = nc → 62 ≤ t + f1 → n + 2 ≤ f2 → PS T L pr Mx Mm → (Mx 2 5 = 0 → ∃ b, OKb T L pr b Mx Mm ∧ x4 = nxK T L b) → (¬ Mx 2 5 = 0 → x4 = -1) → LF pr f nc X0 M0 Mx Mm → (Mx 2 5 = 0 → ∀ c, f ≤ c → c < nc → PC0 Mx pr (Mm 6) c) → ∃ X2 M2 nc2, loopC l_X2_parseBatch_66 f1 (nI t, Mx) = finX X2 ∧ loopC (l_X10_batch_173 at_) f2 (x4, Mm) = j_X10_batch_201 at_ M2 ∧ PS T L pr X2 M2 ∧ nc2 ≤ 60 ∧ f ≤ nc2 ∧ LF pr f nc2 X0 M0 X2 M2 ∧ (X2 2 5 = 0 → ∀ c, f ≤ c → c < nc2 → PC0 X2 pr (M2 6) c) ∧ (X2 2 5 = 0 → Mx 2 5 = 0) := by
  have hp7 : 7 ≤ pr := by rcases hp with z | z <;> omega
  have idle : ∀ t f1 (M : Mem), t ≤ 61 → 62 ≤ t + f1 → (¬ M 2 5 = 0 ∨ M 2 3 = 27) → loopC l_X2_parseBatch_66 f1 (nI t, M) = finX M := by
    intro t f1 M h1 h2 h3
    have := x_idle (61 - t) t M (by omega) h3 (f1 - (61 - t + 1))
    rw [show 61 - t + 1 + (f1 - (61 - t + 1)) = f1 by omega] at this
    exact this
  have stop : ∀ f2 (M : Mem), 1 ≤ f2 → loopC (l_X10_batch_173 at_) f2 (-1, M) = j_X10_batch_201 at_ M := by
    intro f2 M h
    obtain ⟨f2, rfl⟩ : ∃ k, f2 = k + 1 := ⟨f2 - 1, by omega⟩
    show l_X10_batch_173 at_ _ (-1, M) = _
    simp only [l_X10_batch_173]
    rw [if_pos trivial]
  have nonc : ∀ t f1 f2 nc b (Mx Mm : Mem), nc ≤ 60 → f + t = nc → 62 ≤ t + f1 → 1 ≤ f2 → OKb T L pr b Mx Mm → ¬ (8 ≤ kd T L b ∧ kd T L b ≤ 22) → loopC l_X2_parseBatch_66 f1 (nI t, Mx) = finX Mx ∧ loopC (l_X10_batch_173 at_) f2 (nxK T L b, Mm) = j_X10_batch_201 at_ Mm := by
    intro t f1 f2 nc b Mx Mm hn ht h1 h2 ob hk
    have k3 : Mx 2 3 = nI (kd T L b) := ob.2.2.2.2.2.2.2.1
    have k33 := kd_le (T := T) (L := L) b
    have ex : nxK T L b = -1 := if_neg hk
    rw [ex]
    refine ⟨?_, stop f2 Mm h2⟩
    by_cases z : kd T L b = 27
    · exact idle t f1 Mx (by omega) h1 (Or.inr (by rw [k3, z]; rfl))
    · obtain ⟨f1, rfl⟩ : ∃ k, f1 = k + 1 := ⟨f1 - 1, by omega⟩
      obtain ⟨X1, M1, x1, m1, o1, F1, G1⟩ := p_fail ob 1 (by decide)
      have tk : f_X2_take 27 Mx = some (0, X1) := by
        have := x_takeF ob z (by omega)
        rw [x1, bnd_some] at this
        exact this
      have ef : finX X1 = finX Mx := by
        unfold finX
        rw [tk, x_takeE o1]
      have pc : f_X2_parseCommand Mx = some (0, X1) := by
        unfold f_X2_parseCommand j_X2_parseCommand_17
        rw [k3, ob.2.2.2.2.2.2.2.2.1, x1, bnd_some]
        by_cases y : kd T L b < 8
        · rw [if_pos (show nI (kd T L b) < 8 from nI_lt (b := 8) y (by omega))]
        · rw [if_neg (show ¬ nI (kd T L b) < 8 from nI_nlt (b := 8) (by omega) (by omega)), if_neg (show ¬ nI (kd T L b) ≤ 22 from nI_ge (a := 22) (by omega) (by omega))]
      show l_X2_parseBatch_66 (loopC l_X2_parseBatch_66 f1) (nI t, Mx) = _
      simp only [l_X2_parseBatch_66, j_X2_parseBatch_92]
      rw [if_neg (show ¬ (60 : Int32) < nI t from nI_nlt (a := 60) (by omega) (by omega)), if_neg (fun y => y ob.2.1), if_neg (show ¬ Mx 2 3 = 27 from fun y => z ((nI_kd (by omega)).mp (show nI (kd T L b) = nI 27 by rw [← k3]; exact y))), pc, bnd_some, nI_1, idle (t + 1) f1 X1 (by omega) (by omega) (Or.inl o1.2.1), ef]
  intro n
  induction n with
  | zero =>
    intro t f1 f2 nc Mx Mm x4 hn ht h1 h2 P hok her F R
    by_cases e : Mx 2 5 = 0
    · obtain ⟨b, ob, rfl⟩ := hok e
      by_cases hk : 8 ≤ kd T L b ∧ kd T L b ≤ 22
      · have k3 : Mx 2 3 = nI (kd T L b) := ob.2.2.2.2.2.2.2.1
        have n60 : nc = 60 := by omega
        obtain ⟨f1, rfl⟩ : ∃ k, f1 = k + 1 := ⟨f1 - 1, by omega⟩
        obtain ⟨f2, rfl⟩ : ∃ k, f2 = k + 2 := ⟨f2 - 2, by omega⟩
        obtain ⟨X1, M1, x1, m1, o1, F1, G1⟩ := p_fail ob 4 (by decide)
        have bk := P.blk hp
        have c5 : Mx pr 5 = nI 60 := by rw [F.1, upd_eq, n60]
        have c13 : Mm 6 13 = 60 := by rw [F.2.2.2.2.1, n60]; rfl
        refine ⟨X1, M1, nc, ?_, ?_, Or.inr o1, by omega, by omega, ?_, fun y => absurd y o1.2.1, fun _ => e⟩
        · have pc : f_X2_parseCommand Mx = some (0, X1) := by
            unfold f_X2_parseCommand
            rw [k3, ob.2.2.2.2.2.2.2.2.1, if_neg (show ¬ nI (kd T L b) < 8 from nI_nlt (b := 8) hk.1 (by omega)), if_pos (show nI (kd T L b) ≤ 22 from nI_le (b := 22) hk.2 (by omega)), if_pos bk.1, bk.2, c5, if_neg (show ¬ nI 60 < 60 by decide), x1, bnd_some]
          show l_X2_parseBatch_66 (loopC l_X2_parseBatch_66 f1) (nI t, Mx) = _
          simp only [l_X2_parseBatch_66, j_X2_parseBatch_92]
          rw [if_neg (show ¬ (60 : Int32) < nI t from nI_nlt (a := 60) (by omega) (by omega)), if_neg (fun y => y ob.2.1), if_neg (show ¬ Mx 2 3 = 27 from fun y => by
            have := (nI_kd (by omega)).mp (show nI (kd T L b) = nI 27 by rw [← k3]; exact y)
            omega), pc, bnd_some, nI_1, idle (t + 1) f1 X1 (by omega) (by omega) (Or.inl o1.2.1)]
        · have k8 : kK (kd T L b) < 8 := by
            unfold kK
            repeat' split
            all_goals omega
          have ex : nxK T L b = nI (kK (kd T L b)) := if_pos hk
          have pc : f_X10_command (nI (kK (kd T L b))) Mm = some (0, M1) := by
            unfold f_X10_command j_X10_command_17
            rw [if_neg (fun y => y c13), m1, bnd_some, if_neg o1.w]
          show l_X10_batch_173 at_ (loopC (l_X10_batch_173 at_) (f2 + 1)) (nxK T L b, Mm) = _
          simp only [l_X10_batch_173]
          rw [ex, if_neg (ne_m1 (by omega)), if_neg (fun y => y (wr0 ob.2.2.1)), pc, bnd_some, m_kindE o1, bnd_some, stop (f2 + 1) M1 (by omega)]
        · obtain ⟨l1, l2, l3, l4, l5, l6⟩ := F
          exact ⟨by rw [F1 pr (by omega)]; exact l1, fun d d1 d2 d3 => by rw [F1 d d1]; exact l2 d d1 d2 d3, fun d i d1 d2 d3 => by rw [F1 d (by omega)]; exact l3 d i d1 d2 d3, l4.trans G1.m, by rw [G1.1 6 (by decide)]; exact l5, fun j j1 j2 => by rw [G1.1 6 (by decide)]; exact l6 j j1 j2⟩
      · obtain ⟨a1, a2⟩ := nonc t f1 f2 nc b Mx Mm (by omega) ht h1 (by omega) ob hk
        exact ⟨Mx, Mm, nc, a1, a2, P, by omega, by omega, F, R, fun z => z⟩
    · rw [her e]
      exact ⟨Mx, Mm, nc, idle t f1 Mx (by omega) h1 (Or.inl e), stop f2 Mm (by omega), P, by omega, by omega, F, R, fun z => z⟩
  | succ n ih =>
    intro t f1 f2 nc Mx Mm x4 hn ht h1 h2 P hok her F R
    by_cases e : Mx 2 5 = 0
    · obtain ⟨b, ob, rfl⟩ := hok e
      by_cases hk : 8 ≤ kd T L b ∧ kd T L b ≤ 22
      · have k3 : Mx 2 3 = nI (kd T L b) := ob.2.2.2.2.2.2.2.1
        obtain ⟨f1, rfl⟩ : ∃ k, f1 = k + 1 := ⟨f1 - 1, by omega⟩
        obtain ⟨f2, rfl⟩ : ∃ k, f2 = k + 1 := ⟨f2 - 1, by omega⟩
        obtain ⟨l1, l2, l3, l4, l5, l6⟩ := id F
        obtain ⟨X1, M1, x1, m1, P1, r1, F1, F1', G1, g13, gj, rel⟩ := p_command (nc := nc) (y1 := y1) ob hp hk (by rw [l1, upd_eq]) l5 (by omega) hy (by rw [l1, upd_ne _ _ (by omega)]; exact hx1) (by rw [l6 1 (by omega) (by omega)]; exact hm1) (fun j j1 j2 => by rw [l6 j (by omega) (by omega)]; exact hz j (by omega) j2)
        have LF1 : LF pr f (nc + 1) X0 M0 X1 M1 := by
          refine ⟨?_, fun d d1 d2 d3 => by rw [F1 d d1 d2 d3]; exact l2 d d1 d2 d3, fun d i d1 d2 d3 => by rw [F1' d i d1 d2 (by omega)]; exact l3 d i d1 d2 d3, l4.trans G1, g13, fun j j1 j2 => by rw [gj j j1 (by omega)]; exact l6 j j1 (by omega)⟩
          rw [r1, l1]
          funext j
          by_cases y : j = 5
          · rw [y, upd_eq, upd_eq]
          · rw [upd_ne _ _ y, upd_ne _ _ y, upd_ne _ _ y]
        have R1 : X1 2 5 = 0 → ∀ c, f ≤ c → c < nc + 1 → PC0 X1 pr (M1 6) c := by
          intro z c c1 c2
          by_cases y : c = nc
          · rw [y]; exact rel z
          · exact (R e c c1 (by omega)).of (fun d d1 d2 => F1' _ _ (by omega) (by omega) (by omega)) (fun k hk4 => gj _ (by omega) (by omega))
        obtain ⟨v, ev, hv1, hv2⟩ : ∃ v, f_X10_kind M1 = some (v, M1) ∧ (X1 2 5 = 0 → ∃ b, OKb T L pr b X1 M1 ∧ v = nxK T L b) ∧ (¬ X1 2 5 = 0 → v = -1) := by
          rcases P1 with ⟨b1, o1⟩ | o1
          · exact ⟨_, m_kind o1, fun _ => ⟨b1, o1, rfl⟩, fun y => absurd o1.2.1 y⟩
          · exact ⟨_, m_kindE o1, fun y => absurd y o1.2.1, fun _ => rfl⟩
        obtain ⟨X2, M2, nc2, a1, a2, a3, a4, a5, a6, a7, -⟩ := ih (t + 1) f1 f2 (nc + 1) X1 M1 v (by omega) (by omega) (by omega) (by omega) P1 hv1 hv2 LF1 R1
        refine ⟨X2, M2, nc2, ?_, ?_, a3, a4, a5, a6, a7, fun _ => e⟩
        · show l_X2_parseBatch_66 (loopC l_X2_parseBatch_66 f1) (nI t, Mx) = _
          simp only [l_X2_parseBatch_66, j_X2_parseBatch_92]
          rw [if_neg (show ¬ (60 : Int32) < nI t from nI_nlt (a := 60) (by omega) (by omega)), if_neg (fun y => y ob.2.1), if_neg (show ¬ Mx 2 3 = 27 from fun y => by
            have := (nI_kd (by omega)).mp (show nI (kd T L b) = nI 27 by rw [← k3]; exact y)
            omega), x1, bnd_some, nI_1, a1]
        · have k8 : kK (kd T L b) < 8 := by
            unfold kK
            repeat' split
            all_goals omega
          have ex : nxK T L b = nI (kK (kd T L b)) := if_pos hk
          show l_X10_batch_173 at_ (loopC (l_X10_batch_173 at_) f2) (nxK T L b, Mm) = _
          simp only [l_X10_batch_173]
          rw [ex, if_neg (ne_m1 (by omega)), if_neg (fun y => y (wr0 ob.2.2.1)), m1, bnd_some, ev, bnd_some, a2]
      · obtain ⟨a1, a2⟩ := nonc t f1 f2 nc b Mx Mm (by omega) ht h1 (by omega) ob hk
        exact ⟨Mx, Mm, nc, a1, a2, P, by omega, by omega, F, R, fun z => z⟩
    · rw [her e]
      exact ⟨Mx, Mm, nc, idle t f1 Mx (by omega) h1 (Or.inl e), stop f2 Mm (by omega), P, by omega, by omega, F, R, fun z => z⟩
end CS
