/-! ===== the new objects ===== -/
theorem ss_plain {pr : Nat} {X M : Mem} {f : Nat → Int32} (hx : ∀ s, s < 9 → X (pr + 1) s = statA 902 s) (hm : M 6 = plF f) : SS pr X M := by
  intro s hs
  rw [hx s hs]
  refine ⟨?_, st_902 s hs⟩
  rw [hm]
  have e : ∀ s, s < 9 → statA 902 s = plF (fun _ => 0) (sm s) := by decide +kernel
  have e2 : ∀ (f : Nat → Int32) s, s < 9 → plF f (sm s) = plF (fun _ => 0) (sm s) := by
    intro f s hs
    rcases (show s = 0 ∨ s = 1 ∨ s = 2 ∨ s = 3 ∨ s = 4 ∨ s = 5 ∨ s = 6 ∨ s = 7 ∨ s = 8 by omega) with z | z | z | z | z | z | z | z | z <;> rw [z] <;> rfl
  rw [e2 _ s hs]
  exact e s hs
/-- both new objects agree: the class's after its program's and its state's clear, the reference's after plain and takes -/
theorem inv_start {X0 M0 : Mem} (x05 : X0 0 5 = nI 7) (x06 : X0 0 6 = nI 20) (x01 : X0 0 1 = 0) (x02 : X0 0 2 = 0) (x03 : X0 0 3 = -1) (x010 : X0 0 10 = 0) (x1 : ∀ i, i < 900 → X0 1 i = 0) (xd : ∀ j, j < 8 → X0 47 j = 0) (xp : X0 114 0 = 0) (m00 : M0 0 0 = 0) (m08 : M0 0 8 = 0) (m014 : M0 0 14 = 0) (m015 : M0 0 15 = -1) (m7 : ∀ i, i < 900 → M0 7 i = 0) : ∃ X1 X2 M1 M2, f_X4_clear 7 X0 = some (0, X1) ∧ f_X5_clear 33 X1 = some (0, X2) ∧ f_X10_plain M0 = some (0, M1) ∧ f_X10_takes M1 = some (0, M2) ∧ Inv 0 X2 M2 := by
  obtain ⟨X1, a1, fa, ⟨c0, c1, c2, c4, c5⟩, cs, cz⟩ := x_clear4 (pr := 7) (Or.inl rfl) X0
  obtain ⟨X2, a2, fb, zs⟩ := x_clear5 X1
  refine ⟨X1, X2, _, _, a1, a2, m_plain M0, m_takes _, ?_⟩
  obtain ⟨M1, hM1, r6, rd⟩ : ∃ M1, upA M0 6 (plF (fun j => if j < 290 then 0 else M0 6 j)) = M1 ∧ M1 6 = plF (fun j => if j < 290 then 0 else M0 6 j) ∧ ∀ d, d ≠ 6 → M1 d = M0 d := ⟨_, rfl, upA_eq _ _ _, fun d hd => upA_ne _ _ hd⟩
  rw [hM1]
  obtain ⟨N, hN, N0, N5, N1, N40, N41, N7⟩ : ∃ N, up (up (upA (upA M1 5 (fun j => if j < 290 then M1 6 j else M1 5 j)) 1 (fun j => if j < 1671 then 0 else M1 1 j)) 4 0 0) 4 1 0 = N ∧ N 0 = M1 0 ∧ (∀ j, j < 290 → N 5 j = M1 6 j) ∧ (∀ j, j < 1671 → N 1 j = 0) ∧ N 4 0 = 0 ∧ N 4 1 = 0 ∧ N 7 = M1 7 := by
    refine ⟨_, rfl, ?_, fun j hj => ?_, fun j hj => ?_, ?_, ?_, ?_⟩
    · rw [up_a _ _ _ (by decide), up_a _ _ _ (by decide), upA_ne _ _ (by decide), upA_ne _ _ (by decide)]
    · rw [up_a _ _ _ (by decide), up_a _ _ _ (by decide), upA_ne _ _ (by decide), upA_eq, if_pos hj]
    · rw [up_a _ _ _ (by decide), up_a _ _ _ (by decide), upA_eq, if_pos hj]
    · rw [up_i _ _ (by decide), up_eq]
    · rw [up_eq]
    · rw [up_a _ _ _ (by decide), up_a _ _ _ (by decide), upA_ne _ _ (by decide), upA_ne _ _ (by decide)]
  rw [hN]
  have f0 : X2 0 = X0 0 := by rw [fb 0 (by omega), fa 0 (by omega)]
  have fo : ∀ d, d < 33 ∨ 50 < d ∨ d = 47 → ¬ (7 ≤ d ∧ d ≤ 7 + 12) → X2 d = X0 d := fun d d1 d2 => by rw [fb d d1, fa d d2]
  have fp : ∀ k, k ≤ 12 → X2 (7 + k) = X1 (7 + k) := fun k hk => fb _ (by omega)
  have fp0 : X2 7 = X1 7 := fp 0 (by omega)
  have hd : HD 7 X1 M1 := ⟨⟨1, 1, 1, ⟨by omega, by omega⟩, ⟨by omega, by omega⟩, ⟨by omega, by omega⟩, ⟨c0, c1, c2⟩, by rw [r6]; rfl, by rw [r6]; rfl, by rw [r6]; rfl⟩, ss_plain cs r6⟩
  have hd2 : HD 7 X2 (upA N 6 (N 5)) := hd.of (fun i hi => by rw [fp0]) (fp 1 (by omega)) (fun j hj => by rw [upA_eq]; exact N5 j (by omega))
  obtain ⟨q1, q2, q3, q4⟩ := hd2.rel
  rw [upA_eq] at q1 q2 q3 q4
  have p12 : N 5 12 = nI 0 := by
    rw [N5 12 (by omega), r6]
    rfl
  have bk : (¬ X2 0 5 < 0 ∧ blkD KSx (ix (X2 0 5)) blk4) ∧ ix (X2 0 5) = 7 := by rw [f0, x05]; exact pr_blk (Or.inl rfl)
  refine ⟨7, 0, ⟨bk, Or.inl rfl, by rw [f0, x06], ⟨q2, q1, q3, by omega, p12, by rw [fp0]; exact c4, fun bt hbt => absurd hbt (by omega)⟩, q4⟩, is_zero zs N1 ?_, fun s hs => ?_, ⟨0, by omega, by rw [f0]; exact x010⟩, ⟨0, by omega, by rw [f0]; exact x01, by rw [N0, rd 0 (by decide)]; exact m08, fun i hi => ?_⟩, ⟨?_, ?_⟩, Or.inl ?_⟩
  · intro j hj
    rw [fo 47 (by omega) (by omega), xd j hj]
    exact Or.inl rfl
  · have z4 : N 4 s = 0 := by rcases (show s = 0 ∨ s = 1 by omega) with q | q <;> rw [q] <;> assumption
    have e10 : X2 0 10 = 0 := by rw [f0]; exact x010
    refine ⟨Or.inl z4, ?_, fun y => absurd (z4.symm.trans y) (by decide)⟩
    rw [e10, z4, bit_z s (by omega)]
    decide
  · rw [fo 1 (by omega) (by omega), N7, rd 7 (by decide), x1 i hi, m7 i hi]
    exact ⟨rfl, 0, by omega, rfl⟩
  · rw [f0, N0, rd 0 (by decide), x02, m014]
  · rw [f0, N0, rd 0 (by decide), x03, m015]
  · rw [fo 114 (by omega) (by omega)]; exact xp
