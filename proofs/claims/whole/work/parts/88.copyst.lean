theorem x_copyA {M : Mem} {t0 t1 : Nat} (h : t0 + 2 < t1 ∨ t1 + 2 < t0) : ∃ M2, f_X0_copyFrom t0 t1 M = some (0, M2) ∧ (∀ a Q U, Q ≤ 16 → AG M t1 a 0 Q U → AG M2 t0 a 0 Q U) ∧ ∀ c, c ≠ t0 → c ≠ t0 + 1 → c ≠ t0 + 2 → M2 c = M c := by
  unfold f_X0_copyFrom
  rw [wrt_def, wrt_def, wrt_def, wrt_def]
  have e1 : (cpy (cpy M (t1 + 1) 0 (t0 + 1) 0 16) (t1 + 2) 0 (t0 + 2) 0 120) t1 = M t1 := by rw [cpy_ne _ _ _ _ (by omega), cpy_ne _ _ _ _ (by omega)]
  have e2 : ∀ x, (up (cpy (cpy M (t1 + 1) 0 (t0 + 1) 0 16) (t1 + 2) 0 (t0 + 2) 0 120) t0 1 x) t1 = M t1 := fun x => by rw [up_a _ _ _ (by omega)]; exact e1
  rw [e1, e2]
  refine ⟨_, rfl, fun a Q U hQ hA => ?_, fun c c0 c1 c2 => ?_⟩
  · obtain ⟨g1, g2, g3, g4, g5, g6⟩ := hA
    refine ⟨by rw [up_i _ _ (by decide), up_eq]; exact g1, g2, fun i hi => ?_, by rw [up_eq]; exact g4, g5, fun i hi => ?_⟩
    · rw [up_a _ _ _ (by omega), up_a _ _ _ (by omega), cpy_ne _ _ _ _ (by omega), cpy_eq _ _ _ (n := 16) rfl, if_pos (by omega)]
      exact g3 i hi
    · rw [up_a _ _ _ (by omega), up_a _ _ _ (by omega), cpy_eq _ _ _ (n := 120) rfl, if_pos (by omega), cpy_ne _ _ _ _ (by omega)]
      exact g6 i hi
  · rw [up_a _ _ _ c0, up_a _ _ _ c0, cpy_ne _ _ _ _ c2, cpy_ne _ _ _ _ c1]
/-- all that is saved in a slot -/
theorem x_copyS {p : Nat → Int32} {M : Mem} {s0 s1 : Nat} {a : Nat → Int32} {n : Nat} {l : Nat → Nat} {T N Q U : Nat} (h : s0 + 19 < s1 ∨ s1 + 19 < s0) (h28 : ix (p 2) ≤ 8) (hQ : Q ≤ 16) (hd : ∀ j, j < 8 → isB (M (s1 + 14) j)) (hS : SR p M s1 a n l T N 0 Q U) : ∃ M2, f_X5_copyFrom s0 s1 M = some (0, M2) ∧ SR p M2 s0 a n l T N 0 Q U ∧ (∀ j, j < 8 → isB (M2 (s0 + 14) j)) ∧ ∀ c, c < s0 ∨ s0 + 19 < c → M2 c = M c := by
  obtain ⟨hR, hC, hT, hau, hau2, hn, hA, hnC⟩ := hS
  unfold f_X5_copyFrom
  obtain ⟨M1, x1, R1, C1, a1, d1, F1⟩ := x_copyVals (M := M) (s0 := s0) (s1 := s1) h hd (by rw [hau]; exact hau2)
  rw [x1, bnd_some]
  have T1 : M1 = setT M1 (s1 + 4) a := setT_of hT (fun c h1 h2 => F1 c (by omega))
  rw [x_copyT (M := M1) (t0 := s0 + 4) (t1 := s1 + 4) (a := a) (by omega) T1, bnd_some]
  have s2 : ∀ c, c ≤ s0 + 4 ∨ s0 + 4 + 7 < c → (setT M1 (s0 + 4) a) c = M1 c := fun c hc => sTn _ _ hc
  obtain ⟨M3, x3, A3, F3⟩ := x_copyA (M := setT M1 (s0 + 4) a) (t0 := s0 + 17) (t1 := s1 + 17) (by omega)
  rw [x3, bnd_some]
  have hA1 : AG (setT M1 (s0 + 4) a) (s1 + 17) a 0 Q U := by
    obtain ⟨g1, g2, g3, g4, g5, g6⟩ := hA
    have r : ∀ d, d ≤ 2 → (setT M1 (s0 + 4) a) (s1 + 17 + d) = M (s1 + 17 + d) := fun d hd => by rw [s2 _ (by omega), F1 _ (by omega)]
    have r0 : (setT M1 (s0 + 4) a) (s1 + 17) = M (s1 + 17) := r 0 (by omega)
    exact ⟨by rw [r0]; exact g1, g2, fun i hi => by rw [r 1 (by omega)]; exact g3 i hi, by rw [r0]; exact g4, g5, fun i hi => by rw [r 2 (by omega)]; exact g6 i hi⟩
  have f3 : ∀ c, c < s0 + 17 → M3 c = (setT M1 (s0 + 4) a) c := fun c hc => F3 c (by omega) (by omega) (by omega)
  refine ⟨M3, rfl, ⟨?_, ?_, ?_, ?_, hau2, hn, A3 a Q U hQ hA1, hnC⟩, fun j hj => ?_, fun c hc => ?_⟩
  · exact rv_a (R1 _ _ hR) (by rw [f3 _ (by omega), s2 _ (by omega)]) (by rw [f3 _ (by omega), s2 _ (by omega)]) (fun _ _ _ => rfl)
  · exact (C1 _ _ _ _ _ h28 hC).of (fun c h1 h2 => by rw [f3 _ (by omega), s2 _ (by omega)]) (fun _ _ _ => rfl) h28
  · have t3 : setT M1 (s0 + 4) a = setT (setT M1 (s0 + 4) a) (s0 + 4) a := (setT_setT _ _ _ _).symm
    exact setT_of t3 (fun c h1 h2 => f3 c (by omega))
  · rw [f3 _ (by omega), s2 _ (by omega), a1]; exact hau
  · rw [f3 _ (by omega), s2 _ (by omega)]; exact d1 j hj
  · rw [F3 c (by omega) (by omega) (by omega), s2 _ (by omega), F1 _ (by omega)]
