/-! ===== utilization: both divide the same two numbers ===== -/
theorem s_util {m : Nat} {Mx Mm : Mem} (h : Inv m Mx Mm) (x : Int32) : ∃ M1, up Mm 0 0 0 = M1 ∧ M1 0 0 = 0 ∧ Inv m Mx M1 ∧ ((∃ b F, b < 8 ∧ x = nI b ∧ F < 2147483648 ∧ f_X9_requireBank x Mx = some (rOk 0, Mx) ∧ p_X10_isBank x M1 = 1 ∧ f_X9_finish Mx = some (nI F, Mx) ∧ f_X10_ends M1 = some (nI F, M1) ∧ Mx 44 b = M1 1 (152 + b)) ∨ (f_X9_requireBank x Mx = some (rEx eIO, Mx) ∧ p_X10_isBank x M1 = 0)) := by
  obtain ⟨M1, e1, t0, hI⟩ := inv_0 h
  obtain ⟨pr, nB, hP, hS, -⟩ := id hI
  refine ⟨M1, e1, t0, hI, ?_⟩
  by_cases hx : okN x (ix (M1 5 0))
  · obtain ⟨b, hb, e⟩ := id hx
    have h0 := hP.n0
    have hT := hS.tm
    have xl := x_latest Mx 37 (M1 1) 255
    rw [← hT.2.2.2.2.2] at xl
    obtain ⟨-, -, -, -, -, -, -, hZ, -⟩ := hS
    obtain ⟨q1, q2⟩ := nn_ix (x := spLat (ix (M1 5 0)) 255 (M1 1)) (Int32.not_lt.mpr (spLat_nn _ _ _))
    refine Or.inl ⟨b, ix (spLat (ix (M1 5 0)) 255 (M1 1)), by omega, e, q2, rqBk_T hP hx, mBk_T hP hx, ?_, ?_, hT.2.2.2.2.1 b (by omega)⟩
    · unfold f_X9_finish
      rw [xl, bnd_some, spLat_z hP.n0.2 hZ, ← q1]
    · rw [m_ends hP.ws.1 hP.n0.2, ← q1]
  · exact Or.inr ⟨rqBk_F hP hx, mBk_F hP hx⟩
