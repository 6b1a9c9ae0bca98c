/-! ===== the reference's refusals ===== -/
theorem m_mayT {M : Mem} {x y : Int32} (h : M 0 0 = 0) (hx : ¬ x = 0) : f_X10_may x y M = some (1, M) := by
  unfold f_X10_may
  rw [if_pos hx]
  unfold j_X10_may_16
  simp [h]
theorem m_mayF {M : Mem} {y : Int32} (h : M 0 0 = 0) (hy : ¬ y = 0) : f_X10_may 0 y M = some (0, up M 0 0 y) := by
  unfold f_X10_may
  rw [if_neg (fun z => z rfl), if_neg (fun z => z h), wrt_def]
  unfold j_X10_may_16
  simp [up_eq, hy]
theorem m_isIn_T {x : Int32} {lo hi : Int32} (h1 : lo ≤ x) (h2 : x ≤ hi) : p_X10_isIn x lo hi = 1 := by
  unfold p_X10_isIn
  rw [if_neg (i32_nlt.mpr h1), if_neg (i32_nlt.mpr h2)]
theorem m_isIn_F {x : Int32} {lo hi : Int32} (h : ¬ (lo ≤ x ∧ x ≤ hi)) : p_X10_isIn x lo hi = 0 := by
  unfold p_X10_isIn
  by_cases q : x < lo
  · rw [if_pos q]
  · rw [if_neg q, if_pos (i32_nle.mp (fun z => h ⟨i32_nlt.mp q, z⟩))]
