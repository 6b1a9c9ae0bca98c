/-! ===== the class copies a state ===== -/
theorem x_copyV {M : Mem} {t0 t1 : Nat} (h : t0 + 2 < t1 ∨ t1 + 2 < t0) : ∃ M2, f_X8_copyFrom t0 t1 M = some (0, M2) ∧ (∀ j, j < 1024 → M2 (t0 + 1) j = M (t1 + 1) j) ∧ (∀ j, j < 256 → M2 (t0 + 2) j = M (t1 + 2) j) ∧ ∀ c, c ≠ t0 + 1 → c ≠ t0 + 2 → M2 c = M c := by
  unfold f_X8_copyFrom
  rw [wrt_def, wrt_def]
  refine ⟨_, rfl, fun j hj => ?_, fun j hj => ?_, fun c c1 c2 => ?_⟩
  · rw [cpy_ne _ _ _ _ (by omega), cpy_eq _ _ _ (n := 1024) rfl, if_pos hj]
  · rw [cpy_eq _ _ _ (n := 256) rfl, if_pos hj, cpy_ne _ _ _ _ (by omega)]
  · rw [cpy_ne _ _ _ _ c2, cpy_ne _ _ _ _ c1]
theorem RV.move {nc : Nat} {M M2 : Mem} {v v2 : Nat} {a : Nat → Int32} (h : RV nc M v a) (h1 : ∀ j, j < 1024 → M2 (v2 + 1) j = M (v + 1) j) (h2 : ∀ j, j < 256 → M2 (v2 + 2) j = M (v + 2) j) : RV nc M2 v2 a :=
  ⟨fun i hi hn => by rw [h1 i hi]; exact h.1 i hi hn, fun i hi hn => by rw [h2 i hi]; exact h.2 i hi hn⟩
theorem x_copyVals {M : Mem} {s0 s1 : Nat} (h : s0 + 19 < s1 ∨ s1 + 19 < s0) (hd : ∀ j, j < 8 → isB (M (s1 + 14) j)) (hb : isB (M s1 4)) : ∃ M2, f_X5_copyValuesFrom s0 s1 M = some (0, M2) ∧ (∀ nc a, RV nc M (s1 + 1) a → RV nc M2 (s0 + 1) a) ∧ (∀ nc a n l T, nc ≤ 8 → RC nc M (s1 + 1 + 11) a n l T → RC nc M2 (s0 + 1 + 11) a n l T) ∧ M2 s0 4 = M s1 4 ∧ (∀ j, j < 8 → isB (M2 (s0 + 14) j)) ∧ ∀ c, (c < s0 ∨ (s0 + 3 < c ∧ c < s0 + 12) ∨ s0 + 16 < c) → M2 c = M c := by
  unfold f_X5_copyValuesFrom
  obtain ⟨M1, x1, v1, v2, F1⟩ := x_copyV (M := M) (t0 := s0 + 1) (t1 := s1 + 1) (by omega)
  rw [x1, bnd_some]
  obtain ⟨M2, x2, c1, c2, c4, c5, c6, F2⟩ := x_copyC (M := M1) (t0 := s0 + 12) (t1 := s1 + 12) (by omega) (fun j hj => by rw [F1 _ (by omega) (by omega)]; exact hd j hj)
  rw [x2, bnd_some]
  have e4 : M2 s1 4 = M s1 4 := by rw [F2 _ (by omega), F1 _ (by omega) (by omega)]
  rw [e4, if_pos hb, wrt_def]
  have k : ∀ d, (up M2 s0 4 (M s1 4)) (s0 + 12 + d) = M2 (s0 + 12 + d) := fun d => up_a _ _ _ (by omega)
  have k0 : (up M2 s0 4 (M s1 4)) (s0 + 12) = M2 (s0 + 12) := up_a _ _ _ (by omega)
  have f1 : ∀ d, d ≤ 4 → M1 (s1 + 12 + d) = M (s1 + 12 + d) := fun d hd => F1 _ (by omega) (by omega)
  have f10 : M1 (s1 + 12) = M (s1 + 12) := F1 _ (by omega) (by omega)
  refine ⟨_, rfl, fun nc a hR => hR.move (fun j hj => ?_) (fun j hj => ?_), fun nc a n l T hnc hC => ?_, up_eq _ _ _ _, fun j hj => ?_, fun c hc => ?_⟩
  · rw [up_a _ _ _ (by omega), F2 _ (by omega)]; exact v1 j hj
  · rw [up_a _ _ _ (by omega), F2 _ (by omega)]; exact v2 j hj
  · have hC' : RC nc M (s1 + 12) a n l T := hC
    have : RC nc (up M2 s0 4 (M s1 4)) (s0 + 12) a n l T := hC'.move hnc (fun j hj => by rw [k 1, k 2, k 3, ← f1 1 (by omega), ← f1 2 (by omega), ← f1 3 (by omega)]; exact c1 j hj) (fun j hj => by rw [k 4, ← f1 4 (by omega)]; exact c2 j hj) (by rw [k0, c4, f10]) (by rw [k0, c5, f10]) (by rw [k0, c6, f10])
    exact this
  · have e := (c1 j hj).2.1
    have e2 : (up M2 s0 4 (M s1 4)) (s0 + 14) j = M (s1 + 14) j := by
      rw [up_a _ _ _ (by omega)]
      exact e.trans (by rw [f1 2 (by omega)])
    rw [e2]; exact hd j hj
  · rw [up_a _ _ _ (by omega), F2 _ (by omega), F1 _ (by omega) (by omega)]
