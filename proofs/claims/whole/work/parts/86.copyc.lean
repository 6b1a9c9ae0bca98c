/-! ===== the class copies a cache ===== -/
def ov (f g : Nat → Int32) (n : Nat) : Nat → Int32 := fun i => if i < n then g i else f i
theorem ov_s (f g : Nat → Int32) (n : Nat) : upd (ov f g n) n (g n) = ov f g (n + 1) := by
  funext i
  unfold ov
  by_cases q : i = n
  · subst q; rw [upd_eq, if_pos (by omega)]
  · rw [upd_ne _ _ q]
    by_cases y : i < n
    · rw [if_pos y, if_pos (by omega)]
    · rw [if_neg y, if_neg (by omega)]
theorem ov_0 (f g : Nat → Int32) : ov f g 0 = f := by funext i; unfold ov; rw [if_neg (by omega)]
/-- rows 1 to 3 of the cache t0 are those of t1, below j -/
def cpC (M : Mem) (t0 t1 j : Nat) : Mem := upA (upA (upA M (t0 + 1) (ov (M (t0 + 1)) (M (t1 + 1)) j)) (t0 + 2) (ov (M (t0 + 2)) (M (t1 + 2)) j)) (t0 + 3) (ov (M (t0 + 3)) (M (t1 + 3)) j)
theorem cpC_ne (M : Mem) {t0 t1 j c : Nat} (h : c < t0 + 1 ∨ t0 + 3 < c) : cpC M t0 t1 j c = M c := by
  unfold cpC
  rw [upA_ne _ _ (by omega), upA_ne _ _ (by omega), upA_ne _ _ (by omega)]
theorem cpC_1 (M : Mem) (t0 t1 j : Nat) : cpC M t0 t1 j (t0 + 1) = ov (M (t0 + 1)) (M (t1 + 1)) j := by
  unfold cpC
  rw [upA_ne _ _ (by omega), upA_ne _ _ (by omega), upA_eq]
theorem cpC_2 (M : Mem) (t0 t1 j : Nat) : cpC M t0 t1 j (t0 + 2) = ov (M (t0 + 2)) (M (t1 + 2)) j := by
  unfold cpC
  rw [upA_ne _ _ (by omega), upA_eq]
theorem cpC_3 (M : Mem) (t0 t1 j : Nat) : cpC M t0 t1 j (t0 + 3) = ov (M (t0 + 3)) (M (t1 + 3)) j := by
  unfold cpC
  rw [upA_eq]
theorem cpC_s (M : Mem) (t0 t1 j : Nat) : up (up (up (cpC M t0 t1 j) (t0 + 1) j (M (t1 + 1) j)) (t0 + 2) j (M (t1 + 2) j)) (t0 + 3) j (M (t1 + 3) j) = cpC M t0 t1 (j + 1) := by
  funext c
  by_cases c1 : c = t0 + 1
  · subst c1; rw [up_a _ _ _ (by omega), up_a _ _ _ (by omega), up_row, cpC_1, ov_s, cpC_1]
  · by_cases c2 : c = t0 + 2
    · subst c2; rw [up_a _ _ _ (by omega), up_row, up_a _ _ _ (by omega), cpC_2, ov_s, cpC_2]
    · by_cases c3 : c = t0 + 3
      · subst c3; rw [up_row, up_a _ _ _ (by omega), up_a _ _ _ (by omega), cpC_3, ov_s, cpC_3]
      · rw [up_a _ _ _ c3, up_a _ _ _ c2, up_a _ _ _ c1, cpC_ne _ (by omega), cpC_ne _ (by omega)]
theorem cpC_0 (M : Mem) (t0 t1 : Nat) : cpC M t0 t1 0 = M := by
  unfold cpC
  rw [ov_0, ov_0, ov_0, upA_self]
  have h2 := upA_self M (t0 + 2)
  rw [h2, upA_self]
theorem x_copyC {M : Mem} {t0 t1 : Nat} (h : t0 + 4 < t1 ∨ t1 + 4 < t0) (hd : ∀ j, j < 8 → isB (M (t1 + 2) j)) : ∃ M2, f_X1_copyFrom t0 t1 M = some (0, M2) ∧ (∀ j, j < 8 → M2 (t0 + 1) j = M (t1 + 1) j ∧ M2 (t0 + 2) j = M (t1 + 2) j ∧ M2 (t0 + 3) j = M (t1 + 3) j) ∧ (∀ j, j < 64 → M2 (t0 + 4) j = M (t1 + 4) j) ∧ M2 t0 4 = M t1 4 ∧ M2 t0 5 = M t1 5 ∧ M2 t0 6 = M t1 6 ∧ ∀ c, c < t0 ∨ t0 + 4 < c → M2 c = M c := by
  have sr : ∀ j k, k ≤ 4 → cpC M t0 t1 j (t1 + k) = M (t1 + k) := fun j k hk => cpC_ne _ (by omega)
  have s0 : ∀ j, cpC M t0 t1 j t1 = M t1 := fun j => cpC_ne _ (by omega)
  have key : f_X1_copyFrom t0 t1 M = some (0, up (up (up (cpy (cpC M t0 t1 8) (t1 + 4) 0 (t0 + 4) 0 64) t0 4 (M t1 4)) t0 5 (M t1 5)) t0 6 (M t1 6)) := by
    unfold f_X1_copyFrom
    refine loop_run 8 (fun j => (nI j, cpC M t0 t1 j)) (by rw [cpC_0]; rfl) (by omega) (fun j hj K => ?_) (fun K => ?_)
    · simp only [l_X1_copyFrom_2]
      have hin := inb_T hj (show 8 < 2147483648 by decide)
      have hix : ix (nI j) = j := ix_nI (by omega)
      rw [if_neg (show ¬ (8 : Int32) ≤ nI j from nI_ge (b := 8) hj (by decide))]
      have a2 : (up (cpC M t0 t1 j) (t0 + 1) j (M (t1 + 1) j)) (t1 + 2) = M (t1 + 2) := by rw [up_a _ _ _ (by omega)]; exact sr j 2 (by omega)
      have a3 : (up (up (cpC M t0 t1 j) (t0 + 1) j (M (t1 + 1) j)) (t0 + 2) j (M (t1 + 2) j)) (t1 + 3) = M (t1 + 3) := by rw [up_a _ _ _ (by omega), up_a _ _ _ (by omega)]; exact sr j 3 (by omega)
      simp only [↓reduceIte, hin, hix, wrt_def, sr j 1 (by omega), a2, a3]
      rw [if_pos (hd j hj), cpC_s, nI_1]
    · simp only [l_X1_copyFrom_2]
      rw [if_pos (show (8 : Int32) ≤ nI 8 from nI_le (a := 8) (Nat.le_refl 8) (by decide)), wrt_def, wrt_def, wrt_def, wrt_def]
      have b0 : (cpy (cpC M t0 t1 8) (t1 + 4) 0 (t0 + 4) 0 64) t1 = M t1 := by rw [cpy_ne _ _ _ _ (by omega)]; exact s0 8
      have b1 : ∀ x, (up (cpy (cpC M t0 t1 8) (t1 + 4) 0 (t0 + 4) 0 64) t0 4 x) t1 = M t1 := fun x => by rw [up_a _ _ _ (by omega)]; exact b0
      have b2 : ∀ x y, (up (up (cpy (cpC M t0 t1 8) (t1 + 4) 0 (t0 + 4) 0 64) t0 4 x) t0 5 y) t1 = M t1 := fun x y => by rw [up_a _ _ _ (by omega)]; exact b1 x
      rw [b0, b1, b2]
  refine ⟨_, key, fun j hj => ⟨?_, ?_, ?_⟩, fun j hj => ?_, ?_, ?_, ?_, fun c hc => ?_⟩
  · rw [up_a _ _ _ (by omega), up_a _ _ _ (by omega), up_a _ _ _ (by omega), cpy_ne _ _ _ _ (by omega), cpC_1]; unfold ov; rw [if_pos hj]
  · rw [up_a _ _ _ (by omega), up_a _ _ _ (by omega), up_a _ _ _ (by omega), cpy_ne _ _ _ _ (by omega), cpC_2]; unfold ov; rw [if_pos hj]
  · rw [up_a _ _ _ (by omega), up_a _ _ _ (by omega), up_a _ _ _ (by omega), cpy_ne _ _ _ _ (by omega), cpC_3]; unfold ov; rw [if_pos hj]
  · rw [up_a _ _ _ (by omega), up_a _ _ _ (by omega), up_a _ _ _ (by omega), cpy_eq _ _ _ (n := 64) rfl, if_pos hj, sr 8 4 (by omega)]
  · rw [up_i _ _ (by decide), up_i _ _ (by decide), up_eq]
  · rw [up_i _ _ (by decide), up_eq]
  · rw [up_eq]
  · rw [up_a _ _ _ (by omega), up_a _ _ _ (by omega), up_a _ _ _ (by omega), cpy_ne _ _ _ _ (by omega), cpC_ne _ (by omega)]
theorem RC.move {nc : Nat} {M M2 : Mem} {q q2 : Nat} {a : Nat → Int32} {n : Nat} {l : Nat → Nat} {T : Nat} (h : RC nc M q a n l T) (hnc : nc ≤ 8) (h1 : ∀ j, j < 8 → M2 (q2 + 1) j = M (q + 1) j ∧ M2 (q2 + 2) j = M (q + 2) j ∧ M2 (q2 + 3) j = M (q + 3) j) (h2 : ∀ j, j < 64 → M2 (q2 + 4) j = M (q + 4) j) (h4 : M2 q2 4 = M q 4) (h5 : M2 q2 5 = M q 5) (h6 : M2 q2 6 = M q 6) : RC nc M2 q2 a n l T := by
  have hl := h.l8
  refine ⟨h.cnt, h.n8, h.l8, fun i hi => ?_, fun i j hi hj => ?_, fun i hi => ?_, fun j hj hz => ?_, fun i j hi hj => ?_, by rw [h4]; exact h.hit, by rw [h5]; exact h.mis, by rw [h6]; exact h.wrb, h.sum⟩
  · obtain ⟨b, r, hb, hr, hL, f1, f2, fd, fw⟩ := h.line i hi
    have := hl i hi
    exact ⟨b, r, hb, hr, hL, by rw [(h1 _ this).1]; exact f1, by rw [(h1 _ this).2.1]; exact f2, fd, fun k hk => by rw [h2 _ (by omega)]; exact fw k hk⟩
  · rw [(h1 _ (hl i (by omega))).2.2, (h1 _ (hl j hj)).2.2]; exact h.ord i j hi hj
  · rw [(h1 _ (hl i hi)).2.2]; exact h.top i hi
  · rw [(h1 _ hj).1] at hz; exact h.cov j hj hz
  · rw [(h1 _ (hl i (by omega))).1, (h1 _ (hl j hj)).1]; exact h.dist i j hi hj
