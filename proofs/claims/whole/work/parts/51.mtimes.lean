/-! ===== the times, as the reference computes them: its array a (cell 1), its program p (cell 5) ===== -/
/-- the latest of clocks and ready times of the banks below n that are in s -/
def spLat (n : Nat) (s : Int32) (a : Nat → Int32) : Int32 := foldN (fun b v => if bit s b then foldN (fun r v => mx v (a (8 + 4 * b + r))) 4 (mx v (a b)) else v) n 0
theorem m_latest {M : Mem} {nb : Nat} (hp : M 5 0 = nI nb) (hb : nb ≤ 8) (s : Int32) : f_X10_latest s M = some (spLat nb s (M 1), M) := by
  unfold f_X10_latest
  refine loop_run nb (fun i => (foldN (fun b v => if bit s b then foldN (fun r v => mx v (M 1 (8 + 4 * b + r))) 4 (mx v (M 1 b)) else v) i 0, nI i, M)) rfl (by omega) (fun i hi K => ?_) (fun K => ?_)
  · simp only [l_X10_latest_4]
    rw [if_neg (by rw [hp]; exact nI_ge hi (by omega))]
    by_cases h : bit s i = true
    · rw [if_pos (has_t h), zadd, if_pos (of_eq_true (inb_T (by omega) (by omega))), ix_nI (by omega), great_mx]
      refine loop_run 4 (fun r => (foldN (fun r v => mx v (M 1 (8 + 4 * i + r))) r (mx (foldN (fun b v => if bit s b then foldN (fun r v => mx v (M 1 (8 + 4 * b + r))) 4 (mx v (M 1 b)) else v) i 0) (M 1 i)), nI r, M)) rfl (by omega) (fun r hr K2 => ?_) (fun K2 => ?_)
      · simp only [l_X10_latest_41]
        rw [if_neg (by rw [n4]; exact nI_ge hr (by omega)), m_readyOf M (by omega) hr, bnd_some, great_mx, nI_1, foldN_s]
      · simp only [l_X10_latest_41, j_X10_latest_65]
        rw [if_pos (by rw [n4]; exact nI_le (Nat.le_refl 4) (by omega)), nI_1, foldN_s _ i, if_pos h]
    · rw [if_neg (has_f h)]
      simp only [j_X10_latest_65]
      rw [nI_1, foldN_s, if_neg h]
  · simp only [l_X10_latest_4]
    rw [if_pos (by rw [hp]; exact nI_le (Nat.le_refl nb) (by omega))]
    rfl
theorem m_ends {M : Mem} {nb : Nat} (hp : M 5 0 = nI nb) (hb : nb ≤ 8) : f_X10_ends M = some (spLat nb 255 (M 1), M) := by
  unfold f_X10_ends
  rw [m_latest hp hb, bnd_some]
/-- the lowest bank of a set that isn't empty -/
theorem m_lowest (M : Mem) {s : Int32} {q : Nat} (hq : q < 8) (h1 : bit s q = true) (h2 : ∀ i, i < q → ¬ bit s i = true) : f_X10_lowest s M = some (nI q, M) := by
  unfold f_X10_lowest
  refine loop_run q (fun i => (nI i, M)) rfl (by omega) (fun i hi K => ?_) (fun K => ?_)
  · simp only [l_X10_lowest_2]
    rw [if_neg (has_f (h2 i hi)), nI_1]
  · simp only [l_X10_lowest_2]
    rw [if_pos (has_t h1)]
/-- how often one halves -/
def halv (n : Nat) : Nat := if n ≤ 1 then 0 else if n ≤ 2 then 1 else if n ≤ 4 then 2 else 3
theorem m_halvings (M : Mem) {n : Nat} (hn : n ≤ 8) : f_X10_halvings (nI n) M = some (nI (halv n), M) := by
  unfold f_X10_halvings
  have sh : ∀ i, i < 4 → (1 : Int32) <<< (nI i &&& 31) = nI (2 ^ i) := by decide
  have hv : halv n < 4 := by unfold halv; split <;> (try split) <;> (try split) <;> omega
  have hlo : ∀ i, i < halv n → 2 ^ i < n := by
    have h9 : ∀ n, n ≤ 8 → ∀ i, i < halv n → 2 ^ i < n := by decide
    exact h9 n hn
  have hhi : n ≤ 2 ^ halv n := by
    have h9 : ∀ n, n ≤ 8 → n ≤ 2 ^ halv n := by decide
    exact h9 n hn
  refine loop_run (halv n) (fun i => (nI i, M)) rfl (by omega) (fun i hi K => ?_) (fun K => ?_)
  · simp only [l_X10_halvings_2]
    rw [sh i (by omega), if_neg (nI_ge (hlo i hi) (by omega)), nI_1]
  · simp only [l_X10_halvings_2]
    have h8 : 2 ^ halv n ≤ 8 := by
      rcases (show halv n = 0 ∨ halv n = 1 ∨ halv n = 2 ∨ halv n = 3 by omega) with e | e | e | e <;> rw [e] <;> decide
    rw [sh _ hv, if_pos (nI_le hhi (by omega))]
/-- how many banks are in a set -/
def bitsN (s : Int32) : Nat := foldN (fun b n => if bit s b then n + 1 else n) 8 0
theorem m_bits (M : Mem) (s : Int32) : f_X10_bits s M = some (nI (bitsN s), M) := by
  unfold f_X10_bits
  refine loop_run 8 (fun i => (nI (foldN (fun b n => if bit s b then n + 1 else n) i 0), nI i, M)) rfl (by omega) (fun i hi K => ?_) (fun K => ?_)
  · simp only [l_X10_bits_4]
    rw [if_neg (by rw [n8]; exact nI_ge hi (by omega)), nI_1, foldN_s]
    by_cases h : bit s i = true
    · rw [if_pos h]
      rw [bit_1 h, n1, nI_add]
    · rw [if_neg h]
      rw [bit_0 h, n0, nI_add, Nat.add_zero]
  · simp only [l_X10_bits_4]
    rw [if_pos (by decide)]
    rfl
theorem bitsN_le (s : Int32) : bitsN s ≤ 8 := by
  have key : ∀ n, foldN (fun b n => if bit s b then n + 1 else n) n 0 ≤ n := by
    intro n
    induction n with
    | zero => exact Nat.le_refl 0
    | succ n ih => rw [foldN_s]; split <;> omega
  exact key 8
/-! activation -/
/-- the start of the activation k before the next one -/
def spStart (a : Nat → Int32) (b k : Nat) : Int32 := a (56 + 8 * b + (ix (a (48 + b)) - k) % 8)
/-- when an activation that is wanted at t starts -/
def spU (p a : Nat → Int32) (b : Nat) (t : Int32) : Int32 := if p 9 ≤ a (48 + b) then mx t (spStart a b (ix (p 9)) + p 10) else t
/-- what an activation changes -/
def spAct (p a : Nat → Int32) (b : Nat) (row t : Int32) : Nat → Int32 :=
  upd (upd (upd (upd (upd a (120 + 4 * b + 1) (a (120 + 4 * b + 1) + p 3)) (120 + 4 * b + 2) (a (120 + 4 * b + 2) + (spU p a b t - t))) (56 + 8 * b + ix (a (48 + b)) % 8) (spU p a b t)) (48 + b) (a (48 + b) + 1)) (40 + b) (row + 1)
theorem m_act47 {M : Mem} {b : Nat} (hb : b < 8) (row t w : Int32) (e1 : M 1 (48 + b) = nI (ix (M 1 (48 + b)))) (l1 : ix (M 1 (48 + b)) < 2147483648) : j_X10_activates_47 (nI b) row t w M = some (w + M 5 3, upA M 1 (upd (upd (upd (upd (upd (M 1) (120 + 4 * b + 1) (M 1 (120 + 4 * b + 1) + M 5 3)) (120 + 4 * b + 2) (M 1 (120 + 4 * b + 2) + (w - t))) (56 + 8 * b + ix (M 1 (48 + b)) % 8) w) (48 + b) (M 1 (48 + b) + 1)) (40 + b) (row + 1))) := by
  have m8 : ix (M 1 (48 + b)) % 8 < 8 := Nat.mod_lt _ (by omega)
  have er : jrem (M 1 (48 + b)) 8 = nI (ix (M 1 (48 + b)) % 8) := by
    rw [e1, ix_nI l1]; exact rem_nI (d := 8) l1 (by decide) (by decide)
  unfold j_X10_activates_47
  have s1 := fun (M : Mem) (x : Int32) => m_stalls M (b := b) (k := 1) x hb (by omega)
  have s2 := fun (M : Mem) (x : Int32) => m_stalls M (b := b) (k := 2) x hb (by omega)
  rw [← n1] at s1
  rw [← n2] at s2
  simp (disch := first | omega | decide) only [la, lm, ra, rm_, rs, ss, rr, rd, nI_add, pk_mul, zadd, Nat.zero_add, Nat.add_zero, ix_nI, inb_T, inb_F, le_T, le_F, lt_T, lt_F, lle_T, lle_F, rle_T, rle_F, llt_T, llt_F, rlt_T, rlt_F, eq_n, if_true, if_false, not_true_eq_false, not_false_eq_true, wrt_def, bnd_some, up_as, upA_upA, upA_eq, upA_ne, up_upA, upd_eq, upd_ne, s1, s2, er]
theorem m_activates {M : Mem} {b : Nat} (hb : b < 8) (hn : ¬ M 1 (48 + b) < 0) (h9 : ¬ M 5 9 < 0) (row t : Int32) : f_X10_activates (nI b) row t M = some (spU (M 5) (M 1) b t + M 5 3, upA M 1 (spAct (M 5) (M 1) b row t)) := by
  obtain ⟨e1, l1⟩ := nn_ix hn
  obtain ⟨e9, l9⟩ := nn_ix h9
  unfold f_X10_activates
  simp (disch := first | omega | decide) only [la, lm, ra, rm_, rs, ss, rr, rd, nI_add, pk_mul, zadd, Nat.zero_add, Nat.add_zero, ix_nI, inb_T, inb_F, le_T, le_F, lt_T, lt_F, lle_T, lle_F, rle_T, rle_F, llt_T, llt_F, rlt_T, rlt_F, eq_n, if_true, if_false, not_true_eq_false, not_false_eq_true, wrt_def, bnd_some, up_as, upA_upA, upA_eq, upA_ne, up_upA, upd_eq, upd_ne]
  unfold spAct spU
  by_cases h : M 5 9 ≤ M 1 (48 + b)
  · rw [if_pos h, if_pos h]
    have hle : ix (M 5 9) ≤ ix (M 1 (48 + b)) := by
      rw [e1, e9] at h
      exact (nI_leI l9 l1).mp h
    have m8 : (ix (M 1 (48 + b)) - ix (M 5 9)) % 8 < 8 := Nat.mod_lt _ (by omega)
    have er : jrem (M 1 (48 + b) - M 5 9) 8 = nI ((ix (M 1 (48 + b)) - ix (M 5 9)) % 8) := by
      have e2 : M 1 (48 + b) - M 5 9 = nI (ix (M 1 (48 + b)) - ix (M 5 9)) := by
        conv => lhs; rw [e1, e9]
        exact ss hle
      rw [e2]
      exact rem_nI (d := 8) (by omega) (by decide) (by decide)
    have es : f_X10_startOf (nI b) (M 5 9) M = some (spStart (M 1) b (ix (M 5 9)), M) := by
      unfold f_X10_startOf
      simp (disch := first | omega | decide) only [la, lm, ra, rm_, rs, ss, rr, rd, nI_add, pk_mul, zadd, Nat.zero_add, Nat.add_zero, ix_nI, inb_T, inb_F, le_T, le_F, lt_T, lt_F, lle_T, lle_F, rle_T, rle_F, llt_T, llt_F, rlt_T, rlt_F, eq_n, if_true, if_false, not_true_eq_false, not_false_eq_true, wrt_def, bnd_some, up_as, upA_upA, upA_eq, upA_ne, up_upA, upd_eq, upd_ne, er]
      rfl
    rw [es, bnd_some, great_mx]
    exact m_act47 hb row t _ e1 l1
  · rw [if_neg h, if_neg h]
    exact m_act47 hb row t _ e1 l1
