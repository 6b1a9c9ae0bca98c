/-! ===== a batch's times, as the class computes them ===== -/
def vbN (k : Nat) : Nat := if k = 0 then 9 else if k = 1 then 10 else if k = 2 then 11 else if k = 3 then 34 else if k = 4 then 8 else if k = 5 then 12 else if k = 6 then 13 else 14
/-- the delay that the class keeps of a command of a batch of the banks s -/
def dlN (p : Nat → Int32) (s : Int32) (c : Nat) : Int32 := if kdN p c = 4 then nI (halv (bitsN s)) * p 7 else if kdN p c = 6 then p 8 else if kdN p c = 7 then 0 else spBy p c
/-- the class's command c is the reference's -/
def PCm (M : Mem) (pr : Nat) (p : Nat → Int32) (s : Int32) (c : Nat) : Prop := M (pr + 5) c = nI (vbN (kdN p c)) ∧ (kdN p c ≠ 7 → M (pr + 7) c = nI (rgN p c)) ∧ (kdN p c ≤ 3 → M (pr + 8) c = p (50 + 4 * c + 2)) ∧ (kdN p c = 3 → M (pr + 9) c = p (50 + 4 * c + 3)) ∧ M (pr + 10) c = dlN p s c ∧ (kdN p c = 3 ∨ kdN p c = 4 ∨ kdN p c = 5 → M (pr + 6) c = nI (15 + wyN p c))
theorem sub1 {x y : Int32} : (x - 1 = y) ↔ x = y + 1 := by
  constructor
  · intro h; rw [← h, Int32.sub_add_cancel]
  · intro h; rw [h, x11]
theorem x_beginOf {M : Mem} {t pr : Nat} {p a : Nat → Int32} {s : Int32} {b c : Nat} (hpr : pr + 12 ≤ t) (hb : b < 8) (hc : c < 60) (h : WFc p c) (hx : PCm M pr p s c) (hk : kdN p c ≠ 4 ∧ kdN p c ≠ 6 ∧ kdN p c ≠ 7) : f_X6_beginOf t pr (nI c) (nI b) (setT M t a) = some (spT p a b c, setT M t a) := by
  have hr := h.2.2.2.1
  have hkl := kd_lt p c
  obtain ⟨e5, e7, e8, e9, -⟩ := hx
  have e7 := e7 hk.2.2
  unfold f_X6_beginOf spT
  by_cases q : kdN p c = 3
  · obtain ⟨q2, q2l, q3, q3l⟩ := h.2.2.2.2.1 q
    have e8 := e8 (by omega)
    have e9 := e9 q
    rw [q2] at e8
    rw [q3] at e9
    rw [q] at e5
    change _ = nI 34 at e5
    rw [if_pos q]
    simp (disch := first | omega | decide) only [la, lm, ra, rm_, rs, ss, rr, rd, nI_add, pk_mul, zadd, Nat.zero_add, Nat.add_zero, ix_nI, inb_T, inb_F, le_T, le_F, lt_T, lt_F, lle_T, lle_F, rle_T, rle_F, llt_T, llt_F, rlt_T, rlt_F, eq_n, if_true, if_false, not_true_eq_false, not_false_eq_true, wrt_def, bnd_some, upd_eq, upd_ne, sT1, sT2, sT3, sT4, sT5, sT6, sT6z, sT7, sTn, uT1, uT2, uT3, uT4, uT5, uT6, uT6z, uT7, e5, e7, e8, e9, imax_mx, j_X6_beginOf_83, mx_assoc]
  · rw [if_neg q]
    have ev : vbN (kdN p c) < 34 := by
      rcases (show kdN p c = 0 ∨ kdN p c = 1 ∨ kdN p c = 2 ∨ kdN p c = 5 by omega) with q | q | q | q <;> rw [q] <;> decide
    have ev2 : ¬ vbN (kdN p c) = 34 := by omega
    simp (disch := first | omega | decide) only [la, lm, ra, rm_, rs, ss, rr, rd, nI_add, pk_mul, zadd, Nat.zero_add, Nat.add_zero, ix_nI, inb_T, inb_F, le_T, le_F, lt_T, lt_F, lle_T, lle_F, rle_T, rle_F, llt_T, llt_F, rlt_T, rlt_F, eq_n, if_true, if_false, not_true_eq_false, not_false_eq_true, wrt_def, bnd_some, upd_eq, upd_ne, sT1, sT2, sT3, sT4, sT5, sT6, sT6z, sT7, sTn, uT1, uT2, uT3, uT4, uT5, uT6, uT6z, uT7, e5, e7, imax_mx, j_X6_beginOf_83, ev2]
theorem x_of96 {M : Mem} {t pr : Nat} {p a : Nat → Int32} {b : Nat} (hpr : pr + 12 ≤ t) (hb : b < 8) (e0 : M (pr + 1) 0 = p 3) (e1 : a (48 + b) = nI (ix (a (48 + b)))) (w row u : Int32) : j_X6_openFor_96 t pr (nI b) w row u (a (48 + b)) (setT M t a) = some (u + p 3, setT M t (upd (upd (upd (upd (upd a (120 + 4 * b + 1) (a (120 + 4 * b + 1) + p 3)) (120 + 4 * b + 2) (a (120 + 4 * b + 2) + (u - w))) (56 + 8 * b + ix (a (48 + b)) % 8) u) (48 + b) (a (48 + b) + 1)) (40 + b) (row + 1))) := by
  have m8 : ix (a (48 + b)) % 8 < 8 := Nat.mod_lt _ (by omega)
  have er : a (48 + b) &&& 7 = nI (ix (a (48 + b)) % 8) := by
    conv => lhs; rw [e1]
    exact pk_andN (m := 7) (by have := ix_lt (a (48 + b)); omega) 3 (by decide)
  unfold j_X6_openFor_96 p_X6_startPlace
  rw [er]
  generalize ix (a (48 + b)) % 8 = k at m8
  simp (disch := first | omega | decide) only [la, lm, ra, rm_, rs, ss, rr, rd, nI_add, pk_mul, zadd, Nat.zero_add, Nat.add_zero, ix_nI, inb_T, inb_F, le_T, le_F, lt_T, lt_F, lle_T, lle_F, rle_T, rle_F, llt_T, llt_F, rlt_T, rlt_F, eq_n, if_true, if_false, not_true_eq_false, not_false_eq_true, wrt_def, bnd_some, upd_eq, upd_ne, sT1, sT2, sT3, sT4, sT5, sT6, sT6z, sT7, sTn, uT1, uT2, uT3, uT4, uT5, uT6, uT6z, uT7, e0]
  rw [upd_comm _ _ _ (show 40 + b ≠ 120 + 4 * b + 1 by omega), upd_comm _ _ _ (show 40 + b ≠ 120 + 4 * b + 2 by omega), upd_comm _ _ _ (show 48 + b ≠ 120 + 4 * b + 1 by omega), upd_comm _ _ _ (show 48 + b ≠ 120 + 4 * b + 2 by omega), upd_comm _ _ _ (show 56 + 8 * b + k ≠ 120 + 4 * b + 1 by omega), upd_comm _ _ _ (show 56 + 8 * b + k ≠ 120 + 4 * b + 2 by omega)]
theorem x_openFor {M : Mem} {t pr : Nat} {p a : Nat → Int32} {s : Int32} {b c : Nat} (hpr : pr + 12 ≤ t) (hb : b < 8) (hc : c < 60) (hx : PCm M pr p s c) (e0 : M (pr + 1) 0 = p 3) (e6 : M (pr + 1) 6 = p 10) (e9 : p 9 = nI (ix (p 9))) (e1 : a (48 + b) = nI (ix (a (48 + b)))) (hk : kdN p c ≠ 4 ∧ kdN p c ≠ 6 ∧ kdN p c ≠ 7) (w : Int32) : f_X6_openFor t pr (nI c) (nI b) w (p 9) (setT M t a) = if kdN p c ≤ 1 ∧ ¬ a (40 + b) = p (50 + 4 * c + 2) + 1 then some (spU p a b w + p 3, setT M t (spAct p a b (p (50 + 4 * c + 2)) w)) else some (w, setT M t a) := by
  have hkl := kd_lt p c
  obtain ⟨e5, -, e8, -⟩ := hx
  unfold f_X6_openFor
  by_cases hk1 : kdN p c ≤ 1
  · have e8 := e8 (by omega)
    have key : j_X6_openFor_30 t pr (nI b) w (p 9) (p (50 + 4 * c + 2)) (setT M t a) = if kdN p c ≤ 1 ∧ ¬ a (40 + b) = p (50 + 4 * c + 2) + 1 then some (spU p a b w + p 3, setT M t (spAct p a b (p (50 + 4 * c + 2)) w)) else some (w, setT M t a) := by
      unfold j_X6_openFor_30
      simp (disch := first | omega | decide) only [la, lm, ra, rm_, rs, ss, rr, rd, nI_add, pk_mul, zadd, Nat.zero_add, Nat.add_zero, ix_nI, inb_T, inb_F, le_T, le_F, lt_T, lt_F, lle_T, lle_F, rle_T, rle_F, llt_T, llt_F, rlt_T, rlt_F, eq_n, if_true, if_false, not_true_eq_false, not_false_eq_true, wrt_def, bnd_some, upd_eq, upd_ne, sT1, sT2, sT3, sT4, sT5, sT6, sT6z, sT7, sTn, uT1, uT2, uT3, uT4, uT5, uT6, uT6z, uT7]
      by_cases q : a (40 + b) = p (50 + 4 * c + 2) + 1
      · rw [if_neg (fun z => z (sub1.mpr q)), if_neg (show ¬ (kdN p c ≤ 1 ∧ ¬ a (40 + b) = p (50 + 4 * c + 2) + 1) from fun z => z.2 q)]
        rfl
      · rw [if_pos (fun z => q (sub1.mp z)), if_pos (And.intro hk1 q)]
        unfold spU spAct spU
        by_cases q9 : p 9 ≤ a (48 + b)
        · rw [if_neg (i32_nlt.mpr q9), if_pos q9]
          have l9 := ix_lt (p 9)
          have l1 := ix_lt (a (48 + b))
          have hle : ix (p 9) ≤ ix (a (48 + b)) := by
            rw [e1, e9] at q9
            exact (nI_leI l9 l1).mp q9
          have m8 : (ix (a (48 + b)) - ix (p 9)) % 8 < 8 := Nat.mod_lt _ (by omega)
          have er : (a (48 + b) - p 9) &&& 7 = nI ((ix (a (48 + b)) - ix (p 9)) % 8) := by
            have e2 : a (48 + b) - p 9 = nI (ix (a (48 + b)) - ix (p 9)) := by
              conv => lhs; rw [e1, e9]
              exact ss hle
            rw [e2]
            exact pk_andN (m := 7) (by omega) 3 (by decide)
          have es : p_X6_startPlace (nI b) (a (48 + b) - p 9) = nI (b * 8 + (ix (a (48 + b)) - ix (p 9)) % 8) := by
            unfold p_X6_startPlace
            rw [er]
            simp (disch := first | omega | decide) only [la, lm, ra, rm_, rs, ss, rr, rd, nI_add, pk_mul, zadd, Nat.zero_add, Nat.add_zero, ix_nI, inb_T, inb_F, le_T, le_F, lt_T, lt_F, lle_T, lle_F, rle_T, rle_F, llt_T, llt_F, rlt_T, rlt_F, eq_n, if_true, if_false, not_true_eq_false, not_false_eq_true, wrt_def, bnd_some, upd_eq, upd_ne, sT1, sT2, sT3, sT4, sT5, sT6, sT6z, sT7, sTn, uT1, uT2, uT3, uT4, uT5, uT6, uT6z, uT7]
          rw [es]
          simp (disch := first | omega | decide) only [la, lm, ra, rm_, rs, ss, rr, rd, nI_add, pk_mul, zadd, Nat.zero_add, Nat.add_zero, ix_nI, inb_T, inb_F, le_T, le_F, lt_T, lt_F, lle_T, lle_F, rle_T, rle_F, llt_T, llt_F, rlt_T, rlt_F, eq_n, if_true, if_false, not_true_eq_false, not_false_eq_true, wrt_def, bnd_some, upd_eq, upd_ne, sT1, sT2, sT3, sT4, sT5, sT6, sT6z, sT7, sTn, uT1, uT2, uT3, uT4, uT5, uT6, uT6z, uT7, e6, imax_mx]
          exact x_of96 hpr hb e0 e1 w _ _
        · rw [if_pos (i32_nle.mp q9), if_neg q9]
          exact x_of96 hpr hb e0 e1 w _ _
    simp (disch := first | omega | decide) only [la, lm, ra, rm_, rs, ss, rr, rd, nI_add, pk_mul, zadd, Nat.zero_add, Nat.add_zero, ix_nI, inb_T, inb_F, le_T, le_F, lt_T, lt_F, lle_T, lle_F, rle_T, rle_F, llt_T, llt_F, rlt_T, rlt_F, eq_n, if_true, if_false, not_true_eq_false, not_false_eq_true, wrt_def, bnd_some, upd_eq, upd_ne, sT1, sT2, sT3, sT4, sT5, sT6, sT6z, sT7, sTn, uT1, uT2, uT3, uT4, uT5, uT6, uT6z, uT7, e5]
    rw [e8, key]
    rcases (show kdN p c = 0 ∨ kdN p c = 1 by omega) with z | z
    · have v : nI (vbN (kdN p c)) = 9 := by rw [z]; rfl
      rw [v, if_pos rfl]
    · have v : nI (vbN (kdN p c)) = 10 := by rw [z]; rfl
      rw [v, if_neg (by decide), if_neg (by decide)]
  · rw [if_neg (show ¬ (kdN p c ≤ 1 ∧ ¬ a (40 + b) = p (50 + 4 * c + 2) + 1) from fun z => hk1 z.1)]
    have v9 : ¬ nI (vbN (kdN p c)) = 9 := by
      rcases (show kdN p c = 2 ∨ kdN p c = 3 ∨ kdN p c = 5 by omega) with z | z | z <;> rw [z] <;> decide
    have v10 : ¬ nI (vbN (kdN p c)) = 10 := by
      rcases (show kdN p c = 2 ∨ kdN p c = 3 ∨ kdN p c = 5 by omega) with z | z | z <;> rw [z] <;> decide
    simp (disch := first | omega | decide) only [la, lm, ra, rm_, rs, ss, rr, rd, nI_add, pk_mul, zadd, Nat.zero_add, Nat.add_zero, ix_nI, inb_T, inb_F, le_T, le_F, lt_T, lt_F, lle_T, lle_F, rle_T, rle_F, llt_T, llt_F, rlt_T, rlt_F, eq_n, if_true, if_false, not_true_eq_false, not_false_eq_true, wrt_def, bnd_some, upd_eq, upd_ne, sT1, sT2, sT3, sT4, sT5, sT6, sT6z, sT7, sTn, uT1, uT2, uT3, uT4, uT5, uT6, uT6z, uT7, e5]
    rw [if_neg v9, if_pos v10]
    rfl
theorem x_execute {M : Mem} {t pr : Nat} {p a : Nat → Int32} {s : Int32} {b c : Nat} (hpr : pr + 12 ≤ t) (hb : b < 8) (hc : c < 60) (h : WFc p c) (hx : PCm M pr p s c) (hk : kdN p c ≠ 4 ∧ kdN p c ≠ 6 ∧ kdN p c ≠ 7) (w : Int32) : f_X6_execute t pr (nI c) (nI b) w (setT M t a) = some (0, setT M t (spEnd p a b c w)) := by
  have hr := h.2.2.2.1
  have hkl := kd_lt p c
  obtain ⟨e5, e7, -, -, e10, -⟩ := hx
  have e7 := e7 hk.2.2
  have ed : dlN p s c = spBy p c := by unfold dlN; rw [if_neg hk.1, if_neg hk.2.1, if_neg hk.2.2]
  rw [ed] at e10
  unfold f_X6_execute spEnd
  by_cases q : kdN p c = 1
  · have eb : spBy p c = p 4 := by unfold spBy; rw [q]; rfl
    rw [if_pos q]
    rw [q] at e5
    change _ = nI 10 at e5
    simp (disch := first | omega | decide) only [la, lm, ra, rm_, rs, ss, rr, rd, nI_add, pk_mul, zadd, Nat.zero_add, Nat.add_zero, ix_nI, inb_T, inb_F, le_T, le_F, lt_T, lt_F, lle_T, lle_F, rle_T, rle_F, llt_T, llt_F, rlt_T, rlt_F, eq_n, if_true, if_false, not_true_eq_false, not_false_eq_true, wrt_def, bnd_some, upd_eq, upd_ne, sT1, sT2, sT3, sT4, sT5, sT6, sT6z, sT7, sTn, uT1, uT2, uT3, uT4, uT5, uT6, uT6z, uT7, e5, e7, e10, eb, j_X6_execute_60]
  · rw [if_neg q]
    have v10 : ¬ nI (vbN (kdN p c)) = 10 := by
      rcases (show kdN p c = 0 ∨ kdN p c = 2 ∨ kdN p c = 3 ∨ kdN p c = 5 by omega) with z | z | z | z <;> rw [z] <;> decide
    simp (disch := first | omega | decide) only [la, lm, ra, rm_, rs, ss, rr, rd, nI_add, pk_mul, zadd, Nat.zero_add, Nat.add_zero, ix_nI, inb_T, inb_F, le_T, le_F, lt_T, lt_F, lle_T, lle_F, rle_T, rle_F, llt_T, llt_F, rlt_T, rlt_F, eq_n, if_true, if_false, not_true_eq_false, not_false_eq_true, wrt_def, bnd_some, upd_eq, upd_ne, sT1, sT2, sT3, sT4, sT5, sT6, sT6z, sT7, sTn, uT1, uT2, uT3, uT4, uT5, uT6, uT6z, uT7, e5, e7, e10, j_X6_execute_60, v10]
/-- a command of single banks -/
def spAl (p : Nat → Int32) (s : Int32) (c n : Nat) (a : Nat → Int32) : Nat → Int32 := foldN (fun b a => if bit s b = true then spAlone p a b c else a) n a
theorem spAl_n {p : Nat → Int32} {s : Int32} {c n N : Nat} {a : Nat → Int32} (h : WFn N a) (hn : n ≤ 8) (hN : N + n < 2147483648) (hr : rgN p c < 4) : WFn (N + n) (spAl p s c n a) := by
  unfold spAl
  induction n with
  | zero => exact h
  | succ n ih =>
    have ih := ih (by omega) (by omega)
    rw [foldN_s]
    generalize foldN _ n a = a2 at ih
    split
    · exact (spAlone_n (b := n) ih (by omega) (by omega) hr)
    · exact ih.mono (by omega)
/-- the class's program in pr is the reference's p, all but the budget -/
def PRs (M : Mem) (pr : Nat) (p : Nat → Int32) : Prop := M pr 0 = p 0 ∧ M pr 1 = p 1 ∧ M pr 2 = p 2 ∧ M (pr + 1) 0 = p 3 ∧ M (pr + 1) 1 = p 4 ∧ M (pr + 1) 2 = p 5 ∧ M (pr + 1) 3 = p 6 ∧ M (pr + 1) 8 = p 7 ∧ M (pr + 1) 4 = p 8 ∧ M (pr + 1) 6 = p 10 ∧ M (pr + 1) 7 = p 11
theorem x_apart {M : Mem} {t pr : Nat} {p a : Nat → Int32} {s : Int32} {c N : Nat} (hpr : pr + 12 ≤ t) (hc : c < 60) (h : WFc p c) (hs : WFs p) (hx : PCm M pr p s c) (hp : PRs M pr p) (ha : WFn N a) (hN : N + 8 < 2147483648) (hk : kdN p c ≠ 4 ∧ kdN p c ≠ 6 ∧ kdN p c ≠ 7) : f_X6_executeApart t pr (nI c) s (p 9) (setT M t a) = some (0, setT M t (spAl p s c 8 a)) := by
  have hr := h.2.2.2.1
  obtain ⟨-, -, -, e0, -, -, -, -, -, e6, -⟩ := hp
  obtain ⟨-, -, -, -, -, -, h2, -, h28, h9, -⟩ := id hs
  unfold f_X6_executeApart
  refine loop_run 8 (fun i => (nI i, setT M t (spAl p s c i a))) rfl (by omega) (fun i hi K => ?_) (fun K => ?_)
  · simp only [l_X6_executeApart_3]
    have hn := spAl_n (p := p) (s := s) (c := c) (n := i) ha (by omega) (by omega) hr
    by_cases q : bit s i = true
    · have e : spAl p s c (i + 1) a = spAlone p (spAl p s c i a) i c := by unfold spAl; rw [foldN_s, if_pos q]
      rw [e]
      generalize spAl p s c i a = a2 at hn
      have eb := x_beginOf (a := a2) (b := i) hpr hi hc h hx hk
      have eo := x_openFor (a := spH p a2 i c) (b := i) hpr hi hc hx e0 e6 h9 (by rw [spH_48 p a2 hi hi]; exact (hn i hi).1) hk (spT p a2 i c)
      have e40 : spH p a2 i c (40 + i) = a2 (40 + i) := upd_ne _ _ (by omega)
      rw [e40] at eo
      have eh : upd a2 (120 + 4 * i) (a2 (120 + 4 * i) + (spT p a2 i c - a2 i)) = spH p a2 i c := rfl
      simp (disch := first | omega | decide) only [la, lm, ra, rm_, rs, ss, rr, rd, nI_add, pk_mul, zadd, Nat.zero_add, Nat.add_zero, ix_nI, inb_T, inb_F, le_T, le_F, lt_T, lt_F, lle_T, lle_F, rle_T, rle_F, llt_T, llt_F, rlt_T, rlt_F, eq_n, if_true, if_false, not_true_eq_false, not_false_eq_true, wrt_def, bnd_some, upd_eq, upd_ne, sT1, sT2, sT3, sT4, sT5, sT6, sT6z, sT7, sTn, uT1, uT2, uT3, uT4, uT5, uT6, uT6z, uT7, eb, j_X6_executeApart_73]
      rw [if_neg (in_t q), eh, eo]
      unfold spAlone spA2 spG spO
      by_cases qo : kdN p c ≤ 1 ∧ ¬ a2 (40 + i) = p (50 + 4 * c + 2) + 1
      · rw [if_pos qo, bnd_some, x_execute hpr hi hc h hx hk, bnd_some]
        simp [qo.1, qo.2]
      · rw [if_neg qo, bnd_some, x_execute hpr hi hc h hx hk, bnd_some]
        by_cases q1 : kdN p c ≤ 1
        · have q2 : a2 (40 + i) = p (50 + 4 * c + 2) + 1 := Classical.byContradiction (fun z => qo ⟨q1, z⟩)
          simp [q2]
        · simp [q1]
    · have e : spAl p s c (i + 1) a = spAl p s c i a := by unfold spAl; rw [foldN_s, if_neg q]
      rw [e]
      simp (disch := first | omega | decide) only [la, lm, ra, rm_, rs, ss, rr, rd, nI_add, pk_mul, zadd, Nat.zero_add, Nat.add_zero, ix_nI, inb_T, inb_F, le_T, le_F, lt_T, lt_F, lle_T, lle_F, rle_T, rle_F, llt_T, llt_F, rlt_T, rlt_F, eq_n, if_true, if_false, not_true_eq_false, not_false_eq_true, wrt_def, bnd_some, upd_eq, upd_ne, sT1, sT2, sT3, sT4, sT5, sT6, sT6z, sT7, sTn, uT1, uT2, uT3, uT4, uT5, uT6, uT6z, uT7, j_X6_executeApart_73]
      rw [if_pos (in_f q)]
  · simp only [l_X6_executeApart_3]
    simp (disch := first | omega | decide) only [la, lm, ra, rm_, rs, ss, rr, rd, nI_add, pk_mul, zadd, Nat.zero_add, Nat.add_zero, ix_nI, inb_T, inb_F, le_T, le_F, lt_T, lt_F, lle_T, lle_F, rle_T, rle_F, llt_T, llt_F, rlt_T, rlt_F, eq_n, if_true, if_false, not_true_eq_false, not_false_eq_true, wrt_def, bnd_some, upd_eq, upd_ne, sT1, sT2, sT3, sT4, sT5, sT6, sT6z, sT7, sTn, uT1, uT2, uT3, uT4, uT5, uT6, uT6z, uT7]
