/-! ===== joint commands of the class, its batches ===== -/
theorem spJR_4 {kd rg : Nat} (a : Nat → Int32) (b : Nat) (v : Int32) (h7 : kd ≠ 7) (hr : rg < 4) : spJR kd rg a b 4 v = mx v (a (8 + 4 * b + rg)) := by
  unfold spJR
  rw [foldN_s, foldN_s, foldN_s, foldN_s, foldN_0]
  rcases (show rg = 0 ∨ rg = 1 ∨ rg = 2 ∨ rg = 3 by omega) with rfl | rfl | rfl | rfl <;> simp [h7]
theorem spJR_7 {rg : Nat} (a : Nat → Int32) (b : Nat) (v : Int32) : spJR 7 rg a b 4 v = foldN (fun r v => mx v (a (8 + 4 * b + r))) 4 v := by
  unfold spJR
  exact foldN_congr (fun i hi v => by rw [if_pos (Or.inl rfl)]) v
/-- no bank of s at nb or behind -/
def NoB (s : Int32) (nb : Nat) : Prop := nb ≤ 8 ∧ ∀ b, nb ≤ b → b < 8 → ¬ bit s b = true
theorem fold8 {α : Type} {s : Int32} {nb : Nat} (h : NoB s nb) (f : Nat → α → α) (x : α) : foldN (fun b v => if bit s b = true then f b v else v) 8 x = foldN (fun b v => if bit s b = true then f b v else v) nb x :=
  foldN_tail h.1 (fun _ => True) x trivial (fun i h1 h2 t _ => by rw [if_neg (h.2 i h1 h2)])
theorem spJT_of {nb kd rg : Nat} {s : Int32} {a : Nat → Int32} (h : NoB s nb) (h7 : kd ≠ 7) (hr : rg < 4) : foldN (fun b v => if bit s b = true then mx (mx v (a b)) (a (8 + 4 * b + rg)) else v) 8 0 = spJT nb kd rg s a := by
  rw [fold8 h]
  unfold spJT
  refine foldN_congr (fun i hi v => ?_) 0
  rw [spJR_4 a i _ h7 hr]
theorem spJT_7 {nb rg : Nat} {s : Int32} {a : Nat → Int32} (h : NoB s nb) : spLat 8 s a = spJT nb 7 rg s a := by
  unfold spLat spJT
  rw [fold8 h (fun b v => foldN (fun r v => mx v (a (8 + 4 * b + r))) 4 (mx v (a b)))]
  refine foldN_congr (fun i hi v => ?_) 0
  rw [spJR_7 a i _]
theorem x_joint {M : Mem} {t pr : Nat} {p a : Nat → Int32} {s : Int32} {nb c : Nat} (hpr : pr + 12 ≤ t) (hc : c < 60) (h : WFc p c) (hx : PCm M pr p s c) (hk : kdN p c = 4 ∨ kdN p c = 6 ∨ kdN p c = 7) (hs : ∃ b, b < 8 ∧ bit s b = true) (hb : NoB s nb) : f_X6_executeJointly t pr (nI c) s (setT M t a) = some (0, setT M t (spJoint p nb (kdN p c) (rgN p c) s a)) := by
  have hr := h.2.2.2.1
  obtain ⟨e5, e7, -, -, e10, -⟩ := hx
  obtain ⟨l1, l2, l3⟩ := low_ok hs
  -- the loop over the banks
  have key : ∀ (w : Int32) (rg0 : Int32), (kdN p c ≠ 7 → rg0 = nI (rgN p c)) → j_X6_executeJointly_38 t pr (nI c) s (nI (vbN (kdN p c))) rg0 w (setT M t a) = some (0, setT M t (spJ2 (kdN p c) (rgN p c) s w (w + dlN p s c) nb a)) := by
    intro w rg0 hrg
    unfold j_X6_executeJointly_38
    simp (disch := first | omega | decide) only [la, lm, ra, rm_, rs, ss, rr, rd, nI_add, pk_mul, zadd, Nat.zero_add, Nat.add_zero, ix_nI, inb_T, inb_F, le_T, le_F, lt_T, lt_F, lle_T, lle_F, rle_T, rle_F, llt_T, llt_F, rlt_T, rlt_F, eq_n, if_true, if_false, not_true_eq_false, not_false_eq_true, wrt_def, bnd_some, upd_eq, upd_ne, sT1, sT2, sT3, sT4, sT5, sT6, sT6z, sT7, sTn, uT1, uT2, uT3, uT4, uT5, uT6, uT6z, uT7, x_lowest _ hs, e10]
    have e8 : spJ2 (kdN p c) (rgN p c) s w (w + dlN p s c) nb a = spJ2 (kdN p c) (rgN p c) s w (w + dlN p s c) 8 a := by
      unfold spJ2; exact (fold8 hb _ _).symm
    rw [e8]
    have el : spJ2 (kdN p c) (rgN p c) s w (w + dlN p s c) (lowN s) a = a := by
      unfold spJ2
      exact foldN_tail (n := 0) (Nat.zero_le _) (fun _ => True) a trivial (fun i _ h2 t _ => by rw [if_neg (l3 i h2)])
    refine loop_run (8 - lowN s) (fun i => (nI (lowN s + i), setT M t (spJ2 (kdN p c) (rgN p c) s w (w + dlN p s c) (lowN s + i) a))) (by rw [Nat.add_zero, el]) (by omega) (fun i hi K => ?_) (fun K => ?_)
    · simp only [l_X6_executeJointly_61]
      by_cases q : bit s (lowN s + i) = true
      · have e : spJ2 (kdN p c) (rgN p c) s w (w + dlN p s c) (lowN s + (i + 1)) a = spJ1 (kdN p c) (rgN p c) s w (w + dlN p s c) (lowN s + i) (spJ2 (kdN p c) (rgN p c) s w (w + dlN p s c) (lowN s + i) a) := by
          unfold spJ2; rw [← Nat.add_assoc, foldN_s, if_pos q]
        rw [e]
        generalize spJ2 (kdN p c) (rgN p c) s w (w + dlN p s c) (lowN s + i) a = a2
        have hi8 : lowN s + i < 8 := by omega
        have hq : (p_X9_isIn (nI (lowN s + i)) s = 0) = False := eq_false (in_t q)
        have ei : nI (lowN s + i + 1) = nI (lowN s + (i + 1)) := by rw [Nat.add_assoc]
        unfold spJ1
        rcases hk with z | z | z
        · have hrg := hrg (by omega)
          have v : nI (vbN (kdN p c)) = 8 := by rw [z]; rfl
          rw [v, hrg]
          by_cases qi : i = 0
          · subst qi
            rw [Nat.add_zero] at hq
            simp (disch := first | omega | decide) only [la, lm, ra, rm_, rs, ss, rr, rd, nI_add, pk_mul, zadd, Nat.zero_add, Nat.add_zero, ix_nI, inb_T, inb_F, le_T, le_F, lt_T, lt_F, lle_T, lle_F, rle_T, rle_F, llt_T, llt_F, rlt_T, rlt_F, eq_n, if_true, if_false, not_true_eq_false, not_false_eq_true, wrt_def, bnd_some, upd_eq, upd_ne, sT1, sT2, sT3, sT4, sT5, sT6, sT6z, sT7, sTn, uT1, uT2, uT3, uT4, uT5, uT6, uT6z, uT7, hq, j_X6_executeJointly_145, j_X6_executeJointly_131]
            simp [z]
          · have q2 : ¬ nI (lowN s + i) = nI (lowN s) := by rw [nI_eq (by omega) (by omega)]; omega
            simp (disch := first | omega | decide) only [la, lm, ra, rm_, rs, ss, rr, rd, nI_add, pk_mul, zadd, Nat.zero_add, Nat.add_zero, ix_nI, inb_T, inb_F, le_T, le_F, lt_T, lt_F, lle_T, lle_F, rle_T, rle_F, llt_T, llt_F, rlt_T, rlt_F, eq_n, if_true, if_false, not_true_eq_false, not_false_eq_true, wrt_def, bnd_some, upd_eq, upd_ne, sT1, sT2, sT3, sT4, sT5, sT6, sT6z, sT7, sTn, uT1, uT2, uT3, uT4, uT5, uT6, uT6z, uT7, hq, j_X6_executeJointly_145, j_X6_executeJointly_131, q2]
            simp [z, qi, Nat.add_assoc]
        · have hrg := hrg (by omega)
          have v : nI (vbN (kdN p c)) = 13 := by rw [z]; rfl
          rw [v, hrg]
          simp (disch := first | omega | decide) only [la, lm, ra, rm_, rs, ss, rr, rd, nI_add, pk_mul, zadd, Nat.zero_add, Nat.add_zero, ix_nI, inb_T, inb_F, le_T, le_F, lt_T, lt_F, lle_T, lle_F, rle_T, rle_F, llt_T, llt_F, rlt_T, rlt_F, eq_n, if_true, if_false, not_true_eq_false, not_false_eq_true, wrt_def, bnd_some, upd_eq, upd_ne, sT1, sT2, sT3, sT4, sT5, sT6, sT6z, sT7, sTn, uT1, uT2, uT3, uT4, uT5, uT6, uT6z, uT7, hq, j_X6_executeJointly_145, j_X6_executeJointly_131]
          simp [z, Nat.add_assoc]
        · have v : nI (vbN (kdN p c)) = 14 := by rw [z]; rfl
          rw [v]
          simp (disch := first | omega | decide) only [la, lm, ra, rm_, rs, ss, rr, rd, nI_add, pk_mul, zadd, Nat.zero_add, Nat.add_zero, ix_nI, inb_T, inb_F, le_T, le_F, lt_T, lt_F, lle_T, lle_F, rle_T, rle_F, llt_T, llt_F, rlt_T, rlt_F, eq_n, if_true, if_false, not_true_eq_false, not_false_eq_true, wrt_def, bnd_some, upd_eq, upd_ne, sT1, sT2, sT3, sT4, sT5, sT6, sT6z, sT7, sTn, uT1, uT2, uT3, uT4, uT5, uT6, uT6z, uT7, hq, j_X6_executeJointly_145, j_X6_executeJointly_131]
          simp [z, Nat.add_assoc]
      · have e : spJ2 (kdN p c) (rgN p c) s w (w + dlN p s c) (lowN s + (i + 1)) a = spJ2 (kdN p c) (rgN p c) s w (w + dlN p s c) (lowN s + i) a := by
          unfold spJ2; rw [← Nat.add_assoc, foldN_s, if_neg q]
        rw [e]
        simp (disch := first | omega | decide) only [la, lm, ra, rm_, rs, ss, rr, rd, nI_add, pk_mul, zadd, Nat.zero_add, Nat.add_zero, ix_nI, inb_T, inb_F, le_T, le_F, lt_T, lt_F, lle_T, lle_F, rle_T, rle_F, llt_T, llt_F, rlt_T, rlt_F, eq_n, if_true, if_false, not_true_eq_false, not_false_eq_true, wrt_def, bnd_some, upd_eq, upd_ne, sT1, sT2, sT3, sT4, sT5, sT6, sT6z, sT7, sTn, uT1, uT2, uT3, uT4, uT5, uT6, uT6z, uT7, j_X6_executeJointly_145]
        rw [if_pos (in_f q), Nat.add_assoc]
    · simp only [l_X6_executeJointly_61]
      have e : lowN s + (8 - lowN s) = 8 := by omega
      rw [e]
      simp (disch := first | omega | decide) only [la, lm, ra, rm_, rs, ss, rr, rd, nI_add, pk_mul, zadd, Nat.zero_add, Nat.add_zero, ix_nI, inb_T, inb_F, le_T, le_F, lt_T, lt_F, lle_T, lle_F, rle_T, rle_F, llt_T, llt_F, rlt_T, rlt_F, eq_n, if_true, if_false, not_true_eq_false, not_false_eq_true, wrt_def, bnd_some, upd_eq, upd_ne, sT1, sT2, sT3, sT4, sT5, sT6, sT6z, sT7, sTn, uT1, uT2, uT3, uT4, uT5, uT6, uT6z, uT7]
  unfold f_X6_executeJointly spJoint spJto
  simp (disch := first | omega | decide) only [la, lm, ra, rm_, rs, ss, rr, rd, nI_add, pk_mul, zadd, Nat.zero_add, Nat.add_zero, ix_nI, inb_T, inb_F, le_T, le_F, lt_T, lt_F, lle_T, lle_F, rle_T, rle_F, llt_T, llt_F, rlt_T, rlt_F, eq_n, if_true, if_false, not_true_eq_false, not_false_eq_true, wrt_def, bnd_some, upd_eq, upd_ne, sT1, sT2, sT3, sT4, sT5, sT6, sT6z, sT7, sTn, uT1, uT2, uT3, uT4, uT5, uT6, uT6z, uT7, e5]
  rcases hk with z | z | z
  · have e7 := e7 (by omega)
    have v : ¬ nI (vbN (kdN p c)) = 14 := by rw [z]; decide
    rw [if_pos v, e7, x_latestOf M t a s hr, bnd_some, spJT_of (kd := kdN p c) hb (by omega) hr, key _ _ (fun _ => rfl)]
    unfold dlN
    simp [z]
  · have e7 := e7 (by omega)
    have v : ¬ nI (vbN (kdN p c)) = 14 := by rw [z]; decide
    rw [if_pos v, e7, x_latestOf M t a s hr, bnd_some, spJT_of (kd := kdN p c) hb (by omega) hr, key _ _ (fun _ => rfl)]
    unfold dlN
    simp [z]
  · have v : nI (vbN (kdN p c)) = 14 := by rw [z]; rfl
    rw [if_neg (fun y => y v), x_latest, bnd_some, spJT_7 (rg := rgN p c) hb, key _ _ (fun y => absurd z y)]
    unfold dlN
    simp [z]
/-- k more commands for the banks of s below n -/
def addD (s : Int32) (n : Nat) (k : Int32) (a : Nat → Int32) : Nat → Int32 := foldN (fun b a => if bit s b = true then upd a (152 + b) (a (152 + b) + k) else a) n a
theorem x_note (M : Mem) (t : Nat) (a : Nat → Int32) (s k : Int32) : f_X6_noteExecuted t s k (setT M t a) = some (0, setT M t (addD s 8 k a)) := by
  unfold f_X6_noteExecuted
  refine loop_run 8 (fun i => (nI i, setT M t (addD s i k a))) rfl (by omega) (fun i hi K => ?_) (fun K => ?_)
  · simp only [l_X6_noteExecuted_2]
    by_cases q : bit s i = true
    · have e : addD s (i + 1) k a = upd (addD s i k a) (152 + i) (addD s i k a (152 + i) + k) := by unfold addD; rw [foldN_s, if_pos q]
      rw [e]
      simp (disch := first | omega | decide) only [la, lm, ra, rm_, rs, ss, rr, rd, nI_add, pk_mul, zadd, Nat.zero_add, Nat.add_zero, ix_nI, inb_T, inb_F, le_T, le_F, lt_T, lt_F, lle_T, lle_F, rle_T, rle_F, llt_T, llt_F, rlt_T, rlt_F, eq_n, if_true, if_false, not_true_eq_false, not_false_eq_true, wrt_def, bnd_some, upd_eq, upd_ne, sT1, sT2, sT3, sT4, sT5, sT6, sT6z, sT7, sTn, uT1, uT2, uT3, uT4, uT5, uT6, uT6z, uT7, j_X6_noteExecuted_26]
      rw [if_neg (in_t q)]
    · have e : addD s (i + 1) k a = addD s i k a := by unfold addD; rw [foldN_s, if_neg q]
      rw [e]
      simp (disch := first | omega | decide) only [la, lm, ra, rm_, rs, ss, rr, rd, nI_add, pk_mul, zadd, Nat.zero_add, Nat.add_zero, ix_nI, inb_T, inb_F, le_T, le_F, lt_T, lt_F, lle_T, lle_F, rle_T, rle_F, llt_T, llt_F, rlt_T, rlt_F, eq_n, if_true, if_false, not_true_eq_false, not_false_eq_true, wrt_def, bnd_some, upd_eq, upd_ne, sT1, sT2, sT3, sT4, sT5, sT6, sT6z, sT7, sTn, uT1, uT2, uT3, uT4, uT5, uT6, uT6z, uT7, j_X6_noteExecuted_26]
      rw [if_pos (in_f q)]
  · simp only [l_X6_noteExecuted_2]
    simp (disch := first | omega | decide) only [la, lm, ra, rm_, rs, ss, rr, rd, nI_add, pk_mul, zadd, Nat.zero_add, Nat.add_zero, ix_nI, inb_T, inb_F, le_T, le_F, lt_T, lt_F, lle_T, lle_F, rle_T, rle_F, llt_T, llt_F, rlt_T, rlt_F, eq_n, if_true, if_false, not_true_eq_false, not_false_eq_true, wrt_def, bnd_some, upd_eq, upd_ne, sT1, sT2, sT3, sT4, sT5, sT6, sT6z, sT7, sTn, uT1, uT2, uT3, uT4, uT5, uT6, uT6z, uT7]
theorem addD_lt (s : Int32) (n : Nat) (k : Int32) (a : Nat → Int32) {i : Nat} (h : i < 152) : addD s n k a i = a i := by
  unfold addD
  refine foldN_inv (fun a2 => a2 i = a i) a rfl (fun b hb a2 h2 => ?_)
  split
  · rw [upd_ne _ _ (by omega)]; exact h2
  · exact h2
theorem addD_upd (s : Int32) (n : Nat) (k : Int32) (a : Nat → Int32) {i : Nat} (x : Int32) (h : i < 152) : upd (addD s n k a) i x = addD s n k (upd a i x) := by
  unfold addD
  induction n with
  | zero => rfl
  | succ n ih =>
    rw [foldN_s, foldN_s, ← ih]
    generalize foldN _ n a = a2
    split
    · rw [upd_comm _ _ _ (show 152 + n ≠ i by omega), upd_ne _ _ (show 152 + n ≠ i by omega)]
    · rfl
theorem addD_alone {p a : Nat → Int32} {s : Int32} {n b c : Nat} {k : Int32} (hb : b < 8) (h : WFc p c) : spAlone p (addD s n k a) b c = addD s n k (spAlone p a b c) := by
  have hr := h.2.2.2.1
  have eT : spT p (addD s n k a) b c = spT p a b c := by
    unfold spT
    by_cases q : kdN p c = 3
    · obtain ⟨q2, q2l, q3, q3l⟩ := h.2.2.2.2.1 q
      simp (disch := omega) only [addD_lt]
    · rw [if_neg q, if_neg q]
      simp (disch := omega) only [addD_lt]
  have eH : spH p (addD s n k a) b c = addD s n k (spH p a b c) := by
    unfold spH
    rw [eT]
    simp (disch := omega) only [addD_lt, addD_upd]
  have eO : spO p (addD s n k a) b c = spO p a b c := by
    unfold spO
    simp (disch := omega) only [addD_lt]
  have eU : ∀ a t, spU p (addD s n k a) b t = spU p a b t := by
    intro a t
    unfold spU spStart
    rw [addD_lt s n k a (show 48 + b < 152 by omega), addD_lt s n k a (show 56 + 8 * b + (ix (a (48 + b)) - ix (p 9)) % 8 < 152 by omega)]
  have eA : ∀ a r t, spAct p (addD s n k a) b r t = addD s n k (spAct p a b r t) := by
    intro a r t
    unfold spAct
    rw [eU, addD_lt s n k a (show 48 + b < 152 by omega)]
    generalize hk8 : ix (a (48 + b)) % 8 = k8
    have : k8 < 8 := by rw [← hk8]; exact Nat.mod_lt _ (by decide)
    simp (disch := omega) only [addD_lt, addD_upd]
  unfold spAlone spA2 spG
  rw [eT, eH, eO, eU, eA]
  have eE : ∀ a t, spEnd p (addD s n k a) b c t = addD s n k (spEnd p a b c t) := by
    intro a t
    unfold spEnd
    split
    · simp (disch := omega) only [addD_upd]
    · simp (disch := omega) only [addD_upd]
  split
  · exact eE _ _
  · exact eE _ _
theorem addD_joint {p a : Nat → Int32} {s s2 : Int32} {n nb kd rg : Nat} {k : Int32} (hb : nb ≤ 8) (hr : rg < 4) : spJoint p nb kd rg s2 (addD s n k a) = addD s n k (spJoint p nb kd rg s2 a) := by
  have eR : ∀ b v, b < 8 → spJR kd rg (addD s n k a) b 4 v = spJR kd rg a b 4 v := by
    intro b v hb
    unfold spJR
    refine foldN_congr (fun i hi v => ?_) v
    rw [addD_lt _ _ _ _ (by omega)]
  have eT : spJT nb kd rg s2 (addD s n k a) = spJT nb kd rg s2 a := by
    unfold spJT
    refine foldN_congr (fun i hi v => ?_) 0
    rw [addD_lt _ _ _ _ (by omega), eR _ _ (by omega)]
  unfold spJoint
  rw [eT]
  generalize spJT nb kd rg s2 a = w
  generalize spJto p kd s2 w = to
  clear eT eR
  unfold spJ2
  induction nb with
  | zero => rfl
  | succ nb ih =>
    have ih := ih (by omega)
    rw [foldN_s, foldN_s, ih]
    generalize foldN _ nb a = a2
    split
    · unfold spJ1
      split
      · simp (disch := omega) only [addD_lt, addD_upd]
      · simp (disch := omega) only [addD_lt, addD_upd]
    · rfl
theorem spC2_add {p a : Nat → Int32} {s : Int32} {c n : Nat} (hn : n ≤ 8) (h : WFc p c) : spC2 p s c n a = addD s n 1 (if jnt p c = true then a else spAl p s c n a) := by
  unfold spC2
  by_cases q : jnt p c = true
  · rw [if_pos q]
    unfold addD
    refine foldN_congr (fun i hi v => ?_) a
    unfold spC1
    rw [if_pos q]
  · rw [if_neg q]
    induction n with
    | zero => rfl
    | succ n ih =>
      rw [foldN_s, ih (by omega)]
      by_cases qb : bit s n = true
      · have e1 : spAl p s c (n + 1) a = spAlone p (spAl p s c n a) n c := by unfold spAl; rw [foldN_s, if_pos qb]
        have e2 : ∀ x, addD s (n + 1) 1 x = upd (addD s n 1 x) (152 + n) (addD s n 1 x (152 + n) + 1) := by intro x; unfold addD; rw [foldN_s, if_pos qb]
        rw [if_pos qb, e1, e2]
        unfold spC1
        rw [if_neg q, addD_alone (by omega) h]
      · have e1 : spAl p s c (n + 1) a = spAl p s c n a := by unfold spAl; rw [foldN_s, if_neg qb]
        have e2 : ∀ x, addD s (n + 1) 1 x = addD s n 1 x := by intro x; unfold addD; rw [foldN_s, if_neg qb]
        rw [if_neg qb, e1, e2]
/-- a command, as the class computes it -/
def spCx (p : Nat → Int32) (nb : Nat) (s : Int32) (c : Nat) (a : Nat → Int32) : Nat → Int32 := if jnt p c = true then spJoint p nb (kdN p c) (rgN p c) s a else spAl p s c 8 a
theorem spCmd_x {p a : Nat → Int32} {s : Int32} {nb c : Nat} (hb : NoB s nb) (h : WFc p c) : spCmd p nb s c a = addD s 8 1 (spCx p nb s c a) := by
  unfold spCmd spCx
  rw [spC2_add hb.1 h]
  have e : ∀ x, addD s nb 1 x = addD s 8 1 x := fun x => (fold8 hb _ x).symm
  rw [e]
  by_cases q : jnt p c = true
  · rw [if_pos q, if_pos q, if_pos q]
  · rw [if_neg q, if_neg q, if_neg q]
    have e3 : spAl p s c 8 a = spAl p s c nb a := fold8 hb (fun b a => spAlone p a b c) a
    rw [e3]
theorem addD_al {p a : Nat → Int32} {s s2 : Int32} {n m c : Nat} {k : Int32} (hm : m ≤ 8) (h : WFc p c) : spAl p s2 c m (addD s n k a) = addD s n k (spAl p s2 c m a) := by
  unfold spAl
  induction m with
  | zero => rfl
  | succ m ih =>
    rw [foldN_s, foldN_s, ih (by omega)]
    split
    · exact addD_alone (by omega) h
    · rfl
theorem addD_cx {p a : Nat → Int32} {s s2 : Int32} {n nb c : Nat} {k : Int32} (hb : nb ≤ 8) (h : WFc p c) : spCx p nb s2 c (addD s n k a) = addD s n k (spCx p nb s2 c a) := by
  unfold spCx
  split
  · exact addD_joint hb h.2.2.2.1
  · exact addD_al (Nat.le_refl 8) h
theorem addD_0 (s : Int32) (n : Nat) (a : Nat → Int32) : addD s n 0 a = a := by
  unfold addD
  exact foldN_tail (n := 0) (Nat.zero_le _) (fun _ => True) a trivial (fun i _ h2 t _ => by
    split
    · funext j
      by_cases q : j = 152 + i
      · subst q; rw [upd_eq, Int32.add_zero]
      · rw [upd_ne _ _ q]
    · rfl)
theorem addD_hi (s : Int32) (n : Nat) (k : Int32) (a : Nat → Int32) {i : Nat} (h : 152 + n ≤ i) : addD s n k a i = a i := by
  unfold addD
  refine foldN_inv (fun a2 => a2 i = a i) a rfl (fun b hb a2 h2 => ?_)
  split
  · rw [upd_ne _ _ (by omega)]; exact h2
  · exact h2
theorem addD_updh (s : Int32) (n : Nat) (k : Int32) (a : Nat → Int32) {i : Nat} (x : Int32) (h : 152 + n ≤ i) : upd (addD s n k a) i x = addD s n k (upd a i x) := by
  unfold addD
  induction n with
  | zero => rfl
  | succ n ih =>
    rw [foldN_s, foldN_s, ← ih (by omega)]
    generalize foldN _ n a = a2
    split
    · rw [upd_comm _ _ _ (show 152 + n ≠ i by omega), upd_ne _ _ (show 152 + n ≠ i by omega)]
    · rfl
theorem addD_add (s : Int32) (n : Nat) (k l : Int32) (a : Nat → Int32) : addD s n l (addD s n k a) = addD s n (k + l) a := by
  induction n with
  | zero => rfl
  | succ n ih =>
    by_cases qb : bit s n = true
    · have e2 : ∀ k x, addD s (n + 1) k x = upd (addD s n k x) (152 + n) (addD s n k x (152 + n) + k) := by intro k x; unfold addD; rw [foldN_s, if_pos qb]
      rw [e2 k, e2 l, e2 (k + l), ← addD_updh s n l _ _ (Nat.le_refl _), ih]
      have h1 : ∀ x (a : Nat → Int32), addD s n x a (152 + n) = a (152 + n) := fun x a => addD_hi s n x a (Nat.le_refl _)
      rw [upd_eq, h1, h1]
      funext j
      by_cases q : j = 152 + n
      · subst q; rw [upd_eq, upd_eq, Int32.add_assoc]
      · rw [upd_ne _ _ q, upd_ne _ _ q, upd_ne _ _ q]
    · have e2 : ∀ k x, addD s (n + 1) k x = addD s n k x := by intro k x; unfold addD; rw [foldN_s, if_neg qb]
      rw [e2, e2, e2, ih]
def spRx (p : Nat → Int32) (nb : Nat) (s : Int32) (f n : Nat) (a : Nat → Int32) : Nat → Int32 := foldN (fun i a => spCx p nb s (f + i) a) n a
theorem spRun_x {p a : Nat → Int32} {s : Int32} {nb f n : Nat} (hb : NoB s nb) (hw : WFr p f n) : spRun p nb s f n a = addD s 8 (nI n) (spRx p nb s f n a) := by
  unfold spRun spRx
  induction n with
  | zero => rw [foldN_0, foldN_0, ← n0, addD_0]
  | succ n ih =>
    have ih := ih ⟨by have := hw.1; omega, fun c h1 h2 => hw.2 c h1 (by omega)⟩
    have hc := hw.2 (f + n) (by omega) (by omega)
    rw [foldN_s, foldN_s, ih, spCmd_x hb hc, addD_cx hb.1 hc, addD_add, n1, nI_add]
theorem spCx_n {p : Nat → Int32} {nb : Nat} {s : Int32} {c N : Nat} {a : Nat → Int32} (h : WFn N a) (hn : nb ≤ 8) (hN : N + 8 < 2147483648) (hr : rgN p c < 4) : WFn (N + 8) (spCx p nb s c a) := by
  unfold spCx
  split
  · exact (h.of (fun b hb => spJoint_48 hn hb hr)).mono (by omega)
  · exact spAl_n h (Nat.le_refl 8) hN hr
theorem spRx_n {p : Nat → Int32} {nb : Nat} {s : Int32} {f n N : Nat} {a : Nat → Int32} (h : WFn N a) (hn : nb ≤ 8) (hN : N + 8 * n < 2147483648) (hw : WFr p f n) : WFn (N + 8 * n) (spRx p nb s f n a) := by
  unfold spRx
  induction n with
  | zero => exact h
  | succ n ih =>
    have ih := ih (by omega) ⟨by have := hw.1; omega, fun c h1 h2 => hw.2 c h1 (by omega)⟩
    rw [foldN_s]
    exact (spCx_n ih hn (by omega) (hw.2 (f + n) (by omega) (by omega)).2.2.2.1).mono (by omega)
/-- the class's batch bt is the reference's -/
def PBt (M : Mem) (pr : Nat) (p : Nat → Int32) (bt : Nat) : Prop := M (pr + 2) bt = setN p bt ∧ M (pr + 3) bt = nI (fstN p bt) ∧ M (pr + 4) bt = nI (fstN p bt + lenN p bt) ∧ ∀ c, fstN p bt ≤ c → c < fstN p bt + lenN p bt → PCm M pr p (setN p bt) c
/-- A BATCH'S TIMES -/
theorem x_runBatch {M : Mem} {t pr : Nat} {p a : Nat → Int32} {bt N : Nat} (hpr : pr + 12 ≤ t) (hs : WFs p) (hw : WFb p bt) (hx : PBt M pr p bt) (hp : PRs M pr p) (ha : WFn N a) (hN : N + 480 < 2147483648) : f_X6_runBatch t pr (nI bt) (p 9) (setT M t a) = some (0, setT M t (spBatch p bt a)) := by
  obtain ⟨h12, hset, hno, hf, hl, hr60, hr⟩ := id hw
  obtain ⟨h0, h01, h08, -⟩ := id hs
  obtain ⟨x2, x3, x4, xc⟩ := hx
  have hb : NoB (setN p bt) (ix (p 0)) := ⟨h08, hno⟩
  unfold f_X6_runBatch spBatch
  rw [spRun_x hb ⟨hr60, hr⟩]
  simp (disch := first | omega | decide) only [la, lm, ra, rm_, rs, ss, rr, rd, nI_add, pk_mul, zadd, Nat.zero_add, Nat.add_zero, ix_nI, inb_T, inb_F, le_T, le_F, lt_T, lt_F, lle_T, lle_F, rle_T, rle_F, llt_T, llt_F, rlt_T, rlt_F, eq_n, if_true, if_false, not_true_eq_false, not_false_eq_true, wrt_def, bnd_some, upd_eq, upd_ne, sT1, sT2, sT3, sT4, sT5, sT6, sT6z, sT7, sTn, uT1, uT2, uT3, uT4, uT5, uT6, uT6z, uT7, x2, x3, x4]
  generalize setN p bt = s at *
  generalize fstN p bt = f at *
  generalize lenN p bt = n at *
  generalize ix (p 0) = nb at *
  have hn := fun i (hi : i ≤ n) => spRx_n (p := p) (nb := nb) (s := s) (f := f) (n := i) ha h08 (by omega) ⟨by omega, fun c h1 h2 => hr c h1 (by omega)⟩
  refine loop_run n (fun i => (nI (f + i), setT M t (spRx p nb s f i a))) rfl (by omega) (fun i hi K => ?_) (fun K => ?_)
  · simp only [l_X6_runBatch_24]
    have e : spRx p nb s f (i + 1) a = spCx p nb s (f + i) (spRx p nb s f i a) := rfl
    have hni := hn i (by omega)
    rw [e]
    generalize spRx p nb s f i a = a2 at hni
    have hc := hr (f + i) (by omega) (by omega)
    have hxc := xc (f + i) (by omega) (by omega)
    have hkl := kd_lt p (f + i)
    unfold spCx
    by_cases q : jnt p (f + i) = true
    · have hk : kdN p (f + i) = 4 ∨ kdN p (f + i) = 6 ∨ kdN p (f + i) = 7 := of_decide_eq_true q
      have v : ¬ p_X6_isJoint (nI (vbN (kdN p (f + i)))) = 0 := by
        rcases hk with z | z | z <;> rw [z] <;> decide
      simp (disch := first | omega | decide) only [la, lm, ra, rm_, rs, ss, rr, rd, nI_add, pk_mul, zadd, Nat.zero_add, Nat.add_zero, ix_nI, inb_T, inb_F, le_T, le_F, lt_T, lt_F, lle_T, lle_F, rle_T, rle_F, llt_T, llt_F, rlt_T, rlt_F, eq_n, if_true, if_false, not_true_eq_false, not_false_eq_true, wrt_def, bnd_some, upd_eq, upd_ne, sT1, sT2, sT3, sT4, sT5, sT6, sT6z, sT7, sTn, uT1, uT2, uT3, uT4, uT5, uT6, uT6z, uT7, hxc.1, x_joint hpr (show f + i < 60 by omega) hc hxc hk hset hb, j_X6_runBatch_66]
      rw [if_neg v, if_pos q, Nat.add_assoc]
    · have hk : kdN p (f + i) ≠ 4 ∧ kdN p (f + i) ≠ 6 ∧ kdN p (f + i) ≠ 7 := by
        unfold jnt at q
        simp at q
        exact q
      have v : p_X6_isJoint (nI (vbN (kdN p (f + i)))) = 0 := by
        rcases (show kdN p (f + i) = 0 ∨ kdN p (f + i) = 1 ∨ kdN p (f + i) = 2 ∨ kdN p (f + i) = 3 ∨ kdN p (f + i) = 5 by omega) with z | z | z | z | z <;> rw [z] <;> decide
      simp (disch := first | omega | decide) only [la, lm, ra, rm_, rs, ss, rr, rd, nI_add, pk_mul, zadd, Nat.zero_add, Nat.add_zero, ix_nI, inb_T, inb_F, le_T, le_F, lt_T, lt_F, lle_T, lle_F, rle_T, rle_F, llt_T, llt_F, rlt_T, rlt_F, eq_n, if_true, if_false, not_true_eq_false, not_false_eq_true, wrt_def, bnd_some, upd_eq, upd_ne, sT1, sT2, sT3, sT4, sT5, sT6, sT6z, sT7, sTn, uT1, uT2, uT3, uT4, uT5, uT6, uT6z, uT7, hxc.1, x_apart hpr (show f + i < 60 by omega) hc hs hxc hp hni (by omega) hk, j_X6_runBatch_66]
      rw [if_pos v, if_neg q, Nat.add_assoc]
  · simp only [l_X6_runBatch_24]
    simp (disch := first | omega | decide) only [la, lm, ra, rm_, rs, ss, rr, rd, nI_add, pk_mul, zadd, Nat.zero_add, Nat.add_zero, ix_nI, inb_T, inb_F, le_T, le_F, lt_T, lt_F, lle_T, lle_F, rle_T, rle_F, llt_T, llt_F, rlt_T, rlt_F, eq_n, if_true, if_false, not_true_eq_false, not_false_eq_true, wrt_def, bnd_some, upd_eq, upd_ne, sT1, sT2, sT3, sT4, sT5, sT6, sT6z, sT7, sTn, uT1, uT2, uT3, uT4, uT5, uT6, uT6z, uT7, x3]
    rw [Nat.add_sub_cancel_left, x_note, bnd_some]
