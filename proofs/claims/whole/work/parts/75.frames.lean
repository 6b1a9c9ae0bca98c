/-! ===== what a batch leaves alone ===== -/
theorem spAlone_hi {p a : Nat → Int32} {b c j : Nat} (hb : b < 8) (hr : rgN p c < 4) (hj : 160 ≤ j) : spAlone p a b c j = a j := by
  have hH : spH p a b c j = a j := upd_ne _ _ (by omega)
  have hA : spA2 p a b c j = a j := by
    unfold spA2
    split
    · unfold spAct
      have m8 : ix (spH p a b c (48 + b)) % 8 < 8 := Nat.mod_lt _ (by decide)
      rw [upd_ne _ _ (by omega), upd_ne _ _ (by omega), upd_ne _ _ (by omega), upd_ne _ _ (by omega), upd_ne _ _ (by omega)]
      exact hH
    · exact hH
  unfold spAlone spEnd
  split
  · rw [upd_ne _ _ (by omega)]; exact hA
  · rw [upd_ne _ _ (by omega), upd_ne _ _ (by omega)]; exact hA
theorem spJoint_hi {p a : Nat → Int32} {nb kd rg j : Nat} {s : Int32} (hb : nb ≤ 8) (hr : rg < 4) (hj : 160 ≤ j) : spJoint p nb kd rg s a j = a j := by
  unfold spJoint spJ2
  refine foldN_inv (fun a2 => a2 j = a j) a rfl (fun b hb2 a2 h => ?_)
  split
  · unfold spJ1
    split
    · rw [upd_ne _ _ (by omega), upd_ne _ _ (by omega), upd_ne _ _ (by omega)]; exact h
    · rw [upd_ne _ _ (by omega), upd_ne _ _ (by omega)]; exact h
  · exact h
theorem spCmd_hi {p a : Nat → Int32} {nb c j : Nat} {s : Int32} (hb : nb ≤ 8) (hr : rgN p c < 4) (hj : 160 ≤ j) : spCmd p nb s c a j = a j := by
  have h1 : (if jnt p c = true then spJoint p nb (kdN p c) (rgN p c) s a else a) j = a j := by
    split
    · exact spJoint_hi hb hr hj
    · rfl
  unfold spCmd spC2
  refine foldN_inv (fun (a2 : Nat → Int32) => a2 j = a j) _ h1 (fun b hb2 a2 h => ?_)
  split
  · unfold spC1
    split
    · rw [upd_ne _ _ (by omega)]; exact h
    · rw [upd_ne _ _ (by omega), spAlone_hi (by omega) hr hj]; exact h
  · exact h
theorem spBatch_hi {p a : Nat → Int32} {bt j : Nat} (hs : WFs p) (hw : WFb p bt) (hj : 160 ≤ j) : spBatch p bt a j = a j := by
  obtain ⟨-, -, -, -, -, hr60, hr⟩ := hw
  obtain ⟨-, -, h08, -⟩ := hs
  unfold spBatch spRun
  refine foldN_inv (fun a2 => a2 j = a j) a rfl (fun i hi a2 h => ?_)
  rw [spCmd_hi h08 (hr _ (by omega) (by omega)).2.2.2.1 hj]; exact h
theorem svK_fr {p a : Nat → Int32} {b c k j : Nat} (hb : b < 8) (hk : k < 8) (h : WFc p c) (hj : j < 160 ∨ 1440 ≤ j) : svK p b c k a j = a j := by
  have hr := h.2.2.2.1
  have hL := lnP_lt (k := k) hb hr hk
  have hL0 := lnP_lt (k := 0) hb hr (by omega)
  have hl : ∀ r k, 1184 ≤ lnP b r k := fun r k => by unfold lnP; omega
  have hl1 := hl (rgN p c) k
  have hl2 := hl (rgN p c) 0
  unfold svK
  by_cases q0 : kdN p c = 0
  · rw [if_pos q0, upd_ne _ _ (by omega)]
  · rw [if_neg q0]
    by_cases q1 : kdN p c = 1
    · have hW := wdP_lt (k := k) hb (h.2.2.2.2.2 (by omega)).2 hk
      have hw : 160 ≤ wdP b (x2N p c) k := by unfold wdP; omega
      rw [if_pos q1, upd_ne _ _ (by omega)]
    · rw [if_neg q1]
      split
      · rw [upd_ne _ _ (by omega)]
      · split
        · rw [upd_ne _ _ (by omega)]
        · split
          · rw [upd_ne _ _ (by omega)]
          · rfl
theorem svCmd_fr {p a : Nat → Int32} {nb c j : Nat} {s : Int32} (hs : WFs p) (hb : nb ≤ 8) (h : WFc p c) (hset : ∃ b, b < 8 ∧ bit s b = true) (hj : j < 160 ∨ 1440 ≤ j) : svCmd p nb s c a j = a j := by
  obtain ⟨-, -, -, -, -, -, h2, -, h28, -⟩ := hs
  have hr := h.2.2.2.1
  have l2 := (low_ok hset).2.1
  have h1 : (if kdN p c = 4 ∨ kdN p c = 6 then svT p s c nb a else a) j = a j := by
    split
    · unfold svT
      refine foldN_inv (fun a2 => a2 j = a j) a rfl (fun b hb2 a2 hh => ?_)
      split
      · split
        · exact hh
        · refine foldN_inv (fun a3 => a3 j = a j) a2 hh (fun k hk a3 h3 => ?_)
          have hL := lnP_lt (b := b) (k := k) (by omega) hr (by omega)
          have hL0 := lnP_lt (b := lowN s) (k := k) l2 hr (by omega)
          have hl : ∀ b r k, 1184 ≤ lnP b r k := fun b r k => by unfold lnP; omega
          have hl1 := hl b (rgN p c) k
          have hl2 := hl (lowN s) (rgN p c) k
          unfold svJ
          split
          · rw [upd_ne _ _ (by omega)]; exact h3
          · rw [upd_ne _ _ (by omega)]; exact h3
      · exact hh
    · rfl
  unfold svCmd svV
  refine foldN_inv (fun (a2 : Nat → Int32) => a2 j = a j) _ h1 (fun b hb2 a2 hh => ?_)
  split
  · refine foldN_inv (fun a3 => a3 j = a j) a2 hh (fun k hk a3 h3 => ?_)
    rw [svK_fr (by omega) (by omega) h hj]; exact h3
  · exact hh
theorem svBatch_fr {p a : Nat → Int32} {bt j : Nat} (hs : WFs p) (hw : WFb p bt) (hj : j < 160 ∨ 1440 ≤ j) : svBatch p bt a j = a j := by
  obtain ⟨-, hset, -, -, -, hr60, hr⟩ := hw
  obtain ⟨-, -, h08, -⟩ := id hs
  unfold svBatch svRun
  refine foldN_inv (fun a2 => a2 j = a j) a rfl (fun i hi a2 h => ?_)
  rw [svCmd_fr hs h08 (hr _ (by omega) (by omega)) hset hj]; exact h
/-! the earliest clock -/
def mn (x y : Int32) : Int32 := if x ≤ y then x else y
def spFrom (n : Nat) (s : Int32) (a : Nat → Int32) : Int32 := foldN (fun b v => if bit s b = true then mn v (a b) else v) n (a (lowN s))
theorem imin_mn (x y : Int32) : imin x y = mn x y := by
  unfold imin mn
  by_cases h : x ≤ y
  · rw [if_pos h, if_neg (i32_nlt.mpr h)]
  · rw [if_neg h, if_pos (i32_nle.mp h)]
theorem x_earliest (M : Mem) (t : Nat) (a : Nat → Int32) {s : Int32} (hset : ∃ b, b < 8 ∧ bit s b = true) : f_X6_earliestClock t s (setT M t a) = some (spFrom 8 s a, setT M t a) := by
  have l2 := (low_ok hset).2.1
  unfold f_X6_earliestClock
  rw [x_lowest _ hset, bnd_some, if_pos (of_eq_true (inb_T l2 (by decide))), ix_nI (by omega), sT1 _ _ _ l2]
  refine loop_run 8 (fun i => (spFrom i s a, nI i, setT M t a)) rfl (by omega) (fun i hi K => ?_) (fun K => ?_)
  · simp only [l_X6_earliestClock_12]
    have e : spFrom (i + 1) s a = if bit s i = true then mn (spFrom i s a) (a i) else spFrom i s a := rfl
    rw [e]
    generalize spFrom i s a = w
    by_cases h : bit s i = true
    · rw [if_pos h]
      simp (disch := first | omega | decide) only [↓reduceIte, la, lm, ra, rm_, rs, ss, rr, rd, nI_add, pk_mul, zadd, Nat.zero_add, Nat.add_zero, ix_nI, inb_T, inb_F, le_T, le_F, lt_T, lt_F, lle_T, lle_F, rle_T, rle_F, llt_T, llt_F, rlt_T, rlt_F, eq_n, if_true, if_false, not_true_eq_false, not_false_eq_true, wrt_def, bnd_some, upd_eq, upd_ne, sT1, sT2, sT3, sT4, sT5, sT6, sT6z, sT7, sTn, uT1, uT2, uT3, uT4, uT5, uT6, uT6z, uT7, imin_mn, j_X6_earliestClock_37]
      rw [if_neg (in_t h)]
    · rw [if_neg h]
      simp (disch := first | omega | decide) only [↓reduceIte, la, lm, ra, rm_, rs, ss, rr, rd, nI_add, pk_mul, zadd, Nat.zero_add, Nat.add_zero, ix_nI, inb_T, inb_F, le_T, le_F, lt_T, lt_F, lle_T, lle_F, rle_T, rle_F, llt_T, llt_F, rlt_T, rlt_F, eq_n, if_true, if_false, not_true_eq_false, not_false_eq_true, wrt_def, bnd_some, upd_eq, upd_ne, sT1, sT2, sT3, sT4, sT5, sT6, sT6z, sT7, sTn, uT1, uT2, uT3, uT4, uT5, uT6, uT6z, uT7, j_X6_earliestClock_37]
      rw [if_pos (in_f h)]
  · simp only [l_X6_earliestClock_12]
    simp (disch := first | omega | decide) only [↓reduceIte, la, lm, ra, rm_, rs, ss, rr, rd, nI_add, pk_mul, zadd, Nat.zero_add, Nat.add_zero, ix_nI, inb_T, inb_F, le_T, le_F, lt_T, lt_F, lle_T, lle_F, rle_T, rle_F, llt_T, llt_F, rlt_T, rlt_F, eq_n, if_true, if_false, not_true_eq_false, not_false_eq_true, wrt_def, bnd_some, upd_eq, upd_ne, sT1, sT2, sT3, sT4, sT5, sT6, sT6z, sT7, sTn, uT1, uT2, uT3, uT4, uT5, uT6, uT6z, uT7]
