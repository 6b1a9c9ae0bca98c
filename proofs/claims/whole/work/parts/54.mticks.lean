/-! a batch -/
/-- counts of activations below a bound -/
def WFn (N : Nat) (a : Nat → Int32) : Prop := ∀ b, b < 8 → a (48 + b) = nI (ix (a (48 + b))) ∧ ix (a (48 + b)) ≤ N
theorem WFn.mono {N N2 : Nat} {a : Nat → Int32} (h : WFn N a) (hn : N ≤ N2) : WFn N2 a := fun b hb => ⟨(h b hb).1, Nat.le_trans (h b hb).2 hn⟩
theorem WFn.of {N : Nat} {a a2 : Nat → Int32} (h : WFn N a) (e : ∀ b, b < 8 → a2 (48 + b) = a (48 + b)) : WFn N a2 := fun b hb => by rw [e b hb]; exact h b hb
theorem spH_48 (p a : Nat → Int32) {b c i : Nat} (hb : b < 8) (hi : i < 8) : spH p a b c (48 + i) = a (48 + i) := upd_ne _ _ (by omega)
theorem spEnd_48 (p a : Nat → Int32) {b c i : Nat} (t : Int32) (hb : b < 8) (hi : i < 8) (hr : rgN p c < 4) : spEnd p a b c t (48 + i) = a (48 + i) := by
  unfold spEnd
  split
  · exact upd_ne _ _ (by omega)
  · rw [upd_ne _ _ (by omega), upd_ne _ _ (by omega)]
theorem spAlone_n {p a : Nat → Int32} {N b c : Nat} (h : WFn N a) (hN : N + 1 < 2147483648) (hb : b < 8) (hr : rgN p c < 4) : WFn (N + 1) (spAlone p a b c) := by
  intro i hi
  unfold spAlone
  rw [spEnd_48 p _ _ hb hi hr]
  unfold spA2
  obtain ⟨e1, e2⟩ := h i hi
  split
  · have m8 : ix (spH p a b c (48 + b)) % 8 < 8 := Nat.mod_lt _ (by decide)
    unfold spAct
    rw [upd_ne _ _ (show 48 + i ≠ 40 + b by omega)]
    by_cases q : i = b
    · subst q
      rw [upd_eq, spH_48 p a hb hb, e1, n1, nI_add, ix_nI (by omega)]
      exact ⟨rfl, by omega⟩
    · rw [upd_ne _ _ (show 48 + i ≠ 48 + b by omega), upd_ne _ _ (by omega), upd_ne _ _ (by omega), upd_ne _ _ (by omega), spH_48 p a hb hi]
      exact ⟨e1, by omega⟩
  · rw [spH_48 p a hb hi]
    exact ⟨e1, by omega⟩
theorem spJ1_48 {kd rg : Nat} {s t to : Int32} {a : Nat → Int32} {b i : Nat} (hb : b < 8) (hi : i < 8) (hr : rg < 4) : spJ1 kd rg s t to b a (48 + i) = a (48 + i) := by
  unfold spJ1
  split
  · rw [upd_ne _ _ (by omega), upd_ne _ _ (by omega), upd_ne _ _ (by omega)]
  · rw [upd_ne _ _ (by omega), upd_ne _ _ (by omega)]
theorem spJoint_48 {p : Nat → Int32} {nb kd rg : Nat} {s : Int32} {a : Nat → Int32} {i : Nat} (hb : nb ≤ 8) (hi : i < 8) (hr : rg < 4) : spJoint p nb kd rg s a (48 + i) = a (48 + i) := by
  unfold spJoint spJ2
  refine foldN_inv (fun a2 => a2 (48 + i) = a (48 + i)) a rfl (fun b hb2 a2 h => ?_)
  split
  · rw [spJ1_48 (by omega) hi hr]; exact h
  · exact h
/-- is it a command of several banks? -/
def jnt (p : Nat → Int32) (c : Nat) : Bool := decide (kdN p c = 4 ∨ kdN p c = 6 ∨ kdN p c = 7)
def spC1 (p : Nat → Int32) (c b : Nat) (a : Nat → Int32) : Nat → Int32 := if jnt p c = true then upd a (152 + b) (a (152 + b) + 1) else upd (spAlone p a b c) (152 + b) (spAlone p a b c (152 + b) + 1)
def spC2 (p : Nat → Int32) (s : Int32) (c n : Nat) (a : Nat → Int32) : Nat → Int32 := foldN (fun b a => if bit s b = true then spC1 p c b a else a) n a
/-- a command -/
def spCmd (p : Nat → Int32) (nb : Nat) (s : Int32) (c : Nat) (a : Nat → Int32) : Nat → Int32 := spC2 p s c nb (if jnt p c = true then spJoint p nb (kdN p c) (rgN p c) s a else a)
/-- a batch: its banks, its first command, how many -/
def setN (p : Nat → Int32) (bt : Nat) : Int32 := p (14 + 3 * bt)
def fstN (p : Nat → Int32) (bt : Nat) : Nat := ix (p (14 + 3 * bt + 1))
def lenN (p : Nat → Int32) (bt : Nat) : Nat := ix (p (14 + 3 * bt + 2))
def spRun (p : Nat → Int32) (nb : Nat) (s : Int32) (f n : Nat) (a : Nat → Int32) : Nat → Int32 := foldN (fun i a => spCmd p nb s (f + i) a) n a
def spBatch (p : Nat → Int32) (bt : Nat) (a : Nat → Int32) : Nat → Int32 := spRun p (ix (p 0)) (setN p bt) (fstN p bt) (lenN p bt) a
theorem spC2_n {p : Nat → Int32} {s : Int32} {c n N : Nat} {a : Nat → Int32} (h : WFn N a) (hn : n ≤ 8) (hN : N + n < 2147483648) (hr : rgN p c < 4) : WFn (N + n) (spC2 p s c n a) := by
  unfold spC2
  induction n with
  | zero => exact h
  | succ n ih =>
    have ih := ih (by omega) (by omega)
    rw [foldN_s]
    generalize foldN _ n a = a2 at ih
    split
    · unfold spC1
      split
      · exact (ih.mono (by omega)).of (fun b hb => upd_ne _ _ (show 48 + b ≠ 152 + n by omega))
      · exact (spAlone_n (b := n) ih (by omega) (by omega) hr).of (fun b hb => upd_ne _ _ (show 48 + b ≠ 152 + n by omega))
    · exact ih.mono (by omega)
theorem spCmd_n {p : Nat → Int32} {nb : Nat} {s : Int32} {c N : Nat} {a : Nat → Int32} (h : WFn N a) (hn : nb ≤ 8) (hN : N + 8 < 2147483648) (hr : rgN p c < 4) : WFn (N + 8) (spCmd p nb s c a) := by
  unfold spCmd
  have h1 : WFn N (if jnt p c = true then spJoint p nb (kdN p c) (rgN p c) s a else a) := by
    split
    · exact h.of (fun b hb => spJoint_48 hn hb hr)
    · exact h
  exact (spC2_n h1 hn (by omega) hr).mono (by omega)
/-- a program whose commands from f to f + n are as the parser makes them -/
def WFr (p : Nat → Int32) (f n : Nat) : Prop := f + n ≤ 60 ∧ ∀ c, f ≤ c → c < f + n → WFc p c
theorem spRun_n {p : Nat → Int32} {nb : Nat} {s : Int32} {f n N : Nat} {a : Nat → Int32} (h : WFn N a) (hn : nb ≤ 8) (hN : N + 8 * n < 2147483648) (hw : WFr p f n) : WFn (N + 8 * n) (spRun p nb s f n a) := by
  unfold spRun
  induction n with
  | zero => exact h
  | succ n ih =>
    have ih := ih (by omega) ⟨by have := hw.1; omega, fun c h1 h2 => hw.2 c h1 (by omega)⟩
    rw [foldN_s]
    exact (spCmd_n ih hn (by omega) (hw.2 (f + n) (by omega) (by omega)).2.2.2.1).mono (by omega)
/-- what is known of a batch -/
def WFb (p : Nat → Int32) (bt : Nat) : Prop := bt < 12 ∧ (∃ b, b < 8 ∧ bit (setN p bt) b = true) ∧ (∀ b, ix (p 0) ≤ b → b < 8 → ¬ bit (setN p bt) b = true) ∧ p (14 + 3 * bt + 1) = nI (fstN p bt) ∧ p (14 + 3 * bt + 2) = nI (lenN p bt) ∧ WFr p (fstN p bt) (lenN p bt)
theorem m_ticks {M : Mem} {bt N : Nat} (hs : WFs (M 5)) (hw : WFb (M 5) bt) (ha : WFn N (M 1)) (hN : N + 480 < 2147483648) : f_X10_ticks (nI bt) M = some (0, upA M 1 (spBatch (M 5) bt (M 1))) := by
  obtain ⟨h12, hset, -, hf, hl, hr60, hr⟩ := hw
  obtain ⟨h0, h01, h08, -⟩ := id hs
  unfold f_X10_ticks
  rw [m_banksOf M h12, bnd_some, m_firstOf M h12, bnd_some]
  unfold spBatch
  change loopC (l_X10_ticks_12 (nI bt) (setN (M 5) bt)) fuelL (M 5 (14 + 3 * bt + 1), M) = _
  generalize hsN : setN (M 5) bt = s at hset
  generalize hfN : fstN (M 5) bt = f at hf hr60 hr
  generalize hlN : lenN (M 5) bt = n at hl hr60 hr
  generalize hnb : ix (M 5 0) = nb at h0 h01 h08
  have hn := fun i (hi : i ≤ n) => spRun_n (p := M 5) (nb := nb) (s := s) (f := f) (n := i) ha h08 (by omega) ⟨by omega, fun c h1 h2 => hr c h1 (by omega)⟩
  refine loop_run n (fun i => (nI (f + i), upA M 1 (spRun (M 5) nb s f i (M 1)))) (by rw [hf, spRun, foldN_0, upA_self]; rfl) (by omega) (fun i hi K => ?_) (fun K => ?_)
  · simp only [l_X10_ticks_12]
    have e : spRun (M 5) nb s f (i + 1) (M 1) = spCmd (M 5) nb s (f + i) (spRun (M 5) nb s f i (M 1)) := rfl
    have hni := hn i (by omega)
    rw [e]
    generalize spRun (M 5) nb s f i (M 1) = a at hni
    have hc := hr (f + i) (by omega) (by omega)
    have hrg := hc.2.2.2.1
    have hkl := kd_lt (M 5) (f + i)
    have e5 : (upA M 1 a) 5 = M 5 := upA_ne _ _ (by decide)
    have hE : f_X10_endOf (nI bt) (upA M 1 a) = some (nI (f + n), upA M 1 a) := by
      rw [m_endOf _ h12, e5, hf, hl, nI_add]
    have hK := mm_kindOf (M := upA M 1 a) (c := f + i) (by omega) (by rw [e5]; exact hc)
    rw [e5] at hK
    simp (disch := first | omega | decide) only [la, lm, ra, rm_, rs, ss, rr, rd, nI_add, pk_mul, zadd, Nat.zero_add, Nat.add_zero, ix_nI, inb_T, inb_F, le_T, le_F, lt_T, lt_F, lle_T, lle_F, rle_T, rle_F, llt_T, llt_F, rlt_T, rlt_F, eq_n, if_true, if_false, not_true_eq_false, not_false_eq_true, wrt_def, bnd_some, up_as, upA_upA, upA_eq, upA_ne, up_upA, upd_eq, upd_ne, hE, hK]
    have hz : (if kdN (M 5) (f + i) = 4 then (1 : Int32) else if kdN (M 5) (f + i) = 6 then 1 else if ¬ kdN (M 5) (f + i) = 7 then 0 else 1) = if jnt (M 5) (f + i) = true then 1 else 0 := by
      unfold jnt
      by_cases q4 : kdN (M 5) (f + i) = 4
      · simp [q4]
      · by_cases q6 : kdN (M 5) (f + i) = 6
        · simp [q6]
        · by_cases q7 : kdN (M 5) (f + i) = 7 <;> simp [q4, q6, q7]
    rw [hz]
    -- the banks, one by one
    have hL : ∀ (z : Int32) (a1 : Nat → Int32), WFn (N + 8 * i) a1 → (z = if jnt (M 5) (f + i) = true then 1 else 0) → j_X10_ticks_66 (nI bt) s (nI (f + i)) z K (upA M 1 a1) = K (nI (f + i + 1), upA M 1 (spC2 (M 5) s (f + i) nb a1)) := by
      intro z a1 hn1 hzz
      unfold j_X10_ticks_66
      refine loop_run nb (fun j => (nI j, upA M 1 (spC2 (M 5) s (f + i) j a1))) rfl (by omega) (fun j hj K2 => ?_) (fun K2 => ?_)
      · simp only [l_X10_ticks_69]
        have hnj := spC2_n (p := M 5) (s := s) (c := f + i) (n := j) hn1 (by omega) (by omega) hrg
        by_cases q : bit s j = true
        · have e2 : spC2 (M 5) s (f + i) (j + 1) a1 = spC1 (M 5) (f + i) j (spC2 (M 5) s (f + i) j a1) := by unfold spC2; rw [foldN_s, if_pos q]
          rw [e2]
          generalize spC2 (M 5) s (f + i) j a1 = a2 at hnj
          have e25 : (upA M 1 a2) 5 = M 5 := upA_ne _ _ (by decide)
          have hT := has_t q
          unfold spC1
          by_cases hjn : jnt (M 5) (f + i) = true
          · rw [hzz, if_pos hjn, if_pos hjn]
            simp (disch := first | omega | decide) only [la, lm, ra, rm_, rs, ss, rr, rd, nI_add, pk_mul, zadd, Nat.zero_add, Nat.add_zero, ix_nI, inb_T, inb_F, le_T, le_F, lt_T, lt_F, lle_T, lle_F, rle_T, rle_F, llt_T, llt_F, rlt_T, rlt_F, eq_n, if_true, if_false, not_true_eq_false, not_false_eq_true, wrt_def, bnd_some, up_as, upA_upA, upA_eq, upA_ne, up_upA, upd_eq, upd_ne, h0, j_X10_ticks_104, j_X10_ticks_119]
            try rw [if_pos hT, if_pos (by decide)]
            try rw [if_pos hT]
          · have hk : kdN (M 5) (f + i) ≠ 4 ∧ kdN (M 5) (f + i) ≠ 6 ∧ kdN (M 5) (f + i) ≠ 7 := by
              unfold jnt at hjn
              simp at hjn
              exact hjn
            have hA := m_alone (M := upA M 1 a2) (b := j) (c := f + i) (by omega) (by omega) (by rw [e25]; exact hc) (by rw [e25]; exact hs) (by rw [upA_eq, (hnj j (by omega)).1]; exact nI_pos (by have := (hnj j (by omega)).2; omega)) (by rw [e25]; exact hk)
            rw [e25, upA_upA, upA_eq] at hA
            rw [hzz, if_neg hjn, if_neg hjn]
            simp (disch := first | omega | decide) only [la, lm, ra, rm_, rs, ss, rr, rd, nI_add, pk_mul, zadd, Nat.zero_add, Nat.add_zero, ix_nI, inb_T, inb_F, le_T, le_F, lt_T, lt_F, lle_T, lle_F, rle_T, rle_F, llt_T, llt_F, rlt_T, rlt_F, eq_n, if_true, if_false, not_true_eq_false, not_false_eq_true, wrt_def, bnd_some, up_as, upA_upA, upA_eq, upA_ne, up_upA, upd_eq, upd_ne, h0, hA, j_X10_ticks_104, j_X10_ticks_119]
            rw [if_pos hT]
        · have e2 : spC2 (M 5) s (f + i) (j + 1) a1 = spC2 (M 5) s (f + i) j a1 := by unfold spC2; rw [foldN_s, if_neg q]
          rw [e2]
          have hF := has_f q
          simp (disch := first | omega | decide) only [la, lm, ra, rm_, rs, ss, rr, rd, nI_add, pk_mul, zadd, Nat.zero_add, Nat.add_zero, ix_nI, inb_T, inb_F, le_T, le_F, lt_T, lt_F, lle_T, lle_F, rle_T, rle_F, llt_T, llt_F, rlt_T, rlt_F, eq_n, if_true, if_false, not_true_eq_false, not_false_eq_true, wrt_def, bnd_some, up_as, upA_upA, upA_eq, upA_ne, up_upA, upd_eq, upd_ne, h0, j_X10_ticks_119]
          rw [if_neg hF]
      · simp only [l_X10_ticks_69]
        simp (disch := first | omega | decide) only [la, lm, ra, rm_, rs, ss, rr, rd, nI_add, pk_mul, zadd, Nat.zero_add, Nat.add_zero, ix_nI, inb_T, inb_F, le_T, le_F, lt_T, lt_F, lle_T, lle_F, rle_T, rle_F, llt_T, llt_F, rlt_T, rlt_F, eq_n, if_true, if_false, not_true_eq_false, not_false_eq_true, wrt_def, bnd_some, up_as, upA_upA, upA_eq, upA_ne, up_upA, upd_eq, upd_ne, h0]
    unfold spCmd
    by_cases hjn : jnt (M 5) (f + i) = true
    · have hk : kdN (M 5) (f + i) = 4 ∨ kdN (M 5) (f + i) = 6 ∨ kdN (M 5) (f + i) = 7 := of_decide_eq_true hjn
      have hJ := m_allAtOnce (M := upA M 1 a) (nb := nb) (c := f + i) (by rw [e5]; exact h0) h08 (by omega) (by rw [e5]; exact hc) (by rw [e5]; exact hk) hset
      rw [e5, upA_upA, upA_eq] at hJ
      rw [if_pos hjn, if_pos hjn, if_neg (by decide), hJ, bnd_some]
      exact hL 1 _ (hni.of (fun b hb => spJoint_48 h08 hb hrg)) (by rw [if_pos hjn])
    · rw [if_neg hjn, if_neg hjn, if_pos rfl]
      exact hL 0 _ hni (by rw [if_neg hjn])
  · simp only [l_X10_ticks_12]
    have e5 : (upA M 1 (spRun (M 5) nb s f n (M 1))) 5 = M 5 := upA_ne _ _ (by decide)
    have hE : f_X10_endOf (nI bt) (upA M 1 (spRun (M 5) nb s f n (M 1))) = some (nI (f + n), upA M 1 (spRun (M 5) nb s f n (M 1))) := by
      rw [m_endOf _ h12, e5, hf, hl, nI_add]
    simp (disch := first | omega | decide) only [la, lm, ra, rm_, rs, ss, rr, rd, nI_add, pk_mul, zadd, Nat.zero_add, Nat.add_zero, ix_nI, inb_T, inb_F, le_T, le_F, lt_T, lt_F, lle_T, lle_F, rle_T, rle_F, llt_T, llt_F, rlt_T, rlt_F, eq_n, if_true, if_false, not_true_eq_false, not_false_eq_true, wrt_def, bnd_some, up_as, upA_upA, upA_eq, upA_ne, up_upA, upd_eq, upd_ne, hE]
