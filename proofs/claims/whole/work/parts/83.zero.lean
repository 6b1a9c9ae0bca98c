/-! ===== banks that the program doesn't have ===== -/
theorem mx_ge (x y : Int32) : x ≤ mx x y := by
  rw [i32_le, mx_toInt]; omega
theorem mx_0 {x : Int32} (h : 0 ≤ x) : mx x 0 = x := by
  apply i32_ext
  rw [mx_toInt]
  have := i32_le.mp h
  have e0 : (0 : Int32).toInt = 0 := rfl
  omega
theorem spLat_nn (n : Nat) (s : Int32) (a : Nat → Int32) : 0 ≤ spLat n s a := by
  unfold spLat
  refine foldN_inv (fun v => (0 : Int32) ≤ v) 0 (Int32.le_refl _) (fun b hb v h => ?_)
  split
  · exact foldN_inv (fun v => (0 : Int32) ≤ v) _ (Int32.le_trans h (mx_ge _ _)) (fun r hr w hw => Int32.le_trans hw (mx_ge _ _))
  · exact h
/-- clocks and ready times of banks from nb on are 0 -/
def ZB (nb : Nat) (a : Nat → Int32) : Prop := ∀ b, nb ≤ b → b < 8 → a b = 0 ∧ ∀ r, r < 4 → a (8 + 4 * b + r) = 0
theorem spLat_z {nb : Nat} {s : Int32} {a : Nat → Int32} (hb : nb ≤ 8) (h : ZB nb a) : spLat 8 s a = spLat nb s a := by
  unfold spLat
  refine foldN_tail hb (fun v => (0 : Int32) ≤ v) 0 (spLat_nn nb s a) (fun i h1 h2 v hv => ?_)
  obtain ⟨z1, z2⟩ := h i h1 h2
  split
  · rw [z1, mx_0 hv, foldN_s, foldN_s, foldN_s, foldN_s, foldN_0, z2 0 (by omega), mx_0 hv, z2 1 (by omega), mx_0 hv, z2 2 (by omega), mx_0 hv, z2 3 (by omega), mx_0 hv]
  · rfl
/-- a batch changes no clock and no ready time of a bank that isn't in it -/
def isCR (b j : Nat) : Prop := j = b ∨ ∃ r, r < 4 ∧ j = 8 + 4 * b + r
theorem spAlone_o {p a : Nat → Int32} {b b2 c j : Nat} (hb : b < 8) (hb2 : b2 < 8) (hne : b2 ≠ b) (hr : rgN p c < 4) (hj : isCR b2 j) : spAlone p a b c j = a j := by
  have hj2 : j < 40 := by rcases hj with rfl | ⟨r, hr, rfl⟩ <;> omega
  have hjb : j ≠ b := by rcases hj with rfl | ⟨r, hr, rfl⟩ <;> omega
  have hjr : j ≠ 8 + 4 * b + rgN p c := by rcases hj with rfl | ⟨r, hr, rfl⟩ <;> omega
  have hH : spH p a b c j = a j := upd_ne _ _ (by omega)
  have hA : spA2 p a b c j = a j := by
    unfold spA2
    split
    · unfold spAct
      rw [upd_ne _ _ (by omega), upd_ne _ _ (by omega), upd_ne _ _ (by omega), upd_ne _ _ (by omega), upd_ne _ _ (by omega)]
      exact hH
    · exact hH
  unfold spAlone spEnd
  split
  · rw [upd_ne _ _ hjb]; exact hA
  · rw [upd_ne _ _ hjr, upd_ne _ _ hjb]; exact hA
theorem spJoint_o {p a : Nat → Int32} {nb kd rg b2 j : Nat} {s : Int32} (hb : nb ≤ 8) (hb2 : b2 < 8) (hs : ¬ bit s b2 = true) (hr : rg < 4) (hj : isCR b2 j) : spJoint p nb kd rg s a j = a j := by
  have hj2 : j < 40 := by rcases hj with rfl | ⟨r, hr, rfl⟩ <;> omega
  unfold spJoint spJ2
  refine foldN_inv (fun (a2 : Nat → Int32) => a2 j = a j) a rfl (fun b hb3 a2 h => ?_)
  split
  · rename_i hbit
    have hne : b2 ≠ b := fun z => hs (by rw [z]; exact hbit)
    have hjb : j ≠ b := by rcases hj with rfl | ⟨r, hr, rfl⟩ <;> omega
    have hjr : j ≠ 8 + 4 * b + rg := by rcases hj with rfl | ⟨r, hr, rfl⟩ <;> omega
    unfold spJ1
    split
    · rw [upd_ne _ _ hjr, upd_ne _ _ hjb, upd_ne _ _ (by omega)]; exact h
    · rw [upd_ne _ _ hjb, upd_ne _ _ (by omega)]; exact h
  · exact h
theorem spCmd_o {p a : Nat → Int32} {nb c b2 j : Nat} {s : Int32} (hb : nb ≤ 8) (hb2 : b2 < 8) (hs : ¬ bit s b2 = true) (hr : rgN p c < 4) (hj : isCR b2 j) : spCmd p nb s c a j = a j := by
  have hj2 : j < 40 := by rcases hj with rfl | ⟨r, hr, rfl⟩ <;> omega
  have h1 : (if jnt p c = true then spJoint p nb (kdN p c) (rgN p c) s a else a) j = a j := by
    split
    · exact spJoint_o hb hb2 hs hr hj
    · rfl
  unfold spCmd spC2
  refine foldN_inv (fun (a2 : Nat → Int32) => a2 j = a j) _ h1 (fun b hb3 a2 h => ?_)
  split
  · rename_i hbit
    have hne : b2 ≠ b := fun z => hs (by rw [z]; exact hbit)
    unfold spC1
    split
    · rw [upd_ne _ _ (by omega)]; exact h
    · rw [upd_ne _ _ (by omega), spAlone_o (by omega) hb2 hne hr hj]; exact h
  · exact h
theorem spBatch_z {p a : Nat → Int32} {bt : Nat} (hs : WFs p) (hw : WFb p bt) (h : ZB (ix (p 0)) a) : ZB (ix (p 0)) (spBatch p bt a) := by
  obtain ⟨-, -, hno, -, -, hr60, hr⟩ := hw
  obtain ⟨-, -, h08, -⟩ := hs
  intro b hb1 hb2
  have key : ∀ j, isCR b j → spBatch p bt a j = a j := by
    intro j hj
    unfold spBatch spRun
    refine foldN_inv (fun (a2 : Nat → Int32) => a2 j = a j) a rfl (fun i hi a2 h2 => ?_)
    rw [spCmd_o h08 hb2 (hno b hb1 hb2) (hr _ (by omega) (by omega)).2.2.2.1 hj]; exact h2
  obtain ⟨z1, z2⟩ := h b hb1 hb2
  exact ⟨by rw [key b (Or.inl rfl)]; exact z1, fun r hr2 => by rw [key _ (Or.inr ⟨r, hr2, rfl⟩)]; exact z2 r hr2⟩
theorem spQ_z {p a : Nat → Int32} {qb : Nat → Nat} {n : Nat} (hs : WFs p) (hw : ∀ i, i < n → WFb p (qb i)) (h : ZB (ix (p 0)) a) : ZB (ix (p 0)) (spQ p qb n a) := by
  unfold spQ
  induction n with
  | zero => exact h
  | succ n ih => rw [foldN_s]; exact spBatch_z hs (hw n (by omega)) (ih (fun i hi => hw i (by omega)))
