/-! ===== the reference keeps its state beside, and takes it back ===== -/
theorem m_keeps (M : Mem) : f_X10_keeps M = some (0, upA M 3 (fun j => if j < 1671 then M 1 j else M 3 j)) := by
  unfold f_X10_keeps
  have fb := foldBlk (d := 0) (n := 1671) (F := fun k f => upd f (0 + k) (M 1 k)) (G := fun k => M 1 k) (a := M 3) (fun k hk a2 h3 => rfl)
  have ef : (fun j => if j < 1671 then M 1 j else M 3 j) = foldN (fun k f => upd f (0 + k) (M 1 k)) 1671 (M 3) := by
    rw [fb]
    funext j
    by_cases q : j < 1671
    · rw [if_pos q, if_pos ⟨Nat.zero_le _, by omega⟩, Nat.sub_zero]
    · rw [if_neg q, if_neg (by omega)]
  rw [ef]
  refine loop_run 1671 (fun k => (nI k, upA M 3 (foldN (fun k f => upd f (0 + k) (M 1 k)) k (M 3)))) (by rw [foldN_0, upA_self]; rfl) (by omega) (fun k hk K => ?_) (fun K => ?_)
  · simp only [l_X10_keeps_2]
    rw [foldN_s]
    generalize foldN (fun k f => upd f (0 + k) (M 1 k)) k (M 3) = f
    simp (disch := first | omega | decide) only [↓reduceIte, la, lm, ra, rm_, rs, ss, rr, rd, nI_add, pk_mul, zadd, Nat.zero_add, Nat.add_zero, ix_nI, inb_T, inb_F, le_T, le_F, lt_T, lt_F, lle_T, lle_F, rle_T, rle_F, llt_T, llt_F, rlt_T, rlt_F, eq_n, if_true, if_false, not_true_eq_false, not_false_eq_true, wrt_def, bnd_some, up_as, upA_upA, upA_eq, upA_ne, up_upA, upd_eq, upd_ne]
  · simp only [l_X10_keeps_2]
    rw [if_pos (show (1671 : Int32) ≤ nI 1671 from nI_le (a := 1671) (Nat.le_refl _) (by decide))]
theorem m_back (M : Mem) : f_X10_comesBack M = some (0, upA M 1 (fun j => if j < 1671 then M 3 j else M 1 j)) := by
  unfold f_X10_comesBack
  have fb := foldBlk (d := 0) (n := 1671) (F := fun k f => upd f (0 + k) (M 3 k)) (G := fun k => M 3 k) (a := M 1) (fun k hk a2 h3 => rfl)
  have ef : (fun j => if j < 1671 then M 3 j else M 1 j) = foldN (fun k f => upd f (0 + k) (M 3 k)) 1671 (M 1) := by
    rw [fb]
    funext j
    by_cases q : j < 1671
    · rw [if_pos q, if_pos ⟨Nat.zero_le _, by omega⟩, Nat.sub_zero]
    · rw [if_neg q, if_neg (by omega)]
  rw [ef]
  refine loop_run 1671 (fun k => (nI k, upA M 1 (foldN (fun k f => upd f (0 + k) (M 3 k)) k (M 1)))) (by rw [foldN_0, upA_self]; rfl) (by omega) (fun k hk K => ?_) (fun K => ?_)
  · simp only [l_X10_comesBack_2]
    rw [foldN_s]
    generalize foldN (fun k f => upd f (0 + k) (M 3 k)) k (M 1) = f
    simp (disch := first | omega | decide) only [↓reduceIte, la, lm, ra, rm_, rs, ss, rr, rd, nI_add, pk_mul, zadd, Nat.zero_add, Nat.add_zero, ix_nI, inb_T, inb_F, le_T, le_F, lt_T, lt_F, lle_T, lle_F, rle_T, rle_F, llt_T, llt_F, rlt_T, rlt_F, eq_n, if_true, if_false, not_true_eq_false, not_false_eq_true, wrt_def, bnd_some, up_as, upA_upA, upA_eq, upA_ne, up_upA, upd_eq, upd_ne]
  · simp only [l_X10_comesBack_2]
    rw [if_pos (show (1671 : Int32) ≤ nI 1671 from nI_le (a := 1671) (Nat.le_refl _) (by decide))]
theorem spQ_hi {p a : Nat → Int32} {qb : Nat → Nat} {n j : Nat} (hs : WFs p) (hw : ∀ i, i < n → WFb p (qb i)) (hj : 160 ≤ j) : spQ p qb n a j = a j := by
  unfold spQ
  refine foldN_inv (fun (a2 : Nat → Int32) => a2 j = a j) a rfl (fun i hi a2 h => ?_)
  rw [spBatch_hi hs (hw i hi) hj]; exact h
theorem m_allTicks {M : Mem} {qb : Nat → Nat} {Q N : Nat} (hs : WFs (M 5)) (hQ : Q ≤ 16) (hq0 : M 1 1440 = nI Q) (hq : ∀ i, i < Q → M 1 (1441 + i) = nI (qb i) ∧ WFb (M 5) (qb i)) (hn : WFn N (M 1)) (hN : N + 480 * 17 < 2147483648) : f_X10_allTicks M = some (spLat (ix (M 5 0)) 255 (spQ (M 5) qb Q (M 1)), upA M 1 (spQ (M 5) qb Q (M 1))) := by
  obtain ⟨h0, -, h08, -⟩ := id hs
  have e5 : ∀ A, (upA M 1 A) 5 = M 5 := fun A => upA_ne _ _ (by decide)
  unfold f_X10_allTicks
  refine loop_run Q (fun i => (nI i, upA M 1 (spQ (M 5) qb i (M 1)))) (by rw [spQ, foldN_0, upA_self]; rfl) (by omega) (fun i hi K => ?_) (fun K => ?_)
  · simp only [l_X10_allTicks_2]
    have hh : ∀ j, 160 ≤ j → spQ (M 5) qb i (M 1) j = M 1 j := fun j hj => spQ_hi hs (fun k hk => (hq k (by omega)).2) hj
    have hni := spQ_n (qb := qb) (n := i) hs (fun j hj => (hq j (by omega)).2) hn (by omega)
    have e : spQ (M 5) qb (i + 1) (M 1) = spBatch (M 5) (qb i) (spQ (M 5) qb i (M 1)) := rfl
    rw [e]
    have ea : (1441 : Int32) + nI i = nI (1441 + i) := by rw [n1441, nI_add]
    have e40 := hh 1440 (by omega)
    have e41 := hh (1441 + i) (by omega)
    generalize spQ (M 5) qb i (M 1) = A at *
    have hN2 : N + 480 * i + 480 < 2147483648 := by omega
    have ht := m_ticks (M := upA M 1 A) (bt := qb i) (N := N + 480 * i) (by rw [e5]; exact hs) (by rw [e5]; exact (hq i hi).2) (by rw [upA_eq]; exact hni) hN2
    rw [e5, upA_upA, upA_eq] at ht
    rw [upA_eq, e40, hq0, if_neg (nI_ge hi (by omega)), ea, if_pos (of_eq_true (inb_T (by omega) (by decide))), ix_nI (by omega), e41, (hq i hi).1, ht, bnd_some, nI_1]
  · simp only [l_X10_allTicks_2]
    have e40 : spQ (M 5) qb Q (M 1) 1440 = M 1 1440 := spQ_hi hs (fun k hk => (hq k hk).2) (by omega)
    rw [upA_eq, e40, hq0, if_pos (nI_le (Nat.le_refl _) (by omega)), m_ends (nb := ix (M 5 0)) (by rw [e5]; exact h0) h08, bnd_some, upA_eq]
