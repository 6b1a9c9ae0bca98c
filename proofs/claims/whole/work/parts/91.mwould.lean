/-! ===== wouldFinish, the reference's side ===== -/
theorem back_keep {M : Mem} {a b : Nat → Int32} (h : ∀ j, 1671 ≤ j → b j = a j) : (fun j => if j < 1671 then (if j < 1671 then a j else M 3 j) else b j) = a := by
  funext j
  by_cases q : j < 1671
  · rw [if_pos q, if_pos q]
  · rw [if_neg q, h j (by omega)]
/-- the reference's memory with its state kept beside -/
def kpM (M : Mem) : Mem := upA M 3 (fun j => if j < 1671 then M 1 j else M 3 j)
theorem m_would {M : Mem} {qb : Nat → Nat} {Q N : Nat} (ht : M 0 0 = 0) (hs : WFs (M 5)) (hQ : Q ≤ 16) (hq0 : M 1 1440 = nI Q) (hq : ∀ i, i < Q → M 1 (1441 + i) = nI (qb i) ∧ WFb (M 5) (qb i)) (hn : WFn N (M 1)) (hN : N + 480 * 17 < 2147483648) : bnd (f_X10_keeps M) (fun _ M7 => bnd (f_X10_allTicks M7) (fun v8 M9 => j_X10_wouldFinish_52 M9)) = some (spLat (ix (M 5 0)) 255 (spQ (M 5) qb Q (M 1)), kpM M) := by
  obtain ⟨h0, -, h08, -⟩ := id hs
  rw [m_keeps, bnd_some]
  have k1 : (kpM M) 1 = M 1 := upA_ne _ _ (by decide)
  have k5 : (kpM M) 5 = M 5 := upA_ne _ _ (by decide)
  have e : upA M 3 (fun j => if j < 1671 then M 1 j else M 3 j) = kpM M := rfl
  rw [e]
  have ha := m_allTicks (M := kpM M) (qb := qb) (Q := Q) (N := N) (by rw [k5]; exact hs) hQ (by rw [k1]; exact hq0) (by rw [k1, k5]; exact hq) (by rw [k1]; exact hn) hN
  rw [k1, k5] at ha
  rw [ha, bnd_some]
  unfold j_X10_wouldFinish_52
  have e5 : (upA (kpM M) 1 (spQ (M 5) qb Q (M 1))) 5 = M 5 := by rw [upA_ne _ _ (by decide)]; exact k5
  rw [m_ends (nb := ix (M 5 0)) (by rw [e5]; exact h0) h08, bnd_some, upA_eq, m_back, bnd_some, upA_eq, upA_upA]
  have e3 : (upA (kpM M) 1 (spQ (M 5) qb Q (M 1))) 3 = fun j => if j < 1671 then M 1 j else M 3 j := by rw [upA_ne _ _ (by decide)]; exact upA_eq _ _ _
  rw [e3, back_keep (fun j hj => spQ_hi hs (fun i hi => (hq i hi).2) (by omega))]
  have : upA (kpM M) 1 (M 1) = kpM M := by
    have := upA_self (kpM M) 1
    rw [k1] at this
    exact this
  rw [this]
