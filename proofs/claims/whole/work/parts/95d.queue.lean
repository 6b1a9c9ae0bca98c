/-! ===== the text, the queue, predictions ===== -/
section QU
variable {Mx Mm : Mem} {m : Nat}
theorem s_truncate (h : Inv m Mx Mm) (x : Int32) : CallR m [eIO] (f_X9_truncate x Mx) (f_X10_truncate x Mm) := by
  obtain ⟨M1, e1, t0, hI⟩ := inv_0 h
  obtain ⟨pr, nB, hP, hS, hL, hk, ⟨L, l1, l2, l3, l4⟩, hE, hpl⟩ := id hI
  unfold f_X10_truncate f_X9_truncate j_X9_truncate_12
  rw [e1, wrt_def M1, l2, l3]
  by_cases hx : okN x (L + 1)
  · obtain ⟨k, hk1, rfl⟩ := id hx
    rw [if_neg (nI_pos (by omega)), if_pos (nI_le (by omega) (by omega)), wrt_def, show p_X10_isIn (nI k) 0 (nI L) = 1 from m_isIn_T (nI_le (a := 0) (by omega) (by omega)) (nI_le (by omega) (by omega)), may_T t0, bnd_some, if_pos ne10, wrt_def, up_eq]
    refine stp_ok (nI k) _ _ rfl rfl (by rw [up_i _ _ (by decide)]; exact t0) ?_
    have hk := hI.next
    obtain ⟨pr, nB, hP, hS, hL, hk, -, hE, hpl⟩ := hk
    have c0 : ∀ c, c ≠ 0 → (up Mx 0 1 (nI k)) c = Mx c := fun c hc => up_a _ _ _ hc
    have d0 : ∀ c, c ≠ 0 → (up M1 0 8 (nI k)) c = M1 c := fun c hc => up_a _ _ _ hc
    refine ⟨pr, nB, hP.of (up_i _ _ (by decide)) (up_i _ _ (by decide)) (fun c h1 h2 => c0 c (by omega)) (d0 5 (by omega)), ?_, fun s hs => ?_, ?_, ⟨k, by omega, up_eq _ _ _ _, up_eq _ _ _ _, fun i hi => by rw [c0 1 (by omega), d0 7 (by omega)]; exact l4 i hi⟩, ⟨?_, ?_⟩, ?_⟩
    · rw [d0 5 (by omega), d0 1 (by omega)]; exact hS.of hP.c8 (Nat.le_refl _) (fun c h1 h2 => c0 c (by omega)) (fun _ _ => rfl)
    · rw [d0 5 (by omega)]; exact (hL s hs).of hP.c8 hs (Nat.le_refl _) (up_i _ _ (by decide)) (fun c h1 h2 => c0 c (by omega)) (d0 4 (by omega)) (d0 2 (by omega))
    · rw [up_i _ _ (by decide)]; exact hk
    · rw [up_i _ _ (by decide), up_i _ _ (by decide)]; exact hE.1
    · rw [up_i _ _ (by decide), up_i _ _ (by decide)]; exact hE.2
    · rw [d0 5 (by omega), d0 1 (by omega)]; exact hpl.of (c0 _ (by omega)) (c0 _ (by omega)) (fun _ _ => rfl) (fun _ _ _ => rfl)
  · have e : p_X10_isIn x 0 (nI L) = 0 := by
      refine m_isIn_F (fun ⟨z1, z2⟩ => ?_)
      have h3 : ¬ x < 0 := i32_nlt.mpr z1
      obtain ⟨q1, q2⟩ := nn_ix h3
      refine hx ⟨ix x, ?_, q1⟩
      by_cases q : ix x < L + 1
      · exact q
      · rw [q1] at z2
        exact absurd z2 (nI_ge (by omega) q2)
    rw [e, may_F1 t0, bnd_some, if_neg nn00]
    refine stp_ex 0 eIO rfl ?_ rfl hI
    by_cases q : x < 0
    · rw [if_pos q]
    · rw [if_neg q, if_neg]
      intro z2
      have := m_isIn_T (i32_nlt.mp q) z2
      rw [e] at this
      exact absurd this (by decide)
/-- the same number of bits: a byte of a word -/
theorem byte_eq (x : Int32) : (x >>> ((24 : Int32) &&& 31)) &&& 255 = ushr x 24 &&& 255 ∧ (x >>> ((16 : Int32) &&& 31)) &&& 255 = ushr x 16 &&& 255 ∧ (x >>> ((8 : Int32) &&& 31)) &&& 255 = ushr x 8 &&& 255 ∧ (x >>> ((0 : Int32) &&& 31)) &&& 255 = ushr x 0 &&& 255 := by
  have key : ∀ n : Nat, n ≤ 24 → (x.toBitVec.sshiftRight n) &&& 255#32 = (x.toBitVec >>> n) &&& 255#32 := by
    intro n hn
    apply BitVec.eq_of_getLsbD_eq
    intro i hi
    rw [BitVec.getLsbD_and, BitVec.getLsbD_and, BitVec.getLsbD_sshiftRight, BitVec.getLsbD_ushiftRight]
    by_cases h8 : i < 8
    · have h1 : n + i < 32 := by omega
      rw [if_pos h1, decide_eq_false (show ¬ 32 ≤ i by omega), Bool.not_false, Bool.true_and]
    · have : (255#32).getLsbD i = false := by
        have e : ∀ j, j < 32 → 8 ≤ j → (255#32).getLsbD j = false := by decide
        exact e i hi (by omega)
      rw [this, Bool.and_false, Bool.and_false]
  refine ⟨?_, ?_, ?_, ?_⟩
  · exact Int32.toBitVec_inj.1 (key 24 (by omega))
  · exact Int32.toBitVec_inj.1 (key 16 (by omega))
  · exact Int32.toBitVec_inj.1 (key 8 (by omega))
  · exact Int32.toBitVec_inj.1 (key 0 (by omega))
theorem ushr_byte (x : Int32) (s : Int32) : ∃ y, y < 256 ∧ ushr x s &&& 255 = nI y := by
  obtain ⟨j, h1, h2⟩ := pk_andE (ushr x s) (m := 255) 8 (by decide)
  exact ⟨j, by omega, h2⟩
/-- the bytes of a word -/
def byN (x : Int32) (k : Nat) : Int32 := ushr x (nI (24 - 8 * k)) &&& 255
theorem x_bytes {M : Mem} {L : Nat} (x : Int32) (hL : M 0 1 = nI L) (h : L + 4 ≤ 900) : f_X9_appendBytes x M = some (0, upA (up M 0 1 (nI (L + 4))) 1 (fun i => if L ≤ i ∧ i < L + 4 then byN x (i - L) else M 1 i)) := by
  unfold f_X9_appendBytes
  refine loop_run 4 (fun k => (24 - nI (8 * k), upA (up M 0 1 (nI (L + k))) 1 (fun i => if L ≤ i ∧ i < L + k then byN x (i - L) else M 1 i))) ?_ (by omega) (fun k hk K => ?_) (fun K => ?_)
  · have : (fun i => if L ≤ i ∧ i < L + 0 then byN x (i - L) else M 1 i) = M 1 := by
      funext i
      rw [if_neg (by omega)]
    have e : up M 0 1 (M 0 1) = M := by
      rw [up_as]
      have : upd (M 0) 1 (M 0 1) = M 0 := by
        funext j
        by_cases z : j = 1
        · rw [z, upd_eq]
        · rw [upd_ne _ _ z]
      rw [this, upA_self]
    show (24, M) = (24 - nI (8 * 0), upA (up M 0 1 (nI (L + 0))) 1 (fun i => if L ≤ i ∧ i < L + 0 then byN x (i - L) else M 1 i))
    rw [this, Nat.add_zero, ← hL, e, upA_self]
    rfl
  · simp only [l_X9_appendBytes_3]
    have e24 : (24 : Int32) - nI (8 * k) = nI (24 - 8 * k) := ss (a := 24) (by omega)
    have e01 : (upA (up M 0 1 (nI (L + k))) 1 (fun i => if L ≤ i ∧ i < L + k then byN x (i - L) else M 1 i)) 0 1 = nI (L + k) := by rw [upA_ne _ _ (by omega), up_eq]
    rw [e24, if_neg (nI_pos (by omega)), e01, if_pos (of_eq_true (inb_T (by first | omega | (unfold wdP; omega) | (unfold lnP; omega) | (unfold cl; omega)) (by omega))), ix_nI (by omega), wrt_def, wrt_def]
    have e2 : nI (24 - 8 * k) + -8 = 24 - nI (8 * (k + 1)) := by
      have : ∀ k, k < 4 → nI (24 - 8 * k) + -8 = 24 - nI (8 * (k + 1)) := by decide +kernel
      exact this k hk
    rw [e2]
    refine congrArg (fun z => K (24 - nI (8 * (k + 1)), z)) ?_
    have e3 : (up (upA (up M 0 1 (nI (L + k))) 1 (fun i => if L ≤ i ∧ i < L + k then byN x (i - L) else M 1 i)) 1 (L + k) (ushr x (nI (24 - 8 * k)) &&& 255)) 0 1 = nI (L + k) := by rw [up_a _ _ _ (by omega)]; exact e01
    rw [e3, up_upA, n1, nI_add, up_as, upA_ne _ _ (by omega), upA_comm _ _ _ (by omega), up_as M 0 1, upA_upA, upA_eq, up_as M 0 1]
    have eA : ∀ (f g f2 g2 : Nat → Int32), f = f2 → g = g2 → upA (upA M 0 f) 1 g = upA (upA M 0 f2) 1 g2 := fun f g f2 g2 h1 h2 => by rw [h1, h2]
    refine eA _ _ _ _ ?_ ?_
    · funext j
      by_cases z : j = 1
      · rw [z, upd_eq, upd_eq, Nat.add_assoc]
      · rw [upd_ne _ _ z, upd_ne _ _ z, upd_ne _ _ z]
    · funext i
      by_cases z : i = L + k
      · rw [z, upd_eq, if_pos (by omega), show L + k - L = k by omega]
        rfl
      · rw [upd_ne _ _ z]
        by_cases z2 : L ≤ i ∧ i < L + k
        · rw [if_pos z2, if_pos (by omega)]
        · rw [if_neg z2, if_neg (by omega)]
  · simp only [l_X9_appendBytes_3]
    rw [if_pos (by decide)]
theorem x_bytesE {M : Mem} {L : Nat} (x : Int32) (hL : M 0 1 = nI L) (h : L + 4 ≤ 900) : ∃ M2, f_X9_appendBytes x M = some (0, M2) ∧ M2 0 1 = nI (L + 4) ∧ (∀ j, j ≠ 1 → M2 0 j = M 0 j) ∧ (∀ i, M2 1 i = if L ≤ i ∧ i < L + 4 then byN x (i - L) else M 1 i) ∧ ∀ c, 2 ≤ c → M2 c = M c := by
  refine ⟨_, x_bytes x hL h, by rw [upA_ne _ _ (by omega), up_eq], fun j hj => by rw [upA_ne _ _ (by omega), up_i _ _ hj], fun i => by rw [upA_eq], fun c hc => by rw [upA_ne _ _ (by omega), up_a _ _ _ (by omega)]⟩
/-- byte k of the five words -/
def byT (x1 x2 x3 x4 x5 : Int32) (k : Nat) : Int32 := byN (if k < 4 then x1 else if k < 8 then x2 else if k < 12 then x3 else if k < 16 then x4 else x5) (k % 4)
theorem x_append {M : Mem} {L : Nat} (x1 x2 x3 x4 x5 : Int32) (hL : M 0 1 = nI L) (h : L + 20 ≤ 900) : ∃ M2, f_X9_append x1 x2 x3 x4 x5 M = some (rOk (nI (L + 20)), M2) ∧ M2 0 1 = nI (L + 20) ∧ (∀ j, j ≠ 1 → M2 0 j = M 0 j) ∧ (∀ i, M2 1 i = if L ≤ i ∧ i < L + 20 then byT x1 x2 x3 x4 x5 (i - L) else M 1 i) ∧ ∀ c, 2 ≤ c → M2 c = M c := by
  obtain ⟨M1, a1, a2, a3, a4, a5⟩ := x_bytesE x1 hL (by omega)
  obtain ⟨M2, b1, b2, b3, b4, b5⟩ := x_bytesE x2 a2 (by omega)
  obtain ⟨M3, c1, c2, c3, c4, c5⟩ := x_bytesE x3 b2 (by omega)
  obtain ⟨M4, d1, d2, d3, d4, d5⟩ := x_bytesE x4 c2 (by omega)
  obtain ⟨M5, e1, e2, e3, e4, e5⟩ := x_bytesE x5 d2 (by omega)
  refine ⟨M5, ?_, by rw [e2], fun j hj => by rw [e3 j hj, d3 j hj, c3 j hj, b3 j hj, a3 j hj], fun i => ?_, fun c hc => by rw [e5 c hc, d5 c hc, c5 c hc, b5 c hc, a5 c hc]⟩
  · unfold f_X9_append
    rw [hL, if_pos (show nI L ≤ 880 from nI_le (b := 880) (by omega) (by omega)), a1, bnd_some, b1, bnd_some, c1, bnd_some, d1, bnd_some, e1, bnd_some, e2]
  · rw [e4, d4, c4, b4, a4]
    unfold byT
    by_cases z : L ≤ i ∧ i < L + 20
    · rw [if_pos z]
      obtain ⟨k, rfl⟩ : ∃ k, i = L + k := ⟨i - L, by omega⟩
      rw [show L + k - L = k by omega]
      rcases (show k < 4 ∨ (4 ≤ k ∧ k < 8) ∨ (8 ≤ k ∧ k < 12) ∨ (12 ≤ k ∧ k < 16) ∨ 16 ≤ k by omega) with q | q | q | q | q
      · rw [if_neg (by omega), if_neg (by omega), if_neg (by omega), if_neg (by omega), if_pos (by omega), if_pos q, show k % 4 = k by omega]
      · rw [if_neg (by omega), if_neg (by omega), if_neg (by omega), if_pos (by omega), if_neg (by omega), if_pos (by omega), show k % 4 = L + k - (L + 4) by omega]
      · rw [if_neg (by omega), if_neg (by omega), if_pos (by omega), if_neg (by omega), if_neg (by omega), if_pos (by omega), show k % 4 = L + k - (L + 4 + 4) by omega]
      · rw [if_neg (by omega), if_pos (by omega), if_neg (by omega), if_neg (by omega), if_neg (by omega), if_pos (by omega), show k % 4 = L + k - (L + 4 + 4 + 4) by omega]
      · rw [if_pos (by omega), if_neg (by omega), if_neg (by omega), if_neg (by omega), if_neg (by omega), show k % 4 = L + k - (L + 4 + 4 + 4 + 4) by omega]
    · rw [if_neg z, if_neg (by omega), if_neg (by omega), if_neg (by omega), if_neg (by omega), if_neg (by omega)]
theorem byte_k (x : Int32) {k : Nat} (hk : k < 20) : (x >>> ((24 - (8 * (jrem (nI k) 4))) &&& 31)) &&& 255 = byN x (k % 4) := by
  have e : jrem (nI k) 4 = nI (k % 4) := rem_nI (d := 4) (by omega) (by omega) (by omega)
  rw [e]
  obtain ⟨h0, h1, h2, h3⟩ := byte_eq x
  unfold byN
  rcases (show k % 4 = 0 ∨ k % 4 = 1 ∨ k % 4 = 2 ∨ k % 4 = 3 by omega) with q | q | q | q <;> rw [q]
  · exact h0
  · exact h1
  · exact h2
  · exact h3
theorem m_append {M : Mem} {L : Nat} (x1 x2 x3 x4 x5 : Int32) (hL : M 0 8 = nI L) (h : L + 20 ≤ 900) : loopC (l_X10_append_36 x1 x2 x3 x4 x5) fuelL (0, M) = some (nI (L + 20), up (upA M 7 (fun i => if L ≤ i ∧ i < L + 20 then byT x1 x2 x3 x4 x5 (i - L) else M 7 i)) 0 8 (nI (L + 20))) := by
  refine loop_run 20 (fun k => (nI k, upA M 7 (fun i => if L ≤ i ∧ i < L + k then byT x1 x2 x3 x4 x5 (i - L) else M 7 i))) ?_ (by omega) (fun k hk K => ?_) (fun K => ?_)
  · have : (fun i => if L ≤ i ∧ i < L + 0 then byT x1 x2 x3 x4 x5 (i - L) else M 7 i) = M 7 := by
      funext i
      rw [if_neg (by omega)]
    show (0, M) = (nI 0, upA M 7 (fun i => if L ≤ i ∧ i < L + 0 then byT x1 x2 x3 x4 x5 (i - L) else M 7 i))
    rw [this, upA_self]
    rfl
  · simp only [l_X10_append_36]
    have e08 : (upA M 7 (fun i => if L ≤ i ∧ i < L + k then byT x1 x2 x3 x4 x5 (i - L) else M 7 i)) 0 8 = nI L := by rw [upA_ne _ _ (by omega)]; exact hL
    rw [if_neg (show ¬ (20 : Int32) ≤ nI k from nI_ge (b := 20) hk (by omega)), e08, nI_add, if_pos (of_eq_true (inb_T (by first | omega | (unfold wdP; omega) | (unfold lnP; omega) | (unfold cl; omega)) (by omega))), ix_nI (by omega), wrt_def, nI_1, byte_k _ hk]
    refine congrArg (fun z => K (nI (k + 1), z)) ?_
    rw [up_upA]
    refine congrArg (fun z => upA M 7 z) ?_
    funext i
    by_cases z : i = L + k
    · have ec : (if L ≤ L + k ∧ L + k < L + (k + 1) then byT x1 x2 x3 x4 x5 (L + k - L) else M 7 (L + k)) = byT x1 x2 x3 x4 x5 k := by rw [if_pos (by omega), show L + k - L = k by omega]
      rw [z, upd_eq, ec]
      unfold byT
      have e4 : ∀ j : Nat, j ≤ 16 → ((nI j ≤ nI k) ↔ ¬ k < j) := by
        intro j hj
        constructor
        · intro q1 q2; exact nI_ge q2 (by omega) q1
        · intro q; exact nI_le (by omega) (by omega)
      congr 1
      have g4 : ((4 : Int32) ≤ nI k) ↔ ¬ k < 4 := e4 4 (by omega)
      have g8 : ((8 : Int32) ≤ nI k) ↔ ¬ k < 8 := e4 8 (by omega)
      have g12 : ((12 : Int32) ≤ nI k) ↔ ¬ k < 12 := e4 12 (by omega)
      have g16 : ((16 : Int32) ≤ nI k) ↔ ¬ k < 16 := e4 16 (by omega)
      by_cases q1 : k < 4
      · rw [if_neg (fun y => g4.mp y q1), if_pos q1]
      · rw [if_pos (g4.mpr q1), if_neg q1]
        by_cases q2 : k < 8
        · rw [if_neg (fun y => g8.mp y q2), if_pos q2]
        · rw [if_pos (g8.mpr q2), if_neg q2]
          by_cases q3 : k < 12
          · rw [if_neg (fun y => g12.mp y q3), if_pos q3]
          · rw [if_pos (g12.mpr q3), if_neg q3]
            by_cases q4 : k < 16
            · rw [if_neg (fun y => g16.mp y q4), if_pos q4]
            · rw [if_pos (g16.mpr q4), if_neg q4]
    · rw [upd_ne _ _ z]
      by_cases z2 : L ≤ i ∧ i < L + k
      · rw [if_pos z2, if_pos (by omega)]
      · rw [if_neg z2, if_neg (by omega)]
  · simp only [l_X10_append_36]
    have e08 : (upA M 7 (fun i => if L ≤ i ∧ i < L + 20 then byT x1 x2 x3 x4 x5 (i - L) else M 7 i)) 0 8 = nI L := by rw [upA_ne _ _ (by omega)]; exact hL
    rw [if_pos (show (20 : Int32) ≤ nI 20 from Int32.le_refl _), e08, wrt_def, up_eq, show nI L + 20 = nI (L + 20) from nI_add L 20]
theorem s_append (h : Inv m Mx Mm) (x1 x2 x3 x4 x5 : Int32) : CallR m [eIS] (f_X9_append x1 x2 x3 x4 x5 Mx) (f_X10_append x1 x2 x3 x4 x5 Mm) := by
  obtain ⟨M1, e1, t0, hI⟩ := inv_0 h
  obtain ⟨pr, nB, hP, hS, hL, hk, ⟨L, l1, l2, l3, l4⟩, hE, hpl⟩ := id hI
  unfold f_X10_append
  rw [e1, wrt_def M1, l3, show nI L + 20 = nI (L + 20) from nI_add L 20]
  by_cases hx : L + 20 ≤ 900
  · obtain ⟨M2, a1, a2, a3, a4, a5⟩ := x_append x1 x2 x3 x4 x5 l2 hx
    rw [if_neg (show ¬ (900 : Int32) < nI (L + 20) from nI_nlt (a := 900) hx (by omega)), may_T t0, bnd_some, if_pos ne10, m_append x1 x2 x3 x4 x5 l3 hx, a1]
    have f0 : ∀ f, ∀ c, c ≠ 0 → c ≠ 7 → (up (upA M1 7 f) 0 8 (nI (L + 20))) c = M1 c := fun f c c1 c2 => by rw [up_a _ _ _ c1, upA_ne _ _ c2]
    have f1 : ∀ f, ∀ j, j ≠ 8 → (up (upA M1 7 f) 0 8 (nI (L + 20))) 0 j = M1 0 j := fun f j hj => by rw [up_i _ _ hj, upA_ne _ _ (by omega)]
    refine stp_ok _ M2 _ rfl rfl (by rw [f1 _ _ (by omega)]; exact t0) ?_
    obtain ⟨pr, nB, hP, hS, hL, hk, -, hE, hpl⟩ := hI.next
    refine ⟨pr, nB, hP.of (a3 _ (by omega)) (a3 _ (by omega)) (fun c h1 h2 => a5 c (by omega)) (f0 _ 5 (by omega) (by omega)), ?_, fun s hs => ?_, ?_, ⟨L + 20, hx, a2, up_eq _ _ _ _, fun i hi => ?_⟩, ⟨?_, ?_⟩, ?_⟩
    · rw [f0 _ 5 (by omega) (by omega), f0 _ 1 (by omega) (by omega)]; exact hS.of hP.c8 (Nat.le_refl _) (fun c h1 h2 => a5 c (by omega)) (fun _ _ => rfl)
    · rw [f0 _ 5 (by omega) (by omega)]; exact (hL s hs).of hP.c8 hs (Nat.le_refl _) (a3 _ (by omega)) (fun c h1 h2 => a5 c (by omega)) (f0 _ 4 (by omega) (by omega)) (f0 _ 2 (by omega) (by omega))
    · rw [a3 _ (by omega)]; exact hk
    · rw [a4, up_a _ _ _ (by omega), upA_eq]
      by_cases z : L ≤ i ∧ i < L + 20
      · rw [if_pos z, if_pos z]
        exact ⟨rfl, ushr_byte _ _⟩
      · rw [if_neg z, if_neg z]; exact l4 i hi
    · rw [a3 _ (by omega), f1 _ _ (by omega)]; exact hE.1
    · rw [a3 _ (by omega), f1 _ _ (by omega)]; exact hE.2
    · rw [f0 _ 5 (by omega) (by omega), f0 _ 1 (by omega) (by omega)]; exact hpl.of (a5 _ (by omega)) (a5 _ (by omega)) (fun _ _ => rfl) (fun _ _ _ => rfl)
  · rw [if_pos (show (900 : Int32) < nI (L + 20) from nI_lt (a := 900) (by omega) (by omega)), may_F1 t0, bnd_some, if_neg nn00]
    refine stp_ex 0 eIS rfl ?_ rfl hI
    unfold f_X9_append
    rw [l2, if_neg (show ¬ nI L ≤ 880 from nI_ge (a := 880) (by omega) (by omega))]
end QU
