/-! ===== the calls that only look ===== -/
theorem bX_ok {α : Type} (v : Int32) (M : Mem) (k : Int32 → Mem → Option ((α ⊕ String) × Mem)) : bndX (some (rOk v, M)) k = k v M := rfl
theorem bX_ex {α : Type} (E : String) (M : Mem) (k : Int32 → Mem → Option ((α ⊕ String) × Mem)) : bndX (some (rEx E, M)) k = some (.inr E, M) := rfl
theorem x_wordP (b r k : Nat) : p_X9_wordPlace (nI b) (nI r) (nI k) = nI (8 * (16 * b + r) + k) := by
  unfold p_X9_wordPlace
  rw [n16, n8, pk_mul, nI_add, pk_mul, nI_add]
  congr 1
  omega
theorem x_laneP (b r k : Nat) : p_X9_lanePlace (nI b) (nI r) (nI k) = nI (8 * (4 * b + r) + k) := by
  unfold p_X9_lanePlace
  rw [n4, n8, pk_mul, nI_add, pk_mul, nI_add]
  congr 1
  omega
def okR (p : Nat → Int32) (x y : Int32) : Prop := okN x (ix (p 0)) ∧ okN y (ix (p 1))
def okWd (p : Nat → Int32) (x y z : Int32) : Prop := okR p x y ∧ okN z (ix (p 2))
def okG (p : Nat → Int32) (x y : Int32) : Prop := okN x (ix (p 0)) ∧ okN y 4
def okL (p : Nat → Int32) (x y z : Int32) : Prop := okG p x y ∧ okN z (ix (p 2))
section RQ
variable {Mx Mm : Mem} {pr nB : Nat}
theorem PG.pp (h : PG Mx Mm pr nB) : (¬ Mx 0 5 < 0 ∧ blkD KSx (ix (Mx 0 5)) blk4) := h.1.1
theorem PG.ixp (h : PG Mx Mm pr nB) : ix (Mx 0 5) = pr := h.1.2
theorem PG.ws (h : PG Mx Mm pr nB) : WFs (Mm 5) := h.2.2.2.1.1
theorem PG.d0 (h : PG Mx Mm pr nB) : Mx pr 0 = nI (ix (Mm 5 0)) := by rw [h.2.2.2.1.2.1.1]; exact h.ws.1
theorem PG.d1 (h : PG Mx Mm pr nB) : Mx pr 1 = nI (ix (Mm 5 1)) := by rw [h.2.2.2.1.2.1.2.1]; exact h.ws.2.2.2.1
theorem PG.d2 (h : PG Mx Mm pr nB) : Mx pr 2 = nI (ix (Mm 5 2)) := by rw [h.2.2.2.1.2.1.2.2.1]; exact h.ws.2.2.2.2.2.2.1
theorem PG.n0 (h : PG Mx Mm pr nB) : 1 ≤ ix (Mm 5 0) ∧ ix (Mm 5 0) ≤ 8 := ⟨h.ws.2.1, h.ws.2.2.1⟩
theorem PG.n1 (h : PG Mx Mm pr nB) : 1 ≤ ix (Mm 5 1) ∧ ix (Mm 5 1) ≤ 16 := ⟨h.ws.2.2.2.2.1, h.ws.2.2.2.2.2.1⟩
theorem PG.n2 (h : PG Mx Mm pr nB) : 1 ≤ ix (Mm 5 2) ∧ ix (Mm 5 2) ≤ 8 := ⟨h.ws.2.2.2.2.2.2.2.1, h.ws.2.2.2.2.2.2.2.2.1⟩
theorem PG.nb (h : PG Mx Mm pr nB) : nB ≤ 12 ∧ Mm 5 12 = nI nB ∧ Mx pr 4 = nI nB := ⟨h.2.2.2.1.2.2.2.1, h.2.2.2.1.2.2.2.2.1, h.2.2.2.1.2.2.2.2.2.1⟩
theorem rqBt_T (h : PG Mx Mm pr nB) {x : Int32} (hx : okN x nB) : f_X9_requireBatch x Mx = some (rOk 0, Mx) := by
  unfold f_X9_requireBatch j_X9_requireBatch_15
  rw [if_pos h.pp, h.ixp, h.nb.2.2]
  exact rq_T hx (by have := h.nb.1; omega)
theorem rqBt_F (h : PG Mx Mm pr nB) {x : Int32} (hx : ¬ okN x nB) : f_X9_requireBatch x Mx = some (rEx eIO, Mx) := by
  unfold f_X9_requireBatch j_X9_requireBatch_15
  rw [if_pos h.pp, h.ixp, h.nb.2.2]
  exact rq_F hx
theorem rqBk_T (h : PG Mx Mm pr nB) {x : Int32} (hx : okN x (ix (Mm 5 0))) : f_X9_requireBank x Mx = some (rOk 0, Mx) := by
  unfold f_X9_requireBank j_X9_requireBank_15
  rw [if_pos h.pp, h.ixp, h.d0]
  exact rq_T hx (by have := h.n0; omega)
theorem rqBk_F (h : PG Mx Mm pr nB) {x : Int32} (hx : ¬ okN x (ix (Mm 5 0))) : f_X9_requireBank x Mx = some (rEx eIO, Mx) := by
  unfold f_X9_requireBank j_X9_requireBank_15
  rw [if_pos h.pp, h.ixp, h.d0]
  exact rq_F hx
theorem rqRw_T (h : PG Mx Mm pr nB) {x y : Int32} (hx : okR (Mm 5) x y) : f_X9_requireRow x y Mx = some (rOk 0, Mx) := by
  unfold f_X9_requireRow j_X9_requireRow_20
  rw [rqBk_T h hx.1, bX_ok, if_pos h.pp, h.ixp, h.d1]
  exact rq_T hx.2 (by have := h.n1; omega)
theorem rqRw_F (h : PG Mx Mm pr nB) {x y : Int32} (hx : ¬ okR (Mm 5) x y) : f_X9_requireRow x y Mx = some (rEx eIO, Mx) := by
  unfold f_X9_requireRow j_X9_requireRow_20
  by_cases q : okN x (ix (Mm 5 0))
  · rw [rqBk_T h q, bX_ok, if_pos h.pp, h.ixp, h.d1]
    exact rq_F (fun z => hx ⟨q, z⟩)
  · rw [rqBk_F h q, bX_ex]
theorem rqWd_T (h : PG Mx Mm pr nB) {x y z : Int32} (hx : okWd (Mm 5) x y z) : f_X9_requireWord x y z Mx = some (rOk 0, Mx) := by
  unfold f_X9_requireWord j_X9_requireWord_21
  rw [rqRw_T h hx.1, bX_ok, if_pos h.pp, h.ixp, h.d2]
  exact rq_T hx.2 (by have := h.n2; omega)
theorem rqWd_F (h : PG Mx Mm pr nB) {x y z : Int32} (hx : ¬ okWd (Mm 5) x y z) : f_X9_requireWord x y z Mx = some (rEx eIO, Mx) := by
  unfold f_X9_requireWord j_X9_requireWord_21
  by_cases q : okR (Mm 5) x y
  · rw [rqRw_T h q, bX_ok, if_pos h.pp, h.ixp, h.d2]
    exact rq_F (fun z => hx ⟨q, z⟩)
  · rw [rqRw_F h q, bX_ex]
theorem rqRg_T (h : PG Mx Mm pr nB) {x y : Int32} (hx : okG (Mm 5) x y) : f_X9_requireRegister x y Mx = some (rOk 0, Mx) := by
  unfold f_X9_requireRegister j_X9_requireRegister_14
  rw [rqBk_T h hx.1, bX_ok]
  exact rq_T (n := 4) hx.2 (by omega)
theorem rqRg_F (h : PG Mx Mm pr nB) {x y : Int32} (hx : ¬ okG (Mm 5) x y) : f_X9_requireRegister x y Mx = some (rEx eIO, Mx) := by
  unfold f_X9_requireRegister j_X9_requireRegister_14
  by_cases q : okN x (ix (Mm 5 0))
  · rw [rqBk_T h q, bX_ok]
    exact rq_F (n := 4) (fun z => hx ⟨q, z⟩)
  · rw [rqBk_F h q, bX_ex]
theorem rqLn_T (h : PG Mx Mm pr nB) {x y z : Int32} (hx : okL (Mm 5) x y z) : f_X9_requireLane x y z Mx = some (rOk 0, Mx) := by
  unfold f_X9_requireLane j_X9_requireLane_21
  rw [rqRg_T h hx.1, bX_ok, if_pos h.pp, h.ixp, h.d2]
  exact rq_T hx.2 (by have := h.n2; omega)
theorem rqLn_F (h : PG Mx Mm pr nB) {x y z : Int32} (hx : ¬ okL (Mm 5) x y z) : f_X9_requireLane x y z Mx = some (rEx eIO, Mx) := by
  unfold f_X9_requireLane j_X9_requireLane_21
  by_cases q : okG (Mm 5) x y
  · rw [rqRg_T h q, bX_ok, if_pos h.pp, h.ixp, h.d2]
    exact rq_F (fun z => hx ⟨q, z⟩)
  · rw [rqRg_F h q, bX_ex]
/-! the reference's tests -/
theorem mBt_T (h : PG Mx Mm pr nB) {x : Int32} (hx : okN x nB) : p_X10_isBatch x Mm = 1 := by
  unfold p_X10_isBatch
  rw [h.nb.2.1]
  exact m_in_T hx (by have := h.nb.1; omega)
theorem mBt_F (h : PG Mx Mm pr nB) {x : Int32} (hx : ¬ okN x nB) : p_X10_isBatch x Mm = 0 := by
  unfold p_X10_isBatch
  rw [h.nb.2.1]
  exact m_in_F hx (by have := h.nb.1; omega)
theorem mBk_T (h : PG Mx Mm pr nB) {x : Int32} (hx : okN x (ix (Mm 5 0))) : p_X10_isBank x Mm = 1 := by
  unfold p_X10_isBank
  rw [h.ws.1]
  exact m_in_T hx (by have := h.n0; omega)
theorem mBk_F (h : PG Mx Mm pr nB) {x : Int32} (hx : ¬ okN x (ix (Mm 5 0))) : p_X10_isBank x Mm = 0 := by
  unfold p_X10_isBank
  rw [h.ws.1]
  exact m_in_F hx (by have := h.n0; omega)
theorem mRw_T (h : PG Mx Mm pr nB) {x y : Int32} (hx : okR (Mm 5) x y) : p_X10_isRow x y Mm = 1 := by
  unfold p_X10_isRow
  rw [mBk_T h hx.1, h.ws.2.2.2.1, m_in_T hx.2 (by have := h.n1; omega)]
  rfl
theorem mRw_F (h : PG Mx Mm pr nB) {x y : Int32} (hx : ¬ okR (Mm 5) x y) : p_X10_isRow x y Mm = 0 := by
  unfold p_X10_isRow
  by_cases q : okN x (ix (Mm 5 0))
  · rw [mBk_T h q, h.ws.2.2.2.1, m_in_F (fun z => hx ⟨q, z⟩) (by have := h.n1; omega)]
    rfl
  · rw [mBk_F h q]
    rfl
theorem mCo_T (h : PG Mx Mm pr nB) {x : Int32} (hx : okN x (ix (Mm 5 2))) : p_X10_isColumn x Mm = 1 := by
  unfold p_X10_isColumn
  rw [h.ws.2.2.2.2.2.2.1]
  exact m_in_T hx (by have := h.n2; omega)
theorem mCo_F (h : PG Mx Mm pr nB) {x : Int32} (hx : ¬ okN x (ix (Mm 5 2))) : p_X10_isColumn x Mm = 0 := by
  unfold p_X10_isColumn
  rw [h.ws.2.2.2.2.2.2.1]
  exact m_in_F hx (by have := h.n2; omega)
theorem mWd_T (h : PG Mx Mm pr nB) {x y z : Int32} (hx : okWd (Mm 5) x y z) : (if (p_X10_isRow x y Mm) = 0 then (0 : Int32) else if (p_X10_isColumn z Mm) = 0 then (0 : Int32) else (1 : Int32)) = 1 := by
  rw [mRw_T h hx.1, mCo_T h hx.2]
  rfl
theorem mWd_F (h : PG Mx Mm pr nB) {x y z : Int32} (hx : ¬ okWd (Mm 5) x y z) : (if (p_X10_isRow x y Mm) = 0 then (0 : Int32) else if (p_X10_isColumn z Mm) = 0 then (0 : Int32) else (1 : Int32)) = 0 := by
  by_cases q : okR (Mm 5) x y
  · rw [mRw_T h q, mCo_F h (fun z => hx ⟨q, z⟩)]
    rfl
  · rw [mRw_F h q]
    rfl
theorem m_in4_T {x : Int32} (hx : okN x 4) : p_X10_isIn x 0 3 = 1 := m_in_T (n := 4) hx (by omega)
theorem m_in4_F {x : Int32} (hx : ¬ okN x 4) : p_X10_isIn x 0 3 = 0 := m_in_F (n := 4) hx (by omega)
theorem mRg_T (h : PG Mx Mm pr nB) {x y : Int32} (hx : okG (Mm 5) x y) : (if (p_X10_isBank x Mm) = 0 then (0 : Int32) else if (p_X10_isIn y 0 3) = 0 then (0 : Int32) else (1 : Int32)) = 1 := by
  rw [mBk_T h hx.1, m_in4_T hx.2]
  rfl
theorem mRg_F (h : PG Mx Mm pr nB) {x y : Int32} (hx : ¬ okG (Mm 5) x y) : (if (p_X10_isBank x Mm) = 0 then (0 : Int32) else if (p_X10_isIn y 0 3) = 0 then (0 : Int32) else (1 : Int32)) = 0 := by
  by_cases q : okN x (ix (Mm 5 0))
  · rw [mBk_T h q, m_in4_F (fun z => hx ⟨q, z⟩)]
    rfl
  · rw [mBk_F h q]
    rfl
theorem mLn_T (h : PG Mx Mm pr nB) {x y z : Int32} (hx : okL (Mm 5) x y z) : (if (p_X10_isBank x Mm) = 0 then (0 : Int32) else if (p_X10_isIn y 0 3) = 0 then (0 : Int32) else if (p_X10_isColumn z Mm) = 0 then (0 : Int32) else (1 : Int32)) = 1 := by
  rw [mBk_T h hx.1.1, m_in4_T hx.1.2, mCo_T h hx.2]
  rfl
theorem mLn_F (h : PG Mx Mm pr nB) {x y z : Int32} (hx : ¬ okL (Mm 5) x y z) : (if (p_X10_isBank x Mm) = 0 then (0 : Int32) else if (p_X10_isIn y 0 3) = 0 then (0 : Int32) else if (p_X10_isColumn z Mm) = 0 then (0 : Int32) else (1 : Int32)) = 0 := by
  by_cases q : okN x (ix (Mm 5 0))
  · by_cases q2 : okN y 4
    · rw [mBk_T h q, m_in4_T q2, mCo_F h (fun z => hx ⟨⟨q, q2⟩, z⟩)]
      rfl
    · rw [mBk_T h q, m_in4_F q2]
      rfl
  · rw [mBk_F h q]
    rfl
end RQ
theorem may_T {M : Mem} {y : Int32} (h : M 0 0 = 0) : f_X10_may 1 y M = some (1, M) := m_mayT h (by decide)
theorem may_F {M : Mem} (k : Nat) (h : M 0 0 = 0) (hk : k < 5) : f_X10_may 0 (nI (k + 1)) M = some (0, up M 0 0 (nI (k + 1))) := m_mayF h (fun z => by have := (nI_eq (a := k + 1) (b := 0) (by omega) (by omega)).mp z; omega)
theorem may_F1 {M : Mem} (h : M 0 0 = 0) : f_X10_may 0 1 M = some (0, up M 0 0 (nI (0 + 1))) := may_F 0 h (by omega)
theorem may_F2 {M : Mem} (h : M 0 0 = 0) : f_X10_may 0 2 M = some (0, up M 0 0 (nI (1 + 1))) := may_F 1 h (by omega)
theorem ne10 : ¬ (1 : Int32) = 0 := by decide
theorem nn00 : ¬ ¬ (0 : Int32) = 0 := fun z => z rfl
section GT
variable {Mx Mm : Mem} {m : Nat}
theorem s_errorCode (h : Inv m Mx Mm) : CallN m (some (p_X9_errorCode Mx, Mx)) (f_X10_errorCode Mm) := by
  obtain ⟨M1, e1, -, hI⟩ := inv_0 h
  unfold f_X10_errorCode p_X9_errorCode
  rw [wrt_def, e1]
  obtain ⟨-, -, -, -, -, -, -, hE, -⟩ := id hI
  exact ⟨_, Mx, M1, rfl, by rw [hE.1], hI.next⟩
theorem s_errorPosition (h : Inv m Mx Mm) : CallN m (some (p_X9_errorPosition Mx, Mx)) (f_X10_errorPosition Mm) := by
  obtain ⟨M1, e1, -, hI⟩ := inv_0 h
  unfold f_X10_errorPosition p_X9_errorPosition
  rw [wrt_def, e1]
  obtain ⟨-, -, -, -, -, -, -, hE, -⟩ := id hI
  exact ⟨_, Mx, M1, rfl, by rw [hE.2], hI.next⟩
theorem s_commands (h : Inv m Mx Mm) (x : Int32) : CallR m [eIO] (f_X9_commands x Mx) (f_X10_commands x Mm) := by
  obtain ⟨M1, e1, t0, hI⟩ := inv_0 h
  obtain ⟨pr, nB, hP, -⟩ := id hI
  unfold f_X10_commands j_X10_commands_35 f_X9_commands
  rw [wrt_def, e1]
  by_cases hx : okN x nB
  · obtain ⟨k, hk, rfl⟩ := id hx
    have h12 := hP.nb.1
    obtain ⟨hw, hb, -⟩ := hP.2.2.2.1.2.2.2.2.2.2 k hk
    obtain ⟨-, -, -, w1, w2, w3⟩ := hw
    obtain ⟨-, b1, b2, -⟩ := hb
    rw [mBt_T hP hx, may_T t0, bnd_some, if_neg ne10, rqBt_T hP hx, bX_ok, if_pos hP.pp, if_pos hP.pp, hP.ixp, if_pos (of_eq_true (inb_T (by first | omega | (unfold wdP; omega) | (unfold lnP; omega) | (unfold cl; omega)) (by omega))), if_pos (of_eq_true (inb_T (by first | omega | (unfold wdP; omega) | (unfold lnP; omega) | (unfold cl; omega)) (by omega))), ix_nI (by omega), b1, b2]
    refine stp_ok (nI (lenN (M1 5) k)) Mx M1 ?_ ?_ t0 hI.next
    · rw [ss (by omega), Nat.add_sub_cancel_left]
    · have e : (14 : Int32) + 3 * nI k + 2 = nI (14 + 3 * k + 2) := by rw [n14, n3, n2, pk_mul, nI_add, nI_add]
      rw [e, if_pos (of_eq_true (inb_T (by omega) (by omega))), ix_nI (by omega), w2]
  · rw [mBt_F hP hx, may_F1 t0, bnd_some, if_pos rfl, rqBt_F hP hx, bX_ex]
    exact stp_ex 0 eIO rfl rfl rfl hI
theorem s_banks (h : Inv m Mx Mm) (x : Int32) : CallR m [eIO] (f_X9_banks x Mx) (f_X10_banks x Mm) := by
  obtain ⟨M1, e1, t0, hI⟩ := inv_0 h
  obtain ⟨pr, nB, hP, -⟩ := id hI
  unfold f_X10_banks j_X10_banks_27 f_X9_banks
  rw [wrt_def, e1]
  by_cases hx : okN x nB
  · obtain ⟨k, hk, rfl⟩ := id hx
    have h12 := hP.nb.1
    obtain ⟨hw, hb, -⟩ := hP.2.2.2.1.2.2.2.2.2.2 k hk
    obtain ⟨b0, -⟩ := hb
    rw [mBt_T hP hx, may_T t0, bnd_some, if_neg ne10, rqBt_T hP hx, bX_ok, if_pos hP.pp, hP.ixp, if_pos (of_eq_true (inb_T (by first | omega | (unfold wdP; omega) | (unfold lnP; omega) | (unfold cl; omega)) (by omega))), ix_nI (by omega), b0, m_banksOf _ (by omega), bnd_some]
    exact stp_ok (setN (M1 5) k) Mx M1 rfl rfl t0 hI.next
  · rw [mBt_F hP hx, may_F1 t0, bnd_some, if_pos rfl, rqBt_F hP hx, bX_ex]
    exact stp_ex 0 eIO rfl rfl rfl hI
theorem s_memory (h : Inv m Mx Mm) (x y z : Int32) : CallR m [eIO] (f_X9_memory x y z Mx) (f_X10_memory x y z Mm) := by
  obtain ⟨M1, e1, t0, hI⟩ := inv_0 h
  obtain ⟨pr, nB, hP, hS, -⟩ := id hI
  unfold f_X10_memory j_X10_memory_50 f_X9_memory
  rw [wrt_def, e1]
  by_cases hx : okWd (M1 5) x y z
  · obtain ⟨⟨⟨b, hb, rfl⟩, ⟨r, hr, rfl⟩⟩, ⟨k, hk, rfl⟩⟩ := id hx
    have h0 := hP.n0
    have h1 := hP.n1
    have h2 := hP.n2
    obtain ⟨-, -, -, -, -, -, ⟨hR, -⟩, -⟩ := hS
    rw [mWd_T hP hx, may_T t0, bnd_some, if_neg ne10, rqWd_T hP hx, bX_ok, x_wordP, m_word, if_pos (of_eq_true (inb_T (by first | omega | (unfold wdP; omega) | (unfold lnP; omega) | (unfold cl; omega)) (by omega))), if_pos (of_eq_true (inb_T (by first | omega | (unfold wdP; omega) | (unfold lnP; omega) | (unfold cl; omega)) (by omega))), ix_nI (by omega), ix_nI (by unfold wdP; omega)]
    refine stp_ok (M1 1 (wdP b r k)) Mx M1 ?_ ?_ t0 hI.next
    · have e := hR.1 (8 * (16 * b + r) + k) (by omega) (by omega)
      have e : Mx 35 (8 * (16 * b + r) + k) = M1 1 (160 + (8 * (16 * b + r) + k)) := e
      rw [e]
      unfold wdP
      rw [Nat.add_assoc]
    · rfl
  · rw [mWd_F hP hx, may_F1 t0, bnd_some, if_pos rfl, rqWd_F hP hx, bX_ex]
    exact stp_ex 0 eIO rfl rfl rfl hI
theorem s_register (h : Inv m Mx Mm) (x y z : Int32) : CallR m [eIO] (f_X9_register x y z Mx) (f_X10_register_ x y z Mm) := by
  obtain ⟨M1, e1, t0, hI⟩ := inv_0 h
  obtain ⟨pr, nB, hP, hS, -⟩ := id hI
  unfold f_X10_register_ j_X10_register__58 f_X9_register
  rw [wrt_def, e1]
  by_cases hx : okL (M1 5) x y z
  · obtain ⟨⟨⟨b, hb, rfl⟩, ⟨r, hr, rfl⟩⟩, ⟨k, hk, rfl⟩⟩ := id hx
    have h0 := hP.n0
    have h2 := hP.n2
    obtain ⟨-, -, -, -, -, -, ⟨hR, -⟩, -⟩ := hS
    rw [mLn_T hP hx, may_T t0, bnd_some, if_neg ne10, rqLn_T hP hx, bX_ok, x_laneP, m_lane, if_pos (of_eq_true (inb_T (by first | omega | (unfold wdP; omega) | (unfold lnP; omega) | (unfold cl; omega)) (by omega))), if_pos (of_eq_true (inb_T (by first | omega | (unfold wdP; omega) | (unfold lnP; omega) | (unfold cl; omega)) (by omega))), ix_nI (by omega), ix_nI (by unfold lnP; omega)]
    refine stp_ok (M1 1 (lnP b r k)) Mx M1 ?_ ?_ t0 hI.next
    · have e := hR.2 (8 * (4 * b + r) + k) (by omega) (by omega)
      have e : Mx 36 (8 * (4 * b + r) + k) = M1 1 (1184 + (8 * (4 * b + r) + k)) := e
      rw [e]
      unfold lnP
      rw [Nat.add_assoc]
    · rfl
  · rw [mLn_F hP hx, may_F1 t0, bnd_some, if_pos rfl, rqLn_F hP hx, bX_ex]
    exact stp_ex 0 eIO rfl rfl rfl hI
/-- the class's times, read off the reference's -/
theorem IS.tm {p : Nat → Int32} {nB : Nat} {a : Nat → Int32} (h : IS p nB Mx 33 a m) : (∀ j, j < 8 → Mx 38 j = a j) ∧ (∀ j, j < 32 → Mx 39 j = a (8 + j)) ∧ (∀ j, j < 8 → Mx 40 j = a (40 + j) - 1) ∧ (∀ j, j < 32 → Mx 43 j = a (120 + j)) ∧ (∀ j, j < 8 → Mx 44 j = a (152 + j)) ∧ Mx = setT Mx 37 a := by
  obtain ⟨-, -, -, -, -, -, ⟨-, -, hT, -⟩, -⟩ := h
  have hT : Mx = setT Mx 37 a := hT
  have k : ∀ c j, Mx c j = setT Mx 37 a c j := fun c j => congrFun (congrFun hT c) j
  exact ⟨fun j hj => (k 38 j).trans (sT1 Mx 37 a hj), fun j hj => (k 39 j).trans (sT2b Mx 37 a hj), fun j hj => (k 40 j).trans (sT3 Mx 37 a hj), fun j hj => (k 43 j).trans (sT6b Mx 37 a hj), fun j hj => (k 44 j).trans (sT7 Mx 37 a hj), hT⟩
theorem s_clock (h : Inv m Mx Mm) (x : Int32) : CallR m [eIO] (f_X9_clock x Mx) (f_X10_clock x Mm) := by
  obtain ⟨M1, e1, t0, hI⟩ := inv_0 h
  obtain ⟨pr, nB, hP, hS, -⟩ := id hI
  unfold f_X10_clock j_X10_clock_30 f_X9_clock
  rw [wrt_def, e1]
  by_cases hx : okN x (ix (M1 5 0))
  · obtain ⟨b, hb, rfl⟩ := id hx
    have h0 := hP.n0
    have hT := hS.tm.1 b (by omega)
    rw [mBk_T hP hx, may_T t0, bnd_some, if_neg ne10, rqBk_T hP hx, bX_ok, zadd, if_pos (of_eq_true (inb_T (by first | omega | (unfold wdP; omega) | (unfold lnP; omega) | (unfold cl; omega)) (by omega))), if_pos (of_eq_true (inb_T (by first | omega | (unfold wdP; omega) | (unfold lnP; omega) | (unfold cl; omega)) (by omega))), ix_nI (by omega), hT]
    exact stp_ok (M1 1 b) Mx M1 rfl rfl t0 hI.next
  · rw [mBk_F hP hx, may_F1 t0, bnd_some, if_pos rfl, rqBk_F hP hx, bX_ex]
    exact stp_ex 0 eIO rfl rfl rfl hI
theorem s_openRow (h : Inv m Mx Mm) (x : Int32) : CallR m [eIO] (f_X9_openRow x Mx) (f_X10_openRow x Mm) := by
  obtain ⟨M1, e1, t0, hI⟩ := inv_0 h
  obtain ⟨pr, nB, hP, hS, -⟩ := id hI
  unfold f_X10_openRow j_X10_openRow_33 f_X9_openRow
  rw [wrt_def, e1]
  by_cases hx : okN x (ix (M1 5 0))
  · obtain ⟨b, hb, rfl⟩ := id hx
    have h0 := hP.n0
    have hT := hS.tm.2.2.1 b (by omega)
    rw [mBk_T hP hx, may_T t0, bnd_some, if_neg ne10, rqBk_T hP hx, bX_ok, n40, nI_add, if_pos (of_eq_true (inb_T (by first | omega | (unfold wdP; omega) | (unfold lnP; omega) | (unfold cl; omega)) (by omega))), if_pos (of_eq_true (inb_T (by first | omega | (unfold wdP; omega) | (unfold lnP; omega) | (unfold cl; omega)) (by omega))), ix_nI (by omega), ix_nI (by omega), hT]
    exact stp_ok (M1 1 (40 + b) - 1) Mx M1 rfl rfl t0 hI.next
  · rw [mBk_F hP hx, may_F1 t0, bnd_some, if_pos rfl, rqBk_F hP hx, bX_ex]
    exact stp_ex 0 eIO rfl rfl rfl hI
theorem s_ready (h : Inv m Mx Mm) (x y : Int32) : CallR m [eIO] (f_X9_ready x y Mx) (f_X10_ready x y Mm) := by
  obtain ⟨M1, e1, t0, hI⟩ := inv_0 h
  obtain ⟨pr, nB, hP, hS, -⟩ := id hI
  unfold f_X10_ready j_X10_ready_45 f_X9_ready
  rw [wrt_def, e1]
  by_cases hx : okG (M1 5) x y
  · obtain ⟨⟨b, hb, rfl⟩, ⟨r, hr, rfl⟩⟩ := id hx
    have h0 := hP.n0
    have hT := hS.tm.2.1 (b * 4 + r) (by omega)
    rw [mRg_T hP hx, may_T t0, bnd_some, if_neg ne10, rqRg_T hP hx, bX_ok, n4, pk_mul, nI_add, if_pos (of_eq_true (inb_T (by first | omega | (unfold wdP; omega) | (unfold lnP; omega) | (unfold cl; omega)) (by omega))), ix_nI (by omega), hT, m_readyOf _ (by omega) hr, bnd_some]
    refine stp_ok (M1 1 (8 + 4 * b + r)) Mx M1 ?_ rfl t0 hI.next
    rw [show 8 + (b * 4 + r) = 8 + 4 * b + r by omega]
  · rw [mRg_F hP hx, may_F1 t0, bnd_some, if_pos rfl, rqRg_F hP hx, bX_ex]
    exact stp_ex 0 eIO rfl rfl rfl hI
theorem s_stalls (h : Inv m Mx Mm) (x y : Int32) : CallR m [eIO, eIA] (f_X9_stalls x y Mx) (f_X10_stalls_ x y Mm) := by
  obtain ⟨M1, e1, t0, hI⟩ := inv_0 h
  obtain ⟨pr, nB, hP, hS, -⟩ := id hI
  unfold f_X10_stalls_ j_X10_stalls__48 j_X10_stalls__49 f_X9_stalls j_X9_stalls_14
  rw [wrt_def, e1]
  by_cases hx : okN x (ix (M1 5 0))
  · rw [mBk_T hP hx, may_T t0, bnd_some, if_neg ne10, rqBk_T hP hx, bX_ok]
    by_cases hy : okN y 4
    · rw [m_in4_T hy, may_T t0, bnd_some, if_neg ne10]
      have q := rq_T (E := (some (rEx "java/lang/IllegalArgumentException", Mx) : Option ((Int32 ⊕ String) × Mem))) (T := if inb ((x * 4) + y) 32 then some (rOk (Mx 43 (ix ((x * 4) + y))), Mx) else none) hy (by omega)
      rw [show (nI 4 : Int32) = 4 from rfl] at q
      rw [q]
      obtain ⟨b, hb, rfl⟩ := id hx
      obtain ⟨r, hr, rfl⟩ := id hy
      have h0 := hP.n0
      have hT := hS.tm.2.2.2.1 (b * 4 + r) (by omega)
      rw [n120, n4, pk_mul, pk_mul, nI_add, nI_add, nI_add, if_pos (of_eq_true (inb_T (by first | omega | (unfold wdP; omega) | (unfold lnP; omega) | (unfold cl; omega)) (by omega))), if_pos (of_eq_true (inb_T (by first | omega | (unfold wdP; omega) | (unfold lnP; omega) | (unfold cl; omega)) (by omega))), ix_nI (by omega), ix_nI (by omega), hT]
      refine stp_ok (M1 1 (120 + 4 * b + r)) Mx M1 ?_ ?_ t0 hI.next
      · rw [show 120 + (b * 4 + r) = 120 + 4 * b + r by omega]
      · rfl
    · rw [m_in4_F hy, may_F2 t0, bnd_some, if_pos rfl]
      have q := rq_F (E := (some (rEx "java/lang/IllegalArgumentException", Mx) : Option ((Int32 ⊕ String) × Mem))) (T := if inb ((x * 4) + y) 32 then some (rOk (Mx 43 (ix ((x * 4) + y))), Mx) else none) hy
      rw [show (nI 4 : Int32) = 4 from rfl] at q
      rw [q]
      exact stp_ex 1 eIA rfl rfl rfl hI
  · rw [mBk_F hP hx, may_F1 t0, bnd_some, if_pos rfl, rqBk_F hP hx, bX_ex]
    exact stp_ex 0 eIO rfl rfl rfl hI
theorem s_finish (h : Inv m Mx Mm) : CallN m (f_X9_finish Mx) (f_X10_finish Mm) := by
  obtain ⟨M1, e1, t0, hI⟩ := inv_0 h
  obtain ⟨pr, nB, hP, hS, -⟩ := id hI
  unfold f_X10_finish f_X9_finish
  rw [wrt_def, e1, m_ends hP.ws.1 hP.n0.2, bnd_some]
  have xl := x_latest Mx 37 (M1 1) 255
  rw [← hS.tm.2.2.2.2.2] at xl
  obtain ⟨-, -, -, -, -, -, -, hZ, -⟩ := hS
  rw [xl, bnd_some, spLat_z hP.n0.2 hZ]
  exact ⟨_, Mx, M1, rfl, rfl, hI.next⟩
end GT
