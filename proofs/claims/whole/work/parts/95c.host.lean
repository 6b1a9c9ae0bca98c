/-! ===== the host's calls ===== -/
theorem PG.uniq {Mx Mm Mx2 : Mem} {pr pr2 nB nB2 : Nat} (h : PG Mx Mm pr nB) (h2 : PG Mx2 Mm pr2 nB2) : nB2 = nB := by
  have z1 := h2.nb.2.1
  have z2 := h.nb.2.1
  rw [z1] at z2
  have := h2.nb.1
  have := h.nb.1
  exact (nI_eq (by omega) (by omega)).mp z2
section HO
variable {Mx Mm : Mem} {m : Nat}
theorem IS.cach {p : Nat → Int32} {nB : Nat} {M M2 : Mem} {a a2 : Nat → Int32} {n2 : Nat} {l2 : Nat → Nat} {T2 : Nat} (h : IS p nB M 33 a m) (F : FrC 34 M M2) (FA : FrA a a2) (hR2 : RV (ix (p 2)) M2 34 a2) (hC2 : RC (ix (p 2)) M2 45 a2 n2 l2 T2) (hn2 : n2 ≤ ix (p 11)) (hT2 : T2 ≤ m + 1) (hd2 : dB 47 M2) : IS p nB M2 33 a2 (m + 1) := by
  obtain ⟨n, l, T, N, U, K, hS, hZ, hd, hQ, hq, hK, b1, b2, b3, b4⟩ := h
  obtain ⟨eq, eQ⟩ := qbA_cg (a := a) (b := a2) (fun j h1 h2 => FA j (by omega))
  obtain ⟨hR, hC, hT, hau, hau2, hn, hA, hnC⟩ := hS
  have c0 : ∀ c, c ≠ 35 → (c < 45 ∨ 49 < c) → M2 c = M c := F
  refine ⟨n2, l2, T2, N, U, K, ⟨hR2, hC2, ?_, ?_, ?_, hn.of (fun b hb => FA _ (by omega)), ?_, hn2⟩, ?_, hd2, by rw [eQ]; exact hQ, ?_, hK.of (fun j hj => FA j (by omega)), by omega, by rw [eQ]; omega, by rw [eQ]; omega, by rw [eQ]; omega⟩
  · rw [setT_congr _ (33 + 4) (fun j hj => FA j (by omega))]
    exact setT_of hT (fun c h1 h2 => c0 c (by omega) (by omega))
  · rw [c0 _ (by omega) (by omega), FA _ (by omega)]; exact hau
  · rw [FA _ (by omega)]; exact hau2
  · obtain ⟨g1, g2, g3, g4, g5, g6⟩ := hA
    rw [eQ]
    exact ⟨by rw [c0 _ (by omega) (by omega)]; exact g1, by rw [FA _ (by omega)]; exact g2, fun i hi => by rw [c0 _ (by omega) (by omega), FA _ (by omega)]; exact g3 i hi, by rw [c0 _ (by omega) (by omega)]; exact g4, by rw [FA _ (by omega)]; exact g5, fun i hi => by rw [c0 _ (by omega) (by omega), FA _ (by omega)]; exact g6 i hi⟩
  · intro b h1 h2
    obtain ⟨z1, z2⟩ := hZ b h1 h2
    exact ⟨by rw [FA _ (by omega)]; exact z1, fun r hr => by rw [FA _ (by omega)]; exact z2 r hr⟩
  · rw [eQ, eq]
    exact fun k hk => ⟨(hq k hk).1, by rw [FA _ (by omega)]; exact (hq k hk).2⟩
theorem Inv.cach {Mx2 Mm2 : Mem} {a2 : Nat → Int32} {n2 : Nat} {l2 : Nat → Nat} {T2 : Nat} (h : Inv m Mx Mm) (F : FrC 34 Mx Mx2) (FA : FrA (Mm 1) a2) (hR2 : RV (ix (Mm 5 2)) Mx2 34 a2) (hC2 : RC (ix (Mm 5 2)) Mx2 45 a2 n2 l2 T2) (hn2 : n2 ≤ ix (Mm 5 11)) (hT2 : T2 ≤ m + 1) (hd2 : dB 47 Mx2) (f1 : Mm2 1 = a2) (f : ∀ c, c = 2 ∨ c = 4 ∨ c = 5 ∨ c = 7 ∨ c = 0 → Mm2 c = Mm c) : Inv (m + 1) Mx2 Mm2 := by
  obtain ⟨pr, nB, hP, hS, -⟩ := id h
  have c0 : ∀ c, c ≠ 35 → (c < 45 ∨ 49 < c) → Mx2 c = Mx c := F
  refine h.state (a2 := a2) (fun pr2 nB2 hP2 => ?_) (fun c hc => c0 c (by omega) (by omega)) f1 (fun c hc => f c (by omega)) (by rw [f 0 (by omega)]) (by rw [f 0 (by omega)]) (by rw [f 0 (by omega)]) (Or.inr ⟨c0 _ (by omega) (by omega), c0 _ (by omega) (by omega), fun j hj => FA j (by omega), fun j h1 h2 => FA j (by omega)⟩)
  rw [hP.uniq hP2]
  exact hS.cach F FA hR2 hC2 hn2 hT2 hd2
theorem IS.dirty {p : Nat → Int32} {nB : Nat} {a : Nat → Int32} (h : IS p nB Mx 33 a m) : dB 47 Mx := by
  obtain ⟨-, -, -, -, -, -, -, -, hd, -⟩ := h
  exact hd
/-- the line of a row, used -/
theorem c_use {pr nB b r : Nat} (hm : m < 512) (hP : PG Mx Mm pr nB) (hS : IS (Mm 5) nB Mx 33 (Mm 1) m) (hb : b < 8) (hr : r < 16) (hc : 1 ≤ ix (Mm 5 11)) : ∃ M2 Mm2 a2 n2 l2 T2, f_X1_useLine 45 (nI b) (nI r) (nI (ix (Mm 5 11))) 34 Mx = some (nI (l2 (n2 - 1)), M2) ∧ f_X10_uses (nI b) (nI r) Mm = some (nI (n2 - 1), Mm2) ∧ Mm2 1 = a2 ∧ (∀ c, c ≠ 1 → c ≠ 8 → Mm2 c = Mm c) ∧ RV (ix (Mm 5 2)) M2 34 a2 ∧ RC (ix (Mm 5 2)) M2 45 a2 n2 l2 T2 ∧ FrC 34 Mx M2 ∧ FrA (Mm 1) a2 ∧ 1 ≤ n2 ∧ n2 ≤ ix (Mm 5 11) ∧ T2 ≤ m + 1 ∧ dB 47 M2 := by
  obtain ⟨n, l, T, hT, hn, hR, hC, -⟩ := hS.c
  have hd := hS.dirty
  have h8 := hP.c8
  have w11 := hP.ws.2.2.2.2.2.2.2.2.2.2.2.2
  have hn8 := hC.n8
  by_cases q : ∃ i, i < n ∧ isL (Mm 1) b r i
  · obtain ⟨i, hi, hL⟩ := q
    obtain ⟨M2, U, a2, x1, m1, R2, C2, F2, FA2, e⟩ := c_hit (v := 34) (T := T) (C := nI (ix (Mm 5 11))) h8 (by omega) hR hC hi hb hr hL
    refine ⟨M2, _, a2, n, fun j => l (rho i n j), T + 1, by rw [x1, e], m1, upA_eq _ _ _, fun c c1 c2 => by rw [upA_ne _ _ c1, upA_ne _ _ c2], R2, C2, F2, FA2, by omega, hn, by omega, ?_⟩
    exact pres_use (q := 45) (v := 34) (by omega) hd _ _ x1
  · obtain ⟨M2, a2, n2, l2, x1, m1, R2, C2, F2, FA2, k1, k2⟩ := c_miss (v := 34) (T := T) (nC := ix (Mm 5 11)) (Or.inl rfl) h8 (by omega) hP.ws.2.2.2.2.2.2.1 w11.1 hn w11.2 hc hR hC hb hr (fun i hi z => q ⟨i, hi, z⟩)
    refine ⟨M2, _, a2, n2, l2, T + 1, x1, m1, upA_eq _ _ _, fun c c1 c2 => upA_ne _ _ c1, R2, C2, F2, FA2, k1, k2, by omega, ?_⟩
    exact pres_use (q := 45) (v := 34) (by omega) hd _ _ x1
/-- no line is allowed: the row itself -/
theorem c_nouse {pr nB b r : Nat} (hm : m < 512) (hP : PG Mx Mm pr nB) (hS : IS (Mm 5) nB Mx 33 (Mm 1) m) (hb : b < 8) (hr : r < 16) (hc : ix (Mm 5 11) = 0) : ∃ l2 T2, f_X1_useLine 45 (nI b) (nI r) (nI (ix (Mm 5 11))) 34 Mx = some (-1, up Mx 45 5 (Mx 45 5 + 1)) ∧ RV (ix (Mm 5 2)) (up Mx 45 5 (Mx 45 5 + 1)) 34 (upd (Mm 1) 1668 (Mm 1 1668 + 1)) ∧ RC (ix (Mm 5 2)) (up Mx 45 5 (Mx 45 5 + 1)) 45 (upd (Mm 1) 1668 (Mm 1 1668 + 1)) 0 l2 T2 ∧ T2 ≤ m + 1 := by
  obtain ⟨n, l, T, hT, hn, hR, hC, -⟩ := hS.c
  have n0 : n = 0 := by omega
  subst n0
  obtain ⟨R2, C2, -⟩ := c_bump (v := 34) hP.c8 (by omega) hR hC
  refine ⟨l, T + 1, ?_, R2, C2, by omega⟩
  unfold f_X1_useLine
  rw [(hC.nofound (b := b) (r := r) hb hr (fun i hi => by omega)).1, bnd_some, if_pos rfl, wrt_def, if_neg (by rw [hc]; decide)]
theorem PG.d11 {pr nB : Nat} (h : PG Mx Mm pr nB) : Mx (pr + 1) 7 = nI (ix (Mm 5 11)) ∧ Mm 5 11 = nI (ix (Mm 5 11)) ∧ ix (Mm 5 11) ≤ 8 := by
  have w11 := h.ws.2.2.2.2.2.2.2.2.2.2.2.2
  refine ⟨?_, w11.1, w11.2⟩
  rw [h.2.2.2.1.2.1.2.2.2.2.2.2.2.2.2.2]
  exact w11.1
theorem FrC_45 {v : Int32} {j : Nat} : FrC 34 Mx (up Mx 45 j v) := fun c _ h2 => up_a _ _ _ (by omega)
theorem s_hostRead (h : Inv m Mx Mm) (hm : m < 512) (x y z : Int32) : CallR m [eIO] (f_X9_hostRead x y z Mx) (f_X10_hostRead x y z Mm) := by
  obtain ⟨M1, e1, t0, hI⟩ := inv_0 h
  obtain ⟨pr, nB, hP, hS, -⟩ := id hI
  unfold f_X10_hostRead j_X10_hostRead_51 f_X9_hostRead j_X9_hostRead_81
  rw [wrt_def, e1]
  by_cases hx : okWd (M1 5) x y z
  · obtain ⟨⟨⟨b, hb, rfl⟩, ⟨r, hr, rfl⟩⟩, ⟨k, hk, rfl⟩⟩ := id hx
    have h0 := hP.n0
    have h1 := hP.n1
    have h2 := hP.n2
    obtain ⟨d1, d2, d3⟩ := hP.d11
    rw [mWd_T hP hx, may_T t0, bnd_some, if_neg ne10, rqWd_T hP hx, bX_ok, if_pos hP.pp, hP.ixp, d1]
    unfold f_X10_found
    by_cases hc : 1 ≤ ix (M1 5 11)
    · obtain ⟨M2, Mm2, a2, n2, l2, T2, x1, m1, f1, f2, R2, C2, F2, FA2, k1, k2, k3, k4⟩ := c_use hm hP hS (b := b) (r := r) (by omega) (by omega) hc
      have hl := C2.l8 (n2 - 1) (by omega)
      have n8 := C2.n8
      obtain ⟨_, _, _, _, _, _, _, _, hw⟩ := C2.line (n2 - 1) (by omega)
      rw [x1, bnd_some, if_pos (ne_m1 (by omega)), if_neg (show ¬ M1 5 11 ≤ 0 from by rw [d2]; exact nI_ge (a := 0) (by omega) (by omega)), m1, bnd_some, bnd_some, m_cell3, show (8 : Int32) = nI 8 from rfl, pk_mul, nI_add, if_pos (of_eq_true (inb_T (by first | omega | (unfold wdP; omega) | (unfold lnP; omega) | (unfold cl; omega)) (by omega))), if_pos (of_eq_true (inb_T (by first | omega | (unfold wdP; omega) | (unfold lnP; omega) | (unfold cl; omega)) (by omega))), ix_nI (by omega), ix_nI (by unfold cl; omega), f1]
      refine stp_ok (a2 (cl (n2 - 1) (3 + k))) M2 Mm2 ?_ rfl (by rw [f2 0 (by omega) (by omega)]; exact t0) (hI.cach F2 FA2 R2 C2 k2 k3 k4 f1 (fun c hc => f2 c (by omega) (by omega)))
      rw [← hw k hk, Nat.mul_comm]
    · have hc0 : ix (M1 5 11) = 0 := by omega
      obtain ⟨l2, T2, x1, R2, C2, k3⟩ := c_nouse hm hP hS (b := b) (r := r) (by omega) (by omega) hc0
      rw [x1, bnd_some, if_neg (fun z => z rfl), if_pos (show M1 5 11 ≤ 0 from by rw [d2]; exact nI_le (b := 0) (by omega) (by omega)), wrt_def, bnd_some, x_wordP, m_word, if_pos (of_eq_true (inb_T (by first | omega | (unfold wdP; omega) | (unfold lnP; omega) | (unfold cl; omega)) (by omega))), if_pos (of_eq_true (inb_T (by first | omega | (unfold wdP; omega) | (unfold lnP; omega) | (unfold cl; omega)) (by omega))), ix_nI (by omega), ix_nI (by unfold wdP; omega), up_as M1 1 1668]
      refine stp_ok (M1 1 (wdP b r k)) _ _ ?_ ?_ (by rw [upA_ne _ _ (by omega)]; exact t0) (hI.cach FrC_45 (fun j hj => upd_ne _ _ (by omega)) R2 C2 (by omega) k3 (dB_of hS.dirty (up_a _ _ _ (by omega))) (upA_eq _ _ _) (fun c hc => upA_ne _ _ (by omega)))
      · have e := R2.1 (8 * (16 * b + r) + k) (by omega) (by omega)
        rw [upd_ne _ _ (by omega)] at e
        rw [show wdP b r k = 160 + (8 * (16 * b + r) + k) by unfold wdP; omega, ← e]
      · rw [upA_eq, upd_ne _ _ (by unfold wdP; omega)]
  · rw [mWd_F hP hx, may_F1 t0, bnd_some, if_pos rfl, rqWd_F hP hx, bX_ex]
    exact stp_ex 0 eIO rfl rfl rfl hI
/-- a word of a row itself is written -/
theorem RV_up {nc : Nat} {M : Mem} {a : Nat → Int32} {b r k : Nat} {v : Int32} (h : RV nc M 34 a) (hb : b < 8) (hr : r < 16) (hk : k < 8) : RV nc (up M 35 (8 * (16 * b + r) + k) v) 34 (upd a (wdP b r k) v) := by
  constructor
  · intro i hi hc
    show up M 35 (8 * (16 * b + r) + k) v 35 i = upd a (wdP b r k) v (160 + i)
    by_cases e : i = 8 * (16 * b + r) + k
    · rw [e, up_eq, show 160 + (8 * (16 * b + r) + k) = wdP b r k by unfold wdP; omega, upd_eq]
    · rw [up_i _ _ e, upd_ne _ _ (by unfold wdP; omega)]
      exact h.1 i hi hc
  · intro i hi hc
    rw [up_a _ _ _ (by omega), upd_ne _ _ (by unfold wdP; omega)]
    exact h.2 i hi hc
/-- a word of the last line is written, and it becomes dirty -/
theorem RC_wr {nc : Nat} {M : Mem} {a : Nat → Int32} {n : Nat} {l : Nat → Nat} {T k : Nat} {v : Int32} (h : RC nc M 45 a n l T) (hnc : nc ≤ 8) (hn : 1 ≤ n) (hk : k < 8) : RC nc (up (up M 49 (8 * l (n - 1) + k) v) 47 (l (n - 1)) 1) 45 (upd (upd a (cl (n - 1) (3 + k)) v) (cl (n - 1) 2) 1) n l T := by
  have h8 := h.n8
  have hl := h.l8 (n - 1) (by omega)
  have cn : ∀ j, j < 1579 ∨ 1667 ≤ j → upd (upd a (cl (n - 1) (3 + k)) v) (cl (n - 1) 2) 1 j = a j := fun j hj => by rw [upd_ne _ _ (by unfold cl; omega), upd_ne _ _ (by unfold cl; omega)]
  have M0 : ∀ c, c ≠ 47 → c ≠ 49 → (up (up M 49 (8 * l (n - 1) + k) v) 47 (l (n - 1)) 1) c = M c := fun c c1 c2 => by rw [up_a _ _ _ c1, up_a _ _ _ c2]
  refine ⟨by rw [cn _ (by omega)]; exact h.cnt, h.n8, h.l8, fun i hi => ?_, ?_, ?_, ?_, ?_, ?_, ?_, ?_, ?_⟩
  · obtain ⟨b, r, hb, hr, hL, f1, f2, fd, fw⟩ := h.line i hi
    by_cases e : i = n - 1
    · subst e
      refine ⟨b, r, hb, hr, ⟨by rw [upd_ne _ _ (cl_ne (by omega) (by omega) (by omega)), upd_ne _ _ (cl_ne (by omega) (by omega) (by omega))]; exact hL.1, by rw [upd_ne _ _ (cl_ne (by omega) (by omega) (by omega)), upd_ne _ _ (cl_ne (by omega) (by omega) (by omega))]; exact hL.2⟩, by rw [M0 _ (by omega) (by omega)]; exact f1, ?_, ?_, fun q hq => ?_⟩
      · show up _ 47 _ 1 47 _ = _
        rw [up_eq, upd_eq]
      · rw [upd_eq]; exact Or.inr rfl
      · show up _ 47 _ 1 49 _ = _
        rw [up_a _ _ _ (by omega)]
        by_cases e2 : q = k
        · rw [e2, up_eq, upd_ne _ _ (by unfold cl; omega), upd_eq]
        · rw [up_i _ _ (by omega), upd_ne _ _ (by unfold cl; omega), upd_ne _ _ (by unfold cl; omega)]
          exact fw q hq
    · have e2 : l i ≠ l (n - 1) := fun z => e (h.inj hi (by omega) z)
      have hli := h.l8 i hi
      refine ⟨b, r, hb, hr, ⟨by rw [upd_ne _ _ (by unfold cl; omega), upd_ne _ _ (by unfold cl; omega)]; exact hL.1, by rw [upd_ne _ _ (by unfold cl; omega), upd_ne _ _ (by unfold cl; omega)]; exact hL.2⟩, by rw [M0 _ (by omega) (by omega)]; exact f1, ?_, ?_, fun q hq => ?_⟩
      · show up _ 47 _ 1 47 _ = _
        rw [up_i _ _ e2, up_a _ _ _ (by omega), upd_ne _ _ (by unfold cl; omega), upd_ne _ _ (by unfold cl; omega)]
        exact f2
      · rw [upd_ne _ _ (by unfold cl; omega), upd_ne _ _ (by unfold cl; omega)]; exact fd
      · show up _ 47 _ 1 49 _ = _
        rw [up_a _ _ _ (by omega)]
        by_cases e3 : 8 * l i + q = 8 * l (n - 1) + k
        · exfalso; omega
        · rw [up_i _ _ e3, upd_ne _ _ (by unfold cl; omega), upd_ne _ _ (by unfold cl; omega)]
          exact fw q hq
  · rw [M0 _ (by omega) (by omega)]; exact h.ord
  · rw [M0 _ (by omega) (by omega)]; exact h.top
  · rw [M0 _ (by omega) (by omega)]; exact h.cov
  · rw [M0 _ (by omega) (by omega)]; exact h.dist
  · rw [M0 _ (by omega) (by omega), cn _ (by omega)]; exact h.hit
  · rw [M0 _ (by omega) (by omega), cn _ (by omega)]; exact h.mis
  · rw [M0 _ (by omega) (by omega), cn _ (by omega)]; exact h.wrb
  · rw [cn _ (by omega), cn _ (by omega)]; exact h.sum
theorem s_hostWrite (h : Inv m Mx Mm) (hm : m < 512) (x y z w : Int32) : CallR m [eIO] (f_X9_hostWrite x y z w Mx) (f_X10_hostWrite x y z w Mm) := by
  obtain ⟨M1, e1, t0, hI⟩ := inv_0 h
  obtain ⟨pr, nB, hP, hS, -⟩ := id hI
  unfold f_X10_hostWrite j_X10_hostWrite_94 f_X9_hostWrite j_X9_hostWrite_128
  rw [wrt_def, e1]
  by_cases hx : okWd (M1 5) x y z
  · obtain ⟨⟨⟨b, hb, rfl⟩, ⟨r, hr, rfl⟩⟩, ⟨k, hk, rfl⟩⟩ := id hx
    have h0 := hP.n0
    have h1 := hP.n1
    have h2 := hP.n2
    obtain ⟨d1, d2, d3⟩ := hP.d11
    rw [mWd_T hP hx, may_T t0, bnd_some, if_pos ne10, rqWd_T hP hx, bX_ok, if_pos hP.pp, hP.ixp, d1]
    unfold f_X10_found
    by_cases hc : 1 ≤ ix (M1 5 11)
    · obtain ⟨M2, Mm2, a2, n2, l2, T2, x1, m1, f1, f2, R2, C2, F2, FA2, k1, k2, k3, k4⟩ := c_use hm hP hS (b := b) (r := r) (by omega) (by omega) hc
      have hl := C2.l8 (n2 - 1) (by omega)
      have n8 := C2.n8
      obtain ⟨_, _, _, _, _, _, _, _, hw⟩ := C2.line (n2 - 1) (by omega)
      have g5 : ∀ v, (up Mm2 1 (cl (n2 - 1) (3 + k)) v) 5 11 = M1 5 11 := fun v => by rw [up_a _ _ _ (by omega), f2 5 (by omega) (by omega)]
      have g1 : ∀ v, (up Mm2 1 (cl (n2 - 1) (3 + k)) v) 1 1578 = nI n2 := fun v => by rw [up_i _ _ (by unfold cl; omega), f1]; exact C2.cnt
      rw [x1, bnd_some, if_pos (ne_m1 (by omega)), if_neg (show ¬ M1 5 11 ≤ 0 from by rw [d2]; exact nI_ge (a := 0) (by omega) (by omega)), m1, bnd_some, bnd_some, m_cell3, show (8 : Int32) = nI 8 from rfl, pk_mul, nI_add, if_pos (of_eq_true (inb_T (by first | omega | (unfold wdP; omega) | (unfold lnP; omega) | (unfold cl; omega)) (by omega))), if_pos (of_eq_true (inb_T (by first | omega | (unfold wdP; omega) | (unfold lnP; omega) | (unfold cl; omega)) (by omega))), wrt_def, if_pos (of_eq_true (inb_T (by first | omega | (unfold wdP; omega) | (unfold lnP; omega) | (unfold cl; omega)) (by omega))), if_pos (of_eq_true (inb_T (by first | omega | (unfold wdP; omega) | (unfold lnP; omega) | (unfold cl; omega)) (by omega))), if_pos (of_eq_true (inb_T (by first | omega | (unfold wdP; omega) | (unfold lnP; omega) | (unfold cl; omega)) (by omega))), wrt_def, wrt_def, ix_nI (by omega), ix_nI (by omega), ix_nI (by unfold cl; omega), g5, g1, if_neg (show ¬ M1 5 11 ≤ 0 from by rw [d2]; exact nI_ge (a := 0) (by omega) (by omega)), show nI n2 - 1 = nI (n2 - 1) from ss (a := n2) (b := 1) (by omega), m_cell2, if_pos (of_eq_true (inb_T (by first | omega | (unfold wdP; omega) | (unfold lnP; omega) | (unfold cl; omega)) (by omega))), wrt_def, ix_nI (by unfold cl; omega), f1]
      have eM : up (up Mm2 1 (cl (n2 - 1) (3 + k)) w) 1 (cl (n2 - 1) 2) 1 = upA Mm2 1 (upd (upd a2 (cl (n2 - 1) (3 + k)) w) (cl (n2 - 1) 2) 1) := by rw [up_as, up_as, upA_eq, upA_upA, f1]
      rw [eM, Nat.mul_comm]
      have C3 := RC_wr (v := w) C2 h2.2 k1 (show k < 8 by omega)
      refine stp_ok (a2 (cl (n2 - 1) (3 + k))) _ _ ?_ rfl (by rw [upA_ne _ _ (by omega), f2 0 (by omega) (by omega)]; exact t0) (hI.cach ?_ ?_ ?_ C3 k2 k3 ?_ (upA_eq _ _ _) (fun c hc => by rw [upA_ne _ _ (by omega)]; exact f2 c (by omega) (by omega)))
      · rw [← hw k hk]
      · intro c c1 c2
        rw [up_a _ _ _ (by omega), up_a _ _ _ (by omega)]
        exact F2 c c1 c2
      · intro j hj
        rw [upd_ne _ _ (by unfold cl; omega), upd_ne _ _ (by unfold cl; omega)]
        exact FA2 j hj
      · exact rv_a R2 (by rw [up_a _ _ _ (by omega), up_a _ _ _ (by omega)]) (by rw [up_a _ _ _ (by omega), up_a _ _ _ (by omega)]) (fun j h1 h2 => by rw [upd_ne _ _ (by unfold cl; omega), upd_ne _ _ (by unfold cl; omega)])
      · exact dB_up1 (dB_up (by omega) k4)
    · have hc0 : ix (M1 5 11) = 0 := by omega
      obtain ⟨l2, T2, x1, R2, C2, k3⟩ := c_nouse hm hP hS (b := b) (r := r) (by omega) (by omega) hc0
      have g5 : ∀ v u, (up (up M1 1 1668 u) 1 (wdP b r k) v) 5 11 = M1 5 11 := fun v u => by rw [up_a _ _ _ (by omega), up_a _ _ _ (by omega)]
      rw [x1, bnd_some, if_neg (fun z => z rfl), if_pos (show M1 5 11 ≤ 0 from by rw [d2]; exact nI_le (b := 0) (by omega) (by omega)), wrt_def, wrt_def, bnd_some, x_wordP, m_word, if_pos (of_eq_true (inb_T (by first | omega | (unfold wdP; omega) | (unfold lnP; omega) | (unfold cl; omega)) (by omega))), if_pos (of_eq_true (inb_T (by first | omega | (unfold wdP; omega) | (unfold lnP; omega) | (unfold cl; omega)) (by omega))), if_pos (of_eq_true (inb_T (by first | omega | (unfold wdP; omega) | (unfold lnP; omega) | (unfold cl; omega)) (by omega))), if_pos (of_eq_true (inb_T (by first | omega | (unfold wdP; omega) | (unfold lnP; omega) | (unfold cl; omega)) (by omega))), wrt_def, ix_nI (by omega), ix_nI (by unfold wdP; omega), g5, if_pos (show M1 5 11 ≤ 0 from by rw [d2]; exact nI_le (b := 0) (by omega) (by omega))]
      have eM : up (up M1 1 1668 (M1 1 1668 + 1)) 1 (wdP b r k) w = upA M1 1 (upd (upd (M1 1) 1668 (M1 1 1668 + 1)) (wdP b r k) w) := by rw [up_as, up_as, upA_eq, upA_upA]
      rw [eM]
      refine stp_ok (M1 1 (wdP b r k)) _ _ ?_ ?_ (by rw [upA_ne _ _ (by omega)]; exact t0) (hI.cach ?_ ?_ (RV_up (b := b) (r := r) (k := k) (v := w) R2 (by omega) (by omega) (by omega)) (C2.of ?_ ?_ h2.2) (by omega) k3 (dB_of hS.dirty ?_) (upA_eq _ _ _) (fun c hc => upA_ne _ _ (by omega)))
      · have e := R2.1 (8 * (16 * b + r) + k) (by omega) (by omega)
        rw [upd_ne _ _ (by omega)] at e
        rw [show wdP b r k = 160 + (8 * (16 * b + r) + k) by unfold wdP; omega, ← e]
      · rw [up_i _ _ (by unfold wdP; omega)]
      · intro c c1 c2
        rw [up_a _ _ _ (by omega), up_a _ _ _ (by omega)]
      · intro j hj
        rw [upd_ne _ _ (by unfold wdP; omega), upd_ne _ _ (by omega)]
      · intro c c1 c2
        rw [up_a _ _ _ (by omega)]
      · intro j j1 j2
        rw [upd_ne _ _ (by unfold wdP; omega)]
      · rw [up_a _ _ _ (by omega), up_a _ _ _ (by omega)]
  · rw [mWd_F hP hx, may_F1 t0, bnd_some, if_neg nn00, rqWd_F hP hx, bX_ex]
    exact stp_ex 0 eIO rfl rfl rfl hI
theorem s_flush (h : Inv m Mx Mm) (x y : Int32) : CallR m [eIO] (f_X9_flush x y Mx) (f_X10_flush x y Mm) := by
  obtain ⟨M1, e1, t0, hI⟩ := inv_0 h
  obtain ⟨pr, nB, hP, hS, -⟩ := id hI
  unfold f_X10_flush f_X9_flush j_X10_flush_45 j_X10_flush_46
  rw [wrt_def, e1]
  by_cases hx : okR (M1 5) x y
  · obtain ⟨⟨b, hb, rfl⟩, ⟨r, hr, rfl⟩⟩ := id hx
    have h0 := hP.n0
    have h1 := hP.n1
    obtain ⟨n, l, T, hT, hn, hR, hC, -⟩ := hS.c
    rw [mRw_T hP hx, may_T t0, bnd_some, if_pos ne10, rqRw_T hP hx, bX_ok]
    by_cases q : ∃ i, i < n ∧ isL (M1 1) b r i
    · obtain ⟨i, hi, hL⟩ := q
      obtain ⟨x1, m1⟩ := hC.found hi (by omega) (by omega) hL
      have n8 := hC.n8
      obtain ⟨d, M2, a2, x2, m2, hd, R2, C2, F2, FA2, -⟩ := c_clean (v := 34) (Or.inl rfl) hP.c8 hP.ws.2.2.2.2.2.2.1 hR hC hi
      have x2 : f_X1_writeBack 45 (nI (l i)) 34 Mx = some (d, M2) := x2
      rw [x1, m1, bnd_some, bnd_some, if_neg (ne_m1 (by omega)), x2, m2, bnd_some, bnd_some, if_pos hd]
      refine stp_ok d M2 _ rfl ?_ (by rw [upA_ne _ _ (by omega)]; exact t0) (hI.cach F2 FA2 R2 C2 hn (by omega) ?_ (upA_eq _ _ _) (fun c hc => upA_ne _ _ (by omega)))
      · rcases hd with z | z <;> rw [z] <;> rfl
      · exact pres_wb (q := 45) (v := 34) (by omega) hS.dirty _ _ x2
    · obtain ⟨x1, m1⟩ := hC.nofound (b := b) (r := r) (by omega) (by omega) (fun i hi z => q ⟨i, hi, z⟩)
      have x2 : f_X1_writeBack 45 (-1) 34 Mx = some (0, Mx) := by
        unfold f_X1_writeBack j_X1_writeBack_24
        rw [if_pos rfl]
      rw [x1, m1, bnd_some, bnd_some, if_pos rfl, if_pos (Or.inl rfl), x2, bnd_some, if_pos (Or.inl rfl)]
      exact stp_ok 0 Mx M1 rfl rfl t0 hI.next
  · rw [mRw_F hP hx, may_F1 t0, bnd_some, if_neg nn00, rqRw_F hP hx, bX_ex]
    exact stp_ex 0 eIO rfl rfl rfl hI
theorem s_invalidate (h : Inv m Mx Mm) (x y : Int32) : CallR m [eIO] (f_X9_invalidate x y Mx) (f_X10_invalidate x y Mm) := by
  obtain ⟨M1, e1, t0, hI⟩ := inv_0 h
  obtain ⟨pr, nB, hP, hS, -⟩ := id hI
  unfold f_X10_invalidate f_X9_invalidate j_X10_invalidate_38
  rw [wrt_def, e1]
  by_cases hx : okR (M1 5) x y
  · obtain ⟨⟨b, hb, rfl⟩, ⟨r, hr, rfl⟩⟩ := id hx
    have h0 := hP.n0
    have h1 := hP.n1
    obtain ⟨n, l, T, hT, hn, hR, hC, -⟩ := hS.c
    rw [mRw_T hP hx, may_T t0, bnd_some, if_pos ne10, rqRw_T hP hx, bX_ok]
    by_cases q : ∃ i, i < n ∧ isL (M1 1) b r i
    · obtain ⟨i, hi, hL⟩ := q
      obtain ⟨x1, m1⟩ := hC.found hi (by omega) (by omega) hL
      have n8 := hC.n8
      obtain ⟨x2, m2, R2, C2, F2, FA2⟩ := c_remove (v := 34) hP.c8 hR hC hi
      have x2 : f_X1_removeLine 45 (nI (l i)) Mx = some (1, up Mx (34 + 11 + 1) (l i) (-1)) := x2
      rw [x1, m1, bnd_some, bnd_some, if_neg (ne_m1 (by omega)), x2, m2, bnd_some, bnd_some, if_pos (Or.inr rfl), if_neg (ne_m1 (by omega))]
      exact stp_ok 1 _ _ rfl rfl (by rw [upA_ne _ _ (by omega)]; exact t0) (hI.cach F2 FA2 R2 C2 (by omega) (by omega) (pres_rm (q := 45) hS.dirty _ _ x2) (upA_eq _ _ _) (fun c hc => upA_ne _ _ (by omega)))
    · obtain ⟨x1, m1⟩ := hC.nofound (b := b) (r := r) (by omega) (by omega) (fun i hi z => q ⟨i, hi, z⟩)
      have x2 : f_X1_removeLine 45 (-1) Mx = some (0, Mx) := by
        unfold f_X1_removeLine
        rw [if_neg (fun z => z rfl)]
      rw [x1, m1, bnd_some, bnd_some, if_pos rfl, if_pos rfl, x2, bnd_some, if_pos (Or.inl rfl)]
      exact stp_ok 0 Mx M1 rfl rfl t0 hI.next
  · rw [mRw_F hP hx, may_F1 t0, bnd_some, if_neg nn00, rqRw_F hP hx, bX_ex]
    exact stp_ex 0 eIO rfl rfl rfl hI
end HO
