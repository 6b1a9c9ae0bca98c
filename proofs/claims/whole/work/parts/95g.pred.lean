/-! ===== predictions of the finish; saved states; runs ===== -/
section PD
variable {Mx Mm : Mem} {m : Nat}
theorem m_would2 {M : Mem} {qb : Nat → Nat} {Q N bt : Nat} (ht : M 0 0 = 0) (hs : WFs (M 5)) (hQ : Q ≤ 16) (hq0 : M 1 1440 = nI Q) (hq : ∀ i, i < Q → M 1 (1441 + i) = nI (qb i) ∧ WFb (M 5) (qb i)) (hn : WFn N (M 1)) (hN : N + 480 * 17 < 2147483648) (hb : WFb (M 5) bt) : bnd (f_X10_keeps M) (fun _ M7 => bnd (f_X10_allTicks M7) (fun v8 M9 => bnd (f_X10_ticks (nI bt) M9) (fun _ M16 => j_X10_wouldFinish_52 M16))) = some (spLat (ix (M 5 0)) 255 (spBatch (M 5) bt (spQ (M 5) qb Q (M 1))), kpM M) := by
  obtain ⟨h0, -, h08, -⟩ := id hs
  rw [m_keeps, bnd_some]
  have k1 : (kpM M) 1 = M 1 := upA_ne _ _ (by decide)
  have k5 : (kpM M) 5 = M 5 := upA_ne _ _ (by decide)
  have e : upA M 3 (fun j => if j < 1671 then M 1 j else M 3 j) = kpM M := rfl
  rw [e]
  have ha := m_allTicks (M := kpM M) (qb := qb) (Q := Q) (N := N) (by rw [k5]; exact hs) hQ (by rw [k1]; exact hq0) (by rw [k1, k5]; exact hq) (by rw [k1]; exact hn) hN
  rw [k1, k5] at ha
  have e5 : ∀ A, (upA (kpM M) 1 A) 5 = M 5 := fun A => by rw [upA_ne _ _ (by decide)]; exact k5
  have hnQ := spQ_n (qb := qb) (n := Q) hs (fun j hj => (hq j hj).2) hn (by omega)
  have mt := m_ticks (M := upA (kpM M) 1 (spQ (M 5) qb Q (M 1))) (bt := bt) (N := N + 480 * Q) (by rw [e5]; exact hs) (by rw [e5]; exact hb) (by rw [upA_eq]; exact hnQ) (by omega)
  rw [upA_upA, upA_eq, e5] at mt
  rw [ha, bnd_some, mt, bnd_some]
  unfold j_X10_wouldFinish_52
  rw [m_ends (nb := ix (M 5 0)) (by rw [e5]; exact h0) h08, bnd_some, upA_eq, m_back, bnd_some, upA_eq, upA_upA]
  have e3 : ∀ A, (upA (kpM M) 1 A) 3 = fun j => if j < 1671 then M 1 j else M 3 j := fun A => by rw [upA_ne _ _ (by decide)]; exact upA_eq _ _ _
  rw [e3, back_keep (fun j hj => by rw [spBatch_hi hs hb (by omega)]; exact spQ_hi hs (fun i hi => (hq i hi).2) (by omega))]
  have : upA (kpM M) 1 (M 1) = kpM M := by
    have := upA_self (kpM M) 1
    rw [k1] at this
    exact this
  rw [this]
theorem IS.n {p : Nat → Int32} {nB : Nat} {a : Nat → Int32} (h : IS p nB Mx 33 a m) : ∃ N, N ≤ 480 * m ∧ WFn N a ∧ ZB (ix (p 0)) a := by
  obtain ⟨n, l, T, N, U, K, ⟨-, -, -, -, -, hn, -⟩, hZ, -, -, -, -, -, b2, -⟩ := h
  exact ⟨N, by omega, hn, hZ⟩
theorem kpM_inv (h : Inv m Mx Mm) : Inv m Mx (kpM Mm) := h.keep (Nat.le_refl _) (fun _ _ => rfl) (fun c hc => upA_ne _ _ (by omega)) (by unfold kpM; rw [upA_ne _ _ (by decide)]) (by unfold kpM; rw [upA_ne _ _ (by decide)]) (by unfold kpM; rw [upA_ne _ _ (by decide)])
theorem setT_inv (h : Inv m Mx Mm) (a : Nat → Int32) : Inv m (setT Mx 57 a) Mm := h.keep (Nat.le_refl _) (fun c hc => sTn _ _ (by omega)) (fun _ _ => rfl) rfl rfl rfl
theorem PG.pr12 {pr nB : Nat} (h : PG Mx Mm pr nB) : pr + 12 < 33 := by rcases h.2.1 with z | z <;> omega
theorem PG.bt {pr nB : Nat} (h : PG Mx Mm pr nB) : ∀ bt, bt < nB → WFb (Mm 5) bt ∧ PBt Mx pr (Mm 5) bt ∧ PUs Mx pr (Mm 5) bt := h.2.2.2.1.2.2.2.2.2.2
theorem s_wouldFinish (h : Inv m Mx Mm) (hm : m < 512) (x : Int32) : CallR m [eIO] (f_X9_wouldFinish x Mx) (f_X10_wouldFinish x Mm) := by
  obtain ⟨M1, e1, t0, hI⟩ := inv_0 h
  obtain ⟨pr, nB, hP, hS, -⟩ := id hI
  obtain ⟨q1, q2, q3, q4, -⟩ := hS.q
  obtain ⟨N, hN, hn, hZ⟩ := hS.n
  have p12 := hP.pr12
  obtain ⟨xp, xb⟩ := x_predict (M := Mx) (pr := pr) (p := M1 5) (a := M1 1) (qb := qbA (M1 1)) (Q := QA (M1 1)) (N := N) hP.1 p12 hP.ws hP.2.2.2.1.2.1 hS.tm.2.2.2.2.2 q3 q1 (fun i hi => ⟨(q4 i hi).2.2, (hP.bt _ (q4 i hi).1).1, (hP.bt _ (q4 i hi).1).2.1⟩) hn (by omega)
  have hq : ∀ i, i < QA (M1 1) → M1 1 (1441 + i) = nI (qbA (M1 1) i) ∧ WFb (M1 5) (qbA (M1 1) i) := fun i hi => ⟨(q4 i hi).2.1, (hP.bt _ (q4 i hi).1).1⟩
  have zz : ZB (ix (M1 5 0)) (spQ (M1 5) (qbA (M1 1)) (QA (M1 1)) (M1 1)) := spQ_z hP.ws (fun i hi => (hq i hi).2) hZ
  have j10 : ∀ y, j_X9_wouldFinish_10 y Mx = bnd (f_X9_predictFinish y (M1 5 9) Mx) (fun v3 M4 => some (rOk (v3), M4)) := by
    intro y
    unfold j_X9_wouldFinish_10
    rw [if_pos hP.pp, hP.ixp, hP.2.2.2.1.2.2.1]
  unfold f_X10_wouldFinish f_X9_wouldFinish
  rw [wrt_def, e1]
  by_cases hx1 : x = -1
  · subst hx1
    rw [if_pos rfl, if_pos rfl, may_T t0, bnd_some, if_pos ne10, j10, xp, bnd_some]
    have mw := m_would t0 hP.ws q3 q2 hq hn (by omega)
    have e : bnd (f_X10_keeps M1) (fun _ M7 => bnd (f_X10_allTicks M7) (fun v8 M9 => if (-1 : Int32) = (-1) then j_X10_wouldFinish_52 M9 else bnd (f_X10_ticks (-1) M9) (fun _ M16 => j_X10_wouldFinish_52 M16))) = bnd (f_X10_keeps M1) (fun _ M7 => bnd (f_X10_allTicks M7) (fun v8 M9 => j_X10_wouldFinish_52 M9)) := by
      simp only [↓reduceIte]
    rw [e, mw, spLat_z hP.n0.2 zz]
    exact stp_ok _ _ _ rfl rfl (by unfold kpM; rw [upA_ne _ _ (by decide)]; exact t0) (kpM_inv (setT_inv hI.next _))
  · rw [if_neg hx1, if_neg hx1]
    by_cases hx : okN x nB
    · obtain ⟨k, hk, rfl⟩ := id hx
      rw [mBt_T hP hx, if_neg ne10, may_T t0, bnd_some, if_pos ne10, rqBt_T hP hx, bX_ok, j10, xb k (hP.bt k hk).1 (hP.bt k hk).2.1, bnd_some]
      have mw := m_would2 t0 hP.ws q3 q2 hq hn (by omega) (hP.bt k hk).1
      have e : bnd (f_X10_keeps M1) (fun _ M7 => bnd (f_X10_allTicks M7) (fun v8 M9 => if nI k = (-1) then j_X10_wouldFinish_52 M9 else bnd (f_X10_ticks (nI k) M9) (fun _ M16 => j_X10_wouldFinish_52 M16))) = bnd (f_X10_keeps M1) (fun _ M7 => bnd (f_X10_allTicks M7) (fun v8 M9 => bnd (f_X10_ticks (nI k) M9) (fun _ M16 => j_X10_wouldFinish_52 M16))) := by
        simp only [hx1, ↓reduceIte]
      rw [e, mw, spLat_z hP.n0.2 (spBatch_z hP.ws (hP.bt k hk).1 zz)]
      exact stp_ok _ _ _ rfl rfl (by unfold kpM; rw [upA_ne _ _ (by decide)]; exact t0) (kpM_inv (setT_inv hI.next _))
    · rw [mBt_F hP hx, if_pos rfl, may_F1 t0, bnd_some, if_neg nn00, rqBt_F hP hx, bX_ex]
      exact stp_ex 0 eIO rfl rfl rfl hI
/-- the finish with another budget -/
def fbG (p a : Nat → Int32) (g : Nat) : Int32 := spLat (ix (p 0)) 255 (spQ (upd p 9 (nI g)) (qbA a) (QA a) a)
theorem x_predG {M2 : Mem} {pr nB g : Nat} (hm : m < 512) (hP : PG Mx Mm pr nB) (hS : IS (Mm 5) nB Mx 33 (Mm 1) m) (hF : ∀ c, c < 53 → M2 c = Mx c) (hg : 1 ≤ g ∧ g ≤ 8) : ∃ M3, f_X9_predictFinish (-1) (nI g) M2 = some (fbG (Mm 5) (Mm 1) g, M3) ∧ ∀ c, c < 53 ∨ 72 < c → M3 c = M2 c := by
  obtain ⟨q1, q2, q3, q4, -⟩ := hS.q
  obtain ⟨N, hN, hn, hZ⟩ := hS.n
  have p12 := hP.pr12
  have pk : ∀ k, k ≤ 12 → M2 (pr + k) = Mx (pr + k) := fun k hk => hF _ (by omega)
  have w9 := p9_w hg hP.ws
  have e9 : (upd (Mm 5) 9 (nI g)) 9 = nI g := upd_eq _ _ _
  have e0 : (upd (Mm 5) 9 (nI g)) 0 = Mm 5 0 := upd_ne _ _ (by decide)
  have hpp : PP M2 pr := by
    unfold PP
    rw [hF 0 (by omega)]
    exact hP.1
  obtain ⟨xp, -⟩ := x_predict (M := M2) (pr := pr) (p := upd (Mm 5) 9 (nI g)) (a := Mm 1) (qb := qbA (Mm 1)) (Q := QA (Mm 1)) (N := N) hpp p12 w9 (p9_s _ (hP.2.2.2.1.2.1.of pk)) (setT_of hS.tm.2.2.2.2.2 (fun c h1 h2 => hF c (by omega))) q3 (by rw [hF 50 (by omega)]; exact q1) (fun i hi => ⟨by rw [hF 51 (by omega)]; exact (q4 i hi).2.2, p9_wb _ (hP.bt _ (q4 i hi).1).1, p9_pb _ ((hP.bt _ (q4 i hi).1).2.1.of pk)⟩) hn (by omega)
  rw [e9] at xp
  have zz := spQ_z (n := QA (Mm 1)) (qb := qbA (Mm 1)) w9 (fun i hi => p9_wb _ (hP.bt _ (q4 i hi).1).1) (by rw [e0]; exact hZ)
  rw [e0] at zz
  rw [spLat_z hP.n0.2 zz] at xp
  exact ⟨_, xp, fun c hc => sTn _ _ (by omega)⟩
theorem up_back (M : Mem) (c i : Nat) (x : Int32) : up (up M c i x) c i (M c i) = M := by
  rw [up_as, up_as, upA_upA, upA_eq]
  have : upd (upd (M c) i x) i (M c i) = M c := by
    funext j
    by_cases z : j = i
    · rw [z, upd_eq]
    · rw [upd_ne _ _ z, upd_ne _ _ z]
  rw [this, upA_self]
theorem up_up (M : Mem) (c i : Nat) (x y : Int32) : up (up M c i x) c i y = up M c i y := by
  rw [up_as, up_as, upA_upA, upA_eq, up_as]
  have : upd (upd (M c) i x) i y = upd (M c) i y := by
    funext j
    by_cases z : j = i
    · rw [z, upd_eq, upd_eq]
    · rw [upd_ne _ _ z, upd_ne _ _ z, upd_ne _ _ z]
  rw [this]
theorem m_budG {pr nB g : Nat} (hm : m < 512) (hP : PG Mx Mm pr nB) (hS : IS (Mm 5) nB Mx 33 (Mm 1) m) (hg : 1 ≤ g ∧ g ≤ 8) : bnd (f_X10_allTicks (up (kpM Mm) 5 9 (nI g))) (fun v14 M15 => bnd (f_X10_comesBack M15) (fun _ M18 => some (v14, M18))) = some (fbG (Mm 5) (Mm 1) g, up (kpM Mm) 5 9 (nI g)) := by
  obtain ⟨q1, q2, q3, q4, -⟩ := hS.q
  obtain ⟨N, hN, hn, hZ⟩ := hS.n
  have w9 := p9_w hg hP.ws
  have k1 : (up (kpM Mm) 5 9 (nI g)) 1 = Mm 1 := by rw [up_a _ _ _ (by decide)]; exact upA_ne _ _ (by decide)
  have k5 : (up (kpM Mm) 5 9 (nI g)) 5 = upd (Mm 5) 9 (nI g) := by
    rw [up_row]
    have : (kpM Mm) 5 = Mm 5 := upA_ne _ _ (by decide)
    rw [this]
  have k3 : (up (kpM Mm) 5 9 (nI g)) 3 = fun j => if j < 1671 then Mm 1 j else Mm 3 j := by rw [up_a _ _ _ (by decide)]; exact upA_eq _ _ _
  have e0 : (upd (Mm 5) 9 (nI g)) 0 = Mm 5 0 := upd_ne _ _ (by decide)
  have ha := m_allTicks (M := up (kpM Mm) 5 9 (nI g)) (qb := qbA (Mm 1)) (Q := QA (Mm 1)) (N := N) (by rw [k5]; exact w9) q3 (by rw [k1]; exact q2) (by rw [k1, k5]; exact fun i hi => ⟨(q4 i hi).2.1, p9_wb _ (hP.bt _ (q4 i hi).1).1⟩) (by rw [k1]; exact hn) (by omega)
  rw [k1, k5, e0] at ha
  rw [ha, bnd_some, m_back, bnd_some, upA_eq, upA_upA, upA_ne _ _ (by decide), k3, back_keep (fun j hj => spQ_hi w9 (fun i hi => p9_wb _ (hP.bt _ (q4 i hi).1).1) (by omega))]
  have : upA (up (kpM Mm) 5 9 (nI g)) 1 (Mm 1) = up (kpM Mm) 5 9 (nI g) := by
    have z := upA_self (up (kpM Mm) 5 9 (nI g)) 1
    rw [k1] at z
    exact z
  rw [this]
  rfl
theorem s_budgetFor (h : Inv m Mx Mm) (hm : m < 512) (x : Int32) : CallR m [eNS] (f_X9_budgetFor x Mx) (f_X10_budgetFor x Mm) := by
  obtain ⟨M1, e1, t0, hI⟩ := inv_0 h
  obtain ⟨pr, nB, hP, hS, -⟩ := id hI
  unfold f_X10_budgetFor f_X9_budgetFor
  rw [wrt_def, e1, m_keeps, bnd_some]
  have ek : upA M1 3 (fun j => if j < 1671 then M1 1 j else M1 3 j) = kpM M1 := rfl
  rw [ek]
  have kp5 : (kpM M1) 5 9 = M1 5 9 := by unfold kpM; rw [upA_ne _ _ (by decide)]
  have kp0 : (kpM M1) 0 0 = 0 := by unfold kpM; rw [upA_ne _ _ (by decide)]; exact t0
  -- the reference's rounds
  have back : ∀ k, (up (up (kpM M1) 5 9 (nI k)) 5 9 (M1 5 9)) = kpM M1 := fun k => by rw [← kp5]; exact up_back _ _ _ _
  have j68 : ∀ k (f : Int32), j_X10_budgetFor_68 (M1 5 9) f (up (kpM M1) 5 9 (nI k)) = bnd (f_X10_may (if f = (-1) then (0 : Int32) else (1 : Int32)) 1 (kpM M1)) (fun v7 M8 => some ((if v7 = 0 then (0 : Int32) else f), M8)) := by
    intro k f
    unfold j_X10_budgetFor_68
    rw [wrt_def, back]
  have mround : ∀ g M2, 1 ≤ g → g ≤ 8 → (∀ y, up M2 5 9 y = up (kpM M1) 5 9 y) → ∀ K, l_X10_budgetFor_22 x (M1 5 9) K (-1, nI g, M2) = K ((if x < fbG (M1 5) (M1 1) g then (-1 : Int32) else nI g), nI (g + 1), up (kpM M1) 5 9 (nI g)) := by
    intro g M2 g1 g8 e2 K
    simp only [l_X10_budgetFor_22]
    rw [if_neg (show ¬ (8 : Int32) < nI g from nI_nlt (a := 8) g8 (by omega)), if_neg (fun z => z trivial), wrt_def, e2]
    have mb := m_budG hm hP hS ⟨g1, g8⟩
    cases hA : f_X10_allTicks (up (kpM M1) 5 9 (nI g)) with
    | none => rw [hA] at mb; cases mb
    | some q =>
      rw [hA] at mb
      obtain ⟨v, M15⟩ := q
      rw [bnd_some] at mb
      rw [bnd_some]
      cases hB : f_X10_comesBack M15 with
      | none => rw [hB] at mb; cases mb
      | some q2 =>
        rw [hB] at mb
        obtain ⟨v2, M18⟩ := q2
        rw [bnd_some] at mb
        rw [bnd_some, nI_1]
        have e3 := Option.some.inj mb
        have e4 : v = fbG (M1 5) (M1 1) g := congrArg Prod.fst e3
        have e5 : M18 = up (kpM M1) 5 9 (nI g) := congrArg Prod.snd e3
        rw [e4, e5]
  let MS : Nat → Mem := fun i => if i = 0 then kpM M1 else up (kpM M1) 5 9 (nI i)
  have MSe : ∀ i y, up (MS i) 5 9 y = up (kpM M1) 5 9 y := by
    intro i y
    show up (if i = 0 then kpM M1 else up (kpM M1) 5 9 (nI i)) 5 9 y = _
    split
    · rfl
    · exact up_up _ _ _ _ _
  have MSs : ∀ i, MS (i + 1) = up (kpM M1) 5 9 (nI (i + 1)) := fun i => if_neg (by omega)
  -- the class's rounds
  have xround : ∀ g M2, 1 ≤ g → g ≤ 8 → (∀ c, c < 53 ∨ 72 < c → M2 c = Mx c) → ∃ M3, (∀ c, c < 53 ∨ 72 < c → M3 c = Mx c) ∧ ∀ K, l_X9_budgetFor_2 x K (nI g, M2) = if x < fbG (M1 5) (M1 1) g then K (nI (g + 1), M3) else some (rOk (nI g), M3) := by
    intro g M2 g1 g8 hF
    obtain ⟨M3, xp, F3⟩ := x_predG (g := g) hm hP hS (fun c hc => hF c (Or.inl hc)) ⟨g1, g8⟩
    refine ⟨M3, fun c hc => by rw [F3 c hc]; exact hF c hc, fun K => ?_⟩
    simp only [l_X9_budgetFor_2]
    rw [if_neg (show ¬ (8 : Int32) < nI g from nI_nlt (a := 8) g8 (by omega)), xp, bnd_some, nI_1]
  have keepX : ∀ M3, (∀ c, c < 53 ∨ 72 < c → M3 c = Mx c) → Inv (m + 1) M3 (kpM M1) := fun M3 hF => kpM_inv (hI.next.keep (Nat.le_refl _) (fun c hc => hF c (by omega)) (fun _ _ => rfl) rfl rfl rfl)
  by_cases q : ∃ i, i < 8 ∧ ¬ x < fbG (M1 5) (M1 1) (i + 1)
  · obtain ⟨i, hi, hi2, hi3⟩ := least_of q
    have X := loop_inv (body := l_X9_budgetFor_2 x) (init := (1, Mx)) (Q := fun res => ∃ M3, (∀ c, c < 53 ∨ 72 < c → M3 c = Mx c) ∧ res = some (rOk (nI (i + 1)), M3)) i (fun k s => s.1 = nI (k + 1) ∧ ∀ c, c < 53 ∨ 72 < c → s.2 c = Mx c) ⟨rfl, fun _ _ => rfl⟩ (by omega) (by
      rintro k hk ⟨y, M2⟩ ⟨hy, hF⟩
      have hy : y = nI (k + 1) := hy
      subst hy
      obtain ⟨M3, F3, r3⟩ := xround (k + 1) M2 (by omega) (by omega) hF
      exact ⟨(nI (k + 1 + 1), M3), ⟨rfl, F3⟩, fun K => by rw [r3, if_pos (Classical.not_not.mp (hi3 k hk))]⟩) (by
      rintro ⟨y, M2⟩ ⟨hy, hF⟩
      have hy : y = nI (i + 1) := hy
      subst hy
      obtain ⟨M3, F3, r3⟩ := xround (i + 1) M2 (by omega) (by omega) hF
      exact ⟨_, ⟨M3, F3, rfl⟩, fun K => by rw [r3, if_neg hi2]⟩)
    obtain ⟨res, ⟨M3, F3, er⟩, el⟩ := X
    have ML := loop_run (body := l_X10_budgetFor_22 x (M1 5 9)) (i + 1) (fun k => ((if k = i + 1 then nI (i + 1) else -1), nI (k + 1), MS k)) (init := (-1, 1, kpM M1)) (r := some (nI (i + 1), kpM M1)) (by show _ = ((if 0 = i + 1 then nI (i + 1) else -1), nI (0 + 1), MS 0); rw [if_neg (by omega)]; rfl) (by omega) (fun k hk K => by
        rw [if_neg (by omega), mround (k + 1) (MS k) (by omega) (by omega) (MSe k), MSs]
        by_cases z : k = i
        · subst z
          rw [if_neg hi2, if_pos rfl]
        · rw [if_pos (Classical.not_not.mp (hi3 k (by omega))), if_neg (by omega)]) (fun K => by
        rw [if_pos rfl, MSs]
        have fin : j_X10_budgetFor_68 (M1 5 9) (nI (i + 1)) (up (kpM M1) 5 9 (nI (i + 1))) = some (nI (i + 1), kpM M1) := by
          rw [j68, if_neg (ne_m1 (by omega)), may_T kp0, bnd_some, if_neg ne10]
        simp only [l_X10_budgetFor_22]
        rw [fin, if_pos (ne_m1 (by omega))]
        split <;> rfl)
    rw [el, er, ML]
    exact stp_ok _ M3 _ rfl rfl kp0 (keepX M3 F3)
  · have al : ∀ i, i < 8 → x < fbG (M1 5) (M1 1) (i + 1) := fun i hi => Classical.not_not.mp (fun z => q ⟨i, hi, z⟩)
    have X := loop_inv (body := l_X9_budgetFor_2 x) (init := (1, Mx)) (Q := fun res => ∃ M3, (∀ c, c < 53 ∨ 72 < c → M3 c = Mx c) ∧ res = some (rEx eNS, M3)) 8 (fun k s => s.1 = nI (k + 1) ∧ ∀ c, c < 53 ∨ 72 < c → s.2 c = Mx c) ⟨rfl, fun _ _ => rfl⟩ (by omega) (by
      rintro k hk ⟨y, M2⟩ ⟨hy, hF⟩
      have hy : y = nI (k + 1) := hy
      subst hy
      obtain ⟨M3, F3, r3⟩ := xround (k + 1) M2 (by omega) (by omega) hF
      exact ⟨(nI (k + 1 + 1), M3), ⟨rfl, F3⟩, fun K => by rw [r3, if_pos (al k hk)]⟩) (by
      rintro ⟨y, M2⟩ ⟨hy, hF⟩
      have hy : y = nI (8 + 1) := hy
      subst hy
      refine ⟨_, ⟨M2, hF, rfl⟩, fun K => ?_⟩
      simp only [l_X9_budgetFor_2]
      rw [if_pos (by decide)])
    obtain ⟨res, ⟨M3, F3, er⟩, el⟩ := X
    have ML := loop_run (body := l_X10_budgetFor_22 x (M1 5 9)) 8 (fun k => (-1, nI (k + 1), MS k)) (init := (-1, 1, kpM M1)) (r := some (0, up (kpM M1) 0 0 (nI (0 + 1)))) rfl (by omega) (fun k hk K => by
        rw [mround (k + 1) (MS k) (by omega) (by omega) (MSe k), MSs, if_pos (al k hk)]) (fun K => by
        simp only [l_X10_budgetFor_22]
        rw [if_pos (by decide), MSs, j68, if_pos rfl, may_F1 kp0, bnd_some, if_pos rfl])
    rw [el, er, ML]
    exact stp_ex 0 eNS rfl rfl rfl (kpM_inv (hI.keep (Nat.le_refl _) (fun c hc => F3 c (by omega)) (fun _ _ => rfl) rfl rfl rfl))
end PD
