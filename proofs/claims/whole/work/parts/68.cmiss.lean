/-! ===== the host uses a row that has no line ===== -/
theorem m_usesKey {M : Mem} {n b r nC : Nat} (hn : M 1 1578 = nI n) (h8 : n ≤ nC) (hC : M 5 11 = nI nC) (hC8 : nC ≤ 8) (hu : ∀ j, j < n → ¬ isL (M 1) b r j) : f_X10_uses (nI b) (nI r) M = if ¬ n = nC then j_X10_uses_65 (nI b) (nI r) (upA M 1 (upd (M 1) 1668 (M 1 1668 + 1))) else bnd (f_X10_cleans 0 (upA M 1 (upd (M 1) 1668 (M 1 1668 + 1)))) (fun v23 M24 => bnd (f_X10_goes 0 M24) (fun _ M26 => j_X10_uses_65 (nI b) (nI r) M26)) := by
  unfold f_X10_uses
  rw [m_lineNo hn (by omega) hu, bnd_some]
  have e0 : (if ¬ (-1 : Int32) = -1 then (0 : Int32) else 1) = 1 := rfl
  rw [e0]
  have e7 : (1667 : Int32) + 1 = nI 1668 := rfl
  simp only [e7]
  rw [if_pos (of_eq_true (inb_T (by omega) (by omega))), if_pos (of_eq_true (inb_T (by omega) (by omega))), wrt_def, ix_nI (by omega), up_as, if_neg (show ¬ ¬ True from fun z => z trivial), upA_eq, upd_ne _ _ (show (1578 : Nat) ≠ 1668 by decide), hn, upA_ne _ _ (show (5 : Nat) ≠ 1 by decide), hC]
  by_cases q : n = nC
  · rw [if_neg (fun z => z (by rw [q])), if_neg (fun z => z q)]
  · rw [if_pos (fun z => q ((nI_eq (by omega) (by omega)).mp z)), if_pos q]
theorem m_uses65 {M : Mem} {a : Nat → Int32} {n b r nc : Nat} (hn : a 1578 = nI n) (h8 : n < 8) (hb : b < 8) (hr : r < 16) (h2 : M 5 2 = nI nc) (hnc : nc ≤ 8) : j_X10_uses_65 (nI b) (nI r) (upA M 1 a) = some (nI n, upA M 1 (coA a n b r nc)) := by
  unfold j_X10_uses_65
  have e5 : ∀ a, (upA M 1 a) 5 = M 5 := fun a => upA_ne _ _ (by decide)
  have hm := m_comes (M := upA M 1 a) (n := n) (b := b) (r := r) (nc := nc) (by rw [upA_eq]; exact hn) h8 hb hr (by rw [e5, h2]) hnc
  rw [upA_upA, upA_eq] at hm
  rw [hm, bnd_some, upA_eq]
  have e9 : coA a n b r nc 1578 = nI (n + 1) := upd_eq _ _ _
  rw [e9, n1, ss (by omega), Nat.add_sub_cancel]
theorem cntL_full {f : Nat → Int32} {n : Nat} (h : ∀ j, j < n → ¬ f j = -1) : cntL f n = n := by
  unfold cntL
  induction n with
  | zero => rfl
  | succ n ih => rw [foldN_s, if_neg (h n (by omega)), ih (fun j hj => h j (by omega))]
theorem RC.free {nc : Nat} {M : Mem} {q : Nat} {a : Nat → Int32} {n : Nat} {l : Nat → Nat} {T : Nat} (h : RC nc M q a n l T) (hn : n < 8) : ∃ lx, lx < 8 ∧ M (q + 1) lx = -1 ∧ f_X1_lineWith q (-1) M = some (nI lx, M) := by
  have hc := cntL_eq (M (q + 1)) l (fun i hi => ⟨h.l8 i hi, (h.line i hi).used⟩) (fun i j hi hj z => by have := h.inj (show i < n by omega) hj z; omega) h.cov
  have he : ∃ j, j < 8 ∧ M (q + 1) j = -1 := by
    apply Classical.byContradiction
    intro z
    have := cntL_full (f := M (q + 1)) (n := 8) (fun j hj y => z ⟨j, hj, y⟩)
    omega
  obtain ⟨lx, h1, h2, h3⟩ := least_of he
  exact ⟨lx, h1, h2, x_lw h1 h2 h3⟩
/-- the class's memory behind a line that came to the place lx -/
def adM (M : Mem) (v lx ky : Nat) (t : Int32) : Mem := up (upA (up (up M (v + 11 + 1) lx (nI ky)) (v + 11 + 2) lx 0) (v + 11 + 4) (fun k => if 8 * lx ≤ k ∧ k < 8 * lx + 8 then M (v + 1) (8 * ky + (k - 8 * lx)) else M (v + 11 + 4) k)) (v + 11 + 3) lx t
theorem x_mk {M M7 : Mem} {v lx ky : Nat} {d : Int32} (hv : isV v) (hl : lx < 8) (hk : ky < 128) (hw : f_X1_writeBack (v + 11) (nI lx) v M = some (d, M7)) : bnd (j_X1_makeLine_20 (v + 11) (nI ky) v (nI lx) M) (fun v6 M7 => j_X1_useLine_58 (v + 11) v6 M7) = some (nI lx, adM M7 v lx ky (M7 (v + 11) 4 + M7 (v + 11) 5)) := by
  have hin := inb_T hl (show 8 < 2147483648 by decide)
  have hix : ix (nI lx) = lx := ix_nI (by omega)
  have em : nI lx * 8 = nI (8 * lx) := by rw [n8, pk_mul, Nat.mul_comm]
  have ek : nI ky * 8 = nI (8 * ky) := by rw [n8, pk_mul, Nat.mul_comm]
  unfold j_X1_makeLine_20
  rw [hw, bnd_some]
  simp only [↓reduceIte, hin, hix, wrt_def, em, ek]
  rw [x_copyWords _ (len_w hv) (len_c hv) (by omega) (by omega) (by omega) (by omega), bnd_some, bnd_some]
  unfold j_X1_useLine_58 adM
  simp only [↓reduceIte, hin, hix, wrt_def]
  have c0 : ∀ F : Nat → Int32, (upA (up (up M7 (v + 11 + 1) lx (nI ky)) (v + 11 + 2) lx 0) (v + 11 + 4) F) (v + 11) = M7 (v + 11) := fun F => by rw [upA_ne _ _ (by omega), up_a _ _ _ (by omega), up_a _ _ _ (by omega)]
  have c1 : (up (up M7 (v + 11 + 1) lx (nI ky)) (v + 11 + 2) lx 0) (v + 1) = M7 (v + 1) := by rw [up_a _ _ _ (by omega), up_a _ _ _ (by omega)]
  have c4 : (up (up M7 (v + 11 + 1) lx (nI ky)) (v + 11 + 2) lx 0) (v + 11 + 4) = M7 (v + 11 + 4) := by rw [up_a _ _ _ (by omega), up_a _ _ _ (by omega)]
  rw [c0, c1, c4]
theorem x_wbfree {M : Mem} {v lx : Nat} (hl : lx < 8) (e1 : M (v + 11 + 1) lx = -1) : f_X1_writeBack (v + 11) (nI lx) v M = some (0, M) := by
  have hin := inb_T hl (show 8 < 2147483648 by decide)
  have hix : ix (nI lx) = lx := ix_nI (by omega)
  have hm1 : (nI lx = -1) = False := eq_false (ne_m1 (by omega))
  unfold f_X1_writeBack
  simp only [↓reduceIte, hin, hix, hm1, e1, if_true, if_false]
  rfl
theorem c_miss {Mx Mm : Mem} {v nc nC n b r : Nat} {l : Nat → Nat} {T : Nat} (hv : isV v) (hnc : nc ≤ 8) (hT : T + 1 < 2147483648) (h2 : Mm 5 2 = nI nc) (h11 : Mm 5 11 = nI nC) (hn : n ≤ nC) (hC8 : nC ≤ 8) (hC1 : 1 ≤ nC) (hR : RV nc Mx v (Mm 1)) (hC : RC nc Mx (v + 11) (Mm 1) n l T) (hb : b < 8) (hr : r < 16) (hL : ∀ i, i < n → ¬ isL (Mm 1) b r i) : ∃ M2 a2 n2 l2, f_X1_useLine (v + 11) (nI b) (nI r) (nI nC) v Mx = some (nI (l2 (n2 - 1)), M2) ∧ f_X10_uses (nI b) (nI r) Mm = some (nI (n2 - 1), upA Mm 1 a2) ∧ RV nc M2 v a2 ∧ RC nc M2 (v + 11) a2 n2 l2 (T + 1) ∧ FrC v Mx M2 ∧ FrA (Mm 1) a2 ∧ 1 ≤ n2 ∧ n2 ≤ nC := by
  have hn8 := hC.n8
  obtain ⟨hx, -⟩ := hC.nofound hb hr hL
  rw [m_usesKey hC.cnt hn h11 hC8 hL]
  obtain ⟨bR, bC, bt⟩ := c_bump hnc hT hR hC
  have hFb : FrC v Mx (up Mx (v + 11) 5 (Mx (v + 11) 5 + 1)) := (FrC.refl v Mx).up (by omega)
  have hrows : (up Mx (v + 11) 5 (Mx (v + 11) 5 + 1)) (v + 11 + 1) = Mx (v + 11 + 1) := up_a _ _ _ (by omega)
  have hFa : FrA (Mm 1) (upd (Mm 1) 1668 (Mm 1 1668 + 1)) := fun j hj => upd_ne _ _ (by omega)
  have bL : ∀ i, i < n → ¬ isL (upd (Mm 1) 1668 (Mm 1 1668 + 1)) b r i := fun i hi z => hL i hi ((hC.key hi hb hr).mpr (by have := (bC.key hi hb hr).mp z; rw [hrows] at this; exact this))
  have eky : nI b * 16 + nI r = nI (16 * b + r) := by rw [n16, pk_mul, nI_add, Nat.mul_comm]
  have hnz : ¬ nI nC = 0 := fun z => by have := (nI_eq (b := 0) (by omega) (by omega)).mp z; omega
  -- the class's side, up to the place
  have xs : f_X1_useLine (v + 11) (nI b) (nI r) (nI nC) v Mx = bnd (f_X1_makeLine (v + 11) (nI (16 * b + r)) (nI nC) v (up Mx (v + 11) 5 (Mx (v + 11) 5 + 1))) (fun v6 M7 => j_X1_useLine_58 (v + 11) v6 M7) := by
    unfold f_X1_useLine
    rw [hx, bnd_some, if_pos rfl, wrt_def, if_pos hnz, eky]
  rw [xs]
  generalize hM1 : up Mx (v + 11) 5 (Mx (v + 11) 5 + 1) = M1 at bR bC bt hFb hrows
  generalize hA1 : upd (Mm 1) 1668 (Mm 1 1668 + 1) = A1 at bR bC bL hFa
  have sumM : ∀ {M : Mem} {a : Nat → Int32} {n : Nat} {l : Nat → Nat} (h : RC nc M (v + 11) a n l (T + 1)), M (v + 11) 4 + M (v + 11) 5 = nI (T + 1) := fun h => by rw [h.hit, h.mis]; exact h.sum
  have adE : ∀ (M : Mem) (lx ky : Nat) (t : Int32), (adM M v lx ky t) (v + 11 + 1) = upd (M (v + 11 + 1)) lx (nI ky) ∧ (adM M v lx ky t) (v + 11 + 2) = upd (M (v + 11 + 2)) lx 0 ∧ (adM M v lx ky t) (v + 11 + 3) = upd (M (v + 11 + 3)) lx t ∧ (adM M v lx ky t) (v + 11 + 4) = (fun k => if 8 * lx ≤ k ∧ k < 8 * lx + 8 then M (v + 1) (8 * ky + (k - 8 * lx)) else M (v + 11 + 4) k) ∧ (∀ c, c < v + 11 + 1 → (adM M v lx ky t) c = M c) ∧ FrC v M (adM M v lx ky t) := by
    intro M lx ky t
    unfold adM
    refine ⟨?_, ?_, ?_, ?_, fun c hc => ?_, ?_⟩
    · rw [up_a _ _ _ (by omega), upA_ne _ _ (by omega), up_a _ _ _ (by omega), up_row]
    · rw [up_a _ _ _ (by omega), upA_ne _ _ (by omega), up_row, up_a _ _ _ (by omega)]
    · rw [up_row, upA_ne _ _ (by omega), up_a _ _ _ (by omega), up_a _ _ _ (by omega)]
    · rw [up_a _ _ _ (by omega), upA_eq]
    · rw [up_a _ _ _ (by omega), upA_ne _ _ (by omega), up_a _ _ _ (by omega), up_a _ _ _ (by omega)]
    · exact ((((FrC.refl v M).up (by omega)).up (by omega)).upA4 (by omega)).up (by omega)
  unfold f_X1_makeLine
  rw [bC.count, bnd_some]
  by_cases q : n = nC
  · -- full: the oldest one goes
    rw [if_pos (nI_le (by omega) (by omega)), if_neg (fun z => z q), bC.old (by omega), bnd_some]
    have e1' : (upA Mm 1 A1) 1 = A1 := upA_eq _ _ _
    have e5' : (upA Mm 1 A1) 5 = Mm 5 := upA_ne _ _ (by decide)
    obtain ⟨d, M3, a3, xw, mc, -, R3, C3, F3, FA3, row3, use3, -⟩ := c_clean (Mx := M1) (Mm := upA Mm 1 A1) (i := 0) hv hnc (by rw [e5']; exact h2) (by rw [e1']; exact bR) (by rw [e1']; exact bC) (by omega)
    rw [upA_upA] at mc
    rw [e1'] at FA3
    have mc' : f_X10_cleans 0 (upA Mm 1 A1) = some (d, upA Mm 1 a3) := mc
    have e1'' : (upA Mm 1 a3) 1 = a3 := upA_eq _ _ _
    obtain ⟨-, mg, R4, C4, F4, FA4⟩ := c_remove (Mx := M3) (Mm := upA Mm 1 a3) (i := 0) hnc (by rw [e1'']; exact R3) (by rw [e1'']; exact C3) (by omega)
    rw [upA_upA, e1''] at mg
    rw [e1''] at R4 C4 FA4
    have mg' : f_X10_goes 0 (upA Mm 1 a3) = some (0, upA Mm 1 (goA a3 0 n)) := mg
    rw [x_mk hv (bC.l8 0 (by omega)) (by omega) xw, mc', bnd_some, mg', bnd_some, m_uses65 (nc := nc) go_78 (by omega) hb hr h2 hnc, sumM C3]
    obtain ⟨g1, g2, g3, g4, g5, g6⟩ := adE M3 (l 0) (16 * b + r) (nI (T + 1))
    have rw1 : (up M3 (v + 11 + 1) (l 0) (-1)) (v + 11 + 1) = upd (M3 (v + 11 + 1)) (l 0) (-1) := up_row _ _ _ _
    have rwo : ∀ c, c ≠ v + 11 + 1 → (up M3 (v + 11 + 1) (l 0) (-1)) c = M3 c := fun c hc => up_a _ _ _ hc
    have hl0 : ∀ i, i < n - 1 → lGo l 0 i = l (i + 1) := fun i hi => by unfold lGo; rw [if_neg (by omega)]
    have hadd := c_add (Mx := up M3 (v + 11 + 1) (l 0) (-1)) (a := goA a3 0 n) (n := n - 1) (lx := l 0) (b := b) (r := r) (l := lGo l 0) (T := T + 1) hv hnc (by omega) hb hr R4 C4 (bC.l8 0 (by omega)) (by rw [rw1, upd_eq]) (fun i hi z => by
        have := (C4.key hi hb hr).mp z
        rw [rw1, hl0 i hi, upd_ne _ _ (fun y => by have := bC.inj (show i + 1 < n by omega) (show 0 < n by omega) y; omega), row3] at this
        exact bL (i + 1) (by omega) ((bC.key (by omega) hb hr).mpr this)) (fun i hi => by
        rw [rwo _ (by omega), use3, hl0 i hi]
        exact bt (i + 1) (by omega)) (adM M3 v (l 0) (16 * b + r) (nI (T + 1))) (by
        rw [g1, rw1]
        funext j
        by_cases y : j = l 0
        · subst y; rw [upd_eq, upd_eq]
        · rw [upd_ne _ _ y, upd_ne _ _ y, upd_ne _ _ y]) (by rw [g2, rwo _ (by omega)]) (by rw [g3, rwo _ (by omega)]) (by rw [g4, rwo _ (by omega), rwo _ (by omega)]) (fun c hc => by rw [g5 c hc, rwo _ (by omega)])
    have en : n - 1 + 1 = n := by omega
    rw [en] at hadd
    refine ⟨_, _, n, _, ?_, rfl, hadd.1, hadd.2, (hFb.trans F3).trans g6, (hFa.trans FA3).trans (FA4.trans (fun j hj => co_hi (by omega) hnc (by omega))), by omega, by omega⟩
    rw [if_pos rfl]
  · -- a free place
    rw [if_neg (nI_ge (by omega) (by omega)), if_pos q]
    obtain ⟨lx, hlx, hfree, hlw⟩ := bC.free (by omega)
    rw [hlw, bnd_some, x_mk hv hlx (by omega) (x_wbfree hlx hfree), m_uses65 (nc := nc) bC.cnt (by omega) hb hr h2 hnc, sumM bC]
    obtain ⟨g1, g2, g3, g4, g5, g6⟩ := adE M1 lx (16 * b + r) (nI (T + 1))
    have hadd := c_add hv hnc (show n < 8 by omega) hb hr bR bC hlx hfree bL bt (adM M1 v lx (16 * b + r) (nI (T + 1))) g1 g2 g3 g4 g5
    refine ⟨_, _, n + 1, _, ?_, rfl, hadd.1, hadd.2, hFb.trans g6, hFa.trans (fun j hj => co_hi (by omega) hnc (by omega)), by omega, by omega⟩
    rw [Nat.add_sub_cancel, if_pos rfl]
