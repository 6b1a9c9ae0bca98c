/-! ===== a batch is run ===== -/
/-- a run is noted -/
def nrA (p : Nat → Int32) (bt : Nat) (fr : Int32) (a : Nat → Int32) : Nat → Int32 := upd (upd (upd (upd a (1458 + 3 * (ix (a 1457) % 40)) (nI bt)) (1458 + 3 * (ix (a 1457) % 40) + 1) fr) (1458 + 3 * (ix (a 1457) % 40) + 2) (spLat (ix (p 0)) (setN p bt) a)) 1457 (a 1457 + 1)
theorem spLat_congr {n : Nat} {s : Int32} {a b : Nat → Int32} (hn : n ≤ 8) (h : ∀ j, j < 40 → a j = b j) : spLat n s a = spLat n s b := by
  unfold spLat
  refine foldN_congr (fun i hi v => ?_) 0
  split
  · rw [h i (by omega)]
    exact foldN_congr (fun r hr w => by rw [h _ (by omega)]) _
  · rfl
theorem m_116 {Mm : Mem} {A : Nat → Int32} {bt N : Nat} (fr : Int32) (hs : WFs (Mm 5)) (hN : A 1457 = nI N) (hN2 : N < 2147483648) : j_X10_does_116 (nI bt) (setN (Mm 5) bt) fr (upA Mm 1 A) = some (0, upA Mm 1 (nrA (Mm 5) bt fr A)) := by
  obtain ⟨h0, -, h08, -⟩ := id hs
  have e5 : ∀ A, (upA Mm 1 A) 5 = Mm 5 := fun A => upA_ne _ _ (by decide)
  have m40 : N % 40 < 40 := Nat.mod_lt _ (by decide)
  have er : jrem (nI N) 40 = nI (N % 40) := rem_nI (d := 40) hN2 (by decide) (by decide)
  have ea : (1458 : Int32) + 3 * nI (N % 40) = nI (1458 + 3 * (N % 40)) := by
    rw [show (3 : Int32) = nI 3 from rfl, pk_mul, show (1458 : Int32) = nI 1458 from rfl, nI_add]
  have ea1 : nI (1458 + 3 * (N % 40)) + 1 = nI (1458 + 3 * (N % 40) + 1) := nI_1 _
  have ea2 : nI (1458 + 3 * (N % 40)) + 2 = nI (1458 + 3 * (N % 40) + 2) := by rw [n2, nI_add]
  have hNx : ix (A 1457) = N := by rw [hN]; exact ix_nI hN2
  unfold j_X10_does_116 nrA
  rw [upA_eq, hN, er, ea, ea1, ea2]
  rw [← hN, hNx]
  generalize hP : 1458 + 3 * (N % 40) = P
  have hP2 : 1458 ≤ P ∧ P + 2 < 1578 := by omega
  have hl := m_latest (M := upA Mm 1 (upd (upd A P (nI bt)) (P + 1) fr)) (nb := ix (Mm 5 0)) (by rw [e5]; exact h0) h08 (setN (Mm 5) bt)
  rw [upA_eq] at hl
  have hc : spLat (ix (Mm 5 0)) (setN (Mm 5) bt) (upd (upd A P (nI bt)) (P + 1) fr) = spLat (ix (Mm 5 0)) (setN (Mm 5) bt) A := spLat_congr h08 (fun j hj => by rw [upd_ne _ _ (by omega), upd_ne _ _ (by omega)])
  rw [hc] at hl
  simp (disch := first | omega | decide) only [↓reduceIte, la, lm, ra, rm_, rs, ss, rr, rd, nI_add, pk_mul, zadd, Nat.zero_add, Nat.add_zero, ix_nI, inb_T, inb_F, le_T, le_F, lt_T, lt_F, lle_T, lle_F, rle_T, rle_F, llt_T, llt_F, rlt_T, rlt_F, eq_n, if_true, if_false, not_true_eq_false, not_false_eq_true, wrt_def, bnd_some, up_as, upA_upA, upA_eq, upA_ne, up_upA, upd_eq, upd_ne, hl]
theorem m_88 {Mm : Mem} {A : Nat → Int32} {bt N : Nat} (fr : Int32) (hs : WFs (Mm 5)) (hw : WFb (Mm 5) bt) (hA : WFn N A) (hN : N + 480 < 2147483648) : j_X10_does_88 (nI bt) (setN (Mm 5) bt) fr (upA Mm 1 A) = if ¬ A 1670 = 1 then j_X10_does_116 (nI bt) (setN (Mm 5) bt) fr (upA Mm 1 (spBatch (Mm 5) bt (svBatch (Mm 5) bt A))) else bnd (f_X10_meetsLines (nI bt) 1 (upA Mm 1 (spBatch (Mm 5) bt (svBatch (Mm 5) bt A)))) (fun _ M23 => j_X10_does_116 (nI bt) (setN (Mm 5) bt) fr M23) := by
  have e5 : ∀ A, (upA Mm 1 A) 5 = Mm 5 := fun A => upA_ne _ _ (by decide)
  unfold j_X10_does_88
  have hc := m_computes (M := upA Mm 1 A) (bt := bt) (by rw [e5]; exact hs) (by rw [e5]; exact hw)
  rw [e5, upA_upA, upA_eq] at hc
  rw [hc, bnd_some]
  have hA2 : WFn N (svBatch (Mm 5) bt A) := hA.of (fun b hb => svBatch_fr hs hw (by omega))
  have ht := m_ticks (M := upA Mm 1 (svBatch (Mm 5) bt A)) (bt := bt) (N := N) (by rw [e5]; exact hs) (by rw [e5]; exact hw) (by rw [upA_eq]; exact hA2) hN
  rw [e5, upA_upA, upA_eq] at ht
  rw [ht, bnd_some, upA_eq, spBatch_hi hs hw (by omega), svBatch_fr hs hw (by omega)]
theorem m_does {Mm : Mem} {bt : Nat} (hs : WFs (Mm 5)) (hw : WFb (Mm 5) bt) : f_X10_does (nI bt) Mm = if ¬ Mm 1 1670 = 1 then j_X10_does_88 (nI bt) (setN (Mm 5) bt) (spFrom 8 (setN (Mm 5) bt) (Mm 1)) Mm else bnd (f_X10_meetsLines (nI bt) 0 Mm) (fun _ M25 => j_X10_does_88 (nI bt) (setN (Mm 5) bt) (spFrom 8 (setN (Mm 5) bt) (Mm 1)) M25) := by
  obtain ⟨h12, hset, hno, -⟩ := id hw
  obtain ⟨h0, h01, h08, -⟩ := id hs
  have hb : NoB (setN (Mm 5) bt) (ix (Mm 5 0)) := ⟨h08, hno⟩
  have l2 := (low_ok hset).2.1
  unfold f_X10_does
  rw [m_banksOf _ h12, bnd_some]
  change bnd (f_X10_lowest (setN (Mm 5) bt) _) _ = _
  rw [mm_lowest _ hset, bnd_some, zadd, if_pos (of_eq_true (inb_T (by omega) (by decide))), ix_nI (by omega)]
  change loopC (l_X10_does_21 (nI bt) (setN (Mm 5) bt)) fuelL (Mm 1 (lowN (setN (Mm 5) bt)), 0, Mm) = _
  have e8 : spFrom 8 (setN (Mm 5) bt) (Mm 1) = spFrom (ix (Mm 5 0)) (setN (Mm 5) bt) (Mm 1) := fold8 hb (fun b v => mn v (Mm 1 b)) _
  rw [e8]
  generalize setN (Mm 5) bt = s at *
  generalize ix (Mm 5 0) = nb at *
  refine loop_run nb (fun i => (spFrom i s (Mm 1), nI i, Mm)) rfl (by omega) (fun i hi K => ?_) (fun K => ?_)
  · simp only [l_X10_does_21]
    have e : spFrom (i + 1) s (Mm 1) = if bit s i = true then mn (spFrom i s (Mm 1)) (Mm 1 i) else spFrom i s (Mm 1) := rfl
    rw [e]
    generalize spFrom i s (Mm 1) = w
    rw [h0, if_neg (nI_ge hi (by omega))]
    by_cases h : bit s i = true
    · rw [if_neg (has_t h), if_pos h, zadd, if_pos (of_eq_true (inb_T (by omega) (by decide)))]
      have hix : ix (nI i) = i := ix_nI (by omega)
      simp only [hix]
      unfold mn j_X10_does_64
      by_cases z : w ≤ Mm 1 i
      · rw [if_pos z, if_pos z, nI_1]
      · rw [if_neg z, if_neg z, if_pos (of_eq_true (inb_T (by omega) (by decide))), nI_1]
    · rw [if_pos (Classical.not_not.mp (has_f h)), if_neg h]
      unfold j_X10_does_64
      rw [nI_1]
  · simp only [l_X10_does_21]
    rw [h0, if_pos (nI_le (Nat.le_refl _) (by omega))]
/-- the class's state st; its automatic coherence is the reference's -/
theorem x_compute {Mx Mm : Mem} {v pr nc n bt : Nat} {l : Nat → Nat} {T N : Nat} (hv : isV v) (hpr : pr + 12 < v - 1) (hs : WFs (Mm 5)) (hnc : nc = ix (Mm 5 2)) (hw : WFb (Mm 5) bt) (hx : PBt Mx pr (Mm 5) bt) (hp : PRs Mx pr (Mm 5)) (hu : PUs Mx pr (Mm 5) bt) (hau : Mx (v - 1) 4 = Mm 1 1670) (hau2 : Mm 1 1670 = 0 ∨ Mm 1 1670 = 1) (hn : WFn N (Mm 1)) (hN : N + 480 < 2147483648) (hR : RV nc Mx v (Mm 1)) (hC : RC nc Mx (v + 11) (Mm 1) n l T) : ∃ M2 a2 n2 l2, f_X5_computeBatch (v - 1) pr (nI bt) Mx = some (0, M2) ∧ f_X10_does (nI bt) Mm = j_X10_does_116 (nI bt) (setN (Mm 5) bt) (spFrom 8 (setN (Mm 5) bt) (Mm 1)) (upA Mm 1 a2) ∧ RV nc M2 v a2 ∧ RC nc M2 (v + 11) a2 n2 l2 T ∧ n2 ≤ n ∧ (∀ c, c ≠ v + 1 → c ≠ v + 2 → (c < v + 11 ∨ v + 15 < c) → M2 c = Mx c) ∧ (∀ j, (1440 ≤ j ∧ j < 1578) ∨ 1670 ≤ j → a2 j = Mm 1 j) ∧ (∃ a1 : Nat → Int32, (∀ j, j < 160 → a1 j = Mm 1 j) ∧ ∀ j, j < 160 → a2 j = spBatch (Mm 5) bt a1 j) := by
  obtain ⟨-, -, -, -, -, -, h2, h21, h28, -⟩ := id hs
  have hv1 : v - 1 + 1 = v := by rcases hv with rfl | rfl | rfl | rfl <;> rfl
  have hv12 : v - 1 + 12 = v + 11 := by omega
  have h2' : Mm 5 2 = nI nc := by rw [h2, ← hnc]
  have hn8 : nc ≤ 8 := by omega
  have e5 : ∀ A, (upA Mm 1 A) 5 = Mm 5 := fun A => upA_ne _ _ (by decide)
  rw [m_does hs hw]
  unfold f_X5_computeBatch
  rw [hau]
  -- the middle part: values; it may be followed by the removal of stored lines
  have mid : ∀ (M1 : Mem) (a1 : Nat → Int32) (n1 : Nat) (l1 : Nat → Nat), RV nc M1 v a1 → RC nc M1 (v + 11) a1 n1 l1 T → (∀ k, k ≤ 12 → M1 (pr + k) = Mx (pr + k)) → M1 (v - 1) = Mx (v - 1) → FrA (Mm 1) a1 → ∃ M2 a2 n2 l2, j_X5_computeBatch_20 (v - 1) pr (nI bt) M1 = some (0, M2) ∧ j_X10_does_88 (nI bt) (setN (Mm 5) bt) (spFrom 8 (setN (Mm 5) bt) (Mm 1)) (upA Mm 1 a1) = j_X10_does_116 (nI bt) (setN (Mm 5) bt) (spFrom 8 (setN (Mm 5) bt) (Mm 1)) (upA Mm 1 a2) ∧ RV nc M2 v a2 ∧ RC nc M2 (v + 11) a2 n2 l2 T ∧ n2 ≤ n1 ∧ (∀ c, c ≠ v + 1 → c ≠ v + 2 → (c < v + 11 ∨ v + 15 < c) → M2 c = M1 c) ∧ (∀ j, (1440 ≤ j ∧ j < 1578) ∨ 1670 ≤ j → a2 j = a1 j) ∧ (∃ a3 : Nat → Int32, (∀ j, j < 160 → a3 j = a1 j) ∧ ∀ j, j < 160 → a2 j = spBatch (Mm 5) bt a3 j) := by
    intro M1 a1 n1 l1 R1 C1 hpr1 hst1 FA1
    obtain ⟨M2, ev, R2, F2⟩ := x_vrun hv (by omega) hs hw (hx.of hpr1) (hp.of hpr1) hnc R1
    have hn1 : WFn N a1 := hn.of (fun b hb => FA1 _ (by omega))
    unfold j_X5_computeBatch_20
    rw [hv1, ev, bnd_some, m_88 _ hs hw hn1 hN]
    have est : M2 (v - 1) = Mx (v - 1) := by rw [F2 _ (by omega) (by omega)]; exact hst1
    have ea1 : a1 1670 = Mm 1 1670 := FA1 _ (by omega)
    rw [est, hau, ea1]
    -- the reference's array behind values and times
    have sv : ∀ j, j < 160 ∨ 1440 ≤ j → svBatch (Mm 5) bt a1 j = a1 j := fun j hj => svBatch_fr hs hw hj
    have sp : ∀ j, 160 ≤ j → spBatch (Mm 5) bt (svBatch (Mm 5) bt a1) j = svBatch (Mm 5) bt a1 j := fun j hj => spBatch_hi hs hw hj
    have R3 : RV nc M2 v (spBatch (Mm 5) bt (svBatch (Mm 5) bt a1)) := rv_a R2 rfl rfl (fun j h1 h2 => sp j h1)
    have rr : ∀ c, c ≠ v + 1 → c ≠ v + 2 → M2 c = M1 c := F2
    have C3 : RC nc M2 (v + 11) (spBatch (Mm 5) bt (svBatch (Mm 5) bt a1)) n1 l1 T := by
      have ha : ∀ j, 1440 ≤ j → spBatch (Mm 5) bt (svBatch (Mm 5) bt a1) j = a1 j := fun j hj => by rw [sp j (by omega), sv j (by omega)]
      have hcl : ∀ i k, spBatch (Mm 5) bt (svBatch (Mm 5) bt a1) (cl i k) = a1 (cl i k) := fun i k => ha _ (by unfold cl; omega)
      have h8 := C1.n8
      refine ⟨by rw [ha _ (by omega)]; exact C1.cnt, C1.n8, C1.l8, fun i hi => ?_, ?_, ?_, ?_, ?_, ?_, ?_, ?_, ?_⟩
      · obtain ⟨b, r, hb, hr, hL, f1, f2, fd, fw⟩ := C1.line i hi
        exact ⟨b, r, hb, hr, ⟨by rw [hcl]; exact hL.1, by rw [hcl]; exact hL.2⟩, by rw [rr _ (by omega) (by omega)]; exact f1, by rw [rr _ (by omega) (by omega), hcl]; exact f2, by rw [hcl]; exact fd, fun k hk => by rw [rr _ (by omega) (by omega), hcl]; exact fw k hk⟩
      · rw [rr _ (by omega) (by omega)]; exact C1.ord
      · rw [rr _ (by omega) (by omega)]; exact C1.top
      · rw [rr _ (by omega) (by omega)]; exact C1.cov
      · rw [rr _ (by omega) (by omega)]; exact C1.dist
      · rw [rr _ (by omega) (by omega), ha _ (by omega)]; exact C1.hit
      · rw [rr _ (by omega) (by omega), ha _ (by omega)]; exact C1.mis
      · rw [rr _ (by omega) (by omega), ha _ (by omega)]; exact C1.wrb
      · rw [ha _ (by omega), ha _ (by omega)]; exact C1.sum
    have fin : ∀ j, (1440 ≤ j ∧ j < 1578) ∨ 1670 ≤ j → spBatch (Mm 5) bt (svBatch (Mm 5) bt a1) j = a1 j := fun j hj => by rw [sp j (by omega), sv j (by omega)]
    have hu2 : PUs M2 pr (Mm 5) bt := hu.of (fun k hk => by rw [rr _ (by omega) (by omega)]; exact hpr1 k hk)
    rcases hau2 with z | z
    · rw [if_pos z, if_pos (by rw [z]; decide)]
      exact ⟨M2, _, n1, l1, rfl, rfl, R3, C3, Nat.le_refl _, fun c h1 h2 h3 => rr c h1 h2, fin, svBatch (Mm 5) bt a1, fun j hj => sv j (by omega), fun j hj => rfl⟩
    · rw [if_neg (by rw [z]; decide), if_neg (fun y => y z), hv12]
      have e1 : (upA Mm 1 (spBatch (Mm 5) bt (svBatch (Mm 5) bt a1))) 1 = spBatch (Mm 5) bt (svBatch (Mm 5) bt a1) := upA_eq _ _ _
      obtain ⟨M4, a4, n4, l4, x4, m4, R4, C4, hn4, F4, FA4⟩ := c_after (v := v) (Mx := M2) (Mm := upA Mm 1 (spBatch (Mm 5) bt (svBatch (Mm 5) bt a1))) (bt := bt) (pr := pr) (by omega) (by rw [e5]; exact hs) hn8 (by rw [e5]; exact hw) (by rw [e5]; exact hu2) (by rw [e1]; exact R3) (by rw [e1]; exact C3)
      rw [upA_upA] at m4
      rw [e1] at FA4
      rw [x4, m4, bnd_some, bnd_some]
      refine ⟨M4, a4, n4, l4, rfl, rfl, R4, C4, hn4, fun c h1 h2 h3 => ?_, fun j hj => ?_, svBatch (Mm 5) bt a1, fun j hj => sv j (by omega), fun j hj => FA4 j (by omega)⟩
      · rw [F4 c h1 h3]; exact rr c h1 h2
      · rw [FA4 j (by omega)]; exact fin j hj
  have hM0 : upA Mm 1 (Mm 1) = Mm := upA_self _ _
  rcases hau2 with z | z
  · rw [if_pos z, if_pos (by rw [z]; decide)]
    obtain ⟨M2, a2, n2, l2, e1, e2, R2, C2, hn2, F2, FA2, a3, h3, h4⟩ := mid Mx (Mm 1) n l hR hC (fun k hk => rfl) rfl (FrA.refl _)
    rw [hM0] at e2
    exact ⟨M2, a2, n2, l2, e1, e2, R2, C2, hn2, F2, FA2, a3, h3, h4⟩
  · rw [if_neg (by rw [z]; decide), if_neg (fun y => y z), hv12, hv1]
    obtain ⟨M1, a1, x1, m1, R1, C1, F1, FA1⟩ := c_before hv (by omega) hs hn8 h2' hw hu hR hC
    rw [x1, m1, bnd_some, bnd_some]
    obtain ⟨M2, a2, n2, l2, e1, e2, R2, C2, hn2, F2, FA2, a3, h3, h4⟩ := mid M1 a1 n l R1 C1 (F1.pr (by omega)) (F1 _ (by omega) (by omega)) FA1
    refine ⟨M2, a2, n2, l2, e1, e2, R2, C2, hn2, fun c h1 h2 h3 => ?_, fun j hj => ?_, a3, fun j hj => ?_, h4⟩
    · rw [F2 c h1 h2 h3, F1 c h1 h3]
    · rw [FA2 j hj, FA1 j (by omega)]
    · rw [h3 j hj, FA1 j (by omega)]
