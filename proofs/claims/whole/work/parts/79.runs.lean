/-! ===== several batches are run ===== -/
theorem seq_of {σ : Type} (I : Nat → σ → Prop) (R : Nat → σ → σ → Prop) (s0 : σ) (h0 : I 0 s0) : ∀ D, (∀ k, k < D → ∀ s, I k s → ∃ s2, I (k + 1) s2 ∧ R k s s2) → ∃ f : Nat → σ, f 0 = s0 ∧ (∀ k, k ≤ D → I k (f k)) ∧ ∀ k, k < D → R k (f k) (f (k + 1)) := by
  intro D
  induction D with
  | zero => intro _; exact ⟨fun _ => s0, rfl, fun k hk => by rw [Nat.le_zero.mp hk]; exact h0, fun k hk => by omega⟩
  | succ D ih =>
    intro h
    obtain ⟨f, f0, fI, fR⟩ := ih (fun k hk => h k (by omega))
    obtain ⟨s2, i2, r2⟩ := h D (by omega) (f D) (fI D (Nat.le_refl D))
    refine ⟨fun k => if k ≤ D then f k else s2, (if_pos (Nat.zero_le D)).trans f0, fun k hk => ?_, fun k hk => ?_⟩
    · show I k (if k ≤ D then f k else s2)
      by_cases q : k ≤ D
      · rw [if_pos q]; exact fI k q
      · rw [if_neg q, show k = D + 1 by omega]; exact i2
    · show R k (if k ≤ D then f k else s2) (if k + 1 ≤ D then f (k + 1) else s2)
      by_cases q : k = D
      · subst q; rw [if_pos (Nat.le_refl k), if_neg (by omega)]; exact r2
      · rw [if_pos (by omega), if_pos (by omega)]; exact fR k (by omega)
theorem c_seq {Mx Mm : Mem} {st pr nB n : Nat} {l : Nat → Nat} {T N Q U D : Nat} (hst : isS st) (hpr : pr + 12 < st) (hP : PR Mx pr (Mm 5) nB) (hS : SR (Mm 5) Mx st (Mm 1) n l T N 0 Q U) (hD : D ≤ Q) (hQ : Q ≤ 16) (hq : ∀ k, k < Q → ∃ bt, bt < nB ∧ Mm 1 (1441 + k) = nI bt) (hN : N + 480 * 16 < 2147483648) (hU : U + 16 < 2147483648) : ∃ (X : Nat → Mem) (A : Nat → Nat → Int32), X 0 = Mx ∧ A 0 = Mm 1 ∧ (∀ k, k ≤ D → (∃ n2 l2, SR (Mm 5) (X k) st (A k) n2 l2 T (N + 480 * k) k Q (U + k)) ∧ (∀ c, c ≤ st ∨ st + 19 < c → X k c = Mx c) ∧ (∀ j, 1440 ≤ j → j < 1457 → A k j = Mm 1 j)) ∧ ∀ k, k < D → f_X5_runNext st pr (X k) = some (0, X (k + 1)) ∧ f_X10_does (Mm 1 (1441 + k)) (upA Mm 1 (A k)) = some (0, upA Mm 1 (A (k + 1))) := by
  obtain ⟨f, f0, fI, fR⟩ := seq_of (σ := Mem × (Nat → Int32)) (fun k s => (∃ n2 l2, SR (Mm 5) s.1 st s.2 n2 l2 T (N + 480 * k) k Q (U + k)) ∧ (∀ c, c ≤ st ∨ st + 19 < c → s.1 c = Mx c) ∧ (∀ j, 1440 ≤ j → j < 1457 → s.2 j = Mm 1 j)) (fun k s s2 => f_X5_runNext st pr s.1 = some (0, s2.1) ∧ f_X10_does (Mm 1 (1441 + k)) (upA Mm 1 s.2) = some (0, upA Mm 1 s2.2)) (Mx, Mm 1) ⟨⟨n, l, hS⟩, fun _ _ => rfl, fun _ _ _ => rfl⟩ D (by
    rintro k hk ⟨M1, a1⟩ ⟨⟨n1, l1, S1⟩, F1, Q1⟩
    have S1 : SR (Mm 5) M1 st a1 n1 l1 T (N + 480 * k) k Q (U + k) := S1
    have F1 : ∀ c, c ≤ st ∨ st + 19 < c → M1 c = Mx c := F1
    have Q1 : ∀ j, 1440 ≤ j → j < 1457 → a1 j = Mm 1 j := Q1
    obtain ⟨bt, hbt, ebt⟩ := hq k (by omega)
    have e1 : (upA Mm 1 a1) 1 = a1 := upA_eq _ _ _
    have e5 : (upA Mm 1 a1) 5 = Mm 5 := upA_ne _ _ (by decide)
    obtain ⟨M2, a2, n2, l2, x2, m2, S2, F2, Q2⟩ := c_next (Mx := M1) (Mm := upA Mm 1 a1) (st := st) (pr := pr) (nB := nB) (bt := bt) hst hpr (by rw [e5]; exact hP.of (fun j hj => F1 _ (by omega))) (by rw [e5, e1]; exact S1) (by omega) hQ hbt (by rw [e1, Q1 _ (by omega) (by omega)]; exact ebt) (by omega) (by omega)
    rw [upA_upA] at m2
    rw [e5] at S2
    rw [e1] at Q2
    refine ⟨(M2, a2), ⟨⟨n2, l2, by rw [show N + 480 * (k + 1) = N + 480 * k + 480 by omega, show U + (k + 1) = U + k + 1 by omega]; exact S2⟩, fun c hc => ?_, fun j h1 h2 => ?_⟩, x2, by rw [ebt]; exact m2⟩
    · show M2 c = Mx c
      rw [F2 c hc, F1 c hc]
    · show a2 j = Mm 1 j
      rw [Q2 j h1 h2, Q1 j h1 h2])
  refine ⟨fun k => (f k).1, fun k => (f k).2, congrArg Prod.fst f0, congrArg Prod.snd f0, fun k hk => fI k hk, fun k hk => fR k hk⟩
/-- the queue behind D runs -/
def shQ (a : Nat → Int32) (D Q : Nat) : Nat → Int32 := fun j => if 1441 ≤ j ∧ j < 1441 + (Q - D) then a (j + D) else upd a 1440 (nI (Q - D)) j
theorem m_runs {Mm : Mem} {D Q : Nat} (A : Nat → Nat → Int32) (hQ : Q ≤ 16) (hD : D ≤ Q) (h0 : A 0 = Mm 1) (hA : ∀ k, k ≤ D → ∀ j, 1440 ≤ j → j < 1457 → A k j = Mm 1 j) (hq : Mm 1 1440 = nI Q) (hR : ∀ k, k < D → f_X10_does (Mm 1 (1441 + k)) (upA Mm 1 (A k)) = some (0, upA Mm 1 (A (k + 1)))) (many : Int32) (hm : (if Mm 1 1440 ≤ many then Mm 1 1440 else many) = nI D) : f_X10_runs many Mm = some (nI D, upA Mm 1 (shQ (A D) D Q)) := by
  unfold f_X10_runs
  rw [hm]
  refine loop_run D (fun k => (nI k, upA Mm 1 (A k))) (by rw [h0, upA_self]; rfl) (by omega) (fun k hk K => ?_) (fun K => ?_)
  · simp only [l_X10_runs_27]
    have ea : (1441 : Int32) + nI k = nI (1441 + k) := by rw [n1441, nI_add]
    rw [if_neg (nI_ge hk (by omega)), ea, if_pos (of_eq_true (inb_T (by omega) (by decide))), ix_nI (by omega), upA_eq, hA k (by omega) _ (by omega) (by omega), hR k hk, bnd_some, nI_1]
  · simp only [l_X10_runs_27]
    rw [if_pos (nI_le (Nat.le_refl _) (by omega)), wrt_def, up_upA, upA_eq, hA D (Nat.le_refl _) 1440 (by omega) (by omega), hq, ss hD]
    generalize hB : upd (A D) 1440 (nI (Q - D)) = B
    have hB0 : B 1440 = nI (Q - D) := by rw [← hB, upd_eq]
    have fb := foldBlk (d := 1441) (n := Q - D) (F := fun k b => upd b (1441 + k) (b (1441 + D + k))) (G := fun k => A D (1441 + D + k)) (a := B) (fun k hk a2 h3 => by rw [h3 _ (by omega), ← hB, upd_ne _ _ (by omega)])
    have es : shQ (A D) D Q = foldN (fun k b => upd b (1441 + k) (b (1441 + D + k))) (Q - D) B := by
      rw [fb]
      unfold shQ
      rw [hB]
      funext j
      by_cases q : 1441 ≤ j ∧ j < 1441 + (Q - D)
      · rw [if_pos q, if_pos q, show 1441 + D + (j - 1441) = j + D by omega]
      · rw [if_neg q, if_neg q]
    rw [es]
    have k40 : ∀ k, k ≤ Q - D → foldN (fun k b => upd b (1441 + k) (b (1441 + D + k))) k B 1440 = nI (Q - D) := by
      intro k hk
      refine foldN_inv (fun (b : Nat → Int32) => b 1440 = nI (Q - D)) B hB0 (fun i hi b h => ?_)
      rw [upd_ne _ _ (by omega)]; exact h
    refine loop_run (Q - D) (fun k => (nI k, upA Mm 1 (foldN (fun k b => upd b (1441 + k) (b (1441 + D + k))) k B))) rfl (by omega) (fun k hk K2 => ?_) (fun K2 => ?_)
    · simp only [l_X10_runs_66]
      have h40 := k40 k (by omega)
      rw [foldN_s]
      generalize foldN (fun k b => upd b (1441 + k) (b (1441 + D + k))) k B = b at h40
      simp (disch := first | omega | decide) only [↓reduceIte, la, lm, ra, rm_, rs, ss, rr, rd, nI_add, pk_mul, zadd, Nat.zero_add, Nat.add_zero, ix_nI, inb_T, inb_F, le_T, le_F, lt_T, lt_F, lle_T, lle_F, rle_T, rle_F, llt_T, llt_F, rlt_T, rlt_F, eq_n, if_true, if_false, not_true_eq_false, not_false_eq_true, wrt_def, bnd_some, up_as, upA_upA, upA_eq, upA_ne, up_upA, upd_eq, upd_ne, h40]
    · simp only [l_X10_runs_66]
      rw [upA_eq, k40 (Q - D) (Nat.le_refl _), if_pos (nI_le (Nat.le_refl _) (by omega))]
/-- SEVERAL BATCHES ARE RUN, class and reference alike -/
theorem SR.shift {p : Nat → Int32} {M : Mem} {st : Nat} {a : Nat → Int32} {n : Nat} {l : Nat → Nat} {T N D Q U : Nat} (h : SR p M st a n l T N D Q U) (hD : D ≤ Q) (hQ : Q ≤ 16) (h28 : ix (p 2) ≤ 8) : SR p M st (shQ a D Q) n l T N 0 (Q - D) U := by
  obtain ⟨hR, hC, hT, hau, hau2, hn, ⟨g1, g2, g3, g4, g5, g6⟩, hnC⟩ := h
  have hs : ∀ j, j < 1440 ∨ 1457 ≤ j → shQ a D Q j = a j := by
    intro j hj
    unfold shQ
    rw [if_neg (by omega), upd_ne _ _ (by omega)]
  refine ⟨rv_a hR rfl rfl (fun j h1 h2 => hs j (by omega)), hC.of (fun _ _ _ => rfl) (fun j h1 h2 => hs j (by omega)) h28, ?_, by rw [hs _ (by omega)]; exact hau, by rw [hs _ (by omega)]; exact hau2, hn.of (fun b hb => hs _ (by omega)), ⟨g1, ?_, fun i hi => ?_, g4, by rw [hs _ (by omega)]; exact g5, fun i hi => by rw [hs _ (by omega)]; exact g6 i hi⟩, hnC⟩
  · rw [setT_congr M (st + 4) (fun j hj => hs j (by omega))]; exact hT
  · unfold shQ; rw [if_neg (by omega), upd_eq]
  · rw [g3 i (by omega)]
    unfold shQ
    rw [if_pos (by omega), show 1441 + 0 + i + D = 1441 + D + i by omega]
