/-! ===== what would be the finish ===== -/
/-- the queue's batches, their times one behind the other -/
def spQ (p : Nat → Int32) (qb : Nat → Nat) (n : Nat) (a : Nat → Int32) : Nat → Int32 := foldN (fun i a => spBatch p (qb i) a) n a
theorem spQ_n {p a : Nat → Int32} {qb : Nat → Nat} {n N : Nat} (hs : WFs p) (hw : ∀ i, i < n → WFb p (qb i)) (h : WFn N a) (hN : N + 480 * n < 2147483648) : WFn (N + 480 * n) (spQ p qb n a) := by
  unfold spQ
  induction n with
  | zero => exact h
  | succ n ih =>
    have ih := ih (fun i hi => hw i (by omega)) (by omega)
    rw [foldN_s]
    have e : N + 480 * n + 480 ≤ N + 480 * (n + 1) := by omega
    have hN2 : N + 480 * n + 480 < 2147483648 := Nat.lt_of_le_of_lt e hN
    have hwn := hw n (Nat.lt_succ_self n)
    exact (spBatch_n (N := N + 480 * n) hs hwn ih hN2).mono e
/-- the class's object knows its program -/
def PP (M : Mem) (pr : Nat) : Prop := (¬ M 0 5 < 0 ∧ blkD KSx (ix (M 0 5)) blk4) ∧ ix (M 0 5) = pr
theorem x_predict {M : Mem} {pr : Nat} {p a : Nat → Int32} {qb : Nat → Nat} {Q N : Nat} (hpp : PP M pr) (hpr : pr + 12 < 33) (hs : WFs p) (hps : PRs M pr p) (hT : M = setT M 37 a) (hQ : Q ≤ 16) (hq1 : M 50 1 = nI Q) (hq : ∀ i, i < Q → M 51 i = nI (qb i) ∧ WFb p (qb i) ∧ PBt M pr p (qb i)) (hn : WFn N a) (hN : N + 480 * 17 < 2147483648) : f_X9_predictFinish (-1) (p 9) M = some (spLat 8 255 (spQ p qb Q a), setT M 57 (spQ p qb Q a)) ∧ ∀ bt, WFb p bt → PBt M pr p bt → f_X9_predictFinish (nI bt) (p 9) M = some (spLat 8 255 (spBatch p bt (spQ p qb Q a)), setT M 57 (spBatch p bt (spQ p qb Q a))) := by
  obtain ⟨hblk, hix⟩ := hpp
  have s0 : ∀ A c, c ≤ 57 ∨ 64 < c → (setT M 57 A) c = M c := fun A c hc => sTn _ _ (by omega)
  have p0 : ∀ A k, k ≤ 12 → (setT M 57 A) (pr + k) = M (pr + k) := fun A k hk => s0 A _ (by omega)
  have e05 : ∀ A, (setT M 57 A) 0 = M 0 := fun A => s0 A 0 (by omega)
  have e50 : ∀ A, (setT M 57 A) 50 = M 50 := fun A => s0 A 50 (by omega)
  have e51 : ∀ A, (setT M 57 A) 51 = M 51 := fun A => s0 A 51 (by omega)
  have rb : ∀ bt A N2, WFb p bt → PBt M pr p bt → WFn N2 A → N2 + 480 < 2147483648 → f_X6_runBatch 57 pr (nI bt) (p 9) (setT M 57 A) = some (0, setT M 57 (spBatch p bt A)) := by
    intro bt A N2 hw hb hA hN2
    exact x_runBatch (M := M) (t := 57) (pr := pr) (by omega) hs hw hb hps hA hN2
  have step : ∀ (x1 : Int32) (i : Nat), i < Q → ∀ K, l_X9_predictFinish_22 x1 (p 9) K (nI i, setT M 57 (spQ p qb i a)) = K (nI (i + 1), setT M 57 (spQ p qb (i + 1) a)) := by
    intro x1 i hi K
    obtain ⟨q1, q2, q3⟩ := hq i hi
    have hni := spQ_n (qb := qb) (n := i) hs (fun j hj => (hq j (by omega)).2.1) hn (by omega)
    simp only [l_X9_predictFinish_22]
    rw [e50, hq1, if_neg (nI_ge hi (by omega)), e05, if_pos hblk, if_pos (of_eq_true (inb_T (show i < 16 by omega) (by decide))), ix_nI (by omega), e51, q1, hix, rb (qb i) _ _ q2 q3 hni (by omega), bnd_some, nI_1]
    rfl
  have hnQ := spQ_n (qb := qb) (n := Q) hs (fun j hj => (hq j hj).2.1) hn (by omega)
  have lat : ∀ A, j_X9_predictFinish_80 (setT M 57 A) = some (spLat 8 255 A, setT M 57 A) := by
    intro A
    unfold j_X9_predictFinish_80
    rw [x_latest, bnd_some]
  constructor
  · unfold f_X9_predictFinish
    rw [x_copyT (Or.inr (by omega)) hT, bnd_some]
    refine loop_run Q (fun i => (nI i, setT M 57 (spQ p qb i a))) rfl (by omega) (fun i hi K => step (-1) i hi K) (fun K => ?_)
    simp only [l_X9_predictFinish_22]
    rw [e50, hq1, if_pos (nI_le (Nat.le_refl _) (by omega)), if_pos trivial, lat]
  · intro bt hw hb
    unfold f_X9_predictFinish
    rw [x_copyT (Or.inr (by omega)) hT, bnd_some]
    refine loop_run Q (fun i => (nI i, setT M 57 (spQ p qb i a))) rfl (by omega) (fun i hi K => step (nI bt) i hi K) (fun K => ?_)
    have h12 := hw.1
    simp only [l_X9_predictFinish_22]
    rw [e50, hq1, if_pos (nI_le (Nat.le_refl _) (by omega)), if_neg (ne_m1 (by omega)), e05, if_pos hblk, hix, rb bt _ _ hw hb hnQ (by omega), bnd_some, lat]
