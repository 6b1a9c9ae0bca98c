/-! ===== the class's batches: their values ===== -/
theorem foldN_rel {α β : Type} {F : Nat → α → α} {G : Nat → β → β} {n : Nat} {x : α} {y : β} (R : α → β → Prop) (h0 : R x y) (h : ∀ i, i < n → ∀ x y, R x y → R (F i x) (G i y)) : R (foldN F n x) (foldN G n y) := by
  induction n with
  | zero => exact h0
  | succ n ih => exact h n (Nat.lt_succ_self n) _ _ (ih (fun i hi => h i (by omega)))
/-- lanes of the class and of the reference -/
def RLn (nc : Nat) (a0 f a : Nat → Int32) : Prop := (∀ i, i < 256 → i % 8 < nc → f i = a (1184 + i)) ∧ (∀ i, i < 1024 → a (160 + i) = a0 (160 + i))
theorem RLn.st {nc d D : Nat} {a0 f a : Nat → Int32} {x y : Int32} (h : RLn nc a0 f a) (hd : d < 256) (hD : D = 1184 + d) (e : x = y) : RLn nc a0 (upd f d x) (upd a D y) := by
  subst hD
  subst e
  refine ⟨fun i hi hn => ?_, fun i hi => ?_⟩
  · by_cases q : i = d
    · subst q; rw [upd_eq, upd_eq]
    · rw [upd_ne _ _ q, upd_ne _ _ (by omega)]; exact h.1 i hi hn
  · rw [upd_ne _ _ (by omega)]; exact h.2 i hi
theorem RLn.rd {nc d D : Nat} {a0 f a : Nat → Int32} (h : RLn nc a0 f a) (hd : d < 256) (hn : d % 8 < nc) (hD : D = 1184 + d) : f d = a D := by
  subst hD; exact h.1 d hd hn
theorem rv_ln {nc v : Nat} {M : Mem} {a a2 f : Nat → Int32} (h : RV nc M v a) (h2 : RLn nc a f a2) : RV nc (upA M (v + 2) f) v a2 := rv_2 h h2.2 h2.1
theorem ln_rv {nc v : Nat} {M : Mem} {a : Nat → Int32} (h : RV nc M v a) : RLn nc a (M (v + 2)) a := ⟨h.2, fun _ _ => rfl⟩
/-- what one bank of a command does -/
def svB (p : Nat → Int32) (lo c b : Nat) (a : Nat → Int32) : Nat → Int32 := if kdN p c = 4 ∨ kdN p c = 6 then (if b = lo then a else foldN (svJ p lo b c) (ix (p 2)) a) else foldN (svK p b c) (ix (p 2)) a
theorem fold_id {α : Type} {F : Nat → α → α} {n : Nat} (x : α) (h : ∀ i, i < n → ∀ y, F i y = y) : foldN F n x = x := foldN_tail (n := 0) (Nat.zero_le _) (fun _ => True) x trivial (fun i _ h2 t _ => h i h2 t)
theorem svCmd_B {p a : Nat → Int32} {s : Int32} {nb c : Nat} (hb : NoB s nb) : svCmd p nb s c a = foldN (fun b a => if bit s b = true then svB p (lowN s) c b a else a) 8 a := by
  rw [fold8 hb (fun b a => svB p (lowN s) c b a)]
  unfold svCmd svV svT svB
  by_cases q : kdN p c = 4 ∨ kdN p c = 6
  · rw [if_pos q]
    rw [fold_id]
    · exact foldN_congr (fun i hi v => by rw [if_pos q]) a
    · intro i hi y
      split
      · refine fold_id y (fun k _ z => ?_)
        unfold svK
        rcases q with q | q <;> simp [q]
      · rfl
  · rw [if_neg q]
    exact foldN_congr (fun i hi v => by rw [if_neg q]) a
theorem x_vexec {M : Mem} {v pr nc : Nat} {p a : Nat → Int32} {s : Int32} {b lo c : Nat} (hv : isV v) (hpr : pr + 12 < v) (hb : b < 8) (hlo : lo < 8) (hc : c < 60) (h : WFc p c) (hs : WFs p) (hx : PCm M pr p s c) (hp : PRs M pr p) (hnc : nc = ix (p 2)) (hR : RV nc M v a) : ∃ M2, f_X8_execute v pr (nI c) (nI b) (nI lo) M = some (0, M2) ∧ RV nc M2 v (svB p lo c b a) ∧ FrV v M M2 := by
  obtain ⟨-, -, -, -, -, -, h2, h21, h28, -⟩ := id hs
  have hr := h.2.2.2.1
  have hkl := kd_lt p c
  have hwl := wy_lt h
  obtain ⟨e5, e7, e8, e9, -, e6⟩ := hx
  have ep2 : M pr 2 = nI nc := by rw [hp.2.2.1, h2, ← hnc]
  have hin := inb_T hc (show 60 < 2147483648 by decide)
  have hD : lnP b (rgN p c) 0 = 1184 + 8 * (4 * b + rgN p c) := rfl
  have lw := len_w hv
  have ll := len_l hv
  unfold svB
  rw [← hnc]
  rw [← hnc] at h21 h28
  unfold f_X8_execute
  rcases (show kdN p c = 0 ∨ kdN p c = 1 ∨ kdN p c = 2 ∨ kdN p c = 3 ∨ kdN p c = 4 ∨ kdN p c = 5 ∨ kdN p c = 6 ∨ kdN p c = 7 by omega) with q | q | q | q | q | q | q | q
  · -- load
    obtain ⟨q2, q2l⟩ := h.2.2.2.2.2 (by omega)
    have e7 := e7 (by omega)
    have e8 := e8 (by omega)
    rw [q2] at e8
    have e5 : M (pr + 5) c = 9 := by rw [e5, q]; rfl
    have d8 : ((9 : Int32) = 8) = False := eq_false (by decide)
    rw [if_neg (show ¬ (kdN p c = 4 ∨ kdN p c = 6) by omega)]
    simp only [↓reduceIte, hin, ix_nI (show c < 2147483648 by omega), e5, d8, e7, e8, x_lane, x_word, if_true, if_false]
    rw [x_copyWords M lw ll (by omega) (by omega) (by omega) (by omega), bnd_some]
    refine ⟨_, rfl, rv_2 hR ?_ ?_, frv_2 v M _⟩
    all_goals rw [foldBlk (d := lnP b (rgN p c) 0) (G := fun k => a (wdP b (x2N p c) k)) (fun k hk a2 h3 => by
      unfold svK
      rw [if_pos q, h3 _ (by unfold wdP lnP; omega)]
      rfl)]
    · intro i hi
      show (if _ then _ else _) = _
      rw [if_neg (by omega)]
    · intro i hi hn
      show (if _ then _ else _) = (if _ then _ else _)
      by_cases z : 8 * (4 * b + rgN p c) ≤ i ∧ i < 8 * (4 * b + rgN p c) + 8
      · rw [if_pos z, if_pos (by omega), hR.1 _ (by omega) (by omega)]
        congr 1
        unfold wdP; omega
      · rw [if_neg z, if_neg (by omega)]
        exact hR.2 i hi hn
  · -- store
    obtain ⟨q2, q2l⟩ := h.2.2.2.2.2 (by omega)
    have e7 := e7 (by omega)
    have e8 := e8 (by omega)
    rw [q2] at e8
    have e5 : M (pr + 5) c = 10 := by rw [e5, q]; rfl
    have d8 : ((10 : Int32) = 8) = False := eq_false (by decide)
    have d9 : ((10 : Int32) = 9) = False := eq_false (by decide)
    rw [if_neg (show ¬ (kdN p c = 4 ∨ kdN p c = 6) by omega)]
    simp only [↓reduceIte, hin, ix_nI (show c < 2147483648 by omega), e5, d8, d9, e7, e8, x_lane, x_word, if_true, if_false]
    rw [x_copyWords M ll lw (by omega) (by omega) (by omega) (by omega), bnd_some]
    have hW : wdP b (x2N p c) 0 = 160 + 8 * (16 * b + x2N p c) := rfl
    refine ⟨_, rfl, rv_1 hR ?_ ?_, frv_1 v M _⟩
    all_goals rw [foldBlk (d := wdP b (x2N p c) 0) (G := fun k => a (lnP b (rgN p c) k)) (fun k hk a2 h3 => by
      unfold svK
      rw [if_neg (by omega), if_pos q, h3 _ (by unfold wdP lnP; omega)]
      rfl)]
    · intro i hi
      show (if _ then _ else _) = _
      rw [if_neg (by omega)]
    · intro i hi hn
      show (if _ then _ else _) = (if _ then _ else _)
      by_cases z : 8 * (16 * b + x2N p c) ≤ i ∧ i < 8 * (16 * b + x2N p c) + 8
      · rw [if_pos z, if_pos (by omega), hR.2 _ (by omega) (by omega)]
        congr 1
        unfold lnP; omega
      · rw [if_neg z, if_neg (by omega)]
        exact hR.1 i hi hn
  · -- set
    have e7 := e7 (by omega)
    have e8 := e8 (by omega)
    have e5 : M (pr + 5) c = 11 := by rw [e5, q]; rfl
    have d8 : ((11 : Int32) = 8) = False := eq_false (by decide)
    have d9 : ((11 : Int32) = 9) = False := eq_false (by decide)
    have d10 : ((11 : Int32) = 10) = False := eq_false (by decide)
    rw [if_neg (show ¬ (kdN p c = 4 ∨ kdN p c = 6) by omega)]
    simp only [↓reduceIte, hin, ix_nI (show c < 2147483648 by omega), e5, d8, d9, d10, e7, e8, x_lane, if_true, if_false]
    rw [x_setLanes M _ (by omega), bnd_some]
    refine ⟨_, rfl, rv_2 hR ?_ ?_, frv_2 v M _⟩
    all_goals rw [foldBlk (d := lnP b (rgN p c) 0) (G := fun k => p (50 + 4 * c + 2)) (fun k hk a2 h3 => by
      unfold svK
      rw [if_neg (by omega), if_neg (by omega), if_pos q]
      rfl)]
    · intro i hi
      show (if _ then _ else _) = _
      rw [if_neg (by omega)]
    · intro i hi hn
      show (if _ then _ else _) = (if _ then _ else _)
      by_cases z : 8 * (4 * b + rgN p c) ≤ i ∧ i < 8 * (4 * b + rgN p c) + 8
      · rw [if_pos z, if_pos (by omega)]
      · rw [if_neg z, if_neg (by omega)]
        exact hR.2 i hi hn
  · -- operate
    obtain ⟨q2, q2l, q3, q3l⟩ := h.2.2.2.2.1 q
    have e7 := e7 (by omega)
    have e8 := e8 (by omega)
    have e9 := e9 q
    have e6 := e6 (Or.inl q)
    rw [q2] at e8
    rw [q3] at e9
    have e5 : M (pr + 5) c = 34 := by rw [e5, q]; rfl
    have d8 : ((34 : Int32) = 8) = False := eq_false (by decide)
    have d9 : ((34 : Int32) = 9) = False := eq_false (by decide)
    have d10 : ((34 : Int32) = 10) = False := eq_false (by decide)
    have d11 : ((34 : Int32) = 11) = False := eq_false (by decide)
    have d12 : ((34 : Int32) = 12) = False := eq_false (by decide)
    have d13 : ((34 : Int32) = 13) = False := eq_false (by decide)
    rw [if_neg (show ¬ (kdN p c = 4 ∨ kdN p c = 6) by omega)]
    simp only [↓reduceIte, hin, ix_nI (show c < 2147483648 by omega), e5, d8, d9, d10, d11, d12, d13, e7, e8, e9, x_lane, if_true, if_false]
    rw [x_combR M hc h28 (by omega) (by omega) (by omega) ep2 (by omega) e6 hwl, bnd_some]
    refine ⟨_, rfl, rv_ln hR (foldN_rel (RLn nc a) (ln_rv hR) (fun k hk f g hf => ?_)), frv_2 v M _⟩
    unfold svK
    rw [if_neg (by omega), if_neg (by omega), if_neg (by omega), if_pos q]
    refine hf.st (by omega) (by unfold lnP; omega) ?_
    rw [hf.rd (D := lnP b (x2N p c) k) (by omega) (by omega) (by unfold lnP; omega), hf.rd (D := lnP b (x3N p c) k) (by omega) (by omega) (by unfold lnP; omega)]
  · -- reduce
    have e7 := e7 (by omega)
    have e6 := e6 (Or.inr (Or.inl q))
    have e5 : M (pr + 5) c = 8 := by rw [e5, q]; rfl
    rw [if_pos (show kdN p c = 4 ∨ kdN p c = 6 from Or.inl q)]
    by_cases z : b = lo
    · rw [if_pos z]
      subst z
      simp only [↓reduceIte, hin, ix_nI (show c < 2147483648 by omega), e5]
      exact ⟨M, rfl, hR, FrV.refl v M⟩
    · rw [if_neg z]
      have z2 : (nI b = nI lo) = False := eq_false (by rw [nI_eq (by omega) (by omega)]; exact z)
      simp only [↓reduceIte, hin, ix_nI (show c < 2147483648 by omega), e5, z2, e7, x_lane, if_true, if_false]
      rw [x_combR M hc h28 (by omega) (by omega) (by omega) ep2 (by omega) e6 hwl, bnd_some]
      refine ⟨_, rfl, rv_ln hR (foldN_rel (RLn nc a) (ln_rv hR) (fun k hk f g hf => ?_)), frv_2 v M _⟩
      unfold svJ
      rw [if_pos q]
      refine hf.st (by omega) (by unfold lnP; omega) ?_
      rw [hf.rd (D := lnP lo (rgN p c) k) (by omega) (by omega) (by unfold lnP; omega), hf.rd (D := lnP b (rgN p c) k) (by omega) (by omega) (by unfold lnP; omega)]
  · -- lanes
    have e7 := e7 (by omega)
    have e6 := e6 (Or.inr (Or.inr q))
    have e5 : M (pr + 5) c = 12 := by rw [e5, q]; rfl
    have d8 : ((12 : Int32) = 8) = False := eq_false (by decide)
    have d9 : ((12 : Int32) = 9) = False := eq_false (by decide)
    have d10 : ((12 : Int32) = 10) = False := eq_false (by decide)
    have d11 : ((12 : Int32) = 11) = False := eq_false (by decide)
    rw [if_neg (show ¬ (kdN p c = 4 ∨ kdN p c = 6) by omega)]
    simp only [↓reduceIte, hin, ix_nI (show c < 2147483648 by omega), e5, d8, d9, d10, d11, e7, x_lane, if_true, if_false]
    rw [x_combL M hc h28 h21 (by omega) ep2 (by omega) e6 hwl, bnd_some]
    refine ⟨_, rfl, rv_ln hR (foldN_rel (RLn nc a) (ln_rv hR) (fun k hk f g hf => ?_)), frv_2 v M _⟩
    unfold svK
    rw [if_neg (show ¬ kdN p c = 0 by omega), if_neg (show ¬ kdN p c = 1 by omega), if_neg (show ¬ kdN p c = 2 by omega), if_neg (show ¬ kdN p c = 3 by omega), if_pos q]
    refine hf.st (by omega) (by unfold lnP; omega) ?_
    rw [hf.rd (D := lnP b (rgN p c) 0) (by omega) (by omega) (by unfold lnP; omega), hf.rd (D := lnP b (rgN p c) k) (by omega) (by omega) (by unfold lnP; omega)]
  · -- broadcast
    have e7 := e7 (by omega)
    have e5 : M (pr + 5) c = 13 := by rw [e5, q]; rfl
    have d8 : ((13 : Int32) = 8) = False := eq_false (by decide)
    have d9 : ((13 : Int32) = 9) = False := eq_false (by decide)
    have d10 : ((13 : Int32) = 10) = False := eq_false (by decide)
    have d11 : ((13 : Int32) = 11) = False := eq_false (by decide)
    have d12 : ((13 : Int32) = 12) = False := eq_false (by decide)
    rw [if_pos (show kdN p c = 4 ∨ kdN p c = 6 from Or.inr q)]
    simp only [↓reduceIte, hin, ix_nI (show c < 2147483648 by omega), e5, d8, d9, d10, d11, d12, e7, x_lane, if_true, if_false]
    rw [x_copyWords M ll ll (by omega) (by omega) (by omega) (by omega), bnd_some]
    refine ⟨_, rfl, ?_, frv_2 v M _⟩
    by_cases z : b = lo
    · rw [if_pos z]
      subst z
      refine rv_2 hR (fun i hi => rfl) (fun i hi hn => ?_)
      show (if _ then _ else _) = _
      rw [← hR.2 i hi hn]
      by_cases y : 8 * (4 * b + rgN p c) ≤ i ∧ i < 8 * (4 * b + rgN p c) + 8
      · rw [if_pos y]; congr 1; omega
      · rw [if_neg y]
    · rw [if_neg z]
      refine rv_2 hR ?_ ?_
      all_goals rw [foldBlk (d := lnP b (rgN p c) 0) (G := fun k => a (lnP lo (rgN p c) k)) (fun k hk a2 h3 => by
        unfold svJ
        rw [if_neg (by omega), h3 _ (by unfold lnP; omega)]
        rfl)]
      · intro i hi
        show (if _ then _ else _) = _
        rw [if_neg (by omega)]
      · intro i hi hn
        show (if _ then _ else _) = (if _ then _ else _)
        by_cases y : 8 * (4 * b + rgN p c) ≤ i ∧ i < 8 * (4 * b + rgN p c) + 8
        · rw [if_pos y, if_pos (by omega), hR.2 _ (by omega) (by omega)]
          congr 1
          unfold lnP; omega
        · rw [if_neg y, if_neg (by omega)]
          exact hR.2 i hi hn
  · -- barrier
    have e5 : M (pr + 5) c = 14 := by rw [e5, q]; rfl
    have d8 : ((14 : Int32) = 8) = False := eq_false (by decide)
    have d9 : ((14 : Int32) = 9) = False := eq_false (by decide)
    have d10 : ((14 : Int32) = 10) = False := eq_false (by decide)
    have d11 : ((14 : Int32) = 11) = False := eq_false (by decide)
    have d12 : ((14 : Int32) = 12) = False := eq_false (by decide)
    have d13 : ((14 : Int32) = 13) = False := eq_false (by decide)
    have d34 : ((14 : Int32) = 34) = False := eq_false (by decide)
    rw [if_neg (show ¬ (kdN p c = 4 ∨ kdN p c = 6) by omega)]
    simp only [↓reduceIte, hin, ix_nI (show c < 2147483648 by omega), e5, d8, d9, d10, d11, d12, d13, d34]
    refine ⟨M, rfl, ?_, FrV.refl v M⟩
    rw [fold_id]
    · exact hR
    · intro k _ y
      unfold svK
      simp [q]
theorem loop_invK {σ τ ρ : Type} {B : (τ → Option ρ) → (σ → Option ρ) → σ → Option ρ} (n : Nat) (I : Nat → σ → Prop) {init : σ} {Q : τ → Prop} (h0 : I 0 init) (hn : n < 9999) (h : ∀ i, i < n → ∀ s, I i s → ∃ s2, I (i + 1) s2 ∧ ∀ (K1 : τ → Option ρ) (K : σ → Option ρ), B K1 K s = K s2) (hx : ∀ s, I n s → ∃ t, Q t ∧ ∀ (K1 : τ → Option ρ) (K : σ → Option ρ), B K1 K s = K1 t) : ∃ t, Q t ∧ ∀ K1 : τ → Option ρ, loopC (B K1) fuelL init = K1 t := by
  have key : ∀ m k s, k ≤ n → n - k < m → I k s → ∃ t, Q t ∧ ∀ K1 : τ → Option ρ, loopC (B K1) m s = K1 t := by
    intro m
    induction m with
    | zero => intro k s _ hm; omega
    | succ m ih =>
      intro k s hk hm hI
      by_cases e : k = n
      · subst e
        obtain ⟨t, q, hr⟩ := hx s hI
        exact ⟨t, q, fun K1 => hr K1 _⟩
      · obtain ⟨s2, i2, e2⟩ := h k (by omega) s hI
        obtain ⟨t, q, hr⟩ := ih (k + 1) s2 (by omega) (by omega) i2
        refine ⟨t, q, fun K1 => ?_⟩
        show B K1 (loopC (B K1) m) s = K1 t
        rw [e2, hr]
  exact key fuelL 0 init (Nat.zero_le _) (by show n - 0 < 10000; omega) h0
theorem PCm.of {M M2 : Mem} {pr c : Nat} {p : Nat → Int32} {s : Int32} (h : PCm M pr p s c) (e : ∀ k, k ≤ 12 → M2 (pr + k) = M (pr + k)) : PCm M2 pr p s c := by
  unfold PCm
  rw [e 5 (by omega), e 6 (by omega), e 7 (by omega), e 8 (by omega), e 9 (by omega), e 10 (by omega)]
  exact h
theorem PRs.of {M M2 : Mem} {pr : Nat} {p : Nat → Int32} (h : PRs M pr p) (e : ∀ k, k ≤ 12 → M2 (pr + k) = M (pr + k)) : PRs M2 pr p := by
  have e0 : M2 pr = M pr := e 0 (by omega)
  unfold PRs
  rw [e 1 (by omega), e0]
  exact h
theorem PBt.of {M M2 : Mem} {pr bt : Nat} {p : Nat → Int32} (h : PBt M pr p bt) (e : ∀ k, k ≤ 12 → M2 (pr + k) = M (pr + k)) : PBt M2 pr p bt := by
  unfold PBt
  rw [e 2 (by omega), e 3 (by omega), e 4 (by omega)]
  exact ⟨h.1, h.2.1, h.2.2.1, fun c h1 h2 => (h.2.2.2 c h1 h2).of e⟩
theorem FrV.pr {v pr : Nat} {M M2 : Mem} (h : FrV v M M2) (hpr : pr + 12 < v) : ∀ k, k ≤ 12 → M2 (pr + k) = M (pr + k) := fun k hk => h _ (by omega) (by omega)
/-- A BATCH'S VALUES -/
theorem x_vrun {M : Mem} {v pr nc : Nat} {p a : Nat → Int32} {bt : Nat} (hv : isV v) (hpr : pr + 12 < v) (hs : WFs p) (hw : WFb p bt) (hx : PBt M pr p bt) (hp : PRs M pr p) (hnc : nc = ix (p 2)) (hR : RV nc M v a) : ∃ M2, f_X8_runBatch v pr (nI bt) M = some (0, M2) ∧ RV nc M2 v (svBatch p bt a) ∧ FrV v M M2 := by
  obtain ⟨h12, hset, hno, hf, hl, hr60, hr⟩ := id hw
  obtain ⟨h0, h01, h08, -⟩ := id hs
  obtain ⟨x2, x3, x4, xc⟩ := hx
  have hb : NoB (setN p bt) (ix (p 0)) := ⟨h08, hno⟩
  obtain ⟨l1, l2, l3⟩ := low_ok hset
  unfold f_X8_runBatch svBatch
  have hin := inb_T h12 (show 12 < 2147483648 by decide)
  have hix : ix (nI bt) = bt := ix_nI (by omega)
  simp only [↓reduceIte, hin, hix, x2, x_lowest _ hset, bnd_some, x3]
  generalize setN p bt = s at *
  generalize fstN p bt = f at *
  generalize lenN p bt = n at *
  generalize ix (p 0) = nb at *
  refine Exists.elim (loop_inv (body := l_X8_runBatch_21 v pr (nI bt) s (nI (lowN s))) (init := (nI f, M)) (Q := fun r => ∃ M2, r = some (0, M2) ∧ RV nc M2 v (svRun p nb s f n a) ∧ FrV v M M2) n (fun i st => st.1 = nI (f + i) ∧ RV nc st.2 v (svRun p nb s f i a) ∧ FrV v M st.2) ⟨rfl, hR, FrV.refl v M⟩ (by omega) ?_ ?_) (fun r hr => ?_)
  · rintro i hi ⟨x5, M1⟩ ⟨rfl, hR1, hF1⟩
    have hF1 : FrV v M M1 := hF1
    have hR1 : RV nc M1 v (svRun p nb s f i a) := hR1
    have e4 : M1 (pr + 4) bt = nI (f + n) := by rw [hF1.pr hpr 4 (by omega)]; exact x4
    have hc := hr (f + i) (by omega) (by omega)
    have e : svRun p nb s f (i + 1) a = foldN (fun b a => if bit s b = true then svB p (lowN s) (f + i) b a else a) 8 (svRun p nb s f i a) := svCmd_B hb
    rw [e]
    generalize svRun p nb s f i a = a1 at hR1
    have el : foldN (fun b a => if bit s b = true then svB p (lowN s) (f + i) b a else a) (lowN s) a1 = a1 := fold_id a1 (fun j hj y => by rw [if_neg (l3 j hj)])
    refine Exists.elim (loop_invK (B := fun K1 => l_X8_runBatch_36 v pr (nI bt) s (nI (lowN s)) (nI (f + i)) K1) (init := (nI (lowN s), M1)) (Q := fun (t : Int32 × Mem) => t.1 = nI (f + (i + 1)) ∧ RV nc t.2 v (foldN (fun b a => if bit s b = true then svB p (lowN s) (f + i) b a else a) 8 a1) ∧ FrV v M t.2) (8 - lowN s) (fun j st => st.1 = nI (lowN s + j) ∧ RV nc st.2 v (foldN (fun b a => if bit s b = true then svB p (lowN s) (f + i) b a else a) (lowN s + j) a1) ∧ FrV v M st.2) ⟨rfl, by rw [Nat.add_zero, el]; exact hR1, hF1⟩ (by omega) ?_ ?_) (fun t ht => ?_)
    · rintro j hj ⟨x6, M3⟩ ⟨rfl, hR3, hF3⟩
      have hF3 : FrV v M M3 := hF3
      have hR3 : RV nc M3 v _ := hR3
      generalize hB : lowN s + j = b at hR3
      have hb8 : b < 8 := by omega
      have eb : lowN s + (j + 1) = b + 1 := by omega
      rw [eb]
      by_cases q : bit s b = true
      · obtain ⟨M4, e4, hR4, hF4⟩ := x_vexec (s := s) (b := b) (lo := lowN s) (c := f + i) hv hpr hb8 l2 (by omega) hc hs ((xc (f + i) (by omega) (by omega)).of (hF3.pr hpr)) (hp.of (hF3.pr hpr)) hnc hR3
        refine ⟨(nI (b + 1), M4), ⟨rfl, ?_, hF3.trans hF4⟩, fun K1 K => ?_⟩
        · rw [foldN_s, if_pos q]; exact hR4
        · simp only [l_X8_runBatch_36]
          rw [if_neg (show ¬ (8 : Int32) ≤ nI b from nI_ge (b := 8) hb8 (by decide)), if_neg (in_t q), e4, bnd_some]
          unfold j_X8_runBatch_63
          rw [n1, nI_add]
      · refine ⟨(nI (b + 1), M3), ⟨rfl, ?_, hF3⟩, fun K1 K => ?_⟩
        · rw [foldN_s, if_neg q]; exact hR3
        · simp only [l_X8_runBatch_36]
          rw [if_neg (show ¬ (8 : Int32) ≤ nI b from nI_ge (b := 8) hb8 (by decide)), if_pos (in_f q)]
          unfold j_X8_runBatch_63
          rw [n1, nI_add]
    · rintro ⟨x6, M3⟩ ⟨rfl, hR3, hF3⟩
      have e8 : lowN s + (8 - lowN s) = 8 := by omega
      rw [e8] at hR3
      refine ⟨(nI (f + (i + 1)), M3), ⟨rfl, hR3, hF3⟩, fun K1 K => ?_⟩
      simp only [l_X8_runBatch_36]
      rw [e8, if_pos (show (8 : Int32) ≤ nI 8 from nI_le (a := 8) (Nat.le_refl 8) (by decide)), n1, nI_add, Nat.add_assoc]
    · refine ⟨t, ht.1, fun K => ?_⟩
      simp only [l_X8_runBatch_21]
      simp (disch := first | omega | decide) only [↓reduceIte, la, lm, ra, rm_, rs, ss, rr, rd, nI_add, pk_mul, zadd, Nat.zero_add, Nat.add_zero, ix_nI, inb_T, inb_F, le_T, le_F, lt_T, lt_F, lle_T, lle_F, rle_T, rle_F, llt_T, llt_F, rlt_T, rlt_F, eq_n, if_true, if_false, not_true_eq_false, not_false_eq_true, wrt_def, bnd_some, up_as, upA_upA, upA_eq, upA_ne, up_upA, upd_eq, upd_ne, e4]
      exact ht.2 K
  · rintro ⟨x5, M1⟩ ⟨rfl, hR1, hF1⟩
    have hF1 : FrV v M M1 := hF1
    have e4 : M1 (pr + 4) bt = nI (f + n) := by rw [hF1.pr hpr 4 (by omega)]; exact x4
    refine ⟨_, ⟨M1, rfl, hR1, hF1⟩, fun K => ?_⟩
    simp only [l_X8_runBatch_21]
    simp (disch := first | omega | decide) only [↓reduceIte, la, lm, ra, rm_, rs, ss, rr, rd, nI_add, pk_mul, zadd, Nat.zero_add, Nat.add_zero, ix_nI, inb_T, inb_F, le_T, le_F, lt_T, lt_F, lle_T, lle_F, rle_T, rle_F, llt_T, llt_F, rlt_T, rlt_F, eq_n, if_true, if_false, not_true_eq_false, not_false_eq_true, wrt_def, bnd_some, up_as, upA_upA, upA_eq, upA_ne, up_upA, upd_eq, upd_ne, e4]
  · obtain ⟨⟨M2, e2, q2, q3⟩, e⟩ := hr
    exact ⟨M2, by rw [e, e2], q2, q3⟩
