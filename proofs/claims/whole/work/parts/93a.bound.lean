/-! ===== times stay small, and never get less ===== -/
def tm (K : Nat) (x : Int32) : Prop := ∃ y, y ≤ K ∧ x = nI y
theorem tm_mono {K L : Nat} {x : Int32} (h : tm K x) (hl : K ≤ L) : tm L x := ⟨h.choose, Nat.le_trans h.choose_spec.1 hl, h.choose_spec.2⟩
theorem tm_mx {K : Nat} {x y : Int32} (hx : tm K x) (hy : tm K y) : tm K (mx x y) := by
  unfold mx
  split
  · exact hy
  · exact hx
theorem tm_add {K L : Nat} {x y : Int32} (hx : tm K x) (hy : tm L y) : tm (K + L) (x + y) := by
  obtain ⟨a, ha, rfl⟩ := hx
  obtain ⟨b, hb, rfl⟩ := hy
  exact ⟨a + b, by omega, nI_add a b⟩
theorem tm_0 (K : Nat) : tm K 0 := ⟨0, Nat.zero_le _, rfl⟩
theorem tm_1 : tm 1 1 := ⟨1, Nat.le_refl _, rfl⟩
theorem tm_mul {K n : Nat} {x : Int32} (hx : tm K x) : tm (n * K) (nI n * x) := by
  obtain ⟨a, ha, rfl⟩ := hx
  exact ⟨n * a, Nat.mul_le_mul_left n ha, pk_mul n a⟩
theorem le_add {K L : Nat} {x y : Int32} (hx : tm K x) (hy : tm L y) (h : K + L < 2147483648) : x ≤ x + y := by
  obtain ⟨a, ha, rfl⟩ := hx
  obtain ⟨b, hb, rfl⟩ := hy
  rw [nI_add]
  exact nI_le (by omega) (by omega)
theorem mx_l (x y : Int32) : x ≤ mx x y := mx_ge x y
theorem mx_r (x y : Int32) : y ≤ mx x y := by
  unfold mx
  split
  · exact Int32.le_refl y
  · exact Int32.le_of_lt (i32_nle.mp (by assumption))
theorem mx_up {x y z : Int32} (h1 : x ≤ z) (h2 : y ≤ z) : mx x y ≤ z := by
  unfold mx
  split
  · exact h2
  · exact h1
def TB (K : Nat) (a : Nat → Int32) : Prop := ∀ j, (j < 40 ∨ (56 ≤ j ∧ j < 120)) → tm K (a j)
def WFt (p : Nat → Int32) : Prop := (∀ k, 3 ≤ k → k ≤ 8 → tm 100 (p k)) ∧ tm 1000 (p 10)
def GR (a a2 : Nat → Int32) : Prop := ∀ j, j < 40 → a j ≤ a2 j
theorem GR.refl (a : Nat → Int32) : GR a a := fun _ _ => Int32.le_refl _
theorem GR.trans {a b c : Nat → Int32} (h : GR a b) (h2 : GR b c) : GR a c := fun j hj => Int32.le_trans (h j hj) (h2 j hj)
theorem TB.mono {K L : Nat} {a : Nat → Int32} (h : TB K a) (hl : K ≤ L) : TB L a := fun j hj => tm_mono (h j hj) hl
theorem TB.of {K : Nat} {a a2 : Nat → Int32} (h : TB K a) (e : ∀ j, j < 160 → a2 j = a j) : TB K a2 := fun j hj => by rw [e j (by omega)]; exact h j hj
theorem spE_tm {p : Nat → Int32} {c : Nat} (h : WFt p) : tm 100 (spE p c) := by
  unfold spE
  split
  · exact h.1 6 (by omega) (by omega)
  · exact h.1 5 (by omega) (by omega)
theorem halv_le (n : Nat) : halv n ≤ 3 := by
  unfold halv
  split
  · omega
  · split
    · omega
    · split <;> omega
theorem spBy_tm {p : Nat → Int32} {c : Nat} (h : WFt p) : tm 300 (spBy p c) := by
  unfold spBy
  split
  · exact tm_mono tm_1 (by omega)
  · split
    · exact tm_mono (spE_tm h) (by omega)
    · split
      · exact tm_mono (tm_mul (spE_tm h)) (by have := halv_le (ix (p 2)); omega)
      · exact tm_mono (h.1 4 (by omega) (by omega)) (by omega)
theorem spT_tm {p a : Nat → Int32} {b c K : Nat} (hb : b < 8) (h : WFc p c) (ha : TB K a) : tm K (spT p a b c) ∧ a b ≤ spT p a b c ∧ a (8 + 4 * b + rgN p c) ≤ spT p a b c := by
  obtain ⟨-, -, -, hr, h3, -⟩ := h
  unfold spT
  split
  · rename_i h33
    obtain ⟨-, hx, -, hy⟩ := h3 h33
    refine ⟨tm_mx (tm_mx (ha _ (by omega)) (ha _ (by omega))) (tm_mx (ha _ (by omega)) (ha _ (by omega))), ?_, ?_⟩
    · exact Int32.le_trans (mx_l _ _) (mx_l _ _)
    · exact Int32.le_trans (mx_r _ _) (mx_l _ _)
  · exact ⟨tm_mx (ha _ (by omega)) (ha _ (by omega)), mx_l _ _, mx_r _ _⟩
theorem spH_lo {p a : Nat → Int32} {b c j : Nat} (hj : j < 120) : spH p a b c j = a j := upd_ne _ _ (by omega)
theorem spU_tm {p a : Nat → Int32} {b K : Nat} {t : Int32} (hb : b < 8) (hp : WFt p) (ha : TB K a) (ht : tm K t) : tm (K + 1000) (spU p a b t) ∧ t ≤ spU p a b t := by
  unfold spU
  split
  · have h8 : (ix (a (48 + b)) - ix (p 9)) % 8 < 8 := Nat.mod_lt _ (by decide)
    refine ⟨tm_mx (tm_mono ht (by omega)) (tm_add ?_ hp.2), mx_l _ _⟩
    unfold spStart
    exact ha _ (by omega)
  · exact ⟨tm_mono ht (by omega), Int32.le_refl _⟩
theorem spG_tm {p a : Nat → Int32} {b c K : Nat} (hb : b < 8) (h : WFc p c) (hp : WFt p) (ha : TB K a) (hK : K + 1400 < 2147483648) : tm (K + 1100) (spG p a b c) ∧ spT p a b c ≤ spG p a b c := by
  have hT := spT_tm hb h ha
  have haH : TB K (spH p a b c) := fun j hj => by rw [spH_lo (by omega)]; exact ha j hj
  have hU := spU_tm (p := p) hb hp haH hT.1
  unfold spG
  split
  · have h3 := hp.1 3 (by omega) (by omega)
    exact ⟨tm_mono (tm_add hU.1 h3) (by omega), Int32.le_trans hU.2 (le_add hU.1 h3 (by omega))⟩
  · exact ⟨tm_mono hT.1 (by omega), Int32.le_refl _⟩
theorem spA2_tm {p a : Nat → Int32} {b c K : Nat} (hb : b < 8) (h : WFc p c) (hp : WFt p) (ha : TB K a) : TB (K + 1000) (spA2 p a b c) ∧ ∀ j, j < 40 → spA2 p a b c j = a j := by
  have hT := spT_tm hb h ha
  have haH : TB K (spH p a b c) := fun j hj => by rw [spH_lo (by omega)]; exact ha j hj
  have hU := spU_tm (p := p) hb hp haH hT.1
  unfold spA2
  split
  · unfold spAct
    have m8 : ix (spH p a b c (48 + b)) % 8 < 8 := Nat.mod_lt _ (by decide)
    constructor
    · intro j hj
      rw [upd_ne _ _ (by omega), upd_ne _ _ (by omega)]
      by_cases e : j = 56 + 8 * b + ix (spH p a b c (48 + b)) % 8
      · rw [e, upd_eq]; exact hU.1
      · rw [upd_ne _ _ e, upd_ne _ _ (by omega), upd_ne _ _ (by omega)]
        exact tm_mono (haH j hj) (by omega)
    · intro j hj
      rw [upd_ne _ _ (by omega), upd_ne _ _ (by omega), upd_ne _ _ (by omega), upd_ne _ _ (by omega), upd_ne _ _ (by omega)]
      exact spH_lo (by omega)
  · exact ⟨haH.mono (by omega), fun j hj => spH_lo (by omega)⟩
theorem spAlone_tb {p a : Nat → Int32} {b c K : Nat} (hb : b < 8) (h : WFc p c) (hp : WFt p) (ha : TB K a) (hK : K + 1400 < 2147483648) : TB (K + 1400) (spAlone p a b c) ∧ GR a (spAlone p a b c) := by
  obtain ⟨hT, hT1, hT2⟩ := spT_tm hb h ha
  obtain ⟨hG, hG1⟩ := spG_tm hb h hp ha hK
  obtain ⟨hA, hA1⟩ := spA2_tm hb h hp ha
  have hr : rgN p c < 4 := h.2.2.2.1
  have h4 := hp.1 4 (by omega) (by omega)
  have hby := spBy_tm (c := c) hp
  unfold spAlone spEnd
  split
  · constructor
    · intro j hj
      by_cases e : j = b
      · rw [e, upd_eq]; exact tm_mono (tm_add hG h4) (by omega)
      · rw [upd_ne _ _ e]; exact tm_mono (hA j hj) (by omega)
    · intro j hj
      by_cases e : j = b
      · rw [e, upd_eq]; exact Int32.le_trans (Int32.le_trans hT1 hG1) (le_add hG h4 (by omega))
      · rw [upd_ne _ _ e, hA1 j hj]; exact Int32.le_refl _
  · constructor
    · intro j hj
      by_cases e : j = 8 + 4 * b + rgN p c
      · rw [e, upd_eq]; exact tm_mono (tm_add hG hby) (by omega)
      · rw [upd_ne _ _ e]
        by_cases e2 : j = b
        · rw [e2, upd_eq]; exact tm_mono (tm_add hG tm_1) (by omega)
        · rw [upd_ne _ _ e2]; exact tm_mono (hA j hj) (by omega)
    · intro j hj
      by_cases e : j = 8 + 4 * b + rgN p c
      · rw [e, upd_eq]; exact Int32.le_trans (Int32.le_trans hT2 hG1) (le_add hG hby (by omega))
      · rw [upd_ne _ _ e]
        by_cases e2 : j = b
        · rw [e2, upd_eq]; exact Int32.le_trans (Int32.le_trans hT1 hG1) (le_add hG tm_1 (by omega))
        · rw [upd_ne _ _ e2, hA1 j hj]; exact Int32.le_refl _
theorem spJR_tm {kd rg : Nat} {a : Nat → Int32} {b K n : Nat} {v : Int32} (hb : b < 8) (hn : n ≤ 4) (ha : TB K a) (hv : tm K v) : tm K (spJR kd rg a b n v) ∧ v ≤ spJR kd rg a b n v ∧ ∀ r, r < n → kd = 7 ∨ r = rg → a (8 + 4 * b + r) ≤ spJR kd rg a b n v := by
  unfold spJR
  induction n with
  | zero => exact ⟨hv, Int32.le_refl _, fun r hr => by omega⟩
  | succ n ih =>
    obtain ⟨i1, i2, i3⟩ := ih (by omega)
    rw [foldN_s]
    split
    · refine ⟨tm_mx i1 (ha _ (by omega)), Int32.le_trans i2 (mx_l _ _), fun r hr hk => ?_⟩
      by_cases e : r = n
      · rw [e]; exact mx_r _ _
      · exact Int32.le_trans (i3 r (by omega) hk) (mx_l _ _)
    · rename_i hc
      refine ⟨i1, i2, fun r hr hk => ?_⟩
      by_cases e : r = n
      · exact absurd (e ▸ hk) hc
      · exact i3 r (by omega) hk
theorem spJT_tm {kd rg : Nat} {s : Int32} {a : Nat → Int32} {K n : Nat} (hn : n ≤ 8) (ha : TB K a) : tm K (spJT n kd rg s a) ∧ ∀ b, b < n → bit s b = true → a b ≤ spJT n kd rg s a ∧ ∀ r, r < 4 → kd = 7 ∨ r = rg → a (8 + 4 * b + r) ≤ spJT n kd rg s a := by
  unfold spJT
  induction n with
  | zero => exact ⟨tm_0 _, fun b hb => by omega⟩
  | succ n ih =>
    obtain ⟨i1, i2⟩ := ih (by omega)
    rw [foldN_s]
    by_cases q : bit s n = true
    · rw [if_pos q]
      obtain ⟨j1, j2, j3⟩ := spJR_tm (kd := kd) (rg := rg) (b := n) (n := 4) (by omega) (Nat.le_refl _) ha (tm_mx i1 (ha n (by omega)))
      refine ⟨j1, fun b hb hbit => ?_⟩
      by_cases e : b = n
      · subst e
        exact ⟨Int32.le_trans (mx_r _ _) j2, j3⟩
      · obtain ⟨k1, k2⟩ := i2 b (by omega) hbit
        have up := Int32.le_trans (mx_l _ (a n)) j2
        exact ⟨Int32.le_trans k1 up, fun r hr hk => Int32.le_trans (k2 r hr hk) up⟩
    · rw [if_neg q]
      refine ⟨i1, fun b hb hbit => ?_⟩
      by_cases e : b = n
      · exact absurd (e ▸ hbit) q
      · exact i2 b (by omega) hbit
theorem spJto_tm {p : Nat → Int32} {kd : Nat} {s t : Int32} {K : Nat} (hp : WFt p) (ht : tm K t) (hK : K + 300 < 2147483648) : tm (K + 300) (spJto p kd s t) ∧ t ≤ spJto p kd s t := by
  unfold spJto
  split
  · exact ⟨tm_mono ht (by omega), Int32.le_refl _⟩
  · split
    · have h1 : tm 300 (nI (halv (bitsN s)) * p 7) := tm_mono (tm_mul (hp.1 7 (by omega) (by omega))) (by have := halv_le (bitsN s); omega)
      exact ⟨tm_add ht h1, le_add ht h1 hK⟩
    · have h1 := hp.1 8 (by omega) (by omega)
      exact ⟨tm_mono (tm_add ht h1) (by omega), le_add ht h1 (by omega)⟩
theorem spJoint_tb {p a : Nat → Int32} {nb kd rg K : Nat} {s : Int32} (hb : nb ≤ 8) (hr : rg < 4) (hp : WFt p) (ha : TB K a) (hK : K + 300 < 2147483648) : TB (K + 300) (spJoint p nb kd rg s a) ∧ GR a (spJoint p nb kd rg s a) := by
  obtain ⟨t1, t2⟩ := spJT_tm (kd := kd) (rg := rg) (s := s) hb ha
  obtain ⟨o1, o2⟩ := spJto_tm (kd := kd) (s := s) hp t1 hK
  unfold spJoint spJ2
  have key : ∀ j, (j < 40 → (foldN (fun b a2 => if bit s b = true then spJ1 kd rg s (spJT nb kd rg s a) (spJto p kd s (spJT nb kd rg s a)) b a2 else a2) nb a j = a j ∨ (foldN (fun b a2 => if bit s b = true then spJ1 kd rg s (spJT nb kd rg s a) (spJto p kd s (spJT nb kd rg s a)) b a2 else a2) nb a j = spJto p kd s (spJT nb kd rg s a) ∧ a j ≤ spJto p kd s (spJT nb kd rg s a)))) ∧ (56 ≤ j ∧ j < 120 → foldN (fun b a2 => if bit s b = true then spJ1 kd rg s (spJT nb kd rg s a) (spJto p kd s (spJT nb kd rg s a)) b a2 else a2) nb a j = a j) := by
    intro j
    refine foldN_inv (fun x => (j < 40 → (x j = a j ∨ (x j = spJto p kd s (spJT nb kd rg s a) ∧ a j ≤ spJto p kd s (spJT nb kd rg s a)))) ∧ (56 ≤ j ∧ j < 120 → x j = a j)) a ⟨fun _ => Or.inl rfl, fun _ => rfl⟩ (fun b hb2 x hx => ?_)
    by_cases q : bit s b = true
    · rw [if_pos q]
      obtain ⟨u1, u2⟩ := t2 b hb2 q
      unfold spJ1
      split
      · rename_i hkk
        constructor
        · intro hj
          by_cases e : j = 8 + 4 * b + rg
          · right
            rw [e, upd_eq]
            exact ⟨rfl, Int32.le_trans (u2 rg hr (Or.inr rfl)) o2⟩
          · rw [upd_ne _ _ e]
            by_cases e2 : j = b
            · right
              rw [e2, upd_eq]
              exact ⟨rfl, Int32.le_trans u1 o2⟩
            · rw [upd_ne _ _ e2, upd_ne _ _ (by omega)]
              exact hx.1 hj
        · intro hj
          rw [upd_ne _ _ (by omega), upd_ne _ _ (by omega), upd_ne _ _ (by omega)]
          exact hx.2 hj
      · constructor
        · intro hj
          by_cases e2 : j = b
          · right
            rw [e2, upd_eq]
            exact ⟨rfl, Int32.le_trans u1 o2⟩
          · rw [upd_ne _ _ e2, upd_ne _ _ (by omega)]
            exact hx.1 hj
        · intro hj
          rw [upd_ne _ _ (by omega), upd_ne _ _ (by omega)]
          exact hx.2 hj
    · rw [if_neg q]; exact hx
  constructor
  · intro j hj
    rcases hj with hj | hj
    · rcases (key j).1 hj with e | e
      · rw [e]; exact tm_mono (ha j (Or.inl hj)) (by omega)
      · rw [e.1]; exact o1
    · rw [(key j).2 hj]; exact tm_mono (ha j (Or.inr hj)) (by omega)
  · intro j hj
    rcases (key j).1 hj with e | e
    · rw [e]; exact Int32.le_refl _
    · rw [e.1]; exact e.2
theorem spC2_tb {p a : Nat → Int32} {c n K : Nat} {s : Int32} (hn : n ≤ 8) (h : WFc p c) (hp : WFt p) (ha : TB K a) (hK : K + 1400 * n < 2147483648) : TB (K + 1400 * n) (spC2 p s c n a) ∧ GR a (spC2 p s c n a) := by
  unfold spC2
  induction n with
  | zero => exact ⟨ha, GR.refl _⟩
  | succ n ih =>
    obtain ⟨i1, i2⟩ := ih (by omega) (by omega)
    rw [foldN_s]
    generalize foldN (fun b a => if bit s b = true then spC1 p c b a else a) n a = w at i1 i2 ⊢
    have e : K + 1400 * (n + 1) = K + 1400 * n + 1400 := by omega
    rw [e] at hK ⊢
    generalize K + 1400 * n = K2 at i1 hK ⊢
    by_cases q : bit s n = true
    · rw [if_pos q]
      unfold spC1
      split
      · constructor
        · intro j hj
          rw [upd_ne _ _ (by omega)]
          exact tm_mono (i1 j hj) (by omega)
        · intro j hj
          rw [upd_ne _ _ (by omega)]
          exact i2 j hj
      · obtain ⟨k1, k2⟩ := spAlone_tb (b := n) (by omega) h hp i1 hK
        constructor
        · intro j hj
          rw [upd_ne _ _ (by omega)]
          exact k1 j hj
        · intro j hj
          rw [upd_ne _ _ (by omega)]
          exact Int32.le_trans (i2 j hj) (k2 j hj)
    · rw [if_neg q]
      exact ⟨i1.mono (by omega), i2⟩
theorem spCmd_tb {p a : Nat → Int32} {nb c K : Nat} {s : Int32} (hn : nb ≤ 8) (h : WFc p c) (hp : WFt p) (ha : TB K a) (hK : K + 11500 < 2147483648) : TB (K + 11500) (spCmd p nb s c a) ∧ GR a (spCmd p nb s c a) := by
  have hr : rgN p c < 4 := h.2.2.2.1
  have h1 : TB (K + 300) (if jnt p c = true then spJoint p nb (kdN p c) (rgN p c) s a else a) ∧ GR a (if jnt p c = true then spJoint p nb (kdN p c) (rgN p c) s a else a) := by
    split
    · exact spJoint_tb hn hr hp ha (by omega)
    · exact ⟨ha.mono (by omega), GR.refl _⟩
  obtain ⟨k1, k2⟩ := spC2_tb (s := s) hn h hp h1.1 (by omega)
  exact ⟨k1.mono (by omega), h1.2.trans k2⟩
theorem spBatch_tb {p a : Nat → Int32} {bt K : Nat} (hs : WFs p) (hp : WFt p) (hw : WFb p bt) (ha : TB K a) (hK : K + 690000 < 2147483648) : TB (K + 690000) (spBatch p bt a) ∧ GR a (spBatch p bt a) := by
  obtain ⟨-, -, h08, -⟩ := hs
  obtain ⟨-, -, -, -, -, hr60, hr⟩ := hw
  have key : ∀ n, n ≤ lenN p bt → TB (K + 11500 * n) (spRun p (ix (p 0)) (setN p bt) (fstN p bt) n a) ∧ GR a (spRun p (ix (p 0)) (setN p bt) (fstN p bt) n a) := by
    intro n
    induction n with
    | zero => intro _; exact ⟨ha, GR.refl _⟩
    | succ n ih =>
      intro hn
      obtain ⟨i1, i2⟩ := ih (by omega)
      obtain ⟨k1, k2⟩ := spCmd_tb (s := setN p bt) h08 (hr (fstN p bt + n) (by omega) (by omega)) hp i1 (by omega)
      exact ⟨k1.mono (by omega), i2.trans k2⟩
  obtain ⟨k1, k2⟩ := key (lenN p bt) (Nat.le_refl _)
  exact ⟨k1.mono (by omega), k2⟩
theorem spQ_tb {p a : Nat → Int32} {qb : Nat → Nat} {n K : Nat} (hs : WFs p) (hp : WFt p) (hw : ∀ i, i < n → WFb p (qb i)) (ha : TB K a) (hK : K + 690000 * n < 2147483648) : TB (K + 690000 * n) (spQ p qb n a) := by
  unfold spQ
  induction n with
  | zero => exact ha
  | succ n ih =>
    rw [foldN_s]
    have i1 := ih (fun i hi => hw i (by omega)) (by omega)
    have e : K + 690000 * (n + 1) = K + 690000 * n + 690000 := by omega
    rw [e] at hK ⊢
    generalize K + 690000 * n = K2 at i1 hK ⊢
    exact (spBatch_tb hs hp (hw n (by omega)) i1 hK).1
/-- the finish never gets less -/
theorem mx_mono {x y z w : Int32} (h1 : x ≤ z) (h2 : y ≤ w) : mx x y ≤ mx z w := mx_up (Int32.le_trans h1 (mx_l _ _)) (Int32.le_trans h2 (mx_r _ _))
theorem lat4_mono {a b : Nat → Int32} {c k : Nat} {v w : Int32} (hc : c < 8) (hk : k ≤ 4) (h : GR a b) (hv : v ≤ w) : foldN (fun r v => mx v (a (8 + 4 * c + r))) k v ≤ foldN (fun r v => mx v (b (8 + 4 * c + r))) k w := by
  induction k with
  | zero => exact hv
  | succ k ih =>
    rw [foldN_s, foldN_s]
    exact mx_mono (ih (by omega)) (h (8 + 4 * c + k) (by omega))
theorem spLat_s (n : Nat) (s : Int32) (a : Nat → Int32) : spLat (n + 1) s a = if bit s n = true then foldN (fun r v => mx v (a (8 + 4 * n + r))) 4 (mx (spLat n s a) (a n)) else spLat n s a := rfl
theorem spLat_mono {n : Nat} {s : Int32} {a b : Nat → Int32} (hn : n ≤ 8) (h : GR a b) : spLat n s a ≤ spLat n s b := by
  induction n with
  | zero =>
    have e1 : spLat 0 s a = 0 := rfl
    have e2 : spLat 0 s b = 0 := rfl
    rw [e1, e2]; exact Int32.le_refl _
  | succ n ih =>
    rw [spLat_s, spLat_s]
    have i := ih (by omega)
    by_cases q : bit s n = true
    · rw [if_pos q, if_pos q]
      exact lat4_mono (by omega) (Nat.le_refl 4) h (mx_mono i (h n (by omega)))
    · rw [if_neg q, if_neg q]; exact i
theorem lat4_tm {a : Nat → Int32} {c k K : Nat} {v : Int32} (hc : c < 8) (hk : k ≤ 4) (h : TB K a) (hv : tm K v) : tm K (foldN (fun r v => mx v (a (8 + 4 * c + r))) k v) := by
  induction k with
  | zero => exact hv
  | succ k ih =>
    rw [foldN_s]
    exact tm_mx (ih (by omega)) (h (8 + 4 * c + k) (Or.inl (by omega)))
theorem spLat_tm {n K : Nat} {s : Int32} {a : Nat → Int32} (hn : n ≤ 8) (h : TB K a) : tm K (spLat n s a) := by
  induction n with
  | zero => exact tm_0 _
  | succ n ih =>
    rw [spLat_s]
    have i := ih (by omega)
    by_cases q : bit s n = true
    · rw [if_pos q]
      exact lat4_tm (by omega) (Nat.le_refl 4) h (tm_mx i (h n (Or.inl (by omega))))
    · rw [if_neg q]; exact i
