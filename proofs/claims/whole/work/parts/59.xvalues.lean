/-! ===== the values that a batch makes, as the class computes them ===== -/
/-- a counted loop whose states are known by an invariant alone -/
theorem loop_inv {σ ρ : Type} {body : (σ → Option ρ) → σ → Option ρ} (n : Nat) (I : Nat → σ → Prop) {init : σ} {Q : Option ρ → Prop} (h0 : I 0 init) (hn : n < 9999) (h : ∀ i, i < n → ∀ s, I i s → ∃ s2, I (i + 1) s2 ∧ ∀ K : σ → Option ρ, body K s = K s2) (hx : ∀ s, I n s → ∃ r, Q r ∧ ∀ K : σ → Option ρ, body K s = r) : ∃ r, Q r ∧ loopC body fuelL init = r := by
  have key : ∀ m k s, k ≤ n → n - k < m → I k s → ∃ r, Q r ∧ loopC body m s = r := by
    intro m
    induction m with
    | zero => intro k s _ hm; omega
    | succ m ih =>
      intro k s hk hm hI
      by_cases e : k = n
      · subst e
        obtain ⟨r, q, hr⟩ := hx s hI
        exact ⟨r, q, hr _⟩
      · obtain ⟨s2, i2, e2⟩ := h k (by omega) s hI
        obtain ⟨r, q, hr⟩ := ih (k + 1) s2 (by omega) (by omega) i2
        refine ⟨r, q, ?_⟩
        show body (loopC body m) s = r
        rw [e2, hr]
  exact key fuelL 0 init (Nat.zero_le _) (by show n - 0 < 10000; omega) h0
/-- a loop over the columns of a block -/
theorem foldBlk {d n : Nat} {F : Nat → (Nat → Int32) → Nat → Int32} {G : Nat → Int32} {a : Nat → Int32} (h : ∀ k, k < n → ∀ a2 : Nat → Int32, (∀ j, ¬ (d ≤ j ∧ j < d + k) → a2 j = a j) → F k a2 = upd a2 (d + k) (G k)) : foldN F n a = fun j => if d ≤ j ∧ j < d + n then G (j - d) else a j := by
  induction n with
  | zero =>
    funext j
    rw [foldN_0, if_neg (by omega)]
  | succ n ih =>
    have ih := ih (fun k hk => h k (by omega))
    rw [foldN_s, h n (by omega) _ (fun j hj => by rw [ih]; show (if _ then _ else _) = _; rw [if_neg hj]), ih]
    funext j
    by_cases q : j = d + n
    · subst q
      rw [upd_eq, if_pos (by omega)]
      congr 1; omega
    · rw [upd_ne _ _ q]
      by_cases q2 : d ≤ j ∧ j < d + n
      · rw [if_pos q2, if_pos (by omega)]
      · rw [if_neg q2, if_neg (by omega)]
/-- the values v of the class are the reference's, in the columns below nc -/
def RV (nc : Nat) (M : Mem) (v : Nat) (a : Nat → Int32) : Prop := (∀ i, i < 1024 → i % 8 < nc → M (v + 1) i = a (160 + i)) ∧ (∀ i, i < 256 → i % 8 < nc → M (v + 2) i = a (1184 + i))
/-- nothing but the values v has changed -/
def FrV (v : Nat) (M M2 : Mem) : Prop := ∀ c, c ≠ v + 1 → c ≠ v + 2 → M2 c = M c
theorem FrV.refl (v : Nat) (M : Mem) : FrV v M M := fun _ _ _ => rfl
theorem FrV.trans {v : Nat} {M M2 M3 : Mem} (h : FrV v M M2) (h2 : FrV v M2 M3) : FrV v M M3 := fun c h3 h4 => by rw [h2 c h3 h4, h c h3 h4]
theorem frv_1 (v : Nat) (M : Mem) (f : Nat → Int32) : FrV v M (upA M (v + 1) f) := fun c h _ => upA_ne _ _ h
theorem frv_2 (v : Nat) (M : Mem) (f : Nat → Int32) : FrV v M (upA M (v + 2) f) := fun c _ h => upA_ne _ _ h
theorem rv_2 {nc v : Nat} {M : Mem} {a a2 f : Nat → Int32} (h : RV nc M v a) (h1 : ∀ i, i < 1024 → a2 (160 + i) = a (160 + i)) (h2 : ∀ i, i < 256 → i % 8 < nc → f i = a2 (1184 + i)) : RV nc (upA M (v + 2) f) v a2 := by
  refine ⟨fun i hi hn => ?_, fun i hi hn => ?_⟩
  · rw [upA_ne _ _ (by omega), h1 i hi]; exact h.1 i hi hn
  · rw [upA_eq]; exact h2 i hi hn
theorem rv_1 {nc v : Nat} {M : Mem} {a a2 f : Nat → Int32} (h : RV nc M v a) (h1 : ∀ i, i < 256 → a2 (1184 + i) = a (1184 + i)) (h2 : ∀ i, i < 1024 → i % 8 < nc → f i = a2 (160 + i)) : RV nc (upA M (v + 1) f) v a2 := by
  refine ⟨fun i hi hn => ?_, fun i hi hn => ?_⟩
  · rw [upA_eq]; exact h2 i hi hn
  · rw [upA_ne _ _ (by omega), h1 i hi]; exact h.2 i hi hn
theorem comb_jn {w : Nat} (hw : w < 8) (x y : Int32) : p_X9_combine (nI (15 + w)) x y = jn w x y := by
  rcases (show w = 0 ∨ w = 1 ∨ w = 2 ∨ w = 3 ∨ w = 4 ∨ w = 5 ∨ w = 6 ∨ w = 7 by omega) with rfl | rfl | rfl | rfl | rfl | rfl | rfl | rfl <;> rfl
def isV (v : Nat) : Prop := v = 34 ∨ v = 54 ∨ v = 75 ∨ v = 95
theorem len_w {v : Nat} (h : isV v) : lenK KSx (v + 1) = 1024 := by rcases h with rfl | rfl | rfl | rfl <;> rfl
theorem len_l {v : Nat} (h : isV v) : lenK KSx (v + 2) = 256 := by rcases h with rfl | rfl | rfl | rfl <;> rfl
theorem x_copyWords {t0 t2 n0 n1 sp dp : Nat} (M : Mem) (e0 : lenK KSx t0 = n0) (e1 : lenK KSx t2 = n1) (h0 : sp + 8 ≤ n0) (h1 : dp + 8 ≤ n1) (hn0 : n0 ≤ 2000) (hn1 : n1 ≤ 2000) : f_X9_copyWords t0 (nI sp) t2 (nI dp) M = some (0, upA M t2 (fun k => if dp ≤ k ∧ k < dp + 8 then M t0 (sp + (k - dp)) else M t2 k)) := by
  unfold f_X9_copyWords
  have e8 : ix (8 : Int32) = 8 := rfl
  rw [e0, e1, if_pos ⟨nI_pos (by omega), nI_pos (by omega), by decide, by rw [ix_nI (by omega), e8]; exact h0, by rw [ix_nI (by omega), e8]; exact h1⟩, wrt_def]
  unfold cpy va_cpy
  rw [ix_nI (by omega), ix_nI (by omega), e8]
theorem x_lane {b r : Nat} : p_X9_lanePlace (nI b) (nI r) 0 = nI (8 * (4 * b + r)) := by
  unfold p_X9_lanePlace
  have e : (((nI b) * 4 + nI r) * 8) + 0 = nI ((b * 4 + r) * 8 + 0) := by
    rw [n4, n8, n0, pk_mul, nI_add, pk_mul, nI_add]
  rw [e]; congr 1; omega
theorem x_word {b r : Nat} : p_X9_wordPlace (nI b) (nI r) 0 = nI (8 * (16 * b + r)) := by
  unfold p_X9_wordPlace
  have e : (((nI b) * 16 + nI r) * 8) + 0 = nI ((b * 16 + r) * 8 + 0) := by
    rw [n16, n8, n0, pk_mul, nI_add, pk_mul, nI_add]
  rw [e]; congr 1; omega
theorem x_setLanes {v d : Nat} (M : Mem) (x : Int32) (hd : d + 8 ≤ 256) : f_X8_setLanes v (nI d) x M = some (0, upA M (v + 2) (fun j => if d ≤ j ∧ j < d + 8 then x else M (v + 2) j)) := by
  unfold f_X8_setLanes
  rw [← foldBlk (d := d) (n := 8) (F := fun k l => upd l (d + k) x) (G := fun _ => x) (a := M (v + 2)) (fun k hk a2 _ => rfl)]
  refine loop_run 8 (fun i => (nI i, upA M (v + 2) (foldN (fun k l => upd l (d + k) x) i (M (v + 2))))) (by rw [foldN_0, upA_self]; rfl) (by omega) (fun i hi K => ?_) (fun K => ?_)
  · simp only [l_X8_setLanes_2]
    rw [foldN_s]
    simp (disch := first | omega | decide) only [↓reduceIte, la, lm, ra, rm_, rs, ss, rr, rd, nI_add, pk_mul, zadd, Nat.zero_add, Nat.add_zero, ix_nI, inb_T, inb_F, le_T, le_F, lt_T, lt_F, lle_T, lle_F, rle_T, rle_F, llt_T, llt_F, rlt_T, rlt_F, eq_n, if_true, if_false, not_true_eq_false, not_false_eq_true, wrt_def, bnd_some, up_as, upA_upA, upA_eq, upA_ne, up_upA, upd_eq, upd_ne]
  · simp only [l_X8_setLanes_2]
    simp (disch := first | omega | decide) only [↓reduceIte, la, lm, ra, rm_, rs, ss, rr, rd, nI_add, pk_mul, zadd, Nat.zero_add, Nat.add_zero, ix_nI, inb_T, inb_F, le_T, le_F, lt_T, lt_F, lle_T, lle_F, rle_T, rle_F, llt_T, llt_F, rlt_T, rlt_F, eq_n, if_true, if_false, not_true_eq_false, not_false_eq_true, wrt_def, bnd_some, up_as, upA_upA, upA_eq, upA_ne, up_upA, upd_eq, upd_ne]
theorem x_combR {v pr nc w c d l r : Nat} (M : Mem) (hc : c < 60) (hn : nc ≤ 8) (hd : d + 8 ≤ 256) (hl : l + 8 ≤ 256) (hr : r + 8 ≤ 256) (h2 : M pr 2 = nI nc) (hpr : pr < v) (h6 : M (pr + 6) c = nI (15 + w)) (hw : w < 8) : f_X8_combineRegisters v pr (nI c) (nI d) (nI l) (nI r) M = some (0, upA M (v + 2) (foldN (fun k f => upd f (d + k) (jn w (f (l + k)) (f (r + k)))) nc (M (v + 2)))) := by
  unfold f_X8_combineRegisters
  simp (disch := first | omega | decide) only [↓reduceIte, la, lm, ra, rm_, rs, ss, rr, rd, nI_add, pk_mul, zadd, Nat.zero_add, Nat.add_zero, ix_nI, inb_T, inb_F, le_T, le_F, lt_T, lt_F, lle_T, lle_F, rle_T, rle_F, llt_T, llt_F, rlt_T, rlt_F, eq_n, if_true, if_false, not_true_eq_false, not_false_eq_true, wrt_def, bnd_some, up_as, upA_upA, upA_eq, upA_ne, up_upA, upd_eq, upd_ne, h6]
  refine loop_run nc (fun i => (nI i, upA M (v + 2) (foldN (fun k f => upd f (d + k) (jn w (f (l + k)) (f (r + k)))) i (M (v + 2))))) (by rw [foldN_0, upA_self]; rfl) (by omega) (fun i hi K => ?_) (fun K => ?_)
  · simp only [l_X8_combineRegisters_11]
    rw [foldN_s]
    simp (disch := first | omega | decide) only [↓reduceIte, la, lm, ra, rm_, rs, ss, rr, rd, nI_add, pk_mul, zadd, Nat.zero_add, Nat.add_zero, ix_nI, inb_T, inb_F, le_T, le_F, lt_T, lt_F, lle_T, lle_F, rle_T, rle_F, llt_T, llt_F, rlt_T, rlt_F, eq_n, if_true, if_false, not_true_eq_false, not_false_eq_true, wrt_def, bnd_some, up_as, upA_upA, upA_eq, upA_ne, up_upA, upd_eq, upd_ne, h2, comb_jn hw]
  · simp only [l_X8_combineRegisters_11]
    simp (disch := first | omega | decide) only [↓reduceIte, la, lm, ra, rm_, rs, ss, rr, rd, nI_add, pk_mul, zadd, Nat.zero_add, Nat.add_zero, ix_nI, inb_T, inb_F, le_T, le_F, lt_T, lt_F, lle_T, lle_F, rle_T, rle_F, llt_T, llt_F, rlt_T, rlt_F, eq_n, if_true, if_false, not_true_eq_false, not_false_eq_true, wrt_def, bnd_some, up_as, upA_upA, upA_eq, upA_ne, up_upA, upd_eq, upd_ne, h2]
theorem x_combL {v pr nc w c d : Nat} (M : Mem) (hc : c < 60) (hn : nc ≤ 8) (h1 : 1 ≤ nc) (hd : d + 8 ≤ 256) (h2 : M pr 2 = nI nc) (hpr : pr < v) (h6 : M (pr + 6) c = nI (15 + w)) (hw : w < 8) : f_X8_combineLanes v pr (nI c) (nI d) M = some (0, upA M (v + 2) (foldN (fun k f => upd f d (if k = 0 then f d else jn w (f d) (f (d + k)))) nc (M (v + 2)))) := by
  unfold f_X8_combineLanes
  simp (disch := first | omega | decide) only [↓reduceIte, la, lm, ra, rm_, rs, ss, rr, rd, nI_add, pk_mul, zadd, Nat.zero_add, Nat.add_zero, ix_nI, inb_T, inb_F, le_T, le_F, lt_T, lt_F, lle_T, lle_F, rle_T, rle_F, llt_T, llt_F, rlt_T, rlt_F, eq_n, if_true, if_false, not_true_eq_false, not_false_eq_true, wrt_def, bnd_some, up_as, upA_upA, upA_eq, upA_ne, up_upA, upd_eq, upd_ne, h6]
  refine loop_run (nc - 1) (fun i => (nI (1 + i), upA M (v + 2) (foldN (fun k f => upd f d (if k = 0 then f d else jn w (f d) (f (d + k)))) (1 + i) (M (v + 2))))) ?_ (by omega) (fun i hi K => ?_) (fun K => ?_)
  · rw [Nat.add_zero, foldN_s, foldN_0, if_pos rfl]
    have : upd (M (v + 2)) d (M (v + 2) d) = M (v + 2) := by
      funext j
      by_cases q : j = d
      · subst q; rw [upd_eq]
      · rw [upd_ne _ _ q]
    rw [this, upA_self]
    rfl
  · simp only [l_X8_combineLanes_11]
    rw [← Nat.add_assoc, foldN_s]
    simp (disch := first | omega | decide) only [↓reduceIte, la, lm, ra, rm_, rs, ss, rr, rd, nI_add, pk_mul, zadd, Nat.zero_add, Nat.add_zero, ix_nI, inb_T, inb_F, le_T, le_F, lt_T, lt_F, lle_T, lle_F, rle_T, rle_F, llt_T, llt_F, rlt_T, rlt_F, eq_n, if_true, if_false, not_true_eq_false, not_false_eq_true, wrt_def, bnd_some, up_as, upA_upA, upA_eq, upA_ne, up_upA, upd_eq, upd_ne, h2, comb_jn hw]
    rw [if_neg (show ¬ 1 + i = 0 by omega)]
  · simp only [l_X8_combineLanes_11]
    have e : 1 + (nc - 1) = nc := by omega
    rw [e]
    simp (disch := first | omega | decide) only [↓reduceIte, la, lm, ra, rm_, rs, ss, rr, rd, nI_add, pk_mul, zadd, Nat.zero_add, Nat.add_zero, ix_nI, inb_T, inb_F, le_T, le_F, lt_T, lt_F, lle_T, lle_F, rle_T, rle_F, llt_T, llt_F, rlt_T, rlt_F, eq_n, if_true, if_false, not_true_eq_false, not_false_eq_true, wrt_def, bnd_some, up_as, upA_upA, upA_eq, upA_ne, up_upA, upd_eq, upd_ne, h2]
