/-! ===== PURE PART: no machine any more, only the pure functions ===== -/
theorem ix_nI {k : Nat} (h : k < 2147483648) : ix (nI k) = k := nI_clamp h
theorem inb_T {k n : Nat} (h : k < n) (hn : n < 2147483648) : (inb (nI k) n) = True := eq_true (vp_in_nI h hn)
theorem inb_F {k n : Nat} (h : n ≤ k) (hk : k < 2147483648) : (inb (nI k) n) = False := by
  refine eq_false (fun q => q (Or.inr ?_))
  rw [ix_nI hk]; exact h
theorem up_eq (M : Mem) (a i : Nat) (x : Int32) : up M a i x a i = x := by simp [up]
theorem up_i (M : Mem) {a i j : Nat} (x : Int32) (h : j ≠ i) : up M a i x a j = M a j := by simp [up, h]
theorem up_a (M : Mem) {a b : Nat} (i : Nat) (x : Int32) (h : b ≠ a) : up M a i x b = M b := by funext j; simp [up, h]
theorem up_row (M : Mem) (a i : Nat) (x : Int32) : up M a i x a = upd (M a) i x := by funext j; simp [up, upd]
theorem upA_eq (M : Mem) (a : Nat) (f : Nat → Int32) : upA M a f a = f := by funext j; simp [upA]
theorem upA_ne (M : Mem) {a b : Nat} (f : Nat → Int32) (h : b ≠ a) : upA M a f b = M b := by funext j; simp [upA, h]
theorem upA_upA (M : Mem) (a : Nat) (f g : Nat → Int32) : upA (upA M a f) a g = upA M a g := by
  funext b j; by_cases h : b = a <;> simp [upA, h]
theorem upA_self (M : Mem) (a : Nat) : upA M a (M a) = M := by
  funext b j; by_cases h : b = a <;> simp [upA, h]
theorem up_upA (M : Mem) (a : Nat) (f : Nat → Int32) (i : Nat) (x : Int32) : up (upA M a f) a i x = upA M a (upd f i x) := by
  rw [up_A, upA_upA, upA_eq]
theorem up_as (M : Mem) (a i : Nat) (x : Int32) : up M a i x = upA M a (upd (M a) i x) := up_A M a i x
theorem upA_comm (M : Mem) {a b : Nat} (f g : Nat → Int32) (h : a ≠ b) : upA (upA M a f) b g = upA (upA M b g) a f := by
  funext c j
  by_cases h1 : c = a
  · subst h1; simp [upA, h]
  · by_cases h2 : c = b
    · subst h2; simp [upA, h1]
    · simp [upA, h1, h2]
theorem upd_eq (f : Nat → Int32) (i : Nat) (x : Int32) : upd f i x i = x := by simp [upd]
theorem upd_ne (f : Nat → Int32) {i j : Nat} (x : Int32) (h : j ≠ i) : upd f i x j = f j := by simp [upd, h]
theorem upd_comm (f : Nat → Int32) {i j : Nat} (x y : Int32) (h : i ≠ j) : upd (upd f i x) j y = upd (upd f j y) i x := by
  funext k
  by_cases h1 : k = i
  · subst h1; simp [upd, h]
  · by_cases h2 : k = j
    · subst h2; simp [upd, h1]
    · simp [upd, h1, h2]
theorem wrt_def {α : Type} (M : Mem) (k : Mem → Option α) : wrt M k = k M := rfl
/-- a counted loop, by the sequence of its states -/
theorem loop_run {σ ρ : Type} {body : (σ → Option ρ) → σ → Option ρ} (n : Nat) (s : Nat → σ) {init : σ} {r : Option ρ} (hs : init = s 0) (hn : n < 9999) (h : ∀ i, i < n → ∀ K : σ → Option ρ, body K (s i) = K (s (i + 1))) (hx : ∀ K : σ → Option ρ, body K (s n) = r) : loopC body fuelL init = r := by
  subst hs
  have key : ∀ m k, k ≤ n → n - k < m → loopC body m (s k) = r := by
    intro m
    induction m with
    | zero => intro k _ hm; omega
    | succ m ih =>
      intro k hk hm
      show body (loopC body m) (s k) = r
      by_cases e : k = n
      · subst e; exact hx _
      · rw [h k (by omega)]
        exact ih (k + 1) (by omega) (by omega)
  exact key fuelL 0 (Nat.zero_le _) (by show n - 0 < 10000; omega)
/-- what a counted loop makes, round by round -/
def foldN {α : Type} (f : Nat → α → α) : Nat → α → α
  | 0, s => s
  | n + 1, s => f n (foldN f n s)
theorem foldN_0 {α : Type} (f : Nat → α → α) (s : α) : foldN f 0 s = s := rfl
theorem foldN_s {α : Type} (f : Nat → α → α) (n : Nat) (s : α) : foldN f (n + 1) s = f n (foldN f n s) := rfl
theorem foldN_congr {α : Type} {f g : Nat → α → α} {n : Nat} (h : ∀ i, i < n → ∀ s, f i s = g i s) (s : α) : foldN f n s = foldN g n s := by
  induction n with
  | zero => rfl
  | succ n ih => rw [foldN_s, foldN_s, ih (fun i hi => h i (Nat.lt_succ_of_lt hi)), h n (Nat.lt_succ_self n)]
/-- rounds that change nothing may be left out at the end -/
theorem foldN_tail {α : Type} {f : Nat → α → α} {n m : Nat} (hm : n ≤ m) (P : α → Prop) (s : α) (hP : P (foldN f n s)) (h : ∀ i, n ≤ i → i < m → ∀ t, P t → f i t = t) : foldN f m s = foldN f n s := by
  induction m with
  | zero => rw [Nat.le_zero.mp hm]
  | succ m ih =>
    by_cases e : n = m + 1
    · rw [e]
    · rw [foldN_s, ih (by omega) (fun i h1 h2 => h i h1 (by omega)), h m (by omega) (Nat.lt_succ_self m) _ hP]
theorem foldN_inv {α : Type} {f : Nat → α → α} {n : Nat} (P : α → Prop) (s : α) (h0 : P s) (h : ∀ i, i < n → ∀ t, P t → P (f i t)) : P (foldN f n s) := by
  induction n with
  | zero => exact h0
  | succ n ih => exact h n (Nat.lt_succ_self n) _ (ih (fun i hi => h i (Nat.lt_succ_of_lt hi)))
/-! numbers -/
theorem i32_le {x y : Int32} : x ≤ y ↔ x.toInt ≤ y.toInt := Int32.le_iff_toInt_le
theorem i32_lt {x y : Int32} : x < y ↔ x.toInt < y.toInt := Int32.lt_iff_toInt_lt
theorem i32_ext {x y : Int32} (h : x.toInt = y.toInt) : x = y := Int32.toInt_inj.mp h
theorem i32_nlt {x y : Int32} : ¬ x < y ↔ y ≤ x := Int32.not_lt
theorem i32_nle {x y : Int32} : ¬ x ≤ y ↔ y < x := Int32.not_le
/-- the greater one -/
def mx (x y : Int32) : Int32 := if x ≤ y then y else x
theorem imax_mx (x y : Int32) : imax x y = mx x y := by
  unfold imax mx
  by_cases h : x < y
  · rw [if_pos h, if_pos (Int32.le_of_lt h)]
  · rw [if_neg h]
    by_cases h2 : x ≤ y
    · rw [if_pos h2]
      exact Int32.le_antisymm h2 (i32_nlt.mp h)
    · rw [if_neg h2]
theorem great_mx (x y : Int32) : p_X10_greater x y = mx x y := rfl
theorem mx_toInt (x y : Int32) : (mx x y).toInt = max x.toInt y.toInt := by
  unfold mx
  by_cases h : x ≤ y
  · rw [if_pos h]; have := i32_le.mp h; omega
  · rw [if_neg h]; have := i32_lt.mp (i32_nle.mp h); omega
theorem nn_ix {x : Int32} (h : ¬ x < 0) : x = nI (ix x) ∧ ix x < 2147483648 := by
  obtain ⟨j, h1, rfl⟩ := nI_of h
  have h2 : ix (nI j) = j := ix_nI h1
  rw [h2]
  exact ⟨rfl, h1⟩
theorem ix_lt (x : Int32) : ix x < 2147483648 := by
  have h1 : x.toInt < 2147483648 := Int32.toInt_lt x
  show x.toInt.toNat < 2147483648
  omega
/-! numerals -/
theorem n0 : (0 : Int32) = nI 0 := rfl
theorem n1 : (1 : Int32) = nI 1 := rfl
theorem n2 : (2 : Int32) = nI 2 := rfl
theorem n3 : (3 : Int32) = nI 3 := rfl
theorem n4 : (4 : Int32) = nI 4 := rfl
theorem n5 : (5 : Int32) = nI 5 := rfl
theorem n6 : (6 : Int32) = nI 6 := rfl
theorem n7 : (7 : Int32) = nI 7 := rfl
theorem n8 : (8 : Int32) = nI 8 := rfl
theorem n11 : (11 : Int32) = nI 11 := rfl
theorem n14 : (14 : Int32) = nI 14 := rfl
theorem n16 : (16 : Int32) = nI 16 := rfl
theorem n40 : (40 : Int32) = nI 40 := rfl
theorem n48 : (48 : Int32) = nI 48 := rfl
theorem n50 : (50 : Int32) = nI 50 := rfl
theorem n56 : (56 : Int32) = nI 56 := rfl
theorem n120 : (120 : Int32) = nI 120 := rfl
theorem n152 : (152 : Int32) = nI 152 := rfl
theorem n160 : (160 : Int32) = nI 160 := rfl
theorem n1184 : (1184 : Int32) = nI 1184 := rfl
theorem n1441 : (1441 : Int32) = nI 1441 := rfl
theorem n1458 : (1458 : Int32) = nI 1458 := rfl
theorem n1579 : (1579 : Int32) = nI 1579 := rfl
theorem n1667 : (1667 : Int32) = nI 1667 := rfl
theorem n1671 : (1671 : Int32) = nI 1671 := rfl
theorem rem_nI {a d : Nat} (ha : a < 2147483648) (h0 : 0 < d) (hd : d < 2147483648) : jrem (nI a) (nI d) = nI (a % d) := pk_rem ha h0 hd
theorem div_nI {a d : Nat} (ha : a < 2147483648) (h0 : 0 < d) (hd : d < 2147483648) : nI a / nI d = nI (a / d) := pk_div ha h0 hd
theorem zadd (x : Int32) : 0 + x = x := Int32.zero_add x
/-! index arithmetic, for simp (disch := omega) -/
theorem la (n k : Nat) : (no_index (OfNat.ofNat n : Int32)) + nI k = nI ((OfNat.ofNat n : Nat) + k) := nI_add n k
theorem lm (n k : Nat) : (no_index (OfNat.ofNat n : Int32)) * nI k = nI ((OfNat.ofNat n : Nat) * k) := pk_mul n k
theorem ra (n k : Nat) : nI k + (no_index (OfNat.ofNat n : Int32)) = nI (k + (OfNat.ofNat n : Nat)) := nI_add k n
theorem rm_ (n k : Nat) : nI k * (no_index (OfNat.ofNat n : Int32)) = nI (k * (OfNat.ofNat n : Nat)) := pk_mul k n
theorem rs (n k : Nat) (h : (OfNat.ofNat n : Nat) ≤ k) : nI k - (no_index (OfNat.ofNat n : Int32)) = nI (k - (OfNat.ofNat n : Nat)) := pk_sub h
theorem ss {a b : Nat} (h : b ≤ a) : nI a - nI b = nI (a - b) := pk_sub h
theorem rr (n k : Nat) (hk : k < 2147483648) (h0 : 0 < (OfNat.ofNat n : Nat)) (hn : (OfNat.ofNat n : Nat) < 2147483648) : jrem (nI k) (no_index (OfNat.ofNat n : Int32)) = nI (k % (OfNat.ofNat n : Nat)) := rem_nI hk h0 hn
theorem rd (n k : Nat) (hk : k < 2147483648) (h0 : 0 < (OfNat.ofNat n : Nat)) (hn : (OfNat.ofNat n : Nat) < 2147483648) : nI k / (no_index (OfNat.ofNat n : Int32)) = nI (k / (OfNat.ofNat n : Nat)) := div_nI hk h0 hn
theorem le_T {a b : Nat} (h : a ≤ b) (hb : b < 2147483648) : (nI a ≤ nI b) = True := eq_true (nI_le h hb)
theorem le_F {a b : Nat} (h : b < a) (ha : a < 2147483648) : (nI a ≤ nI b) = False := eq_false (nI_ge h ha)
theorem lt_T {a b : Nat} (h : a < b) (hb : b < 2147483648) : (nI a < nI b) = True := eq_true (nI_lt h hb)
theorem lt_F {a b : Nat} (h : b ≤ a) (ha : a < 2147483648) : (nI a < nI b) = False := eq_false (nI_nlt h ha)
theorem lle_T (n : Nat) {b : Nat} (h : (OfNat.ofNat n : Nat) ≤ b) (hb : b < 2147483648) : ((no_index (OfNat.ofNat n : Int32)) ≤ nI b) = True := eq_true (nI_le (a := n) h hb)
theorem lle_F (n : Nat) {b : Nat} (h : b < (OfNat.ofNat n : Nat)) (hn : (OfNat.ofNat n : Nat) < 2147483648) : ((no_index (OfNat.ofNat n : Int32)) ≤ nI b) = False := eq_false (nI_ge (b := n) h hn)
theorem rle_T (n : Nat) {a : Nat} (h : a ≤ (OfNat.ofNat n : Nat)) (hn : (OfNat.ofNat n : Nat) < 2147483648) : (nI a ≤ (no_index (OfNat.ofNat n : Int32))) = True := eq_true (nI_le (b := n) h hn)
theorem rle_F (n : Nat) {a : Nat} (h : (OfNat.ofNat n : Nat) < a) (ha : a < 2147483648) : (nI a ≤ (no_index (OfNat.ofNat n : Int32))) = False := eq_false (nI_ge (a := n) h ha)
theorem llt_T (n : Nat) {b : Nat} (h : (OfNat.ofNat n : Nat) < b) (hb : b < 2147483648) : ((no_index (OfNat.ofNat n : Int32)) < nI b) = True := eq_true (nI_lt (a := n) h hb)
theorem llt_F (n : Nat) {b : Nat} (h : b ≤ (OfNat.ofNat n : Nat)) (hn : (OfNat.ofNat n : Nat) < 2147483648) : ((no_index (OfNat.ofNat n : Int32)) < nI b) = False := eq_false (nI_nlt (a := n) h hn)
theorem rlt_T (n : Nat) {a : Nat} (h : a < (OfNat.ofNat n : Nat)) (hn : (OfNat.ofNat n : Nat) < 2147483648) : (nI a < (no_index (OfNat.ofNat n : Int32))) = True := eq_true (nI_lt (b := n) h hn)
theorem rlt_F (n : Nat) {a : Nat} (h : (OfNat.ofNat n : Nat) ≤ a) (ha : a < 2147483648) : (nI a < (no_index (OfNat.ofNat n : Int32))) = False := eq_false (nI_nlt (b := n) h ha)
theorem eq_n (n : Nat) {a : Nat} (ha : a < 2147483648) (hn : (OfNat.ofNat n : Nat) < 2147483648) : (nI a = (no_index (OfNat.ofNat n : Int32))) = (a = (OfNat.ofNat n : Nat)) := propext (nI_eq (b := n) ha hn)
/-! the reference's reading of its program -/
theorem m_told (M : Mem) {c k : Nat} (hc : c < 60) (hk : k < 4) : f_X10_told (nI c) (nI k) M = some (M 5 (50 + 4 * c + k), M) := by
  unfold f_X10_told
  rw [n50, n4, pk_mul, nI_add, nI_add, if_pos (of_eq_true (inb_T (by omega) (by omega))), ix_nI (by omega)]
theorem m_kindOf (M : Mem) {c : Nat} (hc : c < 60) : f_X10_kindOf (nI c) M = some (jrem (M 5 (50 + 4 * c)) 8, M) := by
  unfold f_X10_kindOf
  rw [n0, m_told M hc (by omega), bnd_some]; rfl
theorem m_wayOf (M : Mem) {c : Nat} (hc : c < 60) : f_X10_wayOf (nI c) M = some (M 5 (50 + 4 * c) / 8, M) := by
  unfold f_X10_wayOf
  rw [n0, m_told M hc (by omega), bnd_some]; rfl
theorem m_banksOf (M : Mem) {b : Nat} (hb : b < 12) : f_X10_banksOf (nI b) M = some (M 5 (14 + 3 * b), M) := by
  unfold f_X10_banksOf
  rw [n14, n3, pk_mul, nI_add, if_pos (of_eq_true (inb_T (by omega) (by omega))), ix_nI (by omega)]
theorem m_firstOf (M : Mem) {b : Nat} (hb : b < 12) : f_X10_firstOf (nI b) M = some (M 5 (14 + 3 * b + 1), M) := by
  unfold f_X10_firstOf
  rw [n14, n3, n1, pk_mul, nI_add, nI_add, if_pos (of_eq_true (inb_T (by omega) (by omega))), ix_nI (by omega)]
theorem m_endOf (M : Mem) {b : Nat} (hb : b < 12) : f_X10_endOf (nI b) M = some (M 5 (14 + 3 * b + 1) + M 5 (14 + 3 * b + 2), M) := by
  unfold f_X10_endOf
  rw [m_firstOf M hb, bnd_some, n14, n3, n2, pk_mul, nI_add, nI_add, if_pos (of_eq_true (inb_T (by omega) (by omega))), ix_nI (by omega)]
theorem m_readyOf (M : Mem) {b r : Nat} (hb : b < 8) (hr : r < 4) : f_X10_readyOf (nI b) (nI r) M = some (M 1 (8 + 4 * b + r), M) := by
  unfold f_X10_readyOf
  rw [n8, n4, pk_mul, nI_add, nI_add, if_pos (of_eq_true (inb_T (by omega) (by omega))), ix_nI (by omega)]
theorem m_stalls (M : Mem) {b k : Nat} (x : Int32) (hb : b < 8) (hk : k < 4) : f_X10_stalls (nI b) (nI k) x M = some (0, upA M 1 (upd (M 1) (120 + 4 * b + k) (M 1 (120 + 4 * b + k) + x))) := by
  unfold f_X10_stalls
  rw [n120, n4, pk_mul, nI_add, nI_add, if_pos (of_eq_true (inb_T (by omega) (by omega))), if_pos (of_eq_true (inb_T (by omega) (by omega))), ix_nI (by omega), wrt_def, up_as]
/-- whether a bank is in a set -/
def bit (s : Int32) (b : Nat) : Bool := decide (¬ (s >>> (nI b &&& 31)) &&& 1 = 0)
theorem and1 (x : Int32) : x &&& 1 = 0 ∨ x &&& 1 = 1 := by
  obtain ⟨j, h1, h2⟩ := pk_andE x (m := 1) 1 (by decide)
  rcases (show j = 0 ∨ j = 1 by omega) with rfl | rfl
  · exact Or.inl h2
  · exact Or.inr h2
theorem bit_1 {s : Int32} {b : Nat} (h : bit s b = true) : (s >>> (nI b &&& 31)) &&& 1 = 1 := by
  rcases and1 (s >>> (nI b &&& 31)) with q | q
  · exact absurd q (of_decide_eq_true h)
  · exact q
theorem bit_0 {s : Int32} {b : Nat} (h : ¬ bit s b = true) : (s >>> (nI b &&& 31)) &&& 1 = 0 := Classical.byContradiction (fun q => h (decide_eq_true q))
theorem has_t {s : Int32} {b : Nat} (h : bit s b = true) : ¬ p_X10_has s (nI b) = 0 := by
  unfold p_X10_has
  rw [if_neg (fun z => z (bit_1 h))]; decide
theorem has_f {s : Int32} {b : Nat} (h : ¬ bit s b = true) : ¬ ¬ p_X10_has s (nI b) = 0 := by
  unfold p_X10_has
  rw [if_pos (by rw [bit_0 h]; decide)]
  exact fun z => z rfl
theorem in_t {s : Int32} {b : Nat} (h : bit s b = true) : ¬ p_X9_isIn (nI b) s = 0 := by
  unfold p_X9_isIn
  rw [if_neg (by rw [bit_1 h]; decide)]; decide
theorem in_f {s : Int32} {b : Nat} (h : ¬ bit s b = true) : p_X9_isIn (nI b) s = 0 := by
  unfold p_X9_isIn
  rw [if_pos (bit_0 h)]
