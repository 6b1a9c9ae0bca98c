/-! ===== the class's cache and the reference's ===== -/
theorem cl_ne {i j k m : Nat} (hk : k < 11) (hm : m < 11) (h : ¬ (i = j ∧ k = m)) : cl i k ≠ cl j m := by unfold cl; omega
theorem go_cl {a : Nat → Int32} {i n j k : Nat} (h8 : n ≤ 8) (hi : i < n) (hj : j < n - 1) (hk : k < 11) : goA a i n (cl j k) = a (cl (if j < i then j else j + 1) k) := by
  unfold goA shA
  by_cases q : j < i
  · rw [if_pos q, if_neg (by unfold cl; omega), upd_ne _ _ (by unfold cl; omega)]
  · rw [if_neg q, if_pos (by unfold cl; omega), upd_ne _ _ (by unfold cl; omega)]
    congr 1; unfold cl; omega
theorem go_hi {a : Nat → Int32} {i n j : Nat} (h8 : n ≤ 8) (hi : i < n) (hj : j < 1578 ∨ 1667 ≤ j) : goA a i n j = a j := by
  unfold goA shA
  rw [if_neg (by unfold cl; omega), upd_ne _ _ (by omega)]
theorem go_78 {a : Nat → Int32} {i n : Nat} : goA a i n 1578 = nI (n - 1) := by
  unfold goA shA
  rw [if_neg (by unfold cl; omega), upd_eq]
def rho (i n j : Nat) : Nat := if j = n - 1 then i else if j < i then j else j + 1
theorem ro_cl {a : Nat → Int32} {i n j k : Nat} (h8 : n ≤ 8) (hi : i < n) (hj : j < n) (hk : k < 11) : roA a i n (cl j k) = a (cl (rho i n j) k) := by
  unfold roA shA rho
  by_cases q : j = n - 1
  · rw [if_pos q, if_pos (by unfold cl; omega)]
    congr 1; unfold cl; omega
  · rw [if_neg q, if_neg (by unfold cl; omega)]
    by_cases q2 : j < i
    · rw [if_pos q2, if_neg (by unfold cl; omega)]
    · rw [if_neg q2, if_pos (by unfold cl; omega)]
      congr 1; unfold cl; omega
theorem ro_hi {a : Nat → Int32} {i n j : Nat} (h8 : n ≤ 8) (hi : i < n) (hj : j < 1579 ∨ 1667 ≤ j) : roA a i n j = a j := by
  unfold roA shA
  rw [if_neg (by unfold cl; omega), if_neg (by unfold cl; omega)]
theorem co_cl {a : Nat → Int32} {n b r nc j k : Nat} (h8 : n < 8) (hc : nc ≤ 8) (hj : j < n) (hk : k < 11) : coA a n b r nc (cl j k) = a (cl j k) := by
  unfold coA
  rw [upd_ne _ _ (by unfold cl; omega)]
  show (if _ then _ else _) = _
  rw [if_neg (by unfold cl; omega), upd_ne _ _ (by unfold cl; omega), upd_ne _ _ (by unfold cl; omega), upd_ne _ _ (by unfold cl; omega)]
theorem co_hi {a : Nat → Int32} {n b r nc j : Nat} (h8 : n < 8) (hc : nc ≤ 8) (hj : j < 1578 ∨ 1667 ≤ j) : coA a n b r nc j = a j := by
  unfold coA
  rw [upd_ne _ _ (by omega)]
  show (if _ then _ else _) = _
  rw [if_neg (by unfold cl; omega), upd_ne _ _ (by unfold cl; omega), upd_ne _ _ (by unfold cl; omega), upd_ne _ _ (by unfold cl; omega)]
theorem co_new {a : Nat → Int32} {n b r nc : Nat} (h8 : n < 8) (hc : nc ≤ 8) : coA a n b r nc (cl n 0) = nI b ∧ coA a n b r nc (cl n 1) = nI r ∧ coA a n b r nc (cl n 2) = 0 ∧ (∀ k, k < nc → coA a n b r nc (cl n (3 + k)) = a (wdP b r k)) ∧ coA a n b r nc 1578 = nI (n + 1) := by
  unfold coA
  refine ⟨?_, ?_, ?_, fun k hk => ?_, upd_eq _ _ _⟩
  · rw [upd_ne _ _ (by unfold cl; omega)]
    show (if _ then _ else _) = _
    rw [if_neg (by unfold cl; omega), upd_ne _ _ (by unfold cl; omega), upd_ne _ _ (by unfold cl; omega), upd_eq]
  · rw [upd_ne _ _ (by unfold cl; omega)]
    show (if _ then _ else _) = _
    rw [if_neg (by unfold cl; omega), upd_ne _ _ (by unfold cl; omega), upd_eq]
  · rw [upd_ne _ _ (by unfold cl; omega)]
    show (if _ then _ else _) = _
    rw [if_neg (by unfold cl; omega), upd_eq]
  · rw [upd_ne _ _ (by unfold cl; omega)]
    show (if _ then _ else _) = _
    rw [if_pos (by unfold cl; omega)]
    congr 1; unfold wdP cl; omega
theorem ca_cl {a : Nat → Int32} {i b r nc j k : Nat} (hb : b < 8) (hr : r < 16) (hc : nc ≤ 8) (hj : j < 8) (hk : k < 11) : clA a i b r nc (cl j k) = if j = i ∧ k = 2 then 0 else a (cl j k) := by
  unfold clA
  rw [upd_ne _ _ (by unfold cl; omega)]
  by_cases q : j = i ∧ k = 2
  · rw [if_pos q, q.1, q.2, upd_eq]
  · rw [if_neg q, upd_ne _ _ (cl_ne hk (by decide) q)]
    show (if _ then _ else _) = _
    rw [if_neg (by unfold cl wdP; omega)]
theorem ca_hi {a : Nat → Int32} {i b r nc j : Nat} (hi : i < 8) (hb : b < 8) (hr : r < 16) (hc : nc ≤ 8) (hj : j < 160 ∨ 1184 ≤ j ∧ j < 1579 ∨ 1667 ≤ j ∧ j ≠ 1669) : clA a i b r nc j = a j := by
  unfold clA
  rw [upd_ne _ _ (by omega), upd_ne _ _ (by unfold cl; omega)]
  show (if _ then _ else _) = _
  rw [if_neg (by unfold wdP; omega)]
theorem ca_69 {a : Nat → Int32} {i b r nc : Nat} : clA a i b r nc 1669 = a 1669 + 1 := upd_eq _ _ _
theorem ca_w {a : Nat → Int32} {i b r nc j : Nat} (hi : i < 8) (hj : j < 1024) : clA a i b r nc (160 + j) = if 8 * (16 * b + r) ≤ j ∧ j < 8 * (16 * b + r) + nc then a (cl i (3 + (j - 8 * (16 * b + r)))) else a (160 + j) := by
  unfold clA
  rw [upd_ne _ _ (by omega), upd_ne _ _ (by unfold cl; omega)]
  show (if _ then _ else _) = _
  by_cases q : 8 * (16 * b + r) ≤ j ∧ j < 8 * (16 * b + r) + nc
  · rw [if_pos q, if_pos (by unfold wdP; omega)]
    congr 1; unfold cl wdP; omega
  · rw [if_neg q, if_neg (by unfold wdP; omega)]
/-- the class's line lx is the reference's line i -/
def LR (nc : Nat) (M : Mem) (q lx : Nat) (a : Nat → Int32) (i : Nat) : Prop := ∃ b r, b < 8 ∧ r < 16 ∧ isL a b r i ∧ M (q + 1) lx = nI (16 * b + r) ∧ M (q + 2) lx = a (cl i 2) ∧ (a (cl i 2) = 0 ∨ a (cl i 2) = 1) ∧ ∀ k, k < nc → M (q + 4) (8 * lx + k) = a (cl i (3 + k))
/-- the class's cache q is the reference's: n lines, in the class's places l, oldest first, times until T -/
def RC (nc : Nat) (M : Mem) (q : Nat) (a : Nat → Int32) (n : Nat) (l : Nat → Nat) (T : Nat) : Prop := (a 1578 = nI n) ∧ (n ≤ 8) ∧ (∀ i, i < n → l i < 8) ∧ (∀ i, i < n → LR nc M q (l i) a i) ∧ (∀ i j, i < j → j < n → M (q + 3) (l i) < M (q + 3) (l j)) ∧ (∀ i, i < n → M (q + 3) (l i) ≤ nI T) ∧ (∀ j, j < 8 → ¬ M (q + 1) j = -1 → ∃ i, i < n ∧ l i = j) ∧ (∀ i j, i < j → j < n → ¬ M (q + 1) (l i) = M (q + 1) (l j)) ∧ (M q 4 = a 1667) ∧ (M q 5 = a 1668) ∧ (M q 6 = a 1669) ∧ (a 1667 + a 1668 = nI T)
theorem RC.cnt {nc : Nat} {M : Mem} {q : Nat} {a : Nat → Int32} {n : Nat} {l : Nat → Nat} {T : Nat} (h : RC nc M q a n l T) : a 1578 = nI n := h.1
theorem RC.n8 {nc : Nat} {M : Mem} {q : Nat} {a : Nat → Int32} {n : Nat} {l : Nat → Nat} {T : Nat} (h : RC nc M q a n l T) : n ≤ 8 := h.2.1
theorem RC.l8 {nc : Nat} {M : Mem} {q : Nat} {a : Nat → Int32} {n : Nat} {l : Nat → Nat} {T : Nat} (h : RC nc M q a n l T) : ∀ i, i < n → l i < 8 := h.2.2.1
theorem RC.line {nc : Nat} {M : Mem} {q : Nat} {a : Nat → Int32} {n : Nat} {l : Nat → Nat} {T : Nat} (h : RC nc M q a n l T) : ∀ i, i < n → LR nc M q (l i) a i := h.2.2.2.1
theorem RC.ord {nc : Nat} {M : Mem} {q : Nat} {a : Nat → Int32} {n : Nat} {l : Nat → Nat} {T : Nat} (h : RC nc M q a n l T) : ∀ i j, i < j → j < n → M (q + 3) (l i) < M (q + 3) (l j) := h.2.2.2.2.1
theorem RC.top {nc : Nat} {M : Mem} {q : Nat} {a : Nat → Int32} {n : Nat} {l : Nat → Nat} {T : Nat} (h : RC nc M q a n l T) : ∀ i, i < n → M (q + 3) (l i) ≤ nI T := h.2.2.2.2.2.1
theorem RC.cov {nc : Nat} {M : Mem} {q : Nat} {a : Nat → Int32} {n : Nat} {l : Nat → Nat} {T : Nat} (h : RC nc M q a n l T) : ∀ j, j < 8 → ¬ M (q + 1) j = -1 → ∃ i, i < n ∧ l i = j := h.2.2.2.2.2.2.1
theorem RC.dist {nc : Nat} {M : Mem} {q : Nat} {a : Nat → Int32} {n : Nat} {l : Nat → Nat} {T : Nat} (h : RC nc M q a n l T) : ∀ i j, i < j → j < n → ¬ M (q + 1) (l i) = M (q + 1) (l j) := h.2.2.2.2.2.2.2.1
theorem RC.hit {nc : Nat} {M : Mem} {q : Nat} {a : Nat → Int32} {n : Nat} {l : Nat → Nat} {T : Nat} (h : RC nc M q a n l T) : M q 4 = a 1667 := h.2.2.2.2.2.2.2.2.1
theorem RC.mis {nc : Nat} {M : Mem} {q : Nat} {a : Nat → Int32} {n : Nat} {l : Nat → Nat} {T : Nat} (h : RC nc M q a n l T) : M q 5 = a 1668 := h.2.2.2.2.2.2.2.2.2.1
theorem RC.wrb {nc : Nat} {M : Mem} {q : Nat} {a : Nat → Int32} {n : Nat} {l : Nat → Nat} {T : Nat} (h : RC nc M q a n l T) : M q 6 = a 1669 := h.2.2.2.2.2.2.2.2.2.2.1
theorem RC.sum {nc : Nat} {M : Mem} {q : Nat} {a : Nat → Int32} {n : Nat} {l : Nat → Nat} {T : Nat} (h : RC nc M q a n l T) : a 1667 + a 1668 = nI T := h.2.2.2.2.2.2.2.2.2.2.2
theorem RC.inj {nc : Nat} {M : Mem} {q : Nat} {a : Nat → Int32} {n : Nat} {l : Nat → Nat} {T : Nat} (h : RC nc M q a n l T) {i j : Nat} (hi : i < n) (hj : j < n) (e : l i = l j) : i = j := by
  rcases Nat.lt_trichotomy i j with z | z | z
  · have := h.ord i j z hj; rw [e] at this; exact absurd this (fun y => Int32.lt_irrefl y)
  · exact z
  · have := h.ord j i z hi; rw [e] at this; exact absurd this (fun y => Int32.lt_irrefl y)
theorem LR.used {nc : Nat} {M : Mem} {q lx : Nat} {a : Nat → Int32} {i : Nat} (h : LR nc M q lx a i) : ¬ M (q + 1) lx = -1 := by
  obtain ⟨b, r, hb, hr, -, e, -⟩ := h
  rw [e]; exact ne_m1 (by omega)
/-- the row of a line, both ways -/
theorem RC.key {nc : Nat} {M : Mem} {q : Nat} {a : Nat → Int32} {n : Nat} {l : Nat → Nat} {T : Nat} (h : RC nc M q a n l T) {i b r : Nat} (hi : i < n) (hb : b < 8) (hr : r < 16) : isL a b r i ↔ M (q + 1) (l i) = nI (16 * b + r) := by
  obtain ⟨b2, r2, hb2, hr2, hL, e, -⟩ := h.line i hi
  constructor
  · intro z
    have e1 : b2 = b := by have := hL.1.symm.trans z.1; exact (nI_eq (by omega) (by omega)).mp this
    have e2 : r2 = r := by have := hL.2.symm.trans z.2; exact (nI_eq (by omega) (by omega)).mp this
    rw [e, e1, e2]
  · intro z
    rw [e] at z
    have := (nI_eq (by omega) (by omega)).mp z
    have e1 : b2 = b := by omega
    have e2 : r2 = r := by omega
    rw [← e1, ← e2]; exact hL
theorem RC.found {nc : Nat} {M Mm : Mem} {q : Nat} {n : Nat} {l : Nat → Nat} {T : Nat} (h : RC nc M q (Mm 1) n l T) {i b r : Nat} (hi : i < n) (hb : b < 8) (hr : r < 16) (hL : isL (Mm 1) b r i) : f_X1_lineOf q (nI b) (nI r) M = some (nI (l i), M) ∧ f_X10_lineOf (nI b) (nI r) Mm = some (nI i, Mm) := by
  have hk := (h.key hi hb hr).mp hL
  constructor
  · unfold f_X1_lineOf
    have e : nI b * 16 + nI r = nI (16 * b + r) := by rw [n16, pk_mul, nI_add, Nat.mul_comm]
    rw [e, x_lw (h.l8 i hi) hk, bnd_some]
    intro j hj z
    have hz : ¬ M (q + 1) j = -1 := by rw [z]; exact ne_m1 (by omega)
    obtain ⟨i2, hi2, e2⟩ := h.cov j (by have := h.l8 i hi; omega) hz
    have hne : i2 ≠ i := by intro y; subst y; omega
    rw [← e2] at z
    rcases Nat.lt_trichotomy i i2 with y | y | y
    · exact h.dist i i2 y hi2 (by rw [hk, z])
    · exact hne y.symm
    · exact h.dist i2 i y hi (by rw [hk, z])
  · refine m_lineOf h.cnt h.n8 hi hL (fun j hj z => ?_)
    have := (h.key (show j < n by omega) hb hr).mp z
    exact h.dist j i hj hi (by rw [this, hk])
theorem RC.nofound {nc : Nat} {M Mm : Mem} {q : Nat} {n : Nat} {l : Nat → Nat} {T : Nat} (h : RC nc M q (Mm 1) n l T) {b r : Nat} (hb : b < 8) (hr : r < 16) (hL : ∀ i, i < n → ¬ isL (Mm 1) b r i) : f_X1_lineOf q (nI b) (nI r) M = some (-1, M) ∧ f_X10_lineOf (nI b) (nI r) Mm = some (-1, Mm) := by
  constructor
  · unfold f_X1_lineOf
    have e : nI b * 16 + nI r = nI (16 * b + r) := by rw [n16, pk_mul, nI_add, Nat.mul_comm]
    rw [e, x_lwNo, bnd_some]
    intro j hj z
    have hz : ¬ M (q + 1) j = -1 := by rw [z]; exact ne_m1 (by omega)
    obtain ⟨i2, hi2, e2⟩ := h.cov j hj hz
    rw [← e2] at z
    exact hL i2 hi2 ((h.key hi2 hb hr).mpr z)
  · exact m_lineNo h.cnt h.n8 hL
theorem RC.count {nc : Nat} {M : Mem} {q : Nat} {a : Nat → Int32} {n : Nat} {l : Nat → Nat} {T : Nat} (h : RC nc M q a n l T) : f_X1_lineCount q M = some (nI n, M) := by
  rw [x_lineCount, cntL_eq (M (q + 1)) l (fun i hi => ⟨h.l8 i hi, (h.line i hi).used⟩) (fun i j hi hj z => by have := h.inj (show i < n by omega) hj z; omega) h.cov]
theorem RC.old {nc : Nat} {M : Mem} {q : Nat} {a : Nat → Int32} {n : Nat} {l : Nat → Nat} {T : Nat} (h : RC nc M q a n l T) (hn : 0 < n) : f_X1_oldestLine q M = some (nI (l 0), M) := by
  refine x_oldest (h.l8 0 hn) (h.line 0 hn).used (fun j hj hz hne => ?_)
  obtain ⟨i, hi, rfl⟩ := h.cov j hj hz
  exact h.ord 0 i (by rcases Nat.eq_zero_or_pos i with z | z; · subst z; exact absurd rfl hne
                      · exact z) hi
