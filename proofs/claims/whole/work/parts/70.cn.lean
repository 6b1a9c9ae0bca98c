/-! ===== lines are written back in any order ===== -/
theorem clA_at (a : Nat → Int32) (i b r nc x : Nat) : clA a i b r nc x = if x = 1669 then a 1669 + 1 else if x = cl i 2 then 0 else if wdP b r 0 ≤ x ∧ x < wdP b r 0 + nc then a (cl i (3 + (x - wdP b r 0))) else a x := by
  unfold clA
  by_cases q : x = 1669
  · rw [if_pos q, q, upd_eq]
  · rw [if_neg q, upd_ne _ _ q]
    by_cases q2 : x = cl i 2
    · rw [if_pos q2, q2, upd_eq]
    · rw [if_neg q2, upd_ne _ _ q2]
def cn (B R : Nat → Nat) (nc i : Nat) (a : Nat → Int32) : Nat → Int32 := if a (cl i 2) = 0 then a else clA a i (B i) (R i) nc
def cnL (B R : Nat → Nat) (nc : Nat) : List Nat → (Nat → Int32) → Nat → Int32
  | [], a => a
  | i :: L, a => cnL B R nc L (cn B R nc i a)
/-- keys of n lines -/
def DK (n : Nat) (B R : Nat → Nat) : Prop := n ≤ 8 ∧ (∀ i, i < n → B i < 8 ∧ R i < 16) ∧ (∀ i j, i < n → j < n → i ≠ j → ¬ (B i = B j ∧ R i = R j))
theorem cn_2 {n nc i j : Nat} {B R : Nat → Nat} (h : DK n B R) (hnc : nc ≤ 8) (hi : i < n) (hj : j < n) (hij : i ≠ j) (a : Nat → Int32) : cn B R nc j a (cl i 2) = a (cl i 2) := by
  obtain ⟨h8, hb, -⟩ := h
  have := hb j hj
  unfold cn
  split
  · rfl
  · rw [ca_cl this.1 this.2 hnc (by omega) (by omega), if_neg (by omega)]
theorem cn_0 {B R : Nat → Nat} {nc i : Nat} {a : Nat → Int32} (z : a (cl i 2) = 0) : cn B R nc i a = a := by unfold cn; rw [if_pos z]
theorem cn_comm {n nc i j : Nat} {B R : Nat → Nat} (h : DK n B R) (hnc : nc ≤ 8) (hi : i < n) (hj : j < n) (a : Nat → Int32) : cn B R nc i (cn B R nc j a) = cn B R nc j (cn B R nc i a) := by
  by_cases hij : i = j
  · rw [hij]
  · have e1 := cn_2 h hnc hi hj hij a
    have e2 := cn_2 h hnc hj hi (Ne.symm hij) a
    obtain ⟨h8, hb, hd⟩ := h
    have bi := hb i hi
    have bj := hb j hj
    have dij := hd i j hi hj hij
    by_cases zi : a (cl i 2) = 0
    · have c1 : cn B R nc i a = a := by unfold cn; rw [if_pos zi]
      rw [c1, cn_0 (by rw [e1]; exact zi)]
    · by_cases zj : a (cl j 2) = 0
      · have c1 : cn B R nc j a = a := by unfold cn; rw [if_pos zj]
        rw [c1]
        exact (cn_0 (by rw [e2]; exact zj)).symm
      · have c1 : cn B R nc i (cn B R nc j a) = clA (clA a j (B j) (R j) nc) i (B i) (R i) nc := by
          have cj : cn B R nc j a = clA a j (B j) (R j) nc := by unfold cn; rw [if_neg zj]
          rw [cj] at e1 ⊢
          unfold cn
          rw [e1, if_neg zi]
        have c2 : cn B R nc j (cn B R nc i a) = clA (clA a i (B i) (R i) nc) j (B j) (R j) nc := by
          have ci : cn B R nc i a = clA a i (B i) (R i) nc := by unfold cn; rw [if_neg zi]
          rw [ci] at e2 ⊢
          unfold cn
          rw [e2, if_neg zj]
        rw [c1, c2]
        funext x
        have wi : wdP (B i) (R i) 0 = 160 + 8 * (16 * B i + R i) := rfl
        have wj : wdP (B j) (R j) 0 = 160 + 8 * (16 * B j + R j) := rfl
        have ci2 : cl i 2 = 1579 + 11 * i + 2 := rfl
        have cj2 : cl j 2 = 1579 + 11 * j + 2 := rfl
        have rowne : ¬ (16 * B i + R i = 16 * B j + R j) := by omega
        rw [clA_at, clA_at (clA a i (B i) (R i) nc)]
        by_cases q : x = 1669
        · rw [if_pos q, if_pos q, ca_69, ca_69]
        · rw [if_neg q, if_neg q]
          by_cases qi : x = cl i 2
          · rw [if_pos qi, if_neg (by omega), if_neg (by omega), clA_at, if_neg q, if_pos qi]
          · rw [if_neg qi]
            by_cases qj : x = cl j 2
            · rw [if_pos qj, if_neg (by omega), clA_at, if_neg q, if_pos qj]
            · rw [if_neg qj]
              by_cases ri : wdP (B i) (R i) 0 ≤ x ∧ x < wdP (B i) (R i) 0 + nc
              · rw [if_pos ri, if_neg (by omega), ca_cl bj.1 bj.2 hnc (by omega) (by omega), if_neg (by omega), clA_at, if_neg q, if_neg qi, if_pos ri]
              · rw [if_neg ri]
                by_cases rj : wdP (B j) (R j) 0 ≤ x ∧ x < wdP (B j) (R j) 0 + nc
                · rw [if_pos rj, clA_at, if_neg q, if_neg qj, if_pos rj, ca_cl bi.1 bi.2 hnc (by omega) (by omega), if_neg (by omega)]
                · rw [if_neg rj, clA_at, if_neg q, if_neg qj, if_neg rj, clA_at, if_neg q, if_neg qi, if_neg ri]
theorem cn_idem {n nc i : Nat} {B R : Nat → Nat} (h : DK n B R) (hnc : nc ≤ 8) (hi : i < n) (a : Nat → Int32) : cn B R nc i (cn B R nc i a) = cn B R nc i a := by
  obtain ⟨h8, hb, -⟩ := h
  have bi := hb i hi
  by_cases z : a (cl i 2) = 0
  · have c1 : cn B R nc i a = a := by unfold cn; rw [if_pos z]
    rw [c1, c1]
  · have ci : cn B R nc i a = clA a i (B i) (R i) nc := by unfold cn; rw [if_neg z]
    rw [ci]
    unfold cn
    rw [if_pos]
    rw [ca_cl bi.1 bi.2 hnc (by omega) (by omega), if_pos ⟨rfl, rfl⟩]
theorem cnL_in {n nc i : Nat} {B R : Nat → Nat} (h : DK n B R) (hnc : nc ≤ 8) (hi : i < n) : ∀ (L : List Nat), (∀ j, j ∈ L → j < n) → ∀ a, cn B R nc i (cnL B R nc L a) = cnL B R nc L (cn B R nc i a) := by
  intro L
  induction L with
  | nil => intro _ a; rfl
  | cons j L ih =>
    intro hL a
    show cn B R nc i (cnL B R nc L (cn B R nc j a)) = cnL B R nc L (cn B R nc j (cn B R nc i a))
    rw [ih (fun k hk => hL k (List.mem_cons_of_mem _ hk)), cn_comm h hnc hi (hL j List.mem_cons_self)]
theorem cnL_mem {n nc i : Nat} {B R : Nat → Nat} (h : DK n B R) (hnc : nc ≤ 8) : ∀ (L : List Nat), (∀ j, j ∈ L → j < n) → i ∈ L → ∀ a, cn B R nc i (cnL B R nc L a) = cnL B R nc L a := by
  intro L
  induction L with
  | nil => intro _ hi; exact absurd hi List.not_mem_nil
  | cons j L ih =>
    intro hL hi a
    have hL2 := fun k hk => hL k (List.mem_cons_of_mem j hk)
    show cn B R nc i (cnL B R nc L (cn B R nc j a)) = cnL B R nc L (cn B R nc j a)
    rcases List.mem_cons.mp hi with e | e
    · subst e
      rw [cnL_in h hnc (hL i List.mem_cons_self) L hL2, cn_idem h hnc (hL i List.mem_cons_self)]
    · exact ih hL2 e _
theorem cnL_sub {n nc : Nat} {B R : Nat → Nat} (h : DK n B R) (hnc : nc ≤ 8) {L : List Nat} (hL : ∀ j, j ∈ L → j < n) : ∀ (K : List Nat), (∀ j, j ∈ K → j ∈ L) → ∀ a, cnL B R nc K (cnL B R nc L a) = cnL B R nc L a := by
  intro K
  induction K with
  | nil => intro _ a; rfl
  | cons j K ih =>
    intro hK a
    show cnL B R nc K (cn B R nc j (cnL B R nc L a)) = _
    rw [cnL_mem h hnc L hL (hK j List.mem_cons_self), ih (fun k hk => hK k (List.mem_cons_of_mem _ hk))]
theorem cnL_swap {n nc : Nat} {B R : Nat → Nat} (h : DK n B R) (hnc : nc ≤ 8) {L : List Nat} (hL : ∀ j, j ∈ L → j < n) : ∀ (K : List Nat), (∀ j, j ∈ K → j < n) → ∀ a, cnL B R nc K (cnL B R nc L a) = cnL B R nc L (cnL B R nc K a) := by
  intro K
  induction K with
  | nil => intro _ a; rfl
  | cons j K ih =>
    intro hK a
    show cnL B R nc K (cn B R nc j (cnL B R nc L a)) = cnL B R nc L (cnL B R nc K (cn B R nc j a))
    rw [cnL_in h hnc (hK j List.mem_cons_self) L hL, ih (fun k hk => hK k (List.mem_cons_of_mem _ hk))]
/-- THE ORDER DOESN'T MATTER -/
theorem cnL_same {n nc : Nat} {B R : Nat → Nat} (h : DK n B R) (hnc : nc ≤ 8) {L K : List Nat} (hL : ∀ j, j ∈ L → j < n) (hK : ∀ j, j ∈ K → j < n) (e : ∀ j, j < n → (j ∈ L ↔ j ∈ K)) (a : Nat → Int32) : cnL B R nc L a = cnL B R nc K a := by
  have h1 := cnL_sub h hnc hL K (fun j hj => (e j (hK j hj)).mpr hj) a
  have h2 := cnL_sub h hnc hK L (fun j hj => (e j (hL j hj)).mp hj) a
  rw [← h1, ← h2, cnL_swap h hnc hL K hK a]
theorem cnL_app {B R : Nat → Nat} {nc : Nat} (L : List Nat) (i : Nat) : ∀ a, cnL B R nc (L ++ [i]) a = cn B R nc i (cnL B R nc L a) := by
  induction L with
  | nil => intro a; rfl
  | cons j L ih => intro a; exact ih _
theorem cnL_keep {n nc x : Nat} {B R : Nat → Nat} (h : DK n B R) (hnc : nc ≤ 8) (hx : (∃ i k, i < 8 ∧ k < 11 ∧ k ≠ 2 ∧ x = cl i k) ∨ x < 160 ∨ (1184 ≤ x ∧ x < 1579) ∨ 1670 ≤ x) : ∀ (L : List Nat), (∀ j, j ∈ L → j < n) → ∀ a, cnL B R nc L a x = a x := by
  intro L
  induction L with
  | nil => intro _ a; rfl
  | cons j L ih =>
    intro hL a
    have hj := hL j List.mem_cons_self
    have bj := h.2.1 j hj
    have h8 := h.1
    show cnL B R nc L (cn B R nc j a) x = a x
    rw [ih (fun k hk => hL k (List.mem_cons_of_mem _ hk))]
    unfold cn
    split
    · rfl
    · rcases hx with ⟨i, k, hi, hk, hk2, rfl⟩ | hx
      · rw [ca_cl bj.1 bj.2 hnc hi hk, if_neg (by omega)]
      · exact ca_hi (by omega) bj.1 bj.2 hnc (by omega)
