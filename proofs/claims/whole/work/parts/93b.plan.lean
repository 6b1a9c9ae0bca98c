/-! ===== the best order: what both searches find ===== -/
def ins (S : Nat → Bool) (q : Nat) : Nat → Bool := fun i => decide (i = q) || S i
theorem ins_eq (S : Nat → Bool) (q : Nat) : ins S q q = true := by simp [ins]
theorem ins_ne (S : Nat → Bool) {q i : Nat} (h : i ≠ q) : ins S q i = S i := by simp [ins, h]
/-- position q may come next: it isn't there yet, and all earlier ones that conflict are -/
def av (C : Nat → Nat → Bool) (S : Nat → Bool) (q : Nat) : Bool := !(S q) && (List.range q).all (fun o => !(C o q) || S o)
theorem av_iff {C : Nat → Nat → Bool} {S : Nat → Bool} {q : Nat} : av C S q = true ↔ S q = false ∧ ∀ o, o < q → C o q = true → S o = true := by
  unfold av
  rw [Bool.and_eq_true, List.all_eq_true]
  constructor
  · rintro ⟨h1, h2⟩
    refine ⟨by simpa using h1, fun o ho hc => ?_⟩
    have := h2 o (List.mem_range.mpr ho)
    rw [hc] at this
    simpa using this
  · rintro ⟨h1, h2⟩
    refine ⟨by simp [h1], fun o ho => ?_⟩
    cases hc : C o q with
    | false => rfl
    | true => simp [h2 o (List.mem_range.mp ho) hc]
def csq (q : Nat) (f : Nat → Nat) : Nat → Nat := fun i => if i = 0 then q else f (i - 1)
/-- the least finish of all orders behind S, and the first such order -/
def ol {α : Type} (C : Nat → Nat → Bool) (stp : Nat → α → α) (fin : α → Int32) (Q : Nat) : Nat → (Nat → Bool) → α → Int32 × (Nat → Nat)
  | 0, _, a => (fin a, fun _ => 0)
  | n + 1, S, a => foldN (fun q w => if av C S q = true ∧ (ol C stp fin Q n (ins S q) (stp q a)).1 < w.1 then ((ol C stp fin Q n (ins S q) (stp q a)).1, csq q (ol C stp fin Q n (ins S q) (stp q a)).2) else w) Q (2147483647, fun _ => 0)
/-- the first k children of a node -/
def olk {α : Type} (C : Nat → Nat → Bool) (stp : Nat → α → α) (fin : α → Int32) (Q n : Nat) (S : Nat → Bool) (a : α) (k : Nat) : Int32 × (Nat → Nat) := foldN (fun q w => if av C S q = true ∧ (ol C stp fin Q n (ins S q) (stp q a)).1 < w.1 then ((ol C stp fin Q n (ins S q) (stp q a)).1, csq q (ol C stp fin Q n (ins S q) (stp q a)).2) else w) k (2147483647, fun _ => 0)
section PLN
variable {α : Type} {C : Nat → Nat → Bool} {stp : Nat → α → α} {fin : α → Int32} {Q : Nat}
theorem ol_s (n : Nat) (S : Nat → Bool) (a : α) : ol C stp fin Q (n + 1) S a = olk C stp fin Q n S a Q := rfl
theorem olk_s (n : Nat) (S : Nat → Bool) (a : α) (k : Nat) : olk C stp fin Q n S a (k + 1) = if av C S k = true ∧ (ol C stp fin Q n (ins S k) (stp k a)).1 < (olk C stp fin Q n S a k).1 then ((ol C stp fin Q n (ins S k) (stp k a)).1, csq k (ol C stp fin Q n (ins S k) (stp k a)).2) else olk C stp fin Q n S a k := rfl
theorem olk_dec (n : Nat) (S : Nat → Bool) (a : α) (k : Nat) : (olk C stp fin Q n S a (k + 1)).1 ≤ (olk C stp fin Q n S a k).1 := by
  rw [olk_s]
  split
  · exact Int32.le_of_lt (by rename_i h; exact h.2)
  · exact Int32.le_refl _
theorem olk_le (n : Nat) (S : Nat → Bool) (a : α) {k q : Nat} (hq : q < k) (h : av C S q = true) : (olk C stp fin Q n S a k).1 ≤ (ol C stp fin Q n (ins S q) (stp q a)).1 := by
  induction k with
  | zero => omega
  | succ k ih =>
    by_cases e : q = k
    · subst e
      rw [olk_s]
      by_cases z : (ol C stp fin Q n (ins S q) (stp q a)).1 < (olk C stp fin Q n S a q).1
      · rw [if_pos ⟨h, z⟩]; exact Int32.le_refl _
      · rw [if_neg (fun y => z y.2)]; exact i32_nlt.mp z
    · exact Int32.le_trans (olk_dec n S a k) (ih (by omega))
theorem olk_ge (n : Nat) (S : Nat → Bool) (a : α) {v : Int32} (hv : v ≤ 2147483647) : ∀ k, (∀ q, q < k → av C S q = true → v ≤ (ol C stp fin Q n (ins S q) (stp q a)).1) → v ≤ (olk C stp fin Q n S a k).1 := by
  intro k
  induction k with
  | zero => intro _; exact hv
  | succ k ih =>
    intro h
    rw [olk_s]
    split
    · rename_i z; exact h k (by omega) z.1
    · exact ih (fun q hq => h q (by omega))
theorem i32_top (x : Int32) : x ≤ 2147483647 := by
  rw [i32_le]
  have := Int32.toInt_lt x
  show x.toInt ≤ 2147483647
  omega
/-- two positions of the same batch: that which was submitted earlier is as good -/
theorem ol_swap {i j : Nat} (hij : i < j) (hj : j < Q) (hs : ∀ a, stp i a = stp j a) (hc1 : ∀ k, C i k = C j k) (hc2 : ∀ k, C k i = C k j) : ∀ n (S T : Nat → Bool) (a : α), S i = false → S j = true → T i = true → T j = false → (∀ k, k ≠ i → k ≠ j → T k = S k) → (∀ k, k < j → C k j = true → S k = true) → (ol C stp fin Q n T a).1 ≤ (ol C stp fin Q n S a).1 := by
  intro n
  induction n with
  | zero => intro S T a _ _ _ _ _ _; exact Int32.le_refl _
  | succ n ih =>
    intro S T a h1 h2 h3 h4 h5 h6
    rw [ol_s n S a]
    refine olk_ge n S a (i32_top _) Q (fun q hq hav => ?_)
    obtain ⟨a1, a2⟩ := av_iff.mp hav
    by_cases e : q = i
    · subst e
      have hT : av C T j = true := by
        refine av_iff.mpr ⟨h4, fun o ho hc => ?_⟩
        by_cases e2 : o = q
        · rw [e2]; exact h3
        · rw [h5 o e2 (by omega)]; exact h6 o ho hc
      have l1 := olk_le (stp := stp) (fin := fin) (Q := Q) n T a hj hT
      rw [ol_s n T a]
      have es : ins T j = ins S q := by
        funext k
        by_cases k1 : k = q
        · rw [k1, ins_eq, ins_ne _ (by omega)]; exact h3
        · by_cases k2 : k = j
          · rw [k2, ins_eq, ins_ne _ (by omega)]; exact h2.symm
          · rw [ins_ne _ k2, ins_ne _ k1]; exact h5 k k1 k2
      rw [es, ← hs] at l1
      exact l1
    · have e2 : q ≠ j := fun z => by rw [z, h2] at a1; cases a1
      have hT : av C T q = true := by
        refine av_iff.mpr ⟨by rw [h5 q e e2]; exact a1, fun o ho hc => ?_⟩
        have so := a2 o ho hc
        by_cases o1 : o = i
        · rw [o1]; exact h3
        · by_cases o2 : o = j
          · subst o2
            have hci : C i q = true := by rw [hc1]; exact hc
            have := a2 i (by omega) hci
            rw [h1] at this; cases this
          · rw [h5 o o1 o2]; exact so
      have l1 := olk_le (stp := stp) (fin := fin) (Q := Q) n T a hq hT
      rw [ol_s n T a]
      refine Int32.le_trans l1 (ih (ins S q) (ins T q) (stp q a) ?_ ?_ ?_ ?_ ?_ ?_)
      · rw [ins_ne _ (fun z => e z.symm)]; exact h1
      · rw [ins_ne _ (fun z => e2 z.symm)]; exact h2
      · rw [ins_ne _ (fun z => e z.symm)]; exact h3
      · rw [ins_ne _ (fun z => e2 z.symm)]; exact h4
      · intro k k1 k2
        by_cases k3 : k = q
        · rw [k3, ins_eq, ins_eq]
        · rw [ins_ne _ k3, ins_ne _ k3]; exact h5 k k1 k2
      · intro k hk hc
        by_cases k3 : k = q
        · rw [k3, ins_eq]
        · rw [ins_ne _ k3]; exact h6 k hk hc
theorem ol_skip {i j : Nat} (hij : i < j) (hj : j < Q) (hs : ∀ a, stp i a = stp j a) (hc1 : ∀ k, C i k = C j k) (hc2 : ∀ k, C k i = C k j) {n : Nat} {S : Nat → Bool} {a : α} (hi : S i = false) (hav : av C S j = true) : av C S i = true ∧ (ol C stp fin Q n (ins S i) (stp i a)).1 ≤ (ol C stp fin Q n (ins S j) (stp j a)).1 := by
  obtain ⟨a1, a2⟩ := av_iff.mp hav
  refine ⟨av_iff.mpr ⟨hi, fun o ho hc => a2 o (by omega) (by rw [← hc2]; exact hc)⟩, ?_⟩
  rw [hs]
  refine ol_swap hij hj hs hc1 hc2 n (ins S j) (ins S i) (stp j a) ?_ (ins_eq _ _) (ins_eq _ _) ?_ (fun k k1 k2 => ?_) (fun k hk hc => ?_)
  · rw [ins_ne _ (by omega)]; exact hi
  · rw [ins_ne _ (by omega)]; exact a1
  · rw [ins_ne _ k1, ins_ne _ k2]
  · rw [ins_ne _ (by omega)]; exact a2 k hk hc
/-- the finish is a bound below -/
theorem ol_fin {J : Nat → α → Prop} (hJ : ∀ n q a, q < Q → J (n + 1) a → J n (stp q a) ∧ fin a ≤ fin (stp q a)) : ∀ n (S : Nat → Bool) (a : α), J n a → fin a ≤ (ol C stp fin Q n S a).1 := by
  intro n
  induction n with
  | zero => intro S a _; exact Int32.le_refl _
  | succ n ih =>
    intro S a h
    rw [ol_s]
    exact olk_ge n S a (i32_top _) Q (fun q hq _ => Int32.le_trans (hJ n q a hq h).2 (ih _ _ (hJ n q a hq h).1))
/-- how many positions are left -/
def cntF (S : Nat → Bool) (n : Nat) : Nat := foldN (fun q c => if S q = true then c else c + 1) n 0
theorem cntF_ex {S : Nat → Bool} {n : Nat} (h : 0 < cntF S n) : ∃ q, q < n ∧ S q = false ∧ ∀ o, o < q → S o = true := by
  induction n with
  | zero => exact absurd h (Nat.lt_irrefl 0)
  | succ n ih =>
    by_cases z : 0 < cntF S n
    · obtain ⟨q, h1, h2, h3⟩ := ih z
      exact ⟨q, by omega, h2, h3⟩
    · have z0 : cntF S n = 0 := by omega
      have e : cntF S (n + 1) = if S n = true then cntF S n else cntF S n + 1 := rfl
      have all : ∀ k, k ≤ n → ∀ o, o < k → cntF S k = 0 → S o = true := by
        intro k
        induction k with
        | zero => intro _ o ho; omega
        | succ k ihk =>
          intro hk o ho h0
          have e2 : cntF S (k + 1) = if S k = true then cntF S k else cntF S k + 1 := rfl
          by_cases q : S k = true
          · by_cases e3 : o = k
            · rw [e3]; exact q
            · rw [e2, if_pos q] at h0
              exact ihk (by omega) o (by omega) h0
          · rw [e2, if_neg q] at h0; omega
      refine ⟨n, by omega, ?_, fun o ho => all n (Nat.le_refl _) o ho z0⟩
      cases q : S n with
      | false => rfl
      | true => rw [e, if_pos q] at h; omega
theorem cntF_ins {S : Nat → Bool} {q : Nat} (hq : S q = false) : ∀ n, (q < n → cntF S n = cntF (ins S q) n + 1) ∧ (n ≤ q → cntF S n = cntF (ins S q) n) := by
  intro n
  induction n with
  | zero => exact ⟨fun h => by omega, fun _ => rfl⟩
  | succ n ih =>
    have e1 : cntF S (n + 1) = if S n = true then cntF S n else cntF S n + 1 := rfl
    have e2 : cntF (ins S q) (n + 1) = if ins S q n = true then cntF (ins S q) n else cntF (ins S q) n + 1 := rfl
    rw [e1, e2]
    by_cases z : n = q
    · subst z
      rw [ins_eq, if_neg (by rw [hq]; decide), if_pos rfl, ih.2 (Nat.le_refl _)]
      exact ⟨fun _ => rfl, fun h => by omega⟩
    · rw [ins_ne _ z]
      constructor
      · intro h
        have := ih.1 (by omega)
        split <;> omega
      · intro h
        have := ih.2 (by omega)
        split <;> omega
/-- there is an order -/
theorem ol_lt {J : Nat → α → Prop} (hJ : ∀ n q a, q < Q → J (n + 1) a → J n (stp q a)) (hf : ∀ n a, J n a → fin a < 2147483647) : ∀ n (S : Nat → Bool) (a : α), J n a → cntF S Q = n → (ol C stp fin Q n S a).1 < 2147483647 := by
  intro n
  induction n with
  | zero => intro S a h _; exact hf 0 a h
  | succ n ih =>
    intro S a h hc
    obtain ⟨q, h1, h2, h3⟩ := cntF_ex (S := S) (n := Q) (by omega)
    rw [ol_s]
    have hav : av C S q = true := av_iff.mpr ⟨h2, fun o ho _ => h3 o ho⟩
    refine Int32.lt_of_le_of_lt (olk_le n S a h1 hav) (ih _ _ (hJ n q a h1 h) ?_)
    have := (cntF_ins h2 Q).1 h1
    omega
/-- the better of two, the first one if they are alike; pth is what stands before -/
def mrg (w x : Int32 × (Nat → Nat)) : Int32 × (Nat → Nat) := if x.1 < w.1 then x else w
theorem mrg_s {w x y : Int32 × (Nat → Nat)} : mrg (mrg w x) y = mrg w (mrg x y) := by
  unfold mrg
  by_cases h1 : x.1 < w.1
  · rw [if_pos h1]
    by_cases h2 : y.1 < x.1
    · rw [if_pos h2, if_pos (Int32.lt_trans h2 h1)]
    · rw [if_neg h2, if_pos h1]
  · rw [if_neg h1]
    by_cases h2 : y.1 < x.1
    · rw [if_pos h2]
    · rw [if_neg h2, if_neg h1, if_neg]
      intro h3
      exact h2 (Int32.lt_of_lt_of_le h3 (i32_nlt.mp h1))
theorem mrg_no {w x : Int32 × (Nat → Nat)} (h : w.1 ≤ x.1) : mrg w x = w := if_neg (i32_nlt.mpr h)
theorem mrg_le (w x : Int32 × (Nat → Nat)) : (mrg w x).1 ≤ x.1 ∧ (mrg w x).1 ≤ w.1 := by
  unfold mrg
  split
  · exact ⟨Int32.le_refl _, Int32.le_of_lt (by assumption)⟩
  · exact ⟨i32_nlt.mp (by assumption), Int32.le_refl _⟩
end PLN
