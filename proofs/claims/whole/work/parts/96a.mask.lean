/-! ===== sets of positions as masks; the searches' results ===== -/
def MK (x : Int32) (S : Nat → Bool) : Prop := ∃ s, s < 64 ∧ x = nI s ∧ ∀ q, q < 6 → S q = s.testBit q
theorem mk_0 : MK 0 (fun _ => false) := ⟨0, by decide, rfl, fun q _ => (Nat.zero_testBit q).symm⟩
theorem mk_bit {x : Int32} {S : Nat → Bool} {q : Nat} (h : MK x S) (hq : q < 6) : bit x q = S q := by
  obtain ⟨s, hs, rfl, h3⟩ := h
  rw [h3 q hq]
  have key : ∀ s, s < 64 → ∀ q, q < 6 → bit (nI s) q = s.testBit q := by decide +kernel
  exact key s hs q hq
theorem mk_or {x : Int32} {S : Nat → Bool} {q : Nat} (h : MK x S) (hq : q < 6) : MK (x ||| (1 <<< (nI q &&& 31))) (ins S q) := by
  obtain ⟨s, hs, rfl, h3⟩ := h
  have key : ∀ s, s < 64 → ∀ q, q < 6 → nI s ||| (1 <<< (nI q &&& 31)) = nI (s ||| 2 ^ q) ∧ s ||| 2 ^ q < 64 ∧ ∀ i, i < 6 → (decide (i = q) || s.testBit i) = (s ||| 2 ^ q).testBit i := by decide +kernel
  obtain ⟨k1, k2, k3⟩ := key s hs q hq
  refine ⟨_, k2, k1, fun i hi => ?_⟩
  rw [← k3 i hi, ← h3 i hi]
  rfl
theorem mk_clr {x : Int32} {S : Nat → Bool} {q : Nat} (h : MK x S) (hq : q < 6) (hS : S q = false) : (x ||| (1 <<< (nI q &&& 31))) &&& ((1 <<< (nI q &&& 31)) ^^^ (-1)) = x := by
  obtain ⟨s, hs, rfl, h3⟩ := h
  have key : ∀ s, s < 64 → ∀ q, q < 6 → s.testBit q = false → (nI s ||| (1 <<< (nI q &&& 31))) &&& ((1 <<< (nI q &&& 31)) ^^^ (-1)) = nI s := by decide +kernel
  exact key s hs q hq (by rw [← h3 q hq]; exact hS)
theorem mk_sub {x y : Int32} {S B : Nat → Bool} (h : MK x S) (hB : MK y B) : (y &&& (x ^^^ (-1))) = 0 ↔ ∀ o, o < 6 → B o = true → S o = true := by
  obtain ⟨s, hs, rfl, h3⟩ := h
  obtain ⟨b, hb, rfl, h4⟩ := hB
  have key : ∀ s, s < 64 → ∀ b, b < 64 → ((nI b &&& (nI s ^^^ (-1))) = 0 ↔ ∀ o, o < 6 → b.testBit o = true → s.testBit o = true) := by decide +kernel
  rw [key s hs b hb]
  constructor
  · intro k o ho q
    rw [h3 o ho]
    exact k o ho (by rw [← h4 o ho]; exact q)
  · intro k o ho q
    rw [← h3 o ho]
    exact k o ho (by rw [h4 o ho]; exact q)
theorem mk_if {x : Int32} {S : Nat → Bool} {q : Nat} {c : Bool} (h : MK x S) (hq : q < 6) : MK (if c = true then x ||| (1 <<< (nI q &&& 31)) else x) (fun i => (decide (i = q) && c) || S i) := by
  cases c with
  | false =>
    rw [if_neg (by decide)]
    have : (fun i => (decide (i = q) && false) || S i) = S := by funext i; rw [Bool.and_false, Bool.false_or]
    rw [this]; exact h
  | true =>
    rw [if_pos rfl]
    have : (fun i => (decide (i = q) && true) || S i) = ins S q := by funext i; rw [Bool.and_true]; rfl
    rw [this]; exact mk_or h hq
/-- what has to come before q -/
def bfS (D : Nat → Nat → Bool) (q : Nat) : Nat → Bool := fun o => decide (o < q) && D o q
theorem bfS_av {C : Nat → Nat → Bool} {S : Nat → Bool} {q : Nat} (hq : q < 6) : av C S q = true ↔ S q = false ∧ ∀ o, o < 6 → bfS C q o = true → S o = true := by
  rw [av_iff]
  constructor
  · rintro ⟨h1, h2⟩
    refine ⟨h1, fun o ho hb => ?_⟩
    unfold bfS at hb
    rw [Bool.and_eq_true] at hb
    exact h2 o (of_decide_eq_true hb.1) hb.2
  · rintro ⟨h1, h2⟩
    refine ⟨h1, fun o ho hc => h2 o (by omega) ?_⟩
    unfold bfS
    rw [Bool.and_eq_true]
    exact ⟨decide_eq_true ho, hc⟩
/-- the order found behind what stands before -/
def embd (d : Nat) (pth f : Nat → Nat) : Nat → Nat := fun i => if i < d then pth i else f (i - d)
def embP (d : Nat) (pth : Nat → Nat) (x : Int32 × (Nat → Nat)) : Int32 × (Nat → Nat) := (x.1, embd d pth x.2)
def pset (pth : Nat → Nat) (d q : Nat) : Nat → Nat := fun i => if i = d then q else pth i
theorem embP_s (d q : Nat) (pth : Nat → Nat) (x : Int32 × (Nat → Nat)) : embP (d + 1) (pset pth d q) x = embP d pth (x.1, csq q x.2) := by
  unfold embP embd pset csq
  refine Prod.ext rfl ?_
  funext i
  show (if i < d + 1 then (if i = d then q else pth i) else x.2 (i - (d + 1))) = if i < d then pth i else (if i - d = 0 then q else x.2 (i - d - 1))
  by_cases h1 : i < d
  · rw [if_pos (by omega), if_neg (by omega), if_pos h1]
  · rw [if_neg h1]
    by_cases h2 : i = d
    · rw [if_pos (by omega), if_pos h2, if_pos (by omega)]
    · rw [if_neg (by omega), if_neg (by omega), show i - (d + 1) = i - d - 1 by omega]
theorem embP_mrg (d : Nat) (pth : Nat → Nat) (x y : Int32 × (Nat → Nat)) : embP d pth (mrg x y) = mrg (embP d pth x) (embP d pth y) := by
  unfold mrg
  show embP d pth (if y.1 < x.1 then y else x) = if y.1 < x.1 then embP d pth y else embP d pth x
  split <;> rfl
section OK
variable {α : Type} {C : Nat → Nat → Bool} {stp : Nat → α → α} {fin : α → Int32} {Q : Nat}
theorem olk_av {n : Nat} {S : Nat → Bool} {a : α} {q : Nat} (h : av C S q = true) : olk C stp fin Q n S a (q + 1) = mrg (olk C stp fin Q n S a q) ((ol C stp fin Q n (ins S q) (stp q a)).1, csq q (ol C stp fin Q n (ins S q) (stp q a)).2) := by
  rw [olk_s]
  unfold mrg
  by_cases z : (ol C stp fin Q n (ins S q) (stp q a)).1 < (olk C stp fin Q n S a q).1
  · rw [if_pos ⟨h, z⟩, if_pos z]
  · rw [if_neg (fun y => z y.2), if_neg z]
theorem olk_no {n : Nat} {S : Nat → Bool} {a : α} {q : Nat} (h : ¬ (av C S q = true ∧ (ol C stp fin Q n (ins S q) (stp q a)).1 < (olk C stp fin Q n S a q).1)) : olk C stp fin Q n S a (q + 1) = olk C stp fin Q n S a q := by
  rw [olk_s, if_neg h]
/-- one child more -/
theorem child_s {n : Nat} {S : Nat → Bool} {a : α} {q d : Nat} {pth : Nat → Nat} {w : Int32 × (Nat → Nat)} (h : av C S q = true) : mrg (mrg w (embP d pth (olk C stp fin Q n S a q))) (embP (d + 1) (pset pth d q) (ol C stp fin Q n (ins S q) (stp q a))) = mrg w (embP d pth (olk C stp fin Q n S a (q + 1))) := by
  rw [olk_av h, embP_mrg, mrg_s, embP_s]
end OK
