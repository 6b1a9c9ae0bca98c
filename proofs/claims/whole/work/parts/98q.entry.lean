/-! ===== what the law finds at its entry: constants, static rows, classes ===== -/
def tmS (i : Nat) : Term := .string (ST1.getD i ("", 0, "", 0)).1 (ST1.getD i ("", 0, "", 0)).2.1
def vF (t : Term) : Term := .field t "java/lang/String" "value" "[B"
def rqS (i : Nat) : List Cond := [.exactly (tmS i) "java/lang/String", .eq (.field (tmS i) "java/lang/String" "coder" "B") (.int 0), .arrayOf (vF (tmS i)) .byte, .eq (.length (vF (tmS i))) (.int (Int32.ofNat (strB.getD i []).length))] ++ (List.range (strB.getD i []).length).map (fun j => .eq (.elem (vF (tmS i)) (.int (Int32.ofNat j))) (.int ((strB.getD i []).getD j 0)))
abbrev fl1 : List Cond := flatC (Jvm.Cond.and given_1 narrow_1)
set_option maxRecDepth 100000 in
theorem rqS_eq : (List.range 52).flatMap rqS = (fl1.drop 135).take 983 := by decide +kernel
theorem rqS_in {i : Nat} (hi : i < 52) {w : Cond} (hw : w ∈ rqS i) : w ∈ fl1 := by
  have h : w ∈ (List.range 52).flatMap rqS := List.mem_flatMap.mpr ⟨i, List.mem_range.mpr hi, hw⟩
  rw [rqS_eq] at h
  exact List.mem_of_mem_drop (List.mem_of_mem_take h)
def tmT (j : Nat) : Term := .static "ProcessingMemory" (statN j) "[I"
def rqT (j : Nat) : List Cond := [.arrayOf (tmT j) .int, .eq (.length (tmT j)) (.int (Int32.ofNat 9))] ++ (List.range 9).map (fun i => .eq (.elem (tmT j) (.int (Int32.ofNat i))) (.int (statA j i)))
theorem rqT_0 : rqT 900 = (fl1.drop 24).take 11 := by decide +kernel
theorem rqT_1 : rqT 901 = (fl1.drop 36).take 11 := by decide +kernel
theorem rqT_2 : rqT 902 = (fl1.drop 5).take 11 := by decide +kernel
theorem rqT_in {j : Nat} (hj : 900 ≤ j ∧ j < 903) {w : Cond} (hw : w ∈ rqT j) : w ∈ fl1 := by
  rcases (show j = 900 ∨ j = 901 ∨ j = 902 by omega) with rfl | rfl | rfl
  · rw [rqT_0] at hw; exact List.mem_of_mem_drop (List.mem_of_mem_take hw)
  · rw [rqT_1] at hw; exact List.mem_of_mem_drop (List.mem_of_mem_take hw)
  · rw [rqT_2] at hw; exact List.mem_of_mem_drop (List.mem_of_mem_take hw)
def sIdx : List Nat := [545, 593, 626, 800, 822, 834, 861, 862, 863, 898, 899, 964, 972, 984, 992, 1113, 1114, 1143, 1152, 1211, 1244, 1273, 1291, 1309, 1441, 1468, 1469, 1482, 1483, 1484, 1485, 1486, 1487, 1488, 1489, 1490, 1494, 1503, 1504, 1505, 1510, 1511, 1512, 1513, 1514, 1515, 1516, 1517, 1518, 1519, 1520, 1530]
set_option maxRecDepth 100000 in
theorem sRef_eq : ST1.map (fun q => Cond.stringRef q.1 q.2.1 q.2.2.1) = sIdx.filterMap (fun i => tables_1[i]?) := by decide +kernel
theorem sRef_in {q : String × Nat × String × Nat} (h : q ∈ ST1) : Cond.stringRef q.1 q.2.1 q.2.2.1 ∈ tables_1 := by
  have h1 : Cond.stringRef q.1 q.2.1 q.2.2.1 ∈ ST1.map (fun q => Cond.stringRef q.1 q.2.1 q.2.2.1) := List.mem_map_of_mem (f := fun q : String × Nat × String × Nat => Cond.stringRef q.1 q.2.1 q.2.2.1) h
  rw [sRef_eq] at h1
  obtain ⟨i, -, hi⟩ := List.mem_filterMap.mp h1
  exact List.mem_of_getElem? hi
theorem ST1_num : ∀ i, i < 52 → (ST1.getD i ("", 0, "", 0)).2.2.2 = 1000 + i := by decide +kernel
/-- a String constant at the entry -/
theorem str_of {args : Array Value} {s : State} {t : Term} {len : Nat} {f : Nat → Int32} {A : Nat → Prop} (hN : len < 2 ^ 31) (hex : (Cond.exactly t "java/lang/String").before args s = true) (hco : (Cond.eq (.field t "java/lang/String" "coder" "B") (.int 0)).before args s = true) (har : (Cond.arrayOf (vF t) .byte).before args s = true) (hle : (Cond.eq (.length (vF t)) (.int (Int32.ofNat len))).before args s = true) (hel : ∀ j, j < len → (Cond.eq (.elem (vF t) (.int (Int32.ofNat j))) (.int (f j))).before args s = true) (hA : ∀ a : Nat, a < s.heap.size → ¬ A a) :
    ∃ q : Nat × Nat, t.eval args s none [] s = some (.ref q.1) ∧ va_O "java/lang/String" q.1 A s s.heap ∧ va_OF "java/lang/String" "coder" "B" (.int 0) q.1 A s s.heap ∧ va_OF "java/lang/String" "value" "[B" (.ref q.2) q.1 A s s.heap ∧ va_T .byte q.2 len (fun j => .int (f j)) A s s.heap := by
  obtain ⟨a, -, -, -, ha, -⟩ := Cond.exactly_spec (args := args) (first := s) (o := none) (s := s) (idx := []) (t := t) (cls := "java/lang/String") hex
  obtain ⟨v, hv, hT⟩ := va_Tof (f := fun j => .int (f j)) (A := A) hN har (va_eqt hle) (fun j hj => va_eqt (hel j hj)) hA
  exact ⟨(a, v), ha, va_Oof hex ha hA, vk_OFof ha (va_eqt hco) hA, vk_OFof ha hv hA, hT⟩
theorem nest_tab {w : Cond} (h : w ∈ nestW) : w ∈ lw_tbl ∧ w.onTables = true := by
  obtain ⟨h1, h3⟩ := List.mem_filter.mp h
  refine ⟨List.mem_append_right _ h1, ?_⟩
  cases w <;> simp [isNest] at h3 <;> rfl
theorem tab_in (i : Nat) {w : Cond} (h : tables_1[i]? = some w) : w ∈ lw_tbl := List.mem_append_right _ (List.mem_of_getElem? h)
theorem strB_lt : ∀ i, i < 52 → (strB.getD i []).length < 1000 := by decide +kernel
set_option maxRecDepth 20000 in
theorem ext_start {b : Nat} {s : State} (hts : ∀ w ∈ lw_tbl, w.before #[Value.ref b] s = true) (hgv : (Jvm.Cond.and given_1 narrow_1).before #[Value.ref b] s = true) : ∃ sf : Nat → Nat, ∀ (D : va_G) (arr : Nat → ClassId) (a0 : Nat), Ext ST1 (wpA D arr s.heap.size a0 sf) s s.heap := by
  have hfl := flat_of_before _ hgv
  have hA : ∀ a : Nat, a < s.heap.size → ¬ (fun q : Nat => s.heap.size ≤ q) a := fun a h => Nat.not_le.mpr h
  have h0 : ∀ i : Nat, ∃ q : Nat × Nat, i < 52 → (tmS i).eval #[Value.ref b] s none [] s = some (.ref q.1) ∧ va_O "java/lang/String" q.1 (fun q : Nat => s.heap.size ≤ q) s s.heap ∧ va_OF "java/lang/String" "coder" "B" (.int 0) q.1 (fun q : Nat => s.heap.size ≤ q) s s.heap ∧ va_OF "java/lang/String" "value" "[B" (.ref q.2) q.1 (fun q : Nat => s.heap.size ≤ q) s s.heap ∧ va_T .byte q.2 (strB.getD i []).length (fun j => .int ((strB.getD i []).getD j 0)) (fun q : Nat => s.heap.size ≤ q) s s.heap := by
    intro i
    by_cases hi : i < 52
    · have hw : ∀ w ∈ rqS i, w.before #[Value.ref b] s = true := fun w h => hfl w (rqS_in hi h)
      have hl := strB_lt i hi
      obtain ⟨q, hq⟩ := str_of (args := #[Value.ref b]) (s := s) (t := tmS i) (len := (strB.getD i []).length) (f := fun j => (strB.getD i []).getD j 0) (A := fun q : Nat => s.heap.size ≤ q) (by omega) (hw _ (List.mem_append_left _ (List.mem_of_getElem? (i := 0) rfl))) (hw _ (List.mem_append_left _ (List.mem_of_getElem? (i := 1) rfl))) (hw _ (List.mem_append_left _ (List.mem_of_getElem? (i := 2) rfl))) (hw _ (List.mem_append_left _ (List.mem_of_getElem? (i := 3) rfl)))
        (fun j hj => hw _ (List.mem_append_right _ (List.mem_map.mpr ⟨j, List.mem_range.mpr hj, rfl⟩))) hA
      exact ⟨q, fun _ => hq⟩
    · exact ⟨(0, 0), fun h => absurd h hi⟩
  obtain ⟨ad, had⟩ := Classical.axiomOfChoice h0
  have h1 : ∀ j : Nat, ∃ t : Nat, 900 ≤ j ∧ j < 903 → (tmT j).eval #[Value.ref b] s none [] s = some (.ref t) ∧ va_T .int t 9 (fun i => .int (statA j i)) (fun q : Nat => s.heap.size ≤ q) s s.heap := by
    intro j
    by_cases hj : 900 ≤ j ∧ j < 903
    · have hw : ∀ w ∈ rqT j, w.before #[Value.ref b] s = true := fun w h => hfl w (rqT_in hj h)
      obtain ⟨t, ht, hT⟩ := va_Tof (tm := tmT j) (ty := .int) (N := 9) (f := fun i => .int (statA j i)) (A := fun q : Nat => s.heap.size ≤ q) (by decide) (hw _ (List.mem_append_left _ (List.mem_of_getElem? (i := 0) rfl))) (va_eqt (hw _ (List.mem_append_left _ (List.mem_of_getElem? (i := 1) rfl)))) (fun i hi => va_eqt (hw _ (List.mem_append_right _ (List.mem_map.mpr ⟨i, List.mem_range.mpr hi, rfl⟩)))) hA
      exact ⟨t, fun _ => ⟨ht, hT⟩⟩
    · exact ⟨0, fun h => absurd h hj⟩
  obtain ⟨sa, hsa⟩ := Classical.axiomOfChoice h1
  refine ⟨fun j => if j < 903 then sa j else if j < 1500 then (ad (j - 1000)).1 else (ad (j - 2000)).2, fun D arr a0 => ?_⟩
  have w9 : ∀ j, 900 ≤ j → (wpA D arr s.heap.size a0 (fun j => if j < 903 then sa j else if j < 1500 then (ad (j - 1000)).1 else (ad (j - 2000)).2)).1 j = if j < 903 then sa j else if j < 1500 then (ad (j - 1000)).1 else (ad (j - 2000)).2 := fun j hj => if_neg (by omega)
  refine ⟨fun w hw => va_Nw.of (nest_tab hw).2 (hts w (nest_tab hw).1), fun q hq => ?_, ?_, ?_, fun j hj => ?_, ?_, ?_, fun j hj => ?_⟩
  · obtain ⟨i, hi⟩ := List.getElem?_of_mem hq
    have hl : i < 52 := (List.getElem?_eq_some_iff.mp hi).1
    have e : ST1.getD i ("", 0, "", 0) = q := by rw [List.getD_eq_getElem?_getD, hi]; rfl
    have hn := ST1_num i hl
    rw [e] at hn
    have ha := (had i hl).1
    unfold tmS at ha
    rw [e] at ha
    rw [hn, w9 _ (by omega), if_neg (by omega), if_pos (by omega), show 1000 + i - 1000 = i by omega]
    exact vk_R.of (hts _ (List.mem_append_right _ (sRef_in hq))) ha
  · exact vx_Zqof (hts _ (tab_in 530 (by decide +kernel))) (hts _ (tab_in 14 (by decide +kernel))) (hfl _ (List.mem_of_getElem? (i := 16) (by decide +kernel))) hA
  · exact vx_Zqof (hts _ (tab_in 532 (by decide +kernel))) (hts _ (tab_in 14 (by decide +kernel))) (hfl _ (List.mem_of_getElem? (i := 17) (by decide +kernel))) hA
  · obtain ⟨-, b1, b2, b3, b4⟩ := had (j - 1000) (by omega)
    unfold strAt
    rw [w9 j (by omega), w9 (j + 1000) (by omega), if_neg (by omega), if_pos (by omega), if_neg (by omega), if_neg (by omega), show j + 1000 - 2000 = j - 1000 by omega]
    exact ⟨b1, b2, b3, b4⟩
  · exact va_Zof (hts _ (tab_in 636 (by decide +kernel))) (hts _ (tab_in 19 (by decide +kernel))) (va_eqt (hfl _ (List.mem_of_getElem? (i := 18) (by decide +kernel)))) hA
  · exact va_Zqof (hts _ (tab_in 652 (by decide +kernel))) (hts _ (tab_in 21 (by decide +kernel))) (hfl _ (List.mem_of_getElem? (i := 19) (by decide +kernel))) hA
  · obtain ⟨b1, b2⟩ := hsa j hj
    unfold statAt
    rw [w9 j hj.1, if_pos hj.2]
    refine ⟨va_Zref ?_ (hts _ (tab_in 1 (by decide +kernel))) b1 hA, b2⟩
    rcases (show j = 900 ∨ j = 901 ∨ j = 902 by omega) with rfl | rfl | rfl
    · exact hts _ (tab_in 721 (by decide +kernel))
    · exact hts _ (tab_in 723 (by decide +kernel))
    · exact hts _ (tab_in 374 (by decide +kernel))
/-- the classes -/
theorem kn_start {b : Nat} {s : State} (hts : ∀ w ∈ WS, w.before #[Value.ref b] s = true) : ∃ D : va_G, ∀ (k : Nat) (q : vw_C), clX[k]? = some q → u_Kn s q.1 q.2.1 q.2.2 (D.1 k) (D.2 k) := by
  have h0 : ∀ k : Nat, ∃ x : ClassId × (Nat → Nat), ∀ q : vw_C, clX[k]? = some q → u_Kn s q.1 q.2.1 q.2.2 x.1 x.2 := by
    intro k
    match k with
    | 0 =>
      obtain ⟨c, i, h⟩ := u_known (C := RX0) (T := TX0) (N := 4) hts wc_0 (hts _ wn_RX0)
      exact ⟨(c, i), fun q hq => by cases hq; exact h⟩
    | 1 =>
      obtain ⟨c, i, h⟩ := u_known (C := RX1) (T := TX1) (N := 7) hts wc_1 (hts _ wn_RX1)
      exact ⟨(c, i), fun q hq => by cases hq; exact h⟩
    | 2 =>
      obtain ⟨c, i, h⟩ := u_known (C := RX2) (T := TX2) (N := 7) hts wc_2 (hts _ wn_RX2)
      exact ⟨(c, i), fun q hq => by cases hq; exact h⟩
    | 3 =>
      obtain ⟨c, i, h⟩ := u_known (C := RX3) (T := TX3) (N := 11) hts wc_3 (hts _ wn_RX3)
      exact ⟨(c, i), fun q hq => by cases hq; exact h⟩
    | 4 =>
      obtain ⟨c, i, h⟩ := u_known (C := RX4) (T := TX4) (N := 17) hts wc_4 (hts _ wn_RX4)
      exact ⟨(c, i), fun q hq => by cases hq; exact h⟩
    | 5 =>
      obtain ⟨c, i, h⟩ := u_known (C := RX5) (T := TX5) (N := 5) hts wc_5 (hts _ wn_RX5)
      exact ⟨(c, i), fun q hq => by cases hq; exact h⟩
    | 6 =>
      obtain ⟨c, i, h⟩ := u_known (C := RX6) (T := TX6) (N := 7) hts wc_6 (hts _ wn_RX6)
      exact ⟨(c, i), fun q hq => by cases hq; exact h⟩
    | 7 =>
      obtain ⟨c, i, h⟩ := u_known (C := RX7) (T := TX7) (N := 4) hts wc_7 (hts _ wn_RX7)
      exact ⟨(c, i), fun q hq => by cases hq; exact h⟩
    | 8 =>
      obtain ⟨c, i, h⟩ := u_known (C := RX8) (T := TX8) (N := 2) hts wc_8 (hts _ wn_RX8)
      exact ⟨(c, i), fun q hq => by cases hq; exact h⟩
    | 9 =>
      obtain ⟨c, i, h⟩ := u_known (C := RX9) (T := TX9) (N := 12) hts wc_9 (hts _ wn_RX9)
      exact ⟨(c, i), fun q hq => by cases hq; exact h⟩
    | 10 =>
      obtain ⟨c, i, h⟩ := u_known (C := RX10) (T := TX10) (N := 25) hts wc_10 (hts _ wn_RX10)
      exact ⟨(c, i), fun q hq => by cases hq; exact h⟩
    | k + 11 => exact ⟨(0, fun _ => 0), fun q hq => by simp [clX] at hq⟩
  obtain ⟨f, hf⟩ := Classical.axiomOfChoice h0
  exact ⟨(fun k => (f k).1, fun k => (f k).2), hf⟩
/-- a class of arrays -/
theorem ar_prim {args : Array Value} {s : State} {ty : FieldType} (hp : va_RA s = va_RA s) (h : (Cond.arrayClass ty).before args s = true) : ∃ cA : ClassId, ArrOfT s cA ty ∧ s.vm.findClass ("[" ++ ty.toString) = some cA := by
  obtain ⟨cA, kA, comp, h1, h2, h3⟩ := Cond.arrayClass_spec (args := args) (first := s) (o := none) (s := s) (idx := []) h
  exact ⟨cA, fun n z => ⟨fun k h => (by cases h), kA, h2, comp, h3⟩, h1⟩
theorem ar_obj {args : Array Value} {s : State} {C : String} (h : (Cond.arrayOver (.object C)).before args s = true) : ∃ cA : ClassId, ArrOfT s cA (.object C) ∧ va_RA s cA (.object C) := by
  obtain ⟨comp, cA, kA, h1, -, h3, h4, h5⟩ := Cond.arrayOver_spec (args := args) (first := s) (o := none) (s := s) (idx := []) h
  exact ⟨cA, fun n z => ⟨fun k h => (by cases h), kA, h3, comp, h4⟩, kA, comp, h3, h4, h1, h5⟩
