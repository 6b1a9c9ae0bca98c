/-- the words that are no plain words of the tables: links among nest mates -/
def isNest : Cond → Bool
  | .methodLinkNest _ _ _ _ => true
  | .fieldLinkNest _ _ _ _ _ _ => true
  | .castable _ _ => true
  | .declares _ => true
  | _ => false
def nestW : List Cond := tables_1.filter isNest
theorem nest_in (i : Nat) {w : Cond} (h : tables_1[i]? = some w) (hg : isNest w = true) : w ∈ nestW := List.mem_filter.mpr ⟨List.mem_of_getElem? h, hg⟩
theorem wl_RX9_15 : Cond.methodLinkNest RX9 15 yX2_init "ProcessingMemory" ∈ nestW := nest_in 37 (by decide +kernel) rfl
theorem wl_RX2_11 : Cond.methodLinkNest RX2 11 yX7_init "ProcessingMemory" ∈ nestW := nest_in 43 (by decide +kernel) rfl
theorem wl_RX9_22 : Cond.methodLinkNest RX9 22 yX4_init "ProcessingMemory" ∈ nestW := nest_in 90 (by decide +kernel) rfl
theorem wl_RX9_32 : Cond.methodLinkNest RX9 32 yX5_init "ProcessingMemory" ∈ nestW := nest_in 188 (by decide +kernel) rfl
theorem wl_RX5_11 : Cond.methodLinkNest RX5 11 yX8_init "ProcessingMemory" ∈ nestW := nest_in 194 (by decide +kernel) rfl
theorem wl_RX5_20 : Cond.methodLinkNest RX5 20 yX6_init "ProcessingMemory" ∈ nestW := nest_in 210 (by decide +kernel) rfl
theorem wl_RX5_27 : Cond.methodLinkNest RX5 27 yX1_init "ProcessingMemory" ∈ nestW := nest_in 243 (by decide +kernel) rfl
theorem wl_RX5_34 : Cond.methodLinkNest RX5 34 yX0_init "ProcessingMemory" ∈ nestW := nest_in 277 (by decide +kernel) rfl
theorem wl_RX3_33 : Cond.methodLinkNest RX3 33 yX6_init "ProcessingMemory" ∈ nestW := nest_in 332 (by decide +kernel) rfl
theorem gs_RX4_58 : Cond.fieldLinkNest RX4 58 "ProcessingMemory" "USUAL_SETTINGS" "[I" "ProcessingMemory" ∈ nestW := nest_in 373 (by decide +kernel) rfl
theorem wl_RX1_71 : Cond.methodLinkNest RX1 71 yX9_copyWords "ProcessingMemory" ∈ nestW := nest_in 460 (by decide +kernel) rfl
theorem wl_RX6_49 : Cond.methodLinkNest RX6 49 yX9_isIn "ProcessingMemory" ∈ nestW := nest_in 476 (by decide +kernel) rfl
theorem gs_RX2_81 : Cond.fieldLinkNest RX2 81 "ProcessingMemory" "LEAST_SETTINGS" "[I" "ProcessingMemory" ∈ nestW := nest_in 720 (by decide +kernel) rfl
theorem gs_RX2_84 : Cond.fieldLinkNest RX2 84 "ProcessingMemory" "MOST_SETTINGS" "[I" "ProcessingMemory" ∈ nestW := nest_in 722 (by decide +kernel) rfl
theorem wl_RX2_103 : Cond.methodLinkNest RX2 103 yX9_isIn "ProcessingMemory" ∈ nestW := nest_in 732 (by decide +kernel) rfl
theorem wl_RX4_87 : Cond.methodLinkNest RX4 87 yX9_combiningSteps "ProcessingMemory" ∈ nestW := nest_in 762 (by decide +kernel) rfl
theorem wl_RX4_95 : Cond.methodLinkNest RX4 95 yX9_lowestBank "ProcessingMemory" ∈ nestW := nest_in 775 (by decide +kernel) rfl
theorem wl_RX4_98 : Cond.methodLinkNest RX4 98 yX9_isIn "ProcessingMemory" ∈ nestW := nest_in 779 (by decide +kernel) rfl
theorem wl_RX6_45 : Cond.methodLinkNest RX6 45 yX9_lowestBank "ProcessingMemory" ∈ nestW := nest_in 1009 (by decide +kernel) rfl
theorem wl_RX8_35 : Cond.methodLinkNest RX8 35 yX9_lowestBank "ProcessingMemory" ∈ nestW := nest_in 1027 (by decide +kernel) rfl
theorem wl_RX8_45 : Cond.methodLinkNest RX8 45 yX9_isIn "ProcessingMemory" ∈ nestW := nest_in 1028 (by decide +kernel) rfl
theorem wl_RX8_59 : Cond.methodLinkNest RX8 59 yX9_lanePlace "ProcessingMemory" ∈ nestW := nest_in 1033 (by decide +kernel) rfl
theorem wl_RX8_66 : Cond.methodLinkNest RX8 66 yX9_wordPlace "ProcessingMemory" ∈ nestW := nest_in 1034 (by decide +kernel) rfl
theorem wl_RX8_69 : Cond.methodLinkNest RX8 69 yX9_copyWords "ProcessingMemory" ∈ nestW := nest_in 1035 (by decide +kernel) rfl
theorem wl_RX8_95 : Cond.methodLinkNest RX8 95 yX9_combine "ProcessingMemory" ∈ nestW := nest_in 1044 (by decide +kernel) rfl
theorem wtn_66 : ∀ w ∈ (vx_atS RX9 66 "java/lang/IllegalStateException" ["java/lang/RuntimeException", "java/lang/Exception"]).filter (fun w => !goodWord w), w ∈ nestW := by
  intro w hw
  exact (List.all_eq_true.mp (show ((vx_atS RX9 66 "java/lang/IllegalStateException" ["java/lang/RuntimeException", "java/lang/Exception"]).filter (fun w => !goodWord w)).all (fun w => decide (w ∈ nestW)) = true by decide +kernel) w hw |> of_decide_eq_true)
theorem wtn_77 : ∀ w ∈ (vx_atS RX9 77 "java/lang/IndexOutOfBoundsException" ["java/lang/RuntimeException", "java/lang/Exception"]).filter (fun w => !goodWord w), w ∈ nestW := by
  intro w hw
  exact (List.all_eq_true.mp (show ((vx_atS RX9 77 "java/lang/IndexOutOfBoundsException" ["java/lang/RuntimeException", "java/lang/Exception"]).filter (fun w => !goodWord w)).all (fun w => decide (w ∈ nestW)) = true by decide +kernel) w hw |> of_decide_eq_true)
theorem wtn_95 : ∀ w ∈ (vx_atS RX9 95 "java/lang/IllegalArgumentException" ["java/lang/RuntimeException", "java/lang/Exception"]).filter (fun w => !goodWord w), w ∈ nestW := by
  intro w hw
  exact (List.all_eq_true.mp (show ((vx_atS RX9 95 "java/lang/IllegalArgumentException" ["java/lang/RuntimeException", "java/lang/Exception"]).filter (fun w => !goodWord w)).all (fun w => decide (w ∈ nestW)) = true by decide +kernel) w hw |> of_decide_eq_true)
theorem wt_66 : ∀ w ∈ (vx_atS RX9 66 "java/lang/IllegalStateException" ["java/lang/RuntimeException", "java/lang/Exception"]).filter goodWord, w ∈ WS := by
  intro w hw
  exact (List.all_eq_true.mp (show ((vx_atS RX9 66 "java/lang/IllegalStateException" ["java/lang/RuntimeException", "java/lang/Exception"]).filter goodWord).all (fun w => decide (w ∈ WS)) = true by decide +kernel) w hw |> of_decide_eq_true)
theorem wt_77 : ∀ w ∈ (vx_atS RX9 77 "java/lang/IndexOutOfBoundsException" ["java/lang/RuntimeException", "java/lang/Exception"]).filter goodWord, w ∈ WS := by
  intro w hw
  exact (List.all_eq_true.mp (show ((vx_atS RX9 77 "java/lang/IndexOutOfBoundsException" ["java/lang/RuntimeException", "java/lang/Exception"]).filter goodWord).all (fun w => decide (w ∈ WS)) = true by decide +kernel) w hw |> of_decide_eq_true)
theorem wt_95 : ∀ w ∈ (vx_atS RX9 95 "java/lang/IllegalArgumentException" ["java/lang/RuntimeException", "java/lang/Exception"]).filter goodWord, w ∈ WS := by
  intro w hw
  exact (List.all_eq_true.mp (show ((vx_atS RX9 95 "java/lang/IllegalArgumentException" ["java/lang/RuntimeException", "java/lang/Exception"]).filter goodWord).all (fun w => decide (w ∈ WS)) = true by decide +kernel) w hw |> of_decide_eq_true)
