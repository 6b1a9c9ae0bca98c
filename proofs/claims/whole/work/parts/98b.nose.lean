/-! ===== new NoSuchElementException(text) ===== -/
abbrev nsN : String := "java/util/NoSuchElementException"
abbrev rtN : String := "java/lang/RuntimeException"
/-- the words about it: those of any such class but for its constructor's pool entry -/
def nsA : List Cond := (Bundle.ownAtoms RX9 339 nsN exN).filter (fun w => !decide (w ∈ Bundle.passSAtoms nsN rtN 7 Bundle.six)) ++ Bundle.passSAtoms nsN rtN 13 prog_31_method_4_code
theorem ns_sub {L : List Cond} (h : L.all (fun w => decide (w ∈ nsA)) = true) {args : Array Value} {s : State} (g : ∀ w ∈ nsA, w.before args s = true) : ∀ w ∈ L, w.before args s = true := fun w hw => g w (of_decide_eq_true (List.all_eq_true.mp h w hw))
theorem ns_t : Bundle.throwableAtoms.all (fun w => decide (w ∈ nsA)) = true := by decide +kernel
theorem ns_s : Bundle.throwableSAtoms.all (fun w => decide (w ∈ nsA)) = true := by decide +kernel
theorem ns_p : (Bundle.passSAtoms nsN rtN 13 prog_31_method_4_code).all (fun w => decide (w ∈ nsA)) = true := by decide +kernel
theorem ns_c : (Bundle.chainSAtoms rtN ["java/lang/Exception"]).all (fun w => decide (w ∈ nsA)) = true := by decide +kernel
theorem ns_ws : ((nsA.filter vx_no).filter goodWord).all (fun w => decide (w ∈ WS)) = true := by decide +kernel
theorem ns_nw : ((nsA.filter vx_no).filter (fun w => !goodWord w)).all (fun w => decide (w ∈ nestW)) = true := by decide +kernel
theorem ns_ot : ∀ w ∈ Cond.classLink RX9 335 nsN :: Cond.initialized nsN :: nsA.filter vx_no, vx_ot w = true := by decide +kernel
theorem ns_ini : (decide (Cond.initialized nsN ∈ WS)) = true := by decide +kernel
theorem ns_0 : decode prog_31_method_4_code 0 = .ok (.aload_n 0, 1) := by decide +kernel
theorem ns_1 : decode prog_31_method_4_code 1 = .ok (.aload_n 1, 1) := by decide +kernel
theorem ns_2 : decode prog_31_method_4_code 2 = .ok (.invokespecial 13, 3) := by decide +kernel
theorem ns_5 : decode prog_31_method_4_code 5 = .ok (.return_, 1) := by decide +kernel
