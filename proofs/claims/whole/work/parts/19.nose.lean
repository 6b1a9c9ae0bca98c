section NSE
variable {KS : List Kd} {ST : StrT} {cc : ByteArray} {nL : Nat} {ret : Option FieldType} {d : Nat} {pc : Nat} {ls : List (Nat × AV)} {st : List AV} {M : Mem}
/-- OPEN: new NoSuchElementException(text) (its constructor passes on by the pool's entry 13, not 7) -/
theorem th_nsw {text : String} {is sid : Nat} (hm : (RX9, is, text, sid) ∈ ST) (hd6 : 6 ≤ d) (hrs : st.length ≤ 8) (d0 : decode cc pc = .ok (.new 335, 3)) (d3 : decode cc (pc + 3) = .ok (.dup, 1)) (d4 : decode cc (pc + 4) = .ok (.ldc_w is, 3)) (d6 : decode cc (pc + 7) = .ok (.invokespecial 339, 3)) (d9 : decode cc (pc + 10) = .ok (.athrow, 1)) : CorX KS ST RX9 cc nL ret d pc ls st M (some (.inr "java/util/NoSuchElementException", M)) := by
  sorry
end NSE
