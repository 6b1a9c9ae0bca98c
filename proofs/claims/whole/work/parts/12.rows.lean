section CB
variable {KS : List Kd} {ST : StrT} {own : String} {cc : ByteArray} {nL : Nat} {ret : Option FieldType} {d : Nat} {ρ : Type} {tx : Bool} {FN : FNt ρ} {cost : ρ → Nat × Nat} {pc : Nat} {ls : List (Nat × AV)} {st : List AV} {M : Mem} {o o1 o2 : Option (ρ × Mem)}
/-! branches: two goals, each under its condition -/
theorem c_br {b : Prop} [Decidable b] {pt pf : Nat} {st0 : List AV} (h : ∀ (p : Program) (l : Launch) (e : Env) (s : State) (m : MethodId) (args : Array Value) (below : List Frame) (meth : Method) (c : Code) (wp : Wp) (H : Heap) (locs : List Loc) (la : Array Slot) (R : Room) (Q : State → Prop),
      Cx KS ST own cc nL ret tx p l s m args meth c wp →
      (b → W p l e R s m args below meth c H locs 0 0 Q (F0 m pt la (trs wp st))) → (¬ b → W p l e R s m args below meth c H locs 0 0 Q (F0 m pf la (trs wp st))) → W p l e R s m args below meth c H locs 0 0 Q (F0 m pc la (trs wp st0)))
    (kt : b → Cor KS ST own cc nL ret d tx FN cost pt ls st M o1) (kf : ¬ b → Cor KS ST own cc nL ret d tx FN cost pf ls st M o2) : Cor KS ST own cc nL ret d tx FN cost pc ls st0 M (if b then o1 else o2) := by
  intro p l e s m args below meth c wp H locs la r M' C hP hS hl hn ho
  refine h p l e s m args below meth c wp H locs la _ _ C (fun hb => ?_) (fun hb => ?_)
  · exact kt hb p l e s m args below meth c wp H locs la r M' C hP hS hl hn (by rw [if_pos hb] at ho; exact ho)
  · exact kf hb p l e s m args below meth c wp H locs la r M' C hP hS hl hn (by rw [if_neg hb] at ho; exact ho)
theorem c_if_eq {x : Int32} {off : Int} {tgt : Nat} (hd : decode cc pc = .ok (.ifCond .eq off, 3)) (ht : (pc : Int) + off = (tgt : Int)) (kt : x = 0 → Cor KS ST own cc nL ret d tx FN cost tgt ls st M o1) (kf : ¬ x = 0 → Cor KS ST own cc nL ret d tx FN cost (pc + 3) ls st M o2) : Cor KS ST own cc nL ret d tx FN cost pc ls (.inl x :: st) M (if x = 0 then o1 else o2) :=
  c_br (fun _ _ _ _ _ _ _ _ _ _ _ _ _ _ _ C kt kf => lv_if_eq C.1 C.2.1 hd ht kt kf) kt kf
theorem c_if_ne {x : Int32} {off : Int} {tgt : Nat} (hd : decode cc pc = .ok (.ifCond .ne off, 3)) (ht : (pc : Int) + off = (tgt : Int)) (kt : ¬ x = 0 → Cor KS ST own cc nL ret d tx FN cost tgt ls st M o1) (kf : ¬ ¬ x = 0 → Cor KS ST own cc nL ret d tx FN cost (pc + 3) ls st M o2) : Cor KS ST own cc nL ret d tx FN cost pc ls (.inl x :: st) M (if ¬ x = 0 then o1 else o2) :=
  c_br (fun _ _ _ _ _ _ _ _ _ _ _ _ _ _ _ C kt kf => lv_if_ne C.1 C.2.1 hd ht kt (fun h => kf (fun q => q h))) kt kf
theorem c_if_lt {x : Int32} {off : Int} {tgt : Nat} (hd : decode cc pc = .ok (.ifCond .lt off, 3)) (ht : (pc : Int) + off = (tgt : Int)) (kt : x < 0 → Cor KS ST own cc nL ret d tx FN cost tgt ls st M o1) (kf : ¬ x < 0 → Cor KS ST own cc nL ret d tx FN cost (pc + 3) ls st M o2) : Cor KS ST own cc nL ret d tx FN cost pc ls (.inl x :: st) M (if x < 0 then o1 else o2) :=
  c_br (fun _ _ _ _ _ _ _ _ _ _ _ _ _ _ _ C kt kf => lv_if_lt C.1 C.2.1 hd ht kt kf) kt kf
theorem c_if_ge {x : Int32} {off : Int} {tgt : Nat} (hd : decode cc pc = .ok (.ifCond .ge off, 3)) (ht : (pc : Int) + off = (tgt : Int)) (kt : 0 ≤ x → Cor KS ST own cc nL ret d tx FN cost tgt ls st M o1) (kf : ¬ 0 ≤ x → Cor KS ST own cc nL ret d tx FN cost (pc + 3) ls st M o2) : Cor KS ST own cc nL ret d tx FN cost pc ls (.inl x :: st) M (if 0 ≤ x then o1 else o2) :=
  c_br (fun _ _ _ _ _ _ _ _ _ _ _ _ _ _ _ C kt kf => lv_if_ge C.1 C.2.1 hd ht kt kf) kt kf
theorem c_if_gt {x : Int32} {off : Int} {tgt : Nat} (hd : decode cc pc = .ok (.ifCond .gt off, 3)) (ht : (pc : Int) + off = (tgt : Int)) (kt : 0 < x → Cor KS ST own cc nL ret d tx FN cost tgt ls st M o1) (kf : ¬ 0 < x → Cor KS ST own cc nL ret d tx FN cost (pc + 3) ls st M o2) : Cor KS ST own cc nL ret d tx FN cost pc ls (.inl x :: st) M (if 0 < x then o1 else o2) :=
  c_br (fun _ _ _ _ _ _ _ _ _ _ _ _ _ _ _ C kt kf => lv_if_gt C.1 C.2.1 hd ht kt kf) kt kf
theorem c_if_le {x : Int32} {off : Int} {tgt : Nat} (hd : decode cc pc = .ok (.ifCond .le off, 3)) (ht : (pc : Int) + off = (tgt : Int)) (kt : x ≤ 0 → Cor KS ST own cc nL ret d tx FN cost tgt ls st M o1) (kf : ¬ x ≤ 0 → Cor KS ST own cc nL ret d tx FN cost (pc + 3) ls st M o2) : Cor KS ST own cc nL ret d tx FN cost pc ls (.inl x :: st) M (if x ≤ 0 then o1 else o2) :=
  c_br (fun _ _ _ _ _ _ _ _ _ _ _ _ _ _ _ C kt kf => lv_if_le C.1 C.2.1 hd ht kt kf) kt kf
theorem c_icmp_eq {x y : Int32} {off : Int} {tgt : Nat} (hd : decode cc pc = .ok (.if_icmp .eq off, 3)) (ht : (pc : Int) + off = (tgt : Int)) (kt : x = y → Cor KS ST own cc nL ret d tx FN cost tgt ls st M o1) (kf : ¬ x = y → Cor KS ST own cc nL ret d tx FN cost (pc + 3) ls st M o2) : Cor KS ST own cc nL ret d tx FN cost pc ls (.inl y :: .inl x :: st) M (if x = y then o1 else o2) :=
  c_br (fun _ _ _ _ _ _ _ _ _ _ _ _ _ _ _ C kt kf => lv_icmp_eq C.1 C.2.1 hd ht kt kf) kt kf
theorem c_icmp_ne {x y : Int32} {off : Int} {tgt : Nat} (hd : decode cc pc = .ok (.if_icmp .ne off, 3)) (ht : (pc : Int) + off = (tgt : Int)) (kt : ¬ x = y → Cor KS ST own cc nL ret d tx FN cost tgt ls st M o1) (kf : ¬ ¬ x = y → Cor KS ST own cc nL ret d tx FN cost (pc + 3) ls st M o2) : Cor KS ST own cc nL ret d tx FN cost pc ls (.inl y :: .inl x :: st) M (if ¬ x = y then o1 else o2) :=
  c_br (fun _ _ _ _ _ _ _ _ _ _ _ _ _ _ _ C kt kf => lv_icmp_ne C.1 C.2.1 hd ht kt (fun h => kf (fun q => q h))) kt kf
theorem c_icmp_lt {x y : Int32} {off : Int} {tgt : Nat} (hd : decode cc pc = .ok (.if_icmp .lt off, 3)) (ht : (pc : Int) + off = (tgt : Int)) (kt : x < y → Cor KS ST own cc nL ret d tx FN cost tgt ls st M o1) (kf : ¬ x < y → Cor KS ST own cc nL ret d tx FN cost (pc + 3) ls st M o2) : Cor KS ST own cc nL ret d tx FN cost pc ls (.inl y :: .inl x :: st) M (if x < y then o1 else o2) :=
  c_br (fun _ _ _ _ _ _ _ _ _ _ _ _ _ _ _ C kt kf => lv_icmp_lt C.1 C.2.1 hd ht kt kf) kt kf
theorem c_icmp_ge {x y : Int32} {off : Int} {tgt : Nat} (hd : decode cc pc = .ok (.if_icmp .ge off, 3)) (ht : (pc : Int) + off = (tgt : Int)) (kt : y ≤ x → Cor KS ST own cc nL ret d tx FN cost tgt ls st M o1) (kf : ¬ y ≤ x → Cor KS ST own cc nL ret d tx FN cost (pc + 3) ls st M o2) : Cor KS ST own cc nL ret d tx FN cost pc ls (.inl y :: .inl x :: st) M (if y ≤ x then o1 else o2) :=
  c_br (fun _ _ _ _ _ _ _ _ _ _ _ _ _ _ _ C kt kf => lv_icmp_ge C.1 C.2.1 hd ht kt kf) kt kf
theorem c_icmp_gt {x y : Int32} {off : Int} {tgt : Nat} (hd : decode cc pc = .ok (.if_icmp .gt off, 3)) (ht : (pc : Int) + off = (tgt : Int)) (kt : y < x → Cor KS ST own cc nL ret d tx FN cost tgt ls st M o1) (kf : ¬ y < x → Cor KS ST own cc nL ret d tx FN cost (pc + 3) ls st M o2) : Cor KS ST own cc nL ret d tx FN cost pc ls (.inl y :: .inl x :: st) M (if y < x then o1 else o2) :=
  c_br (fun _ _ _ _ _ _ _ _ _ _ _ _ _ _ _ C kt kf => lv_icmp_gt C.1 C.2.1 hd ht kt kf) kt kf
theorem c_icmp_le {x y : Int32} {off : Int} {tgt : Nat} (hd : decode cc pc = .ok (.if_icmp .le off, 3)) (ht : (pc : Int) + off = (tgt : Int)) (kt : x ≤ y → Cor KS ST own cc nL ret d tx FN cost tgt ls st M o1) (kf : ¬ x ≤ y → Cor KS ST own cc nL ret d tx FN cost (pc + 3) ls st M o2) : Cor KS ST own cc nL ret d tx FN cost pc ls (.inl y :: .inl x :: st) M (if x ≤ y then o1 else o2) :=
  c_br (fun _ _ _ _ _ _ _ _ _ _ _ _ _ _ _ C kt kf => lv_icmp_le C.1 C.2.1 hd ht kt kf) kt kf
/-- a check that the pure function makes ahead of the machine: out of its range it answers nothing -/
theorem c_chk {b : Prop} [Decidable b] (k : b → Cor KS ST own cc nL ret d tx FN cost pc ls st M o) : Cor KS ST own cc nL ret d tx FN cost pc ls st M (if b then o else none) := by
  by_cases hb : b
  · rw [if_pos hb]; exact k hb
  · rw [if_neg hb]; exact c_none
/-- both ways lead on to one place with another value on the stack: the value is chosen, not the way -/
theorem c_val {b : Prop} [Decidable b] {v1 v2 : Int32} {F : Int32 → Option (ρ × Mem)} (kt : b → Cor KS ST own cc nL ret d tx FN cost pc ls st M (F v1)) (kf : ¬ b → Cor KS ST own cc nL ret d tx FN cost pc ls st M (F v2)) : Cor KS ST own cc nL ret d tx FN cost pc ls st M (F (if b then v1 else v2)) := by
  by_cases hb : b
  · rw [if_pos hb]; exact kt hb
  · rw [if_neg hb]; exact kf hb
/-- a switch: the key's place is known -/
theorem c_tableIn {dflt lo hi : Int} {offs : Array Int} {len : Nat} {x : Int32} {off : Int} {tgt : Nat} (hd : decode cc pc = .ok (.tableswitch dflt lo hi offs, len)) (h1 : ¬ x.toInt < lo) (h2 : ¬ hi < x.toInt) (ho : offs[(x.toInt - lo).toNat]? = some off) (ht : (pc : Int) + off = (tgt : Int)) (k : Cor KS ST own cc nL ret d tx FN cost tgt ls st M o) : Cor KS ST own cc nL ret d tx FN cost pc ls (.inl x :: st) M o :=
  c_step (fun _ _ _ _ _ _ _ _ _ _ _ _ _ _ _ C _ _ _ k => lv_tableIn C.1 C.2.1 hd h1 h2 ho ht k) k
theorem c_tableOut {dflt lo hi : Int} {offs : Array Int} {len : Nat} {x : Int32} {tgt : Nat} (hd : decode cc pc = .ok (.tableswitch dflt lo hi offs, len)) (h : x.toInt < lo ∨ hi < x.toInt) (ht : (pc : Int) + dflt = (tgt : Int)) (k : Cor KS ST own cc nL ret d tx FN cost tgt ls st M o) : Cor KS ST own cc nL ret d tx FN cost pc ls (.inl x :: st) M o :=
  c_step (fun _ _ _ _ _ _ _ _ _ _ _ _ _ _ _ C _ _ _ k => lv_tableOut C.1 C.2.1 hd h ht k) k
theorem c_lookup {dflt : Int} {ps : Array (Int × Int)} {len : Nat} {x : Int32} {off : Int} {tgt : Nat} (hd : decode cc pc = .ok (.lookupswitch dflt ps, len)) (hp : (ps.toList.zip (ps.toList.drop 1)).all (fun (a, next) => a.1 < next.1) = true) (ho : Op.lookupswitch.offset ps.toList dflt x.toInt = off) (ht : (pc : Int) + off = (tgt : Int)) (k : Cor KS ST own cc nL ret d tx FN cost tgt ls st M o) : Cor KS ST own cc nL ret d tx FN cost pc ls (.inl x :: st) M o :=
  c_step (fun _ _ _ _ _ _ _ _ _ _ _ _ _ _ _ C _ _ _ k => lv_lookup C.1 C.2.1 hd hp ho ht k) k
/-! fields and arrays -/
theorem cl_at {ci : Nat} {q : vw_C} (h : clX[ci]? = some q) : q.2.2 = nFl.getD ci 0 := by
  rcases ci with _ | _ | _ | _ | _ | _ | _ | _ | _ | _ | _ | ci <;> first | (cases h; rfl) | (simp [clX] at h)
theorem ent_obj {wp : Wp} {t ci n : Nat} {f : Nat → Int32} (h : ci < 20) : ent wp t (ci, n) f = .inr (ci, (List.range (nFl.getD ci 0)).map (fv wp t ci f)) := by simp [ent, h]
theorem obj_at {wp : Wp} {t ci n : Nat} (h : KS[t]? = some (ci, n)) (hc : ci < 20) : (wl KS wp M)[t]? = some (wp.1 t, .inr (ci, (List.range (nFl.getD ci 0)).map (fv wp t ci (M t)))) := by rw [wl_get h, ent_obj hc]
theorem c_getfield {t ci n0 idx k : Nat} {q : vw_C} {v : AV} {tgt : String} (hK : KS[t]? = some (ci, n0)) (hq : clX[ci]? = some q) (hk : k < q.2.2) (hci : ci < 20) (hin : ∀ w ∈ u_ws q.1 q.2.1 q.2.2, w ∈ WS) (hw : Cond.fieldLink own idx (q.2.1 k).1 (q.2.1 k).2.1 (q.2.1 k).2.2.1 ∈ WS)
    (hv : ∀ wp : Wp, fv wp t ci (M t) k = tr wp v) (hd : decode cc pc = .ok (.getfield idx, 3)) (kk : Cor KS ST own cc nL ret d tx FN cost (pc + 3) ls (v :: st) M o) : Cor KS ST own cc nL ret d tx FN cost pc ls (.inr t :: st) M o := by
  refine c_step (fun p l e s m args below meth c wp H locs la r Q C hP hS hl kk => ?_) kk
  obtain ⟨hx, hb, hr, hml, hown, hts, hlk, hKK, hE, ok, hbz, -⟩ := C
  refine va_get (C := q.1) (T := q.2.1) (N := q.2.2) hx hb hts hin hown hKK hP t (obj_at hK hci) hq k hk (hts _ hw) (fun x h => h) (v := tr wp v) ?_ hd kk
  rw [List.getElem?_map, List.getElem?_range (by rw [← cl_at hq]; exact hk)]
  simp [hv wp]
theorem c_getI {t ci n0 idx k : Nat} {q : vw_C} (hK : KS[t]? = some (ci, n0)) (hq : clX[ci]? = some q) (hk : k < q.2.2) (hci : ci < 20) (hin : ∀ w ∈ u_ws q.1 q.2.1 q.2.2, w ∈ WS) (hw : Cond.fieldLink own idx (q.2.1 k).1 (q.2.1 k).2.1 (q.2.1 k).2.2.1 ∈ WS) (hl : lay ci k = 0 ∨ lay ci k = 1) (hd : decode cc pc = .ok (.getfield idx, 3)) (kk : Cor KS ST own cc nL ret d tx FN cost (pc + 3) ls (.inl (M t k) :: st) M o) : Cor KS ST own cc nL ret d tx FN cost pc ls (.inr t :: st) M o :=
  c_getfield (tgt := "") hK hq hk hci hin hw (fun wp => by rcases hl with h | h <;> simp [fv, h, tr]) hd kk
theorem c_getF {t ci n0 idx k n : Nat} {q : vw_C} (hK : KS[t]? = some (ci, n0)) (hq : clX[ci]? = some q) (hk : k < q.2.2) (hci : ci < 20) (hin : ∀ w ∈ u_ws q.1 q.2.1 q.2.2, w ∈ WS) (hw : Cond.fieldLink own idx (q.2.1 k).1 (q.2.1 k).2.1 (q.2.1 k).2.2.1 ∈ WS) (hl : lay ci k = n + 3) (hd : decode cc pc = .ok (.getfield idx, 3)) (kk : Cor KS ST own cc nL ret d tx FN cost (pc + 3) ls (.inr (t + n) :: st) M o) : Cor KS ST own cc nL ret d tx FN cost pc ls (.inr t :: st) M o :=
  c_getfield (tgt := "") hK hq hk hci hin hw (fun wp => by simp [fv, hl, tr]) hd kk
theorem c_getM {t ci n0 idx k : Nat} {q : vw_C} (hK : KS[t]? = some (ci, n0)) (hq : clX[ci]? = some q) (hk : k < q.2.2) (hci : ci < 20) (hin : ∀ w ∈ u_ws q.1 q.2.1 q.2.2, w ∈ WS) (hw : Cond.fieldLink own idx (q.2.1 k).1 (q.2.1 k).2.1 (q.2.1 k).2.2.1 ∈ WS) (hl : lay ci k = 2) (h0 : ¬ M t k < 0) (hd : decode cc pc = .ok (.getfield idx, 3)) (kk : Cor KS ST own cc nL ret d tx FN cost (pc + 3) ls (.inr (ix (M t k)) :: st) M o) : Cor KS ST own cc nL ret d tx FN cost pc ls (.inr t :: st) M o :=
  c_getfield (tgt := "") hK hq hk hci hin hw (fun wp => by simp [fv, hl, tr, h0]) hd kk
theorem c_alen {a tg n : Nat} {v : Int32} (hK : KS[a]? = some (tg, n)) (ht : tg = 20 ∨ tg = 21) (hv : Int32.ofNat n = v) (hd : decode cc pc = .ok (.arraylength, 1)) (kk : Cor KS ST own cc nL ret d tx FN cost (pc + 1) ls (.inl v :: st) M o) : Cor KS ST own cc nL ret d tx FN cost pc ls (.inr a :: st) M o := by
  refine c_step (fun p l e s m args below meth c wp H locs la r Q C hP hS hl kk => ?_) kk
  obtain ⟨hx, hb, hr, hml, hown, hts, hlk, hKK, hE, ok, hbz, -⟩ := C
  rcases ht with rfl | rfl
  · exact va_alen hx hb hKK hP a 0 (wl_get hK) rfl hv hd kk
  · exact va_alen hx hb hKK hP a 1 (wl_get hK) rfl hv hd kk
theorem c_iald {a n : Nat} {i : Int32} (hK : KS[a]? = some (20, n)) (hi : inb i n) (hd : decode cc pc = .ok (.iaload, 1)) (kk : Cor KS ST own cc nL ret d tx FN cost (pc + 1) ls (.inl (M a (ix i)) :: st) M o) : Cor KS ST own cc nL ret d tx FN cost pc ls (.inl i :: .inr a :: st) M o := by
  refine c_step (fun p l e s m args below meth c wp H locs la r Q C hP hS hl kk => ?_) kk
  obtain ⟨hx, hb, hr, hml, hown, hts, hlk, hKK, hE, ok, hbz, -⟩ := C
  exact va_iald hx hb hKK hP a 0 (wl_get hK) rfl hi hd kk
theorem c_zald {a n : Nat} {i : Int32} (hK : KS[a]? = some (21, n)) (hi : inb i n) (hd : decode cc pc = .ok (.baload, 1)) (kk : Cor KS ST own cc nL ret d tx FN cost (pc + 1) ls (.inl (M a (ix i)) :: st) M o) : Cor KS ST own cc nL ret d tx FN cost pc ls (.inl i :: .inr a :: st) M o := by
  refine c_step (fun p l e s m args below meth c wp H locs la r Q C hP hS hl kk => ?_) kk
  obtain ⟨hx, hb, hr, hml, hown, hts, hlk, hKK, hE, ok, hbz, -⟩ := C
  exact va_zald hx hb hKK hP a 1 (wl_get hK) rfl hi hd kk
/-- an element of State[] or Times[] -/
theorem c_aald22 {a n : Nat} {i : Int32} (hK : KS[a]? = some (22, n)) (hi : inb i n) (hd : decode cc pc = .ok (.aaload, 1)) (kk : Cor KS ST own cc nL ret d tx FN cost (pc + 1) ls (.inr (a + (1 + 20 * ix i)) :: st) M o) : Cor KS ST own cc nL ret d tx FN cost pc ls (.inl i :: .inr a :: st) M o := by
  refine c_step (fun p l e s m args below meth c wp H locs la r Q C hP hS hl kk => ?_) kk
  obtain ⟨hx, hb, hr, hml, hown, hts, hlk, hKK, hE, ok, hbz, -⟩ := C
  exact va_aldq hx hb hKK hP a 2 (wl_get hK) rfl hi hd kk
theorem c_aald23 {a n : Nat} {i : Int32} (hK : KS[a]? = some (23, n)) (hi : inb i n) (hd : decode cc pc = .ok (.aaload, 1)) (kk : Cor KS ST own cc nL ret d tx FN cost (pc + 1) ls (.inr (a + (1 + 8 * ix i)) :: st) M o) : Cor KS ST own cc nL ret d tx FN cost pc ls (.inl i :: .inr a :: st) M o := by
  refine c_step (fun p l e s m args below meth c wp H locs la r Q C hP hS hl kk => ?_) kk
  obtain ⟨hx, hb, hr, hml, hown, hts, hlk, hKK, hE, ok, hbz, -⟩ := C
  exact va_aldq hx hb hKK hP a 3 (wl_get hK) rfl hi hd kk
theorem c_iast {a n : Nat} {i x : Int32} (hK : KS[a]? = some (20, n)) (hi : inb i n) (hd : decode cc pc = .ok (.iastore, 1)) (kk : Cor KS ST own cc nL ret d tx FN cost (pc + 1) ls st (up M a (ix i) x) o) : Cor KS ST own cc nL ret d tx FN cost pc ls (.inl x :: .inl i :: .inr a :: st) M o := by
  intro p l e s m args below meth c wp H locs la r M' C hP hS hl hn ho
  obtain ⟨hx, hb, hr, hml, hown, hts, hlk, hKK, hE, ok, hbz, -⟩ := id C
  refine va_iast hx hb hKK hP (wl_D ok M _) hS a 0 (wl_get hK) rfl hi hd (fun H1 locs1 hP1 _ hS1 => ?_)
  refine kk p l e s m args below meth c wp H1 locs1 la r M' C ?_ hS1 hl hn ho
  rw [up_A, ← wl_set (wp := wp) hK]
  exact hP1
theorem nar_b {x : Int32} (h : isB x) : vp_nar .boolean x = x := by rcases h with rfl | rfl <;> rfl
theorem c_zast {a n : Nat} {i x : Int32} (hK : KS[a]? = some (21, n)) (hi : inb i n) (hx1 : isB x) (hd : decode cc pc = .ok (.bastore, 1)) (kk : Cor KS ST own cc nL ret d tx FN cost (pc + 1) ls st (up M a (ix i) x) o) : Cor KS ST own cc nL ret d tx FN cost pc ls (.inl x :: .inl i :: .inr a :: st) M o := by
  intro p l e s m args below meth c wp H locs la r M' C hP hS hl hn ho
  obtain ⟨hx, hb, hr, hml, hown, hts, hlk, hKK, hE, ok, hbz, -⟩ := id C
  refine va_zast hx hb hKK hP (wl_D ok M _) hS a 1 (wl_get hK) rfl hi hd (fun H1 locs1 hP1 _ hS1 => ?_)
  refine kk p l e s m args below meth c wp H1 locs1 la r M' C ?_ hS1 hl hn ho
  rw [nar_b hx1] at hP1
  rw [up_A, ← wl_set (wp := wp) hK]
  exact hP1
theorem fv_set {wp : Wp} {t ci k N : Nat} {f : Nat → Int32} {x : Int32} {v : Value} (hv : fv wp t ci (upd f k x) k = v) : ((List.range N).map (fv wp t ci f)).set k v = (List.range N).map (fv wp t ci (upd f k x)) := by
  apply List.ext_getElem?
  intro j
  by_cases hj : j = k
  · subst hj
    by_cases hN : j < N
    · rw [List.getElem?_set_self (by simpa using hN), List.getElem?_map, List.getElem?_range hN]
      simp [hv]
    · simp [hN]
  · rw [List.getElem?_set_ne (fun q => hj q.symm), List.getElem?_map, List.getElem?_map]
    have : fv wp t ci (upd f k x) j = fv wp t ci f j := by
      have h1 : upd f k x j = f j := by simp [upd, hj]
      simp only [fv, h1]
    cases h : (List.range N)[j]? with
    | none => rfl
    | some z =>
      have hz : z = j := by
        have := List.getElem?_eq_some_iff.mp h
        obtain ⟨h1, h2⟩ := this
        simpa using h2.symm
      subst hz
      simp [this]
theorem c_putfield {t ci n0 idx k : Nat} {q : vw_C} {x : Int32} {v : AV} {ty : FieldType} {ty0 : Nat → FieldType} (hK : KS[t]? = some (ci, n0)) (hq : clX[ci]? = some q) (hk : k < q.2.2) (hci : ci < 20) (hin : ∀ w ∈ u_ws q.1 q.2.1 q.2.2, w ∈ WS) (hw : Cond.fieldLink own idx (q.2.1 k).1 (q.2.1 k).2.1 (q.2.1 k).2.2.1 ∈ WS) (hty : ∀ k, k < q.2.2 → parseFieldDescriptor (q.2.1 k).2.2.1 = some (ty0 k)) (hnm : ∀ a, a < q.2.2 → ∀ b, b < q.2.2 → a ≠ b → (q.2.1 a).2.1 ≠ (q.2.1 b).2.1) (hfin : (q.2.1 k).2.2.2 = false) (hpd : parseFieldDescriptor (q.2.1 k).2.2.1 = some ty)
    (hn : ∀ wp : Wp, narrow ty (tr wp v) = tr wp v) (hfit : ∀ wp : Wp, fits ty (tr wp v) = true) (hv : ∀ wp : Wp, fv wp t ci (upd (M t) k x) k = tr wp v) (hd : decode cc pc = .ok (.putfield idx, 3)) (kk : Cor KS ST own cc nL ret d tx FN cost (pc + 3) ls st (up M t k x) o) : Cor KS ST own cc nL ret d tx FN cost pc ls (v :: .inr t :: st) M o := by
  intro p l e s m args below meth c wp H locs la r M' C hP hS hl hnd ho
  obtain ⟨hx, hb, hr, hml, hown, hts, hlk, hKK, hE, ok, hbz, -⟩ := id C
  refine va_put (C := q.1) (T := q.2.1) (N := q.2.2) hx hb hts hin ty0 hty hnm hown hKK hP (wl_D ok M _) hS t (obj_at hK hci) hq k hk (hts _ hw) (fun x h => h) hfin hpd (hn wp) (hfit wp) (by rw [List.length_map, List.length_range, ← cl_at hq]; exact hk) hd (fun H1 locs1 hP1 _ hS1 => ?_)
  refine kk p l e s m args below meth c wp H1 locs1 la r M' C ?_ hS1 hl hnd ho
  rw [fv_set (hv wp)] at hP1
  rw [up_A, ← wl_set (wp := wp) hK, ent_obj hci]
  exact hP1
theorem c_putI {t ci n0 idx k : Nat} {q : vw_C} {x : Int32} {ty0 : Nat → FieldType} (hK : KS[t]? = some (ci, n0)) (hq : clX[ci]? = some q) (hk : k < q.2.2) (hci : ci < 20) (hin : ∀ w ∈ u_ws q.1 q.2.1 q.2.2, w ∈ WS) (hw : Cond.fieldLink own idx (q.2.1 k).1 (q.2.1 k).2.1 (q.2.1 k).2.2.1 ∈ WS) (hty : ∀ k, k < q.2.2 → parseFieldDescriptor (q.2.1 k).2.2.1 = some (ty0 k)) (hnm : ∀ a, a < q.2.2 → ∀ b, b < q.2.2 → a ≠ b → (q.2.1 a).2.1 ≠ (q.2.1 b).2.1) (hfin : (q.2.1 k).2.2.2 = false) (hpd : parseFieldDescriptor (q.2.1 k).2.2.1 = some .int) (hl : lay ci k = 0) (hd : decode cc pc = .ok (.putfield idx, 3)) (kk : Cor KS ST own cc nL ret d tx FN cost (pc + 3) ls st (up M t k x) o) : Cor KS ST own cc nL ret d tx FN cost pc ls (.inl x :: .inr t :: st) M o :=
  c_putfield hK hq hk hci hin hw hty hnm hfin hpd (fun _ => rfl) (fun _ => rfl) (fun wp => by simp [fv, hl, tr, upd]) hd kk
theorem c_putZ {t ci n0 idx k : Nat} {q : vw_C} {x : Int32} {ty0 : Nat → FieldType} (hK : KS[t]? = some (ci, n0)) (hq : clX[ci]? = some q) (hk : k < q.2.2) (hci : ci < 20) (hin : ∀ w ∈ u_ws q.1 q.2.1 q.2.2, w ∈ WS) (hw : Cond.fieldLink own idx (q.2.1 k).1 (q.2.1 k).2.1 (q.2.1 k).2.2.1 ∈ WS) (hty : ∀ k, k < q.2.2 → parseFieldDescriptor (q.2.1 k).2.2.1 = some (ty0 k)) (hnm : ∀ a, a < q.2.2 → ∀ b, b < q.2.2 → a ≠ b → (q.2.1 a).2.1 ≠ (q.2.1 b).2.1) (hfin : (q.2.1 k).2.2.2 = false) (hpd : parseFieldDescriptor (q.2.1 k).2.2.1 = some .boolean) (hl : lay ci k = 1) (hxb : isB x) (hd : decode cc pc = .ok (.putfield idx, 3)) (kk : Cor KS ST own cc nL ret d tx FN cost (pc + 3) ls st (up M t k x) o) : Cor KS ST own cc nL ret d tx FN cost pc ls (.inl x :: .inr t :: st) M o :=
  c_putfield hK hq hk hci hin hw hty hnm hfin hpd (fun _ => by rcases hxb with rfl | rfl <;> rfl) (fun _ => by rcases hxb with rfl | rfl <;> rfl) (fun wp => by simp [fv, hl, tr, upd]) hd kk
theorem c_putM {t ci n0 idx k x : Nat} {q : vw_C} {C1 : String} {ty0 : Nat → FieldType} (hK : KS[t]? = some (ci, n0)) (hq : clX[ci]? = some q) (hk : k < q.2.2) (hci : ci < 20) (hin : ∀ w ∈ u_ws q.1 q.2.1 q.2.2, w ∈ WS) (hw : Cond.fieldLink own idx (q.2.1 k).1 (q.2.1 k).2.1 (q.2.1 k).2.2.1 ∈ WS) (hty : ∀ k, k < q.2.2 → parseFieldDescriptor (q.2.1 k).2.2.1 = some (ty0 k)) (hnm : ∀ a, a < q.2.2 → ∀ b, b < q.2.2 → a ≠ b → (q.2.1 a).2.1 ≠ (q.2.1 b).2.1) (hfin : (q.2.1 k).2.2.2 = false) (hpd : parseFieldDescriptor (q.2.1 k).2.2.1 = some (.object C1)) (hl : lay ci k = 2) (hx31 : x < 2 ^ 31) (hd : decode cc pc = .ok (.putfield idx, 3)) (kk : Cor KS ST own cc nL ret d tx FN cost (pc + 3) ls st (up M t k (nI x)) o) : Cor KS ST own cc nL ret d tx FN cost pc ls (.inr x :: .inr t :: st) M o :=
  c_putfield hK hq hk hci hin hw hty hnm hfin hpd (fun _ => rfl) (fun _ => rfl) (fun wp => by
    have h1 : ¬ nI x < 0 := nI_pos hx31
    have h2 : ix (nI x) = x := nI_clamp hx31
    simp [fv, hl, tr, upd, h1, h2]) hd kk
end CB
