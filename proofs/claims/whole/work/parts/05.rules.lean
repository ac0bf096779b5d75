/-! RULES, one an instruction -/
theorem aj_ri {x : Int} (h : -2147483648 ≤ x ∧ x < 2147483648) : (Int32.ofInt x).toInt = x := Int32.toInt_ofInt_of_le (by omega) (by omega)
theorem aj_rl {x : Int} (h : -9223372036854775808 ≤ x ∧ x < 9223372036854775808) : (Int64.ofInt x).toInt = x := Int64.toInt_ofInt_of_le (by omega) (by omega)
theorem aj_eq {x y : Int} (hx : -2147483648 ≤ x ∧ x < 2147483648) (hy : -2147483648 ≤ y ∧ y < 2147483648) : Int32.ofInt x = Int32.ofInt y ↔ x = y := by rw [← Int32.toInt_inj, aj_ri hx, aj_ri hy]
theorem aj_lt {x y : Int} (hx : -2147483648 ≤ x ∧ x < 2147483648) (hy : -2147483648 ≤ y ∧ y < 2147483648) : Int32.ofInt x < Int32.ofInt y ↔ x < y := by rw [Int32.lt_iff_toInt_lt, aj_ri hx, aj_ri hy]
theorem aj_le {x y : Int} (hx : -2147483648 ≤ x ∧ x < 2147483648) (hy : -2147483648 ≤ y ∧ y < 2147483648) : Int32.ofInt x ≤ Int32.ofInt y ↔ x ≤ y := by rw [Int32.le_iff_toInt_le, aj_ri hx, aj_ri hy]
theorem aj_eql {x y : Int} (hx : -9223372036854775808 ≤ x ∧ x < 9223372036854775808) (hy : -9223372036854775808 ≤ y ∧ y < 9223372036854775808) : Int64.ofInt x = Int64.ofInt y ↔ x = y := by rw [← Int64.toInt_inj, aj_rl hx, aj_rl hy]
theorem aj_ltl {x y : Int} (hx : -9223372036854775808 ≤ x ∧ x < 9223372036854775808) (hy : -9223372036854775808 ≤ y ∧ y < 9223372036854775808) : Int64.ofInt x < Int64.ofInt y ↔ x < y := by rw [Int64.lt_iff_toInt_lt, aj_rl hx, aj_rl hy]
theorem aj_lel {x y : Int} (hx : -9223372036854775808 ≤ x ∧ x < 9223372036854775808) (hy : -9223372036854775808 ≤ y ∧ y < 9223372036854775808) : Int64.ofInt x ≤ Int64.ofInt y ↔ x ≤ y := by rw [Int64.le_iff_toInt_le, aj_rl hx, aj_rl hy]
theorem aj_0 : (0 : Int32) = Int32.ofInt 0 := rfl
theorem aj_in {i : Int} {n : Nat} (h : 0 ≤ i ∧ i < n) (hn : n < 2147483648) : vp_in (Int32.ofInt i) n := by
  rw [vp_in_iff, aj_ri (by omega)]
  exact h
theorem aj_cl {i : Int} (h : 0 ≤ i ∧ i < 2147483648) : (Int32.ofInt i).toNatClampNeg = i.toNat := Int32.toNatClampNeg_ofInt_of_le (by omega) (by omega)
def aj_kill (lv : List (Option aj_V)) : Nat → List (Option aj_V)
  | 0 => lv
  | i + 1 => match lv[i]? with
    | some (some (.inr (.inl _))) => lv.set i none
    | _ => lv
def aj_s1 (lv : List (Option aj_V)) (i : Nat) (v : aj_V) : List (Option aj_V) := (aj_kill lv i).set i (some v)
def aj_s2 (lv : List (Option aj_V)) (i : Nat) (v : aj_V) : List (Option aj_V) := ((aj_kill lv i).set i (some v)).set (i + 1) none
theorem aj_kill_at {lv : List (Option aj_V)} {i j : Nat} {w : aj_V} (h : (aj_kill lv i)[j]? = some (some w)) : lv[j]? = some (some w) ∧ ∀ z : Int, w = vL z → j + 1 ≠ i := by
  cases i with
  | zero => exact ⟨h, fun _ _ => by omega⟩
  | succ i =>
    simp only [aj_kill] at h
    split at h
    next z hz =>
      by_cases hj : j = i
      · subst hj
        rw [List.getElem?_set] at h
        simp only [if_true] at h
        split at h <;> simp at h
      · rw [List.getElem?_set_ne (Ne.symm hj)] at h
        exact ⟨h, fun _ _ => by omega⟩
    next hz =>
      refine ⟨h, fun z e q => ?_⟩
      have hj : j = i := by omega
      subst hj
      subst e
      exact hz z h
def aj_al (E : aj_E) (lv : List (Option aj_V)) : List (Nat × Value) := (List.range lv.length).filterMap fun i => (lv[i]?.join).map fun v => (i, aj_c E v)
theorem aj_al_mem {E : aj_E} {lv : List (Option aj_V)} {i : Nat} {v : aj_V} (h : lv[i]? = some (some v)) : (i, aj_c E v) ∈ aj_al E lv := by
  refine List.mem_filterMap.mpr ⟨i, List.mem_range.mpr (List.getElem?_eq_some_iff.mp h).1, ?_⟩
  rw [h]
  rfl
theorem aj_al_of {E : aj_E} {lv : List (Option aj_V)} {q : Nat × Value} (h : q ∈ aj_al E lv) : ∃ (i : Nat) (v : aj_V), lv[i]? = some (some v) ∧ q = (i, aj_c E v) := by
  obtain ⟨i, -, hi⟩ := List.mem_filterMap.mp h
  cases hv : lv[i]? with
  | none => rw [hv] at hi; cases hi
  | some o =>
    cases o with
    | none => rw [hv] at hi; cases hi
    | some v => rw [hv] at hi; exact ⟨i, v, hv, (Option.some.inj hi).symm⟩
theorem aj_L.has {E : aj_E} {nL : Nat} {ls : Array Slot} {lv : List (Option aj_V)} (h : aj_L E nL ls lv) : lv_has ls nL (aj_al E lv) := ⟨h.1, h.2.1, fun q hq => by
  obtain ⟨i, v, h1, rfl⟩ := aj_al_of hq
  exact h.2.2 i v h1⟩
theorem aj_cat2 {E : aj_E} {v : aj_V} (h : (aj_c E v).category = 2) : ∃ z : Int, v = vL z := by
  match v, h with
  | .inl z, h => simp [aj_c, Value.category] at h
  | .inr (.inl z), _ => exact ⟨z, rfl⟩
  | .inr (.inr r), h => simp [aj_c, Value.category] at h
theorem aj_s1_L {E : aj_E} {nL i : Nat} {ls' : Array Slot} {lv : List (Option aj_V)} {v : aj_V} (h : lv_has ls' nL ((i, aj_c E v) :: (aj_al E lv).filter (fun q => !(q.1 == i) && !(q.1 + 1 == i && q.2.category == 2)))) : aj_L E nL ls' (aj_s1 lv i v) := by
  refine ⟨h.1, h.2.1, fun j w hj => ?_⟩
  by_cases e : j = i
  · subst e
    rw [aj_s1, List.getElem?_set] at hj
    simp only [if_true] at hj
    split at hj
    · have e2 : v = w := by simpa using hj
      subst e2
      exact h.2.2 (j, aj_c E v) List.mem_cons_self
    · cases hj
  · rw [aj_s1, List.getElem?_set_ne (Ne.symm e)] at hj
    obtain ⟨h1, h2⟩ := aj_kill_at hj
    refine h.2.2 (j, aj_c E w) (List.mem_cons_of_mem _ (List.mem_filter.mpr ⟨aj_al_mem h1, ?_⟩))
    by_cases hc : (aj_c E w).category = 2
    · obtain ⟨z, hz⟩ := aj_cat2 hc
      have h3 := h2 z hz
      simp [e, h3]
    · simp [e, hc]
theorem aj_s2_L {E : aj_E} {nL i : Nat} {ls' : Array Slot} {lv : List (Option aj_V)} {v : aj_V} (h : lv_has ls' nL ((i, aj_c E v) :: (aj_al E lv).filter (fun q => !(q.1 == i) && (!(q.1 == i + 1) && !(q.1 + 1 == i && q.2.category == 2))))) : aj_L E nL ls' (aj_s2 lv i v) := by
  refine ⟨h.1, h.2.1, fun j w hj => ?_⟩
  by_cases e1 : j = i + 1
  · subst e1
    rw [aj_s2, List.getElem?_set] at hj
    simp only [if_true] at hj
    split at hj <;> simp at hj
  rw [aj_s2, List.getElem?_set_ne (Ne.symm e1)] at hj
  by_cases e : j = i
  · subst e
    rw [List.getElem?_set] at hj
    simp only [if_true] at hj
    split at hj
    · have e2 : v = w := by simpa using hj
      subst e2
      exact h.2.2 (j, aj_c E v) List.mem_cons_self
    · cases hj
  · rw [List.getElem?_set_ne (Ne.symm e)] at hj
    obtain ⟨h1, h2⟩ := aj_kill_at hj
    refine h.2.2 (j, aj_c E w) (List.mem_cons_of_mem _ (List.mem_filter.mpr ⟨aj_al_mem h1, ?_⟩))
    by_cases hc : (aj_c E w).category = 2
    · obtain ⟨z, hz⟩ := aj_cat2 hc
      have h3 := h2 z hz
      simp [e, e1, h3]
    · simp [e, e1, hc]
section AJ
variable {X : aj_T} {cc : ByteArray} {own : String} {nL n pc : Nat} {lv : List (Option aj_V)} {st : List aj_V} {mem : aj_M}
theorem aj_iload_n (C : aj_Cx X cc own nL n) {x : Int} {i : Fin 4} (d : decode cc pc = .ok (.iload_n i, 1)) (h : lv[(i : Nat)]? = some (some (vI x))) (k : aj_J X (pc + 1) lv (vI x :: st) mem) : aj_J X pc lv st mem := by
  obtain ⟨p, l, e, R, s, m, args, below, meth, c, E, A, ce, sl, Q⟩ := X
  obtain ⟨hx, hb, hml, hown, hts, hK, hD, hA, hZ, hfr, hlo, hce, hsl⟩ := C
  intro H locs ls hP hS hl
  exact lv_iload_n hx hb d rfl (hl.2.2 _ _ h) (k H locs ls hP hS hl)
theorem aj_iload (C : aj_Cx X cc own nL n) {x : Int} {i : Nat} (d : decode cc pc = .ok (.iload i, 2)) (h : lv[i]? = some (some (vI x))) (k : aj_J X (pc + 2) lv (vI x :: st) mem) : aj_J X pc lv st mem := by
  obtain ⟨p, l, e, R, s, m, args, below, meth, c, E, A, ce, sl, Q⟩ := X
  obtain ⟨hx, hb, hml, hown, hts, hK, hD, hA, hZ, hfr, hlo, hce, hsl⟩ := C
  intro H locs ls hP hS hl
  exact lv_iload hx hb d (hl.2.2 _ _ h) (k H locs ls hP hS hl)
theorem aj_lload_n (C : aj_Cx X cc own nL n) {x : Int} {i : Fin 4} (d : decode cc pc = .ok (.lload_n i, 1)) (h : lv[(i : Nat)]? = some (some (vL x))) (k : aj_J X (pc + 1) lv (vL x :: st) mem) : aj_J X pc lv st mem := by
  obtain ⟨p, l, e, R, s, m, args, below, meth, c, E, A, ce, sl, Q⟩ := X
  obtain ⟨hx, hb, hml, hown, hts, hK, hD, hA, hZ, hfr, hlo, hce, hsl⟩ := C
  intro H locs ls hP hS hl
  exact lv_lload_n hx hb d rfl (hl.2.2 _ _ h) (k H locs ls hP hS hl)
theorem aj_lload (C : aj_Cx X cc own nL n) {x : Int} {i : Nat} (d : decode cc pc = .ok (.lload i, 2)) (h : lv[i]? = some (some (vL x))) (k : aj_J X (pc + 2) lv (vL x :: st) mem) : aj_J X pc lv st mem := by
  obtain ⟨p, l, e, R, s, m, args, below, meth, c, E, A, ce, sl, Q⟩ := X
  obtain ⟨hx, hb, hml, hown, hts, hK, hD, hA, hZ, hfr, hlo, hce, hsl⟩ := C
  intro H locs ls hP hS hl
  exact lv_lload hx hb d (hl.2.2 _ _ h) (k H locs ls hP hS hl)
theorem aj_aload_n (C : aj_Cx X cc own nL n) {x : aj_R} {i : Fin 4} (d : decode cc pc = .ok (.aload_n i, 1)) (h : lv[(i : Nat)]? = some (some (.inr (.inr x)))) (k : aj_J X (pc + 1) lv (.inr (.inr x) :: st) mem) : aj_J X pc lv st mem := by
  obtain ⟨p, l, e, R, s, m, args, below, meth, c, E, A, ce, sl, Q⟩ := X
  obtain ⟨hx, hb, hml, hown, hts, hK, hD, hA, hZ, hfr, hlo, hce, hsl⟩ := C
  intro H locs ls hP hS hl
  exact lv_aload_n hx hb d rfl (hl.2.2 _ _ h) (k H locs ls hP hS hl)
theorem aj_aload (C : aj_Cx X cc own nL n) {x : aj_R} {i : Nat} (d : decode cc pc = .ok (.aload i, 2)) (h : lv[i]? = some (some (.inr (.inr x)))) (k : aj_J X (pc + 2) lv (.inr (.inr x) :: st) mem) : aj_J X pc lv st mem := by
  obtain ⟨p, l, e, R, s, m, args, below, meth, c, E, A, ce, sl, Q⟩ := X
  obtain ⟨hx, hb, hml, hown, hts, hK, hD, hA, hZ, hfr, hlo, hce, hsl⟩ := C
  intro H locs ls hP hS hl
  exact lv_aload hx hb d (hl.2.2 _ _ h) (k H locs ls hP hS hl)
theorem aj_istore_n (C : aj_Cx X cc own nL n) {x : Int} {i : Fin 4} {lv' : List (Option aj_V)} (d : decode cc pc = .ok (.istore_n i, 1)) (hi : (i : Nat) < nL) (h : aj_s1 lv i (vI x) = lv') (k : aj_J X (pc + 1) lv' st mem) : aj_J X pc lv (vI x :: st) mem := by
  obtain ⟨p, l, e, R, s, m, args, below, meth, c, E, A, ce, sl, Q⟩ := X
  obtain ⟨hx, hb, hml, hown, hts, hK, hD, hA, hZ, hfr, hlo, hce, hsl⟩ := C
  intro H locs ls hP hS hl
  exact lv_istore_n hx hb d rfl hl.has (by rw [hml]; exact hi) rfl (fun ls' h' => k H locs ls' hP hS (by rw [← h]; exact aj_s1_L h'))
theorem aj_istore (C : aj_Cx X cc own nL n) {x : Int} {i : Nat} {lv' : List (Option aj_V)} (d : decode cc pc = .ok (.istore i, 2)) (hi : i < nL) (h : aj_s1 lv i (vI x) = lv') (k : aj_J X (pc + 2) lv' st mem) : aj_J X pc lv (vI x :: st) mem := by
  obtain ⟨p, l, e, R, s, m, args, below, meth, c, E, A, ce, sl, Q⟩ := X
  obtain ⟨hx, hb, hml, hown, hts, hK, hD, hA, hZ, hfr, hlo, hce, hsl⟩ := C
  intro H locs ls hP hS hl
  exact lv_istore hx hb d hl.has (by rw [hml]; exact hi) rfl (fun ls' h' => k H locs ls' hP hS (by rw [← h]; exact aj_s1_L h'))
theorem aj_lstore_n (C : aj_Cx X cc own nL n) {x : Int} {i : Fin 4} {lv' : List (Option aj_V)} (d : decode cc pc = .ok (.lstore_n i, 1)) (hi : (i : Nat) + 1 < nL) (h : aj_s2 lv i (vL x) = lv') (k : aj_J X (pc + 1) lv' st mem) : aj_J X pc lv (vL x :: st) mem := by
  obtain ⟨p, l, e, R, s, m, args, below, meth, c, E, A, ce, sl, Q⟩ := X
  obtain ⟨hx, hb, hml, hown, hts, hK, hD, hA, hZ, hfr, hlo, hce, hsl⟩ := C
  intro H locs ls hP hS hl
  exact lv_lstore_n hx hb d rfl hl.has (by rw [hml]; exact hi) rfl (fun ls' h' => k H locs ls' hP hS (by rw [← h]; exact aj_s2_L h'))
theorem aj_lstore (C : aj_Cx X cc own nL n) {x : Int} {i : Nat} {lv' : List (Option aj_V)} (d : decode cc pc = .ok (.lstore i, 2)) (hi : i + 1 < nL) (h : aj_s2 lv i (vL x) = lv') (k : aj_J X (pc + 2) lv' st mem) : aj_J X pc lv (vL x :: st) mem := by
  obtain ⟨p, l, e, R, s, m, args, below, meth, c, E, A, ce, sl, Q⟩ := X
  obtain ⟨hx, hb, hml, hown, hts, hK, hD, hA, hZ, hfr, hlo, hce, hsl⟩ := C
  intro H locs ls hP hS hl
  exact lv_lstore hx hb d hl.has (by rw [hml]; exact hi) rfl (fun ls' h' => k H locs ls' hP hS (by rw [← h]; exact aj_s2_L h'))
theorem aj_astore_n (C : aj_Cx X cc own nL n) {x : aj_R} {i : Fin 4} {lv' : List (Option aj_V)} (d : decode cc pc = .ok (.astore_n i, 1)) (hi : (i : Nat) < nL) (h : aj_s1 lv i (.inr (.inr x)) = lv') (k : aj_J X (pc + 1) lv' st mem) : aj_J X pc lv (.inr (.inr x) :: st) mem := by
  obtain ⟨p, l, e, R, s, m, args, below, meth, c, E, A, ce, sl, Q⟩ := X
  obtain ⟨hx, hb, hml, hown, hts, hK, hD, hA, hZ, hfr, hlo, hce, hsl⟩ := C
  intro H locs ls hP hS hl
  exact lv_astore_n hx hb d rfl hl.has (by rw [hml]; exact hi) rfl (fun ls' h' => k H locs ls' hP hS (by rw [← h]; exact aj_s1_L h'))
theorem aj_astore (C : aj_Cx X cc own nL n) {x : aj_R} {i : Nat} {lv' : List (Option aj_V)} (d : decode cc pc = .ok (.astore i, 2)) (hi : i < nL) (h : aj_s1 lv i (.inr (.inr x)) = lv') (k : aj_J X (pc + 2) lv' st mem) : aj_J X pc lv (.inr (.inr x) :: st) mem := by
  obtain ⟨p, l, e, R, s, m, args, below, meth, c, E, A, ce, sl, Q⟩ := X
  obtain ⟨hx, hb, hml, hown, hts, hK, hD, hA, hZ, hfr, hlo, hce, hsl⟩ := C
  intro H locs ls hP hS hl
  exact lv_astore hx hb d hl.has (by rw [hml]; exact hi) rfl (fun ls' h' => k H locs ls' hP hS (by rw [← h]; exact aj_s1_L h'))
theorem aj_iinc (C : aj_Cx X cc own nL n) {x z : Int} {i : Nat} {lv' : List (Option aj_V)} (d : decode cc pc = .ok (.iinc i z, 3)) (hv : lv[i]? = some (some (vI x))) (hi : i < nL) (h : aj_s1 lv i (vI (x + z)) = lv') (k : aj_J X (pc + 3) lv' st mem) : aj_J X pc lv st mem := by
  obtain ⟨p, l, e, R, s, m, args, below, meth, c, E, A, ce, sl, Q⟩ := X
  obtain ⟨hx, hb, hml, hown, hts, hK, hD, hA, hZ, hfr, hlo, hce, hsl⟩ := C
  intro H locs ls hP hS hl
  obtain ⟨k0, hk0⟩ := List.getElem?_of_mem (aj_al_mem (E := E) hv)
  exact lv_iinc (v := Int32.ofInt (x + z)) hx hb d hl.has hk0 (Int32.ofInt_add x z).symm (by rw [hml]; exact hi) rfl (fun ls' h' => k H locs ls' hP hS (by rw [← h]; exact aj_s1_L h'))
theorem aj_iconst (C : aj_Cx X cc own nL n) {z : Int} (d : decode cc pc = .ok (.iconst z, 1)) (k : aj_J X (pc + 1) lv (vI z :: st) mem) : aj_J X pc lv st mem := by
  obtain ⟨p, l, e, R, s, m, args, below, meth, c, E, A, ce, sl, Q⟩ := X
  obtain ⟨hx, hb, hml, hown, hts, hK, hD, hA, hZ, hfr, hlo, hce, hsl⟩ := C
  intro H locs ls hP hS hl
  exact lv_iconst hx hb d rfl (k H locs ls hP hS hl)
theorem aj_bipush (C : aj_Cx X cc own nL n) {z : Int} (d : decode cc pc = .ok (.bipush z, 2)) (hz : -128 ≤ z ∧ z < 128) (k : aj_J X (pc + 2) lv (vI z :: st) mem) : aj_J X pc lv st mem := by
  obtain ⟨p, l, e, R, s, m, args, below, meth, c, E, A, ce, sl, Q⟩ := X
  obtain ⟨hx, hb, hml, hown, hts, hK, hD, hA, hZ, hfr, hlo, hce, hsl⟩ := C
  intro H locs ls hP hS hl
  refine lv_bipush hx hb d ?_ (k H locs ls hP hS hl)
  apply Int32.toInt_inj.mp
  rw [Int8.toInt_toInt32, Int8.toInt_ofInt_of_le (by omega) (by omega), aj_ri (by omega)]
theorem aj_sipush (C : aj_Cx X cc own nL n) {z : Int} (d : decode cc pc = .ok (.sipush z, 3)) (hz : -32768 ≤ z ∧ z < 32768) (k : aj_J X (pc + 3) lv (vI z :: st) mem) : aj_J X pc lv st mem := by
  obtain ⟨p, l, e, R, s, m, args, below, meth, c, E, A, ce, sl, Q⟩ := X
  obtain ⟨hx, hb, hml, hown, hts, hK, hD, hA, hZ, hfr, hlo, hce, hsl⟩ := C
  intro H locs ls hP hS hl
  refine lv_sipush hx hb d ?_ (k H locs ls hP hS hl)
  apply Int32.toInt_inj.mp
  rw [Int16.toInt_toInt32, Int16.toInt_ofInt_of_le (by omega) (by omega), aj_ri (by omega)]
theorem aj_lconst (C : aj_Cx X cc own nL n) {i : Fin 2} {z : Int} (d : decode cc pc = .ok (.lconst i, 1)) (hz : ((i : Nat) : Int) = z) (k : aj_J X (pc + 1) lv (vL z :: st) mem) : aj_J X pc lv st mem := by
  obtain ⟨p, l, e, R, s, m, args, below, meth, c, E, A, ce, sl, Q⟩ := X
  obtain ⟨hx, hb, hml, hown, hts, hK, hD, hA, hZ, hfr, hlo, hce, hsl⟩ := C
  intro H locs ls hP hS hl
  refine lv_lconst hx hb d ?_ (k H locs ls hP hS hl)
  rw [← hz]
  exact (Int64.ofInt_eq_ofNat).symm
theorem aj_ldc (C : aj_Cx X cc own nL n) {z : Int} {i : Nat} {v : Int32} (hw : Cond.constant own i v ∈ aj_TB) (hv : v = Int32.ofInt z) (d : decode cc pc = .ok (.ldc i, 2)) (k : aj_J X (pc + 2) lv (vI z :: st) mem) : aj_J X pc lv st mem := by
  obtain ⟨p, l, e, R, s, m, args, below, meth, c, E, A, ce, sl, Q⟩ := X
  obtain ⟨hx, hb, hml, hown, hts, hK, hD, hA, hZ, hfr, hlo, hce, hsl⟩ := C
  intro H locs ls hP hS hl
  subst hv
  exact lv_ldc hx hb hown (hts _ hw) d (k H locs ls hP hS hl)
theorem aj_ldcw (C : aj_Cx X cc own nL n) {z : Int} {i : Nat} {v : Int32} (hw : Cond.constant own i v ∈ aj_TB) (hv : v = Int32.ofInt z) (d : decode cc pc = .ok (.ldc_w i, 3)) (k : aj_J X (pc + 3) lv (vI z :: st) mem) : aj_J X pc lv st mem := by
  obtain ⟨p, l, e, R, s, m, args, below, meth, c, E, A, ce, sl, Q⟩ := X
  obtain ⟨hx, hb, hml, hown, hts, hK, hD, hA, hZ, hfr, hlo, hce, hsl⟩ := C
  intro H locs ls hP hS hl
  subst hv
  exact lv_ldcw hx hb hown (hts _ hw) d (k H locs ls hP hS hl)
theorem aj_ldc2 (C : aj_Cx X cc own nL n) {z : Int} {i : Nat} {v : Int64} (hw : Cond.constantLong own i v ∈ aj_TB) (hv : v = Int64.ofInt z) (d : decode cc pc = .ok (.ldc2_w i, 3)) (k : aj_J X (pc + 3) lv (vL z :: st) mem) : aj_J X pc lv st mem := by
  obtain ⟨p, l, e, R, s, m, args, below, meth, c, E, A, ce, sl, Q⟩ := X
  obtain ⟨hx, hb, hml, hown, hts, hK, hD, hA, hZ, hfr, hlo, hce, hsl⟩ := C
  intro H locs ls hP hS hl
  subst hv
  exact lv_ldc2 hx hb hown (hts _ hw) d (k H locs ls hP hS hl)
theorem aj_iadd (C : aj_Cx X cc own nL n) {x y : Int} (d : decode cc pc = .ok (.iadd, 1)) (k : aj_J X (pc + 1) lv (vI (x + y) :: st) mem) : aj_J X pc lv (vI y :: vI x :: st) mem := by
  obtain ⟨p, l, e, R, s, m, args, below, meth, c, E, A, ce, sl, Q⟩ := X
  obtain ⟨hx, hb, hml, hown, hts, hK, hD, hA, hZ, hfr, hlo, hce, hsl⟩ := C
  intro H locs ls hP hS hl
  have k' := k H locs ls hP hS hl
  rw [List.map_cons, show aj_c E (vI (x + y)) = .int (Int32.ofInt x + Int32.ofInt y) from congrArg _ (Int32.ofInt_add x y)] at k'
  exact lv_iadd hx hb d k'
theorem aj_isub (C : aj_Cx X cc own nL n) {x y : Int} (d : decode cc pc = .ok (.isub, 1)) (k : aj_J X (pc + 1) lv (vI (x - y) :: st) mem) : aj_J X pc lv (vI y :: vI x :: st) mem := by
  obtain ⟨p, l, e, R, s, m, args, below, meth, c, E, A, ce, sl, Q⟩ := X
  obtain ⟨hx, hb, hml, hown, hts, hK, hD, hA, hZ, hfr, hlo, hce, hsl⟩ := C
  intro H locs ls hP hS hl
  have k' := k H locs ls hP hS hl
  rw [List.map_cons, show aj_c E (vI (x - y)) = .int (Int32.ofInt x - Int32.ofInt y) from congrArg _ (Int32.ofInt_sub x y)] at k'
  exact lv_isub hx hb d k'
theorem aj_imul (C : aj_Cx X cc own nL n) {x y : Int} (d : decode cc pc = .ok (.imul, 1)) (k : aj_J X (pc + 1) lv (vI (x * y) :: st) mem) : aj_J X pc lv (vI y :: vI x :: st) mem := by
  obtain ⟨p, l, e, R, s, m, args, below, meth, c, E, A, ce, sl, Q⟩ := X
  obtain ⟨hx, hb, hml, hown, hts, hK, hD, hA, hZ, hfr, hlo, hce, hsl⟩ := C
  intro H locs ls hP hS hl
  have k' := k H locs ls hP hS hl
  rw [List.map_cons, show aj_c E (vI (x * y)) = .int (Int32.ofInt x * Int32.ofInt y) from congrArg _ (Int32.ofInt_mul x y)] at k'
  exact lv_imul hx hb d k'
theorem aj_ladd (C : aj_Cx X cc own nL n) {x y : Int} (d : decode cc pc = .ok (.ladd, 1)) (k : aj_J X (pc + 1) lv (vL (x + y) :: st) mem) : aj_J X pc lv (vL y :: vL x :: st) mem := by
  obtain ⟨p, l, e, R, s, m, args, below, meth, c, E, A, ce, sl, Q⟩ := X
  obtain ⟨hx, hb, hml, hown, hts, hK, hD, hA, hZ, hfr, hlo, hce, hsl⟩ := C
  intro H locs ls hP hS hl
  have k' := k H locs ls hP hS hl
  rw [List.map_cons, show aj_c E (vL (x + y)) = .long (Int64.ofInt x + Int64.ofInt y) from congrArg _ (Int64.ofInt_add x y)] at k'
  exact lv_ladd hx hb d k'
theorem aj_lsub (C : aj_Cx X cc own nL n) {x y : Int} (d : decode cc pc = .ok (.lsub, 1)) (k : aj_J X (pc + 1) lv (vL (x - y) :: st) mem) : aj_J X pc lv (vL y :: vL x :: st) mem := by
  obtain ⟨p, l, e, R, s, m, args, below, meth, c, E, A, ce, sl, Q⟩ := X
  obtain ⟨hx, hb, hml, hown, hts, hK, hD, hA, hZ, hfr, hlo, hce, hsl⟩ := C
  intro H locs ls hP hS hl
  have k' := k H locs ls hP hS hl
  rw [List.map_cons, show aj_c E (vL (x - y)) = .long (Int64.ofInt x - Int64.ofInt y) from congrArg _ (Int64.ofInt_sub x y)] at k'
  exact lv_lsub hx hb d k'
theorem aj_lmul (C : aj_Cx X cc own nL n) {x y : Int} (d : decode cc pc = .ok (.lmul, 1)) (k : aj_J X (pc + 1) lv (vL (x * y) :: st) mem) : aj_J X pc lv (vL y :: vL x :: st) mem := by
  obtain ⟨p, l, e, R, s, m, args, below, meth, c, E, A, ce, sl, Q⟩ := X
  obtain ⟨hx, hb, hml, hown, hts, hK, hD, hA, hZ, hfr, hlo, hce, hsl⟩ := C
  intro H locs ls hP hS hl
  have k' := k H locs ls hP hS hl
  rw [List.map_cons, show aj_c E (vL (x * y)) = .long (Int64.ofInt x * Int64.ofInt y) from congrArg _ (Int64.ofInt_mul x y)] at k'
  exact lv_lmul hx hb d k'
def aj_and (x y : Int) : Int := (Int32.ofInt x &&& Int32.ofInt y).toInt
def aj_or (x y : Int) : Int := (Int32.ofInt x ||| Int32.ofInt y).toInt
def aj_xor (x y : Int) : Int := (Int32.ofInt x ^^^ Int32.ofInt y).toInt
def aj_landL (x y : Int) : Int := (Int64.ofInt x &&& Int64.ofInt y).toInt
def aj_lorL (x y : Int) : Int := (Int64.ofInt x ||| Int64.ofInt y).toInt
def aj_lxorL (x y : Int) : Int := (Int64.ofInt x ^^^ Int64.ofInt y).toInt
def aj_shl (x y : Int) : Int := (Int32.ofInt x <<< (Int32.ofInt y &&& 31)).toInt
def aj_shr (x y : Int) : Int := (Int32.ofInt x >>> (Int32.ofInt y &&& 31)).toInt
def aj_ushr (x y : Int) : Int := ((Int32.ofInt x).toUInt32 >>> ((Int32.ofInt y).toUInt32 &&& Int32.toUInt32 31)).toInt32.toInt
def aj_lshl (x y : Int) : Int := (Int64.ofInt x <<< ((Int32.ofInt y).toInt64 &&& 63)).toInt
def aj_lshr (x y : Int) : Int := (Int64.ofInt x >>> ((Int32.ofInt y).toInt64 &&& 63)).toInt
theorem aj_iand (C : aj_Cx X cc own nL n) {x y : Int} (d : decode cc pc = .ok (.iand, 1)) (k : aj_J X (pc + 1) lv (vI (aj_and x y) :: st) mem) : aj_J X pc lv (vI y :: vI x :: st) mem := by
  obtain ⟨p, l, e, R, s, m, args, below, meth, c, E, A, ce, sl, Q⟩ := X
  obtain ⟨hx, hb, hml, hown, hts, hK, hD, hA, hZ, hfr, hlo, hce, hsl⟩ := C
  intro H locs ls hP hS hl
  have k' := k H locs ls hP hS hl
  rw [List.map_cons, show aj_c E (vI (aj_and x y)) = .int _ from congrArg _ (Int32.ofInt_toInt _)] at k'
  exact lv_iand hx hb d k'
theorem aj_ior (C : aj_Cx X cc own nL n) {x y : Int} (d : decode cc pc = .ok (.ior, 1)) (k : aj_J X (pc + 1) lv (vI (aj_or x y) :: st) mem) : aj_J X pc lv (vI y :: vI x :: st) mem := by
  obtain ⟨p, l, e, R, s, m, args, below, meth, c, E, A, ce, sl, Q⟩ := X
  obtain ⟨hx, hb, hml, hown, hts, hK, hD, hA, hZ, hfr, hlo, hce, hsl⟩ := C
  intro H locs ls hP hS hl
  have k' := k H locs ls hP hS hl
  rw [List.map_cons, show aj_c E (vI (aj_or x y)) = .int _ from congrArg _ (Int32.ofInt_toInt _)] at k'
  exact lv_ior hx hb d k'
theorem aj_ixor (C : aj_Cx X cc own nL n) {x y : Int} (d : decode cc pc = .ok (.ixor, 1)) (k : aj_J X (pc + 1) lv (vI (aj_xor x y) :: st) mem) : aj_J X pc lv (vI y :: vI x :: st) mem := by
  obtain ⟨p, l, e, R, s, m, args, below, meth, c, E, A, ce, sl, Q⟩ := X
  obtain ⟨hx, hb, hml, hown, hts, hK, hD, hA, hZ, hfr, hlo, hce, hsl⟩ := C
  intro H locs ls hP hS hl
  have k' := k H locs ls hP hS hl
  rw [List.map_cons, show aj_c E (vI (aj_xor x y)) = .int _ from congrArg _ (Int32.ofInt_toInt _)] at k'
  exact lv_ixor hx hb d k'
theorem aj_land (C : aj_Cx X cc own nL n) {x y : Int} (d : decode cc pc = .ok (.land, 1)) (k : aj_J X (pc + 1) lv (vL (aj_landL x y) :: st) mem) : aj_J X pc lv (vL y :: vL x :: st) mem := by
  obtain ⟨p, l, e, R, s, m, args, below, meth, c, E, A, ce, sl, Q⟩ := X
  obtain ⟨hx, hb, hml, hown, hts, hK, hD, hA, hZ, hfr, hlo, hce, hsl⟩ := C
  intro H locs ls hP hS hl
  have k' := k H locs ls hP hS hl
  rw [List.map_cons, show aj_c E (vL (aj_landL x y)) = .long _ from congrArg _ (Int64.ofInt_toInt _)] at k'
  exact lv_land hx hb d k'
theorem aj_lor (C : aj_Cx X cc own nL n) {x y : Int} (d : decode cc pc = .ok (.lor, 1)) (k : aj_J X (pc + 1) lv (vL (aj_lorL x y) :: st) mem) : aj_J X pc lv (vL y :: vL x :: st) mem := by
  obtain ⟨p, l, e, R, s, m, args, below, meth, c, E, A, ce, sl, Q⟩ := X
  obtain ⟨hx, hb, hml, hown, hts, hK, hD, hA, hZ, hfr, hlo, hce, hsl⟩ := C
  intro H locs ls hP hS hl
  have k' := k H locs ls hP hS hl
  rw [List.map_cons, show aj_c E (vL (aj_lorL x y)) = .long _ from congrArg _ (Int64.ofInt_toInt _)] at k'
  exact lv_lor hx hb d k'
theorem aj_lxor (C : aj_Cx X cc own nL n) {x y : Int} (d : decode cc pc = .ok (.lxor, 1)) (k : aj_J X (pc + 1) lv (vL (aj_lxorL x y) :: st) mem) : aj_J X pc lv (vL y :: vL x :: st) mem := by
  obtain ⟨p, l, e, R, s, m, args, below, meth, c, E, A, ce, sl, Q⟩ := X
  obtain ⟨hx, hb, hml, hown, hts, hK, hD, hA, hZ, hfr, hlo, hce, hsl⟩ := C
  intro H locs ls hP hS hl
  have k' := k H locs ls hP hS hl
  rw [List.map_cons, show aj_c E (vL (aj_lxorL x y)) = .long _ from congrArg _ (Int64.ofInt_toInt _)] at k'
  exact lv_lxor hx hb d k'
theorem aj_ishl (C : aj_Cx X cc own nL n) {x y : Int} (d : decode cc pc = .ok (.ishl, 1)) (k : aj_J X (pc + 1) lv (vI (aj_shl x y) :: st) mem) : aj_J X pc lv (vI y :: vI x :: st) mem := by
  obtain ⟨p, l, e, R, s, m, args, below, meth, c, E, A, ce, sl, Q⟩ := X
  obtain ⟨hx, hb, hml, hown, hts, hK, hD, hA, hZ, hfr, hlo, hce, hsl⟩ := C
  intro H locs ls hP hS hl
  have k' := k H locs ls hP hS hl
  rw [List.map_cons, show aj_c E (vI (aj_shl x y)) = .int _ from congrArg _ (Int32.ofInt_toInt _)] at k'
  exact lv_ishl hx hb d k'
theorem aj_ishr (C : aj_Cx X cc own nL n) {x y : Int} (d : decode cc pc = .ok (.ishr, 1)) (k : aj_J X (pc + 1) lv (vI (aj_shr x y) :: st) mem) : aj_J X pc lv (vI y :: vI x :: st) mem := by
  obtain ⟨p, l, e, R, s, m, args, below, meth, c, E, A, ce, sl, Q⟩ := X
  obtain ⟨hx, hb, hml, hown, hts, hK, hD, hA, hZ, hfr, hlo, hce, hsl⟩ := C
  intro H locs ls hP hS hl
  have k' := k H locs ls hP hS hl
  rw [List.map_cons, show aj_c E (vI (aj_shr x y)) = .int _ from congrArg _ (Int32.ofInt_toInt _)] at k'
  exact lv_ishr hx hb d k'
theorem aj_iushr (C : aj_Cx X cc own nL n) {x y : Int} (d : decode cc pc = .ok (.iushr, 1)) (k : aj_J X (pc + 1) lv (vI (aj_ushr x y) :: st) mem) : aj_J X pc lv (vI y :: vI x :: st) mem := by
  obtain ⟨p, l, e, R, s, m, args, below, meth, c, E, A, ce, sl, Q⟩ := X
  obtain ⟨hx, hb, hml, hown, hts, hK, hD, hA, hZ, hfr, hlo, hce, hsl⟩ := C
  intro H locs ls hP hS hl
  exact lv_iushr (v := Int32.ofInt (aj_ushr x y)) hx hb d (Int32.ofInt_toInt _).symm (k H locs ls hP hS hl)
theorem aj_lshl_ (C : aj_Cx X cc own nL n) {x y : Int} (d : decode cc pc = .ok (.lshl, 1)) (k : aj_J X (pc + 1) lv (vL (aj_lshl x y) :: st) mem) : aj_J X pc lv (vI y :: vL x :: st) mem := by
  obtain ⟨p, l, e, R, s, m, args, below, meth, c, E, A, ce, sl, Q⟩ := X
  obtain ⟨hx, hb, hml, hown, hts, hK, hD, hA, hZ, hfr, hlo, hce, hsl⟩ := C
  intro H locs ls hP hS hl
  exact lv_lshl (v := Int64.ofInt (aj_lshl x y)) hx hb d (Int64.ofInt_toInt _).symm (k H locs ls hP hS hl)
theorem aj_lshr_ (C : aj_Cx X cc own nL n) {x y : Int} (d : decode cc pc = .ok (.lshr, 1)) (k : aj_J X (pc + 1) lv (vL (aj_lshr x y) :: st) mem) : aj_J X pc lv (vI y :: vL x :: st) mem := by
  obtain ⟨p, l, e, R, s, m, args, below, meth, c, E, A, ce, sl, Q⟩ := X
  obtain ⟨hx, hb, hml, hown, hts, hK, hD, hA, hZ, hfr, hlo, hce, hsl⟩ := C
  intro H locs ls hP hS hl
  exact lv_lshr (v := Int64.ofInt (aj_lshr x y)) hx hb d (Int64.ofInt_toInt _).symm (k H locs ls hP hS hl)
theorem aj_idiv (C : aj_Cx X cc own nL n) {x y : Int} (d : decode cc pc = .ok (.idiv, 1)) (rx : -2147483648 ≤ x ∧ x < 2147483648) (ry : -2147483648 ≤ y ∧ y < 2147483648) (hy : y ≠ 0) (k : aj_J X (pc + 1) lv (vI (x.tdiv y) :: st) mem) : aj_J X pc lv (vI y :: vI x :: st) mem := by
  obtain ⟨p, l, e, R, s, m, args, below, meth, c, E, A, ce, sl, Q⟩ := X
  obtain ⟨hx, hb, hml, hown, hts, hK, hD, hA, hZ, hfr, hlo, hce, hsl⟩ := C
  intro H locs ls hP hS hl
  have k' := k H locs ls hP hS hl
  have e1 : Int32.ofInt (x.tdiv y) = Int32.ofInt x / Int32.ofInt y := Int32.ofInt_tdiv (by show (-2147483648 : Int) ≤ x; omega) (by show x ≤ (2147483647 : Int); omega) (by show (-2147483648 : Int) ≤ y; omega) (by show y ≤ (2147483647 : Int); omega)
  rw [List.map_cons, show aj_c E (vI (x.tdiv y)) = .int (Int32.ofInt x / Int32.ofInt y) from congrArg _ e1] at k'
  refine lv_idiv hx hb d (fun h => hy ?_) k'
  have h2 := congrArg Int32.toInt h
  rw [aj_ri ry] at h2
  exact h2
theorem aj_irem (C : aj_Cx X cc own nL n) {x y : Int} (d : decode cc pc = .ok (.irem, 1)) (rx : -2147483648 ≤ x ∧ x < 2147483648) (ry : -2147483648 ≤ y ∧ y < 2147483648) (hy : y ≠ 0) (k : aj_J X (pc + 1) lv (vI (x.tmod y) :: st) mem) : aj_J X pc lv (vI y :: vI x :: st) mem := by
  obtain ⟨p, l, e, R, s, m, args, below, meth, c, E, A, ce, sl, Q⟩ := X
  obtain ⟨hx, hb, hml, hown, hts, hK, hD, hA, hZ, hfr, hlo, hce, hsl⟩ := C
  intro H locs ls hP hS hl
  have k' := k H locs ls hP hS hl
  have e1 : Int32.ofInt (x.tmod y) = Int32.ofInt x - Int32.ofInt x / Int32.ofInt y * Int32.ofInt y := by
    rw [← Int32.ofInt_tdiv (by show (-2147483648 : Int) ≤ x; omega) (by show x ≤ (2147483647 : Int); omega) (by show (-2147483648 : Int) ≤ y; omega) (by show y ≤ (2147483647 : Int); omega), ← Int32.ofInt_mul, ← Int32.ofInt_sub]
    congr 1
    have := Int.tdiv_mul_add_tmod x y
    omega
  rw [List.map_cons, show aj_c E (vI (x.tmod y)) = .int (Int32.ofInt x - Int32.ofInt x / Int32.ofInt y * Int32.ofInt y) from congrArg _ e1] at k'
  refine lv_irem hx hb d (fun h => hy ?_) k'
  have h2 := congrArg Int32.toInt h
  rw [aj_ri ry] at h2
  exact h2
theorem aj_idivN (C : aj_Cx X cc own nL n) {x y : Int} (d : decode cc pc = .ok (.idiv, 1)) (rx : 0 ≤ x ∧ x < 2147483648) (ry : 0 < y ∧ y < 2147483648) (k : aj_J X (pc + 1) lv (vI (x / y) :: st) mem) : aj_J X pc lv (vI y :: vI x :: st) mem := by
  refine aj_idiv C d (by omega) (by omega) (by omega) ?_
  rw [Int.tdiv_eq_ediv_of_nonneg rx.1]
  exact k
theorem aj_iremN (C : aj_Cx X cc own nL n) {x y : Int} (d : decode cc pc = .ok (.irem, 1)) (rx : 0 ≤ x ∧ x < 2147483648) (ry : 0 < y ∧ y < 2147483648) (k : aj_J X (pc + 1) lv (vI (x % y) :: st) mem) : aj_J X pc lv (vI y :: vI x :: st) mem := by
  refine aj_irem C d (by omega) (by omega) (by omega) ?_
  rw [Int.tmod_eq_emod_of_nonneg rx.1]
  exact k
theorem aj_ldiv (C : aj_Cx X cc own nL n) {x y : Int} (d : decode cc pc = .ok (.ldiv, 1)) (rx : -9223372036854775808 ≤ x ∧ x < 9223372036854775808) (ry : -9223372036854775808 ≤ y ∧ y < 9223372036854775808) (hy : y ≠ 0) (k : aj_J X (pc + 1) lv (vL (x.tdiv y) :: st) mem) : aj_J X pc lv (vL y :: vL x :: st) mem := by
  obtain ⟨p, l, e, R, s, m, args, below, meth, c, E, A, ce, sl, Q⟩ := X
  obtain ⟨hx, hb, hml, hown, hts, hK, hD, hA, hZ, hfr, hlo, hce, hsl⟩ := C
  intro H locs ls hP hS hl
  have k' := k H locs ls hP hS hl
  have e1 : Int64.ofInt (x.tdiv y) = Int64.ofInt x / Int64.ofInt y := Int64.ofInt_tdiv (by show (-9223372036854775808 : Int) ≤ x; omega) (by show x ≤ (9223372036854775807 : Int); omega) (by show (-9223372036854775808 : Int) ≤ y; omega) (by show y ≤ (9223372036854775807 : Int); omega)
  rw [List.map_cons, show aj_c E (vL (x.tdiv y)) = .long (Int64.ofInt x / Int64.ofInt y) from congrArg _ e1] at k'
  refine lv_ldiv hx hb d (fun h => hy ?_) k'
  have h2 := congrArg Int64.toInt h
  rw [aj_rl ry] at h2
  exact h2
theorem aj_lrem (C : aj_Cx X cc own nL n) {x y : Int} (d : decode cc pc = .ok (.lrem, 1)) (rx : -9223372036854775808 ≤ x ∧ x < 9223372036854775808) (ry : -9223372036854775808 ≤ y ∧ y < 9223372036854775808) (hy : y ≠ 0) (k : aj_J X (pc + 1) lv (vL (x.tmod y) :: st) mem) : aj_J X pc lv (vL y :: vL x :: st) mem := by
  obtain ⟨p, l, e, R, s, m, args, below, meth, c, E, A, ce, sl, Q⟩ := X
  obtain ⟨hx, hb, hml, hown, hts, hK, hD, hA, hZ, hfr, hlo, hce, hsl⟩ := C
  intro H locs ls hP hS hl
  have k' := k H locs ls hP hS hl
  have e1 : Int64.ofInt (x.tmod y) = Int64.ofInt x - Int64.ofInt x / Int64.ofInt y * Int64.ofInt y := by
    rw [← Int64.ofInt_tdiv (by show (-9223372036854775808 : Int) ≤ x; omega) (by show x ≤ (9223372036854775807 : Int); omega) (by show (-9223372036854775808 : Int) ≤ y; omega) (by show y ≤ (9223372036854775807 : Int); omega), ← Int64.ofInt_mul, ← Int64.ofInt_sub]
    congr 1
    have := Int.tdiv_mul_add_tmod x y
    omega
  rw [List.map_cons, show aj_c E (vL (x.tmod y)) = .long (Int64.ofInt x - Int64.ofInt x / Int64.ofInt y * Int64.ofInt y) from congrArg _ e1] at k'
  refine lv_lrem hx hb d (fun h => hy ?_) k'
  have h2 := congrArg Int64.toInt h
  rw [aj_rl ry] at h2
  exact h2
theorem aj_ldivN (C : aj_Cx X cc own nL n) {x y : Int} (d : decode cc pc = .ok (.ldiv, 1)) (rx : 0 ≤ x ∧ x < 9223372036854775808) (ry : 0 < y ∧ y < 9223372036854775808) (k : aj_J X (pc + 1) lv (vL (x / y) :: st) mem) : aj_J X pc lv (vL y :: vL x :: st) mem := by
  refine aj_ldiv C d (by omega) (by omega) (by omega) ?_
  rw [Int.tdiv_eq_ediv_of_nonneg rx.1]
  exact k
theorem aj_lremN (C : aj_Cx X cc own nL n) {x y : Int} (d : decode cc pc = .ok (.lrem, 1)) (rx : 0 ≤ x ∧ x < 9223372036854775808) (ry : 0 < y ∧ y < 9223372036854775808) (k : aj_J X (pc + 1) lv (vL (x % y) :: st) mem) : aj_J X pc lv (vL y :: vL x :: st) mem := by
  refine aj_lrem C d (by omega) (by omega) (by omega) ?_
  rw [Int.tmod_eq_emod_of_nonneg rx.1]
  exact k
theorem aj_i2l (C : aj_Cx X cc own nL n) {x : Int} (d : decode cc pc = .ok (.i2l, 1)) (rx : -2147483648 ≤ x ∧ x < 2147483648) (k : aj_J X (pc + 1) lv (vL x :: st) mem) : aj_J X pc lv (vI x :: st) mem := by
  obtain ⟨p, l, e, R, s, m, args, below, meth, c, E, A, ce, sl, Q⟩ := X
  obtain ⟨hx, hb, hml, hown, hts, hK, hD, hA, hZ, hfr, hlo, hce, hsl⟩ := C
  intro H locs ls hP hS hl
  refine lv_i2l hx hb d ?_ (k H locs ls hP hS hl)
  apply Int64.toInt_inj.mp
  rw [Int32.toInt_toInt64, aj_ri rx, aj_rl (by omega)]
theorem aj_l2i (C : aj_Cx X cc own nL n) {x : Int} (d : decode cc pc = .ok (.l2i, 1)) (k : aj_J X (pc + 1) lv (vI x :: st) mem) : aj_J X pc lv (vL x :: st) mem := by
  obtain ⟨p, l, e, R, s, m, args, below, meth, c, E, A, ce, sl, Q⟩ := X
  obtain ⟨hx, hb, hml, hown, hts, hK, hD, hA, hZ, hfr, hlo, hce, hsl⟩ := C
  intro H locs ls hP hS hl
  exact lv_l2i hx hb d Int64.toInt32_ofInt (k H locs ls hP hS hl)
def aj_b (x : Int) : Int := (Int32.ofInt x).toInt8.toInt
def aj_sh (x : Int) : Int := (Int32.ofInt x).toInt16.toInt
theorem aj_b_c (x : Int) : Int32.ofInt (aj_b x) = (Int32.ofInt x).toInt8.toInt32 := by
  apply Int32.toInt_inj.mp
  rw [Int8.toInt_toInt32]
  exact aj_ri ⟨by have := Int8.le_toInt (Int32.ofInt x).toInt8; simp only [aj_b]; omega, by have := Int8.toInt_lt (Int32.ofInt x).toInt8; simp only [aj_b]; omega⟩
theorem aj_sh_c (x : Int) : Int32.ofInt (aj_sh x) = (Int32.ofInt x).toInt16.toInt32 := by
  apply Int32.toInt_inj.mp
  rw [Int16.toInt_toInt32]
  exact aj_ri ⟨by have := Int16.le_toInt (Int32.ofInt x).toInt16; simp only [aj_sh]; omega, by have := Int16.toInt_lt (Int32.ofInt x).toInt16; simp only [aj_sh]; omega⟩
theorem aj_i2b (C : aj_Cx X cc own nL n) {x : Int} (d : decode cc pc = .ok (.i2b, 1)) (k : aj_J X (pc + 1) lv (vI (aj_b x) :: st) mem) : aj_J X pc lv (vI x :: st) mem := by
  obtain ⟨p, l, e, R, s, m, args, below, meth, c, E, A, ce, sl, Q⟩ := X
  obtain ⟨hx, hb, hml, hown, hts, hK, hD, hA, hZ, hfr, hlo, hce, hsl⟩ := C
  intro H locs ls hP hS hl
  exact lv_i2b hx hb d (aj_b_c x).symm (k H locs ls hP hS hl)
theorem aj_i2s (C : aj_Cx X cc own nL n) {x : Int} (d : decode cc pc = .ok (.i2s, 1)) (k : aj_J X (pc + 1) lv (vI (aj_sh x) :: st) mem) : aj_J X pc lv (vI x :: st) mem := by
  obtain ⟨p, l, e, R, s, m, args, below, meth, c, E, A, ce, sl, Q⟩ := X
  obtain ⟨hx, hb, hml, hown, hts, hK, hD, hA, hZ, hfr, hlo, hce, hsl⟩ := C
  intro H locs ls hP hS hl
  exact lv_i2s hx hb d (aj_sh_c x).symm (k H locs ls hP hS hl)
def aj_ch (x : Int) : Int := ((Int32.ofInt x).toUInt32 % 65536).toInt32.toInt
theorem aj_i2c (C : aj_Cx X cc own nL n) {x : Int} (d : decode cc pc = .ok (.i2c, 1)) (k : aj_J X (pc + 1) lv (vI (aj_ch x) :: st) mem) : aj_J X pc lv (vI x :: st) mem := by
  obtain ⟨p, l, e, R, s, m, args, below, meth, c, E, A, ce, sl, Q⟩ := X
  obtain ⟨hx, hb, hml, hown, hts, hK, hD, hA, hZ, hfr, hlo, hce, hsl⟩ := C
  intro H locs ls hP hS hl
  exact lv_i2c hx hb d (Int32.ofInt_toInt _).symm (k H locs ls hP hS hl)
theorem aj_c1 {E : aj_E} {v : aj_V} (h : ∀ z, v ≠ vL z) : (aj_c E v).category = 1 := by
  rcases lv_cat (aj_c E v) with q | q
  · exact q
  · obtain ⟨z, hz⟩ := aj_cat2 q
    exact absurd hz (h z)
theorem aj_dup (C : aj_Cx X cc own nL n) {v : aj_V} (hv : ∀ z, v ≠ vL z) (d : decode cc pc = .ok (.dup, 1)) (k : aj_J X (pc + 1) lv (v :: v :: st) mem) : aj_J X pc lv (v :: st) mem := by
  obtain ⟨p, l, e, R, s, m, args, below, meth, c, E, A, ce, sl, Q⟩ := X
  obtain ⟨hx, hb, hml, hown, hts, hK, hD, hA, hZ, hfr, hlo, hce, hsl⟩ := C
  intro H locs ls hP hS hl
  exact lv_dup hx hb d (aj_c1 hv) (k H locs ls hP hS hl)
theorem aj_dup2 (C : aj_Cx X cc own nL n) {v w : aj_V} (hv : ∀ z, v ≠ vL z) (hw : ∀ z, w ≠ vL z) (d : decode cc pc = .ok (.dup2, 1)) (k : aj_J X (pc + 1) lv (v :: w :: v :: w :: st) mem) : aj_J X pc lv (v :: w :: st) mem := by
  obtain ⟨p, l, e, R, s, m, args, below, meth, c, E, A, ce, sl, Q⟩ := X
  obtain ⟨hx, hb, hml, hown, hts, hK, hD, hA, hZ, hfr, hlo, hce, hsl⟩ := C
  intro H locs ls hP hS hl
  exact lv_dup2_11 hx hb d (aj_c1 hv) (aj_c1 hw) (k H locs ls hP hS hl)
theorem aj_dup_x1 (C : aj_Cx X cc own nL n) {v w : aj_V} (hv : ∀ z, v ≠ vL z) (hw : ∀ z, w ≠ vL z) (d : decode cc pc = .ok (.dup_x1, 1)) (k : aj_J X (pc + 1) lv (v :: w :: v :: st) mem) : aj_J X pc lv (v :: w :: st) mem := by
  obtain ⟨p, l, e, R, s, m, args, below, meth, c, E, A, ce, sl, Q⟩ := X
  obtain ⟨hx, hb, hml, hown, hts, hK, hD, hA, hZ, hfr, hlo, hce, hsl⟩ := C
  intro H locs ls hP hS hl
  exact lv_dup_x1 hx hb d (aj_c1 hv) (aj_c1 hw) (k H locs ls hP hS hl)
theorem aj_pop (C : aj_Cx X cc own nL n) {v : aj_V} (hv : ∀ z, v ≠ vL z) (d : decode cc pc = .ok (.pop, 1)) (k : aj_J X (pc + 1) lv st mem) : aj_J X pc lv (v :: st) mem := by
  obtain ⟨p, l, e, R, s, m, args, below, meth, c, E, A, ce, sl, Q⟩ := X
  obtain ⟨hx, hb, hml, hown, hts, hK, hD, hA, hZ, hfr, hlo, hce, hsl⟩ := C
  intro H locs ls hP hS hl
  exact lv_pop hx hb d (aj_c1 hv) (k H locs ls hP hS hl)
theorem aj_nI {x : Int} : ∀ z, (vI x : aj_V) ≠ vL z := fun z h => by cases h
theorem aj_nR {r : aj_R} : ∀ z, (.inr (.inr r) : aj_V) ≠ vL z := fun z h => by cases h
theorem aj_icmp_eq (C : aj_Cx X cc own nL n) {x y : Int} {off : Int} {tgt : Nat} (d : decode cc pc = .ok (.if_icmp .eq off, 3)) (ht : (pc : Int) + off = (tgt : Int)) (rx : -2147483648 ≤ x ∧ x < 2147483648) (ry : -2147483648 ≤ y ∧ y < 2147483648) (kt : x = y → aj_J X tgt lv st mem) (kf : ¬ (x = y) → aj_J X (pc + 3) lv st mem) : aj_J X pc lv (vI y :: vI x :: st) mem := by
  obtain ⟨p, l, e, R, s, m, args, below, meth, c, E, A, ce, sl, Q⟩ := X
  obtain ⟨hx, hb, hml, hown, hts, hK, hD, hA, hZ, hfr, hlo, hce, hsl⟩ := C
  intro H locs ls hP hS hl
  exact lv_icmp_eq hx hb d ht (fun h => kt ((aj_eq rx ry).mp h) H locs ls hP hS hl) (fun h => kf (fun q => h ((aj_eq rx ry).mpr q)) H locs ls hP hS hl)
theorem aj_if_eq (C : aj_Cx X cc own nL n) {x : Int} {off : Int} {tgt : Nat} (d : decode cc pc = .ok (.ifCond .eq off, 3)) (ht : (pc : Int) + off = (tgt : Int)) (rx : -2147483648 ≤ x ∧ x < 2147483648) (kt : x = 0 → aj_J X tgt lv st mem) (kf : ¬ (x = 0) → aj_J X (pc + 3) lv st mem) : aj_J X pc lv (vI x :: st) mem := by
  obtain ⟨p, l, e, R, s, m, args, below, meth, c, E, A, ce, sl, Q⟩ := X
  obtain ⟨hx, hb, hml, hown, hts, hK, hD, hA, hZ, hfr, hlo, hce, hsl⟩ := C
  intro H locs ls hP hS hl
  exact lv_if_eq hx hb d ht (fun h => kt ((aj_eq rx (by omega)).mp h) H locs ls hP hS hl) (fun h => kf (fun q => h ((aj_eq rx (by omega)).mpr q)) H locs ls hP hS hl)
theorem aj_icmp_ne (C : aj_Cx X cc own nL n) {x y : Int} {off : Int} {tgt : Nat} (d : decode cc pc = .ok (.if_icmp .ne off, 3)) (ht : (pc : Int) + off = (tgt : Int)) (rx : -2147483648 ≤ x ∧ x < 2147483648) (ry : -2147483648 ≤ y ∧ y < 2147483648) (kt : ¬ x = y → aj_J X tgt lv st mem) (kf : x = y → aj_J X (pc + 3) lv st mem) : aj_J X pc lv (vI y :: vI x :: st) mem := by
  obtain ⟨p, l, e, R, s, m, args, below, meth, c, E, A, ce, sl, Q⟩ := X
  obtain ⟨hx, hb, hml, hown, hts, hK, hD, hA, hZ, hfr, hlo, hce, hsl⟩ := C
  intro H locs ls hP hS hl
  exact lv_icmp_ne hx hb d ht (fun h => kt ((not_congr (aj_eq rx ry)).mp h) H locs ls hP hS hl) (fun h => kf ((aj_eq rx ry).mp h) H locs ls hP hS hl)
theorem aj_if_ne (C : aj_Cx X cc own nL n) {x : Int} {off : Int} {tgt : Nat} (d : decode cc pc = .ok (.ifCond .ne off, 3)) (ht : (pc : Int) + off = (tgt : Int)) (rx : -2147483648 ≤ x ∧ x < 2147483648) (kt : ¬ x = 0 → aj_J X tgt lv st mem) (kf : x = 0 → aj_J X (pc + 3) lv st mem) : aj_J X pc lv (vI x :: st) mem := by
  obtain ⟨p, l, e, R, s, m, args, below, meth, c, E, A, ce, sl, Q⟩ := X
  obtain ⟨hx, hb, hml, hown, hts, hK, hD, hA, hZ, hfr, hlo, hce, hsl⟩ := C
  intro H locs ls hP hS hl
  exact lv_if_ne hx hb d ht (fun h => kt ((not_congr (aj_eq rx (by omega))).mp h) H locs ls hP hS hl) (fun h => kf ((aj_eq rx (by omega)).mp h) H locs ls hP hS hl)
theorem aj_icmp_lt (C : aj_Cx X cc own nL n) {x y : Int} {off : Int} {tgt : Nat} (d : decode cc pc = .ok (.if_icmp .lt off, 3)) (ht : (pc : Int) + off = (tgt : Int)) (rx : -2147483648 ≤ x ∧ x < 2147483648) (ry : -2147483648 ≤ y ∧ y < 2147483648) (kt : x < y → aj_J X tgt lv st mem) (kf : ¬ (x < y) → aj_J X (pc + 3) lv st mem) : aj_J X pc lv (vI y :: vI x :: st) mem := by
  obtain ⟨p, l, e, R, s, m, args, below, meth, c, E, A, ce, sl, Q⟩ := X
  obtain ⟨hx, hb, hml, hown, hts, hK, hD, hA, hZ, hfr, hlo, hce, hsl⟩ := C
  intro H locs ls hP hS hl
  exact lv_icmp_lt hx hb d ht (fun h => kt ((aj_lt rx ry).mp h) H locs ls hP hS hl) (fun h => kf (fun q => h ((aj_lt rx ry).mpr q)) H locs ls hP hS hl)
theorem aj_if_lt (C : aj_Cx X cc own nL n) {x : Int} {off : Int} {tgt : Nat} (d : decode cc pc = .ok (.ifCond .lt off, 3)) (ht : (pc : Int) + off = (tgt : Int)) (rx : -2147483648 ≤ x ∧ x < 2147483648) (kt : x < 0 → aj_J X tgt lv st mem) (kf : ¬ (x < 0) → aj_J X (pc + 3) lv st mem) : aj_J X pc lv (vI x :: st) mem := by
  obtain ⟨p, l, e, R, s, m, args, below, meth, c, E, A, ce, sl, Q⟩ := X
  obtain ⟨hx, hb, hml, hown, hts, hK, hD, hA, hZ, hfr, hlo, hce, hsl⟩ := C
  intro H locs ls hP hS hl
  exact lv_if_lt hx hb d ht (fun h => kt ((aj_lt rx (by omega)).mp h) H locs ls hP hS hl) (fun h => kf (fun q => h ((aj_lt rx (by omega)).mpr q)) H locs ls hP hS hl)
theorem aj_icmp_ge (C : aj_Cx X cc own nL n) {x y : Int} {off : Int} {tgt : Nat} (d : decode cc pc = .ok (.if_icmp .ge off, 3)) (ht : (pc : Int) + off = (tgt : Int)) (rx : -2147483648 ≤ x ∧ x < 2147483648) (ry : -2147483648 ≤ y ∧ y < 2147483648) (kt : y ≤ x → aj_J X tgt lv st mem) (kf : ¬ (y ≤ x) → aj_J X (pc + 3) lv st mem) : aj_J X pc lv (vI y :: vI x :: st) mem := by
  obtain ⟨p, l, e, R, s, m, args, below, meth, c, E, A, ce, sl, Q⟩ := X
  obtain ⟨hx, hb, hml, hown, hts, hK, hD, hA, hZ, hfr, hlo, hce, hsl⟩ := C
  intro H locs ls hP hS hl
  exact lv_icmp_ge hx hb d ht (fun h => kt ((aj_le ry rx).mp h) H locs ls hP hS hl) (fun h => kf (fun q => h ((aj_le ry rx).mpr q)) H locs ls hP hS hl)
theorem aj_if_ge (C : aj_Cx X cc own nL n) {x : Int} {off : Int} {tgt : Nat} (d : decode cc pc = .ok (.ifCond .ge off, 3)) (ht : (pc : Int) + off = (tgt : Int)) (rx : -2147483648 ≤ x ∧ x < 2147483648) (kt : 0 ≤ x → aj_J X tgt lv st mem) (kf : ¬ (0 ≤ x) → aj_J X (pc + 3) lv st mem) : aj_J X pc lv (vI x :: st) mem := by
  obtain ⟨p, l, e, R, s, m, args, below, meth, c, E, A, ce, sl, Q⟩ := X
  obtain ⟨hx, hb, hml, hown, hts, hK, hD, hA, hZ, hfr, hlo, hce, hsl⟩ := C
  intro H locs ls hP hS hl
  exact lv_if_ge hx hb d ht (fun h => kt ((aj_le (by omega) rx).mp h) H locs ls hP hS hl) (fun h => kf (fun q => h ((aj_le (by omega) rx).mpr q)) H locs ls hP hS hl)
theorem aj_icmp_gt (C : aj_Cx X cc own nL n) {x y : Int} {off : Int} {tgt : Nat} (d : decode cc pc = .ok (.if_icmp .gt off, 3)) (ht : (pc : Int) + off = (tgt : Int)) (rx : -2147483648 ≤ x ∧ x < 2147483648) (ry : -2147483648 ≤ y ∧ y < 2147483648) (kt : y < x → aj_J X tgt lv st mem) (kf : ¬ (y < x) → aj_J X (pc + 3) lv st mem) : aj_J X pc lv (vI y :: vI x :: st) mem := by
  obtain ⟨p, l, e, R, s, m, args, below, meth, c, E, A, ce, sl, Q⟩ := X
  obtain ⟨hx, hb, hml, hown, hts, hK, hD, hA, hZ, hfr, hlo, hce, hsl⟩ := C
  intro H locs ls hP hS hl
  exact lv_icmp_gt hx hb d ht (fun h => kt ((aj_lt ry rx).mp h) H locs ls hP hS hl) (fun h => kf (fun q => h ((aj_lt ry rx).mpr q)) H locs ls hP hS hl)
theorem aj_if_gt (C : aj_Cx X cc own nL n) {x : Int} {off : Int} {tgt : Nat} (d : decode cc pc = .ok (.ifCond .gt off, 3)) (ht : (pc : Int) + off = (tgt : Int)) (rx : -2147483648 ≤ x ∧ x < 2147483648) (kt : 0 < x → aj_J X tgt lv st mem) (kf : ¬ (0 < x) → aj_J X (pc + 3) lv st mem) : aj_J X pc lv (vI x :: st) mem := by
  obtain ⟨p, l, e, R, s, m, args, below, meth, c, E, A, ce, sl, Q⟩ := X
  obtain ⟨hx, hb, hml, hown, hts, hK, hD, hA, hZ, hfr, hlo, hce, hsl⟩ := C
  intro H locs ls hP hS hl
  exact lv_if_gt hx hb d ht (fun h => kt ((aj_lt (by omega) rx).mp h) H locs ls hP hS hl) (fun h => kf (fun q => h ((aj_lt (by omega) rx).mpr q)) H locs ls hP hS hl)
theorem aj_icmp_le (C : aj_Cx X cc own nL n) {x y : Int} {off : Int} {tgt : Nat} (d : decode cc pc = .ok (.if_icmp .le off, 3)) (ht : (pc : Int) + off = (tgt : Int)) (rx : -2147483648 ≤ x ∧ x < 2147483648) (ry : -2147483648 ≤ y ∧ y < 2147483648) (kt : x ≤ y → aj_J X tgt lv st mem) (kf : ¬ (x ≤ y) → aj_J X (pc + 3) lv st mem) : aj_J X pc lv (vI y :: vI x :: st) mem := by
  obtain ⟨p, l, e, R, s, m, args, below, meth, c, E, A, ce, sl, Q⟩ := X
  obtain ⟨hx, hb, hml, hown, hts, hK, hD, hA, hZ, hfr, hlo, hce, hsl⟩ := C
  intro H locs ls hP hS hl
  exact lv_icmp_le hx hb d ht (fun h => kt ((aj_le rx ry).mp h) H locs ls hP hS hl) (fun h => kf (fun q => h ((aj_le rx ry).mpr q)) H locs ls hP hS hl)
theorem aj_if_le (C : aj_Cx X cc own nL n) {x : Int} {off : Int} {tgt : Nat} (d : decode cc pc = .ok (.ifCond .le off, 3)) (ht : (pc : Int) + off = (tgt : Int)) (rx : -2147483648 ≤ x ∧ x < 2147483648) (kt : x ≤ 0 → aj_J X tgt lv st mem) (kf : ¬ (x ≤ 0) → aj_J X (pc + 3) lv st mem) : aj_J X pc lv (vI x :: st) mem := by
  obtain ⟨p, l, e, R, s, m, args, below, meth, c, E, A, ce, sl, Q⟩ := X
  obtain ⟨hx, hb, hml, hown, hts, hK, hD, hA, hZ, hfr, hlo, hce, hsl⟩ := C
  intro H locs ls hP hS hl
  exact lv_if_le hx hb d ht (fun h => kt ((aj_le rx (by omega)).mp h) H locs ls hP hS hl) (fun h => kf (fun q => h ((aj_le rx (by omega)).mpr q)) H locs ls hP hS hl)
theorem aj_lcmp_eq (C : aj_Cx X cc own nL n) {x y : Int} {off : Int} {tgt : Nat} (d1 : decode cc pc = .ok (.lcmp, 1)) (d : decode cc (pc + 1) = .ok (.ifCond .eq off, 3)) (ht : ((pc + 1 : Nat) : Int) + off = (tgt : Int)) (rx : -9223372036854775808 ≤ x ∧ x < 9223372036854775808) (ry : -9223372036854775808 ≤ y ∧ y < 9223372036854775808) (kt : x = y → aj_J X tgt lv st mem) (kf : ¬ (x = y) → aj_J X (pc + 4) lv st mem) : aj_J X pc lv (vL y :: vL x :: st) mem := by
  obtain ⟨p, l, e, R, s, m, args, below, meth, c, E, A, ce, sl, Q⟩ := X
  obtain ⟨hx, hb, hml, hown, hts, hK, hD, hA, hZ, hfr, hlo, hce, hsl⟩ := C
  intro H locs ls hP hS hl
  exact W.lcmp hx hb d1 (lv_if_eq hx hb d ht (fun h => kt (((lg_cmp_eq _ _).trans (aj_eql rx ry)).mp h) H locs ls hP hS hl) (fun h => kf (fun z => h (((lg_cmp_eq _ _).trans (aj_eql rx ry)).mpr z)) H locs ls hP hS hl))
theorem aj_lcmp_ne (C : aj_Cx X cc own nL n) {x y : Int} {off : Int} {tgt : Nat} (d1 : decode cc pc = .ok (.lcmp, 1)) (d : decode cc (pc + 1) = .ok (.ifCond .ne off, 3)) (ht : ((pc + 1 : Nat) : Int) + off = (tgt : Int)) (rx : -9223372036854775808 ≤ x ∧ x < 9223372036854775808) (ry : -9223372036854775808 ≤ y ∧ y < 9223372036854775808) (kt : ¬ x = y → aj_J X tgt lv st mem) (kf : x = y → aj_J X (pc + 4) lv st mem) : aj_J X pc lv (vL y :: vL x :: st) mem := by
  obtain ⟨p, l, e, R, s, m, args, below, meth, c, E, A, ce, sl, Q⟩ := X
  obtain ⟨hx, hb, hml, hown, hts, hK, hD, hA, hZ, hfr, hlo, hce, hsl⟩ := C
  intro H locs ls hP hS hl
  exact W.lcmp hx hb d1 (lv_if_ne hx hb d ht (fun h => kt ((not_congr ((lg_cmp_eq _ _).trans (aj_eql rx ry))).mp h) H locs ls hP hS hl) (fun h => kf (((lg_cmp_eq _ _).trans (aj_eql rx ry)).mp h) H locs ls hP hS hl))
theorem aj_lcmp_lt (C : aj_Cx X cc own nL n) {x y : Int} {off : Int} {tgt : Nat} (d1 : decode cc pc = .ok (.lcmp, 1)) (d : decode cc (pc + 1) = .ok (.ifCond .lt off, 3)) (ht : ((pc + 1 : Nat) : Int) + off = (tgt : Int)) (rx : -9223372036854775808 ≤ x ∧ x < 9223372036854775808) (ry : -9223372036854775808 ≤ y ∧ y < 9223372036854775808) (kt : x < y → aj_J X tgt lv st mem) (kf : ¬ (x < y) → aj_J X (pc + 4) lv st mem) : aj_J X pc lv (vL y :: vL x :: st) mem := by
  obtain ⟨p, l, e, R, s, m, args, below, meth, c, E, A, ce, sl, Q⟩ := X
  obtain ⟨hx, hb, hml, hown, hts, hK, hD, hA, hZ, hfr, hlo, hce, hsl⟩ := C
  intro H locs ls hP hS hl
  exact W.lcmp hx hb d1 (lv_if_lt hx hb d ht (fun h => kt (((lg_cmp_lt _ _).trans (aj_ltl rx ry)).mp h) H locs ls hP hS hl) (fun h => kf (fun z => h (((lg_cmp_lt _ _).trans (aj_ltl rx ry)).mpr z)) H locs ls hP hS hl))
theorem aj_lcmp_ge (C : aj_Cx X cc own nL n) {x y : Int} {off : Int} {tgt : Nat} (d1 : decode cc pc = .ok (.lcmp, 1)) (d : decode cc (pc + 1) = .ok (.ifCond .ge off, 3)) (ht : ((pc + 1 : Nat) : Int) + off = (tgt : Int)) (rx : -9223372036854775808 ≤ x ∧ x < 9223372036854775808) (ry : -9223372036854775808 ≤ y ∧ y < 9223372036854775808) (kt : y ≤ x → aj_J X tgt lv st mem) (kf : ¬ (y ≤ x) → aj_J X (pc + 4) lv st mem) : aj_J X pc lv (vL y :: vL x :: st) mem := by
  obtain ⟨p, l, e, R, s, m, args, below, meth, c, E, A, ce, sl, Q⟩ := X
  obtain ⟨hx, hb, hml, hown, hts, hK, hD, hA, hZ, hfr, hlo, hce, hsl⟩ := C
  intro H locs ls hP hS hl
  exact W.lcmp hx hb d1 (lv_if_ge hx hb d ht (fun h => kt (((lg_cmp_ge _ _).trans (aj_lel ry rx)).mp h) H locs ls hP hS hl) (fun h => kf (fun z => h (((lg_cmp_ge _ _).trans (aj_lel ry rx)).mpr z)) H locs ls hP hS hl))
theorem aj_lcmp_gt (C : aj_Cx X cc own nL n) {x y : Int} {off : Int} {tgt : Nat} (d1 : decode cc pc = .ok (.lcmp, 1)) (d : decode cc (pc + 1) = .ok (.ifCond .gt off, 3)) (ht : ((pc + 1 : Nat) : Int) + off = (tgt : Int)) (rx : -9223372036854775808 ≤ x ∧ x < 9223372036854775808) (ry : -9223372036854775808 ≤ y ∧ y < 9223372036854775808) (kt : y < x → aj_J X tgt lv st mem) (kf : ¬ (y < x) → aj_J X (pc + 4) lv st mem) : aj_J X pc lv (vL y :: vL x :: st) mem := by
  obtain ⟨p, l, e, R, s, m, args, below, meth, c, E, A, ce, sl, Q⟩ := X
  obtain ⟨hx, hb, hml, hown, hts, hK, hD, hA, hZ, hfr, hlo, hce, hsl⟩ := C
  intro H locs ls hP hS hl
  exact W.lcmp hx hb d1 (lv_if_gt hx hb d ht (fun h => kt (((lg_cmp_gt _ _).trans (aj_ltl ry rx)).mp h) H locs ls hP hS hl) (fun h => kf (fun z => h (((lg_cmp_gt _ _).trans (aj_ltl ry rx)).mpr z)) H locs ls hP hS hl))
theorem aj_lcmp_le (C : aj_Cx X cc own nL n) {x y : Int} {off : Int} {tgt : Nat} (d1 : decode cc pc = .ok (.lcmp, 1)) (d : decode cc (pc + 1) = .ok (.ifCond .le off, 3)) (ht : ((pc + 1 : Nat) : Int) + off = (tgt : Int)) (rx : -9223372036854775808 ≤ x ∧ x < 9223372036854775808) (ry : -9223372036854775808 ≤ y ∧ y < 9223372036854775808) (kt : x ≤ y → aj_J X tgt lv st mem) (kf : ¬ (x ≤ y) → aj_J X (pc + 4) lv st mem) : aj_J X pc lv (vL y :: vL x :: st) mem := by
  obtain ⟨p, l, e, R, s, m, args, below, meth, c, E, A, ce, sl, Q⟩ := X
  obtain ⟨hx, hb, hml, hown, hts, hK, hD, hA, hZ, hfr, hlo, hce, hsl⟩ := C
  intro H locs ls hP hS hl
  exact W.lcmp hx hb d1 (lv_if_le hx hb d ht (fun h => kt (((lg_cmp_le _ _).trans (aj_lel rx ry)).mp h) H locs ls hP hS hl) (fun h => kf (fun z => h (((lg_cmp_le _ _).trans (aj_lel rx ry)).mpr z)) H locs ls hP hS hl))
theorem aj_goto (C : aj_Cx X cc own nL n) {off : Int} {tgt : Nat} (d : decode cc pc = .ok (.goto off, 3)) (ht : (pc : Int) + off = (tgt : Int)) (k : aj_J X tgt lv st mem) : aj_J X pc lv st mem := by
  obtain ⟨p, l, e, R, s, m, args, below, meth, c, E, A, ce, sl, Q⟩ := X
  obtain ⟨hx, hb, hml, hown, hts, hK, hD, hA, hZ, hfr, hlo, hce, hsl⟩ := C
  intro H locs ls hP hS hl
  exact lv_goto hx hb d ht (k H locs ls hP hS hl)
theorem aj_tin (C : aj_Cx X cc own nL n) {dflt lo hi : Int} {offs : Array Int} {len : Nat} {x : Int} {off : Int} {tgt : Nat} (d : decode cc pc = .ok (.tableswitch dflt lo hi offs, len)) (rx : -2147483648 ≤ x ∧ x < 2147483648) (h1 : lo ≤ x) (h2 : x ≤ hi) (ho : offs[(x - lo).toNat]? = some off) (ht : (pc : Int) + off = (tgt : Int)) (k : aj_J X tgt lv st mem) : aj_J X pc lv (vI x :: st) mem := by
  obtain ⟨p, l, e, R, s, m, args, below, meth, c, E, A, ce, sl, Q⟩ := X
  obtain ⟨hx, hb, hml, hown, hts, hK, hD, hA, hZ, hfr, hlo, hce, hsl⟩ := C
  intro H locs ls hP hS hl
  exact lv_tableIn hx hb d (by rw [aj_ri rx]; omega) (by rw [aj_ri rx]; omega) (by rw [aj_ri rx]; exact ho) ht (k H locs ls hP hS hl)
theorem aj_tout (C : aj_Cx X cc own nL n) {dflt lo hi : Int} {offs : Array Int} {len : Nat} {x : Int} {tgt : Nat} (d : decode cc pc = .ok (.tableswitch dflt lo hi offs, len)) (rx : -2147483648 ≤ x ∧ x < 2147483648) (h : x < lo ∨ hi < x) (ht : (pc : Int) + dflt = (tgt : Int)) (k : aj_J X tgt lv st mem) : aj_J X pc lv (vI x :: st) mem := by
  obtain ⟨p, l, e, R, s, m, args, below, meth, c, E, A, ce, sl, Q⟩ := X
  obtain ⟨hx, hb, hml, hown, hts, hK, hD, hA, hZ, hfr, hlo, hce, hsl⟩ := C
  intro H locs ls hP hS hl
  exact lv_tableOut hx hb d (by rw [aj_ri rx]; exact h) ht (k H locs ls hP hS hl)
theorem aj_look (C : aj_Cx X cc own nL n) {dflt : Int} {ps : Array (Int × Int)} {len : Nat} {x : Int} {off : Int} {tgt : Nat} (d : decode cc pc = .ok (.lookupswitch dflt ps, len)) (hp : (ps.toList.zip (ps.toList.drop 1)).all (fun (a, next) => a.1 < next.1) = true) (rx : -2147483648 ≤ x ∧ x < 2147483648) (ho : Op.lookupswitch.offset ps.toList dflt x = off) (ht : (pc : Int) + off = (tgt : Int)) (k : aj_J X tgt lv st mem) : aj_J X pc lv (vI x :: st) mem := by
  obtain ⟨p, l, e, R, s, m, args, below, meth, c, E, A, ce, sl, Q⟩ := X
  obtain ⟨hx, hb, hml, hown, hts, hK, hD, hA, hZ, hfr, hlo, hce, hsl⟩ := C
  intro H locs ls hP hS hl
  exact lv_lookup hx hb d hp (by rw [aj_ri rx]; exact ho) ht (k H locs ls hP hS hl)
end AJ
