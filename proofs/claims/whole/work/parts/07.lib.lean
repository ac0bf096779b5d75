/-! calls of the JDK that the kit walks itself -/
section AJL
variable {X : aj_T} {cc : ByteArray} {own : String} {nL n pc idx : Nat} {lv : List (Option aj_V)} {st : List aj_V} {mem : aj_M}
theorem aj_mmax (C : aj_Cx X cc own nL (n + 1)) (M : aj_MS own idx Lib.Math.max.name Lib.Math.max.code 2 (some .int)) {x y : Int} (hc : aj_cs st ≤ 8) (rx : -2147483648 ≤ x ∧ x < 2147483648) (ry : -2147483648 ≤ y ∧ y < 2147483648) (d : decode cc pc = .ok (.invokestatic idx, 3)) (k : aj_J X (pc + 3) lv (vI (max x y) :: st) mem) : aj_J X pc lv (vI y :: vI x :: st) mem := by
  obtain ⟨p, l, e, R, s, m, args, below, meth, c, E, A, ce, sl, Q⟩ := X
  obtain ⟨hx, hb, hml, hown, hts, hK, hD, hA, hZ, hfr, hlo, hce, hsl⟩ := C
  intro H locs ls hP hS hl
  obtain ⟨⟨m1, m2, m3, m4, m5⟩, m6⟩ := M
  have k' := k H locs ls hP hS hl
  have e1 : Int32.ofInt (max x y) = if Int32.ofInt x < Int32.ofInt y then Int32.ofInt y else Int32.ofInt x := by
    by_cases h : x < y
    · rw [if_pos ((aj_lt rx ry).mpr h), Int.max_def, if_pos (by omega)]
    · rw [if_neg (fun q => h ((aj_lt rx ry).mp q)), Int.max_def]
      by_cases h2 : x ≤ y
      · rw [if_pos h2, show x = y by omega]
      · rw [if_neg h2]
  rw [List.map_cons, show aj_c E (vI (max x y)) = .int (if Int32.ofInt x < Int32.ofInt y then Int32.ofInt y else Int32.ofInt x) from congrArg _ e1] at k'
  exact va_mmax hx hb (by rw [hl.1]) hown (hts _ m1) (hts _ m6) (hts _ m2) (hts _ m3) (by omega) (by rw [aj_cs_eq]; omega) hce hsl d k'
theorem aj_mmin (C : aj_Cx X cc own nL (n + 1)) (M : aj_MS own idx Lib.Math.min.name Lib.Math.min.code 2 (some .int)) {x y : Int} (hc : aj_cs st ≤ 8) (rx : -2147483648 ≤ x ∧ x < 2147483648) (ry : -2147483648 ≤ y ∧ y < 2147483648) (d : decode cc pc = .ok (.invokestatic idx, 3)) (k : aj_J X (pc + 3) lv (vI (min x y) :: st) mem) : aj_J X pc lv (vI y :: vI x :: st) mem := by
  obtain ⟨p, l, e, R, s, m, args, below, meth, c, E, A, ce, sl, Q⟩ := X
  obtain ⟨hx, hb, hml, hown, hts, hK, hD, hA, hZ, hfr, hlo, hce, hsl⟩ := C
  intro H locs ls hP hS hl
  obtain ⟨⟨m1, m2, m3, m4, m5⟩, m6⟩ := M
  have k' := k H locs ls hP hS hl
  refine va_mmin hx hb (by rw [hl.1]) hown (hts _ m1) (hts _ m6) (hts _ m2) (hts _ m3) (by omega) (by rw [aj_cs_eq]; omega) hce hsl d ?_
  by_cases h : x ≤ y
  · have h1 : min x y = x := by omega
    rw [h1] at k'
    first
      | (rw [if_pos ((aj_le rx ry).mpr h)]; exact k')
      | (by_cases h2 : x < y
         · rw [if_pos ((aj_lt rx ry).mpr h2)]; exact k'
         · have h3 : x = y := by omega
           subst h3
           rw [if_neg (fun q => h2 ((aj_lt rx rx).mp q))]; exact k')
      | (by_cases h2 : y < x
         · omega
         · rw [if_neg (fun q => h2 ((aj_lt ry rx).mp q))]; exact k')
  · have h1 : min x y = y := by omega
    rw [h1] at k'
    first
      | (rw [if_neg (fun q => h ((aj_le rx ry).mp q))]; exact k')
      | (rw [if_neg (fun q => (show ¬ x < y by omega) ((aj_lt rx ry).mp q))]; exact k')
      | (rw [if_pos ((aj_lt ry rx).mpr (by omega))]; exact k')
theorem aj_mmaxL (C : aj_Cx X cc own nL (n + 1)) (M : aj_MS own idx Lib.MathLoose.max_long.x Lib.MathLoose.max_long.code 4 (some .long)) {x y : Int} (hc : aj_cs st ≤ 8) (rx : -9223372036854775808 ≤ x ∧ x < 9223372036854775808) (ry : -9223372036854775808 ≤ y ∧ y < 9223372036854775808) (d : decode cc pc = .ok (.invokestatic idx, 3)) (k : aj_J X (pc + 3) lv (vL (max x y) :: st) mem) : aj_J X pc lv (vL y :: vL x :: st) mem := by
  obtain ⟨p, l, e, R, s, m, args, below, meth, c, E, A, ce, sl, Q⟩ := X
  obtain ⟨hx, hb, hml, hown, hts, hK, hD, hA, hZ, hfr, hlo, hce, hsl⟩ := C
  intro H locs ls hP hS hl
  obtain ⟨⟨m1, m2, m3, m4, m5⟩, m6⟩ := M
  have k' := k H locs ls hP hS hl
  refine va_mmax_long hx hb (by rw [hl.1]) hown (hts _ m1) (hts _ m6) (hts _ m2) (hts _ m3) (by omega) (by rw [aj_cs_eq]; omega) hce hsl d ?_
  by_cases h : y < x
  · have h1 : max x y = x := by omega
    rw [h1] at k'
    rw [if_pos ((aj_ltl ry rx).mpr h)]
    exact k'
  · have h1 : max x y = y := by omega
    rw [h1] at k'
    rw [if_neg (fun q => h ((aj_ltl ry rx).mp q))]
    exact k'
theorem aj_mminL (C : aj_Cx X cc own nL (n + 1)) (M : aj_MS own idx Lib.MathLoose.min_long.x Lib.MathLoose.min_long.code 4 (some .long)) {x y : Int} (hc : aj_cs st ≤ 8) (rx : -9223372036854775808 ≤ x ∧ x < 9223372036854775808) (ry : -9223372036854775808 ≤ y ∧ y < 9223372036854775808) (d : decode cc pc = .ok (.invokestatic idx, 3)) (k : aj_J X (pc + 3) lv (vL (min x y) :: st) mem) : aj_J X pc lv (vL y :: vL x :: st) mem := by
  obtain ⟨p, l, e, R, s, m, args, below, meth, c, E, A, ce, sl, Q⟩ := X
  obtain ⟨hx, hb, hml, hown, hts, hK, hD, hA, hZ, hfr, hlo, hce, hsl⟩ := C
  intro H locs ls hP hS hl
  obtain ⟨⟨m1, m2, m3, m4, m5⟩, m6⟩ := M
  have k' := k H locs ls hP hS hl
  refine va_mmin_long hx hb (by rw [hl.1]) hown (hts _ m1) (hts _ m6) (hts _ m2) (hts _ m3) (by omega) (by rw [aj_cs_eq]; omega) hce hsl d ?_
  by_cases h : x ≤ y
  · have h1 : min x y = x := by omega
    rw [h1] at k'
    first
      | (rw [if_pos ((aj_lel rx ry).mpr h)]; exact k')
      | (rw [if_neg (fun q => (show ¬ y < x by omega) ((aj_ltl ry rx).mp q))]; exact k')
  · have h1 : min x y = y := by omega
    rw [h1] at k'
    first
      | (rw [if_neg (fun q => h ((aj_lel rx ry).mp q))]; exact k')
      | (rw [if_pos ((aj_ltl ry rx).mpr (by omega))]; exact k')
def aj_cp (mem : aj_M) (ps : List Nat) (sp : Nat) (pd : List Nat) (dp k : Nat) : aj_M := aj_ur mem pd (fun j => if dp ≤ j ∧ j < dp + k then mem ps (sp + (j - dp)) else mem pd j)
theorem aj_copy (C : aj_Cx X cc own nL (n + 1)) (M : aj_MN own idx) {n0 n1 : Nat} {ps pd : List Nat} {sp dp k : Int} (hp0 : (.inr (0, n0, ps) : aj_R) ∈ aj_pls) (hp1 : (.inr (0, n1, pd) : aj_R) ∈ aj_pls) (hn : n0 < 2147483648 ∧ n1 < 2147483648) (h0 : 0 ≤ sp ∧ 0 ≤ dp ∧ 0 ≤ k) (h1 : sp + k ≤ n0 ∧ dp + k ≤ n1) (hc : aj_cs st ≤ 8) (d : decode cc pc = .ok (.invokestatic idx, 3))
    (kk : aj_J X (pc + 3) lv st (aj_cp mem ps sp.toNat pd dp.toNat k.toNat)) : aj_J X pc lv (vI k :: vI dp :: vA 0 n1 pd :: vI sp :: vA 0 n0 ps :: st) mem := by
  obtain ⟨p, l, e, R, s, m, args, below, meth, c, E, A, ce, sl, Q⟩ := X
  obtain ⟨hx, hb, hml, hown, hts, hK, hD, hA, hZ, hfr, hlo, hce, hsl⟩ := C
  intro H locs ls hP hS hl
  obtain ⟨m1, m2, m3, m4⟩ := M
  obtain ⟨k0, hk0⟩ := List.getElem?_of_mem hp0
  obtain ⟨k1, hk1⟩ := List.getElem?_of_mem hp1
  have hw : nativeFrameWords "java/lang/System" "arraycopy" 5 ≤ 30 := by decide +kernel
  have c0 : (Int32.ofInt sp).toNatClampNeg = sp.toNat := aj_cl (by omega)
  have c1 : (Int32.ofInt dp).toNatClampNeg = dp.toNat := aj_cl (by omega)
  have c2 : (Int32.ofInt k).toNatClampNeg = k.toNat := aj_cl (by omega)
  have nn : ∀ z : Int, 0 ≤ z → z < 2147483648 → ¬ Int32.ofInt z < 0 := fun z h1 h2 q => by
    rw [aj_0, aj_lt (by omega) (by omega)] at q
    omega
  refine va_copyi hx hb (by rw [hl.1]) hown (hts _ m1) (hts _ m2) (hts _ m3) (hts _ m4) hK hP (aj_vD hD hA mem) hS k0 k1 0 0 (aj_W_ai hk0 (by decide)) (aj_W_ai hk1 (by decide)) rfl rfl rfl (nn _ (by omega) (by omega)) (nn _ (by omega) (by omega)) (nn _ (by omega) (by omega)) (by rw [c0, c2]; omega) (by rw [c1, c2]; omega) (fun _ _ => rfl) (by omega) (by rw [aj_cs_eq]; omega) d (fun H1 locs1 hP1 hD1 hS1 => ?_)
  rw [c0, c1, c2, aj_ai_set (g := fun j => if dp.toNat ≤ j ∧ j < dp.toNat + k.toNat then mem ps (sp.toNat + (j - dp.toNat)) else mem pd j) hk1 (by decide) (fun j => by
    by_cases h : dp.toNat ≤ j ∧ j < dp.toNat + k.toNat
    · simp only [va_cpy, if_pos h]
    · simp only [va_cpy, if_neg h])] at hP1
  exact kk H1 locs1 ls hP1 hS1 hl
end AJL
