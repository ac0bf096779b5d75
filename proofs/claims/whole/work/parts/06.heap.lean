/-! the heap: fields, arrays, ends, calls -/
theorem aj_fs_at {E : aj_E} {mem : aj_M} {p : List Nat} {c j : Nat} (hj : j < aj_N c) : ((List.range (aj_N c)).map fun i => aj_fv E mem p i (aj_F c i))[j]? = some (aj_fv E mem p j (aj_F c j)) := by
  rw [List.getElem?_map, List.getElem?_range hj]
  rfl
theorem aj_fs_set {E : aj_E} {mem : aj_M} {p : List Nat} {c j : Nat} {z : Int} : ((List.range (aj_N c)).map fun i => aj_fv E (aj_u mem p j z) p i (aj_F c i)) = ((List.range (aj_N c)).map fun i => aj_fv E mem p i (aj_F c i)).set j (aj_fv E (aj_u mem p j z) p j (aj_F c j)) := by
  apply List.ext_getElem?
  intro i
  by_cases hi : i = j
  · subst hi
    rw [List.getElem?_set, List.getElem?_map, List.length_map, List.length_range]
    simp only [if_true]
    by_cases hl : i < aj_N c
    · rw [List.getElem?_range hl, if_pos hl]
      rfl
    · rw [List.getElem?_eq_none (by simpa using hl), if_neg hl]
      rfl
  · rw [List.getElem?_set_ne (Ne.symm hi), List.getElem?_map, List.getElem?_map]
    by_cases hl : i < aj_N c
    · rw [List.getElem?_range hl]
      simp only [Option.map_some, aj_fv, aj_u, hi, and_false, if_false]
    · rw [List.getElem?_eq_none (by simpa using hl)]
      rfl
theorem aj_W_ai {E : aj_E} {mem : aj_M} {k e n : Nat} {p : List Nat} (h : aj_pls[k]? = some (.inr (e, n, p))) (he : e < 3) : (aj_W E mem)[k]? = some (E.2.1 p, .inl (E.2.2 e, n, .inl fun j => Int32.ofInt (mem p j))) := by
  rw [aj_W_at h]
  simp only [aj_e, aj_av, aj_path, he, if_true]
theorem aj_W_al {E : aj_E} {mem : aj_M} {k n : Nat} {p : List Nat} (h : aj_pls[k]? = some (.inr (3, n, p))) : (aj_W E mem)[k]? = some (E.2.1 p, .inl (E.2.2 3, n, .inr (.inl fun j => Int64.ofInt (mem p j)))) := by
  rw [aj_W_at h]
  rfl
theorem aj_W_aq {E : aj_E} {mem : aj_M} {k e n : Nat} {p : List Nat} (h : aj_pls[k]? = some (.inr (e, n, p))) (he : 3 < e) : (aj_W E mem)[k]? = some (E.2.1 p, .inl (E.2.2 e, n, .inr (.inr (.inr (.inr fun j => some (E.2.1 (j :: p))))))) := by
  rw [aj_W_at h]
  have h1 : ¬ e < 3 := by omega
  have h2 : ¬ e = 3 := by omega
  simp only [aj_e, aj_av, aj_path, h1, h2, if_false]
theorem aj_ai_set {E : aj_E} {mem : aj_M} {k e n : Nat} {p : List Nat} {f : Nat → Int32} {g : Nat → Int} (h : aj_pls[k]? = some (.inr (e, n, p))) (he : e < 3) (hf : ∀ j, Int32.ofInt (g j) = f j) : (aj_W E mem).set k (E.2.1 p, .inl (E.2.2 e, n, .inl f)) = aj_W E (aj_ur mem p g) := by
  refine aj_W_set (r := .inr (e, n, p)) h (fun q hq => aj_ur_off hq) ?_
  simp only [aj_e, aj_av, he, if_true, aj_ur_at]
  congr 4
  funext j
  exact hf j
theorem aj_al_set {E : aj_E} {mem : aj_M} {k n : Nat} {p : List Nat} {f : Nat → Int64} {g : Nat → Int} (h : aj_pls[k]? = some (.inr (3, n, p))) (hf : ∀ j, Int64.ofInt (g j) = f j) : (aj_W E mem).set k (E.2.1 p, .inl (E.2.2 3, n, .inr (.inl f))) = aj_W E (aj_ur mem p g) := by
  refine aj_W_set (r := .inr (3, n, p)) h (fun q hq => aj_ur_off hq) ?_
  simp only [aj_e, aj_av, aj_ur_at]
  have e1 : (fun j => Int64.ofInt (g j)) = f := funext hf
  rw [e1]
  rfl
theorem aj_u_ur {mem : aj_M} {p : List Nat} {j : Nat} {z : Int} : aj_ur mem p (fun k => if k = j then z else mem p k) = aj_u mem p j z := by
  funext q k
  by_cases hq : q = p
  · subst hq
    by_cases hk : k = j <;> simp [aj_ur, aj_u, hk]
  · simp [aj_ur, aj_u, hq]
section AJH
variable {X : aj_T} {cc : ByteArray} {own : String} {nL n pc idx c0 j : Nat} {lv : List (Option aj_V)} {st : List aj_V} {mem : aj_M} {p0 : List Nat}
theorem aj_getI (C : aj_Cx X cc own nL n) {z : Int} (F : aj_FL own idx c0 j) (hp : (.inl (c0, p0) : aj_R) ∈ aj_pls) (hk : (aj_F c0 j).1 < 3) (d : decode cc pc = .ok (.getfield idx, 3)) (hv : mem p0 j = z) (k : aj_J X (pc + 3) lv (vI z :: st) mem) : aj_J X pc lv (vO c0 p0 :: st) mem := by
  subst hv
  obtain ⟨p, l, e, R, s, m, args, below, meth, c, E, A, ce, sl, Q⟩ := X
  obtain ⟨hx, hb, hml, hown, hts, hK, hD, hA, hZ, hfr, hlo, hce, hsl⟩ := C
  intro H locs ls hP hS hl
  obtain ⟨k0, hk0⟩ := List.getElem?_of_mem hp
  obtain ⟨C', T', ty0, ⟨hc, hw, hty, hnm, hkd⟩, hj, hlk⟩ := F
  refine va_get (D := E.1) (ci := c0) (v := .int (Int32.ofInt (mem p0 j))) hx hb hts hw hown hK hP k0 (aj_W_at hk0) hc j hj (hts _ hlk) (fun _ h9 => h9) ?_ d (k H locs ls hP hS hl)
  rw [aj_fs_at hj]
  simp only [aj_fv, hk, if_true]
theorem aj_getL (C : aj_Cx X cc own nL n) {z : Int} (F : aj_FL own idx c0 j) (hp : (.inl (c0, p0) : aj_R) ∈ aj_pls) (hk : (aj_F c0 j).1 = 3) (d : decode cc pc = .ok (.getfield idx, 3)) (hv : mem p0 j = z) (k : aj_J X (pc + 3) lv (vL z :: st) mem) : aj_J X pc lv (vO c0 p0 :: st) mem := by
  subst hv
  obtain ⟨p, l, e, R, s, m, args, below, meth, c, E, A, ce, sl, Q⟩ := X
  obtain ⟨hx, hb, hml, hown, hts, hK, hD, hA, hZ, hfr, hlo, hce, hsl⟩ := C
  intro H locs ls hP hS hl
  obtain ⟨k0, hk0⟩ := List.getElem?_of_mem hp
  obtain ⟨C', T', ty0, ⟨hc, hw, hty, hnm, hkd⟩, hj, hlk⟩ := F
  refine va_get (D := E.1) (ci := c0) (v := .long (Int64.ofInt (mem p0 j))) hx hb hts hw hown hK hP k0 (aj_W_at hk0) hc j hj (hts _ hlk) (fun _ h9 => h9) ?_ d (k H locs ls hP hS hl)
  rw [aj_fs_at hj]
  have h1 : ¬ (3 : Nat) < 3 := by omega
  simp only [aj_fv, hk, h1, if_true, if_false]
theorem aj_getO (C : aj_Cx X cc own nL n) (F : aj_FL own idx c0 j) (hp : (.inl (c0, p0) : aj_R) ∈ aj_pls) {x y : Nat} (hk : aj_F c0 j = (4, x, y)) (d : decode cc pc = .ok (.getfield idx, 3)) (k : aj_J X (pc + 3) lv (vO x (j :: p0) :: st) mem) : aj_J X pc lv (vO c0 p0 :: st) mem := by
  obtain ⟨p, l, e, R, s, m, args, below, meth, c, E, A, ce, sl, Q⟩ := X
  obtain ⟨hx, hb, hml, hown, hts, hK, hD, hA, hZ, hfr, hlo, hce, hsl⟩ := C
  intro H locs ls hP hS hl
  obtain ⟨k0, hk0⟩ := List.getElem?_of_mem hp
  obtain ⟨C', T', ty0, ⟨hc, hw, hty, hnm, hkd⟩, hj, hlk⟩ := F
  refine va_get (D := E.1) (ci := c0) (v := .ref (E.2.1 (j :: p0))) hx hb hts hw hown hK hP k0 (aj_W_at hk0) hc j hj (hts _ hlk) (fun _ h9 => h9) ?_ d (k H locs ls hP hS hl)
  rw [aj_fs_at hj, hk]
  rfl
theorem aj_getA (C : aj_Cx X cc own nL n) (F : aj_FL own idx c0 j) (hp : (.inl (c0, p0) : aj_R) ∈ aj_pls) {x y : Nat} (hk : aj_F c0 j = (5, x, y)) (d : decode cc pc = .ok (.getfield idx, 3)) (k : aj_J X (pc + 3) lv (vA x y (j :: p0) :: st) mem) : aj_J X pc lv (vO c0 p0 :: st) mem := by
  obtain ⟨p, l, e, R, s, m, args, below, meth, c, E, A, ce, sl, Q⟩ := X
  obtain ⟨hx, hb, hml, hown, hts, hK, hD, hA, hZ, hfr, hlo, hce, hsl⟩ := C
  intro H locs ls hP hS hl
  obtain ⟨k0, hk0⟩ := List.getElem?_of_mem hp
  obtain ⟨C', T', ty0, ⟨hc, hw, hty, hnm, hkd⟩, hj, hlk⟩ := F
  refine va_get (D := E.1) (ci := c0) (v := .ref (E.2.1 (j :: p0))) hx hb hts hw hown hK hP k0 (aj_W_at hk0) hc j hj (hts _ hlk) (fun _ h9 => h9) ?_ d (k H locs ls hP hS hl)
  rw [aj_fs_at hj, hk]
  rfl
theorem aj_putI (C : aj_Cx X cc own nL n) (F : aj_FP own idx c0 j) (hp : (.inl (c0, p0) : aj_R) ∈ aj_pls) {z : Int} (hk : (aj_F c0 j).1 = 0) (d : decode cc pc = .ok (.putfield idx, 3)) (k : aj_J X (pc + 3) lv st (aj_u mem p0 j z)) : aj_J X pc lv (vI z :: vO c0 p0 :: st) mem := by
  obtain ⟨p, l, e, R, s, m, args, below, meth, c, E, A, ce, sl, Q⟩ := X
  obtain ⟨hx, hb, hml, hown, hts, hK, hD, hA, hZ, hfr, hlo, hce, hsl⟩ := C
  intro H locs ls hP hS hl
  obtain ⟨k0, hk0⟩ := List.getElem?_of_mem hp
  obtain ⟨C', T', ty0, ⟨hc, hw, hty, hnm, hkd⟩, hj, hlk, hfin⟩ := F
  have ht : ty0 j = .int := (hkd j hj).1 hk
  have he : aj_e E (aj_u mem p0 j z) (.inl (c0, p0)) = .inr (c0, ((List.range (aj_N c0)).map fun i => aj_fv E mem p0 i (aj_F c0 i)).set j (.int (Int32.ofInt z))) := by
    have h1 : aj_fv E (aj_u mem p0 j z) p0 j (aj_F c0 j) = .int (Int32.ofInt z) := by simp [aj_fv, hk, aj_u]
    simp only [aj_e]
    rw [aj_fs_set, h1]
  refine va_put (D := E.1) (ci := c0) (v := .int (Int32.ofInt z)) (ty := .int) hx hb hts hw ty0 hty hnm hown hK hP (aj_vD hD hA mem) hS k0 (aj_W_at hk0) hc j hj (hts _ hlk) (fun _ h9 => h9) hfin (by rw [← ht]; exact hty j hj) rfl rfl (by rw [List.length_map, List.length_range]; exact hj) d (fun H1 locs1 hP1 hD1 hS1 => ?_)
  rw [aj_W_set (r := .inl (c0, p0)) hk0 (fun q hq => aj_u_off hq) he] at hP1
  exact k H1 locs1 ls hP1 hS1 hl
theorem aj_putZ (C : aj_Cx X cc own nL n) (F : aj_FP own idx c0 j) (hp : (.inl (c0, p0) : aj_R) ∈ aj_pls) {z : Int} (hz : z = 0 ∨ z = 1) (hk : (aj_F c0 j).1 = 1) (d : decode cc pc = .ok (.putfield idx, 3)) (k : aj_J X (pc + 3) lv st (aj_u mem p0 j z)) : aj_J X pc lv (vI z :: vO c0 p0 :: st) mem := by
  obtain ⟨p, l, e, R, s, m, args, below, meth, c, E, A, ce, sl, Q⟩ := X
  obtain ⟨hx, hb, hml, hown, hts, hK, hD, hA, hZ, hfr, hlo, hce, hsl⟩ := C
  intro H locs ls hP hS hl
  obtain ⟨k0, hk0⟩ := List.getElem?_of_mem hp
  obtain ⟨C', T', ty0, ⟨hc, hw, hty, hnm, hkd⟩, hj, hlk, hfin⟩ := F
  have ht : ty0 j = .boolean := (hkd j hj).2.1 hk
  have he : aj_e E (aj_u mem p0 j z) (.inl (c0, p0)) = .inr (c0, ((List.range (aj_N c0)).map fun i => aj_fv E mem p0 i (aj_F c0 i)).set j (.int (Int32.ofInt z))) := by
    have h1 : aj_fv E (aj_u mem p0 j z) p0 j (aj_F c0 j) = .int (Int32.ofInt z) := by simp [aj_fv, hk, aj_u]
    simp only [aj_e]
    rw [aj_fs_set, h1]
  refine va_put (D := E.1) (ci := c0) (v := .int (Int32.ofInt z)) (ty := .boolean) hx hb hts hw ty0 hty hnm hown hK hP (aj_vD hD hA mem) hS k0 (aj_W_at hk0) hc j hj (hts _ hlk) (fun _ h9 => h9) hfin (by rw [← ht]; exact hty j hj) (by rcases hz with rfl | rfl <;> rfl) (by rcases hz with rfl | rfl <;> rfl) (by rw [List.length_map, List.length_range]; exact hj) d (fun H1 locs1 hP1 hD1 hS1 => ?_)
  rw [aj_W_set (r := .inl (c0, p0)) hk0 (fun q hq => aj_u_off hq) he] at hP1
  exact k H1 locs1 ls hP1 hS1 hl
theorem aj_putL (C : aj_Cx X cc own nL n) (F : aj_FP own idx c0 j) (hp : (.inl (c0, p0) : aj_R) ∈ aj_pls) {z : Int} (hk : (aj_F c0 j).1 = 3) (d : decode cc pc = .ok (.putfield idx, 3)) (k : aj_J X (pc + 3) lv st (aj_u mem p0 j z)) : aj_J X pc lv (vL z :: vO c0 p0 :: st) mem := by
  obtain ⟨p, l, e, R, s, m, args, below, meth, c, E, A, ce, sl, Q⟩ := X
  obtain ⟨hx, hb, hml, hown, hts, hK, hD, hA, hZ, hfr, hlo, hce, hsl⟩ := C
  intro H locs ls hP hS hl
  obtain ⟨k0, hk0⟩ := List.getElem?_of_mem hp
  obtain ⟨C', T', ty0, ⟨hc, hw, hty, hnm, hkd⟩, hj, hlk, hfin⟩ := F
  have ht : ty0 j = .long := (hkd j hj).2.2.2 hk
  have he : aj_e E (aj_u mem p0 j z) (.inl (c0, p0)) = .inr (c0, ((List.range (aj_N c0)).map fun i => aj_fv E mem p0 i (aj_F c0 i)).set j (.long (Int64.ofInt z))) := by
    have h1 : aj_fv E (aj_u mem p0 j z) p0 j (aj_F c0 j) = .long (Int64.ofInt z) := by simp [aj_fv, hk, aj_u]
    simp only [aj_e]
    rw [aj_fs_set, h1]
  refine va_put (D := E.1) (ci := c0) (v := .long (Int64.ofInt z)) (ty := .long) hx hb hts hw ty0 hty hnm hown hK hP (aj_vD hD hA mem) hS k0 (aj_W_at hk0) hc j hj (hts _ hlk) (fun _ h9 => h9) hfin (by rw [← ht]; exact hty j hj) rfl rfl (by rw [List.length_map, List.length_range]; exact hj) d (fun H1 locs1 hP1 hD1 hS1 => ?_)
  rw [aj_W_set (r := .inl (c0, p0)) hk0 (fun q hq => aj_u_off hq) he] at hP1
  exact k H1 locs1 ls hP1 hS1 hl
variable {n0 : Nat} {i : Int}
theorem aj_iald (C : aj_Cx X cc own nL n) {z : Int} (hp : (.inr (0, n0, p0) : aj_R) ∈ aj_pls) (hn : n0 < 2147483648) (hi : 0 ≤ i ∧ i < n0) (d : decode cc pc = .ok (.iaload, 1)) (hv : mem p0 i.toNat = z) (k : aj_J X (pc + 1) lv (vI z :: st) mem) : aj_J X pc lv (vI i :: vA 0 n0 p0 :: st) mem := by
  subst hv
  obtain ⟨p, l, e, R, s, m, args, below, meth, c, E, A, ce, sl, Q⟩ := X
  obtain ⟨hx, hb, hml, hown, hts, hK, hD, hA, hZ, hfr, hlo, hce, hsl⟩ := C
  intro H locs ls hP hS hl
  obtain ⟨k0, hk0⟩ := List.getElem?_of_mem hp
  refine va_iald hx hb hK hP k0 0 (aj_W_ai hk0 (by decide)) rfl (aj_in hi hn) d ?_
  rw [aj_cl (by omega)]
  exact k H locs ls hP hS hl
theorem aj_bald (C : aj_Cx X cc own nL n) {z : Int} (hp : (.inr (2, n0, p0) : aj_R) ∈ aj_pls) (hn : n0 < 2147483648) (hi : 0 ≤ i ∧ i < n0) (d : decode cc pc = .ok (.baload, 1)) (hv : mem p0 i.toNat = z) (k : aj_J X (pc + 1) lv (vI z :: st) mem) : aj_J X pc lv (vI i :: vA 2 n0 p0 :: st) mem := by
  subst hv
  obtain ⟨p, l, e, R, s, m, args, below, meth, c, E, A, ce, sl, Q⟩ := X
  obtain ⟨hx, hb, hml, hown, hts, hK, hD, hA, hZ, hfr, hlo, hce, hsl⟩ := C
  intro H locs ls hP hS hl
  obtain ⟨k0, hk0⟩ := List.getElem?_of_mem hp
  refine va_bald hx hb hK hP k0 2 (aj_W_ai hk0 (by decide)) rfl (aj_in hi hn) d ?_
  rw [aj_cl (by omega)]
  exact k H locs ls hP hS hl
theorem aj_zald (C : aj_Cx X cc own nL n) {z : Int} (hp : (.inr (1, n0, p0) : aj_R) ∈ aj_pls) (hn : n0 < 2147483648) (hi : 0 ≤ i ∧ i < n0) (d : decode cc pc = .ok (.baload, 1)) (hv : mem p0 i.toNat = z) (k : aj_J X (pc + 1) lv (vI z :: st) mem) : aj_J X pc lv (vI i :: vA 1 n0 p0 :: st) mem := by
  subst hv
  obtain ⟨p, l, e, R, s, m, args, below, meth, c, E, A, ce, sl, Q⟩ := X
  obtain ⟨hx, hb, hml, hown, hts, hK, hD, hA, hZ, hfr, hlo, hce, hsl⟩ := C
  intro H locs ls hP hS hl
  obtain ⟨k0, hk0⟩ := List.getElem?_of_mem hp
  refine va_zald hx hb hK hP k0 1 (aj_W_ai hk0 (by decide)) rfl (aj_in hi hn) d ?_
  rw [aj_cl (by omega)]
  exact k H locs ls hP hS hl
theorem aj_lald (C : aj_Cx X cc own nL n) {z : Int} (hp : (.inr (3, n0, p0) : aj_R) ∈ aj_pls) (hn : n0 < 2147483648) (hi : 0 ≤ i ∧ i < n0) (d : decode cc pc = .ok (.laload, 1)) (hv : mem p0 i.toNat = z) (k : aj_J X (pc + 1) lv (vL z :: st) mem) : aj_J X pc lv (vI i :: vA 3 n0 p0 :: st) mem := by
  subst hv
  obtain ⟨p, l, e, R, s, m, args, below, meth, c, E, A, ce, sl, Q⟩ := X
  obtain ⟨hx, hb, hml, hown, hts, hK, hD, hA, hZ, hfr, hlo, hce, hsl⟩ := C
  intro H locs ls hP hS hl
  obtain ⟨k0, hk0⟩ := List.getElem?_of_mem hp
  refine va_lald hx hb hK hP k0 3 (aj_W_al hk0) rfl (aj_in hi hn) d ?_
  rw [aj_cl (by omega)]
  exact k H locs ls hP hS hl
theorem aj_aald (C : aj_Cx X cc own nL n) {eA c1 : Nat} {Cn : String} (hp : (.inr (eA, n0, p0) : aj_R) ∈ aj_pls) (he : 3 < eA) (ht : ∀ E : aj_E, (aj_tys E)[eA]? = some (E.2.2 eA, .object Cn)) (hn : n0 < 2147483648) (hi : 0 ≤ i ∧ i < n0) (d : decode cc pc = .ok (.aaload, 1)) (k : aj_J X (pc + 1) lv (vO c1 (i.toNat :: p0) :: st) mem) : aj_J X pc lv (vI i :: vA eA n0 p0 :: st) mem := by
  obtain ⟨p, l, e, R, s, m, args, below, meth, c, E, A, ce, sl, Q⟩ := X
  obtain ⟨hx, hb, hml, hown, hts, hK, hD, hA, hZ, hfr, hlo, hce, hsl⟩ := C
  intro H locs ls hP hS hl
  obtain ⟨k0, hk0⟩ := List.getElem?_of_mem hp
  refine va_aldq hx hb hK hP k0 eA (aj_W_aq hk0 he) (ht E) (aj_in hi hn) d ?_
  rw [aj_cl (by omega)]
  exact k H locs ls hP hS hl
theorem aj_alen (C : aj_Cx X cc own nL n) {eA : Nat} {ty : FieldType} (hp : (.inr (eA, n0, p0) : aj_R) ∈ aj_pls) (ht : ∀ E : aj_E, (aj_tys E)[eA]? = some (E.2.2 eA, ty)) (d : decode cc pc = .ok (.arraylength, 1)) (k : aj_J X (pc + 1) lv (vI (n0 : Int) :: st) mem) : aj_J X pc lv (vA eA n0 p0 :: st) mem := by
  obtain ⟨p, l, e, R, s, m, args, below, meth, c, E, A, ce, sl, Q⟩ := X
  obtain ⟨hx, hb, hml, hown, hts, hK, hD, hA, hZ, hfr, hlo, hce, hsl⟩ := C
  intro H locs ls hP hS hl
  obtain ⟨k0, hk0⟩ := List.getElem?_of_mem hp
  exact va_alen (v := Int32.ofInt (n0 : Int)) hx hb hK hP k0 eA (aj_W_at hk0) (ht E) (Int32.ofInt_eq_ofNat).symm d (k H locs ls hP hS hl)
theorem aj_iast (C : aj_Cx X cc own nL n) {z : Int} (hp : (.inr (0, n0, p0) : aj_R) ∈ aj_pls) (hn : n0 < 2147483648) (hi : 0 ≤ i ∧ i < n0) (d : decode cc pc = .ok (.iastore, 1)) (k : aj_J X (pc + 1) lv st (aj_u mem p0 i.toNat z)) : aj_J X pc lv (vI z :: vI i :: vA 0 n0 p0 :: st) mem := by
  obtain ⟨p, l, e, R, s, m, args, below, meth, c, E, A, ce, sl, Q⟩ := X
  obtain ⟨hx, hb, hml, hown, hts, hK, hD, hA, hZ, hfr, hlo, hce, hsl⟩ := C
  intro H locs ls hP hS hl
  obtain ⟨k0, hk0⟩ := List.getElem?_of_mem hp
  refine va_iast hx hb hK hP (aj_vD hD hA mem) hS k0 0 (aj_W_ai hk0 (by decide)) rfl (aj_in hi hn) d (fun H1 locs1 hP1 hD1 hS1 => ?_)
  rw [aj_ai_set (g := fun k => if k = i.toNat then z else mem p0 k) hk0 (by decide) (fun j => by rw [aj_cl (by omega)]; by_cases h : j = i.toNat <;> simp [upd, h]), aj_u_ur] at hP1
  exact k H1 locs1 ls hP1 hS1 hl
theorem aj_bast (C : aj_Cx X cc own nL n) {z : Int} (hp : (.inr (2, n0, p0) : aj_R) ∈ aj_pls) (hn : n0 < 2147483648) (hi : 0 ≤ i ∧ i < n0) (d : decode cc pc = .ok (.bastore, 1)) (k : aj_J X (pc + 1) lv st (aj_u mem p0 i.toNat (aj_b z))) : aj_J X pc lv (vI z :: vI i :: vA 2 n0 p0 :: st) mem := by
  obtain ⟨p, l, e, R, s, m, args, below, meth, c, E, A, ce, sl, Q⟩ := X
  obtain ⟨hx, hb, hml, hown, hts, hK, hD, hA, hZ, hfr, hlo, hce, hsl⟩ := C
  intro H locs ls hP hS hl
  obtain ⟨k0, hk0⟩ := List.getElem?_of_mem hp
  refine va_bast hx hb hK hP (aj_vD hD hA mem) hS k0 2 (aj_W_ai hk0 (by decide)) rfl (aj_in hi hn) d (fun H1 locs1 hP1 hD1 hS1 => ?_)
  rw [aj_ai_set (g := fun k => if k = i.toNat then aj_b z else mem p0 k) hk0 (by decide) (fun j => by rw [aj_cl (by omega)]; by_cases h : j = i.toNat <;> simp [upd, h, vp_nar_byte, aj_b_c]), aj_u_ur] at hP1
  exact k H1 locs1 ls hP1 hS1 hl
theorem aj_zast (C : aj_Cx X cc own nL n) {z : Int} (hz : z = 0 ∨ z = 1) (hp : (.inr (1, n0, p0) : aj_R) ∈ aj_pls) (hn : n0 < 2147483648) (hi : 0 ≤ i ∧ i < n0) (d : decode cc pc = .ok (.bastore, 1)) (k : aj_J X (pc + 1) lv st (aj_u mem p0 i.toNat z)) : aj_J X pc lv (vI z :: vI i :: vA 1 n0 p0 :: st) mem := by
  obtain ⟨p, l, e, R, s, m, args, below, meth, c, E, A, ce, sl, Q⟩ := X
  obtain ⟨hx, hb, hml, hown, hts, hK, hD, hA, hZ, hfr, hlo, hce, hsl⟩ := C
  intro H locs ls hP hS hl
  obtain ⟨k0, hk0⟩ := List.getElem?_of_mem hp
  have e1 : vp_nar .boolean (Int32.ofInt z) = Int32.ofInt z := by rcases hz with rfl | rfl <;> rfl
  refine va_zast hx hb hK hP (aj_vD hD hA mem) hS k0 1 (aj_W_ai hk0 (by decide)) rfl (aj_in hi hn) d (fun H1 locs1 hP1 hD1 hS1 => ?_)
  rw [aj_ai_set (g := fun k => if k = i.toNat then z else mem p0 k) hk0 (by decide) (fun j => by rw [aj_cl (by omega), e1]; by_cases h : j = i.toNat <;> simp [upd, h]), aj_u_ur] at hP1
  exact k H1 locs1 ls hP1 hS1 hl
theorem aj_last (C : aj_Cx X cc own nL n) {z : Int} (hp : (.inr (3, n0, p0) : aj_R) ∈ aj_pls) (hn : n0 < 2147483648) (hi : 0 ≤ i ∧ i < n0) (d : decode cc pc = .ok (.lastore, 1)) (k : aj_J X (pc + 1) lv st (aj_u mem p0 i.toNat z)) : aj_J X pc lv (vL z :: vI i :: vA 3 n0 p0 :: st) mem := by
  obtain ⟨p, l, e, R, s, m, args, below, meth, c, E, A, ce, sl, Q⟩ := X
  obtain ⟨hx, hb, hml, hown, hts, hK, hD, hA, hZ, hfr, hlo, hce, hsl⟩ := C
  intro H locs ls hP hS hl
  obtain ⟨k0, hk0⟩ := List.getElem?_of_mem hp
  refine va_last hx hb hK hP (aj_vD hD hA mem) hS k0 3 (aj_W_al hk0) rfl (aj_in hi hn) d (fun H1 locs1 hP1 hD1 hS1 => ?_)
  rw [aj_al_set (g := fun k => if k = i.toNat then z else mem p0 k) hk0 (fun j => by rw [aj_cl (by omega)]; by_cases h : j = i.toNat <;> simp [vp_updL, h]), aj_u_ur] at hP1
  exact k H1 locs1 ls hP1 hS1 hl
/-! ends -/
variable {Φ : Option aj_V → aj_M → Prop}
theorem aj_iret (C : aj_Cx X cc own nL n) (K : aj_Rt X (some .int) Φ) {z : Int} (d : decode cc pc = .ok (.ireturn, 1)) (h : Φ (some (vI z)) mem) : aj_J X pc lv [vI z] mem := by
  obtain ⟨p, l, e, R, s, m, args, below, meth, c, E, A, ce, sl, Q⟩ := X
  obtain ⟨hx, hb, hml, hown, hts, hK, hD, hA, hZ, hfr, hlo, hce, hsl⟩ := C
  obtain ⟨hlk, hr, hAe, hQe⟩ := K
  subst hAe
  subst hQe
  intro H locs ls hP hS hl
  exact W.iret hx hb hr (fun t ht hW => ⟨⟨some (vI z), mem, rfl, h, by rw [ht]; exact hP⟩, hS.F ht⟩) hS.2.2 d hlk
theorem aj_zret (C : aj_Cx X cc own nL n) (K : aj_Rt X (some .boolean) Φ) {z : Int} (hz : z = 0 ∨ z = 1) (d : decode cc pc = .ok (.ireturn, 1)) (h : Φ (some (vI z)) mem) : aj_J X pc lv [vI z] mem := by
  obtain ⟨p, l, e, R, s, m, args, below, meth, c, E, A, ce, sl, Q⟩ := X
  obtain ⟨hx, hb, hml, hown, hts, hK, hD, hA, hZ, hfr, hlo, hce, hsl⟩ := C
  obtain ⟨hlk, hr, hAe, hQe⟩ := K
  subst hAe
  subst hQe
  intro H locs ls hP hS hl
  exact W.zret (v := Int32.ofInt z) hx hb hr (by rcases hz with rfl | rfl <;> rfl) (fun t ht hW => ⟨⟨some (vI z), mem, rfl, h, by rw [ht]; exact hP⟩, hS.F ht⟩) hS.2.2 d hlk
theorem aj_lret (C : aj_Cx X cc own nL n) (K : aj_Rt X (some .long) Φ) {z : Int} (d : decode cc pc = .ok (.lreturn, 1)) (h : Φ (some (vL z)) mem) : aj_J X pc lv [vL z] mem := by
  obtain ⟨p, l, e, R, s, m, args, below, meth, c, E, A, ce, sl, Q⟩ := X
  obtain ⟨hx, hb, hml, hown, hts, hK, hD, hA, hZ, hfr, hlo, hce, hsl⟩ := C
  obtain ⟨hlk, hr, hAe, hQe⟩ := K
  subst hAe
  subst hQe
  intro H locs ls hP hS hl
  exact W.lret hx hb hr (fun t ht hW => ⟨⟨some (vL z), mem, rfl, h, by rw [ht]; exact hP⟩, hS.F ht⟩) hS.2.2 d hlk
theorem aj_vret (C : aj_Cx X cc own nL n) (K : aj_Rt X none Φ) (d : decode cc pc = .ok (.return_, 1)) (h : Φ none mem) : aj_J X pc lv [] mem := by
  obtain ⟨p, l, e, R, s, m, args, below, meth, c, E, A, ce, sl, Q⟩ := X
  obtain ⟨hx, hb, hml, hown, hts, hK, hD, hA, hZ, hfr, hlo, hce, hsl⟩ := C
  obtain ⟨hlk, hr, hAe, hQe⟩ := K
  subst hAe
  subst hQe
  intro H locs ls hP hS hl
  exact W.vret hx hb hr (fun t ht hW => ⟨⟨none, mem, rfl, h, by rw [ht]; exact hP⟩, hS.F ht⟩) hS.2.2 d hlk
theorem aj_aret (C : aj_Cx X cc own nL n) {Cn : String} (K : aj_Rt X (some (.object Cn)) Φ) {r : aj_R} (d : decode cc pc = .ok (.areturn, 1)) (h : Φ (some (.inr (.inr r))) mem) : aj_J X pc lv [.inr (.inr r)] mem := by
  obtain ⟨p, l, e, R, s, m, args, below, meth, c, E, A, ce, sl, Q⟩ := X
  obtain ⟨hx, hb, hml, hown, hts, hK, hD, hA, hZ, hfr, hlo, hce, hsl⟩ := C
  obtain ⟨hlk, hr, hAe, hQe⟩ := K
  subst hAe
  subst hQe
  intro H locs ls hP hS hl
  exact W.aret hx hb hr (Or.inl ⟨_, rfl⟩) (Or.inr ⟨_, rfl⟩) (fun t ht hW => ⟨⟨some (.inr (.inr r)), mem, rfl, h, by rw [ht]; exact hP⟩, hS.F ht⟩) hS.2.2 d hlk
end AJH
/-! calls -/
def aj_cs : List aj_V → Nat
  | [] => 0
  | .inr (.inl _) :: r => 2 + aj_cs r
  | _ :: r => 1 + aj_cs r
theorem aj_cs_eq (E : aj_E) : ∀ l : List aj_V, ((l.map (aj_c E)).map fun v => v.category).sum = aj_cs l
  | [] => rfl
  | .inl z :: r => by
    have h := aj_cs_eq E r
    simp only [List.map_cons, List.sum_cons, aj_cs] at h ⊢
    rw [h]
    rfl
  | .inr (.inl z) :: r => by
    have h := aj_cs_eq E r
    simp only [List.map_cons, List.sum_cons, aj_cs] at h ⊢
    rw [h]
    rfl
  | .inr (.inr q) :: r => by
    have h := aj_cs_eq E r
    simp only [List.map_cons, List.sum_cons, aj_cs] at h ⊢
    rw [h]
    rfl
section AJC
variable {cc : ByteArray} {own : String} {nL n pc idx c0 : Nat} {lv : List (Option aj_V)} {st rest As : List aj_V} {mem : aj_M} {p0 : List Nat} {Φ : Option aj_V → aj_M → Prop} {y : MethodName} {bytes : ByteArray} {maxL : Nat} {ret : Option FieldType}
theorem aj_back {p : Program} {l : Launch} {e : Env} {R : Room} {s : State} {m : MethodId} {args : Array Value} {below : List Frame} {meth : Method} {c : Code} {E : aj_E} {A : Nat → Prop} {ce sl : Nat} {Q : State → Prop} {H : Heap} {locs : List Loc} {ls : Array Slot} {st0 : List Value} {a : Array Value}
    (hr : va_Run p l e R s m args below meth c H locs ce sl 0 0 (F0 m pc ls st0) (rest.map (aj_c E)) (aj_Q E Φ a) (aj_A E)) (hS : va_S A s.heap H locs) (hA : ∀ q, aj_A E q → A q) (hl : aj_L E c.maxLocals ls lv) (k : ∀ r mem', Φ r mem' → aj_J (p, l, e, R, s, m, args, below, meth, c, E, A, ce, sl, Q) (pc + 3) lv (r.toList ++ rest) mem') : W p l e R s m args below meth c H locs ce sl Q (F0 m pc ls st0) := by
  intro T hT Xs
  obtain ⟨v, st₀, t, T', L, h0, X', hL, e1, e2, ⟨⟨r, mem', hv, hΦ, hP'⟩, hz, hk⟩, stp⟩ := hr T hT Xs
  have ev : v = r.map (aj_c E) := by injection hv
  subst ev
  rw [h0] at hz hk
  have hS' : va_S A s.heap T'.heap (locs ++ L) := ⟨Nat.le_trans hS.1 (by rw [e1]; exact hz), fun q h1 h2 => by rw [e1, hk q (Nat.lt_of_lt_of_le h1 hS.1) (fun z => h2 (hA q z))]; exact hS.2.1 q h1 h2, fun q hq => by
    rcases List.mem_append.mp hq with h | h
    · exact hS.2.2 q h
    · exact hA _ (hL q h)⟩
  obtain ⟨t2, a1, b1⟩ := k r mem' hΦ T'.heap (locs ++ L) ls (by rw [e1]; exact hP') hS' hl T' rfl X'
  refine ⟨t2, stp t2 ?_, b1⟩
  cases r with
  | none => exact a1
  | some w => exact a1
theorem aj_blind {E : aj_E} : FrameBlind (va_Pc (As.map (aj_c E)) (fun U => va_P E.1 vwCl (aj_W E mem) U.heap ∧ va_K E.1 vwCl (aj_tys E) U ∧ aj_D E ∧ aj_Z E U)) := fun a U g mk q => by
  obtain ⟨q0, qP, qK, qD, qZ⟩ := q
  exact ⟨q0, qP, va_K.moved (u := U) (U := U.calling g mk a) (Vm.Alike.refl U.vm) qK, qD, aj_Z.same (u := U) (U := U.calling g mk a) rfl rfl qZ⟩
theorem aj_callV {X : aj_T} (C : aj_Cx X cc own nL (n + 1)) (M : aj_MV own idx y bytes maxL ret c0) (K : aj_Ct n y bytes maxL ret (vO c0 p0 :: As) mem Φ) (hp : (.inl (c0, p0) : aj_R) ∈ aj_pls) (hn : (parseMethodDescriptor y.desc).map (fun d => d.parameters.length) = some As.length) (hc : aj_cs rest ≤ 8) (hst : st = As.reverse ++ vO c0 p0 :: rest) (d : decode cc pc = .ok (.invokevirtual idx, 3))
    (k : ∀ r mem', Φ r mem' → aj_J X (pc + 3) lv (r.toList ++ rest) mem') : aj_J X pc lv st mem := by
  subst hst
  obtain ⟨p, l, e, R, s, m, args, below, meth, c, E, A, ce, sl, Q⟩ := X
  obtain ⟨hx, hb, hml, hown, hts, hK, hD, hA, hZ, hfr, hlo, hce, hsl⟩ := C
  intro H locs ls hP hS hl
  obtain ⟨⟨m1, m2, m3, m4, m5⟩, m6, m7, T0, N0, m8⟩ := M
  obtain ⟨k0, hk0⟩ := List.getElem?_of_mem hp
  have cb : CallB R s args own idx y bytes maxL ret (.code y bytes maxL ret :: aj_TB) { frames := n, cells := 0, slots := 0, locals := 60 * n } 0 0 As.length := callB_of As.length hts (aj_good m3) rfl rfl rfl (hts _ m2) (hts _ m1) ⟨m4.1, m4.2, hn⟩ ⟨by show n + 1 ≤ R.frames; exact hfr, by show 8 + (maxL + 11) + 60 * n ≤ R.locals; omega⟩
  have hrun := va_runV (As := As.map (aj_c E)) (rest := rest.map (aj_c E)) (g := F0 m pc ls ((As.reverse ++ vO c0 p0 :: rest).map (aj_c E))) (H := H) (locs := locs) (cells := ce) (slots := sl) (e := e) (below := below) (meth := meth) (b := E.2.1 p0) ⟨hx, hb, hml, hown, hts⟩ (K l E) (C := y.cls) ⟨cb, hts _ m6, hts _ m7⟩ ⟨aj_blind, va_recv hK hP m8 (aj_W_at hk0), fun U hU hW => ⟨rfl, by rw [hU]; exact hP, va_K.moved hW.alike hK, hD, aj_Z.warm hW (fun q h1 h2 => by rw [hU]; exact hS.2.1 q h1 (fun h3 => h2 (hZ.2 q h1 h3))) hZ.1⟩⟩ rfl (by rw [List.length_map]) (by rw [← hml]; exact hl.1) (by simp [List.map_append, List.map_reverse, aj_c, aj_path]) (lv_room (by rw [aj_cs_eq]; exact hc)) d ⟨hce, hsl⟩
  exact aj_back hrun hS hA hl k
theorem aj_callS {X : aj_T} (C : aj_Cx X cc own nL (n + 1)) (M : aj_MS own idx y bytes maxL ret) (K : aj_Ct n y bytes maxL ret As mem Φ) (hn : (parseMethodDescriptor y.desc).map (fun d => d.parameters.length) = some As.length) (hc : aj_cs rest ≤ 8) (hst : st = As.reverse ++ rest) (d : decode cc pc = .ok (.invokestatic idx, 3))
    (k : ∀ r mem', Φ r mem' → aj_J X (pc + 3) lv (r.toList ++ rest) mem') : aj_J X pc lv st mem := by
  subst hst
  obtain ⟨p, l, e, R, s, m, args, below, meth, c, E, A, ce, sl, Q⟩ := X
  obtain ⟨hx, hb, hml, hown, hts, hK, hD, hA, hZ, hfr, hlo, hce, hsl⟩ := C
  intro H locs ls hP hS hl
  obtain ⟨⟨m1, m2, m3, m4, m5⟩, m6⟩ := M
  have cb : CallB R s args own idx y bytes maxL ret (.code y bytes maxL ret :: aj_TB) { frames := n, cells := 0, slots := 0, locals := 60 * n } 0 0 As.length := callB_of As.length hts (aj_good m3) rfl rfl rfl (hts _ m2) (hts _ m1) ⟨m4.1, m4.2, hn⟩ ⟨by show n + 1 ≤ R.frames; exact hfr, by show 8 + (maxL + 11) + 60 * n ≤ R.locals; omega⟩
  have hrun := va_runS (As := As.map (aj_c E)) (rest := rest.map (aj_c E)) (g := F0 m pc ls ((As.reverse ++ rest).map (aj_c E))) (H := H) (locs := locs) (cells := ce) (slots := sl) (e := e) (below := below) (meth := meth) ⟨hx, hb, hml, hown, hts⟩ (K l E) ⟨cb, hts _ m6⟩ ⟨aj_blind, fun U hU hW => ⟨rfl, by rw [hU]; exact hP, va_K.moved hW.alike hK, hD, aj_Z.warm hW (fun q h1 h2 => by rw [hU]; exact hS.2.1 q h1 (fun h3 => h2 (hZ.2 q h1 h3))) hZ.1⟩⟩ rfl (by rw [List.length_map]) (by rw [← hml]; exact hl.1) (by simp [List.map_append, List.map_reverse]) (lv_room (by rw [aj_cs_eq]; exact hc)) d ⟨hce, hsl⟩
  exact aj_back hrun hS hA hl k
end AJC
