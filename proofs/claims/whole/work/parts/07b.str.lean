/-! constant texts and the table of the quaternions -/
def aj_S (q : List Nat) : Prop := ∃ i : Nat, i < 3 ∧ q = [100 + i]
def aj_SA (b : Nat) (a : List Nat) : Prop := ∃ i : Nat, i < 3 ∧ a = [0, 100 + i] ∧ b = aj_slen.getD i 0
def aj_si (a : List Nat) : Nat := a.getLastD 100 - 100
def aj_sl (q : List Nat) : Nat := aj_slen.getD (aj_si q) 0
def aj_sb (a : List Nat) (j : Nat) : Int := ((aj_sbyt.getD (aj_si a) []).getD j 0).toInt
theorem aj_S_A {q : List Nat} (h : aj_S q) : aj_SA (aj_sl q) (0 :: q) := by
  obtain ⟨i, hi, rfl⟩ := h
  refine ⟨i, hi, rfl, ?_⟩
  show aj_slen.getD (100 + i - 100) 0 = _
  rw [Nat.add_sub_cancel_left]
theorem aj_SA_lt {b : Nat} {a : List Nat} (h : aj_SA b a) : b < 2147483648 := by
  obtain ⟨i, hi, -, rfl⟩ := h
  match i, hi with
  | 0, _ => decide
  | 1, _ => decide
  | 2, _ => decide
def aj_FS (own : String) (idx : Nat) (o nm ds : String) : Prop := Cond.fieldLink own idx o nm ds ∈ aj_TB
section AJS
variable {X : aj_T} {cc : ByteArray} {own : String} {nL n pc idx : Nat} {lv : List (Option aj_V)} {st : List aj_V} {mem : aj_M} {q a : List Nat} {b : Nat} {ret : Option FieldType} {Φ : Option aj_V → aj_M → Prop}
theorem aj_ldcS (C : aj_Cx X cc own nL n) {tx : String} (hR : ∀ E U, aj_Z E U → vk_R own idx tx (E.2.1 q) U) (d : decode cc pc = .ok (.ldc idx, 2)) (k : aj_J X (pc + 2) lv (vO 13 q :: st) mem) : aj_J X pc lv st mem := by
  obtain ⟨p, l, e, R, s, m, args, below, meth, c, E, A, ce, sl, Q⟩ := X
  obtain ⟨hx, hb, hml, hown, hts, hK, hD, hA, hZ, hfr, hlo, hce, hsl⟩ := C
  intro H locs ls hP hS hl
  exact va_ldcS hx hb hown (hR E s hZ.1) d (k H locs ls hP hS hl)
theorem aj_getSV (C : aj_Cx X cc own nL n) (K : aj_Rt X ret Φ) (hq : aj_S q) (F : aj_FS own idx "java/lang/String" "value" "[B") (d : decode cc pc = .ok (.getfield idx, 3)) (k : aj_J X (pc + 3) lv (vA 8 (aj_sl q) (0 :: q) :: st) mem) : aj_J X pc lv (vO 13 q :: st) mem := by
  obtain ⟨p, l, e, R, s, m, args, below, meth, c, E, A, ce, sl, Q⟩ := X
  obtain ⟨hx, hb, hml, hown, hts, hK, hD, hA, hZ, hfr, hlo, hce, hsl⟩ := C
  obtain ⟨hlk, hr, hAe, hQe⟩ := K
  subst hAe
  subst hQe
  intro H locs ls hP hS hl
  obtain ⟨i, hi, rfl⟩ := hq
  exact vk_getf hx hb (hZ.1.1.1 i hi).2.2.1 hS hown (hts _ F) (fun _ h9 => h9) d (k H locs ls hP hS hl)
theorem aj_getSC (C : aj_Cx X cc own nL n) (K : aj_Rt X ret Φ) (hq : aj_S q) (F : aj_FS own idx "java/lang/String" "coder" "B") (d : decode cc pc = .ok (.getfield idx, 3)) (k : aj_J X (pc + 3) lv (vI 0 :: st) mem) : aj_J X pc lv (vO 13 q :: st) mem := by
  obtain ⟨p, l, e, R, s, m, args, below, meth, c, E, A, ce, sl, Q⟩ := X
  obtain ⟨hx, hb, hml, hown, hts, hK, hD, hA, hZ, hfr, hlo, hce, hsl⟩ := C
  obtain ⟨hlk, hr, hAe, hQe⟩ := K
  subst hAe
  subst hQe
  intro H locs ls hP hS hl
  obtain ⟨i, hi, rfl⟩ := hq
  exact vk_getf hx hb (hZ.1.1.1 i hi).2.1 hS hown (hts _ F) (fun _ h9 => h9) d (k H locs ls hP hS hl)
theorem aj_getsC (C : aj_Cx X cc own nL n) (K : aj_Rt X ret Φ) (F : aj_FS own idx "java/lang/String" "COMPACT_STRINGS" "Z") (d : decode cc pc = .ok (.getstatic idx, 3)) (k : aj_J X (pc + 3) lv (vI 1 :: st) mem) : aj_J X pc lv st mem := by
  obtain ⟨p, l, e, R, s, m, args, below, meth, c, E, A, ce, sl, Q⟩ := X
  obtain ⟨hx, hb, hml, hown, hts, hK, hD, hA, hZ, hfr, hlo, hce, hsl⟩ := C
  obtain ⟨hlk, hr, hAe, hQe⟩ := K
  subst hAe
  subst hQe
  intro H locs ls hP hS hl
  exact va_gets hx hb hZ.1.2.2.2.2.2.1 hS hown (hts _ F) (fun _ h9 => h9) d (k H locs ls hP hS hl)
theorem aj_getsX (C : aj_Cx X cc own nL n) (K : aj_Rt X ret Φ) (F : aj_FS own idx "CageLift$Group" "AXES" "[I") (d : decode cc pc = .ok (.getstatic idx, 3)) (k : aj_J X (pc + 3) lv (vA 9 16 [200] :: st) mem) : aj_J X pc lv st mem := by
  obtain ⟨p, l, e, R, s, m, args, below, meth, c, E, A, ce, sl, Q⟩ := X
  obtain ⟨hx, hb, hml, hown, hts, hK, hD, hA, hZ, hfr, hlo, hce, hsl⟩ := C
  obtain ⟨hlk, hr, hAe, hQe⟩ := K
  subst hAe
  subst hQe
  intro H locs ls hP hS hl
  exact va_gets hx hb hZ.1.2.2.2.2.2.2.2.1 hS hown (hts _ F) (fun _ h9 => h9) d (k H locs ls hP hS hl)
theorem aj_ialdX (C : aj_Cx X cc own nL n) (K : aj_Rt X ret Φ) {i : Int} (hi : 0 ≤ i ∧ i < 16) (d : decode cc pc = .ok (.iaload, 1)) (k : aj_J X (pc + 1) lv (vI (aj_axv i.toNat) :: st) mem) : aj_J X pc lv (vI i :: vA 9 16 [200] :: st) mem := by
  obtain ⟨p, l, e, R, s, m, args, below, meth, c, E, A, ce, sl, Q⟩ := X
  obtain ⟨hx, hb, hml, hown, hts, hK, hD, hA, hZ, hfr, hlo, hce, hsl⟩ := C
  obtain ⟨hlk, hr, hAe, hQe⟩ := K
  subst hAe
  subst hQe
  intro H locs ls hP hS hl
  exact va_ti hx hb hZ.1.2.2.2.2.2.2.2.2 hS (aj_in hi (by decide)) (by rw [aj_cl (by omega)]; rfl) d (k H locs ls hP hS hl)
theorem aj_baldR (C : aj_Cx X cc own nL n) (K : aj_Rt X ret Φ) (hs : aj_SA b a) {i : Int} (hi : 0 ≤ i ∧ i < (b : Int)) (d : decode cc pc = .ok (.baload, 1)) (k : aj_J X (pc + 1) lv (vI (aj_sb a i.toNat) :: st) mem) : aj_J X pc lv (vI i :: vA 8 b a :: st) mem := by
  obtain ⟨p, l, e, R, s, m, args, below, meth, c, E, A, ce, sl, Q⟩ := X
  obtain ⟨hx, hb, hml, hown, hts, hK, hD, hA, hZ, hfr, hlo, hce, hsl⟩ := C
  obtain ⟨hlk, hr, hAe, hQe⟩ := K
  subst hAe
  subst hQe
  intro H locs ls hP hS hl
  have hb2 := aj_SA_lt hs
  obtain ⟨j, hj, rfl, rfl⟩ := hs
  refine va_tb hx hb (hZ.1.1.1 j hj).2.2.2 hS (aj_in hi hb2) (v := .int (Int32.ofInt (aj_sb [0, 100 + j] i.toNat))) ?_ d (k H locs ls hP hS hl)
  rw [aj_cl (by omega)]
  show Value.int _ = Value.int (Int32.ofInt ((aj_sbyt.getD (100 + j - 100) []).getD i.toNat 0).toInt)
  rw [Int32.ofInt_toInt, Nat.add_sub_cancel_left]
theorem aj_alenR (C : aj_Cx X cc own nL n) (K : aj_Rt X ret Φ) (hs : aj_SA b a) (d : decode cc pc = .ok (.arraylength, 1)) (k : aj_J X (pc + 1) lv (vI (b : Int) :: st) mem) : aj_J X pc lv (vA 8 b a :: st) mem := by
  obtain ⟨p, l, e, R, s, m, args, below, meth, c, E, A, ce, sl, Q⟩ := X
  obtain ⟨hx, hb, hml, hown, hts, hK, hD, hA, hZ, hfr, hlo, hce, hsl⟩ := C
  obtain ⟨hlk, hr, hAe, hQe⟩ := K
  subst hAe
  subst hQe
  intro H locs ls hP hS hl
  obtain ⟨j, hj, rfl, rfl⟩ := hs
  exact va_tlen (v := Int32.ofInt ((aj_slen.getD j 0 : Nat) : Int)) hx hb (hZ.1.1.1 j hj).2.2.2 hS (Int32.ofInt_eq_ofNat).symm d (k H locs ls hP hS hl)
end AJS
section AJSC
variable {cc : ByteArray} {own : String} {nL n pc idx : Nat} {lv : List (Option aj_V)} {st rest As : List aj_V} {mem : aj_M} {p0 : List Nat} {Φ : Option aj_V → aj_M → Prop} {y : MethodName} {bytes : ByteArray} {maxL : Nat} {ret : Option FieldType}
theorem aj_callW {X : aj_T} {ret0 : Option FieldType} {Φ0 : Option aj_V → aj_M → Prop} (C : aj_Cx X cc own nL (n + 1)) (K0 : aj_Rt X ret0 Φ0) (M : aj_MW own idx y bytes maxL ret) (hy : y.cls = "java/lang/String") (K1 : aj_Ct n y bytes maxL ret (vO 13 p0 :: As) mem Φ) (hp : aj_S p0) (hn : (parseMethodDescriptor y.desc).map (fun d => d.parameters.length) = some As.length) (hc : aj_cs rest ≤ 8) (hst : st = As.reverse ++ vO 13 p0 :: rest) (d : decode cc pc = .ok (.invokevirtual idx, 3))
    (k : ∀ r mem', Φ r mem' → aj_J X (pc + 3) lv (r.toList ++ rest) mem') : aj_J X pc lv st mem := by
  subst hst
  have K := K0
  obtain ⟨p, l, e, R, s, m, args, below, meth, c, E, A, ce, sl, Q⟩ := X
  obtain ⟨hx, hb, hml, hown, hts, hK, hD, hA, hZ, hfr, hlo, hce, hsl⟩ := C
  obtain ⟨hlk, hr, hAe, hQe⟩ := K
  subst hAe
  subst hQe
  intro H locs ls hP hS hl
  obtain ⟨⟨m1, m2, m3, m4, m5⟩, m6, m7⟩ := M
  have cb : CallB R s args own idx y bytes maxL ret (.code y bytes maxL ret :: aj_TB) { frames := n, cells := 0, slots := 0, locals := 60 * n } 0 0 As.length := callB_of As.length hts (aj_good m3) rfl rfl rfl (hts _ m2) (hts _ m1) ⟨m4.1, m4.2, hn⟩ ⟨by show n + 1 ≤ R.frames; exact hfr, by show 8 + (maxL + 11) + 60 * n ≤ R.locals; omega⟩
  have hrec : ∃ cellB : Cell, H[E.2.1 p0]? = some cellB ∧ cellB.vm.isStatics = false ∧ s.vm.findClass y.cls = some cellB.cls := by
    obtain ⟨i, hi, rfl⟩ := hp
    rw [hy]
    exact vk_recv hZ.1.1 hi hS
  have hrun := va_runV (As := As.map (aj_c E)) (rest := rest.map (aj_c E)) (g := F0 m pc ls ((As.reverse ++ vO 13 p0 :: rest).map (aj_c E))) (H := H) (locs := locs) (cells := ce) (slots := sl) (e := e) (below := below) (meth := meth) (b := E.2.1 p0) ⟨hx, hb, hml, hown, hts⟩ (K1 l E) (C := y.cls) ⟨cb, hts _ m6, hts _ m7⟩ ⟨aj_blind, hrec, fun U hU hW => ⟨rfl, by rw [hU]; exact hP, va_K.moved hW.alike hK, hD, aj_Z.warm hW (fun q h1 h2 => by rw [hU]; exact hS.2.1 q h1 h2) hZ.1⟩⟩ rfl (by rw [List.length_map]) (by rw [← hml]; exact hl.1) (by simp [List.map_append, List.map_reverse, aj_c, aj_path]) (lv_room (by rw [aj_cs_eq]; exact hc)) d ⟨hce, hsl⟩
  exact aj_back hrun hS hA hl k
end AJSC
