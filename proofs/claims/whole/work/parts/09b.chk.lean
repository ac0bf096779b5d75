theorem dJ3_checkIndex_8e157_0 : decode cJ3_checkIndex_8e157 0 = .ok (.iload_n 0, 1) := by decide +kernel
theorem dJ3_checkIndex_8e157_1 : decode cJ3_checkIndex_8e157 1 = .ok (.ifCond .lt 8, 3) := by decide +kernel
theorem dJ3_checkIndex_8e157_4 : decode cJ3_checkIndex_8e157 4 = .ok (.iload_n 0, 1) := by decide +kernel
theorem dJ3_checkIndex_8e157_5 : decode cJ3_checkIndex_8e157 5 = .ok (.iload_n 1, 1) := by decide +kernel
theorem dJ3_checkIndex_8e157_6 : decode cJ3_checkIndex_8e157 6 = .ok (.if_icmp .lt 10, 3) := by decide +kernel
theorem dJ3_checkIndex_8e157_9 : decode cJ3_checkIndex_8e157 9 = .ok (.aload_n 2, 1) := by decide +kernel
theorem dJ3_checkIndex_8e157_10 : decode cJ3_checkIndex_8e157 10 = .ok (.iload_n 0, 1) := by decide +kernel
theorem dJ3_checkIndex_8e157_11 : decode cJ3_checkIndex_8e157 11 = .ok (.iload_n 1, 1) := by decide +kernel
theorem dJ3_checkIndex_8e157_12 : decode cJ3_checkIndex_8e157 12 = .ok (.invokestatic 95, 3) := by decide +kernel
theorem dJ3_checkIndex_8e157_15 : decode cJ3_checkIndex_8e157 15 = .ok (.athrow, 1) := by decide +kernel
theorem dJ3_checkIndex_8e157_16 : decode cJ3_checkIndex_8e157 16 = .ok (.iload_n 0, 1) := by decide +kernel
theorem dJ3_checkIndex_8e157_17 : decode cJ3_checkIndex_8e157 17 = .ok (.ireturn, 1) := by decide +kernel
theorem dJ0_checkIndex_df160_0 : decode cJ0_checkIndex_df160 0 = .ok (.iload_n 0, 1) := by decide +kernel
theorem dJ0_checkIndex_df160_1 : decode cJ0_checkIndex_df160 1 = .ok (.iload_n 1, 1) := by decide +kernel
theorem dJ0_checkIndex_df160_2 : decode cJ0_checkIndex_df160 2 = .ok (.getstatic 1053, 3) := by decide +kernel
theorem dJ0_checkIndex_df160_5 : decode cJ0_checkIndex_df160 5 = .ok (.invokestatic 1059, 3) := by decide +kernel
theorem dJ0_checkIndex_df160_8 : decode cJ0_checkIndex_df160 8 = .ok (.pop, 1) := by decide +kernel
theorem dJ0_checkIndex_df160_9 : decode cJ0_checkIndex_df160 9 = .ok (.return_, 1) := by decide +kernel
theorem lv_args_app (ws : List Value) : ∀ (vs : List Value) (o : Nat) (q : Nat × Value), q ∈ lv_args o vs → q ∈ lv_args o (vs ++ ws)
  | [], _, _, h => by cases h
  | v :: vs, o, q, h => by
    rcases List.mem_cons.mp h with h | h
    · rw [h]
      exact List.mem_cons_self
    · exact List.mem_cons_of_mem _ (lv_args_app ws vs _ q h)
theorem aj_nIi {z : Int} (h : 0 ≤ z) : Int32.ofInt z = nI z.toNat := by
  obtain ⟨k, rfl⟩ := Int.eq_ofNat_of_zero_le h
  exact Int32.ofInt_eq_ofNat
theorem aj_cret {X : aj_T} {cc : ByteArray} {own : String} {nL n pc : Nat} {lv : List (Option aj_V)} {mem : aj_M} {Φ : Option aj_V → aj_M → Prop} (C : aj_Cx X cc own nL n) (K : aj_Rt X (some .char) Φ) {z : Int} (hz : 0 ≤ z ∧ z < 65536) (d : decode cc pc = .ok (.ireturn, 1)) (h : Φ (some (vI z)) mem) : aj_J X pc lv [vI z] mem := by
  obtain ⟨p, l, e, R, s, m, args, below, meth, c, E, A, ce, sl, Q⟩ := X
  obtain ⟨hx, hb, hml, hown, hts, hK, hD, hA, hZ, hfr, hlo, hce, hsl⟩ := C
  obtain ⟨hlk, hr, hAe, hQe⟩ := K
  subst hAe
  subst hQe
  intro H locs ls hP hS hl
  exact W.zret (v := Int32.ofInt z) hx hb hr (by rw [aj_nIi hz.1]; exact (pk_charN (by omega)).1) (fun t ht hW => ⟨⟨some (vI z), mem, rfl, h, by rw [ht]; exact hP⟩, hS.F ht⟩) hS.2.2 d hlk
theorem aj_bret0 {X : aj_T} {cc : ByteArray} {own : String} {nL n pc : Nat} {lv : List (Option aj_V)} {mem : aj_M} {Φ : Option aj_V → aj_M → Prop} (C : aj_Cx X cc own nL n) (K : aj_Rt X (some .byte) Φ) (d : decode cc pc = .ok (.ireturn, 1)) (h : Φ (some (vI 0)) mem) : aj_J X pc lv [vI 0] mem := by
  obtain ⟨p, l, e, R, s, m, args, below, meth, c, E, A, ce, sl, Q⟩ := X
  obtain ⟨hx, hb, hml, hown, hts, hK, hD, hA, hZ, hfr, hlo, hce, hsl⟩ := C
  obtain ⟨hlk, hr, hAe, hQe⟩ := K
  subst hAe
  subst hQe
  intro H locs ls hP hS hl
  exact W.zret (v := Int32.ofInt 0) hx hb hr rfl (fun t ht hW => ⟨⟨some (vI 0), mem, rfl, h, by rw [ht]; exact hP⟩, hS.F ht⟩) hS.2.2 d hlk
set_option maxHeartbeats 4000000 in
set_option maxRecDepth 100000 in
/-- Preconditions.checkIndex, whatever the third value is -/
theorem aj_pck {n : Nat} {i k : Int} {mem : aj_M} {w : Value} (hw : w.category = 1) (hi : 0 ≤ i ∧ i < k) (hk : k < 2147483648) (l : Launch) (E : aj_E) :
    Met l yJ3_checkIndex_8e157 (.code yJ3_checkIndex_8e157 cJ3_checkIndex_8e157 3 (some .int) :: aj_TB) { frames := n, cells := 0, slots := 0, locals := 60 * n } (va_Pc [.int (Int32.ofInt i), .int (Int32.ofInt k), w] (fun U => va_P E.1 vwCl (aj_W E mem) U.heap ∧ va_K E.1 vwCl (aj_tys E) U ∧ aj_D E ∧ aj_Z E U)) (aj_Q E (fun r m => r = some (vI i) ∧ m = mem)) 0 0 (aj_A E) := by
  refine Met.ofW (cc := cJ3_checkIndex_8e157) (maxL := 3) (ret := some .int) (by decide) rfl ?_
  intro p e s m args below meth c s₁ B hml hv
  obtain ⟨rfl, hP, hK, hD, hZ⟩ := hv
  have hts := atoms_spec (ws := .code yJ3_checkIndex_8e157 cJ3_checkIndex_8e157 3 (some .int) :: aj_TB) B.pre
  have hown : s.vm.findClass yJ3_checkIndex_8e157.cls = some m.cls := findClass_of_methodNamed B.named
  have he := lv_entry [.int (Int32.ofInt i), .int (Int32.ofInt k), w] (n := 3) (by simp [lg_sl, hw, show ∀ x : Int32, (Value.int x).category = 1 from fun _ => rfl])
  rw [lg_entry_eq]
  obtain ⟨X, hXe⟩ : ∃ X : aj_T, X = (p, l, e, { frames := n, cells := 0, slots := 0, locals := 60 * n }, s, m, ([.int (Int32.ofInt i), .int (Int32.ofInt k), w] : List Value).toArray, below, meth, c, E, aj_A E, 0, 0, MQ below (aj_Q E (fun r m => r = some (vI i) ∧ m = mem)) ([.int (Int32.ofInt i), .int (Int32.ofInt k), w] : List Value).toArray s 0 0 (aj_A E)) := ⟨_, rfl⟩
  have C : aj_Cx X cJ3_checkIndex_8e157 RJ3 3 n := by
    rw [hXe]
    exact ⟨B.exec, B.bytes, hml, hown, fun w hw => hts w (List.mem_cons_of_mem _ hw), hK, hD, fun q h => h, ⟨hZ, fun _ _ h => h⟩, Nat.le_refl _, Nat.le_refl _, Nat.zero_le _, Nat.zero_le _⟩
  have K : aj_Rt X (some .int) (fun r m => r = some (vI i) ∧ m = mem) := by
    rw [hXe]
    exact ⟨B.notSynchronized, B.returns, rfl, rfl⟩
  have J : aj_J X 0 [some (vI i), some (vI k), none] [] mem := by
    refine aj_iload_n C dJ3_checkIndex_8e157_0 rfl ?_
    refine aj_if_lt (tgt := 9) C dJ3_checkIndex_8e157_1 (by decide) (by omega) (fun e => absurd e (by omega)) (fun _ => ?_)
    refine aj_iload_n C dJ3_checkIndex_8e157_4 rfl ?_
    refine aj_iload_n C dJ3_checkIndex_8e157_5 rfl ?_
    refine aj_icmp_lt (tgt := 16) C dJ3_checkIndex_8e157_6 (by decide) (by omega) (by omega) (fun _ => ?_) (fun e => absurd hi.2 e)
    refine aj_iload_n C dJ3_checkIndex_8e157_16 rfl ?_
    exact aj_iret C K dJ3_checkIndex_8e157_17 ⟨rfl, rfl⟩
  rw [hXe] at J
  refine J s.heap [] _ hP va_S.rf ⟨by rw [hml]; exact he.1, he.2.1, fun j v h => ?_⟩
  match j, h with
  | 0, h =>
    have h1 : vI i = v := by simpa using h
    subst h1
    exact he.2.2 (0, .int (Int32.ofInt i)) (by simp [lv_args, Value.category])
  | 1, h =>
    have h1 : vI k = v := by simpa using h
    subst h1
    exact he.2.2 (1, .int (Int32.ofInt k)) (by simp [lv_args, Value.category])
  | 2, h => simp at h
  | j + 3, h => simp at h
def wJ0_checkIndex_df160 (f : Nat) (Φ : aj_M → Prop) (v0 v1 : Int) (m : aj_M) : Prop := (0 ≤ v0 ∧ v0 < v1) ∧ v1 < 2147483648 ∧ Φ m
set_option maxHeartbeats 4000000 in
set_option maxRecDepth 100000 in
theorem sJ0_checkIndex_df160 {n f : Nat} {Φ : aj_M → Prop} {v0 v1 : Int} {m : aj_M} (h : wJ0_checkIndex_df160 f Φ v0 v1 m) : aj_Ct (n + 1) yJ0_checkIndex_df160 cJ0_checkIndex_df160 2 none [vI v0, vI v1] m (fun r m => r = none ∧ Φ m) := by
  obtain ⟨h0, h1, h⟩ := h
  refine aj_met (lv := [some (vI v0), some (vI v1)]) (by decide +kernel) rfl (Nat.le_of_ble_eq_true rfl) (fun X C K => ?_)
  refine aj_iload_n C dJ0_checkIndex_df160_0 rfl ?_
  refine aj_iload_n C dJ0_checkIndex_df160_1 rfl ?_
  have kk : aj_J X 8 [some (vI v0), some (vI v1)] [vI v0] m := by
    refine aj_pop C aj_nI dJ0_checkIndex_df160_8 ?_
    exact aj_vret C K dJ0_checkIndex_df160_9 ⟨rfl, h⟩
  obtain ⟨p, l, e, R, s, m0, args, below, meth, c, E, A, ce, sl, Q⟩ := X
  obtain ⟨hx, hb, hml, hown, hts, hK, hD, hA, hZ, hfr, hlo, hce, hsl⟩ := C
  obtain ⟨hlk, hr, hAe, hQe⟩ := K
  subst hAe
  subst hQe
  intro H locs ls hP hS hl
  obtain ⟨⟨m1, m2, m3, m4, m5⟩, m6⟩ := msJ0_1059
  have go : ∀ w : Value, w.category = 1 → va_Z "jdk/internal/util/Preconditions" "SIOOBE_FORMATTER" "Ljava/util/function/BiFunction;" w (aj_A E) s s.heap → W p l e R s m0 args below meth c H locs ce sl (MQ below (aj_Q E (fun r m => r = none ∧ Φ m)) args s ce sl (aj_A E)) (F0 m0 2 ls ([vI v1, vI v0].map (aj_c E))) := by
    intro w hw hz
    refine va_gets hx hb hz hS hown (hts _ fsJ0_1053) (fun _ h9 => h9) dJ0_checkIndex_df160_2 ?_
    have cb : CallB R s args RJ0 1059 yJ3_checkIndex_8e157 cJ3_checkIndex_8e157 3 (some .int) (.code yJ3_checkIndex_8e157 cJ3_checkIndex_8e157 3 (some .int) :: aj_TB) { frames := n, cells := 0, slots := 0, locals := 60 * n } 0 0 3 := callB_of 3 hts (aj_good m3) rfl rfl rfl (hts _ m2) (hts _ m1) ⟨m4.1, m4.2, by decide +kernel⟩ ⟨by show n + 1 ≤ R.frames; exact hfr, by show 8 + (3 + 11) + 60 * n ≤ R.locals; omega⟩
    have hbl : FrameBlind (va_Pc [.int (Int32.ofInt v0), .int (Int32.ofInt v1), w] (fun U => va_P E.1 vwCl (aj_W E m) U.heap ∧ va_K E.1 vwCl (aj_tys E) U ∧ aj_D E ∧ aj_Z E U)) := fun a U g mk q => by
      obtain ⟨q0, qP, qK, qD, qZ⟩ := q
      exact ⟨q0, qP, va_K.moved (u := U) (U := U.calling g mk a) (Vm.Alike.refl U.vm) qK, qD, aj_Z.same (u := U) (U := U.calling g mk a) rfl rfl qZ⟩
    have hrun := va_runS (As := [.int (Int32.ofInt v0), .int (Int32.ofInt v1), w]) (rest := ([] : List aj_V).map (aj_c E)) (g := F0 m0 5 ls [w, .int (Int32.ofInt v1), .int (Int32.ofInt v0)]) (H := H) (locs := locs) (cells := ce) (slots := sl) (e := e) (below := below) (meth := meth) ⟨hx, hb, hml, hown, hts⟩ (aj_pck (n := n) (mem := m) hw h0 h1 l E) ⟨cb, hts _ m6⟩ ⟨hbl, fun U hU hW => ⟨rfl, by rw [hU]; exact hP, va_K.moved hW.alike hK, hD, aj_Z.warm hW (fun q h1 h2 => by rw [hU]; exact hS.2.1 q h1 h2) hZ.1⟩⟩ rfl rfl (by rw [← hml]; exact hl.1) rfl (lv_room (Nat.zero_le _)) dJ0_checkIndex_df160_5 ⟨hce, hsl⟩
    refine aj_back (Q := MQ below (aj_Q E (fun r m => r = none ∧ Φ m)) args s ce sl (aj_A E)) (lv := [some (vI v0), some (vI v1)]) hrun hS hA hl (fun r mem' hΦ => ?_)
    obtain ⟨rfl, rfl⟩ := hΦ
    exact kk
  rcases hZ.1.2.2.2.2.2.2.1 with hz | ⟨t, hz⟩
  · exact go .null rfl hz
  · exact go (.ref t) rfl hz
