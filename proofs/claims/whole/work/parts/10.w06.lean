theorem dX6_whyNotBy_0 : decode cX6_whyNotBy 0 = .ok (.aload_n 0, 1) := by decide +kernel
theorem dX6_whyNotBy_1 : decode cX6_whyNotBy 1 = .ok (.iload_n 1, 1) := by decide +kernel
theorem dX6_whyNotBy_2 : decode cX6_whyNotBy 2 = .ok (.invokevirtual 77, 3) := by decide +kernel
theorem dX6_whyNotBy_5 : decode cX6_whyNotBy 5 = .ok (.ifCond .eq 14, 3) := by decide +kernel
theorem dX6_whyNotBy_8 : decode cX6_whyNotBy 8 = .ok (.aload_n 0, 1) := by decide +kernel
theorem dX6_whyNotBy_9 : decode cX6_whyNotBy 9 = .ok (.getfield 12, 3) := by decide +kernel
theorem dX6_whyNotBy_12 : decode cX6_whyNotBy 12 = .ok (.iload_n 2, 1) := by decide +kernel
theorem dX6_whyNotBy_13 : decode cX6_whyNotBy 13 = .ok (.invokevirtual 81, 3) := by decide +kernel
theorem dX6_whyNotBy_16 : decode cX6_whyNotBy 16 = .ok (.ifCond .ne 5, 3) := by decide +kernel
theorem dX6_whyNotBy_19 : decode cX6_whyNotBy 19 = .ok (.iconst 1, 1) := by decide +kernel
theorem dX6_whyNotBy_20 : decode cX6_whyNotBy 20 = .ok (.ireturn, 1) := by decide +kernel
theorem dX6_whyNotBy_21 : decode cX6_whyNotBy 21 = .ok (.aload_n 0, 1) := by decide +kernel
theorem dX6_whyNotBy_22 : decode cX6_whyNotBy 22 = .ok (.iload_n 1, 1) := by decide +kernel
theorem dX6_whyNotBy_23 : decode cX6_whyNotBy 23 = .ok (.invokevirtual 84, 3) := by decide +kernel
theorem dX6_whyNotBy_26 : decode cX6_whyNotBy 26 = .ok (.ifCond .eq 20, 3) := by decide +kernel
theorem dX6_whyNotBy_29 : decode cX6_whyNotBy 29 = .ok (.aload_n 0, 1) := by decide +kernel
theorem dX6_whyNotBy_30 : decode cX6_whyNotBy 30 = .ok (.getfield 12, 3) := by decide +kernel
theorem dX6_whyNotBy_33 : decode cX6_whyNotBy 33 = .ok (.getfield 87, 3) := by decide +kernel
theorem dX6_whyNotBy_36 : decode cX6_whyNotBy 36 = .ok (.iload_n 2, 1) := by decide +kernel
theorem dX6_whyNotBy_37 : decode cX6_whyNotBy 37 = .ok (.iaload, 1) := by decide +kernel
theorem dX6_whyNotBy_38 : decode cX6_whyNotBy 38 = .ok (.iconst 2, 1) := by decide +kernel
theorem dX6_whyNotBy_39 : decode cX6_whyNotBy 39 = .ok (.if_icmp .eq 7, 3) := by decide +kernel
theorem dX6_whyNotBy_42 : decode cX6_whyNotBy 42 = .ok (.iconst 2, 1) := by decide +kernel
theorem dX6_whyNotBy_43 : decode cX6_whyNotBy 43 = .ok (.goto 4, 3) := by decide +kernel
theorem dX6_whyNotBy_46 : decode cX6_whyNotBy 46 = .ok (.iconst 0, 1) := by decide +kernel
theorem dX6_whyNotBy_47 : decode cX6_whyNotBy 47 = .ok (.ireturn, 1) := by decide +kernel
def wX6_whyNotBy (f : Nat) (Φ : Int → aj_M → Prop) (q0 : List Nat) (v1 : Int) (v2 : Int) (m : aj_M) : Prop := wX6_hasArc f (fun z1 m1 => rI z1 ∧ (z1 = 0 → Φ 1 m1) ∧ (¬ (z1 = 0) → wX0_has f (fun z2 m2 => rI z2 ∧ (¬ z2 = 0 → wX6_isHalf f (fun z3 m3 => rI z3 ∧ (z3 = 0 → Φ 0 m3) ∧ (¬ (z3 = 0) → (0 ≤ v2 ∧ v2 < 12) ∧ rI (m3 (3 :: (0 :: q0)) v2.toNat) ∧ ((m3 (3 :: (0 :: q0)) v2.toNat) = 2 → Φ 0 m3) ∧ (¬ ((m3 (3 :: (0 :: q0)) v2.toNat) = 2) → Φ 2 m3))) q0 v1 m2) ∧ (z2 = 0 → Φ 1 m2)) (0 :: q0) v2 m1)) q0 v1 m
set_option maxHeartbeats 4000000 in
set_option maxRecDepth 100000 in
theorem sX6_whyNotBy {n f : Nat} {Φ : Int → aj_M → Prop} {q0 : List Nat} {v1 : Int} {v2 : Int} {m : aj_M} (hq0 : (.inl (6, q0) : aj_R) ∈ aj_pls) (h : wX6_whyNotBy f Φ q0 v1 v2 m) : aj_Ct (n + 2) yX6_whyNotBy cX6_whyNotBy 3 (some .int) [vO 6 q0, vI v1, vI v2] m (fun r m => ∃ z, r = some (vI z) ∧ Φ z m) := by
  refine aj_met (lv := [some (vO 6 q0), some (vI v1), some (vI v2)]) (by decide +kernel) rfl (Nat.le_of_ble_eq_true rfl) (fun X C K => ?_)
  unfold wX6_whyNotBy at h
  refine aj_aload_n C dX6_whyNotBy_0 rfl ?_
  refine aj_iload_n C dX6_whyNotBy_1 rfl ?_
  refine aj_callV (rest := []) C mvX6_77 (sX6_hasArc hq0 h) hq0 (aj_np 1 (by decide +kernel) rfl) (Nat.le_of_ble_eq_true rfl) rfl dX6_whyNotBy_2 (fun r m1 h => ?_)
  obtain ⟨z1, rfl, h⟩ := h
  obtain ⟨r0, h1, h2⟩ := h
  refine aj_if_eq (tgt := 19) C dX6_whyNotBy_5 (by decide) r0 (fun e => ?_) (fun e => ?_)
  · have h := h1 e
    refine aj_iconst C dX6_whyNotBy_19 ?_
    exact aj_iret C K dX6_whyNotBy_20 ⟨_, rfl, h⟩
  · have h := h2 e
    refine aj_aload_n C dX6_whyNotBy_8 rfl ?_
    refine aj_getO (x := 0) (y := 0) C flX6_12 hq0 rfl dX6_whyNotBy_9 ?_
    refine aj_iload_n C dX6_whyNotBy_12 rfl ?_
    refine aj_callV (rest := []) C mvX6_81 (sX0_has (aj_cf (x := 0) (y := 0) (j := 0) hq0 (by decide) rfl) h) (aj_cf (x := 0) (y := 0) (j := 0) hq0 (by decide) rfl) (aj_np 1 (by decide +kernel) rfl) (Nat.le_of_ble_eq_true rfl) rfl dX6_whyNotBy_13 (fun r m2 h => ?_)
    obtain ⟨z2, rfl, h⟩ := h
    obtain ⟨r0, h1, h2⟩ := h
    refine aj_if_ne (tgt := 21) C dX6_whyNotBy_16 (by decide) r0 (fun e => ?_) (fun e => ?_)
    · have h := h1 e
      refine aj_aload_n C dX6_whyNotBy_21 rfl ?_
      refine aj_iload_n C dX6_whyNotBy_22 rfl ?_
      refine aj_callV (rest := []) C mvX6_84 (sX6_isHalf hq0 h) hq0 (aj_np 1 (by decide +kernel) rfl) (Nat.le_of_ble_eq_true rfl) rfl dX6_whyNotBy_23 (fun r m3 h => ?_)
      obtain ⟨z3, rfl, h⟩ := h
      obtain ⟨r0, h1, h2⟩ := h
      refine aj_if_eq (tgt := 46) C dX6_whyNotBy_26 (by decide) r0 (fun e => ?_) (fun e => ?_)
      · have h := h1 e
        refine aj_iconst C dX6_whyNotBy_46 ?_
        exact aj_iret C K dX6_whyNotBy_47 ⟨_, rfl, h⟩
      · have h := h2 e
        refine aj_aload_n C dX6_whyNotBy_29 rfl ?_
        refine aj_getO (x := 0) (y := 0) C flX6_12 hq0 rfl dX6_whyNotBy_30 ?_
        refine aj_getA (x := 0) (y := 12) C flX6_87 (aj_cf (x := 0) (y := 0) (j := 0) hq0 (by decide) rfl) rfl dX6_whyNotBy_33 ?_
        refine aj_iload_n C dX6_whyNotBy_36 rfl ?_
        obtain ⟨r0, h⟩ := h
        refine aj_iald C (aj_ca (e := 0) (n := 12) (j := 3) (aj_cf (x := 0) (y := 0) (j := 0) hq0 (by decide) rfl) (by decide) rfl) (by decide) r0 dX6_whyNotBy_37 rfl ?_
        refine aj_iconst C dX6_whyNotBy_38 ?_
        obtain ⟨r0, h1, h2⟩ := h
        refine aj_icmp_eq (tgt := 46) C dX6_whyNotBy_39 (by decide) r0 (by decide) (fun e => ?_) (fun e => ?_)
        · have h := h1 e
          refine aj_iconst C dX6_whyNotBy_46 ?_
          exact aj_iret C K dX6_whyNotBy_47 ⟨_, rfl, h⟩
        · have h := h2 e
          refine aj_iconst C dX6_whyNotBy_42 ?_
          refine aj_goto (tgt := 47) C dX6_whyNotBy_43 (by decide) ?_
          exact aj_iret C K dX6_whyNotBy_47 ⟨_, rfl, h⟩
    · have h := h2 e
      refine aj_iconst C dX6_whyNotBy_19 ?_
      exact aj_iret C K dX6_whyNotBy_20 ⟨_, rfl, h⟩
theorem dX7_layFour_0 : decode cX7_layFour 0 = .ok (.bipush 24, 2) := by decide +kernel
theorem dX7_layFour_2 : decode cX7_layFour 2 = .ok (.istore_n 2, 1) := by decide +kernel
theorem dX7_layFour_3 : decode cX7_layFour 3 = .ok (.iload_n 2, 1) := by decide +kernel
theorem dX7_layFour_4 : decode cX7_layFour 4 = .ok (.ifCond .lt 42, 3) := by decide +kernel
theorem dX7_layFour_7 : decode cX7_layFour 7 = .ok (.aload_n 0, 1) := by decide +kernel
theorem dX7_layFour_8 : decode cX7_layFour 8 = .ok (.getfield 15, 3) := by decide +kernel
theorem dX7_layFour_11 : decode cX7_layFour 11 = .ok (.sipush 900, 3) := by decide +kernel
theorem dX7_layFour_14 : decode cX7_layFour 14 = .ok (.if_icmp .ge 32, 3) := by decide +kernel
theorem dX7_layFour_17 : decode cX7_layFour 17 = .ok (.aload_n 0, 1) := by decide +kernel
theorem dX7_layFour_18 : decode cX7_layFour 18 = .ok (.getfield 9, 3) := by decide +kernel
theorem dX7_layFour_21 : decode cX7_layFour 21 = .ok (.aload_n 0, 1) := by decide +kernel
theorem dX7_layFour_22 : decode cX7_layFour 22 = .ok (.getfield 15, 3) := by decide +kernel
theorem dX7_layFour_25 : decode cX7_layFour 25 = .ok (.iload_n 1, 1) := by decide +kernel
theorem dX7_layFour_26 : decode cX7_layFour 26 = .ok (.iload_n 2, 1) := by decide +kernel
theorem dX7_layFour_27 : decode cX7_layFour 27 = .ok (.iushr, 1) := by decide +kernel
theorem dX7_layFour_28 : decode cX7_layFour 28 = .ok (.i2b, 1) := by decide +kernel
theorem dX7_layFour_29 : decode cX7_layFour 29 = .ok (.bastore, 1) := by decide +kernel
theorem dX7_layFour_30 : decode cX7_layFour 30 = .ok (.aload_n 0, 1) := by decide +kernel
theorem dX7_layFour_31 : decode cX7_layFour 31 = .ok (.dup, 1) := by decide +kernel
theorem dX7_layFour_32 : decode cX7_layFour 32 = .ok (.getfield 15, 3) := by decide +kernel
theorem dX7_layFour_35 : decode cX7_layFour 35 = .ok (.iconst 1, 1) := by decide +kernel
theorem dX7_layFour_36 : decode cX7_layFour 36 = .ok (.iadd, 1) := by decide +kernel
theorem dX7_layFour_37 : decode cX7_layFour 37 = .ok (.putfield 15, 3) := by decide +kernel
theorem dX7_layFour_40 : decode cX7_layFour 40 = .ok (.iinc 2 (-8), 3) := by decide +kernel
theorem dX7_layFour_43 : decode cX7_layFour 43 = .ok (.goto (-40), 3) := by decide +kernel
theorem dX7_layFour_46 : decode cX7_layFour 46 = .ok (.return_, 1) := by decide +kernel
def hX7_layFour_3 (f : Nat) (Φ : aj_M → Prop) : Nat → List Nat → Int → Int → aj_M → Prop
  | 0, _, _, _, _ => False
  | k + 1, q0, v1, v2, m => rI v2 ∧ (v2 < 0 → Φ m) ∧ (¬ (v2 < 0) → rI (m q0 1) ∧ (900 ≤ (m q0 1) → Φ m) ∧ (¬ (900 ≤ (m q0 1)) → (0 ≤ (m q0 1) ∧ (m q0 1) < 900) ∧ ∀ m1, m1 = aj_u m (0 :: q0) (m q0 1).toNat (aj_b (aj_b (aj_ushr v1 v2))) → ∀ m2, m2 = aj_u m1 q0 1 ((m1 q0 1) + 1) → hX7_layFour_3 f Φ k q0 v1 (v2 + (-8)) m2))
set_option maxHeartbeats 4000000 in
set_option maxRecDepth 100000 in
theorem tX7_layFour_3 {X : aj_T} {n f : Nat} {Φ : aj_M → Prop} (C : aj_Cx X cX7_layFour RX7 3 n) (K : aj_Rt X none (fun r m => r = none ∧ Φ m)) : ∀ (k : Nat) (q0 : List Nat) (v1 : Int) (v2 : Int) (m : aj_M) (hq0 : (.inl (7, q0) : aj_R) ∈ aj_pls), hX7_layFour_3 f Φ k q0 v1 v2 m → aj_J X 3 [some (vO 7 q0), some (vI v1), some (vI v2)] [] m := by
  intro k
  induction k with
  | zero =>
    intro q0 v1 v2 m _ h
    exact h.elim
  | succ k ih =>
    intro q0 v1 v2 m hq0 h
    unfold hX7_layFour_3 at h
    refine aj_iload_n C dX7_layFour_3 rfl ?_
    obtain ⟨r0, h1, h2⟩ := h
    refine aj_if_lt (tgt := 46) C dX7_layFour_4 (by decide) r0 (fun e => ?_) (fun e => ?_)
    · have h := h1 e
      exact aj_vret C K dX7_layFour_46 ⟨rfl, h⟩
    · have h := h2 e
      refine aj_aload_n C dX7_layFour_7 rfl ?_
      refine aj_getI C flX7_15 hq0 (by decide) dX7_layFour_8 rfl ?_
      refine aj_sipush C dX7_layFour_11 (by decide) ?_
      obtain ⟨r0, h1, h2⟩ := h
      refine aj_icmp_ge (tgt := 46) C dX7_layFour_14 (by decide) r0 (by decide) (fun e => ?_) (fun e => ?_)
      · have h := h1 e
        exact aj_vret C K dX7_layFour_46 ⟨rfl, h⟩
      · have h := h2 e
        refine aj_aload_n C dX7_layFour_17 rfl ?_
        refine aj_getA (x := 2) (y := 900) C flX7_9 hq0 rfl dX7_layFour_18 ?_
        refine aj_aload_n C dX7_layFour_21 rfl ?_
        refine aj_getI C flX7_15 hq0 (by decide) dX7_layFour_22 rfl ?_
        refine aj_iload_n C dX7_layFour_25 rfl ?_
        refine aj_iload_n C dX7_layFour_26 rfl ?_
        refine aj_iushr C dX7_layFour_27 ?_
        refine aj_i2b C dX7_layFour_28 ?_
        obtain ⟨r0, h⟩ := h
        refine aj_bast C (aj_ca (e := 2) (n := 900) (j := 0) hq0 (by decide) rfl) (by decide) r0 dX7_layFour_29 ?_
        refine aj_nm (fun m1 e1 => ?_)
        have h := h m1 e1
        refine aj_aload_n C dX7_layFour_30 rfl ?_
        refine aj_dup C aj_nR dX7_layFour_31 ?_
        refine aj_getI C flX7_15 hq0 (by decide) dX7_layFour_32 rfl ?_
        refine aj_iconst C dX7_layFour_35 ?_
        refine aj_iadd C dX7_layFour_36 ?_
        refine aj_putI C fpX7_15 hq0 rfl dX7_layFour_37 ?_
        refine aj_nm (fun m2 e1 => ?_)
        have h := h m2 e1
        refine aj_iinc (lv' := [some (vO 7 q0), some (vI v1), some (vI (v2 + (-8)))]) C dX7_layFour_40 rfl (by decide) rfl ?_
        refine aj_goto (tgt := 3) C dX7_layFour_43 (by decide) ?_
        exact ih q0 v1 (v2 + (-8)) _ hq0 h
def wX7_layFour (f : Nat) (Φ : aj_M → Prop) (q0 : List Nat) (v1 : Int) (m : aj_M) : Prop := hX7_layFour_3 f Φ f q0 v1 24 m
set_option maxHeartbeats 4000000 in
set_option maxRecDepth 100000 in
theorem sX7_layFour {n f : Nat} {Φ : aj_M → Prop} {q0 : List Nat} {v1 : Int} {m : aj_M} (hq0 : (.inl (7, q0) : aj_R) ∈ aj_pls) (h : wX7_layFour f Φ q0 v1 m) : aj_Ct n yX7_layFour cX7_layFour 3 none [vO 7 q0, vI v1] m (fun r m => r = none ∧ Φ m) := by
  refine aj_met (lv := [some (vO 7 q0), some (vI v1), none]) (by decide +kernel) rfl (Nat.le_of_ble_eq_true rfl) (fun X C K => ?_)
  unfold wX7_layFour at h
  refine aj_bipush C dX7_layFour_0 (by decide) ?_
  refine aj_istore_n (lv' := [some (vO 7 q0), some (vI v1), some (vI 24)]) C dX7_layFour_2 (by decide) rfl ?_
  exact tX7_layFour_3 C K f q0 v1 24 _ hq0 h
theorem dJ0_coder_7d493_0 : decode cJ0_coder_7d493 0 = .ok (.getstatic 38, 3) := by decide +kernel
theorem dJ0_coder_7d493_3 : decode cJ0_coder_7d493 3 = .ok (.ifCond .eq 10, 3) := by decide +kernel
theorem dJ0_coder_7d493_6 : decode cJ0_coder_7d493 6 = .ok (.aload_n 0, 1) := by decide +kernel
theorem dJ0_coder_7d493_7 : decode cJ0_coder_7d493 7 = .ok (.getfield 15, 3) := by decide +kernel
theorem dJ0_coder_7d493_10 : decode cJ0_coder_7d493 10 = .ok (.goto 4, 3) := by decide +kernel
theorem dJ0_coder_7d493_13 : decode cJ0_coder_7d493 13 = .ok (.iconst 1, 1) := by decide +kernel
theorem dJ0_coder_7d493_14 : decode cJ0_coder_7d493 14 = .ok (.ireturn, 1) := by decide +kernel
def wJ0_coder_7d493 (f : Nat) (Φ : Int → aj_M → Prop) (q0 : List Nat) (m : aj_M) : Prop := Φ 0 m
set_option maxHeartbeats 4000000 in
set_option maxRecDepth 100000 in
theorem sJ0_coder_7d493 {n f : Nat} {Φ : Int → aj_M → Prop} {q0 : List Nat} {m : aj_M} (hq0 : aj_S q0) (h : wJ0_coder_7d493 f Φ q0 m) : aj_Ct n yJ0_coder_7d493 cJ0_coder_7d493 1 (some .byte) [vO 13 q0] m (fun r m => ∃ z, r = some (vI z) ∧ Φ z m) := by
  refine aj_met (lv := [some (vO 13 q0)]) (by decide +kernel) rfl (Nat.le_of_ble_eq_true rfl) (fun X C K => ?_)
  unfold wJ0_coder_7d493 at h
  refine aj_getsC C K fsJ0_38 dJ0_coder_7d493_0 ?_
  refine aj_if_eq (tgt := 13) C dJ0_coder_7d493_3 (by decide) (by decide) (fun e => absurd e (by decide)) (fun _ => ?_)
  refine aj_aload_n C dJ0_coder_7d493_6 rfl ?_
  refine aj_getSC C K hq0 fsJ0_15 dJ0_coder_7d493_7 ?_
  refine aj_goto (tgt := 14) C dJ0_coder_7d493_10 (by decide) ?_
  exact aj_bret0 C K dJ0_coder_7d493_14 ⟨_, rfl, h⟩
theorem dJ0_length_8abf5_0 : decode cJ0_length_8abf5 0 = .ok (.aload_n 0, 1) := by decide +kernel
theorem dJ0_length_8abf5_1 : decode cJ0_length_8abf5 1 = .ok (.getfield 9, 3) := by decide +kernel
theorem dJ0_length_8abf5_4 : decode cJ0_length_8abf5 4 = .ok (.arraylength, 1) := by decide +kernel
theorem dJ0_length_8abf5_5 : decode cJ0_length_8abf5 5 = .ok (.aload_n 0, 1) := by decide +kernel
theorem dJ0_length_8abf5_6 : decode cJ0_length_8abf5 6 = .ok (.invokevirtual 335, 3) := by decide +kernel
theorem dJ0_length_8abf5_9 : decode cJ0_length_8abf5 9 = .ok (.ishr, 1) := by decide +kernel
theorem dJ0_length_8abf5_10 : decode cJ0_length_8abf5 10 = .ok (.ireturn, 1) := by decide +kernel
def wJ0_length_8abf5 (f : Nat) (Φ : Int → aj_M → Prop) (q0 : List Nat) (m : aj_M) : Prop := wJ0_coder_7d493 f (fun z1 m1 => z1 = 0 ∧ Φ (aj_shr ((aj_sl q0) : Int) 0) m1) q0 m
set_option maxHeartbeats 4000000 in
set_option maxRecDepth 100000 in
theorem sJ0_length_8abf5 {n f : Nat} {Φ : Int → aj_M → Prop} {q0 : List Nat} {m : aj_M} (hq0 : aj_S q0) (h : wJ0_length_8abf5 f Φ q0 m) : aj_Ct (n + 1) yJ0_length_8abf5 cJ0_length_8abf5 1 (some .int) [vO 13 q0] m (fun r m => ∃ z, r = some (vI z) ∧ Φ z m) := by
  refine aj_met (lv := [some (vO 13 q0)]) (by decide +kernel) rfl (Nat.le_of_ble_eq_true rfl) (fun X C K => ?_)
  unfold wJ0_length_8abf5 at h
  refine aj_aload_n C dJ0_length_8abf5_0 rfl ?_
  refine aj_getSV C K hq0 fsJ0_9 dJ0_length_8abf5_1 ?_
  refine aj_alenR C K (aj_S_A hq0) dJ0_length_8abf5_4 ?_
  refine aj_aload_n C dJ0_length_8abf5_5 rfl ?_
  refine aj_callW (rest := [vI ((aj_sl q0) : Int)]) C K mwJ0_335 rfl (sJ0_coder_7d493 hq0 h) hq0 (aj_np 0 (by decide +kernel) rfl) (Nat.le_of_ble_eq_true rfl) rfl dJ0_length_8abf5_6 (fun r m1 h => ?_)
  obtain ⟨z1, rfl, rfl, h⟩ := h
  refine aj_ishr C dJ0_length_8abf5_9 ?_
  exact aj_iret C K dJ0_length_8abf5_10 ⟨_, rfl, h⟩
theorem dJ0_isLatin1_aae02_0 : decode cJ0_isLatin1_aae02 0 = .ok (.getstatic 38, 3) := by decide +kernel
theorem dJ0_isLatin1_aae02_3 : decode cJ0_isLatin1_aae02 3 = .ok (.ifCond .eq 14, 3) := by decide +kernel
theorem dJ0_isLatin1_aae02_6 : decode cJ0_isLatin1_aae02 6 = .ok (.aload_n 0, 1) := by decide +kernel
theorem dJ0_isLatin1_aae02_7 : decode cJ0_isLatin1_aae02 7 = .ok (.getfield 15, 3) := by decide +kernel
theorem dJ0_isLatin1_aae02_10 : decode cJ0_isLatin1_aae02 10 = .ok (.ifCond .ne 7, 3) := by decide +kernel
theorem dJ0_isLatin1_aae02_13 : decode cJ0_isLatin1_aae02 13 = .ok (.iconst 1, 1) := by decide +kernel
theorem dJ0_isLatin1_aae02_14 : decode cJ0_isLatin1_aae02 14 = .ok (.goto 4, 3) := by decide +kernel
theorem dJ0_isLatin1_aae02_17 : decode cJ0_isLatin1_aae02 17 = .ok (.iconst 0, 1) := by decide +kernel
theorem dJ0_isLatin1_aae02_18 : decode cJ0_isLatin1_aae02 18 = .ok (.ireturn, 1) := by decide +kernel
def wJ0_isLatin1_aae02 (f : Nat) (Φ : Int → aj_M → Prop) (q0 : List Nat) (m : aj_M) : Prop := Φ 1 m
set_option maxHeartbeats 4000000 in
set_option maxRecDepth 100000 in
theorem sJ0_isLatin1_aae02 {n f : Nat} {Φ : Int → aj_M → Prop} {q0 : List Nat} {m : aj_M} (hq0 : aj_S q0) (h : wJ0_isLatin1_aae02 f Φ q0 m) : aj_Ct n yJ0_isLatin1_aae02 cJ0_isLatin1_aae02 1 (some .boolean) [vO 13 q0] m (fun r m => ∃ z, r = some (vI z) ∧ Φ z m) := by
  refine aj_met (lv := [some (vO 13 q0)]) (by decide +kernel) rfl (Nat.le_of_ble_eq_true rfl) (fun X C K => ?_)
  unfold wJ0_isLatin1_aae02 at h
  refine aj_getsC C K fsJ0_38 dJ0_isLatin1_aae02_0 ?_
  refine aj_if_eq (tgt := 17) C dJ0_isLatin1_aae02_3 (by decide) (by decide) (fun e => absurd e (by decide)) (fun _ => ?_)
  refine aj_aload_n C dJ0_isLatin1_aae02_6 rfl ?_
  refine aj_getSC C K hq0 fsJ0_15 dJ0_isLatin1_aae02_7 ?_
  refine aj_if_ne (tgt := 17) C dJ0_isLatin1_aae02_10 (by decide) (by decide) (fun e => absurd rfl e) (fun _ => ?_)
  refine aj_iconst C dJ0_isLatin1_aae02_13 ?_
  refine aj_goto (tgt := 18) C dJ0_isLatin1_aae02_14 (by decide) ?_
  exact aj_zret C K (Or.inr rfl) dJ0_isLatin1_aae02_18 ⟨_, rfl, h⟩
theorem dJ1_charAt_3b067_0 : decode cJ1_charAt_3b067 0 = .ok (.iload_n 1, 1) := by decide +kernel
theorem dJ1_charAt_3b067_1 : decode cJ1_charAt_3b067 1 = .ok (.aload_n 0, 1) := by decide +kernel
theorem dJ1_charAt_3b067_2 : decode cJ1_charAt_3b067 2 = .ok (.arraylength, 1) := by decide +kernel
theorem dJ1_charAt_3b067_3 : decode cJ1_charAt_3b067 3 = .ok (.invokestatic 9, 3) := by decide +kernel
theorem dJ1_charAt_3b067_6 : decode cJ1_charAt_3b067 6 = .ok (.aload_n 0, 1) := by decide +kernel
theorem dJ1_charAt_3b067_7 : decode cJ1_charAt_3b067 7 = .ok (.iload_n 1, 1) := by decide +kernel
theorem dJ1_charAt_3b067_8 : decode cJ1_charAt_3b067 8 = .ok (.baload, 1) := by decide +kernel
theorem dJ1_charAt_3b067_9 : decode cJ1_charAt_3b067 9 = .ok (.sipush 255, 3) := by decide +kernel
theorem dJ1_charAt_3b067_12 : decode cJ1_charAt_3b067 12 = .ok (.iand, 1) := by decide +kernel
theorem dJ1_charAt_3b067_13 : decode cJ1_charAt_3b067 13 = .ok (.i2c, 1) := by decide +kernel
theorem dJ1_charAt_3b067_14 : decode cJ1_charAt_3b067 14 = .ok (.ireturn, 1) := by decide +kernel
def wJ1_charAt_3b067 (f : Nat) (Φ : Int → aj_M → Prop) (ba0 : Nat) (a0 : List Nat) (v1 : Int) (m : aj_M) : Prop := wJ0_checkIndex_df160 f (fun m1 => (0 ≤ v1 ∧ v1 < (ba0 : Int)) ∧ (0 ≤ (aj_ch (aj_and (aj_sb a0 v1.toNat) 255)) ∧ (aj_ch (aj_and (aj_sb a0 v1.toNat) 255)) < 65536) ∧ Φ (aj_ch (aj_and (aj_sb a0 v1.toNat) 255)) m1) v1 (ba0 : Int) m
set_option maxHeartbeats 4000000 in
set_option maxRecDepth 100000 in
theorem sJ1_charAt_3b067 {n f : Nat} {Φ : Int → aj_M → Prop} {ba0 : Nat} {a0 : List Nat} {v1 : Int} {m : aj_M} (ha0 : aj_SA ba0 a0) (h : wJ1_charAt_3b067 f Φ ba0 a0 v1 m) : aj_Ct (n + 2) yJ1_charAt_3b067 cJ1_charAt_3b067 2 (some .char) [vA 8 ba0 a0, vI v1] m (fun r m => ∃ z, r = some (vI z) ∧ Φ z m) := by
  refine aj_met (lv := [some (vA 8 ba0 a0), some (vI v1)]) (by decide +kernel) rfl (Nat.le_of_ble_eq_true rfl) (fun X C K => ?_)
  unfold wJ1_charAt_3b067 at h
  refine aj_iload_n C dJ1_charAt_3b067_0 rfl ?_
  refine aj_aload_n C dJ1_charAt_3b067_1 rfl ?_
  refine aj_alenR C K ha0 dJ1_charAt_3b067_2 ?_
  refine aj_callS (rest := []) C msJ1_9 (sJ0_checkIndex_df160  h) (aj_np 2 (by decide +kernel) rfl) (Nat.le_of_ble_eq_true rfl) rfl dJ1_charAt_3b067_3 (fun r m1 h => ?_)
  obtain ⟨rfl, h⟩ := h
  refine aj_aload_n C dJ1_charAt_3b067_6 rfl ?_
  refine aj_iload_n C dJ1_charAt_3b067_7 rfl ?_
  obtain ⟨r0, h⟩ := h
  refine aj_baldR C K ha0 r0 dJ1_charAt_3b067_8 ?_
  refine aj_sipush C dJ1_charAt_3b067_9 (by decide) ?_
  refine aj_iand C dJ1_charAt_3b067_12 ?_
  refine aj_i2c C dJ1_charAt_3b067_13 ?_
  exact aj_cret C K h.1 dJ1_charAt_3b067_14 ⟨_, rfl, h.2⟩
theorem dJ0_charAt_5068e_0 : decode cJ0_charAt_5068e 0 = .ok (.aload_n 0, 1) := by decide +kernel
theorem dJ0_charAt_5068e_1 : decode cJ0_charAt_5068e 1 = .ok (.invokevirtual 492, 3) := by decide +kernel
theorem dJ0_charAt_5068e_4 : decode cJ0_charAt_5068e 4 = .ok (.ifCond .eq 12, 3) := by decide +kernel
theorem dJ0_charAt_5068e_7 : decode cJ0_charAt_5068e 7 = .ok (.aload_n 0, 1) := by decide +kernel
theorem dJ0_charAt_5068e_8 : decode cJ0_charAt_5068e 8 = .ok (.getfield 9, 3) := by decide +kernel
theorem dJ0_charAt_5068e_11 : decode cJ0_charAt_5068e 11 = .ok (.iload_n 1, 1) := by decide +kernel
theorem dJ0_charAt_5068e_12 : decode cJ0_charAt_5068e 12 = .ok (.invokestatic 495, 3) := by decide +kernel
theorem dJ0_charAt_5068e_15 : decode cJ0_charAt_5068e 15 = .ok (.ireturn, 1) := by decide +kernel
theorem dJ0_charAt_5068e_16 : decode cJ0_charAt_5068e 16 = .ok (.aload_n 0, 1) := by decide +kernel
theorem dJ0_charAt_5068e_17 : decode cJ0_charAt_5068e 17 = .ok (.getfield 9, 3) := by decide +kernel
theorem dJ0_charAt_5068e_20 : decode cJ0_charAt_5068e 20 = .ok (.iload_n 1, 1) := by decide +kernel
theorem dJ0_charAt_5068e_21 : decode cJ0_charAt_5068e 21 = .ok (.invokestatic 498, 3) := by decide +kernel
theorem dJ0_charAt_5068e_24 : decode cJ0_charAt_5068e 24 = .ok (.ireturn, 1) := by decide +kernel
def wJ0_charAt_5068e (f : Nat) (Φ : Int → aj_M → Prop) (q0 : List Nat) (v1 : Int) (m : aj_M) : Prop := wJ0_isLatin1_aae02 f (fun z1 m1 => z1 = 1 ∧ wJ1_charAt_3b067 f (fun z2 m2 => (0 ≤ z2 ∧ z2 < 65536) ∧ Φ z2 m2) (aj_sl q0) (0 :: q0) v1 m1) q0 m
set_option maxHeartbeats 4000000 in
set_option maxRecDepth 100000 in
theorem sJ0_charAt_5068e {n f : Nat} {Φ : Int → aj_M → Prop} {q0 : List Nat} {v1 : Int} {m : aj_M} (hq0 : aj_S q0) (h : wJ0_charAt_5068e f Φ q0 v1 m) : aj_Ct (n + 3) yJ0_charAt_5068e cJ0_charAt_5068e 2 (some .char) [vO 13 q0, vI v1] m (fun r m => ∃ z, r = some (vI z) ∧ Φ z m) := by
  refine aj_met (lv := [some (vO 13 q0), some (vI v1)]) (by decide +kernel) rfl (Nat.le_of_ble_eq_true rfl) (fun X C K => ?_)
  unfold wJ0_charAt_5068e at h
  refine aj_aload_n C dJ0_charAt_5068e_0 rfl ?_
  refine aj_callW (rest := []) C K mwJ0_492 rfl (sJ0_isLatin1_aae02 hq0 h) hq0 (aj_np 0 (by decide +kernel) rfl) (Nat.le_of_ble_eq_true rfl) rfl dJ0_charAt_5068e_1 (fun r m1 h => ?_)
  obtain ⟨z1, rfl, rfl, h⟩ := h
  refine aj_if_eq (tgt := 16) C dJ0_charAt_5068e_4 (by decide) (by decide) (fun e => absurd e (by decide)) (fun _ => ?_)
  refine aj_aload_n C dJ0_charAt_5068e_7 rfl ?_
  refine aj_getSV C K hq0 fsJ0_9 dJ0_charAt_5068e_8 ?_
  refine aj_iload_n C dJ0_charAt_5068e_11 rfl ?_
  refine aj_callS (rest := []) C msJ0_495 (sJ1_charAt_3b067 (aj_S_A hq0) h) (aj_np 2 (by decide +kernel) rfl) (Nat.le_of_ble_eq_true rfl) rfl dJ0_charAt_5068e_12 (fun r m2 h => ?_)
  obtain ⟨z2, rfl, h⟩ := h
  exact aj_cret C K h.1 dJ0_charAt_5068e_15 ⟨_, rfl, h.2⟩
theorem dX7_wordToken_0 : decode cX7_wordToken 0 = .ok (.sipush 200, 3) := by decide +kernel
theorem dX7_wordToken_3 : decode cX7_wordToken 3 = .ok (.istore_n 2, 1) := by decide +kernel
theorem dX7_wordToken_4 : decode cX7_wordToken 4 = .ok (.iconst 0, 1) := by decide +kernel
theorem dX7_wordToken_5 : decode cX7_wordToken 5 = .ok (.istore_n 3, 1) := by decide +kernel
theorem dX7_wordToken_6 : decode cX7_wordToken 6 = .ok (.iconst 0, 1) := by decide +kernel
theorem dX7_wordToken_7 : decode cX7_wordToken 7 = .ok (.istore 4, 2) := by decide +kernel
theorem dX7_wordToken_9 : decode cX7_wordToken 9 = .ok (.iload 4, 2) := by decide +kernel
theorem dX7_wordToken_11 : decode cX7_wordToken 11 = .ok (.ldc 208, 2) := by decide +kernel
theorem dX7_wordToken_13 : decode cX7_wordToken 13 = .ok (.invokevirtual 210, 3) := by decide +kernel
theorem dX7_wordToken_16 : decode cX7_wordToken 16 = .ok (.if_icmp .gt 84, 3) := by decide +kernel
theorem dX7_wordToken_19 : decode cX7_wordToken 19 = .ok (.iload 4, 2) := by decide +kernel
theorem dX7_wordToken_21 : decode cX7_wordToken 21 = .ok (.ldc 208, 2) := by decide +kernel
theorem dX7_wordToken_23 : decode cX7_wordToken 23 = .ok (.invokevirtual 210, 3) := by decide +kernel
theorem dX7_wordToken_26 : decode cX7_wordToken 26 = .ok (.if_icmp .eq 15, 3) := by decide +kernel
theorem dX7_wordToken_29 : decode cX7_wordToken 29 = .ok (.ldc 208, 2) := by decide +kernel
theorem dX7_wordToken_31 : decode cX7_wordToken 31 = .ok (.iload 4, 2) := by decide +kernel
theorem dX7_wordToken_33 : decode cX7_wordToken 33 = .ok (.invokevirtual 213, 3) := by decide +kernel
theorem dX7_wordToken_36 : decode cX7_wordToken 36 = .ok (.bipush 32, 2) := by decide +kernel
theorem dX7_wordToken_38 : decode cX7_wordToken 38 = .ok (.if_icmp .ne 18, 3) := by decide +kernel
theorem dX7_wordToken_41 : decode cX7_wordToken 41 = .ok (.iload_n 3, 1) := by decide +kernel
theorem dX7_wordToken_42 : decode cX7_wordToken 42 = .ok (.iload_n 1, 1) := by decide +kernel
theorem dX7_wordToken_43 : decode cX7_wordToken 43 = .ok (.if_icmp .ne 5, 3) := by decide +kernel
theorem dX7_wordToken_46 : decode cX7_wordToken 46 = .ok (.iload_n 2, 1) := by decide +kernel
theorem dX7_wordToken_47 : decode cX7_wordToken 47 = .ok (.ireturn, 1) := by decide +kernel
theorem dX7_wordToken_48 : decode cX7_wordToken 48 = .ok (.iinc 2 1, 3) := by decide +kernel
theorem dX7_wordToken_51 : decode cX7_wordToken 51 = .ok (.iconst 0, 1) := by decide +kernel
theorem dX7_wordToken_52 : decode cX7_wordToken 52 = .ok (.istore_n 3, 1) := by decide +kernel
theorem dX7_wordToken_53 : decode cX7_wordToken 53 = .ok (.goto 41, 3) := by decide +kernel
theorem dX7_wordToken_56 : decode cX7_wordToken 56 = .ok (.iload_n 3, 1) := by decide +kernel
theorem dX7_wordToken_57 : decode cX7_wordToken 57 = .ok (.ifCond .lt 35, 3) := by decide +kernel
theorem dX7_wordToken_60 : decode cX7_wordToken 60 = .ok (.iload_n 3, 1) := by decide +kernel
theorem dX7_wordToken_61 : decode cX7_wordToken 61 = .ok (.iload_n 1, 1) := by decide +kernel
theorem dX7_wordToken_62 : decode cX7_wordToken 62 = .ok (.if_icmp .ge 30, 3) := by decide +kernel
theorem dX7_wordToken_65 : decode cX7_wordToken 65 = .ok (.aload_n 0, 1) := by decide +kernel
theorem dX7_wordToken_66 : decode cX7_wordToken 66 = .ok (.getfield 9, 3) := by decide +kernel
theorem dX7_wordToken_69 : decode cX7_wordToken 69 = .ok (.aload_n 0, 1) := by decide +kernel
theorem dX7_wordToken_70 : decode cX7_wordToken 70 = .ok (.getfield 33, 3) := by decide +kernel
theorem dX7_wordToken_73 : decode cX7_wordToken 73 = .ok (.iload_n 3, 1) := by decide +kernel
theorem dX7_wordToken_74 : decode cX7_wordToken 74 = .ok (.iadd, 1) := by decide +kernel
theorem dX7_wordToken_75 : decode cX7_wordToken 75 = .ok (.baload, 1) := by decide +kernel
theorem dX7_wordToken_76 : decode cX7_wordToken 76 = .ok (.ldc 208, 2) := by decide +kernel
theorem dX7_wordToken_78 : decode cX7_wordToken 78 = .ok (.iload 4, 2) := by decide +kernel
theorem dX7_wordToken_80 : decode cX7_wordToken 80 = .ok (.invokevirtual 213, 3) := by decide +kernel
theorem dX7_wordToken_83 : decode cX7_wordToken 83 = .ok (.if_icmp .ne 9, 3) := by decide +kernel
theorem dX7_wordToken_86 : decode cX7_wordToken 86 = .ok (.iinc 3 1, 3) := by decide +kernel
theorem dX7_wordToken_89 : decode cX7_wordToken 89 = .ok (.goto 5, 3) := by decide +kernel
theorem dX7_wordToken_92 : decode cX7_wordToken 92 = .ok (.iconst (-1), 1) := by decide +kernel
theorem dX7_wordToken_93 : decode cX7_wordToken 93 = .ok (.istore_n 3, 1) := by decide +kernel
theorem dX7_wordToken_94 : decode cX7_wordToken 94 = .ok (.iinc 4 1, 3) := by decide +kernel
theorem dX7_wordToken_97 : decode cX7_wordToken 97 = .ok (.goto (-88), 3) := by decide +kernel
theorem dX7_wordToken_100 : decode cX7_wordToken 100 = .ok (.sipush 199, 3) := by decide +kernel
theorem dX7_wordToken_103 : decode cX7_wordToken 103 = .ok (.ireturn, 1) := by decide +kernel
def hX7_wordToken_9 (f : Nat) (Φ : Int → aj_M → Prop) : Nat → List Nat → Int → Int → Int → Int → aj_M → Prop
  | 0, _, _, _, _, _, _ => False
  | k + 1, q0, v1, v2, v3, v4, m => wJ0_length_8abf5 f (fun z1 m1 => rI v4 ∧ rI z1 ∧ (z1 < v4 → Φ 199 m1) ∧ (¬ (z1 < v4) → wJ0_length_8abf5 f (fun z2 m2 => rI v4 ∧ rI z2 ∧ (v4 = z2 → rI v3 ∧ rI v1 ∧ (¬ v3 = v1 → hX7_wordToken_9 f Φ k q0 v1 (v2 + 1) 0 (v4 + 1) m2) ∧ (v3 = v1 → Φ v2 m2)) ∧ (¬ (v4 = z2) → wJ0_charAt_5068e f (fun z3 m3 => rI z3 ∧ (¬ z3 = 32 → rI v3 ∧ (v3 < 0 → hX7_wordToken_9 f Φ k q0 v1 v2 (-1) (v4 + 1) m3) ∧ (¬ (v3 < 0) → rI v3 ∧ rI v1 ∧ (v1 ≤ v3 → hX7_wordToken_9 f Φ k q0 v1 v2 (-1) (v4 + 1) m3) ∧ (¬ (v1 ≤ v3) → (0 ≤ ((m3 q0 5) + v3) ∧ ((m3 q0 5) + v3) < 900) ∧ wJ0_charAt_5068e f (fun z4 m4 => rI (m3 (0 :: q0) ((m3 q0 5) + v3).toNat) ∧ rI z4 ∧ (¬ (m3 (0 :: q0) ((m3 q0 5) + v3).toNat) = z4 → hX7_wordToken_9 f Φ k q0 v1 v2 (-1) (v4 + 1) m4) ∧ ((m3 (0 :: q0) ((m3 q0 5) + v3).toNat) = z4 → hX7_wordToken_9 f Φ k q0 v1 v2 (v3 + 1) (v4 + 1) m4)) [100] v4 m3))) ∧ (z3 = 32 → rI v3 ∧ rI v1 ∧ (¬ v3 = v1 → hX7_wordToken_9 f Φ k q0 v1 (v2 + 1) 0 (v4 + 1) m3) ∧ (v3 = v1 → Φ v2 m3))) [100] v4 m2)) [100] m1)) [100] m
set_option maxHeartbeats 4000000 in
set_option maxRecDepth 100000 in
theorem tX7_wordToken_9 {X : aj_T} {n f : Nat} {Φ : Int → aj_M → Prop} (C : aj_Cx X cX7_wordToken RX7 5 (n + 4)) (K : aj_Rt X (some .int) (fun r m => ∃ z, r = some (vI z) ∧ Φ z m)) : ∀ (k : Nat) (q0 : List Nat) (v1 : Int) (v2 : Int) (v3 : Int) (v4 : Int) (m : aj_M) (hq0 : (.inl (7, q0) : aj_R) ∈ aj_pls), hX7_wordToken_9 f Φ k q0 v1 v2 v3 v4 m → aj_J X 9 [some (vO 7 q0), some (vI v1), some (vI v2), some (vI v3), some (vI v4)] [] m := by
  intro k
  induction k with
  | zero =>
    intro q0 v1 v2 v3 v4 m _ h
    exact h.elim
  | succ k ih =>
    intro q0 v1 v2 v3 v4 m hq0 h
    unfold hX7_wordToken_9 at h
    refine aj_iload C dX7_wordToken_9 rfl ?_
    refine aj_ldcS (q := [100]) C (fun E U h => h.2.1) dX7_wordToken_11 ?_
    refine aj_callW (rest := [vI v4]) C K mwX7_210 rfl (sJ0_length_8abf5 (⟨0, by decide, rfl⟩ : aj_S [100]) h) (⟨0, by decide, rfl⟩ : aj_S [100]) (aj_np 0 (by decide +kernel) rfl) (Nat.le_of_ble_eq_true rfl) rfl dX7_wordToken_13 (fun r m1 h => ?_)
    obtain ⟨z1, rfl, h⟩ := h
    obtain ⟨r0, r1, h1, h2⟩ := h
    refine aj_icmp_gt (tgt := 100) C dX7_wordToken_16 (by decide) r0 r1 (fun e => ?_) (fun e => ?_)
    · have h := h1 e
      refine aj_sipush C dX7_wordToken_100 (by decide) ?_
      exact aj_iret C K dX7_wordToken_103 ⟨_, rfl, h⟩
    · have h := h2 e
      refine aj_iload C dX7_wordToken_19 rfl ?_
      refine aj_ldcS (q := [100]) C (fun E U h => h.2.1) dX7_wordToken_21 ?_
      refine aj_callW (rest := [vI v4]) C K mwX7_210 rfl (sJ0_length_8abf5 (⟨0, by decide, rfl⟩ : aj_S [100]) h) (⟨0, by decide, rfl⟩ : aj_S [100]) (aj_np 0 (by decide +kernel) rfl) (Nat.le_of_ble_eq_true rfl) rfl dX7_wordToken_23 (fun r m2 h => ?_)
      obtain ⟨z2, rfl, h⟩ := h
      obtain ⟨r0, r1, h1, h2⟩ := h
      refine aj_icmp_eq (tgt := 41) C dX7_wordToken_26 (by decide) r0 r1 (fun e => ?_) (fun e => ?_)
      · have h := h1 e
        refine aj_iload_n C dX7_wordToken_41 rfl ?_
        refine aj_iload_n C dX7_wordToken_42 rfl ?_
        obtain ⟨r0, r1, h1, h2⟩ := h
        refine aj_icmp_ne (tgt := 48) C dX7_wordToken_43 (by decide) r0 r1 (fun e => ?_) (fun e => ?_)
        · have h := h1 e
          refine aj_iinc (lv' := [some (vO 7 q0), some (vI v1), some (vI (v2 + 1)), some (vI v3), some (vI v4)]) C dX7_wordToken_48 rfl (by decide) rfl ?_
          refine aj_iconst C dX7_wordToken_51 ?_
          refine aj_istore_n (lv' := [some (vO 7 q0), some (vI v1), some (vI (v2 + 1)), some (vI 0), some (vI v4)]) C dX7_wordToken_52 (by decide) rfl ?_
          refine aj_goto (tgt := 94) C dX7_wordToken_53 (by decide) ?_
          refine aj_iinc (lv' := [some (vO 7 q0), some (vI v1), some (vI (v2 + 1)), some (vI 0), some (vI (v4 + 1))]) C dX7_wordToken_94 rfl (by decide) rfl ?_
          refine aj_goto (tgt := 9) C dX7_wordToken_97 (by decide) ?_
          exact ih q0 v1 (v2 + 1) 0 (v4 + 1) _ hq0 h
        · have h := h2 e
          refine aj_iload_n C dX7_wordToken_46 rfl ?_
          exact aj_iret C K dX7_wordToken_47 ⟨_, rfl, h⟩
      · have h := h2 e
        refine aj_ldcS (q := [100]) C (fun E U h => h.2.1) dX7_wordToken_29 ?_
        refine aj_iload C dX7_wordToken_31 rfl ?_
        refine aj_callW (rest := []) C K mwX7_213 rfl (sJ0_charAt_5068e (⟨0, by decide, rfl⟩ : aj_S [100]) h) (⟨0, by decide, rfl⟩ : aj_S [100]) (aj_np 1 (by decide +kernel) rfl) (Nat.le_of_ble_eq_true rfl) rfl dX7_wordToken_33 (fun r m3 h => ?_)
        obtain ⟨z3, rfl, h⟩ := h
        refine aj_bipush C dX7_wordToken_36 (by decide) ?_
        obtain ⟨r0, h1, h2⟩ := h
        refine aj_icmp_ne (tgt := 56) C dX7_wordToken_38 (by decide) r0 (by decide) (fun e => ?_) (fun e => ?_)
        · have h := h1 e
          refine aj_iload_n C dX7_wordToken_56 rfl ?_
          obtain ⟨r0, h1, h2⟩ := h
          refine aj_if_lt (tgt := 92) C dX7_wordToken_57 (by decide) r0 (fun e => ?_) (fun e => ?_)
          · have h := h1 e
            refine aj_iconst C dX7_wordToken_92 ?_
            refine aj_istore_n (lv' := [some (vO 7 q0), some (vI v1), some (vI v2), some (vI (-1)), some (vI v4)]) C dX7_wordToken_93 (by decide) rfl ?_
            refine aj_iinc (lv' := [some (vO 7 q0), some (vI v1), some (vI v2), some (vI (-1)), some (vI (v4 + 1))]) C dX7_wordToken_94 rfl (by decide) rfl ?_
            refine aj_goto (tgt := 9) C dX7_wordToken_97 (by decide) ?_
            exact ih q0 v1 v2 (-1) (v4 + 1) _ hq0 h
          · have h := h2 e
            refine aj_iload_n C dX7_wordToken_60 rfl ?_
            refine aj_iload_n C dX7_wordToken_61 rfl ?_
            obtain ⟨r0, r1, h1, h2⟩ := h
            refine aj_icmp_ge (tgt := 92) C dX7_wordToken_62 (by decide) r0 r1 (fun e => ?_) (fun e => ?_)
            · have h := h1 e
              refine aj_iconst C dX7_wordToken_92 ?_
              refine aj_istore_n (lv' := [some (vO 7 q0), some (vI v1), some (vI v2), some (vI (-1)), some (vI v4)]) C dX7_wordToken_93 (by decide) rfl ?_
              refine aj_iinc (lv' := [some (vO 7 q0), some (vI v1), some (vI v2), some (vI (-1)), some (vI (v4 + 1))]) C dX7_wordToken_94 rfl (by decide) rfl ?_
              refine aj_goto (tgt := 9) C dX7_wordToken_97 (by decide) ?_
              exact ih q0 v1 v2 (-1) (v4 + 1) _ hq0 h
            · have h := h2 e
              refine aj_aload_n C dX7_wordToken_65 rfl ?_
              refine aj_getA (x := 2) (y := 900) C flX7_9 hq0 rfl dX7_wordToken_66 ?_
              refine aj_aload_n C dX7_wordToken_69 rfl ?_
              refine aj_getI C flX7_33 hq0 (by decide) dX7_wordToken_70 rfl ?_
              refine aj_iload_n C dX7_wordToken_73 rfl ?_
              refine aj_iadd C dX7_wordToken_74 ?_
              obtain ⟨r0, h⟩ := h
              refine aj_bald C (aj_ca (e := 2) (n := 900) (j := 0) hq0 (by decide) rfl) (by decide) r0 dX7_wordToken_75 rfl ?_
              refine aj_ldcS (q := [100]) C (fun E U h => h.2.1) dX7_wordToken_76 ?_
              refine aj_iload C dX7_wordToken_78 rfl ?_
              refine aj_callW (rest := [vI (m3 (0 :: q0) ((m3 q0 5) + v3).toNat)]) C K mwX7_213 rfl (sJ0_charAt_5068e (⟨0, by decide, rfl⟩ : aj_S [100]) h) (⟨0, by decide, rfl⟩ : aj_S [100]) (aj_np 1 (by decide +kernel) rfl) (Nat.le_of_ble_eq_true rfl) rfl dX7_wordToken_80 (fun r m4 h => ?_)
              obtain ⟨z4, rfl, h⟩ := h
              obtain ⟨r0, r1, h1, h2⟩ := h
              refine aj_icmp_ne (tgt := 92) C dX7_wordToken_83 (by decide) r0 r1 (fun e => ?_) (fun e => ?_)
              · have h := h1 e
                refine aj_iconst C dX7_wordToken_92 ?_
                refine aj_istore_n (lv' := [some (vO 7 q0), some (vI v1), some (vI v2), some (vI (-1)), some (vI v4)]) C dX7_wordToken_93 (by decide) rfl ?_
                refine aj_iinc (lv' := [some (vO 7 q0), some (vI v1), some (vI v2), some (vI (-1)), some (vI (v4 + 1))]) C dX7_wordToken_94 rfl (by decide) rfl ?_
                refine aj_goto (tgt := 9) C dX7_wordToken_97 (by decide) ?_
                exact ih q0 v1 v2 (-1) (v4 + 1) _ hq0 h
              · have h := h2 e
                refine aj_iinc (lv' := [some (vO 7 q0), some (vI v1), some (vI v2), some (vI (v3 + 1)), some (vI v4)]) C dX7_wordToken_86 rfl (by decide) rfl ?_
                refine aj_goto (tgt := 94) C dX7_wordToken_89 (by decide) ?_
                refine aj_iinc (lv' := [some (vO 7 q0), some (vI v1), some (vI v2), some (vI (v3 + 1)), some (vI (v4 + 1))]) C dX7_wordToken_94 rfl (by decide) rfl ?_
                refine aj_goto (tgt := 9) C dX7_wordToken_97 (by decide) ?_
                exact ih q0 v1 v2 (v3 + 1) (v4 + 1) _ hq0 h
        · have h := h2 e
          refine aj_iload_n C dX7_wordToken_41 rfl ?_
          refine aj_iload_n C dX7_wordToken_42 rfl ?_
          obtain ⟨r0, r1, h1, h2⟩ := h
          refine aj_icmp_ne (tgt := 48) C dX7_wordToken_43 (by decide) r0 r1 (fun e => ?_) (fun e => ?_)
          · have h := h1 e
            refine aj_iinc (lv' := [some (vO 7 q0), some (vI v1), some (vI (v2 + 1)), some (vI v3), some (vI v4)]) C dX7_wordToken_48 rfl (by decide) rfl ?_
            refine aj_iconst C dX7_wordToken_51 ?_
            refine aj_istore_n (lv' := [some (vO 7 q0), some (vI v1), some (vI (v2 + 1)), some (vI 0), some (vI v4)]) C dX7_wordToken_52 (by decide) rfl ?_
            refine aj_goto (tgt := 94) C dX7_wordToken_53 (by decide) ?_
            refine aj_iinc (lv' := [some (vO 7 q0), some (vI v1), some (vI (v2 + 1)), some (vI 0), some (vI (v4 + 1))]) C dX7_wordToken_94 rfl (by decide) rfl ?_
            refine aj_goto (tgt := 9) C dX7_wordToken_97 (by decide) ?_
            exact ih q0 v1 (v2 + 1) 0 (v4 + 1) _ hq0 h
          · have h := h2 e
            refine aj_iload_n C dX7_wordToken_46 rfl ?_
            exact aj_iret C K dX7_wordToken_47 ⟨_, rfl, h⟩
def wX7_wordToken (f : Nat) (Φ : Int → aj_M → Prop) (q0 : List Nat) (v1 : Int) (m : aj_M) : Prop := hX7_wordToken_9 f Φ f q0 v1 200 0 0 m
set_option maxHeartbeats 4000000 in
set_option maxRecDepth 100000 in
theorem sX7_wordToken {n f : Nat} {Φ : Int → aj_M → Prop} {q0 : List Nat} {v1 : Int} {m : aj_M} (hq0 : (.inl (7, q0) : aj_R) ∈ aj_pls) (h : wX7_wordToken f Φ q0 v1 m) : aj_Ct (n + 4) yX7_wordToken cX7_wordToken 5 (some .int) [vO 7 q0, vI v1] m (fun r m => ∃ z, r = some (vI z) ∧ Φ z m) := by
  refine aj_met (lv := [some (vO 7 q0), some (vI v1), none, none, none]) (by decide +kernel) rfl (Nat.le_of_ble_eq_true rfl) (fun X C K => ?_)
  unfold wX7_wordToken at h
  refine aj_sipush C dX7_wordToken_0 (by decide) ?_
  refine aj_istore_n (lv' := [some (vO 7 q0), some (vI v1), some (vI 200), none, none]) C dX7_wordToken_3 (by decide) rfl ?_
  refine aj_iconst C dX7_wordToken_4 ?_
  refine aj_istore_n (lv' := [some (vO 7 q0), some (vI v1), some (vI 200), some (vI 0), none]) C dX7_wordToken_5 (by decide) rfl ?_
  refine aj_iconst C dX7_wordToken_6 ?_
  refine aj_istore (lv' := [some (vO 7 q0), some (vI v1), some (vI 200), some (vI 0), some (vI 0)]) C dX7_wordToken_7 (by decide) rfl ?_
  exact tX7_wordToken_9 C K f q0 v1 200 0 0 _ hq0 h
theorem dJ1_canEncode_9a6ad_0 : decode cJ1_canEncode_9a6ad 0 = .ok (.iload_n 0, 1) := by decide +kernel
theorem dJ1_canEncode_9a6ad_1 : decode cJ1_canEncode_9a6ad 1 = .ok (.ifCond .lt 14, 3) := by decide +kernel
theorem dJ1_canEncode_9a6ad_4 : decode cJ1_canEncode_9a6ad 4 = .ok (.iload_n 0, 1) := by decide +kernel
theorem dJ1_canEncode_9a6ad_5 : decode cJ1_canEncode_9a6ad 5 = .ok (.sipush 255, 3) := by decide +kernel
theorem dJ1_canEncode_9a6ad_8 : decode cJ1_canEncode_9a6ad 8 = .ok (.if_icmp .gt 7, 3) := by decide +kernel
theorem dJ1_canEncode_9a6ad_11 : decode cJ1_canEncode_9a6ad 11 = .ok (.iconst 1, 1) := by decide +kernel
theorem dJ1_canEncode_9a6ad_12 : decode cJ1_canEncode_9a6ad 12 = .ok (.goto 4, 3) := by decide +kernel
theorem dJ1_canEncode_9a6ad_15 : decode cJ1_canEncode_9a6ad 15 = .ok (.iconst 0, 1) := by decide +kernel
theorem dJ1_canEncode_9a6ad_16 : decode cJ1_canEncode_9a6ad 16 = .ok (.ireturn, 1) := by decide +kernel
def wJ1_canEncode_9a6ad (f : Nat) (Φ : Int → aj_M → Prop) (v0 : Int) (m : aj_M) : Prop := rI v0 ∧ (v0 < 0 → Φ 0 m) ∧ (¬ (v0 < 0) → rI v0 ∧ (255 < v0 → Φ 0 m) ∧ (¬ (255 < v0) → Φ 1 m))
set_option maxHeartbeats 4000000 in
set_option maxRecDepth 100000 in
theorem sJ1_canEncode_9a6ad {n f : Nat} {Φ : Int → aj_M → Prop} {v0 : Int} {m : aj_M}  (h : wJ1_canEncode_9a6ad f Φ v0 m) : aj_Ct n yJ1_canEncode_9a6ad cJ1_canEncode_9a6ad 1 (some .boolean) [vI v0] m (fun r m => ∃ z, r = some (vI z) ∧ Φ z m) := by
  refine aj_met (lv := [some (vI v0)]) (by decide +kernel) rfl (Nat.le_of_ble_eq_true rfl) (fun X C K => ?_)
  unfold wJ1_canEncode_9a6ad at h
  refine aj_iload_n C dJ1_canEncode_9a6ad_0 rfl ?_
  obtain ⟨r0, h1, h2⟩ := h
  refine aj_if_lt (tgt := 15) C dJ1_canEncode_9a6ad_1 (by decide) r0 (fun e => ?_) (fun e => ?_)
  · have h := h1 e
    refine aj_iconst C dJ1_canEncode_9a6ad_15 ?_
    exact aj_zret C K (Or.inl rfl) dJ1_canEncode_9a6ad_16 ⟨_, rfl, h⟩
  · have h := h2 e
    refine aj_iload_n C dJ1_canEncode_9a6ad_4 rfl ?_
    refine aj_sipush C dJ1_canEncode_9a6ad_5 (by decide) ?_
    obtain ⟨r0, h1, h2⟩ := h
    refine aj_icmp_gt (tgt := 15) C dJ1_canEncode_9a6ad_8 (by decide) r0 (by decide) (fun e => ?_) (fun e => ?_)
    · have h := h1 e
      refine aj_iconst C dJ1_canEncode_9a6ad_15 ?_
      exact aj_zret C K (Or.inl rfl) dJ1_canEncode_9a6ad_16 ⟨_, rfl, h⟩
    · have h := h2 e
      refine aj_iconst C dJ1_canEncode_9a6ad_11 ?_
      refine aj_goto (tgt := 16) C dJ1_canEncode_9a6ad_12 (by decide) ?_
      exact aj_zret C K (Or.inr rfl) dJ1_canEncode_9a6ad_16 ⟨_, rfl, h⟩
theorem dJ1_indexOfChar_4cfef_0 : decode cJ1_indexOfChar_4cfef 0 = .ok (.iload_n 1, 1) := by decide +kernel
theorem dJ1_indexOfChar_4cfef_1 : decode cJ1_indexOfChar_4cfef 1 = .ok (.i2b, 1) := by decide +kernel
theorem dJ1_indexOfChar_4cfef_2 : decode cJ1_indexOfChar_4cfef 2 = .ok (.istore 4, 2) := by decide +kernel
theorem dJ1_indexOfChar_4cfef_4 : decode cJ1_indexOfChar_4cfef 4 = .ok (.iload_n 2, 1) := by decide +kernel
theorem dJ1_indexOfChar_4cfef_5 : decode cJ1_indexOfChar_4cfef 5 = .ok (.istore 5, 2) := by decide +kernel
theorem dJ1_indexOfChar_4cfef_7 : decode cJ1_indexOfChar_4cfef 7 = .ok (.iload 5, 2) := by decide +kernel
theorem dJ1_indexOfChar_4cfef_9 : decode cJ1_indexOfChar_4cfef 9 = .ok (.iload_n 3, 1) := by decide +kernel
theorem dJ1_indexOfChar_4cfef_10 : decode cJ1_indexOfChar_4cfef 10 = .ok (.if_icmp .ge 21, 3) := by decide +kernel
theorem dJ1_indexOfChar_4cfef_13 : decode cJ1_indexOfChar_4cfef 13 = .ok (.aload_n 0, 1) := by decide +kernel
theorem dJ1_indexOfChar_4cfef_14 : decode cJ1_indexOfChar_4cfef 14 = .ok (.iload 5, 2) := by decide +kernel
theorem dJ1_indexOfChar_4cfef_16 : decode cJ1_indexOfChar_4cfef 16 = .ok (.baload, 1) := by decide +kernel
theorem dJ1_indexOfChar_4cfef_17 : decode cJ1_indexOfChar_4cfef 17 = .ok (.iload 4, 2) := by decide +kernel
theorem dJ1_indexOfChar_4cfef_19 : decode cJ1_indexOfChar_4cfef 19 = .ok (.if_icmp .ne 6, 3) := by decide +kernel
theorem dJ1_indexOfChar_4cfef_22 : decode cJ1_indexOfChar_4cfef 22 = .ok (.iload 5, 2) := by decide +kernel
theorem dJ1_indexOfChar_4cfef_24 : decode cJ1_indexOfChar_4cfef 24 = .ok (.ireturn, 1) := by decide +kernel
theorem dJ1_indexOfChar_4cfef_25 : decode cJ1_indexOfChar_4cfef 25 = .ok (.iinc 5 1, 3) := by decide +kernel
theorem dJ1_indexOfChar_4cfef_28 : decode cJ1_indexOfChar_4cfef 28 = .ok (.goto (-21), 3) := by decide +kernel
theorem dJ1_indexOfChar_4cfef_31 : decode cJ1_indexOfChar_4cfef 31 = .ok (.iconst (-1), 1) := by decide +kernel
theorem dJ1_indexOfChar_4cfef_32 : decode cJ1_indexOfChar_4cfef 32 = .ok (.ireturn, 1) := by decide +kernel
def hJ1_indexOfChar_4cfef_7 (f : Nat) (Φ : Int → aj_M → Prop) : Nat → Nat → List Nat → Int → Int → Int → aj_M → Prop
  | 0, _, _, _, _, _, _ => False
  | k + 1, ba0, a0, v3, v4, v5, m => rI v5 ∧ rI v3 ∧ (v3 ≤ v5 → Φ (-1) m) ∧ (¬ (v3 ≤ v5) → (0 ≤ v5 ∧ v5 < (ba0 : Int)) ∧ rI (aj_sb a0 v5.toNat) ∧ rI v4 ∧ (¬ (aj_sb a0 v5.toNat) = v4 → hJ1_indexOfChar_4cfef_7 f Φ k ba0 a0 v3 v4 (v5 + 1) m) ∧ ((aj_sb a0 v5.toNat) = v4 → Φ v5 m))
set_option maxHeartbeats 4000000 in
set_option maxRecDepth 100000 in
theorem tJ1_indexOfChar_4cfef_7 {X : aj_T} {n f : Nat} {Φ : Int → aj_M → Prop} (C : aj_Cx X cJ1_indexOfChar_4cfef RJ1 6 n) (K : aj_Rt X (some .int) (fun r m => ∃ z, r = some (vI z) ∧ Φ z m)) : ∀ (k : Nat) (ba0 : Nat) (a0 : List Nat) (v3 : Int) (v4 : Int) (v5 : Int) (m : aj_M) (ha0 : aj_SA ba0 a0), hJ1_indexOfChar_4cfef_7 f Φ k ba0 a0 v3 v4 v5 m → aj_J X 7 [some (vA 8 ba0 a0), none, none, some (vI v3), some (vI v4), some (vI v5)] [] m := by
  intro k
  induction k with
  | zero =>
    intro ba0 a0 v3 v4 v5 m _ h
    exact h.elim
  | succ k ih =>
    intro ba0 a0 v3 v4 v5 m ha0 h
    unfold hJ1_indexOfChar_4cfef_7 at h
    refine aj_iload C dJ1_indexOfChar_4cfef_7 rfl ?_
    refine aj_iload_n C dJ1_indexOfChar_4cfef_9 rfl ?_
    obtain ⟨r0, r1, h1, h2⟩ := h
    refine aj_icmp_ge (tgt := 31) C dJ1_indexOfChar_4cfef_10 (by decide) r0 r1 (fun e => ?_) (fun e => ?_)
    · have h := h1 e
      refine aj_iconst C dJ1_indexOfChar_4cfef_31 ?_
      exact aj_iret C K dJ1_indexOfChar_4cfef_32 ⟨_, rfl, h⟩
    · have h := h2 e
      refine aj_aload_n C dJ1_indexOfChar_4cfef_13 rfl ?_
      refine aj_iload C dJ1_indexOfChar_4cfef_14 rfl ?_
      obtain ⟨r0, h⟩ := h
      refine aj_baldR C K ha0 r0 dJ1_indexOfChar_4cfef_16 ?_
      refine aj_iload C dJ1_indexOfChar_4cfef_17 rfl ?_
      obtain ⟨r0, r1, h1, h2⟩ := h
      refine aj_icmp_ne (tgt := 25) C dJ1_indexOfChar_4cfef_19 (by decide) r0 r1 (fun e => ?_) (fun e => ?_)
      · have h := h1 e
        refine aj_iinc (lv' := [some (vA 8 ba0 a0), none, none, some (vI v3), some (vI v4), some (vI (v5 + 1))]) C dJ1_indexOfChar_4cfef_25 rfl (by decide) rfl ?_
        refine aj_goto (tgt := 7) C dJ1_indexOfChar_4cfef_28 (by decide) ?_
        exact ih ba0 a0 v3 v4 (v5 + 1) _ ha0 h
      · have h := h2 e
        refine aj_iload C dJ1_indexOfChar_4cfef_22 rfl ?_
        exact aj_iret C K dJ1_indexOfChar_4cfef_24 ⟨_, rfl, h⟩
def wJ1_indexOfChar_4cfef (f : Nat) (Φ : Int → aj_M → Prop) (ba0 : Nat) (a0 : List Nat) (v1 : Int) (v2 : Int) (v3 : Int) (m : aj_M) : Prop := hJ1_indexOfChar_4cfef_7 f Φ f ba0 a0 v3 (aj_b v1) v2 m
set_option maxHeartbeats 4000000 in
set_option maxRecDepth 100000 in
theorem sJ1_indexOfChar_4cfef {n f : Nat} {Φ : Int → aj_M → Prop} {ba0 : Nat} {a0 : List Nat} {v1 : Int} {v2 : Int} {v3 : Int} {m : aj_M} (ha0 : aj_SA ba0 a0) (h : wJ1_indexOfChar_4cfef f Φ ba0 a0 v1 v2 v3 m) : aj_Ct n yJ1_indexOfChar_4cfef cJ1_indexOfChar_4cfef 6 (some .int) [vA 8 ba0 a0, vI v1, vI v2, vI v3] m (fun r m => ∃ z, r = some (vI z) ∧ Φ z m) := by
  refine aj_met (lv := [some (vA 8 ba0 a0), some (vI v1), some (vI v2), some (vI v3), none, none]) (by decide +kernel) rfl (Nat.le_of_ble_eq_true rfl) (fun X C K => ?_)
  unfold wJ1_indexOfChar_4cfef at h
  refine aj_iload_n C dJ1_indexOfChar_4cfef_0 rfl ?_
  refine aj_i2b C dJ1_indexOfChar_4cfef_1 ?_
  refine aj_istore (lv' := [some (vA 8 ba0 a0), some (vI v1), some (vI v2), some (vI v3), some (vI (aj_b v1)), none]) C dJ1_indexOfChar_4cfef_2 (by decide) rfl ?_
  refine aj_iload_n C dJ1_indexOfChar_4cfef_4 rfl ?_
  refine aj_istore (lv' := [some (vA 8 ba0 a0), some (vI v1), some (vI v2), some (vI v3), some (vI (aj_b v1)), some (vI v2)]) C dJ1_indexOfChar_4cfef_5 (by decide) rfl ?_
  refine aj_wk (lv' := [some (vA 8 ba0 a0), none, none, some (vI v3), some (vI (aj_b v1)), some (vI v2)]) (⟨rfl, ⟨rfl, ⟨rfl, ⟨rfl, trivial⟩⟩⟩⟩) ?_
  exact tJ1_indexOfChar_4cfef_7 C K f ba0 a0 v3 (aj_b v1) v2 _ ha0 h
theorem dJ1_indexOf_4cfef_0 : decode cJ1_indexOf_4cfef 0 = .ok (.iload_n 1, 1) := by decide +kernel
theorem dJ1_indexOf_4cfef_1 : decode cJ1_indexOf_4cfef 1 = .ok (.invokestatic 88, 3) := by decide +kernel
theorem dJ1_indexOf_4cfef_4 : decode cJ1_indexOf_4cfef 4 = .ok (.ifCond .ne 5, 3) := by decide +kernel
theorem dJ1_indexOf_4cfef_7 : decode cJ1_indexOf_4cfef 7 = .ok (.iconst (-1), 1) := by decide +kernel
theorem dJ1_indexOf_4cfef_8 : decode cJ1_indexOf_4cfef 8 = .ok (.ireturn, 1) := by decide +kernel
theorem dJ1_indexOf_4cfef_9 : decode cJ1_indexOf_4cfef 9 = .ok (.iload_n 2, 1) := by decide +kernel
theorem dJ1_indexOf_4cfef_10 : decode cJ1_indexOf_4cfef 10 = .ok (.iconst 0, 1) := by decide +kernel
theorem dJ1_indexOf_4cfef_11 : decode cJ1_indexOf_4cfef 11 = .ok (.invokestatic 92, 3) := by decide +kernel
theorem dJ1_indexOf_4cfef_14 : decode cJ1_indexOf_4cfef 14 = .ok (.istore_n 2, 1) := by decide +kernel
theorem dJ1_indexOf_4cfef_15 : decode cJ1_indexOf_4cfef 15 = .ok (.iload_n 3, 1) := by decide +kernel
theorem dJ1_indexOf_4cfef_16 : decode cJ1_indexOf_4cfef 16 = .ok (.aload_n 0, 1) := by decide +kernel
theorem dJ1_indexOf_4cfef_17 : decode cJ1_indexOf_4cfef 17 = .ok (.arraylength, 1) := by decide +kernel
theorem dJ1_indexOf_4cfef_18 : decode cJ1_indexOf_4cfef 18 = .ok (.invokestatic 38, 3) := by decide +kernel
theorem dJ1_indexOf_4cfef_21 : decode cJ1_indexOf_4cfef 21 = .ok (.istore_n 3, 1) := by decide +kernel
theorem dJ1_indexOf_4cfef_22 : decode cJ1_indexOf_4cfef 22 = .ok (.iload_n 2, 1) := by decide +kernel
theorem dJ1_indexOf_4cfef_23 : decode cJ1_indexOf_4cfef 23 = .ok (.iload_n 3, 1) := by decide +kernel
theorem dJ1_indexOf_4cfef_24 : decode cJ1_indexOf_4cfef 24 = .ok (.if_icmp .lt 5, 3) := by decide +kernel
theorem dJ1_indexOf_4cfef_27 : decode cJ1_indexOf_4cfef 27 = .ok (.iconst (-1), 1) := by decide +kernel
theorem dJ1_indexOf_4cfef_28 : decode cJ1_indexOf_4cfef 28 = .ok (.ireturn, 1) := by decide +kernel
theorem dJ1_indexOf_4cfef_29 : decode cJ1_indexOf_4cfef 29 = .ok (.aload_n 0, 1) := by decide +kernel
theorem dJ1_indexOf_4cfef_30 : decode cJ1_indexOf_4cfef 30 = .ok (.iload_n 1, 1) := by decide +kernel
theorem dJ1_indexOf_4cfef_31 : decode cJ1_indexOf_4cfef 31 = .ok (.iload_n 2, 1) := by decide +kernel
theorem dJ1_indexOf_4cfef_32 : decode cJ1_indexOf_4cfef 32 = .ok (.iload_n 3, 1) := by decide +kernel
theorem dJ1_indexOf_4cfef_33 : decode cJ1_indexOf_4cfef 33 = .ok (.invokestatic 95, 3) := by decide +kernel
theorem dJ1_indexOf_4cfef_36 : decode cJ1_indexOf_4cfef 36 = .ok (.ireturn, 1) := by decide +kernel
def wJ1_indexOf_4cfef (f : Nat) (Φ : Int → aj_M → Prop) (ba0 : Nat) (a0 : List Nat) (v1 : Int) (v2 : Int) (v3 : Int) (m : aj_M) : Prop := wJ1_canEncode_9a6ad f (fun z1 m1 => rI z1 ∧ (¬ z1 = 0 → rI v2 ∧ rI v3 ∧ rI (ba0 : Int) ∧ rI (max v2 0) ∧ rI (min v3 (ba0 : Int)) ∧ ((max v2 0) < (min v3 (ba0 : Int)) → wJ1_indexOfChar_4cfef f (fun z2 m2 => Φ z2 m2) ba0 a0 v1 (max v2 0) (min v3 (ba0 : Int)) m1) ∧ (¬ ((max v2 0) < (min v3 (ba0 : Int))) → Φ (-1) m1)) ∧ (z1 = 0 → Φ (-1) m1)) v1 m
set_option maxHeartbeats 4000000 in
set_option maxRecDepth 100000 in
theorem sJ1_indexOf_4cfef {n f : Nat} {Φ : Int → aj_M → Prop} {ba0 : Nat} {a0 : List Nat} {v1 : Int} {v2 : Int} {v3 : Int} {m : aj_M} (ha0 : aj_SA ba0 a0) (h : wJ1_indexOf_4cfef f Φ ba0 a0 v1 v2 v3 m) : aj_Ct (n + 1) yJ1_indexOf_4cfef cJ1_indexOf_4cfef 4 (some .int) [vA 8 ba0 a0, vI v1, vI v2, vI v3] m (fun r m => ∃ z, r = some (vI z) ∧ Φ z m) := by
  refine aj_met (lv := [some (vA 8 ba0 a0), some (vI v1), some (vI v2), some (vI v3)]) (by decide +kernel) rfl (Nat.le_of_ble_eq_true rfl) (fun X C K => ?_)
  unfold wJ1_indexOf_4cfef at h
  refine aj_iload_n C dJ1_indexOf_4cfef_0 rfl ?_
  refine aj_callS (rest := []) C msJ1_88 (sJ1_canEncode_9a6ad  h) (aj_np 1 (by decide +kernel) rfl) (Nat.le_of_ble_eq_true rfl) rfl dJ1_indexOf_4cfef_1 (fun r m1 h => ?_)
  obtain ⟨z1, rfl, h⟩ := h
  obtain ⟨r0, h1, h2⟩ := h
  refine aj_if_ne (tgt := 9) C dJ1_indexOf_4cfef_4 (by decide) r0 (fun e => ?_) (fun e => ?_)
  · have h := h1 e
    refine aj_iload_n C dJ1_indexOf_4cfef_9 rfl ?_
    refine aj_iconst C dJ1_indexOf_4cfef_10 ?_
    obtain ⟨r0, h⟩ := h
    refine aj_mmax C msJ1_92 (Nat.le_of_ble_eq_true rfl) r0 (by decide) dJ1_indexOf_4cfef_11 ?_
    refine aj_istore_n (lv' := [some (vA 8 ba0 a0), some (vI v1), some (vI (max v2 0)), some (vI v3)]) C dJ1_indexOf_4cfef_14 (by decide) rfl ?_
    refine aj_iload_n C dJ1_indexOf_4cfef_15 rfl ?_
    refine aj_aload_n C dJ1_indexOf_4cfef_16 rfl ?_
    refine aj_alenR C K ha0 dJ1_indexOf_4cfef_17 ?_
    obtain ⟨r0, r1, h⟩ := h
    refine aj_mmin C msJ1_38 (Nat.le_of_ble_eq_true rfl) r0 r1 dJ1_indexOf_4cfef_18 ?_
    refine aj_istore_n (lv' := [some (vA 8 ba0 a0), some (vI v1), some (vI (max v2 0)), some (vI (min v3 (ba0 : Int)))]) C dJ1_indexOf_4cfef_21 (by decide) rfl ?_
    refine aj_iload_n C dJ1_indexOf_4cfef_22 rfl ?_
    refine aj_iload_n C dJ1_indexOf_4cfef_23 rfl ?_
    obtain ⟨r0, r1, h1, h2⟩ := h
    refine aj_icmp_lt (tgt := 29) C dJ1_indexOf_4cfef_24 (by decide) r0 r1 (fun e => ?_) (fun e => ?_)
    · have h := h1 e
      refine aj_aload_n C dJ1_indexOf_4cfef_29 rfl ?_
      refine aj_iload_n C dJ1_indexOf_4cfef_30 rfl ?_
      refine aj_iload_n C dJ1_indexOf_4cfef_31 rfl ?_
      refine aj_iload_n C dJ1_indexOf_4cfef_32 rfl ?_
      refine aj_callS (rest := []) C msJ1_95 (sJ1_indexOfChar_4cfef ha0 h) (aj_np 4 (by decide +kernel) rfl) (Nat.le_of_ble_eq_true rfl) rfl dJ1_indexOf_4cfef_33 (fun r m2 h => ?_)
      obtain ⟨z2, rfl, h⟩ := h
      exact aj_iret C K dJ1_indexOf_4cfef_36 ⟨_, rfl, h⟩
    · have h := h2 e
      refine aj_iconst C dJ1_indexOf_4cfef_27 ?_
      exact aj_iret C K dJ1_indexOf_4cfef_28 ⟨_, rfl, h⟩
  · have h := h2 e
    refine aj_iconst C dJ1_indexOf_4cfef_7 ?_
    exact aj_iret C K dJ1_indexOf_4cfef_8 ⟨_, rfl, h⟩
theorem dJ0_indexOf_7cf53_0 : decode cJ0_indexOf_7cf53 0 = .ok (.aload_n 0, 1) := by decide +kernel
theorem dJ0_indexOf_7cf53_1 : decode cJ0_indexOf_7cf53 1 = .ok (.invokevirtual 492, 3) := by decide +kernel
theorem dJ0_indexOf_7cf53_4 : decode cJ0_indexOf_7cf53 4 = .ok (.ifCond .eq 19, 3) := by decide +kernel
theorem dJ0_indexOf_7cf53_7 : decode cJ0_indexOf_7cf53 7 = .ok (.aload_n 0, 1) := by decide +kernel
theorem dJ0_indexOf_7cf53_8 : decode cJ0_indexOf_7cf53 8 = .ok (.getfield 9, 3) := by decide +kernel
theorem dJ0_indexOf_7cf53_11 : decode cJ0_indexOf_7cf53 11 = .ok (.iload_n 1, 1) := by decide +kernel
theorem dJ0_indexOf_7cf53_12 : decode cJ0_indexOf_7cf53 12 = .ok (.iload_n 2, 1) := by decide +kernel
theorem dJ0_indexOf_7cf53_13 : decode cJ0_indexOf_7cf53 13 = .ok (.aload_n 0, 1) := by decide +kernel
theorem dJ0_indexOf_7cf53_14 : decode cJ0_indexOf_7cf53 14 = .ok (.invokevirtual 505, 3) := by decide +kernel
theorem dJ0_indexOf_7cf53_17 : decode cJ0_indexOf_7cf53 17 = .ok (.invokestatic 637, 3) := by decide +kernel
theorem dJ0_indexOf_7cf53_20 : decode cJ0_indexOf_7cf53 20 = .ok (.goto 16, 3) := by decide +kernel
theorem dJ0_indexOf_7cf53_23 : decode cJ0_indexOf_7cf53 23 = .ok (.aload_n 0, 1) := by decide +kernel
theorem dJ0_indexOf_7cf53_24 : decode cJ0_indexOf_7cf53 24 = .ok (.getfield 9, 3) := by decide +kernel
theorem dJ0_indexOf_7cf53_27 : decode cJ0_indexOf_7cf53 27 = .ok (.iload_n 1, 1) := by decide +kernel
theorem dJ0_indexOf_7cf53_28 : decode cJ0_indexOf_7cf53 28 = .ok (.iload_n 2, 1) := by decide +kernel
theorem dJ0_indexOf_7cf53_29 : decode cJ0_indexOf_7cf53 29 = .ok (.aload_n 0, 1) := by decide +kernel
theorem dJ0_indexOf_7cf53_30 : decode cJ0_indexOf_7cf53 30 = .ok (.invokevirtual 505, 3) := by decide +kernel
theorem dJ0_indexOf_7cf53_33 : decode cJ0_indexOf_7cf53 33 = .ok (.invokestatic 640, 3) := by decide +kernel
theorem dJ0_indexOf_7cf53_36 : decode cJ0_indexOf_7cf53 36 = .ok (.ireturn, 1) := by decide +kernel
def wJ0_indexOf_7cf53 (f : Nat) (Φ : Int → aj_M → Prop) (q0 : List Nat) (v1 : Int) (v2 : Int) (m : aj_M) : Prop := wJ0_isLatin1_aae02 f (fun z1 m1 => z1 = 1 ∧ wJ0_length_8abf5 f (fun z2 m2 => wJ1_indexOf_4cfef f (fun z3 m3 => Φ z3 m3) (aj_sl q0) (0 :: q0) v1 v2 z2 m2) q0 m1) q0 m
set_option maxHeartbeats 4000000 in
set_option maxRecDepth 100000 in
theorem sJ0_indexOf_7cf53 {n f : Nat} {Φ : Int → aj_M → Prop} {q0 : List Nat} {v1 : Int} {v2 : Int} {m : aj_M} (hq0 : aj_S q0) (h : wJ0_indexOf_7cf53 f Φ q0 v1 v2 m) : aj_Ct (n + 2) yJ0_indexOf_7cf53 cJ0_indexOf_7cf53 3 (some .int) [vO 13 q0, vI v1, vI v2] m (fun r m => ∃ z, r = some (vI z) ∧ Φ z m) := by
  refine aj_met (lv := [some (vO 13 q0), some (vI v1), some (vI v2)]) (by decide +kernel) rfl (Nat.le_of_ble_eq_true rfl) (fun X C K => ?_)
  unfold wJ0_indexOf_7cf53 at h
  refine aj_aload_n C dJ0_indexOf_7cf53_0 rfl ?_
  refine aj_callW (rest := []) C K mwJ0_492 rfl (sJ0_isLatin1_aae02 hq0 h) hq0 (aj_np 0 (by decide +kernel) rfl) (Nat.le_of_ble_eq_true rfl) rfl dJ0_indexOf_7cf53_1 (fun r m1 h => ?_)
  obtain ⟨z1, rfl, rfl, h⟩ := h
  refine aj_if_eq (tgt := 23) C dJ0_indexOf_7cf53_4 (by decide) (by decide) (fun e => absurd e (by decide)) (fun _ => ?_)
  refine aj_aload_n C dJ0_indexOf_7cf53_7 rfl ?_
  refine aj_getSV C K hq0 fsJ0_9 dJ0_indexOf_7cf53_8 ?_
  refine aj_iload_n C dJ0_indexOf_7cf53_11 rfl ?_
  refine aj_iload_n C dJ0_indexOf_7cf53_12 rfl ?_
  refine aj_aload_n C dJ0_indexOf_7cf53_13 rfl ?_
  refine aj_callW (rest := [vI v2, vI v1, vA 8 (aj_sl q0) (0 :: q0)]) C K mwJ0_505 rfl (sJ0_length_8abf5 hq0 h) hq0 (aj_np 0 (by decide +kernel) rfl) (Nat.le_of_ble_eq_true rfl) rfl dJ0_indexOf_7cf53_14 (fun r m2 h => ?_)
  obtain ⟨z2, rfl, h⟩ := h
  refine aj_callS (rest := []) C msJ0_637 (sJ1_indexOf_4cfef (aj_S_A hq0) h) (aj_np 4 (by decide +kernel) rfl) (Nat.le_of_ble_eq_true rfl) rfl dJ0_indexOf_7cf53_17 (fun r m3 h => ?_)
  obtain ⟨z3, rfl, h⟩ := h
  refine aj_goto (tgt := 36) C dJ0_indexOf_7cf53_20 (by decide) ?_
  exact aj_iret C K dJ0_indexOf_7cf53_36 ⟨_, rfl, h⟩
theorem dJ0_indexOf_0f7a4_0 : decode cJ0_indexOf_0f7a4 0 = .ok (.aload_n 0, 1) := by decide +kernel
theorem dJ0_indexOf_0f7a4_1 : decode cJ0_indexOf_0f7a4 1 = .ok (.iload_n 1, 1) := by decide +kernel
theorem dJ0_indexOf_0f7a4_2 : decode cJ0_indexOf_0f7a4 2 = .ok (.iconst 0, 1) := by decide +kernel
theorem dJ0_indexOf_0f7a4_3 : decode cJ0_indexOf_0f7a4 3 = .ok (.invokevirtual 633, 3) := by decide +kernel
theorem dJ0_indexOf_0f7a4_6 : decode cJ0_indexOf_0f7a4 6 = .ok (.ireturn, 1) := by decide +kernel
def wJ0_indexOf_0f7a4 (f : Nat) (Φ : Int → aj_M → Prop) (q0 : List Nat) (v1 : Int) (m : aj_M) : Prop := wJ0_indexOf_7cf53 f (fun z1 m1 => Φ z1 m1) q0 v1 0 m
set_option maxHeartbeats 4000000 in
set_option maxRecDepth 100000 in
theorem sJ0_indexOf_0f7a4 {n f : Nat} {Φ : Int → aj_M → Prop} {q0 : List Nat} {v1 : Int} {m : aj_M} (hq0 : aj_S q0) (h : wJ0_indexOf_0f7a4 f Φ q0 v1 m) : aj_Ct (n + 3) yJ0_indexOf_0f7a4 cJ0_indexOf_0f7a4 2 (some .int) [vO 13 q0, vI v1] m (fun r m => ∃ z, r = some (vI z) ∧ Φ z m) := by
  refine aj_met (lv := [some (vO 13 q0), some (vI v1)]) (by decide +kernel) rfl (Nat.le_of_ble_eq_true rfl) (fun X C K => ?_)
  unfold wJ0_indexOf_0f7a4 at h
  refine aj_aload_n C dJ0_indexOf_0f7a4_0 rfl ?_
  refine aj_iload_n C dJ0_indexOf_0f7a4_1 rfl ?_
  refine aj_iconst C dJ0_indexOf_0f7a4_2 ?_
  refine aj_callW (rest := []) C K mwJ0_633 rfl (sJ0_indexOf_7cf53 hq0 h) hq0 (aj_np 2 (by decide +kernel) rfl) (Nat.le_of_ble_eq_true rfl) rfl dJ0_indexOf_0f7a4_3 (fun r m1 h => ?_)
  obtain ⟨z1, rfl, h⟩ := h
  exact aj_iret C K dJ0_indexOf_0f7a4_6 ⟨_, rfl, h⟩
theorem dX7_step_0 : decode cX7_step 0 = .ok (.aload_n 0, 1) := by decide +kernel
theorem dX7_step_1 : decode cX7_step 1 = .ok (.getfield 36, 3) := by decide +kernel
theorem dX7_step_4 : decode cX7_step 4 = .ok (.istore_n 1, 1) := by decide +kernel
theorem dX7_step_5 : decode cX7_step 5 = .ok (.iload_n 1, 1) := by decide +kernel
theorem dX7_step_6 : decode cX7_step 6 = .ok (.aload_n 0, 1) := by decide +kernel
theorem dX7_step_7 : decode cX7_step 7 = .ok (.getfield 19, 3) := by decide +kernel
theorem dX7_step_10 : decode cX7_step 10 = .ok (.if_icmp .ge 31, 3) := by decide +kernel
theorem dX7_step_13 : decode cX7_step 13 = .ok (.aload_n 0, 1) := by decide +kernel
theorem dX7_step_14 : decode cX7_step 14 = .ok (.getfield 9, 3) := by decide +kernel
theorem dX7_step_17 : decode cX7_step 17 = .ok (.iload_n 1, 1) := by decide +kernel
theorem dX7_step_18 : decode cX7_step 18 = .ok (.baload, 1) := by decide +kernel
theorem dX7_step_19 : decode cX7_step 19 = .ok (.bipush 10, 2) := by decide +kernel
theorem dX7_step_21 : decode cX7_step 21 = .ok (.if_icmp .eq 14, 3) := by decide +kernel
theorem dX7_step_24 : decode cX7_step 24 = .ok (.aload_n 0, 1) := by decide +kernel
theorem dX7_step_25 : decode cX7_step 25 = .ok (.getfield 9, 3) := by decide +kernel
theorem dX7_step_28 : decode cX7_step 28 = .ok (.iload_n 1, 1) := by decide +kernel
theorem dX7_step_29 : decode cX7_step 29 = .ok (.baload, 1) := by decide +kernel
theorem dX7_step_30 : decode cX7_step 30 = .ok (.bipush 32, 2) := by decide +kernel
theorem dX7_step_32 : decode cX7_step 32 = .ok (.if_icmp .ne 9, 3) := by decide +kernel
theorem dX7_step_35 : decode cX7_step 35 = .ok (.iinc 1 1, 3) := by decide +kernel
theorem dX7_step_38 : decode cX7_step 38 = .ok (.goto (-33), 3) := by decide +kernel
theorem dX7_step_41 : decode cX7_step 41 = .ok (.aload_n 0, 1) := by decide +kernel
theorem dX7_step_42 : decode cX7_step 42 = .ok (.iload_n 1, 1) := by decide +kernel
theorem dX7_step_43 : decode cX7_step 43 = .ok (.putfield 33, 3) := by decide +kernel
theorem dX7_step_46 : decode cX7_step 46 = .ok (.aload_n 0, 1) := by decide +kernel
theorem dX7_step_47 : decode cX7_step 47 = .ok (.iconst 0, 1) := by decide +kernel
theorem dX7_step_48 : decode cX7_step 48 = .ok (.putfield 42, 3) := by decide +kernel
theorem dX7_step_51 : decode cX7_step 51 = .ok (.iload_n 1, 1) := by decide +kernel
theorem dX7_step_52 : decode cX7_step 52 = .ok (.aload_n 0, 1) := by decide +kernel
theorem dX7_step_53 : decode cX7_step 53 = .ok (.getfield 19, 3) := by decide +kernel
theorem dX7_step_56 : decode cX7_step 56 = .ok (.if_icmp .lt 11, 3) := by decide +kernel
theorem dX7_step_59 : decode cX7_step 59 = .ok (.aload_n 0, 1) := by decide +kernel
theorem dX7_step_60 : decode cX7_step 60 = .ok (.iconst 1, 1) := by decide +kernel
theorem dX7_step_61 : decode cX7_step 61 = .ok (.putfield 39, 3) := by decide +kernel
theorem dX7_step_64 : decode cX7_step 64 = .ok (.goto 224, 3) := by decide +kernel
theorem dX7_step_67 : decode cX7_step 67 = .ok (.aload_n 0, 1) := by decide +kernel
theorem dX7_step_68 : decode cX7_step 68 = .ok (.getfield 9, 3) := by decide +kernel
theorem dX7_step_71 : decode cX7_step 71 = .ok (.iload_n 1, 1) := by decide +kernel
theorem dX7_step_72 : decode cX7_step 72 = .ok (.baload, 1) := by decide +kernel
theorem dX7_step_73 : decode cX7_step 73 = .ok (.bipush 97, 2) := by decide +kernel
theorem dX7_step_75 : decode cX7_step 75 = .ok (.if_icmp .lt 67, 3) := by decide +kernel
theorem dX7_step_78 : decode cX7_step 78 = .ok (.aload_n 0, 1) := by decide +kernel
theorem dX7_step_79 : decode cX7_step 79 = .ok (.getfield 9, 3) := by decide +kernel
theorem dX7_step_82 : decode cX7_step 82 = .ok (.iload_n 1, 1) := by decide +kernel
theorem dX7_step_83 : decode cX7_step 83 = .ok (.baload, 1) := by decide +kernel
theorem dX7_step_84 : decode cX7_step 84 = .ok (.bipush 122, 2) := by decide +kernel
theorem dX7_step_86 : decode cX7_step 86 = .ok (.if_icmp .gt 56, 3) := by decide +kernel
theorem dX7_step_89 : decode cX7_step 89 = .ok (.iload_n 1, 1) := by decide +kernel
theorem dX7_step_90 : decode cX7_step 90 = .ok (.aload_n 0, 1) := by decide +kernel
theorem dX7_step_91 : decode cX7_step 91 = .ok (.getfield 19, 3) := by decide +kernel
theorem dX7_step_94 : decode cX7_step 94 = .ok (.if_icmp .ge 31, 3) := by decide +kernel
theorem dX7_step_97 : decode cX7_step 97 = .ok (.aload_n 0, 1) := by decide +kernel
theorem dX7_step_98 : decode cX7_step 98 = .ok (.getfield 9, 3) := by decide +kernel
theorem dX7_step_101 : decode cX7_step 101 = .ok (.iload_n 1, 1) := by decide +kernel
theorem dX7_step_102 : decode cX7_step 102 = .ok (.baload, 1) := by decide +kernel
theorem dX7_step_103 : decode cX7_step 103 = .ok (.bipush 97, 2) := by decide +kernel
theorem dX7_step_105 : decode cX7_step 105 = .ok (.if_icmp .lt 20, 3) := by decide +kernel
theorem dX7_step_108 : decode cX7_step 108 = .ok (.aload_n 0, 1) := by decide +kernel
theorem dX7_step_109 : decode cX7_step 109 = .ok (.getfield 9, 3) := by decide +kernel
theorem dX7_step_112 : decode cX7_step 112 = .ok (.iload_n 1, 1) := by decide +kernel
theorem dX7_step_113 : decode cX7_step 113 = .ok (.baload, 1) := by decide +kernel
theorem dX7_step_114 : decode cX7_step 114 = .ok (.bipush 122, 2) := by decide +kernel
theorem dX7_step_116 : decode cX7_step 116 = .ok (.if_icmp .gt 9, 3) := by decide +kernel
theorem dX7_step_119 : decode cX7_step 119 = .ok (.iinc 1 1, 3) := by decide +kernel
theorem dX7_step_122 : decode cX7_step 122 = .ok (.goto (-33), 3) := by decide +kernel
theorem dX7_step_125 : decode cX7_step 125 = .ok (.aload_n 0, 1) := by decide +kernel
theorem dX7_step_126 : decode cX7_step 126 = .ok (.aload_n 0, 1) := by decide +kernel
theorem dX7_step_127 : decode cX7_step 127 = .ok (.iload_n 1, 1) := by decide +kernel
theorem dX7_step_128 : decode cX7_step 128 = .ok (.aload_n 0, 1) := by decide +kernel
theorem dX7_step_129 : decode cX7_step 129 = .ok (.getfield 33, 3) := by decide +kernel
theorem dX7_step_132 : decode cX7_step 132 = .ok (.isub, 1) := by decide +kernel
theorem dX7_step_133 : decode cX7_step 133 = .ok (.invokevirtual 197, 3) := by decide +kernel
theorem dX7_step_136 : decode cX7_step 136 = .ok (.putfield 39, 3) := by decide +kernel
theorem dX7_step_139 : decode cX7_step 139 = .ok (.goto 149, 3) := by decide +kernel
theorem dX7_step_142 : decode cX7_step 142 = .ok (.aload_n 0, 1) := by decide +kernel
theorem dX7_step_143 : decode cX7_step 143 = .ok (.getfield 9, 3) := by decide +kernel
theorem dX7_step_146 : decode cX7_step 146 = .ok (.iload_n 1, 1) := by decide +kernel
theorem dX7_step_147 : decode cX7_step 147 = .ok (.baload, 1) := by decide +kernel
theorem dX7_step_148 : decode cX7_step 148 = .ok (.bipush 48, 2) := by decide +kernel
theorem dX7_step_150 : decode cX7_step 150 = .ok (.if_icmp .lt 97, 3) := by decide +kernel
theorem dX7_step_153 : decode cX7_step 153 = .ok (.aload_n 0, 1) := by decide +kernel
theorem dX7_step_154 : decode cX7_step 154 = .ok (.getfield 9, 3) := by decide +kernel
theorem dX7_step_157 : decode cX7_step 157 = .ok (.iload_n 1, 1) := by decide +kernel
theorem dX7_step_158 : decode cX7_step 158 = .ok (.baload, 1) := by decide +kernel
theorem dX7_step_159 : decode cX7_step 159 = .ok (.bipush 57, 2) := by decide +kernel
theorem dX7_step_161 : decode cX7_step 161 = .ok (.if_icmp .gt 86, 3) := by decide +kernel
theorem dX7_step_164 : decode cX7_step 164 = .ok (.iload_n 1, 1) := by decide +kernel
theorem dX7_step_165 : decode cX7_step 165 = .ok (.aload_n 0, 1) := by decide +kernel
theorem dX7_step_166 : decode cX7_step 166 = .ok (.getfield 19, 3) := by decide +kernel
theorem dX7_step_169 : decode cX7_step 169 = .ok (.if_icmp .ge 56, 3) := by decide +kernel
theorem dX7_step_172 : decode cX7_step 172 = .ok (.aload_n 0, 1) := by decide +kernel
theorem dX7_step_173 : decode cX7_step 173 = .ok (.getfield 9, 3) := by decide +kernel
theorem dX7_step_176 : decode cX7_step 176 = .ok (.iload_n 1, 1) := by decide +kernel
theorem dX7_step_177 : decode cX7_step 177 = .ok (.baload, 1) := by decide +kernel
theorem dX7_step_178 : decode cX7_step 178 = .ok (.bipush 48, 2) := by decide +kernel
theorem dX7_step_180 : decode cX7_step 180 = .ok (.if_icmp .lt 45, 3) := by decide +kernel
theorem dX7_step_183 : decode cX7_step 183 = .ok (.aload_n 0, 1) := by decide +kernel
theorem dX7_step_184 : decode cX7_step 184 = .ok (.getfield 9, 3) := by decide +kernel
theorem dX7_step_187 : decode cX7_step 187 = .ok (.iload_n 1, 1) := by decide +kernel
theorem dX7_step_188 : decode cX7_step 188 = .ok (.baload, 1) := by decide +kernel
theorem dX7_step_189 : decode cX7_step 189 = .ok (.bipush 57, 2) := by decide +kernel
theorem dX7_step_191 : decode cX7_step 191 = .ok (.if_icmp .gt 34, 3) := by decide +kernel
theorem dX7_step_194 : decode cX7_step 194 = .ok (.aload_n 0, 1) := by decide +kernel
theorem dX7_step_195 : decode cX7_step 195 = .ok (.aload_n 0, 1) := by decide +kernel
theorem dX7_step_196 : decode cX7_step 196 = .ok (.getfield 42, 3) := by decide +kernel
theorem dX7_step_199 : decode cX7_step 199 = .ok (.sipush 1000, 3) := by decide +kernel
theorem dX7_step_202 : decode cX7_step 202 = .ok (.irem, 1) := by decide +kernel
theorem dX7_step_203 : decode cX7_step 203 = .ok (.bipush 10, 2) := by decide +kernel
theorem dX7_step_205 : decode cX7_step 205 = .ok (.imul, 1) := by decide +kernel
theorem dX7_step_206 : decode cX7_step 206 = .ok (.aload_n 0, 1) := by decide +kernel
theorem dX7_step_207 : decode cX7_step 207 = .ok (.getfield 9, 3) := by decide +kernel
theorem dX7_step_210 : decode cX7_step 210 = .ok (.iload_n 1, 1) := by decide +kernel
theorem dX7_step_211 : decode cX7_step 211 = .ok (.baload, 1) := by decide +kernel
theorem dX7_step_212 : decode cX7_step 212 = .ok (.iadd, 1) := by decide +kernel
theorem dX7_step_213 : decode cX7_step 213 = .ok (.bipush 48, 2) := by decide +kernel
theorem dX7_step_215 : decode cX7_step 215 = .ok (.isub, 1) := by decide +kernel
theorem dX7_step_216 : decode cX7_step 216 = .ok (.putfield 42, 3) := by decide +kernel
theorem dX7_step_219 : decode cX7_step 219 = .ok (.iinc 1 1, 3) := by decide +kernel
theorem dX7_step_222 : decode cX7_step 222 = .ok (.goto (-58), 3) := by decide +kernel
theorem dX7_step_225 : decode cX7_step 225 = .ok (.aload_n 0, 1) := by decide +kernel
theorem dX7_step_226 : decode cX7_step 226 = .ok (.iload_n 1, 1) := by decide +kernel
theorem dX7_step_227 : decode cX7_step 227 = .ok (.aload_n 0, 1) := by decide +kernel
theorem dX7_step_228 : decode cX7_step 228 = .ok (.getfield 33, 3) := by decide +kernel
theorem dX7_step_231 : decode cX7_step 231 = .ok (.isub, 1) := by decide +kernel
theorem dX7_step_232 : decode cX7_step 232 = .ok (.iconst 3, 1) := by decide +kernel
theorem dX7_step_233 : decode cX7_step 233 = .ok (.if_icmp .gt 7, 3) := by decide +kernel
theorem dX7_step_236 : decode cX7_step 236 = .ok (.iconst 2, 1) := by decide +kernel
theorem dX7_step_237 : decode cX7_step 237 = .ok (.goto 4, 3) := by decide +kernel
theorem dX7_step_240 : decode cX7_step 240 = .ok (.iconst 0, 1) := by decide +kernel
theorem dX7_step_241 : decode cX7_step 241 = .ok (.putfield 39, 3) := by decide +kernel
theorem dX7_step_244 : decode cX7_step 244 = .ok (.goto 44, 3) := by decide +kernel
theorem dX7_step_247 : decode cX7_step 247 = .ok (.aload_n 0, 1) := by decide +kernel
theorem dX7_step_248 : decode cX7_step 248 = .ok (.aload_n 0, 1) := by decide +kernel
theorem dX7_step_249 : decode cX7_step 249 = .ok (.getfield 9, 3) := by decide +kernel
theorem dX7_step_252 : decode cX7_step 252 = .ok (.iload_n 1, 1) := by decide +kernel
theorem dX7_step_253 : decode cX7_step 253 = .ok (.baload, 1) := by decide +kernel
theorem dX7_step_254 : decode cX7_step 254 = .ok (.ifCond .le 27, 3) := by decide +kernel
theorem dX7_step_257 : decode cX7_step 257 = .ok (.ldc 201, 2) := by decide +kernel
theorem dX7_step_259 : decode cX7_step 259 = .ok (.aload_n 0, 1) := by decide +kernel
theorem dX7_step_260 : decode cX7_step 260 = .ok (.getfield 9, 3) := by decide +kernel
theorem dX7_step_263 : decode cX7_step 263 = .ok (.iload_n 1, 1) := by decide +kernel
theorem dX7_step_264 : decode cX7_step 264 = .ok (.baload, 1) := by decide +kernel
theorem dX7_step_265 : decode cX7_step 265 = .ok (.i2c, 1) := by decide +kernel
theorem dX7_step_266 : decode cX7_step 266 = .ok (.invokevirtual 203, 3) := by decide +kernel
theorem dX7_step_269 : decode cX7_step 269 = .ok (.ifCond .lt 12, 3) := by decide +kernel
theorem dX7_step_272 : decode cX7_step 272 = .ok (.aload_n 0, 1) := by decide +kernel
theorem dX7_step_273 : decode cX7_step 273 = .ok (.getfield 9, 3) := by decide +kernel
theorem dX7_step_276 : decode cX7_step 276 = .ok (.iload_n 1, 1) := by decide +kernel
theorem dX7_step_277 : decode cX7_step 277 = .ok (.baload, 1) := by decide +kernel
theorem dX7_step_278 : decode cX7_step 278 = .ok (.goto 4, 3) := by decide +kernel
theorem dX7_step_281 : decode cX7_step 281 = .ok (.iconst 0, 1) := by decide +kernel
theorem dX7_step_282 : decode cX7_step 282 = .ok (.putfield 39, 3) := by decide +kernel
theorem dX7_step_285 : decode cX7_step 285 = .ok (.iinc 1 1, 3) := by decide +kernel
theorem dX7_step_288 : decode cX7_step 288 = .ok (.aload_n 0, 1) := by decide +kernel
theorem dX7_step_289 : decode cX7_step 289 = .ok (.iload_n 1, 1) := by decide +kernel
theorem dX7_step_290 : decode cX7_step 290 = .ok (.putfield 36, 3) := by decide +kernel
theorem dX7_step_293 : decode cX7_step 293 = .ok (.return_, 1) := by decide +kernel
def hX7_step_247 (f : Nat) (Φ : aj_M → Prop) (q0 : List Nat) (v1 : Int) (m : aj_M) : Prop := (0 ≤ v1 ∧ v1 < 900) ∧ rI (m (0 :: q0) v1.toNat) ∧ ((m (0 :: q0) v1.toNat) ≤ 0 → ∀ m1, m1 = aj_u m q0 7 0 → ∀ m2, m2 = aj_u m1 q0 6 (v1 + 1) → Φ m2) ∧ (¬ ((m (0 :: q0) v1.toNat) ≤ 0) → (0 ≤ v1 ∧ v1 < 900) ∧ wJ0_indexOf_0f7a4 f (fun z1 m3 => rI z1 ∧ (z1 < 0 → ∀ m4, m4 = aj_u m3 q0 7 0 → ∀ m5, m5 = aj_u m4 q0 6 (v1 + 1) → Φ m5) ∧ (¬ (z1 < 0) → (0 ≤ v1 ∧ v1 < 900) ∧ ∀ m6, m6 = aj_u m3 q0 7 (m3 (0 :: q0) v1.toNat) → ∀ m7, m7 = aj_u m6 q0 6 (v1 + 1) → Φ m7)) [101] (aj_ch (m (0 :: q0) v1.toNat)) m)
set_option maxHeartbeats 4000000 in
set_option maxRecDepth 100000 in
theorem tX7_step_247 {X : aj_T} {n f : Nat} {Φ : aj_M → Prop} (C : aj_Cx X cX7_step RX7 2 (n + 5)) (K : aj_Rt X none (fun r m => r = none ∧ Φ m)) (q0 : List Nat) (v1 : Int) (m : aj_M) (hq0 : (.inl (7, q0) : aj_R) ∈ aj_pls) (h : hX7_step_247 f Φ q0 v1 m) : aj_J X 247 [some (vO 7 q0), some (vI v1)] [] m := by
  unfold hX7_step_247 at h
  refine aj_aload_n C dX7_step_247 rfl ?_
  refine aj_aload_n C dX7_step_248 rfl ?_
  refine aj_getA (x := 2) (y := 900) C flX7_9 hq0 rfl dX7_step_249 ?_
  refine aj_iload_n C dX7_step_252 rfl ?_
  obtain ⟨r0, h⟩ := h
  refine aj_bald C (aj_ca (e := 2) (n := 900) (j := 0) hq0 (by decide) rfl) (by decide) r0 dX7_step_253 rfl ?_
  obtain ⟨r0, h1, h2⟩ := h
  refine aj_if_le (tgt := 281) C dX7_step_254 (by decide) r0 (fun e => ?_) (fun e => ?_)
  · have h := h1 e
    refine aj_iconst C dX7_step_281 ?_
    refine aj_putI C fpX7_39 hq0 rfl dX7_step_282 ?_
    refine aj_nm (fun m1 e1 => ?_)
    have h := h m1 e1
    refine aj_iinc (lv' := [some (vO 7 q0), some (vI (v1 + 1))]) C dX7_step_285 rfl (by decide) rfl ?_
    refine aj_aload_n C dX7_step_288 rfl ?_
    refine aj_iload_n C dX7_step_289 rfl ?_
    refine aj_putI C fpX7_36 hq0 rfl dX7_step_290 ?_
    refine aj_nm (fun m2 e1 => ?_)
    have h := h m2 e1
    exact aj_vret C K dX7_step_293 ⟨rfl, h⟩
  · have h := h2 e
    refine aj_ldcS (q := [101]) C (fun E U h => h.2.2.1) dX7_step_257 ?_
    refine aj_aload_n C dX7_step_259 rfl ?_
    refine aj_getA (x := 2) (y := 900) C flX7_9 hq0 rfl dX7_step_260 ?_
    refine aj_iload_n C dX7_step_263 rfl ?_
    obtain ⟨r0, h⟩ := h
    refine aj_bald C (aj_ca (e := 2) (n := 900) (j := 0) hq0 (by decide) rfl) (by decide) r0 dX7_step_264 rfl ?_
    refine aj_i2c C dX7_step_265 ?_
    refine aj_callW (rest := [vO 7 q0]) C K mwX7_203 rfl (sJ0_indexOf_0f7a4 (⟨1, by decide, rfl⟩ : aj_S [101]) h) (⟨1, by decide, rfl⟩ : aj_S [101]) (aj_np 1 (by decide +kernel) rfl) (Nat.le_of_ble_eq_true rfl) rfl dX7_step_266 (fun r m3 h => ?_)
    obtain ⟨z1, rfl, h⟩ := h
    obtain ⟨r0, h1, h2⟩ := h
    refine aj_if_lt (tgt := 281) C dX7_step_269 (by decide) r0 (fun e => ?_) (fun e => ?_)
    · have h := h1 e
      refine aj_iconst C dX7_step_281 ?_
      refine aj_putI C fpX7_39 hq0 rfl dX7_step_282 ?_
      refine aj_nm (fun m4 e1 => ?_)
      have h := h m4 e1
      refine aj_iinc (lv' := [some (vO 7 q0), some (vI (v1 + 1))]) C dX7_step_285 rfl (by decide) rfl ?_
      refine aj_aload_n C dX7_step_288 rfl ?_
      refine aj_iload_n C dX7_step_289 rfl ?_
      refine aj_putI C fpX7_36 hq0 rfl dX7_step_290 ?_
      refine aj_nm (fun m5 e1 => ?_)
      have h := h m5 e1
      exact aj_vret C K dX7_step_293 ⟨rfl, h⟩
    · have h := h2 e
      refine aj_aload_n C dX7_step_272 rfl ?_
      refine aj_getA (x := 2) (y := 900) C flX7_9 hq0 rfl dX7_step_273 ?_
      refine aj_iload_n C dX7_step_276 rfl ?_
      obtain ⟨r0, h⟩ := h
      refine aj_bald C (aj_ca (e := 2) (n := 900) (j := 0) hq0 (by decide) rfl) (by decide) r0 dX7_step_277 rfl ?_
      refine aj_goto (tgt := 282) C dX7_step_278 (by decide) ?_
      refine aj_putI C fpX7_39 hq0 rfl dX7_step_282 ?_
      refine aj_nm (fun m6 e1 => ?_)
      have h := h m6 e1
      refine aj_iinc (lv' := [some (vO 7 q0), some (vI (v1 + 1))]) C dX7_step_285 rfl (by decide) rfl ?_
      refine aj_aload_n C dX7_step_288 rfl ?_
      refine aj_iload_n C dX7_step_289 rfl ?_
      refine aj_putI C fpX7_36 hq0 rfl dX7_step_290 ?_
      refine aj_nm (fun m7 e1 => ?_)
      have h := h m7 e1
      exact aj_vret C K dX7_step_293 ⟨rfl, h⟩
def hX7_step_225 (f : Nat) (Φ : aj_M → Prop) (q0 : List Nat) (v1 : Int) (m : aj_M) : Prop := rI (v1 - (m q0 5)) ∧ (3 < (v1 - (m q0 5)) → ∀ m1, m1 = aj_u m q0 7 0 → ∀ m2, m2 = aj_u m1 q0 6 v1 → Φ m2) ∧ (¬ (3 < (v1 - (m q0 5))) → ∀ m3, m3 = aj_u m q0 7 2 → ∀ m4, m4 = aj_u m3 q0 6 v1 → Φ m4)
set_option maxHeartbeats 4000000 in
set_option maxRecDepth 100000 in
theorem tX7_step_225 {X : aj_T} {n f : Nat} {Φ : aj_M → Prop} (C : aj_Cx X cX7_step RX7 2 (n + 5)) (K : aj_Rt X none (fun r m => r = none ∧ Φ m)) (q0 : List Nat) (v1 : Int) (m : aj_M) (hq0 : (.inl (7, q0) : aj_R) ∈ aj_pls) (h : hX7_step_225 f Φ q0 v1 m) : aj_J X 225 [some (vO 7 q0), some (vI v1)] [] m := by
  unfold hX7_step_225 at h
  refine aj_aload_n C dX7_step_225 rfl ?_
  refine aj_iload_n C dX7_step_226 rfl ?_
  refine aj_aload_n C dX7_step_227 rfl ?_
  refine aj_getI C flX7_33 hq0 (by decide) dX7_step_228 rfl ?_
  refine aj_isub C dX7_step_231 ?_
  refine aj_iconst C dX7_step_232 ?_
  obtain ⟨r0, h1, h2⟩ := h
  refine aj_icmp_gt (tgt := 240) C dX7_step_233 (by decide) r0 (by decide) (fun e => ?_) (fun e => ?_)
  · have h := h1 e
    refine aj_iconst C dX7_step_240 ?_
    refine aj_putI C fpX7_39 hq0 rfl dX7_step_241 ?_
    refine aj_nm (fun m1 e1 => ?_)
    have h := h m1 e1
    refine aj_goto (tgt := 288) C dX7_step_244 (by decide) ?_
    refine aj_aload_n C dX7_step_288 rfl ?_
    refine aj_iload_n C dX7_step_289 rfl ?_
    refine aj_putI C fpX7_36 hq0 rfl dX7_step_290 ?_
    refine aj_nm (fun m2 e1 => ?_)
    have h := h m2 e1
    exact aj_vret C K dX7_step_293 ⟨rfl, h⟩
  · have h := h2 e
    refine aj_iconst C dX7_step_236 ?_
    refine aj_goto (tgt := 241) C dX7_step_237 (by decide) ?_
    refine aj_putI C fpX7_39 hq0 rfl dX7_step_241 ?_
    refine aj_nm (fun m3 e1 => ?_)
    have h := h m3 e1
    refine aj_goto (tgt := 288) C dX7_step_244 (by decide) ?_
    refine aj_aload_n C dX7_step_288 rfl ?_
    refine aj_iload_n C dX7_step_289 rfl ?_
    refine aj_putI C fpX7_36 hq0 rfl dX7_step_290 ?_
    refine aj_nm (fun m4 e1 => ?_)
    have h := h m4 e1
    exact aj_vret C K dX7_step_293 ⟨rfl, h⟩
def hX7_step_164 (f : Nat) (Φ : aj_M → Prop) : Nat → List Nat → Int → aj_M → Prop
  | 0, _, _, _ => False
  | k + 1, q0, v1, m => rI v1 ∧ rI (m q0 2) ∧ ((m q0 2) ≤ v1 → hX7_step_225 f Φ q0 v1 m) ∧ (¬ ((m q0 2) ≤ v1) → (0 ≤ v1 ∧ v1 < 900) ∧ rI (m (0 :: q0) v1.toNat) ∧ ((m (0 :: q0) v1.toNat) < 48 → hX7_step_225 f Φ q0 v1 m) ∧ (¬ ((m (0 :: q0) v1.toNat) < 48) → (0 ≤ v1 ∧ v1 < 900) ∧ rI (m (0 :: q0) v1.toNat) ∧ (57 < (m (0 :: q0) v1.toNat) → hX7_step_225 f Φ q0 v1 m) ∧ (¬ (57 < (m (0 :: q0) v1.toNat)) → (0 ≤ (m q0 8) ∧ (m q0 8) < 2147483648) ∧ (0 ≤ v1 ∧ v1 < 900) ∧ ∀ m1, m1 = aj_u m q0 8 (((((m q0 8) % 1000) * 10) + (m (0 :: q0) v1.toNat)) - 48) → hX7_step_164 f Φ k q0 (v1 + 1) m1)))
set_option maxHeartbeats 4000000 in
set_option maxRecDepth 100000 in
theorem tX7_step_164 {X : aj_T} {n f : Nat} {Φ : aj_M → Prop} (C : aj_Cx X cX7_step RX7 2 (n + 5)) (K : aj_Rt X none (fun r m => r = none ∧ Φ m)) : ∀ (k : Nat) (q0 : List Nat) (v1 : Int) (m : aj_M) (hq0 : (.inl (7, q0) : aj_R) ∈ aj_pls), hX7_step_164 f Φ k q0 v1 m → aj_J X 164 [some (vO 7 q0), some (vI v1)] [] m := by
  intro k
  induction k with
  | zero =>
    intro q0 v1 m _ h
    exact h.elim
  | succ k ih =>
    intro q0 v1 m hq0 h
    unfold hX7_step_164 at h
    refine aj_iload_n C dX7_step_164 rfl ?_
    refine aj_aload_n C dX7_step_165 rfl ?_
    refine aj_getI C flX7_19 hq0 (by decide) dX7_step_166 rfl ?_
    obtain ⟨r0, r1, h1, h2⟩ := h
    refine aj_icmp_ge (tgt := 225) C dX7_step_169 (by decide) r0 r1 (fun e => ?_) (fun e => ?_)
    · have h := h1 e
      exact tX7_step_225 C K q0 v1 _ hq0 h
    · have h := h2 e
      refine aj_aload_n C dX7_step_172 rfl ?_
      refine aj_getA (x := 2) (y := 900) C flX7_9 hq0 rfl dX7_step_173 ?_
      refine aj_iload_n C dX7_step_176 rfl ?_
      obtain ⟨r0, h⟩ := h
      refine aj_bald C (aj_ca (e := 2) (n := 900) (j := 0) hq0 (by decide) rfl) (by decide) r0 dX7_step_177 rfl ?_
      refine aj_bipush C dX7_step_178 (by decide) ?_
      obtain ⟨r0, h1, h2⟩ := h
      refine aj_icmp_lt (tgt := 225) C dX7_step_180 (by decide) r0 (by decide) (fun e => ?_) (fun e => ?_)
      · have h := h1 e
        exact tX7_step_225 C K q0 v1 _ hq0 h
      · have h := h2 e
        refine aj_aload_n C dX7_step_183 rfl ?_
        refine aj_getA (x := 2) (y := 900) C flX7_9 hq0 rfl dX7_step_184 ?_
        refine aj_iload_n C dX7_step_187 rfl ?_
        obtain ⟨r0, h⟩ := h
        refine aj_bald C (aj_ca (e := 2) (n := 900) (j := 0) hq0 (by decide) rfl) (by decide) r0 dX7_step_188 rfl ?_
        refine aj_bipush C dX7_step_189 (by decide) ?_
        obtain ⟨r0, h1, h2⟩ := h
        refine aj_icmp_gt (tgt := 225) C dX7_step_191 (by decide) r0 (by decide) (fun e => ?_) (fun e => ?_)
        · have h := h1 e
          exact tX7_step_225 C K q0 v1 _ hq0 h
        · have h := h2 e
          refine aj_aload_n C dX7_step_194 rfl ?_
          refine aj_aload_n C dX7_step_195 rfl ?_
          refine aj_getI C flX7_42 hq0 (by decide) dX7_step_196 rfl ?_
          refine aj_sipush C dX7_step_199 (by decide) ?_
          obtain ⟨r0, h⟩ := h
          refine aj_iremN C dX7_step_202 r0 (by decide) ?_
          refine aj_bipush C dX7_step_203 (by decide) ?_
          refine aj_imul C dX7_step_205 ?_
          refine aj_aload_n C dX7_step_206 rfl ?_
          refine aj_getA (x := 2) (y := 900) C flX7_9 hq0 rfl dX7_step_207 ?_
          refine aj_iload_n C dX7_step_210 rfl ?_
          obtain ⟨r0, h⟩ := h
          refine aj_bald C (aj_ca (e := 2) (n := 900) (j := 0) hq0 (by decide) rfl) (by decide) r0 dX7_step_211 rfl ?_
          refine aj_iadd C dX7_step_212 ?_
          refine aj_bipush C dX7_step_213 (by decide) ?_
          refine aj_isub C dX7_step_215 ?_
          refine aj_putI C fpX7_42 hq0 rfl dX7_step_216 ?_
          refine aj_nm (fun m1 e1 => ?_)
          have h := h m1 e1
          refine aj_iinc (lv' := [some (vO 7 q0), some (vI (v1 + 1))]) C dX7_step_219 rfl (by decide) rfl ?_
          refine aj_goto (tgt := 164) C dX7_step_222 (by decide) ?_
          exact ih q0 (v1 + 1) _ hq0 h
def hX7_step_89 (f : Nat) (Φ : aj_M → Prop) : Nat → List Nat → Int → aj_M → Prop
  | 0, _, _, _ => False
  | k + 1, q0, v1, m => rI v1 ∧ rI (m q0 2) ∧ ((m q0 2) ≤ v1 → wX7_wordToken f (fun z1 m1 => ∀ m2, m2 = aj_u m1 q0 7 z1 → ∀ m3, m3 = aj_u m2 q0 6 v1 → Φ m3) q0 (v1 - (m q0 5)) m) ∧ (¬ ((m q0 2) ≤ v1) → (0 ≤ v1 ∧ v1 < 900) ∧ rI (m (0 :: q0) v1.toNat) ∧ ((m (0 :: q0) v1.toNat) < 97 → wX7_wordToken f (fun z2 m4 => ∀ m5, m5 = aj_u m4 q0 7 z2 → ∀ m6, m6 = aj_u m5 q0 6 v1 → Φ m6) q0 (v1 - (m q0 5)) m) ∧ (¬ ((m (0 :: q0) v1.toNat) < 97) → (0 ≤ v1 ∧ v1 < 900) ∧ rI (m (0 :: q0) v1.toNat) ∧ (122 < (m (0 :: q0) v1.toNat) → wX7_wordToken f (fun z3 m7 => ∀ m8, m8 = aj_u m7 q0 7 z3 → ∀ m9, m9 = aj_u m8 q0 6 v1 → Φ m9) q0 (v1 - (m q0 5)) m) ∧ (¬ (122 < (m (0 :: q0) v1.toNat)) → hX7_step_89 f Φ k q0 (v1 + 1) m)))
set_option maxHeartbeats 4000000 in
set_option maxRecDepth 100000 in
theorem tX7_step_89 {X : aj_T} {n f : Nat} {Φ : aj_M → Prop} (C : aj_Cx X cX7_step RX7 2 (n + 5)) (K : aj_Rt X none (fun r m => r = none ∧ Φ m)) : ∀ (k : Nat) (q0 : List Nat) (v1 : Int) (m : aj_M) (hq0 : (.inl (7, q0) : aj_R) ∈ aj_pls), hX7_step_89 f Φ k q0 v1 m → aj_J X 89 [some (vO 7 q0), some (vI v1)] [] m := by
  intro k
  induction k with
  | zero =>
    intro q0 v1 m _ h
    exact h.elim
  | succ k ih =>
    intro q0 v1 m hq0 h
    unfold hX7_step_89 at h
    refine aj_iload_n C dX7_step_89 rfl ?_
    refine aj_aload_n C dX7_step_90 rfl ?_
    refine aj_getI C flX7_19 hq0 (by decide) dX7_step_91 rfl ?_
    obtain ⟨r0, r1, h1, h2⟩ := h
    refine aj_icmp_ge (tgt := 125) C dX7_step_94 (by decide) r0 r1 (fun e => ?_) (fun e => ?_)
    · have h := h1 e
      refine aj_aload_n C dX7_step_125 rfl ?_
      refine aj_aload_n C dX7_step_126 rfl ?_
      refine aj_iload_n C dX7_step_127 rfl ?_
      refine aj_aload_n C dX7_step_128 rfl ?_
      refine aj_getI C flX7_33 hq0 (by decide) dX7_step_129 rfl ?_
      refine aj_isub C dX7_step_132 ?_
      refine aj_callV (rest := [vO 7 q0]) C mvX7_197 (sX7_wordToken hq0 h) hq0 (aj_np 1 (by decide +kernel) rfl) (Nat.le_of_ble_eq_true rfl) rfl dX7_step_133 (fun r m1 h => ?_)
      obtain ⟨z1, rfl, h⟩ := h
      refine aj_putI C fpX7_39 hq0 rfl dX7_step_136 ?_
      refine aj_nm (fun m2 e1 => ?_)
      have h := h m2 e1
      refine aj_goto (tgt := 288) C dX7_step_139 (by decide) ?_
      refine aj_aload_n C dX7_step_288 rfl ?_
      refine aj_iload_n C dX7_step_289 rfl ?_
      refine aj_putI C fpX7_36 hq0 rfl dX7_step_290 ?_
      refine aj_nm (fun m3 e1 => ?_)
      have h := h m3 e1
      exact aj_vret C K dX7_step_293 ⟨rfl, h⟩
    · have h := h2 e
      refine aj_aload_n C dX7_step_97 rfl ?_
      refine aj_getA (x := 2) (y := 900) C flX7_9 hq0 rfl dX7_step_98 ?_
      refine aj_iload_n C dX7_step_101 rfl ?_
      obtain ⟨r0, h⟩ := h
      refine aj_bald C (aj_ca (e := 2) (n := 900) (j := 0) hq0 (by decide) rfl) (by decide) r0 dX7_step_102 rfl ?_
      refine aj_bipush C dX7_step_103 (by decide) ?_
      obtain ⟨r0, h1, h2⟩ := h
      refine aj_icmp_lt (tgt := 125) C dX7_step_105 (by decide) r0 (by decide) (fun e => ?_) (fun e => ?_)
      · have h := h1 e
        refine aj_aload_n C dX7_step_125 rfl ?_
        refine aj_aload_n C dX7_step_126 rfl ?_
        refine aj_iload_n C dX7_step_127 rfl ?_
        refine aj_aload_n C dX7_step_128 rfl ?_
        refine aj_getI C flX7_33 hq0 (by decide) dX7_step_129 rfl ?_
        refine aj_isub C dX7_step_132 ?_
        refine aj_callV (rest := [vO 7 q0]) C mvX7_197 (sX7_wordToken hq0 h) hq0 (aj_np 1 (by decide +kernel) rfl) (Nat.le_of_ble_eq_true rfl) rfl dX7_step_133 (fun r m4 h => ?_)
        obtain ⟨z2, rfl, h⟩ := h
        refine aj_putI C fpX7_39 hq0 rfl dX7_step_136 ?_
        refine aj_nm (fun m5 e1 => ?_)
        have h := h m5 e1
        refine aj_goto (tgt := 288) C dX7_step_139 (by decide) ?_
        refine aj_aload_n C dX7_step_288 rfl ?_
        refine aj_iload_n C dX7_step_289 rfl ?_
        refine aj_putI C fpX7_36 hq0 rfl dX7_step_290 ?_
        refine aj_nm (fun m6 e1 => ?_)
        have h := h m6 e1
        exact aj_vret C K dX7_step_293 ⟨rfl, h⟩
      · have h := h2 e
        refine aj_aload_n C dX7_step_108 rfl ?_
        refine aj_getA (x := 2) (y := 900) C flX7_9 hq0 rfl dX7_step_109 ?_
        refine aj_iload_n C dX7_step_112 rfl ?_
        obtain ⟨r0, h⟩ := h
        refine aj_bald C (aj_ca (e := 2) (n := 900) (j := 0) hq0 (by decide) rfl) (by decide) r0 dX7_step_113 rfl ?_
        refine aj_bipush C dX7_step_114 (by decide) ?_
        obtain ⟨r0, h1, h2⟩ := h
        refine aj_icmp_gt (tgt := 125) C dX7_step_116 (by decide) r0 (by decide) (fun e => ?_) (fun e => ?_)
        · have h := h1 e
          refine aj_aload_n C dX7_step_125 rfl ?_
          refine aj_aload_n C dX7_step_126 rfl ?_
          refine aj_iload_n C dX7_step_127 rfl ?_
          refine aj_aload_n C dX7_step_128 rfl ?_
          refine aj_getI C flX7_33 hq0 (by decide) dX7_step_129 rfl ?_
          refine aj_isub C dX7_step_132 ?_
          refine aj_callV (rest := [vO 7 q0]) C mvX7_197 (sX7_wordToken hq0 h) hq0 (aj_np 1 (by decide +kernel) rfl) (Nat.le_of_ble_eq_true rfl) rfl dX7_step_133 (fun r m7 h => ?_)
          obtain ⟨z3, rfl, h⟩ := h
          refine aj_putI C fpX7_39 hq0 rfl dX7_step_136 ?_
          refine aj_nm (fun m8 e1 => ?_)
          have h := h m8 e1
          refine aj_goto (tgt := 288) C dX7_step_139 (by decide) ?_
          refine aj_aload_n C dX7_step_288 rfl ?_
          refine aj_iload_n C dX7_step_289 rfl ?_
          refine aj_putI C fpX7_36 hq0 rfl dX7_step_290 ?_
          refine aj_nm (fun m9 e1 => ?_)
          have h := h m9 e1
          exact aj_vret C K dX7_step_293 ⟨rfl, h⟩
        · have h := h2 e
          refine aj_iinc (lv' := [some (vO 7 q0), some (vI (v1 + 1))]) C dX7_step_119 rfl (by decide) rfl ?_
          refine aj_goto (tgt := 89) C dX7_step_122 (by decide) ?_
          exact ih q0 (v1 + 1) _ hq0 h
def hX7_step_41 (f : Nat) (Φ : aj_M → Prop) (q0 : List Nat) (v1 : Int) (m : aj_M) : Prop := ∀ m1, m1 = aj_u m q0 5 v1 → ∀ m2, m2 = aj_u m1 q0 8 0 → rI v1 ∧ rI (m2 q0 2) ∧ (v1 < (m2 q0 2) → (0 ≤ v1 ∧ v1 < 900) ∧ rI (m2 (0 :: q0) v1.toNat) ∧ ((m2 (0 :: q0) v1.toNat) < 97 → (0 ≤ v1 ∧ v1 < 900) ∧ rI (m2 (0 :: q0) v1.toNat) ∧ ((m2 (0 :: q0) v1.toNat) < 48 → hX7_step_247 f Φ q0 v1 m2) ∧ (¬ ((m2 (0 :: q0) v1.toNat) < 48) → (0 ≤ v1 ∧ v1 < 900) ∧ rI (m2 (0 :: q0) v1.toNat) ∧ (57 < (m2 (0 :: q0) v1.toNat) → hX7_step_247 f Φ q0 v1 m2) ∧ (¬ (57 < (m2 (0 :: q0) v1.toNat)) → hX7_step_164 f Φ f q0 v1 m2))) ∧ (¬ ((m2 (0 :: q0) v1.toNat) < 97) → (0 ≤ v1 ∧ v1 < 900) ∧ rI (m2 (0 :: q0) v1.toNat) ∧ (122 < (m2 (0 :: q0) v1.toNat) → (0 ≤ v1 ∧ v1 < 900) ∧ rI (m2 (0 :: q0) v1.toNat) ∧ ((m2 (0 :: q0) v1.toNat) < 48 → hX7_step_247 f Φ q0 v1 m2) ∧ (¬ ((m2 (0 :: q0) v1.toNat) < 48) → (0 ≤ v1 ∧ v1 < 900) ∧ rI (m2 (0 :: q0) v1.toNat) ∧ (57 < (m2 (0 :: q0) v1.toNat) → hX7_step_247 f Φ q0 v1 m2) ∧ (¬ (57 < (m2 (0 :: q0) v1.toNat)) → hX7_step_164 f Φ f q0 v1 m2))) ∧ (¬ (122 < (m2 (0 :: q0) v1.toNat)) → hX7_step_89 f Φ f q0 v1 m2))) ∧ (¬ (v1 < (m2 q0 2)) → ∀ m3, m3 = aj_u m2 q0 7 1 → ∀ m4, m4 = aj_u m3 q0 6 v1 → Φ m4)
set_option maxHeartbeats 4000000 in
set_option maxRecDepth 100000 in
theorem tX7_step_41 {X : aj_T} {n f : Nat} {Φ : aj_M → Prop} (C : aj_Cx X cX7_step RX7 2 (n + 5)) (K : aj_Rt X none (fun r m => r = none ∧ Φ m)) (q0 : List Nat) (v1 : Int) (m : aj_M) (hq0 : (.inl (7, q0) : aj_R) ∈ aj_pls) (h : hX7_step_41 f Φ q0 v1 m) : aj_J X 41 [some (vO 7 q0), some (vI v1)] [] m := by
  unfold hX7_step_41 at h
  refine aj_aload_n C dX7_step_41 rfl ?_
  refine aj_iload_n C dX7_step_42 rfl ?_
  refine aj_putI C fpX7_33 hq0 rfl dX7_step_43 ?_
  refine aj_nm (fun m1 e1 => ?_)
  have h := h m1 e1
  refine aj_aload_n C dX7_step_46 rfl ?_
  refine aj_iconst C dX7_step_47 ?_
  refine aj_putI C fpX7_42 hq0 rfl dX7_step_48 ?_
  refine aj_nm (fun m2 e1 => ?_)
  have h := h m2 e1
  refine aj_iload_n C dX7_step_51 rfl ?_
  refine aj_aload_n C dX7_step_52 rfl ?_
  refine aj_getI C flX7_19 hq0 (by decide) dX7_step_53 rfl ?_
  obtain ⟨r0, r1, h1, h2⟩ := h
  refine aj_icmp_lt (tgt := 67) C dX7_step_56 (by decide) r0 r1 (fun e => ?_) (fun e => ?_)
  · have h := h1 e
    refine aj_aload_n C dX7_step_67 rfl ?_
    refine aj_getA (x := 2) (y := 900) C flX7_9 hq0 rfl dX7_step_68 ?_
    refine aj_iload_n C dX7_step_71 rfl ?_
    obtain ⟨r0, h⟩ := h
    refine aj_bald C (aj_ca (e := 2) (n := 900) (j := 0) hq0 (by decide) rfl) (by decide) r0 dX7_step_72 rfl ?_
    refine aj_bipush C dX7_step_73 (by decide) ?_
    obtain ⟨r0, h1, h2⟩ := h
    refine aj_icmp_lt (tgt := 142) C dX7_step_75 (by decide) r0 (by decide) (fun e => ?_) (fun e => ?_)
    · have h := h1 e
      refine aj_aload_n C dX7_step_142 rfl ?_
      refine aj_getA (x := 2) (y := 900) C flX7_9 hq0 rfl dX7_step_143 ?_
      refine aj_iload_n C dX7_step_146 rfl ?_
      obtain ⟨r0, h⟩ := h
      refine aj_bald C (aj_ca (e := 2) (n := 900) (j := 0) hq0 (by decide) rfl) (by decide) r0 dX7_step_147 rfl ?_
      refine aj_bipush C dX7_step_148 (by decide) ?_
      obtain ⟨r0, h1, h2⟩ := h
      refine aj_icmp_lt (tgt := 247) C dX7_step_150 (by decide) r0 (by decide) (fun e => ?_) (fun e => ?_)
      · have h := h1 e
        exact tX7_step_247 C K q0 v1 _ hq0 h
      · have h := h2 e
        refine aj_aload_n C dX7_step_153 rfl ?_
        refine aj_getA (x := 2) (y := 900) C flX7_9 hq0 rfl dX7_step_154 ?_
        refine aj_iload_n C dX7_step_157 rfl ?_
        obtain ⟨r0, h⟩ := h
        refine aj_bald C (aj_ca (e := 2) (n := 900) (j := 0) hq0 (by decide) rfl) (by decide) r0 dX7_step_158 rfl ?_
        refine aj_bipush C dX7_step_159 (by decide) ?_
        obtain ⟨r0, h1, h2⟩ := h
        refine aj_icmp_gt (tgt := 247) C dX7_step_161 (by decide) r0 (by decide) (fun e => ?_) (fun e => ?_)
        · have h := h1 e
          exact tX7_step_247 C K q0 v1 _ hq0 h
        · have h := h2 e
          exact tX7_step_164 C K f q0 v1 _ hq0 h
    · have h := h2 e
      refine aj_aload_n C dX7_step_78 rfl ?_
      refine aj_getA (x := 2) (y := 900) C flX7_9 hq0 rfl dX7_step_79 ?_
      refine aj_iload_n C dX7_step_82 rfl ?_
      obtain ⟨r0, h⟩ := h
      refine aj_bald C (aj_ca (e := 2) (n := 900) (j := 0) hq0 (by decide) rfl) (by decide) r0 dX7_step_83 rfl ?_
      refine aj_bipush C dX7_step_84 (by decide) ?_
      obtain ⟨r0, h1, h2⟩ := h
      refine aj_icmp_gt (tgt := 142) C dX7_step_86 (by decide) r0 (by decide) (fun e => ?_) (fun e => ?_)
      · have h := h1 e
        refine aj_aload_n C dX7_step_142 rfl ?_
        refine aj_getA (x := 2) (y := 900) C flX7_9 hq0 rfl dX7_step_143 ?_
        refine aj_iload_n C dX7_step_146 rfl ?_
        obtain ⟨r0, h⟩ := h
        refine aj_bald C (aj_ca (e := 2) (n := 900) (j := 0) hq0 (by decide) rfl) (by decide) r0 dX7_step_147 rfl ?_
        refine aj_bipush C dX7_step_148 (by decide) ?_
        obtain ⟨r0, h1, h2⟩ := h
        refine aj_icmp_lt (tgt := 247) C dX7_step_150 (by decide) r0 (by decide) (fun e => ?_) (fun e => ?_)
        · have h := h1 e
          exact tX7_step_247 C K q0 v1 _ hq0 h
        · have h := h2 e
          refine aj_aload_n C dX7_step_153 rfl ?_
          refine aj_getA (x := 2) (y := 900) C flX7_9 hq0 rfl dX7_step_154 ?_
          refine aj_iload_n C dX7_step_157 rfl ?_
          obtain ⟨r0, h⟩ := h
          refine aj_bald C (aj_ca (e := 2) (n := 900) (j := 0) hq0 (by decide) rfl) (by decide) r0 dX7_step_158 rfl ?_
          refine aj_bipush C dX7_step_159 (by decide) ?_
          obtain ⟨r0, h1, h2⟩ := h
          refine aj_icmp_gt (tgt := 247) C dX7_step_161 (by decide) r0 (by decide) (fun e => ?_) (fun e => ?_)
          · have h := h1 e
            exact tX7_step_247 C K q0 v1 _ hq0 h
          · have h := h2 e
            exact tX7_step_164 C K f q0 v1 _ hq0 h
      · have h := h2 e
        exact tX7_step_89 C K f q0 v1 _ hq0 h
  · have h := h2 e
    refine aj_aload_n C dX7_step_59 rfl ?_
    refine aj_iconst C dX7_step_60 ?_
    refine aj_putI C fpX7_39 hq0 rfl dX7_step_61 ?_
    refine aj_nm (fun m3 e1 => ?_)
    have h := h m3 e1
    refine aj_goto (tgt := 288) C dX7_step_64 (by decide) ?_
    refine aj_aload_n C dX7_step_288 rfl ?_
    refine aj_iload_n C dX7_step_289 rfl ?_
    refine aj_putI C fpX7_36 hq0 rfl dX7_step_290 ?_
    refine aj_nm (fun m4 e1 => ?_)
    have h := h m4 e1
    exact aj_vret C K dX7_step_293 ⟨rfl, h⟩
def hX7_step_5 (f : Nat) (Φ : aj_M → Prop) : Nat → List Nat → Int → aj_M → Prop
  | 0, _, _, _ => False
  | k + 1, q0, v1, m => rI v1 ∧ rI (m q0 2) ∧ ((m q0 2) ≤ v1 → hX7_step_41 f Φ q0 v1 m) ∧ (¬ ((m q0 2) ≤ v1) → (0 ≤ v1 ∧ v1 < 900) ∧ rI (m (0 :: q0) v1.toNat) ∧ ((m (0 :: q0) v1.toNat) = 10 → hX7_step_5 f Φ k q0 (v1 + 1) m) ∧ (¬ ((m (0 :: q0) v1.toNat) = 10) → (0 ≤ v1 ∧ v1 < 900) ∧ rI (m (0 :: q0) v1.toNat) ∧ (¬ (m (0 :: q0) v1.toNat) = 32 → hX7_step_41 f Φ q0 v1 m) ∧ ((m (0 :: q0) v1.toNat) = 32 → hX7_step_5 f Φ k q0 (v1 + 1) m)))
set_option maxHeartbeats 4000000 in
set_option maxRecDepth 100000 in
theorem tX7_step_5 {X : aj_T} {n f : Nat} {Φ : aj_M → Prop} (C : aj_Cx X cX7_step RX7 2 (n + 5)) (K : aj_Rt X none (fun r m => r = none ∧ Φ m)) : ∀ (k : Nat) (q0 : List Nat) (v1 : Int) (m : aj_M) (hq0 : (.inl (7, q0) : aj_R) ∈ aj_pls), hX7_step_5 f Φ k q0 v1 m → aj_J X 5 [some (vO 7 q0), some (vI v1)] [] m := by
  intro k
  induction k with
  | zero =>
    intro q0 v1 m _ h
    exact h.elim
  | succ k ih =>
    intro q0 v1 m hq0 h
    unfold hX7_step_5 at h
    refine aj_iload_n C dX7_step_5 rfl ?_
    refine aj_aload_n C dX7_step_6 rfl ?_
    refine aj_getI C flX7_19 hq0 (by decide) dX7_step_7 rfl ?_
    obtain ⟨r0, r1, h1, h2⟩ := h
    refine aj_icmp_ge (tgt := 41) C dX7_step_10 (by decide) r0 r1 (fun e => ?_) (fun e => ?_)
    · have h := h1 e
      exact tX7_step_41 C K q0 v1 _ hq0 h
    · have h := h2 e
      refine aj_aload_n C dX7_step_13 rfl ?_
      refine aj_getA (x := 2) (y := 900) C flX7_9 hq0 rfl dX7_step_14 ?_
      refine aj_iload_n C dX7_step_17 rfl ?_
      obtain ⟨r0, h⟩ := h
      refine aj_bald C (aj_ca (e := 2) (n := 900) (j := 0) hq0 (by decide) rfl) (by decide) r0 dX7_step_18 rfl ?_
      refine aj_bipush C dX7_step_19 (by decide) ?_
      obtain ⟨r0, h1, h2⟩ := h
      refine aj_icmp_eq (tgt := 35) C dX7_step_21 (by decide) r0 (by decide) (fun e => ?_) (fun e => ?_)
      · have h := h1 e
        refine aj_iinc (lv' := [some (vO 7 q0), some (vI (v1 + 1))]) C dX7_step_35 rfl (by decide) rfl ?_
        refine aj_goto (tgt := 5) C dX7_step_38 (by decide) ?_
        exact ih q0 (v1 + 1) _ hq0 h
      · have h := h2 e
        refine aj_aload_n C dX7_step_24 rfl ?_
        refine aj_getA (x := 2) (y := 900) C flX7_9 hq0 rfl dX7_step_25 ?_
        refine aj_iload_n C dX7_step_28 rfl ?_
        obtain ⟨r0, h⟩ := h
        refine aj_bald C (aj_ca (e := 2) (n := 900) (j := 0) hq0 (by decide) rfl) (by decide) r0 dX7_step_29 rfl ?_
        refine aj_bipush C dX7_step_30 (by decide) ?_
        obtain ⟨r0, h1, h2⟩ := h
        refine aj_icmp_ne (tgt := 41) C dX7_step_32 (by decide) r0 (by decide) (fun e => ?_) (fun e => ?_)
        · have h := h1 e
          exact tX7_step_41 C K q0 v1 _ hq0 h
        · have h := h2 e
          refine aj_iinc (lv' := [some (vO 7 q0), some (vI (v1 + 1))]) C dX7_step_35 rfl (by decide) rfl ?_
          refine aj_goto (tgt := 5) C dX7_step_38 (by decide) ?_
          exact ih q0 (v1 + 1) _ hq0 h
def wX7_step (f : Nat) (Φ : aj_M → Prop) (q0 : List Nat) (m : aj_M) : Prop := hX7_step_5 f Φ f q0 (m q0 6) m
set_option maxHeartbeats 4000000 in
set_option maxRecDepth 100000 in
theorem sX7_step {n f : Nat} {Φ : aj_M → Prop} {q0 : List Nat} {m : aj_M} (hq0 : (.inl (7, q0) : aj_R) ∈ aj_pls) (h : wX7_step f Φ q0 m) : aj_Ct (n + 5) yX7_step cX7_step 2 none [vO 7 q0] m (fun r m => r = none ∧ Φ m) := by
  refine aj_met (lv := [some (vO 7 q0), none]) (by decide +kernel) rfl (Nat.le_of_ble_eq_true rfl) (fun X C K => ?_)
  unfold wX7_step at h
  refine aj_aload_n C dX7_step_0 rfl ?_
  refine aj_getI C flX7_36 hq0 (by decide) dX7_step_1 rfl ?_
  refine aj_istore_n (lv' := [some (vO 7 q0), some (vI (m q0 6))]) C dX7_step_4 (by decide) rfl ?_
  exact tX7_step_5 C K f q0 (m q0 6) _ hq0 h
theorem dX7_faulty_0 : decode cX7_faulty 0 = .ok (.aload_n 0, 1) := by decide +kernel
theorem dX7_faulty_1 : decode cX7_faulty 1 = .ok (.iload_n 1, 1) := by decide +kernel
theorem dX7_faulty_2 : decode cX7_faulty 2 = .ok (.putfield 45, 3) := by decide +kernel
theorem dX7_faulty_5 : decode cX7_faulty 5 = .ok (.aload_n 0, 1) := by decide +kernel
theorem dX7_faulty_6 : decode cX7_faulty 6 = .ok (.aload_n 0, 1) := by decide +kernel
theorem dX7_faulty_7 : decode cX7_faulty 7 = .ok (.getfield 33, 3) := by decide +kernel
theorem dX7_faulty_10 : decode cX7_faulty 10 = .ok (.putfield 48, 3) := by decide +kernel
theorem dX7_faulty_13 : decode cX7_faulty 13 = .ok (.iconst 0, 1) := by decide +kernel
theorem dX7_faulty_14 : decode cX7_faulty 14 = .ok (.ireturn, 1) := by decide +kernel
def wX7_faulty (f : Nat) (Φ : Int → aj_M → Prop) (q0 : List Nat) (v1 : Int) (m : aj_M) : Prop := ∀ m1, m1 = aj_u m q0 9 v1 → ∀ m2, m2 = aj_u m1 q0 10 (m1 q0 5) → Φ 0 m2
set_option maxHeartbeats 4000000 in
set_option maxRecDepth 100000 in
theorem sX7_faulty {n f : Nat} {Φ : Int → aj_M → Prop} {q0 : List Nat} {v1 : Int} {m : aj_M} (hq0 : (.inl (7, q0) : aj_R) ∈ aj_pls) (h : wX7_faulty f Φ q0 v1 m) : aj_Ct n yX7_faulty cX7_faulty 2 (some .boolean) [vO 7 q0, vI v1] m (fun r m => ∃ z, r = some (vI z) ∧ Φ z m) := by
  refine aj_met (lv := [some (vO 7 q0), some (vI v1)]) (by decide +kernel) rfl (Nat.le_of_ble_eq_true rfl) (fun X C K => ?_)
  unfold wX7_faulty at h
  refine aj_aload_n C dX7_faulty_0 rfl ?_
  refine aj_iload_n C dX7_faulty_1 rfl ?_
  refine aj_putI C fpX7_45 hq0 rfl dX7_faulty_2 ?_
  refine aj_nm (fun m1 e1 => ?_)
  have h := h m1 e1
  refine aj_aload_n C dX7_faulty_5 rfl ?_
  refine aj_aload_n C dX7_faulty_6 rfl ?_
  refine aj_getI C flX7_33 hq0 (by decide) dX7_faulty_7 rfl ?_
  refine aj_putI C fpX7_48 hq0 rfl dX7_faulty_10 ?_
  refine aj_nm (fun m2 e1 => ?_)
  have h := h m2 e1
  refine aj_iconst C dX7_faulty_13 ?_
  exact aj_zret C K (Or.inl rfl) dX7_faulty_14 ⟨_, rfl, h⟩
theorem dX7_cantStand_0 : decode cX7_cantStand 0 = .ok (.aload_n 0, 1) := by decide +kernel
theorem dX7_cantStand_1 : decode cX7_cantStand 1 = .ok (.aload_n 0, 1) := by decide +kernel
theorem dX7_cantStand_2 : decode cX7_cantStand 2 = .ok (.getfield 39, 3) := by decide +kernel
theorem dX7_cantStand_5 : decode cX7_cantStand 5 = .ok (.ifCond .ne 7, 3) := by decide +kernel
theorem dX7_cantStand_8 : decode cX7_cantStand 8 = .ok (.iconst 1, 1) := by decide +kernel
theorem dX7_cantStand_9 : decode cX7_cantStand 9 = .ok (.goto 4, 3) := by decide +kernel
theorem dX7_cantStand_12 : decode cX7_cantStand 12 = .ok (.iconst 2, 1) := by decide +kernel
theorem dX7_cantStand_13 : decode cX7_cantStand 13 = .ok (.invokevirtual 130, 3) := by decide +kernel
theorem dX7_cantStand_16 : decode cX7_cantStand 16 = .ok (.ireturn, 1) := by decide +kernel
def wX7_cantStand (f : Nat) (Φ : Int → aj_M → Prop) (q0 : List Nat) (m : aj_M) : Prop := rI (m q0 7) ∧ (¬ (m q0 7) = 0 → wX7_faulty f (fun z1 m1 => (z1 = 0 ∨ z1 = 1) ∧ Φ z1 m1) q0 2 m) ∧ ((m q0 7) = 0 → wX7_faulty f (fun z2 m2 => (z2 = 0 ∨ z2 = 1) ∧ Φ z2 m2) q0 1 m)
set_option maxHeartbeats 4000000 in
set_option maxRecDepth 100000 in
theorem sX7_cantStand {n f : Nat} {Φ : Int → aj_M → Prop} {q0 : List Nat} {m : aj_M} (hq0 : (.inl (7, q0) : aj_R) ∈ aj_pls) (h : wX7_cantStand f Φ q0 m) : aj_Ct (n + 1) yX7_cantStand cX7_cantStand 1 (some .boolean) [vO 7 q0] m (fun r m => ∃ z, r = some (vI z) ∧ Φ z m) := by
  refine aj_met (lv := [some (vO 7 q0)]) (by decide +kernel) rfl (Nat.le_of_ble_eq_true rfl) (fun X C K => ?_)
  unfold wX7_cantStand at h
  refine aj_aload_n C dX7_cantStand_0 rfl ?_
  refine aj_aload_n C dX7_cantStand_1 rfl ?_
  refine aj_getI C flX7_39 hq0 (by decide) dX7_cantStand_2 rfl ?_
  obtain ⟨r0, h1, h2⟩ := h
  refine aj_if_ne (tgt := 12) C dX7_cantStand_5 (by decide) r0 (fun e => ?_) (fun e => ?_)
  · have h := h1 e
    refine aj_iconst C dX7_cantStand_12 ?_
    refine aj_callV (rest := []) C mvX7_130 (sX7_faulty hq0 h) hq0 (aj_np 1 (by decide +kernel) rfl) (Nat.le_of_ble_eq_true rfl) rfl dX7_cantStand_13 (fun r m1 h => ?_)
    obtain ⟨z1, rfl, h⟩ := h
    exact aj_zret C K h.1 dX7_cantStand_16 ⟨_, rfl, h.2⟩
  · have h := h2 e
    refine aj_iconst C dX7_cantStand_8 ?_
    refine aj_goto (tgt := 13) C dX7_cantStand_9 (by decide) ?_
    refine aj_callV (rest := []) C mvX7_130 (sX7_faulty hq0 h) hq0 (aj_np 1 (by decide +kernel) rfl) (Nat.le_of_ble_eq_true rfl) rfl dX7_cantStand_13 (fun r m2 h => ?_)
    obtain ⟨z2, rfl, h⟩ := h
    exact aj_zret C K h.1 dX7_cantStand_16 ⟨_, rfl, h.2⟩
theorem dX7_take_0 : decode cX7_take 0 = .ok (.aload_n 0, 1) := by decide +kernel
theorem dX7_take_1 : decode cX7_take 1 = .ok (.getfield 39, 3) := by decide +kernel
theorem dX7_take_4 : decode cX7_take 4 = .ok (.iload_n 1, 1) := by decide +kernel
theorem dX7_take_5 : decode cX7_take 5 = .ok (.if_icmp .eq 8, 3) := by decide +kernel
theorem dX7_take_8 : decode cX7_take 8 = .ok (.aload_n 0, 1) := by decide +kernel
theorem dX7_take_9 : decode cX7_take 9 = .ok (.invokevirtual 86, 3) := by decide +kernel
theorem dX7_take_12 : decode cX7_take 12 = .ok (.ireturn, 1) := by decide +kernel
theorem dX7_take_13 : decode cX7_take 13 = .ok (.aload_n 0, 1) := by decide +kernel
theorem dX7_take_14 : decode cX7_take 14 = .ok (.invokevirtual 60, 3) := by decide +kernel
theorem dX7_take_17 : decode cX7_take 17 = .ok (.iconst 1, 1) := by decide +kernel
theorem dX7_take_18 : decode cX7_take 18 = .ok (.ireturn, 1) := by decide +kernel
def wX7_take (f : Nat) (Φ : Int → aj_M → Prop) (q0 : List Nat) (v1 : Int) (m : aj_M) : Prop := rI (m q0 7) ∧ rI v1 ∧ ((m q0 7) = v1 → wX7_step f (fun m1 => Φ 1 m1) q0 m) ∧ (¬ ((m q0 7) = v1) → wX7_cantStand f (fun z2 m2 => (z2 = 0 ∨ z2 = 1) ∧ Φ z2 m2) q0 m)
set_option maxHeartbeats 4000000 in
set_option maxRecDepth 100000 in
theorem sX7_take {n f : Nat} {Φ : Int → aj_M → Prop} {q0 : List Nat} {v1 : Int} {m : aj_M} (hq0 : (.inl (7, q0) : aj_R) ∈ aj_pls) (h : wX7_take f Φ q0 v1 m) : aj_Ct (n + 6) yX7_take cX7_take 2 (some .boolean) [vO 7 q0, vI v1] m (fun r m => ∃ z, r = some (vI z) ∧ Φ z m) := by
  refine aj_met (lv := [some (vO 7 q0), some (vI v1)]) (by decide +kernel) rfl (Nat.le_of_ble_eq_true rfl) (fun X C K => ?_)
  unfold wX7_take at h
  refine aj_aload_n C dX7_take_0 rfl ?_
  refine aj_getI C flX7_39 hq0 (by decide) dX7_take_1 rfl ?_
  refine aj_iload_n C dX7_take_4 rfl ?_
  obtain ⟨r0, r1, h1, h2⟩ := h
  refine aj_icmp_eq (tgt := 13) C dX7_take_5 (by decide) r0 r1 (fun e => ?_) (fun e => ?_)
  · have h := h1 e
    refine aj_aload_n C dX7_take_13 rfl ?_
    refine aj_callV (rest := []) C mvX7_60 (sX7_step hq0 h) hq0 (aj_np 0 (by decide +kernel) rfl) (Nat.le_of_ble_eq_true rfl) rfl dX7_take_14 (fun r m1 h => ?_)
    obtain ⟨rfl, h⟩ := h
    refine aj_iconst C dX7_take_17 ?_
    exact aj_zret C K (Or.inr rfl) dX7_take_18 ⟨_, rfl, h⟩
  · have h := h2 e
    refine aj_aload_n C dX7_take_8 rfl ?_
    refine aj_callV (rest := []) C mvX7_86 (sX7_cantStand hq0 h) hq0 (aj_np 0 (by decide +kernel) rfl) (Nat.le_of_ble_eq_true rfl) rfl dX7_take_9 (fun r m2 h => ?_)
    obtain ⟨z2, rfl, h⟩ := h
    exact aj_zret C K h.1 dX7_take_12 ⟨_, rfl, h.2⟩
