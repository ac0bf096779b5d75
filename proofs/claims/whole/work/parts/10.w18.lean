theorem dX12_gathered_0 : decode cX12_gathered 0 = .ok (.iconst 0, 1) := by decide +kernel
theorem dX12_gathered_1 : decode cX12_gathered 1 = .ok (.istore_n 2, 1) := by decide +kernel
theorem dX12_gathered_2 : decode cX12_gathered 2 = .ok (.iconst 0, 1) := by decide +kernel
theorem dX12_gathered_3 : decode cX12_gathered 3 = .ok (.istore_n 3, 1) := by decide +kernel
theorem dX12_gathered_4 : decode cX12_gathered 4 = .ok (.iload_n 3, 1) := by decide +kernel
theorem dX12_gathered_5 : decode cX12_gathered 5 = .ok (.aload_n 0, 1) := by decide +kernel
theorem dX12_gathered_6 : decode cX12_gathered 6 = .ok (.getfield 81, 3) := by decide +kernel
theorem dX12_gathered_9 : decode cX12_gathered 9 = .ok (.iload_n 1, 1) := by decide +kernel
theorem dX12_gathered_10 : decode cX12_gathered 10 = .ok (.iaload, 1) := by decide +kernel
theorem dX12_gathered_11 : decode cX12_gathered 11 = .ok (.if_icmp .ge 55, 3) := by decide +kernel
theorem dX12_gathered_14 : decode cX12_gathered 14 = .ok (.aload_n 0, 1) := by decide +kernel
theorem dX12_gathered_15 : decode cX12_gathered 15 = .ok (.iload_n 1, 1) := by decide +kernel
theorem dX12_gathered_16 : decode cX12_gathered 16 = .ok (.iload_n 3, 1) := by decide +kernel
theorem dX12_gathered_17 : decode cX12_gathered 17 = .ok (.invokevirtual 404, 3) := by decide +kernel
theorem dX12_gathered_20 : decode cX12_gathered 20 = .ok (.istore 4, 2) := by decide +kernel
theorem dX12_gathered_22 : decode cX12_gathered 22 = .ok (.aload_n 0, 1) := by decide +kernel
theorem dX12_gathered_23 : decode cX12_gathered 23 = .ok (.getfield 13, 3) := by decide +kernel
theorem dX12_gathered_26 : decode cX12_gathered 26 = .ok (.bipush 49, 2) := by decide +kernel
theorem dX12_gathered_28 : decode cX12_gathered 28 = .ok (.iload 4, 2) := by decide +kernel
theorem dX12_gathered_30 : decode cX12_gathered 30 = .ok (.iconst 2, 1) := by decide +kernel
theorem dX12_gathered_31 : decode cX12_gathered 31 = .ok (.idiv, 1) := by decide +kernel
theorem dX12_gathered_32 : decode cX12_gathered 32 = .ok (.iadd, 1) := by decide +kernel
theorem dX12_gathered_33 : decode cX12_gathered 33 = .ok (.iaload, 1) := by decide +kernel
theorem dX12_gathered_34 : decode cX12_gathered 34 = .ok (.istore 5, 2) := by decide +kernel
theorem dX12_gathered_36 : decode cX12_gathered 36 = .ok (.aload_n 0, 1) := by decide +kernel
theorem dX12_gathered_37 : decode cX12_gathered 37 = .ok (.iload_n 2, 1) := by decide +kernel
theorem dX12_gathered_38 : decode cX12_gathered 38 = .ok (.iload 4, 2) := by decide +kernel
theorem dX12_gathered_40 : decode cX12_gathered 40 = .ok (.iconst 2, 1) := by decide +kernel
theorem dX12_gathered_41 : decode cX12_gathered 41 = .ok (.irem, 1) := by decide +kernel
theorem dX12_gathered_42 : decode cX12_gathered 42 = .ok (.ifCond .ne 8, 3) := by decide +kernel
theorem dX12_gathered_45 : decode cX12_gathered 45 = .ok (.iload 5, 2) := by decide +kernel
theorem dX12_gathered_47 : decode cX12_gathered 47 = .ok (.goto 9, 3) := by decide +kernel
theorem dX12_gathered_50 : decode cX12_gathered 50 = .ok (.aload_n 0, 1) := by decide +kernel
theorem dX12_gathered_51 : decode cX12_gathered 51 = .ok (.iload 5, 2) := by decide +kernel
theorem dX12_gathered_53 : decode cX12_gathered 53 = .ok (.invokevirtual 209, 3) := by decide +kernel
theorem dX12_gathered_56 : decode cX12_gathered 56 = .ok (.invokevirtual 202, 3) := by decide +kernel
theorem dX12_gathered_59 : decode cX12_gathered 59 = .ok (.istore_n 2, 1) := by decide +kernel
theorem dX12_gathered_60 : decode cX12_gathered 60 = .ok (.iinc 3 1, 3) := by decide +kernel
theorem dX12_gathered_63 : decode cX12_gathered 63 = .ok (.goto (-59), 3) := by decide +kernel
theorem dX12_gathered_66 : decode cX12_gathered 66 = .ok (.iload_n 2, 1) := by decide +kernel
theorem dX12_gathered_67 : decode cX12_gathered 67 = .ok (.ireturn, 1) := by decide +kernel
def hX12_gathered_4 (f : Nat) (Φ : Int → aj_M → Prop) : Nat → List Nat → Int → Int → Int → aj_M → Prop
  | 0, _, _, _, _, _ => False
  | k + 1, q0, v1, v2, v3, m => (0 ≤ v1 ∧ v1 < 4) ∧ rI v3 ∧ rI (m (45 :: q0) v1.toNat) ∧ ((m (45 :: q0) v1.toNat) ≤ v3 → Φ v2 m) ∧ (¬ ((m (45 :: q0) v1.toNat) ≤ v3) → wX12_stepAt f (fun z1 m1 => (0 ≤ z1 ∧ z1 < 2147483648) ∧ (0 ≤ (49 + (z1 / 2)) ∧ (49 + (z1 / 2)) < 3315) ∧ (0 ≤ z1 ∧ z1 < 2147483648) ∧ rI (z1 % 2) ∧ (¬ (z1 % 2) = 0 → wX12_inverseOf f (fun z2 m2 => wX12_timesNow f (fun z3 m3 => hX12_gathered_4 f Φ k q0 v1 z3 (v3 + 1) m3) q0 v2 z2 m2) q0 (m1 (1 :: q0) (49 + (z1 / 2)).toNat) m1) ∧ ((z1 % 2) = 0 → wX12_timesNow f (fun z4 m4 => hX12_gathered_4 f Φ k q0 v1 z4 (v3 + 1) m4) q0 v2 (m1 (1 :: q0) (49 + (z1 / 2)).toNat) m1)) q0 v1 v3 m)
set_option maxHeartbeats 4000000 in
set_option maxRecDepth 100000 in
theorem tX12_gathered_4 {X : aj_T} {n f : Nat} {Φ : Int → aj_M → Prop} (C : aj_Cx X cX12_gathered RX12 6 (n + 5)) (K : aj_Rt X (some .int) (fun r m => ∃ z, r = some (vI z) ∧ Φ z m)) : ∀ (k : Nat) (q0 : List Nat) (v1 : Int) (v2 : Int) (v3 : Int) (m : aj_M) (hq0 : (.inl (12, q0) : aj_R) ∈ aj_pls), hX12_gathered_4 f Φ k q0 v1 v2 v3 m → aj_J X 4 [some (vO 12 q0), some (vI v1), some (vI v2), some (vI v3), none, none] [] m := by
  intro k
  induction k with
  | zero =>
    intro q0 v1 v2 v3 m _ h
    exact h.elim
  | succ k ih =>
    intro q0 v1 v2 v3 m hq0 h
    unfold hX12_gathered_4 at h
    refine aj_iload_n C dX12_gathered_4 rfl ?_
    refine aj_aload_n C dX12_gathered_5 rfl ?_
    refine aj_getA (x := 0) (y := 4) C flX12_81 hq0 rfl dX12_gathered_6 ?_
    refine aj_iload_n C dX12_gathered_9 rfl ?_
    obtain ⟨r0, h⟩ := h
    refine aj_iald C (aj_ca (e := 0) (n := 4) (j := 45) hq0 (by decide) rfl) (by decide) r0 dX12_gathered_10 rfl ?_
    obtain ⟨r0, r1, h1, h2⟩ := h
    refine aj_icmp_ge (tgt := 66) C dX12_gathered_11 (by decide) r0 r1 (fun e => ?_) (fun e => ?_)
    · have h := h1 e
      refine aj_iload_n C dX12_gathered_66 rfl ?_
      exact aj_iret C K dX12_gathered_67 ⟨_, rfl, h⟩
    · have h := h2 e
      refine aj_aload_n C dX12_gathered_14 rfl ?_
      refine aj_iload_n C dX12_gathered_15 rfl ?_
      refine aj_iload_n C dX12_gathered_16 rfl ?_
      refine aj_callV (rest := []) C mvX12_404 (sX12_stepAt hq0 h) hq0 (aj_np 2 (by decide +kernel) rfl) (Nat.le_of_ble_eq_true rfl) rfl dX12_gathered_17 (fun r m1 h => ?_)
      obtain ⟨z1, rfl, h⟩ := h
      refine aj_istore (lv' := [some (vO 12 q0), some (vI v1), some (vI v2), some (vI v3), some (vI z1), none]) C dX12_gathered_20 (by decide) rfl ?_
      refine aj_aload_n C dX12_gathered_22 rfl ?_
      refine aj_getA (x := 0) (y := 3315) C flX12_13 hq0 rfl dX12_gathered_23 ?_
      refine aj_bipush C dX12_gathered_26 (by decide) ?_
      refine aj_iload C dX12_gathered_28 rfl ?_
      refine aj_iconst C dX12_gathered_30 ?_
      obtain ⟨r0, h⟩ := h
      refine aj_idivN C dX12_gathered_31 r0 (by decide) ?_
      refine aj_iadd C dX12_gathered_32 ?_
      obtain ⟨r0, h⟩ := h
      refine aj_iald C (aj_ca (e := 0) (n := 3315) (j := 1) hq0 (by decide) rfl) (by decide) r0 dX12_gathered_33 rfl ?_
      refine aj_istore (lv' := [some (vO 12 q0), some (vI v1), some (vI v2), some (vI v3), some (vI z1), some (vI (m1 (1 :: q0) (49 + (z1 / 2)).toNat))]) C dX12_gathered_34 (by decide) rfl ?_
      refine aj_aload_n C dX12_gathered_36 rfl ?_
      refine aj_iload_n C dX12_gathered_37 rfl ?_
      refine aj_iload C dX12_gathered_38 rfl ?_
      refine aj_iconst C dX12_gathered_40 ?_
      obtain ⟨r0, h⟩ := h
      refine aj_iremN C dX12_gathered_41 r0 (by decide) ?_
      obtain ⟨r0, h1, h2⟩ := h
      refine aj_if_ne (tgt := 50) C dX12_gathered_42 (by decide) r0 (fun e => ?_) (fun e => ?_)
      · have h := h1 e
        refine aj_aload_n C dX12_gathered_50 rfl ?_
        refine aj_iload C dX12_gathered_51 rfl ?_
        refine aj_callV (rest := [vI v2, vO 12 q0]) C mvX12_209 (sX12_inverseOf hq0 h) hq0 (aj_np 1 (by decide +kernel) rfl) (Nat.le_of_ble_eq_true rfl) rfl dX12_gathered_53 (fun r m2 h => ?_)
        obtain ⟨z2, rfl, h⟩ := h
        refine aj_callV (rest := []) C mvX12_202 (sX12_timesNow hq0 h) hq0 (aj_np 2 (by decide +kernel) rfl) (Nat.le_of_ble_eq_true rfl) rfl dX12_gathered_56 (fun r m3 h => ?_)
        obtain ⟨z3, rfl, h⟩ := h
        refine aj_istore_n (lv' := [some (vO 12 q0), some (vI v1), some (vI z3), some (vI v3), some (vI z1), some (vI (m1 (1 :: q0) (49 + (z1 / 2)).toNat))]) C dX12_gathered_59 (by decide) rfl ?_
        refine aj_iinc (lv' := [some (vO 12 q0), some (vI v1), some (vI z3), some (vI (v3 + 1)), some (vI z1), some (vI (m1 (1 :: q0) (49 + (z1 / 2)).toNat))]) C dX12_gathered_60 rfl (by decide) rfl ?_
        refine aj_goto (tgt := 4) C dX12_gathered_63 (by decide) ?_
        refine aj_wk (lv' := [some (vO 12 q0), some (vI v1), some (vI z3), some (vI (v3 + 1)), none, none]) (⟨rfl, ⟨rfl, ⟨rfl, ⟨rfl, trivial⟩⟩⟩⟩) ?_
        exact ih q0 v1 z3 (v3 + 1) _ hq0 h
      · have h := h2 e
        refine aj_iload C dX12_gathered_45 rfl ?_
        refine aj_goto (tgt := 56) C dX12_gathered_47 (by decide) ?_
        refine aj_callV (rest := []) C mvX12_202 (sX12_timesNow hq0 h) hq0 (aj_np 2 (by decide +kernel) rfl) (Nat.le_of_ble_eq_true rfl) rfl dX12_gathered_56 (fun r m4 h => ?_)
        obtain ⟨z4, rfl, h⟩ := h
        refine aj_istore_n (lv' := [some (vO 12 q0), some (vI v1), some (vI z4), some (vI v3), some (vI z1), some (vI (m1 (1 :: q0) (49 + (z1 / 2)).toNat))]) C dX12_gathered_59 (by decide) rfl ?_
        refine aj_iinc (lv' := [some (vO 12 q0), some (vI v1), some (vI z4), some (vI (v3 + 1)), some (vI z1), some (vI (m1 (1 :: q0) (49 + (z1 / 2)).toNat))]) C dX12_gathered_60 rfl (by decide) rfl ?_
        refine aj_goto (tgt := 4) C dX12_gathered_63 (by decide) ?_
        refine aj_wk (lv' := [some (vO 12 q0), some (vI v1), some (vI z4), some (vI (v3 + 1)), none, none]) (⟨rfl, ⟨rfl, ⟨rfl, ⟨rfl, trivial⟩⟩⟩⟩) ?_
        exact ih q0 v1 z4 (v3 + 1) _ hq0 h
def wX12_gathered (f : Nat) (Φ : Int → aj_M → Prop) (q0 : List Nat) (v1 : Int) (m : aj_M) : Prop := hX12_gathered_4 f Φ f q0 v1 0 0 m
set_option maxHeartbeats 4000000 in
set_option maxRecDepth 100000 in
theorem sX12_gathered {n f : Nat} {Φ : Int → aj_M → Prop} {q0 : List Nat} {v1 : Int} {m : aj_M} (hq0 : (.inl (12, q0) : aj_R) ∈ aj_pls) (h : wX12_gathered f Φ q0 v1 m) : aj_Ct (n + 5) yX12_gathered cX12_gathered 6 (some .int) [vO 12 q0, vI v1] m (fun r m => ∃ z, r = some (vI z) ∧ Φ z m) := by
  refine aj_met (lv := [some (vO 12 q0), some (vI v1), none, none, none, none]) (by decide +kernel) rfl (Nat.le_of_ble_eq_true rfl) (fun X C K => ?_)
  unfold wX12_gathered at h
  refine aj_iconst C dX12_gathered_0 ?_
  refine aj_istore_n (lv' := [some (vO 12 q0), some (vI v1), some (vI 0), none, none, none]) C dX12_gathered_1 (by decide) rfl ?_
  refine aj_iconst C dX12_gathered_2 ?_
  refine aj_istore_n (lv' := [some (vO 12 q0), some (vI v1), some (vI 0), some (vI 0), none, none]) C dX12_gathered_3 (by decide) rfl ?_
  exact tX12_gathered_4 C K f q0 v1 0 0 _ hq0 h
theorem dX12_walk_0 : decode cX12_walk 0 = .ok (.aload_n 0, 1) := by decide +kernel
theorem dX12_walk_1 : decode cX12_walk 1 = .ok (.iconst 0, 1) := by decide +kernel
theorem dX12_walk_2 : decode cX12_walk 2 = .ok (.putfield 1, 3) := by decide +kernel
theorem dX12_walk_5 : decode cX12_walk 5 = .ok (.aload_n 0, 1) := by decide +kernel
theorem dX12_walk_6 : decode cX12_walk 6 = .ok (.iload_n 1, 1) := by decide +kernel
theorem dX12_walk_7 : decode cX12_walk 7 = .ok (.invokevirtual 413, 3) := by decide +kernel
theorem dX12_walk_10 : decode cX12_walk 10 = .ok (.istore_n 2, 1) := by decide +kernel
theorem dX12_walk_11 : decode cX12_walk 11 = .ok (.iload_n 2, 1) := by decide +kernel
theorem dX12_walk_12 : decode cX12_walk 12 = .ok (.ifCond .eq 7, 3) := by decide +kernel
theorem dX12_walk_15 : decode cX12_walk 15 = .ok (.iload_n 2, 1) := by decide +kernel
theorem dX12_walk_16 : decode cX12_walk 16 = .ok (.goto 8, 3) := by decide +kernel
theorem dX12_walk_19 : decode cX12_walk 19 = .ok (.aload_n 0, 1) := by decide +kernel
theorem dX12_walk_20 : decode cX12_walk 20 = .ok (.iload_n 1, 1) := by decide +kernel
theorem dX12_walk_21 : decode cX12_walk 21 = .ok (.invokevirtual 416, 3) := by decide +kernel
theorem dX12_walk_24 : decode cX12_walk 24 = .ok (.ireturn, 1) := by decide +kernel
def wX12_walk (f : Nat) (Φ : Int → aj_M → Prop) (q0 : List Nat) (v1 : Int) (m : aj_M) : Prop := ∀ m1, m1 = aj_u m q0 0 0 → wX12_noWalk f (fun z1 m2 => rI z1 ∧ (z1 = 0 → wX12_gathered f (fun z2 m3 => Φ z2 m3) q0 v1 m2) ∧ (¬ (z1 = 0) → Φ z1 m2)) q0 v1 m1
set_option maxHeartbeats 4000000 in
set_option maxRecDepth 100000 in
theorem sX12_walk {n f : Nat} {Φ : Int → aj_M → Prop} {q0 : List Nat} {v1 : Int} {m : aj_M} (hq0 : (.inl (12, q0) : aj_R) ∈ aj_pls) (h : wX12_walk f Φ q0 v1 m) : aj_Ct (n + 6) yX12_walk cX12_walk 3 (some .int) [vO 12 q0, vI v1] m (fun r m => ∃ z, r = some (vI z) ∧ Φ z m) := by
  refine aj_met (lv := [some (vO 12 q0), some (vI v1), none]) (by decide +kernel) rfl (Nat.le_of_ble_eq_true rfl) (fun X C K => ?_)
  unfold wX12_walk at h
  refine aj_aload_n C dX12_walk_0 rfl ?_
  refine aj_iconst C dX12_walk_1 ?_
  refine aj_putI C fpX12_1 hq0 rfl dX12_walk_2 ?_
  refine aj_nm (fun m1 e1 => ?_)
  have h := h m1 e1
  refine aj_aload_n C dX12_walk_5 rfl ?_
  refine aj_iload_n C dX12_walk_6 rfl ?_
  refine aj_callV (rest := []) C mvX12_413 (sX12_noWalk hq0 h) hq0 (aj_np 1 (by decide +kernel) rfl) (Nat.le_of_ble_eq_true rfl) rfl dX12_walk_7 (fun r m2 h => ?_)
  obtain ⟨z1, rfl, h⟩ := h
  refine aj_istore_n (lv' := [some (vO 12 q0), some (vI v1), some (vI z1)]) C dX12_walk_10 (by decide) rfl ?_
  refine aj_iload_n C dX12_walk_11 rfl ?_
  obtain ⟨r0, h1, h2⟩ := h
  refine aj_if_eq (tgt := 19) C dX12_walk_12 (by decide) r0 (fun e => ?_) (fun e => ?_)
  · have h := h1 e
    refine aj_aload_n C dX12_walk_19 rfl ?_
    refine aj_iload_n C dX12_walk_20 rfl ?_
    refine aj_callV (rest := []) C mvX12_416 (sX12_gathered hq0 h) hq0 (aj_np 1 (by decide +kernel) rfl) (Nat.le_of_ble_eq_true rfl) rfl dX12_walk_21 (fun r m3 h => ?_)
    obtain ⟨z2, rfl, h⟩ := h
    exact aj_iret C K dX12_walk_24 ⟨_, rfl, h⟩
  · have h := h2 e
    refine aj_iload_n C dX12_walk_15 rfl ?_
    refine aj_goto (tgt := 24) C dX12_walk_16 (by decide) ?_
    exact aj_iret C K dX12_walk_24 ⟨_, rfl, h⟩
theorem dX12_lifted_0 : decode cX12_lifted 0 = .ok (.aload_n 0, 1) := by decide +kernel
theorem dX12_lifted_1 : decode cX12_lifted 1 = .ok (.iconst 0, 1) := by decide +kernel
theorem dX12_lifted_2 : decode cX12_lifted 2 = .ok (.putfield 1, 3) := by decide +kernel
theorem dX12_lifted_5 : decode cX12_lifted 5 = .ok (.aload_n 0, 1) := by decide +kernel
theorem dX12_lifted_6 : decode cX12_lifted 6 = .ok (.iload_n 1, 1) := by decide +kernel
theorem dX12_lifted_7 : decode cX12_lifted 7 = .ok (.invokevirtual 413, 3) := by decide +kernel
theorem dX12_lifted_10 : decode cX12_lifted 10 = .ok (.istore_n 2, 1) := by decide +kernel
theorem dX12_lifted_11 : decode cX12_lifted 11 = .ok (.iload_n 2, 1) := by decide +kernel
theorem dX12_lifted_12 : decode cX12_lifted 12 = .ok (.ifCond .eq 5, 3) := by decide +kernel
theorem dX12_lifted_15 : decode cX12_lifted 15 = .ok (.iload_n 2, 1) := by decide +kernel
theorem dX12_lifted_16 : decode cX12_lifted 16 = .ok (.ireturn, 1) := by decide +kernel
theorem dX12_lifted_17 : decode cX12_lifted 17 = .ok (.aload_n 0, 1) := by decide +kernel
theorem dX12_lifted_18 : decode cX12_lifted 18 = .ok (.getfield 81, 3) := by decide +kernel
theorem dX12_lifted_21 : decode cX12_lifted 21 = .ok (.iload_n 1, 1) := by decide +kernel
theorem dX12_lifted_22 : decode cX12_lifted 22 = .ok (.iaload, 1) := by decide +kernel
theorem dX12_lifted_23 : decode cX12_lifted 23 = .ok (.istore_n 3, 1) := by decide +kernel
theorem dX12_lifted_24 : decode cX12_lifted 24 = .ok (.aload_n 0, 1) := by decide +kernel
theorem dX12_lifted_25 : decode cX12_lifted 25 = .ok (.aload_n 0, 1) := by decide +kernel
theorem dX12_lifted_26 : decode cX12_lifted 26 = .ok (.iload_n 1, 1) := by decide +kernel
theorem dX12_lifted_27 : decode cX12_lifted 27 = .ok (.iload_n 3, 1) := by decide +kernel
theorem dX12_lifted_28 : decode cX12_lifted 28 = .ok (.iconst 1, 1) := by decide +kernel
theorem dX12_lifted_29 : decode cX12_lifted 29 = .ok (.isub, 1) := by decide +kernel
theorem dX12_lifted_30 : decode cX12_lifted 30 = .ok (.invokevirtual 404, 3) := by decide +kernel
theorem dX12_lifted_33 : decode cX12_lifted 33 = .ok (.invokevirtual 407, 3) := by decide +kernel
theorem dX12_lifted_36 : decode cX12_lifted 36 = .ok (.aload_n 0, 1) := by decide +kernel
theorem dX12_lifted_37 : decode cX12_lifted 37 = .ok (.aload_n 0, 1) := by decide +kernel
theorem dX12_lifted_38 : decode cX12_lifted 38 = .ok (.iload_n 1, 1) := by decide +kernel
theorem dX12_lifted_39 : decode cX12_lifted 39 = .ok (.iconst 0, 1) := by decide +kernel
theorem dX12_lifted_40 : decode cX12_lifted 40 = .ok (.invokevirtual 404, 3) := by decide +kernel
theorem dX12_lifted_43 : decode cX12_lifted 43 = .ok (.invokevirtual 410, 3) := by decide +kernel
theorem dX12_lifted_46 : decode cX12_lifted 46 = .ok (.if_icmp .ne 20, 3) := by decide +kernel
theorem dX12_lifted_49 : decode cX12_lifted 49 = .ok (.iload_n 3, 1) := by decide +kernel
theorem dX12_lifted_50 : decode cX12_lifted 50 = .ok (.aload_n 0, 1) := by decide +kernel
theorem dX12_lifted_51 : decode cX12_lifted 51 = .ok (.getfield 13, 3) := by decide +kernel
theorem dX12_lifted_54 : decode cX12_lifted 54 = .ok (.aload_n 0, 1) := by decide +kernel
theorem dX12_lifted_55 : decode cX12_lifted 55 = .ok (.iload_n 1, 1) := by decide +kernel
theorem dX12_lifted_56 : decode cX12_lifted 56 = .ok (.invokevirtual 416, 3) := by decide +kernel
theorem dX12_lifted_59 : decode cX12_lifted 59 = .ok (.invokestatic 212, 3) := by decide +kernel
theorem dX12_lifted_62 : decode cX12_lifted 62 = .ok (.imul, 1) := by decide +kernel
theorem dX12_lifted_63 : decode cX12_lifted 63 = .ok (.goto 4, 3) := by decide +kernel
theorem dX12_lifted_66 : decode cX12_lifted 66 = .ok (.iconst (-1), 1) := by decide +kernel
theorem dX12_lifted_67 : decode cX12_lifted 67 = .ok (.ireturn, 1) := by decide +kernel
def wX12_lifted (f : Nat) (Φ : Int → aj_M → Prop) (q0 : List Nat) (v1 : Int) (m : aj_M) : Prop := ∀ m1, m1 = aj_u m q0 0 0 → wX12_noWalk f (fun z1 m2 => rI z1 ∧ (z1 = 0 → (0 ≤ v1 ∧ v1 < 4) ∧ wX12_stepAt f (fun z2 m3 => wX12_endOf f (fun z3 m4 => wX12_stepAt f (fun z4 m5 => wX12_beginOf f (fun z5 m6 => rI z3 ∧ rI z5 ∧ (¬ z3 = z5 → Φ (-1) m6) ∧ (z3 = z5 → wX12_gathered f (fun z6 m7 => wX12_ordersOf f (fun z7 m8 => Φ ((m2 (45 :: q0) v1.toNat) * z7) m8) 3315 (1 :: q0) z6 m7) q0 v1 m6)) q0 z4 m5) q0 v1 0 m4) q0 z2 m3) q0 v1 ((m2 (45 :: q0) v1.toNat) - 1) m2) ∧ (¬ (z1 = 0) → Φ z1 m2)) q0 v1 m1
set_option maxHeartbeats 4000000 in
set_option maxRecDepth 100000 in
theorem sX12_lifted {n f : Nat} {Φ : Int → aj_M → Prop} {q0 : List Nat} {v1 : Int} {m : aj_M} (hq0 : (.inl (12, q0) : aj_R) ∈ aj_pls) (h : wX12_lifted f Φ q0 v1 m) : aj_Ct (n + 6) yX12_lifted cX12_lifted 4 (some .int) [vO 12 q0, vI v1] m (fun r m => ∃ z, r = some (vI z) ∧ Φ z m) := by
  refine aj_met (lv := [some (vO 12 q0), some (vI v1), none, none]) (by decide +kernel) rfl (Nat.le_of_ble_eq_true rfl) (fun X C K => ?_)
  unfold wX12_lifted at h
  refine aj_aload_n C dX12_lifted_0 rfl ?_
  refine aj_iconst C dX12_lifted_1 ?_
  refine aj_putI C fpX12_1 hq0 rfl dX12_lifted_2 ?_
  refine aj_nm (fun m1 e1 => ?_)
  have h := h m1 e1
  refine aj_aload_n C dX12_lifted_5 rfl ?_
  refine aj_iload_n C dX12_lifted_6 rfl ?_
  refine aj_callV (rest := []) C mvX12_413 (sX12_noWalk hq0 h) hq0 (aj_np 1 (by decide +kernel) rfl) (Nat.le_of_ble_eq_true rfl) rfl dX12_lifted_7 (fun r m2 h => ?_)
  obtain ⟨z1, rfl, h⟩ := h
  refine aj_istore_n (lv' := [some (vO 12 q0), some (vI v1), some (vI z1), none]) C dX12_lifted_10 (by decide) rfl ?_
  refine aj_iload_n C dX12_lifted_11 rfl ?_
  obtain ⟨r0, h1, h2⟩ := h
  refine aj_if_eq (tgt := 17) C dX12_lifted_12 (by decide) r0 (fun e => ?_) (fun e => ?_)
  · have h := h1 e
    refine aj_aload_n C dX12_lifted_17 rfl ?_
    refine aj_getA (x := 0) (y := 4) C flX12_81 hq0 rfl dX12_lifted_18 ?_
    refine aj_iload_n C dX12_lifted_21 rfl ?_
    obtain ⟨r0, h⟩ := h
    refine aj_iald C (aj_ca (e := 0) (n := 4) (j := 45) hq0 (by decide) rfl) (by decide) r0 dX12_lifted_22 rfl ?_
    refine aj_istore_n (lv' := [some (vO 12 q0), some (vI v1), some (vI z1), some (vI (m2 (45 :: q0) v1.toNat))]) C dX12_lifted_23 (by decide) rfl ?_
    refine aj_aload_n C dX12_lifted_24 rfl ?_
    refine aj_aload_n C dX12_lifted_25 rfl ?_
    refine aj_iload_n C dX12_lifted_26 rfl ?_
    refine aj_iload_n C dX12_lifted_27 rfl ?_
    refine aj_iconst C dX12_lifted_28 ?_
    refine aj_isub C dX12_lifted_29 ?_
    refine aj_callV (rest := [vO 12 q0]) C mvX12_404 (sX12_stepAt hq0 h) hq0 (aj_np 2 (by decide +kernel) rfl) (Nat.le_of_ble_eq_true rfl) rfl dX12_lifted_30 (fun r m3 h => ?_)
    obtain ⟨z2, rfl, h⟩ := h
    refine aj_callV (rest := []) C mvX12_407 (sX12_endOf hq0 h) hq0 (aj_np 1 (by decide +kernel) rfl) (Nat.le_of_ble_eq_true rfl) rfl dX12_lifted_33 (fun r m4 h => ?_)
    obtain ⟨z3, rfl, h⟩ := h
    refine aj_aload_n C dX12_lifted_36 rfl ?_
    refine aj_aload_n C dX12_lifted_37 rfl ?_
    refine aj_iload_n C dX12_lifted_38 rfl ?_
    refine aj_iconst C dX12_lifted_39 ?_
    refine aj_callV (rest := [vO 12 q0, vI z3]) C mvX12_404 (sX12_stepAt hq0 h) hq0 (aj_np 2 (by decide +kernel) rfl) (Nat.le_of_ble_eq_true rfl) rfl dX12_lifted_40 (fun r m5 h => ?_)
    obtain ⟨z4, rfl, h⟩ := h
    refine aj_callV (rest := [vI z3]) C mvX12_410 (sX12_beginOf hq0 h) hq0 (aj_np 1 (by decide +kernel) rfl) (Nat.le_of_ble_eq_true rfl) rfl dX12_lifted_43 (fun r m6 h => ?_)
    obtain ⟨z5, rfl, h⟩ := h
    obtain ⟨r0, r1, h1, h2⟩ := h
    refine aj_icmp_ne (tgt := 66) C dX12_lifted_46 (by decide) r0 r1 (fun e => ?_) (fun e => ?_)
    · have h := h1 e
      refine aj_iconst C dX12_lifted_66 ?_
      exact aj_iret C K dX12_lifted_67 ⟨_, rfl, h⟩
    · have h := h2 e
      refine aj_iload_n C dX12_lifted_49 rfl ?_
      refine aj_aload_n C dX12_lifted_50 rfl ?_
      refine aj_getA (x := 0) (y := 3315) C flX12_13 hq0 rfl dX12_lifted_51 ?_
      refine aj_aload_n C dX12_lifted_54 rfl ?_
      refine aj_iload_n C dX12_lifted_55 rfl ?_
      refine aj_callV (rest := [vA 0 3315 (1 :: q0), vI (m2 (45 :: q0) v1.toNat)]) C mvX12_416 (sX12_gathered hq0 h) hq0 (aj_np 1 (by decide +kernel) rfl) (Nat.le_of_ble_eq_true rfl) rfl dX12_lifted_56 (fun r m7 h => ?_)
      obtain ⟨z6, rfl, h⟩ := h
      refine aj_callS (rest := [vI (m2 (45 :: q0) v1.toNat)]) C msX12_212 (sX12_ordersOf (aj_ca (e := 0) (n := 3315) (j := 1) hq0 (by decide) rfl) (by decide) h) (aj_np 2 (by decide +kernel) rfl) (Nat.le_of_ble_eq_true rfl) rfl dX12_lifted_59 (fun r m8 h => ?_)
      obtain ⟨z7, rfl, h⟩ := h
      refine aj_imul C dX12_lifted_62 ?_
      refine aj_goto (tgt := 67) C dX12_lifted_63 (by decide) ?_
      exact aj_iret C K dX12_lifted_67 ⟨_, rfl, h⟩
  · have h := h2 e
    refine aj_iload_n C dX12_lifted_15 rfl ?_
    exact aj_iret C K dX12_lifted_16 ⟨_, rfl, h⟩
theorem dX12_laysTune_0 : decode cX12_laysTune 0 = .ok (.aload_n 0, 1) := by decide +kernel
theorem dX12_laysTune_1 : decode cX12_laysTune 1 = .ok (.getfield 13, 3) := by decide +kernel
theorem dX12_laysTune_4 : decode cX12_laysTune 4 = .ok (.bipush 49, 2) := by decide +kernel
theorem dX12_laysTune_6 : decode cX12_laysTune 6 = .ok (.iload_n 1, 1) := by decide +kernel
theorem dX12_laysTune_7 : decode cX12_laysTune 7 = .ok (.iadd, 1) := by decide +kernel
theorem dX12_laysTune_8 : decode cX12_laysTune 8 = .ok (.iaload, 1) := by decide +kernel
theorem dX12_laysTune_9 : decode cX12_laysTune 9 = .ok (.istore_n 2, 1) := by decide +kernel
theorem dX12_laysTune_10 : decode cX12_laysTune 10 = .ok (.iconst (-1), 1) := by decide +kernel
theorem dX12_laysTune_11 : decode cX12_laysTune 11 = .ok (.istore_n 3, 1) := by decide +kernel
theorem dX12_laysTune_12 : decode cX12_laysTune 12 = .ok (.aload_n 0, 1) := by decide +kernel
theorem dX12_laysTune_13 : decode cX12_laysTune 13 = .ok (.iconst (-1), 1) := by decide +kernel
theorem dX12_laysTune_14 : decode cX12_laysTune 14 = .ok (.putfield 419, 3) := by decide +kernel
theorem dX12_laysTune_17 : decode cX12_laysTune 17 = .ok (.iconst 0, 1) := by decide +kernel
theorem dX12_laysTune_18 : decode cX12_laysTune 18 = .ok (.istore 4, 2) := by decide +kernel
theorem dX12_laysTune_20 : decode cX12_laysTune 20 = .ok (.iload 4, 2) := by decide +kernel
theorem dX12_laysTune_22 : decode cX12_laysTune 22 = .ok (.aload_n 0, 1) := by decide +kernel
theorem dX12_laysTune_23 : decode cX12_laysTune 23 = .ok (.getfield 13, 3) := by decide +kernel
theorem dX12_laysTune_26 : decode cX12_laysTune 26 = .ok (.iconst 4, 1) := by decide +kernel
theorem dX12_laysTune_27 : decode cX12_laysTune 27 = .ok (.iaload, 1) := by decide +kernel
theorem dX12_laysTune_28 : decode cX12_laysTune 28 = .ok (.if_icmp .ge 66, 3) := by decide +kernel
theorem dX12_laysTune_31 : decode cX12_laysTune 31 = .ok (.aload_n 0, 1) := by decide +kernel
theorem dX12_laysTune_32 : decode cX12_laysTune 32 = .ok (.iload_n 1, 1) := by decide +kernel
theorem dX12_laysTune_33 : decode cX12_laysTune 33 = .ok (.i2l, 1) := by decide +kernel
theorem dX12_laysTune_34 : decode cX12_laysTune 34 = .ok (.iload 4, 2) := by decide +kernel
theorem dX12_laysTune_36 : decode cX12_laysTune 36 = .ok (.i2l, 1) := by decide +kernel
theorem dX12_laysTune_37 : decode cX12_laysTune 37 = .ok (.invokevirtual 294, 3) := by decide +kernel
theorem dX12_laysTune_40 : decode cX12_laysTune 40 = .ok (.ifCond .eq 6, 3) := by decide +kernel
theorem dX12_laysTune_43 : decode cX12_laysTune 43 = .ok (.goto 45, 3) := by decide +kernel
theorem dX12_laysTune_46 : decode cX12_laysTune 46 = .ok (.aload_n 0, 1) := by decide +kernel
theorem dX12_laysTune_47 : decode cX12_laysTune 47 = .ok (.getfield 13, 3) := by decide +kernel
theorem dX12_laysTune_50 : decode cX12_laysTune 50 = .ok (.bipush 49, 2) := by decide +kernel
theorem dX12_laysTune_52 : decode cX12_laysTune 52 = .ok (.iload_n 1, 1) := by decide +kernel
theorem dX12_laysTune_53 : decode cX12_laysTune 53 = .ok (.iadd, 1) := by decide +kernel
theorem dX12_laysTune_54 : decode cX12_laysTune 54 = .ok (.iload 4, 2) := by decide +kernel
theorem dX12_laysTune_56 : decode cX12_laysTune 56 = .ok (.iastore, 1) := by decide +kernel
theorem dX12_laysTune_57 : decode cX12_laysTune 57 = .ok (.aload_n 0, 1) := by decide +kernel
theorem dX12_laysTune_58 : decode cX12_laysTune 58 = .ok (.invokevirtual 336, 3) := by decide +kernel
theorem dX12_laysTune_61 : decode cX12_laysTune 61 = .ok (.aload_n 0, 1) := by decide +kernel
theorem dX12_laysTune_62 : decode cX12_laysTune 62 = .ok (.invokevirtual 342, 3) := by decide +kernel
theorem dX12_laysTune_65 : decode cX12_laysTune 65 = .ok (.istore 5, 2) := by decide +kernel
theorem dX12_laysTune_67 : decode cX12_laysTune 67 = .ok (.iload 5, 2) := by decide +kernel
theorem dX12_laysTune_69 : decode cX12_laysTune 69 = .ok (.aload_n 0, 1) := by decide +kernel
theorem dX12_laysTune_70 : decode cX12_laysTune 70 = .ok (.getfield 419, 3) := by decide +kernel
theorem dX12_laysTune_73 : decode cX12_laysTune 73 = .ok (.if_icmp .gt 6, 3) := by decide +kernel
theorem dX12_laysTune_76 : decode cX12_laysTune 76 = .ok (.goto 12, 3) := by decide +kernel
theorem dX12_laysTune_79 : decode cX12_laysTune 79 = .ok (.iload 4, 2) := by decide +kernel
theorem dX12_laysTune_81 : decode cX12_laysTune 81 = .ok (.istore_n 3, 1) := by decide +kernel
theorem dX12_laysTune_82 : decode cX12_laysTune 82 = .ok (.aload_n 0, 1) := by decide +kernel
theorem dX12_laysTune_83 : decode cX12_laysTune 83 = .ok (.iload 5, 2) := by decide +kernel
theorem dX12_laysTune_85 : decode cX12_laysTune 85 = .ok (.putfield 419, 3) := by decide +kernel
theorem dX12_laysTune_88 : decode cX12_laysTune 88 = .ok (.iinc 4 1, 3) := by decide +kernel
theorem dX12_laysTune_91 : decode cX12_laysTune 91 = .ok (.goto (-71), 3) := by decide +kernel
theorem dX12_laysTune_94 : decode cX12_laysTune 94 = .ok (.aload_n 0, 1) := by decide +kernel
theorem dX12_laysTune_95 : decode cX12_laysTune 95 = .ok (.getfield 13, 3) := by decide +kernel
theorem dX12_laysTune_98 : decode cX12_laysTune 98 = .ok (.bipush 49, 2) := by decide +kernel
theorem dX12_laysTune_100 : decode cX12_laysTune 100 = .ok (.iload_n 1, 1) := by decide +kernel
theorem dX12_laysTune_101 : decode cX12_laysTune 101 = .ok (.iadd, 1) := by decide +kernel
theorem dX12_laysTune_102 : decode cX12_laysTune 102 = .ok (.iload_n 2, 1) := by decide +kernel
theorem dX12_laysTune_103 : decode cX12_laysTune 103 = .ok (.iastore, 1) := by decide +kernel
theorem dX12_laysTune_104 : decode cX12_laysTune 104 = .ok (.iload_n 3, 1) := by decide +kernel
theorem dX12_laysTune_105 : decode cX12_laysTune 105 = .ok (.ireturn, 1) := by decide +kernel
def hX12_laysTune_20 (f : Nat) (Φ : Int → aj_M → Prop) : Nat → List Nat → Int → Int → Int → Int → aj_M → Prop
  | 0, _, _, _, _, _, _ => False
  | k + 1, q0, v1, v2, v3, v4, m => rI v4 ∧ rI (m (1 :: q0) (4 : Int).toNat) ∧ ((m (1 :: q0) (4 : Int).toNat) ≤ v4 → (0 ≤ (49 + v1) ∧ (49 + v1) < 3315) ∧ ∀ m1, m1 = aj_u m (1 :: q0) (49 + v1).toNat v2 → Φ v3 m1) ∧ (¬ ((m (1 :: q0) (4 : Int).toNat) ≤ v4) → rI v1 ∧ rI v4 ∧ wX12_whyTurn f (fun z1 m2 => rI z1 ∧ (z1 = 0 → (0 ≤ (49 + v1) ∧ (49 + v1) < 3315) ∧ ∀ m3, m3 = aj_u m2 (1 :: q0) (49 + v1).toNat v4 → wX12_laysNet f (fun m4 => wX12_girthNow f (fun z3 m5 => rI z3 ∧ rI (m5 q0 33) ∧ ((m5 q0 33) < z3 → ∀ m6, m6 = aj_u m5 q0 33 z3 → hX12_laysTune_20 f Φ k q0 v1 v2 v4 (v4 + 1) m6) ∧ (¬ ((m5 q0 33) < z3) → hX12_laysTune_20 f Φ k q0 v1 v2 v3 (v4 + 1) m5)) q0 m4) q0 m3) ∧ (¬ (z1 = 0) → hX12_laysTune_20 f Φ k q0 v1 v2 v3 (v4 + 1) m2)) q0 v1 v4 m)
set_option maxHeartbeats 4000000 in
set_option maxRecDepth 100000 in
theorem tX12_laysTune_20 {X : aj_T} {n f : Nat} {Φ : Int → aj_M → Prop} (C : aj_Cx X cX12_laysTune RX12 6 (n + 6)) (K : aj_Rt X (some .int) (fun r m => ∃ z, r = some (vI z) ∧ Φ z m)) : ∀ (k : Nat) (q0 : List Nat) (v1 : Int) (v2 : Int) (v3 : Int) (v4 : Int) (m : aj_M) (hq0 : (.inl (12, q0) : aj_R) ∈ aj_pls), hX12_laysTune_20 f Φ k q0 v1 v2 v3 v4 m → aj_J X 20 [some (vO 12 q0), some (vI v1), some (vI v2), some (vI v3), some (vI v4), none] [] m := by
  intro k
  induction k with
  | zero =>
    intro q0 v1 v2 v3 v4 m _ h
    exact h.elim
  | succ k ih =>
    intro q0 v1 v2 v3 v4 m hq0 h
    unfold hX12_laysTune_20 at h
    refine aj_iload C dX12_laysTune_20 rfl ?_
    refine aj_aload_n C dX12_laysTune_22 rfl ?_
    refine aj_getA (x := 0) (y := 3315) C flX12_13 hq0 rfl dX12_laysTune_23 ?_
    refine aj_iconst C dX12_laysTune_26 ?_
    refine aj_iald C (aj_ca (e := 0) (n := 3315) (j := 1) hq0 (by decide) rfl) (by decide) (by decide) dX12_laysTune_27 rfl ?_
    obtain ⟨r0, r1, h1, h2⟩ := h
    refine aj_icmp_ge (tgt := 94) C dX12_laysTune_28 (by decide) r0 r1 (fun e => ?_) (fun e => ?_)
    · have h := h1 e
      refine aj_aload_n C dX12_laysTune_94 rfl ?_
      refine aj_getA (x := 0) (y := 3315) C flX12_13 hq0 rfl dX12_laysTune_95 ?_
      refine aj_bipush C dX12_laysTune_98 (by decide) ?_
      refine aj_iload_n C dX12_laysTune_100 rfl ?_
      refine aj_iadd C dX12_laysTune_101 ?_
      refine aj_iload_n C dX12_laysTune_102 rfl ?_
      obtain ⟨r0, h⟩ := h
      refine aj_iast C (aj_ca (e := 0) (n := 3315) (j := 1) hq0 (by decide) rfl) (by decide) r0 dX12_laysTune_103 ?_
      refine aj_nm (fun m1 e1 => ?_)
      have h := h m1 e1
      refine aj_iload_n C dX12_laysTune_104 rfl ?_
      exact aj_iret C K dX12_laysTune_105 ⟨_, rfl, h⟩
    · have h := h2 e
      refine aj_aload_n C dX12_laysTune_31 rfl ?_
      refine aj_iload_n C dX12_laysTune_32 rfl ?_
      obtain ⟨r0, h⟩ := h
      refine aj_i2l C dX12_laysTune_33 r0 ?_
      refine aj_iload C dX12_laysTune_34 rfl ?_
      obtain ⟨r0, h⟩ := h
      refine aj_i2l C dX12_laysTune_36 r0 ?_
      refine aj_callV (rest := []) C mvX12_294 (sX12_whyTurn hq0 h) hq0 (aj_np 2 (by decide +kernel) rfl) (Nat.le_of_ble_eq_true rfl) rfl dX12_laysTune_37 (fun r m2 h => ?_)
      obtain ⟨z1, rfl, h⟩ := h
      obtain ⟨r0, h1, h2⟩ := h
      refine aj_if_eq (tgt := 46) C dX12_laysTune_40 (by decide) r0 (fun e => ?_) (fun e => ?_)
      · have h := h1 e
        refine aj_aload_n C dX12_laysTune_46 rfl ?_
        refine aj_getA (x := 0) (y := 3315) C flX12_13 hq0 rfl dX12_laysTune_47 ?_
        refine aj_bipush C dX12_laysTune_50 (by decide) ?_
        refine aj_iload_n C dX12_laysTune_52 rfl ?_
        refine aj_iadd C dX12_laysTune_53 ?_
        refine aj_iload C dX12_laysTune_54 rfl ?_
        obtain ⟨r0, h⟩ := h
        refine aj_iast C (aj_ca (e := 0) (n := 3315) (j := 1) hq0 (by decide) rfl) (by decide) r0 dX12_laysTune_56 ?_
        refine aj_nm (fun m3 e1 => ?_)
        have h := h m3 e1
        refine aj_aload_n C dX12_laysTune_57 rfl ?_
        refine aj_callV (rest := []) C mvX12_336 (sX12_laysNet hq0 h) hq0 (aj_np 0 (by decide +kernel) rfl) (Nat.le_of_ble_eq_true rfl) rfl dX12_laysTune_58 (fun r m4 h => ?_)
        obtain ⟨rfl, h⟩ := h
        refine aj_aload_n C dX12_laysTune_61 rfl ?_
        refine aj_callV (rest := []) C mvX12_342 (sX12_girthNow hq0 h) hq0 (aj_np 0 (by decide +kernel) rfl) (Nat.le_of_ble_eq_true rfl) rfl dX12_laysTune_62 (fun r m5 h => ?_)
        obtain ⟨z3, rfl, h⟩ := h
        refine aj_istore (lv' := [some (vO 12 q0), some (vI v1), some (vI v2), some (vI v3), some (vI v4), some (vI z3)]) C dX12_laysTune_65 (by decide) rfl ?_
        refine aj_iload C dX12_laysTune_67 rfl ?_
        refine aj_aload_n C dX12_laysTune_69 rfl ?_
        refine aj_getI C flX12_419 hq0 (by decide) dX12_laysTune_70 rfl ?_
        obtain ⟨r0, r1, h1, h2⟩ := h
        refine aj_icmp_gt (tgt := 79) C dX12_laysTune_73 (by decide) r0 r1 (fun e => ?_) (fun e => ?_)
        · have h := h1 e
          refine aj_iload C dX12_laysTune_79 rfl ?_
          refine aj_istore_n (lv' := [some (vO 12 q0), some (vI v1), some (vI v2), some (vI v4), some (vI v4), some (vI z3)]) C dX12_laysTune_81 (by decide) rfl ?_
          refine aj_aload_n C dX12_laysTune_82 rfl ?_
          refine aj_iload C dX12_laysTune_83 rfl ?_
          refine aj_putI C fpX12_419 hq0 rfl dX12_laysTune_85 ?_
          refine aj_nm (fun m6 e1 => ?_)
          have h := h m6 e1
          refine aj_iinc (lv' := [some (vO 12 q0), some (vI v1), some (vI v2), some (vI v4), some (vI (v4 + 1)), some (vI z3)]) C dX12_laysTune_88 rfl (by decide) rfl ?_
          refine aj_goto (tgt := 20) C dX12_laysTune_91 (by decide) ?_
          refine aj_wk (lv' := [some (vO 12 q0), some (vI v1), some (vI v2), some (vI v4), some (vI (v4 + 1)), none]) (⟨rfl, ⟨rfl, ⟨rfl, ⟨rfl, ⟨rfl, trivial⟩⟩⟩⟩⟩) ?_
          exact ih q0 v1 v2 v4 (v4 + 1) _ hq0 h
        · have h := h2 e
          refine aj_goto (tgt := 88) C dX12_laysTune_76 (by decide) ?_
          refine aj_iinc (lv' := [some (vO 12 q0), some (vI v1), some (vI v2), some (vI v3), some (vI (v4 + 1)), some (vI z3)]) C dX12_laysTune_88 rfl (by decide) rfl ?_
          refine aj_goto (tgt := 20) C dX12_laysTune_91 (by decide) ?_
          refine aj_wk (lv' := [some (vO 12 q0), some (vI v1), some (vI v2), some (vI v3), some (vI (v4 + 1)), none]) (⟨rfl, ⟨rfl, ⟨rfl, ⟨rfl, ⟨rfl, trivial⟩⟩⟩⟩⟩) ?_
          exact ih q0 v1 v2 v3 (v4 + 1) _ hq0 h
      · have h := h2 e
        refine aj_goto (tgt := 88) C dX12_laysTune_43 (by decide) ?_
        refine aj_iinc (lv' := [some (vO 12 q0), some (vI v1), some (vI v2), some (vI v3), some (vI (v4 + 1)), none]) C dX12_laysTune_88 rfl (by decide) rfl ?_
        refine aj_goto (tgt := 20) C dX12_laysTune_91 (by decide) ?_
        exact ih q0 v1 v2 v3 (v4 + 1) _ hq0 h
def wX12_laysTune (f : Nat) (Φ : Int → aj_M → Prop) (q0 : List Nat) (v1 : Int) (m : aj_M) : Prop := (0 ≤ (49 + v1) ∧ (49 + v1) < 3315) ∧ ∀ m1, m1 = aj_u m q0 33 (-1) → hX12_laysTune_20 f Φ f q0 v1 (m (1 :: q0) (49 + v1).toNat) (-1) 0 m1
set_option maxHeartbeats 4000000 in
set_option maxRecDepth 100000 in
theorem sX12_laysTune {n f : Nat} {Φ : Int → aj_M → Prop} {q0 : List Nat} {v1 : Int} {m : aj_M} (hq0 : (.inl (12, q0) : aj_R) ∈ aj_pls) (h : wX12_laysTune f Φ q0 v1 m) : aj_Ct (n + 6) yX12_laysTune cX12_laysTune 6 (some .int) [vO 12 q0, vI v1] m (fun r m => ∃ z, r = some (vI z) ∧ Φ z m) := by
  refine aj_met (lv := [some (vO 12 q0), some (vI v1), none, none, none, none]) (by decide +kernel) rfl (Nat.le_of_ble_eq_true rfl) (fun X C K => ?_)
  unfold wX12_laysTune at h
  refine aj_aload_n C dX12_laysTune_0 rfl ?_
  refine aj_getA (x := 0) (y := 3315) C flX12_13 hq0 rfl dX12_laysTune_1 ?_
  refine aj_bipush C dX12_laysTune_4 (by decide) ?_
  refine aj_iload_n C dX12_laysTune_6 rfl ?_
  refine aj_iadd C dX12_laysTune_7 ?_
  obtain ⟨r0, h⟩ := h
  refine aj_iald C (aj_ca (e := 0) (n := 3315) (j := 1) hq0 (by decide) rfl) (by decide) r0 dX12_laysTune_8 rfl ?_
  refine aj_istore_n (lv' := [some (vO 12 q0), some (vI v1), some (vI (m (1 :: q0) (49 + v1).toNat)), none, none, none]) C dX12_laysTune_9 (by decide) rfl ?_
  refine aj_iconst C dX12_laysTune_10 ?_
  refine aj_istore_n (lv' := [some (vO 12 q0), some (vI v1), some (vI (m (1 :: q0) (49 + v1).toNat)), some (vI (-1)), none, none]) C dX12_laysTune_11 (by decide) rfl ?_
  refine aj_aload_n C dX12_laysTune_12 rfl ?_
  refine aj_iconst C dX12_laysTune_13 ?_
  refine aj_putI C fpX12_419 hq0 rfl dX12_laysTune_14 ?_
  refine aj_nm (fun m1 e1 => ?_)
  have h := h m1 e1
  refine aj_iconst C dX12_laysTune_17 ?_
  refine aj_istore (lv' := [some (vO 12 q0), some (vI v1), some (vI (m (1 :: q0) (49 + v1).toNat)), some (vI (-1)), some (vI 0), none]) C dX12_laysTune_18 (by decide) rfl ?_
  exact tX12_laysTune_20 C K f q0 v1 (m (1 :: q0) (49 + v1).toNat) (-1) 0 _ hq0 h
theorem dX12_tune_0 : decode cX12_tune 0 = .ok (.aload_n 0, 1) := by decide +kernel
theorem dX12_tune_1 : decode cX12_tune 1 = .ok (.iconst 0, 1) := by decide +kernel
theorem dX12_tune_2 : decode cX12_tune 2 = .ok (.putfield 1, 3) := by decide +kernel
theorem dX12_tune_5 : decode cX12_tune 5 = .ok (.aload_n 0, 1) := by decide +kernel
theorem dX12_tune_6 : decode cX12_tune 6 = .ok (.iload_n 1, 1) := by decide +kernel
theorem dX12_tune_7 : decode cX12_tune 7 = .ok (.i2l, 1) := by decide +kernel
theorem dX12_tune_8 : decode cX12_tune 8 = .ok (.invokevirtual 291, 3) := by decide +kernel
theorem dX12_tune_11 : decode cX12_tune 11 = .ok (.ifCond .eq 11, 3) := by decide +kernel
theorem dX12_tune_14 : decode cX12_tune 14 = .ok (.aload_n 0, 1) := by decide +kernel
theorem dX12_tune_15 : decode cX12_tune 15 = .ok (.iload_n 1, 1) := by decide +kernel
theorem dX12_tune_16 : decode cX12_tune 16 = .ok (.invokevirtual 422, 3) := by decide +kernel
theorem dX12_tune_19 : decode cX12_tune 19 = .ok (.goto 5, 3) := by decide +kernel
theorem dX12_tune_22 : decode cX12_tune 22 = .ok (.bipush (-2), 2) := by decide +kernel
theorem dX12_tune_24 : decode cX12_tune 24 = .ok (.ireturn, 1) := by decide +kernel
def wX12_tune (f : Nat) (Φ : Int → aj_M → Prop) (q0 : List Nat) (v1 : Int) (m : aj_M) : Prop := ∀ m1, m1 = aj_u m q0 0 0 → rI v1 ∧ wX12_isArc f (fun z1 m2 => rI z1 ∧ (z1 = 0 → Φ (-2) m2) ∧ (¬ (z1 = 0) → wX12_laysTune f (fun z2 m3 => Φ z2 m3) q0 v1 m2)) q0 v1 m1
set_option maxHeartbeats 4000000 in
set_option maxRecDepth 100000 in
theorem sX12_tune {n f : Nat} {Φ : Int → aj_M → Prop} {q0 : List Nat} {v1 : Int} {m : aj_M} (hq0 : (.inl (12, q0) : aj_R) ∈ aj_pls) (h : wX12_tune f Φ q0 v1 m) : aj_Ct (n + 7) yX12_tune cX12_tune 2 (some .int) [vO 12 q0, vI v1] m (fun r m => ∃ z, r = some (vI z) ∧ Φ z m) := by
  refine aj_met (lv := [some (vO 12 q0), some (vI v1)]) (by decide +kernel) rfl (Nat.le_of_ble_eq_true rfl) (fun X C K => ?_)
  unfold wX12_tune at h
  refine aj_aload_n C dX12_tune_0 rfl ?_
  refine aj_iconst C dX12_tune_1 ?_
  refine aj_putI C fpX12_1 hq0 rfl dX12_tune_2 ?_
  refine aj_nm (fun m1 e1 => ?_)
  have h := h m1 e1
  refine aj_aload_n C dX12_tune_5 rfl ?_
  refine aj_iload_n C dX12_tune_6 rfl ?_
  obtain ⟨r0, h⟩ := h
  refine aj_i2l C dX12_tune_7 r0 ?_
  refine aj_callV (rest := []) C mvX12_291 (sX12_isArc hq0 h) hq0 (aj_np 1 (by decide +kernel) rfl) (Nat.le_of_ble_eq_true rfl) rfl dX12_tune_8 (fun r m2 h => ?_)
  obtain ⟨z1, rfl, h⟩ := h
  obtain ⟨r0, h1, h2⟩ := h
  refine aj_if_eq (tgt := 22) C dX12_tune_11 (by decide) r0 (fun e => ?_) (fun e => ?_)
  · have h := h1 e
    refine aj_bipush C dX12_tune_22 (by decide) ?_
    exact aj_iret C K dX12_tune_24 ⟨_, rfl, h⟩
  · have h := h2 e
    refine aj_aload_n C dX12_tune_14 rfl ?_
    refine aj_iload_n C dX12_tune_15 rfl ?_
    refine aj_callV (rest := []) C mvX12_422 (sX12_laysTune hq0 h) hq0 (aj_np 1 (by decide +kernel) rfl) (Nat.le_of_ble_eq_true rfl) rfl dX12_tune_16 (fun r m3 h => ?_)
    obtain ⟨z2, rfl, h⟩ := h
    refine aj_goto (tgt := 24) C dX12_tune_19 (by decide) ?_
    exact aj_iret C K dX12_tune_24 ⟨_, rfl, h⟩
theorem dX12_tuned_0 : decode cX12_tuned 0 = .ok (.aload_n 0, 1) := by decide +kernel
theorem dX12_tuned_1 : decode cX12_tuned 1 = .ok (.iconst 0, 1) := by decide +kernel
theorem dX12_tuned_2 : decode cX12_tuned 2 = .ok (.putfield 1, 3) := by decide +kernel
theorem dX12_tuned_5 : decode cX12_tuned 5 = .ok (.aload_n 0, 1) := by decide +kernel
theorem dX12_tuned_6 : decode cX12_tuned 6 = .ok (.iload_n 1, 1) := by decide +kernel
theorem dX12_tuned_7 : decode cX12_tuned 7 = .ok (.i2l, 1) := by decide +kernel
theorem dX12_tuned_8 : decode cX12_tuned 8 = .ok (.invokevirtual 291, 3) := by decide +kernel
theorem dX12_tuned_11 : decode cX12_tuned 11 = .ok (.ifCond .ne 6, 3) := by decide +kernel
theorem dX12_tuned_14 : decode cX12_tuned 14 = .ok (.bipush (-2), 2) := by decide +kernel
theorem dX12_tuned_16 : decode cX12_tuned 16 = .ok (.ireturn, 1) := by decide +kernel
theorem dX12_tuned_17 : decode cX12_tuned 17 = .ok (.aload_n 0, 1) := by decide +kernel
theorem dX12_tuned_18 : decode cX12_tuned 18 = .ok (.iload_n 1, 1) := by decide +kernel
theorem dX12_tuned_19 : decode cX12_tuned 19 = .ok (.invokevirtual 422, 3) := by decide +kernel
theorem dX12_tuned_22 : decode cX12_tuned 22 = .ok (.pop, 1) := by decide +kernel
theorem dX12_tuned_23 : decode cX12_tuned 23 = .ok (.aload_n 0, 1) := by decide +kernel
theorem dX12_tuned_24 : decode cX12_tuned 24 = .ok (.getfield 419, 3) := by decide +kernel
theorem dX12_tuned_27 : decode cX12_tuned 27 = .ok (.invokestatic 345, 3) := by decide +kernel
theorem dX12_tuned_30 : decode cX12_tuned 30 = .ok (.ireturn, 1) := by decide +kernel
def wX12_tuned (f : Nat) (Φ : Int → aj_M → Prop) (q0 : List Nat) (v1 : Int) (m : aj_M) : Prop := ∀ m1, m1 = aj_u m q0 0 0 → rI v1 ∧ wX12_isArc f (fun z1 m2 => rI z1 ∧ (¬ z1 = 0 → wX12_laysTune f (fun z2 m3 => wX12_toldFar f (fun z3 m4 => Φ z3 m4) (m3 q0 33) m3) q0 v1 m2) ∧ (z1 = 0 → Φ (-2) m2)) q0 v1 m1
set_option maxHeartbeats 4000000 in
set_option maxRecDepth 100000 in
theorem sX12_tuned {n f : Nat} {Φ : Int → aj_M → Prop} {q0 : List Nat} {v1 : Int} {m : aj_M} (hq0 : (.inl (12, q0) : aj_R) ∈ aj_pls) (h : wX12_tuned f Φ q0 v1 m) : aj_Ct (n + 7) yX12_tuned cX12_tuned 2 (some .int) [vO 12 q0, vI v1] m (fun r m => ∃ z, r = some (vI z) ∧ Φ z m) := by
  refine aj_met (lv := [some (vO 12 q0), some (vI v1)]) (by decide +kernel) rfl (Nat.le_of_ble_eq_true rfl) (fun X C K => ?_)
  unfold wX12_tuned at h
  refine aj_aload_n C dX12_tuned_0 rfl ?_
  refine aj_iconst C dX12_tuned_1 ?_
  refine aj_putI C fpX12_1 hq0 rfl dX12_tuned_2 ?_
  refine aj_nm (fun m1 e1 => ?_)
  have h := h m1 e1
  refine aj_aload_n C dX12_tuned_5 rfl ?_
  refine aj_iload_n C dX12_tuned_6 rfl ?_
  obtain ⟨r0, h⟩ := h
  refine aj_i2l C dX12_tuned_7 r0 ?_
  refine aj_callV (rest := []) C mvX12_291 (sX12_isArc hq0 h) hq0 (aj_np 1 (by decide +kernel) rfl) (Nat.le_of_ble_eq_true rfl) rfl dX12_tuned_8 (fun r m2 h => ?_)
  obtain ⟨z1, rfl, h⟩ := h
  obtain ⟨r0, h1, h2⟩ := h
  refine aj_if_ne (tgt := 17) C dX12_tuned_11 (by decide) r0 (fun e => ?_) (fun e => ?_)
  · have h := h1 e
    refine aj_aload_n C dX12_tuned_17 rfl ?_
    refine aj_iload_n C dX12_tuned_18 rfl ?_
    refine aj_callV (rest := []) C mvX12_422 (sX12_laysTune hq0 h) hq0 (aj_np 1 (by decide +kernel) rfl) (Nat.le_of_ble_eq_true rfl) rfl dX12_tuned_19 (fun r m3 h => ?_)
    obtain ⟨z2, rfl, h⟩ := h
    refine aj_pop C aj_nI dX12_tuned_22 ?_
    refine aj_aload_n C dX12_tuned_23 rfl ?_
    refine aj_getI C flX12_419 hq0 (by decide) dX12_tuned_24 rfl ?_
    refine aj_callS (rest := []) C msX12_345 (sX12_toldFar  h) (aj_np 1 (by decide +kernel) rfl) (Nat.le_of_ble_eq_true rfl) rfl dX12_tuned_27 (fun r m4 h => ?_)
    obtain ⟨z3, rfl, h⟩ := h
    exact aj_iret C K dX12_tuned_30 ⟨_, rfl, h⟩
  · have h := h2 e
    refine aj_bipush C dX12_tuned_14 (by decide) ?_
    exact aj_iret C K dX12_tuned_16 ⟨_, rfl, h⟩
theorem dX12_bitsOf_0 : decode cX12_bitsOf 0 = .ok (.iconst 0, 1) := by decide +kernel
theorem dX12_bitsOf_1 : decode cX12_bitsOf 1 = .ok (.istore_n 1, 1) := by decide +kernel
theorem dX12_bitsOf_2 : decode cX12_bitsOf 2 = .ok (.iconst 0, 1) := by decide +kernel
theorem dX12_bitsOf_3 : decode cX12_bitsOf 3 = .ok (.istore_n 2, 1) := by decide +kernel
theorem dX12_bitsOf_4 : decode cX12_bitsOf 4 = .ok (.iload_n 2, 1) := by decide +kernel
theorem dX12_bitsOf_5 : decode cX12_bitsOf 5 = .ok (.bipush 14, 2) := by decide +kernel
theorem dX12_bitsOf_7 : decode cX12_bitsOf 7 = .ok (.if_icmp .ge 17, 3) := by decide +kernel
theorem dX12_bitsOf_10 : decode cX12_bitsOf 10 = .ok (.iload_n 1, 1) := by decide +kernel
theorem dX12_bitsOf_11 : decode cX12_bitsOf 11 = .ok (.iload_n 0, 1) := by decide +kernel
theorem dX12_bitsOf_12 : decode cX12_bitsOf 12 = .ok (.iload_n 2, 1) := by decide +kernel
theorem dX12_bitsOf_13 : decode cX12_bitsOf 13 = .ok (.ishr, 1) := by decide +kernel
theorem dX12_bitsOf_14 : decode cX12_bitsOf 14 = .ok (.iconst 1, 1) := by decide +kernel
theorem dX12_bitsOf_15 : decode cX12_bitsOf 15 = .ok (.iand, 1) := by decide +kernel
theorem dX12_bitsOf_16 : decode cX12_bitsOf 16 = .ok (.iadd, 1) := by decide +kernel
theorem dX12_bitsOf_17 : decode cX12_bitsOf 17 = .ok (.istore_n 1, 1) := by decide +kernel
theorem dX12_bitsOf_18 : decode cX12_bitsOf 18 = .ok (.iinc 2 1, 3) := by decide +kernel
theorem dX12_bitsOf_21 : decode cX12_bitsOf 21 = .ok (.goto (-17), 3) := by decide +kernel
theorem dX12_bitsOf_24 : decode cX12_bitsOf 24 = .ok (.iload_n 1, 1) := by decide +kernel
theorem dX12_bitsOf_25 : decode cX12_bitsOf 25 = .ok (.ireturn, 1) := by decide +kernel
def hX12_bitsOf_4 (f : Nat) (Φ : Int → aj_M → Prop) : Nat → Int → Int → Int → aj_M → Prop
  | 0, _, _, _, _ => False
  | k + 1, v0, v1, v2, m => rI v2 ∧ (14 ≤ v2 → Φ v1 m) ∧ (¬ (14 ≤ v2) → hX12_bitsOf_4 f Φ k v0 (v1 + (aj_and (aj_shr v0 v2) 1)) (v2 + 1) m)
set_option maxHeartbeats 4000000 in
set_option maxRecDepth 100000 in
theorem tX12_bitsOf_4 {X : aj_T} {n f : Nat} {Φ : Int → aj_M → Prop} (C : aj_Cx X cX12_bitsOf RX12 3 n) (K : aj_Rt X (some .int) (fun r m => ∃ z, r = some (vI z) ∧ Φ z m)) : ∀ (k : Nat) (v0 : Int) (v1 : Int) (v2 : Int) (m : aj_M) , hX12_bitsOf_4 f Φ k v0 v1 v2 m → aj_J X 4 [some (vI v0), some (vI v1), some (vI v2)] [] m := by
  intro k
  induction k with
  | zero =>
    intro v0 v1 v2 m  h
    exact h.elim
  | succ k ih =>
    intro v0 v1 v2 m  h
    unfold hX12_bitsOf_4 at h
    refine aj_iload_n C dX12_bitsOf_4 rfl ?_
    refine aj_bipush C dX12_bitsOf_5 (by decide) ?_
    obtain ⟨r0, h1, h2⟩ := h
    refine aj_icmp_ge (tgt := 24) C dX12_bitsOf_7 (by decide) r0 (by decide) (fun e => ?_) (fun e => ?_)
    · have h := h1 e
      refine aj_iload_n C dX12_bitsOf_24 rfl ?_
      exact aj_iret C K dX12_bitsOf_25 ⟨_, rfl, h⟩
    · have h := h2 e
      refine aj_iload_n C dX12_bitsOf_10 rfl ?_
      refine aj_iload_n C dX12_bitsOf_11 rfl ?_
      refine aj_iload_n C dX12_bitsOf_12 rfl ?_
      refine aj_ishr C dX12_bitsOf_13 ?_
      refine aj_iconst C dX12_bitsOf_14 ?_
      refine aj_iand C dX12_bitsOf_15 ?_
      refine aj_iadd C dX12_bitsOf_16 ?_
      refine aj_istore_n (lv' := [some (vI v0), some (vI (v1 + (aj_and (aj_shr v0 v2) 1))), some (vI v2)]) C dX12_bitsOf_17 (by decide) rfl ?_
      refine aj_iinc (lv' := [some (vI v0), some (vI (v1 + (aj_and (aj_shr v0 v2) 1))), some (vI (v2 + 1))]) C dX12_bitsOf_18 rfl (by decide) rfl ?_
      refine aj_goto (tgt := 4) C dX12_bitsOf_21 (by decide) ?_
      exact ih v0 (v1 + (aj_and (aj_shr v0 v2) 1)) (v2 + 1) _  h
def wX12_bitsOf (f : Nat) (Φ : Int → aj_M → Prop) (v0 : Int) (m : aj_M) : Prop := hX12_bitsOf_4 f Φ f v0 0 0 m
set_option maxHeartbeats 4000000 in
set_option maxRecDepth 100000 in
theorem sX12_bitsOf {n f : Nat} {Φ : Int → aj_M → Prop} {v0 : Int} {m : aj_M}  (h : wX12_bitsOf f Φ v0 m) : aj_Ct n yX12_bitsOf cX12_bitsOf 3 (some .int) [vI v0] m (fun r m => ∃ z, r = some (vI z) ∧ Φ z m) := by
  refine aj_met (lv := [some (vI v0), none, none]) (by decide +kernel) rfl (Nat.le_of_ble_eq_true rfl) (fun X C K => ?_)
  unfold wX12_bitsOf at h
  refine aj_iconst C dX12_bitsOf_0 ?_
  refine aj_istore_n (lv' := [some (vI v0), some (vI 0), none]) C dX12_bitsOf_1 (by decide) rfl ?_
  refine aj_iconst C dX12_bitsOf_2 ?_
  refine aj_istore_n (lv' := [some (vI v0), some (vI 0), some (vI 0)]) C dX12_bitsOf_3 (by decide) rfl ?_
  exact tX12_bitsOf_4 C K f v0 0 0 _  h
theorem dX12_ballOf_0 : decode cX12_ballOf 0 = .ok (.iconst 1, 1) := by decide +kernel
theorem dX12_ballOf_1 : decode cX12_ballOf 1 = .ok (.iload_n 1, 1) := by decide +kernel
theorem dX12_ballOf_2 : decode cX12_ballOf 2 = .ok (.ishl, 1) := by decide +kernel
theorem dX12_ballOf_3 : decode cX12_ballOf 3 = .ok (.istore_n 3, 1) := by decide +kernel
theorem dX12_ballOf_4 : decode cX12_ballOf 4 = .ok (.iconst 0, 1) := by decide +kernel
theorem dX12_ballOf_5 : decode cX12_ballOf 5 = .ok (.istore 4, 2) := by decide +kernel
theorem dX12_ballOf_7 : decode cX12_ballOf 7 = .ok (.iload 4, 2) := by decide +kernel
theorem dX12_ballOf_9 : decode cX12_ballOf 9 = .ok (.iload_n 2, 1) := by decide +kernel
theorem dX12_ballOf_10 : decode cX12_ballOf 10 = .ok (.if_icmp .ge 59, 3) := by decide +kernel
theorem dX12_ballOf_13 : decode cX12_ballOf 13 = .ok (.iload_n 3, 1) := by decide +kernel
theorem dX12_ballOf_14 : decode cX12_ballOf 14 = .ok (.istore 5, 2) := by decide +kernel
theorem dX12_ballOf_16 : decode cX12_ballOf 16 = .ok (.iconst 0, 1) := by decide +kernel
theorem dX12_ballOf_17 : decode cX12_ballOf 17 = .ok (.istore 6, 2) := by decide +kernel
theorem dX12_ballOf_19 : decode cX12_ballOf 19 = .ok (.iload 6, 2) := by decide +kernel
theorem dX12_ballOf_21 : decode cX12_ballOf 21 = .ok (.aload_n 0, 1) := by decide +kernel
theorem dX12_ballOf_22 : decode cX12_ballOf 22 = .ok (.getfield 425, 3) := by decide +kernel
theorem dX12_ballOf_25 : decode cX12_ballOf 25 = .ok (.if_icmp .ge 35, 3) := by decide +kernel
theorem dX12_ballOf_28 : decode cX12_ballOf 28 = .ok (.iload 5, 2) := by decide +kernel
theorem dX12_ballOf_30 : decode cX12_ballOf 30 = .ok (.iload_n 3, 1) := by decide +kernel
theorem dX12_ballOf_31 : decode cX12_ballOf 31 = .ok (.i2l, 1) := by decide +kernel
theorem dX12_ballOf_32 : decode cX12_ballOf 32 = .ok (.iload 6, 2) := by decide +kernel
theorem dX12_ballOf_34 : decode cX12_ballOf 34 = .ok (.invokestatic 274, 3) := by decide +kernel
theorem dX12_ballOf_37 : decode cX12_ballOf 37 = .ok (.ifCond .eq 13, 3) := by decide +kernel
theorem dX12_ballOf_40 : decode cX12_ballOf 40 = .ok (.aload_n 0, 1) := by decide +kernel
theorem dX12_ballOf_41 : decode cX12_ballOf 41 = .ok (.getfield 69, 3) := by decide +kernel
theorem dX12_ballOf_44 : decode cX12_ballOf 44 = .ok (.iload 6, 2) := by decide +kernel
theorem dX12_ballOf_46 : decode cX12_ballOf 46 = .ok (.iaload, 1) := by decide +kernel
theorem dX12_ballOf_47 : decode cX12_ballOf 47 = .ok (.goto 4, 3) := by decide +kernel
theorem dX12_ballOf_50 : decode cX12_ballOf 50 = .ok (.iconst 0, 1) := by decide +kernel
theorem dX12_ballOf_51 : decode cX12_ballOf 51 = .ok (.ior, 1) := by decide +kernel
theorem dX12_ballOf_52 : decode cX12_ballOf 52 = .ok (.istore 5, 2) := by decide +kernel
theorem dX12_ballOf_54 : decode cX12_ballOf 54 = .ok (.iinc 6 1, 3) := by decide +kernel
theorem dX12_ballOf_57 : decode cX12_ballOf 57 = .ok (.goto (-38), 3) := by decide +kernel
theorem dX12_ballOf_60 : decode cX12_ballOf 60 = .ok (.iload 5, 2) := by decide +kernel
theorem dX12_ballOf_62 : decode cX12_ballOf 62 = .ok (.istore_n 3, 1) := by decide +kernel
theorem dX12_ballOf_63 : decode cX12_ballOf 63 = .ok (.iinc 4 1, 3) := by decide +kernel
theorem dX12_ballOf_66 : decode cX12_ballOf 66 = .ok (.goto (-59), 3) := by decide +kernel
theorem dX12_ballOf_69 : decode cX12_ballOf 69 = .ok (.iload_n 3, 1) := by decide +kernel
theorem dX12_ballOf_70 : decode cX12_ballOf 70 = .ok (.ireturn, 1) := by decide +kernel
def hX12_ballOf_19 (f : Nat) (Φ : Int → aj_M → Prop) (K7 : List Nat → Int → Int → Int → aj_M → Prop) : Nat → List Nat → Int → Int → Int → Int → Int → aj_M → Prop
  | 0, _, _, _, _, _, _, _ => False
  | k + 1, q0, v2, v3, v4, v5, v6, m => rI v6 ∧ rI (m q0 38) ∧ ((m q0 38) ≤ v6 → K7 q0 v2 v5 (v4 + 1) m) ∧ (¬ ((m q0 38) ≤ v6) → rI v3 ∧ wX12_isIn f (fun z1 m1 => rI z1 ∧ (z1 = 0 → hX12_ballOf_19 f Φ K7 k q0 v2 v3 v4 (aj_or v5 0) (v6 + 1) m1) ∧ (¬ (z1 = 0) → (0 ≤ v6 ∧ v6 < 14) ∧ hX12_ballOf_19 f Φ K7 k q0 v2 v3 v4 (aj_or v5 (m1 (34 :: q0) v6.toNat)) (v6 + 1) m1)) v3 v6 m)
set_option maxHeartbeats 4000000 in
set_option maxRecDepth 100000 in
theorem tX12_ballOf_19 {X : aj_T} {n f : Nat} {Φ : Int → aj_M → Prop} (C : aj_Cx X cX12_ballOf RX12 7 (n + 1)) (K : aj_Rt X (some .int) (fun r m => ∃ z, r = some (vI z) ∧ Φ z m)) {K7 : List Nat → Int → Int → Int → aj_M → Prop} (HK7 : ∀ (q0 : List Nat) (v2 : Int) (v3 : Int) (v4 : Int) (m : aj_M) (hq0 : (.inl (12, q0) : aj_R) ∈ aj_pls), K7 q0 v2 v3 v4 m → aj_J X 7 [some (vO 12 q0), none, some (vI v2), some (vI v3), some (vI v4), none, none] [] m) : ∀ (k : Nat) (q0 : List Nat) (v2 : Int) (v3 : Int) (v4 : Int) (v5 : Int) (v6 : Int) (m : aj_M) (hq0 : (.inl (12, q0) : aj_R) ∈ aj_pls), hX12_ballOf_19 f Φ K7 k q0 v2 v3 v4 v5 v6 m → aj_J X 19 [some (vO 12 q0), none, some (vI v2), some (vI v3), some (vI v4), some (vI v5), some (vI v6)] [] m := by
  intro k
  induction k with
  | zero =>
    intro q0 v2 v3 v4 v5 v6 m _ h
    exact h.elim
  | succ k ih =>
    intro q0 v2 v3 v4 v5 v6 m hq0 h
    unfold hX12_ballOf_19 at h
    refine aj_iload C dX12_ballOf_19 rfl ?_
    refine aj_aload_n C dX12_ballOf_21 rfl ?_
    refine aj_getI C flX12_425 hq0 (by decide) dX12_ballOf_22 rfl ?_
    obtain ⟨r0, r1, h1, h2⟩ := h
    refine aj_icmp_ge (tgt := 60) C dX12_ballOf_25 (by decide) r0 r1 (fun e => ?_) (fun e => ?_)
    · have h := h1 e
      refine aj_iload C dX12_ballOf_60 rfl ?_
      refine aj_istore_n (lv' := [some (vO 12 q0), none, some (vI v2), some (vI v5), some (vI v4), some (vI v5), some (vI v6)]) C dX12_ballOf_62 (by decide) rfl ?_
      refine aj_iinc (lv' := [some (vO 12 q0), none, some (vI v2), some (vI v5), some (vI (v4 + 1)), some (vI v5), some (vI v6)]) C dX12_ballOf_63 rfl (by decide) rfl ?_
      refine aj_goto (tgt := 7) C dX12_ballOf_66 (by decide) ?_
      refine aj_wk (lv' := [some (vO 12 q0), none, some (vI v2), some (vI v5), some (vI (v4 + 1)), none, none]) (⟨rfl, ⟨rfl, ⟨rfl, ⟨rfl, trivial⟩⟩⟩⟩) ?_
      exact HK7 q0 v2 v5 (v4 + 1) _ hq0 h
    · have h := h2 e
      refine aj_iload C dX12_ballOf_28 rfl ?_
      refine aj_iload_n C dX12_ballOf_30 rfl ?_
      obtain ⟨r0, h⟩ := h
      refine aj_i2l C dX12_ballOf_31 r0 ?_
      refine aj_iload C dX12_ballOf_32 rfl ?_
      refine aj_callS (rest := [vI v5]) C msX12_274 (sX12_isIn  h) (aj_np 2 (by decide +kernel) rfl) (Nat.le_of_ble_eq_true rfl) rfl dX12_ballOf_34 (fun r m1 h => ?_)
      obtain ⟨z1, rfl, h⟩ := h
      obtain ⟨r0, h1, h2⟩ := h
      refine aj_if_eq (tgt := 50) C dX12_ballOf_37 (by decide) r0 (fun e => ?_) (fun e => ?_)
      · have h := h1 e
        refine aj_iconst C dX12_ballOf_50 ?_
        refine aj_ior C dX12_ballOf_51 ?_
        refine aj_istore (lv' := [some (vO 12 q0), none, some (vI v2), some (vI v3), some (vI v4), some (vI (aj_or v5 0)), some (vI v6)]) C dX12_ballOf_52 (by decide) rfl ?_
        refine aj_iinc (lv' := [some (vO 12 q0), none, some (vI v2), some (vI v3), some (vI v4), some (vI (aj_or v5 0)), some (vI (v6 + 1))]) C dX12_ballOf_54 rfl (by decide) rfl ?_
        refine aj_goto (tgt := 19) C dX12_ballOf_57 (by decide) ?_
        exact ih q0 v2 v3 v4 (aj_or v5 0) (v6 + 1) _ hq0 h
      · have h := h2 e
        refine aj_aload_n C dX12_ballOf_40 rfl ?_
        refine aj_getA (x := 0) (y := 14) C flX12_69 hq0 rfl dX12_ballOf_41 ?_
        refine aj_iload C dX12_ballOf_44 rfl ?_
        obtain ⟨r0, h⟩ := h
        refine aj_iald C (aj_ca (e := 0) (n := 14) (j := 34) hq0 (by decide) rfl) (by decide) r0 dX12_ballOf_46 rfl ?_
        refine aj_goto (tgt := 51) C dX12_ballOf_47 (by decide) ?_
        refine aj_ior C dX12_ballOf_51 ?_
        refine aj_istore (lv' := [some (vO 12 q0), none, some (vI v2), some (vI v3), some (vI v4), some (vI (aj_or v5 (m1 (34 :: q0) v6.toNat))), some (vI v6)]) C dX12_ballOf_52 (by decide) rfl ?_
        refine aj_iinc (lv' := [some (vO 12 q0), none, some (vI v2), some (vI v3), some (vI v4), some (vI (aj_or v5 (m1 (34 :: q0) v6.toNat))), some (vI (v6 + 1))]) C dX12_ballOf_54 rfl (by decide) rfl ?_
        refine aj_goto (tgt := 19) C dX12_ballOf_57 (by decide) ?_
        exact ih q0 v2 v3 v4 (aj_or v5 (m1 (34 :: q0) v6.toNat)) (v6 + 1) _ hq0 h
def hX12_ballOf_7 (f : Nat) (Φ : Int → aj_M → Prop) : Nat → List Nat → Int → Int → Int → aj_M → Prop
  | 0, _, _, _, _, _ => False
  | k + 1, q0, v2, v3, v4, m => rI v4 ∧ rI v2 ∧ (v2 ≤ v4 → Φ v3 m) ∧ (¬ (v2 ≤ v4) → hX12_ballOf_19 f Φ (fun q0 v2 v3 v4 m => hX12_ballOf_7 f Φ k q0 v2 v3 v4 m) f q0 v2 v3 v4 v3 0 m)
set_option maxHeartbeats 4000000 in
set_option maxRecDepth 100000 in
theorem tX12_ballOf_7 {X : aj_T} {n f : Nat} {Φ : Int → aj_M → Prop} (C : aj_Cx X cX12_ballOf RX12 7 (n + 1)) (K : aj_Rt X (some .int) (fun r m => ∃ z, r = some (vI z) ∧ Φ z m)) : ∀ (k : Nat) (q0 : List Nat) (v2 : Int) (v3 : Int) (v4 : Int) (m : aj_M) (hq0 : (.inl (12, q0) : aj_R) ∈ aj_pls), hX12_ballOf_7 f Φ k q0 v2 v3 v4 m → aj_J X 7 [some (vO 12 q0), none, some (vI v2), some (vI v3), some (vI v4), none, none] [] m := by
  intro k
  induction k with
  | zero =>
    intro q0 v2 v3 v4 m _ h
    exact h.elim
  | succ k ih =>
    intro q0 v2 v3 v4 m hq0 h
    unfold hX12_ballOf_7 at h
    refine aj_iload C dX12_ballOf_7 rfl ?_
    refine aj_iload_n C dX12_ballOf_9 rfl ?_
    obtain ⟨r0, r1, h1, h2⟩ := h
    refine aj_icmp_ge (tgt := 69) C dX12_ballOf_10 (by decide) r0 r1 (fun e => ?_) (fun e => ?_)
    · have h := h1 e
      refine aj_iload_n C dX12_ballOf_69 rfl ?_
      exact aj_iret C K dX12_ballOf_70 ⟨_, rfl, h⟩
    · have h := h2 e
      refine aj_iload_n C dX12_ballOf_13 rfl ?_
      refine aj_istore (lv' := [some (vO 12 q0), none, some (vI v2), some (vI v3), some (vI v4), some (vI v3), none]) C dX12_ballOf_14 (by decide) rfl ?_
      refine aj_iconst C dX12_ballOf_16 ?_
      refine aj_istore (lv' := [some (vO 12 q0), none, some (vI v2), some (vI v3), some (vI v4), some (vI v3), some (vI 0)]) C dX12_ballOf_17 (by decide) rfl ?_
      exact tX12_ballOf_19 C K (fun q0 v2 v3 v4 m hq0 hh => ih q0 v2 v3 v4 m hq0 hh) f q0 v2 v3 v4 v3 0 _ hq0 h
def wX12_ballOf (f : Nat) (Φ : Int → aj_M → Prop) (q0 : List Nat) (v1 : Int) (v2 : Int) (m : aj_M) : Prop := hX12_ballOf_7 f Φ f q0 v2 (aj_shl 1 v1) 0 m
set_option maxHeartbeats 4000000 in
set_option maxRecDepth 100000 in
theorem sX12_ballOf {n f : Nat} {Φ : Int → aj_M → Prop} {q0 : List Nat} {v1 : Int} {v2 : Int} {m : aj_M} (hq0 : (.inl (12, q0) : aj_R) ∈ aj_pls) (h : wX12_ballOf f Φ q0 v1 v2 m) : aj_Ct (n + 1) yX12_ballOf cX12_ballOf 7 (some .int) [vO 12 q0, vI v1, vI v2] m (fun r m => ∃ z, r = some (vI z) ∧ Φ z m) := by
  refine aj_met (lv := [some (vO 12 q0), some (vI v1), some (vI v2), none, none, none, none]) (by decide +kernel) rfl (Nat.le_of_ble_eq_true rfl) (fun X C K => ?_)
  unfold wX12_ballOf at h
  refine aj_iconst C dX12_ballOf_0 ?_
  refine aj_iload_n C dX12_ballOf_1 rfl ?_
  refine aj_ishl C dX12_ballOf_2 ?_
  refine aj_istore_n (lv' := [some (vO 12 q0), some (vI v1), some (vI v2), some (vI (aj_shl 1 v1)), none, none, none]) C dX12_ballOf_3 (by decide) rfl ?_
  refine aj_iconst C dX12_ballOf_4 ?_
  refine aj_istore (lv' := [some (vO 12 q0), some (vI v1), some (vI v2), some (vI (aj_shl 1 v1)), some (vI 0), none, none]) C dX12_ballOf_5 (by decide) rfl ?_
  refine aj_wk (lv' := [some (vO 12 q0), none, some (vI v2), some (vI (aj_shl 1 v1)), some (vI 0), none, none]) (⟨rfl, ⟨rfl, ⟨rfl, ⟨rfl, trivial⟩⟩⟩⟩) ?_
  exact tX12_ballOf_7 C K f q0 v2 (aj_shl 1 v1) 0 _ hq0 h
theorem dX12_partnersOf_0 : decode cX12_partnersOf 0 = .ok (.iconst 0, 1) := by decide +kernel
theorem dX12_partnersOf_1 : decode cX12_partnersOf 1 = .ok (.istore_n 2, 1) := by decide +kernel
theorem dX12_partnersOf_2 : decode cX12_partnersOf 2 = .ok (.iconst 0, 1) := by decide +kernel
theorem dX12_partnersOf_3 : decode cX12_partnersOf 3 = .ok (.istore_n 3, 1) := by decide +kernel
theorem dX12_partnersOf_4 : decode cX12_partnersOf 4 = .ok (.aload_n 0, 1) := by decide +kernel
theorem dX12_partnersOf_5 : decode cX12_partnersOf 5 = .ok (.iload_n 1, 1) := by decide +kernel
theorem dX12_partnersOf_6 : decode cX12_partnersOf 6 = .ok (.aload_n 0, 1) := by decide +kernel
theorem dX12_partnersOf_7 : decode cX12_partnersOf 7 = .ok (.getfield 428, 3) := by decide +kernel
theorem dX12_partnersOf_10 : decode cX12_partnersOf 10 = .ok (.iconst 2, 1) := by decide +kernel
theorem dX12_partnersOf_11 : decode cX12_partnersOf 11 = .ok (.isub, 1) := by decide +kernel
theorem dX12_partnersOf_12 : decode cX12_partnersOf 12 = .ok (.invokevirtual 431, 3) := by decide +kernel
theorem dX12_partnersOf_15 : decode cX12_partnersOf 15 = .ok (.istore 4, 2) := by decide +kernel
theorem dX12_partnersOf_17 : decode cX12_partnersOf 17 = .ok (.iload_n 1, 1) := by decide +kernel
theorem dX12_partnersOf_18 : decode cX12_partnersOf 18 = .ok (.iconst 1, 1) := by decide +kernel
theorem dX12_partnersOf_19 : decode cX12_partnersOf 19 = .ok (.iadd, 1) := by decide +kernel
theorem dX12_partnersOf_20 : decode cX12_partnersOf 20 = .ok (.istore 5, 2) := by decide +kernel
theorem dX12_partnersOf_22 : decode cX12_partnersOf 22 = .ok (.iload 5, 2) := by decide +kernel
theorem dX12_partnersOf_24 : decode cX12_partnersOf 24 = .ok (.aload_n 0, 1) := by decide +kernel
theorem dX12_partnersOf_25 : decode cX12_partnersOf 25 = .ok (.getfield 425, 3) := by decide +kernel
theorem dX12_partnersOf_28 : decode cX12_partnersOf 28 = .ok (.if_icmp .ge 95, 3) := by decide +kernel
theorem dX12_partnersOf_31 : decode cX12_partnersOf 31 = .ok (.iload_n 3, 1) := by decide +kernel
theorem dX12_partnersOf_32 : decode cX12_partnersOf 32 = .ok (.aload_n 0, 1) := by decide +kernel
theorem dX12_partnersOf_33 : decode cX12_partnersOf 33 = .ok (.getfield 69, 3) := by decide +kernel
theorem dX12_partnersOf_36 : decode cX12_partnersOf 36 = .ok (.iload 5, 2) := by decide +kernel
theorem dX12_partnersOf_38 : decode cX12_partnersOf 38 = .ok (.iaload, 1) := by decide +kernel
theorem dX12_partnersOf_39 : decode cX12_partnersOf 39 = .ok (.ifCond .ne 7, 3) := by decide +kernel
theorem dX12_partnersOf_42 : decode cX12_partnersOf 42 = .ok (.iconst 1, 1) := by decide +kernel
theorem dX12_partnersOf_43 : decode cX12_partnersOf 43 = .ok (.goto 4, 3) := by decide +kernel
theorem dX12_partnersOf_46 : decode cX12_partnersOf 46 = .ok (.iconst 0, 1) := by decide +kernel
theorem dX12_partnersOf_47 : decode cX12_partnersOf 47 = .ok (.iadd, 1) := by decide +kernel
theorem dX12_partnersOf_48 : decode cX12_partnersOf 48 = .ok (.istore_n 3, 1) := by decide +kernel
theorem dX12_partnersOf_49 : decode cX12_partnersOf 49 = .ok (.aload_n 0, 1) := by decide +kernel
theorem dX12_partnersOf_50 : decode cX12_partnersOf 50 = .ok (.getfield 69, 3) := by decide +kernel
theorem dX12_partnersOf_53 : decode cX12_partnersOf 53 = .ok (.iload 5, 2) := by decide +kernel
theorem dX12_partnersOf_55 : decode cX12_partnersOf 55 = .ok (.iaload, 1) := by decide +kernel
theorem dX12_partnersOf_56 : decode cX12_partnersOf 56 = .ok (.ifCond .ne 8, 3) := by decide +kernel
theorem dX12_partnersOf_59 : decode cX12_partnersOf 59 = .ok (.iload_n 3, 1) := by decide +kernel
theorem dX12_partnersOf_60 : decode cX12_partnersOf 60 = .ok (.iconst 1, 1) := by decide +kernel
theorem dX12_partnersOf_61 : decode cX12_partnersOf 61 = .ok (.if_icmp .gt 56, 3) := by decide +kernel
theorem dX12_partnersOf_64 : decode cX12_partnersOf 64 = .ok (.aload_n 0, 1) := by decide +kernel
theorem dX12_partnersOf_65 : decode cX12_partnersOf 65 = .ok (.getfield 69, 3) := by decide +kernel
theorem dX12_partnersOf_68 : decode cX12_partnersOf 68 = .ok (.iload 5, 2) := by decide +kernel
theorem dX12_partnersOf_70 : decode cX12_partnersOf 70 = .ok (.iaload, 1) := by decide +kernel
theorem dX12_partnersOf_71 : decode cX12_partnersOf 71 = .ok (.invokestatic 434, 3) := by decide +kernel
theorem dX12_partnersOf_74 : decode cX12_partnersOf 74 = .ok (.aload_n 0, 1) := by decide +kernel
theorem dX12_partnersOf_75 : decode cX12_partnersOf 75 = .ok (.getfield 437, 3) := by decide +kernel
theorem dX12_partnersOf_78 : decode cX12_partnersOf 78 = .ok (.if_icmp .ge 39, 3) := by decide +kernel
theorem dX12_partnersOf_81 : decode cX12_partnersOf 81 = .ok (.iload 4, 2) := by decide +kernel
theorem dX12_partnersOf_83 : decode cX12_partnersOf 83 = .ok (.i2l, 1) := by decide +kernel
theorem dX12_partnersOf_84 : decode cX12_partnersOf 84 = .ok (.iload 5, 2) := by decide +kernel
theorem dX12_partnersOf_86 : decode cX12_partnersOf 86 = .ok (.invokestatic 274, 3) := by decide +kernel
theorem dX12_partnersOf_89 : decode cX12_partnersOf 89 = .ok (.ifCond .ne 28, 3) := by decide +kernel
theorem dX12_partnersOf_92 : decode cX12_partnersOf 92 = .ok (.aload_n 0, 1) := by decide +kernel
theorem dX12_partnersOf_93 : decode cX12_partnersOf 93 = .ok (.getfield 72, 3) := by decide +kernel
theorem dX12_partnersOf_96 : decode cX12_partnersOf 96 = .ok (.iload_n 1, 1) := by decide +kernel
theorem dX12_partnersOf_97 : decode cX12_partnersOf 97 = .ok (.iaload, 1) := by decide +kernel
theorem dX12_partnersOf_98 : decode cX12_partnersOf 98 = .ok (.i2l, 1) := by decide +kernel
theorem dX12_partnersOf_99 : decode cX12_partnersOf 99 = .ok (.iload 5, 2) := by decide +kernel
theorem dX12_partnersOf_101 : decode cX12_partnersOf 101 = .ok (.invokestatic 274, 3) := by decide +kernel
theorem dX12_partnersOf_104 : decode cX12_partnersOf 104 = .ok (.ifCond .eq 6, 3) := by decide +kernel
theorem dX12_partnersOf_107 : decode cX12_partnersOf 107 = .ok (.goto 10, 3) := by decide +kernel
theorem dX12_partnersOf_110 : decode cX12_partnersOf 110 = .ok (.iload_n 2, 1) := by decide +kernel
theorem dX12_partnersOf_111 : decode cX12_partnersOf 111 = .ok (.iconst 1, 1) := by decide +kernel
theorem dX12_partnersOf_112 : decode cX12_partnersOf 112 = .ok (.iload 5, 2) := by decide +kernel
theorem dX12_partnersOf_114 : decode cX12_partnersOf 114 = .ok (.ishl, 1) := by decide +kernel
theorem dX12_partnersOf_115 : decode cX12_partnersOf 115 = .ok (.ior, 1) := by decide +kernel
theorem dX12_partnersOf_116 : decode cX12_partnersOf 116 = .ok (.istore_n 2, 1) := by decide +kernel
theorem dX12_partnersOf_117 : decode cX12_partnersOf 117 = .ok (.iinc 5 1, 3) := by decide +kernel
theorem dX12_partnersOf_120 : decode cX12_partnersOf 120 = .ok (.goto (-98), 3) := by decide +kernel
theorem dX12_partnersOf_123 : decode cX12_partnersOf 123 = .ok (.iload_n 2, 1) := by decide +kernel
theorem dX12_partnersOf_124 : decode cX12_partnersOf 124 = .ok (.ireturn, 1) := by decide +kernel
def hX12_partnersOf_64 (f : Nat) (Φ : Int → aj_M → Prop) (K22 : List Nat → Int → Int → Int → Int → Int → aj_M → Prop) (q0 : List Nat) (v1 : Int) (v2 : Int) (v3 : Int) (v4 : Int) (v5 : Int) (m : aj_M) : Prop := (0 ≤ v5 ∧ v5 < 14) ∧ wX12_bitsOf f (fun z1 m1 => rI z1 ∧ rI (m1 q0 36) ∧ ((m1 q0 36) ≤ z1 → K22 q0 v1 v2 v3 v4 (v5 + 1) m1) ∧ (¬ ((m1 q0 36) ≤ z1) → rI v4 ∧ wX12_isIn f (fun z2 m2 => rI z2 ∧ (¬ z2 = 0 → K22 q0 v1 v2 v3 v4 (v5 + 1) m2) ∧ (z2 = 0 → (0 ≤ v1 ∧ v1 < 14) ∧ rI (m2 (35 :: q0) v1.toNat) ∧ wX12_isIn f (fun z3 m3 => rI z3 ∧ (z3 = 0 → K22 q0 v1 (aj_or v2 (aj_shl 1 v5)) v3 v4 (v5 + 1) m3) ∧ (¬ (z3 = 0) → K22 q0 v1 v2 v3 v4 (v5 + 1) m3)) (m2 (35 :: q0) v1.toNat) v5 m2)) v4 v5 m1)) (m (34 :: q0) v5.toNat) m
set_option maxHeartbeats 4000000 in
set_option maxRecDepth 100000 in
theorem tX12_partnersOf_64 {X : aj_T} {n f : Nat} {Φ : Int → aj_M → Prop} (C : aj_Cx X cX12_partnersOf RX12 6 (n + 2)) (K : aj_Rt X (some .int) (fun r m => ∃ z, r = some (vI z) ∧ Φ z m)) {K22 : List Nat → Int → Int → Int → Int → Int → aj_M → Prop} (HK22 : ∀ (q0 : List Nat) (v1 : Int) (v2 : Int) (v3 : Int) (v4 : Int) (v5 : Int) (m : aj_M) (hq0 : (.inl (12, q0) : aj_R) ∈ aj_pls), K22 q0 v1 v2 v3 v4 v5 m → aj_J X 22 [some (vO 12 q0), some (vI v1), some (vI v2), some (vI v3), some (vI v4), some (vI v5)] [] m) (q0 : List Nat) (v1 : Int) (v2 : Int) (v3 : Int) (v4 : Int) (v5 : Int) (m : aj_M) (hq0 : (.inl (12, q0) : aj_R) ∈ aj_pls) (h : hX12_partnersOf_64 f Φ K22 q0 v1 v2 v3 v4 v5 m) : aj_J X 64 [some (vO 12 q0), some (vI v1), some (vI v2), some (vI v3), some (vI v4), some (vI v5)] [] m := by
  unfold hX12_partnersOf_64 at h
  refine aj_aload_n C dX12_partnersOf_64 rfl ?_
  refine aj_getA (x := 0) (y := 14) C flX12_69 hq0 rfl dX12_partnersOf_65 ?_
  refine aj_iload C dX12_partnersOf_68 rfl ?_
  obtain ⟨r0, h⟩ := h
  refine aj_iald C (aj_ca (e := 0) (n := 14) (j := 34) hq0 (by decide) rfl) (by decide) r0 dX12_partnersOf_70 rfl ?_
  refine aj_callS (rest := []) C msX12_434 (sX12_bitsOf  h) (aj_np 1 (by decide +kernel) rfl) (Nat.le_of_ble_eq_true rfl) rfl dX12_partnersOf_71 (fun r m1 h => ?_)
  obtain ⟨z1, rfl, h⟩ := h
  refine aj_aload_n C dX12_partnersOf_74 rfl ?_
  refine aj_getI C flX12_437 hq0 (by decide) dX12_partnersOf_75 rfl ?_
  obtain ⟨r0, r1, h1, h2⟩ := h
  refine aj_icmp_ge (tgt := 117) C dX12_partnersOf_78 (by decide) r0 r1 (fun e => ?_) (fun e => ?_)
  · have h := h1 e
    refine aj_iinc (lv' := [some (vO 12 q0), some (vI v1), some (vI v2), some (vI v3), some (vI v4), some (vI (v5 + 1))]) C dX12_partnersOf_117 rfl (by decide) rfl ?_
    refine aj_goto (tgt := 22) C dX12_partnersOf_120 (by decide) ?_
    exact HK22 q0 v1 v2 v3 v4 (v5 + 1) _ hq0 h
  · have h := h2 e
    refine aj_iload C dX12_partnersOf_81 rfl ?_
    obtain ⟨r0, h⟩ := h
    refine aj_i2l C dX12_partnersOf_83 r0 ?_
    refine aj_iload C dX12_partnersOf_84 rfl ?_
    refine aj_callS (rest := []) C msX12_274 (sX12_isIn  h) (aj_np 2 (by decide +kernel) rfl) (Nat.le_of_ble_eq_true rfl) rfl dX12_partnersOf_86 (fun r m2 h => ?_)
    obtain ⟨z2, rfl, h⟩ := h
    obtain ⟨r0, h1, h2⟩ := h
    refine aj_if_ne (tgt := 117) C dX12_partnersOf_89 (by decide) r0 (fun e => ?_) (fun e => ?_)
    · have h := h1 e
      refine aj_iinc (lv' := [some (vO 12 q0), some (vI v1), some (vI v2), some (vI v3), some (vI v4), some (vI (v5 + 1))]) C dX12_partnersOf_117 rfl (by decide) rfl ?_
      refine aj_goto (tgt := 22) C dX12_partnersOf_120 (by decide) ?_
      exact HK22 q0 v1 v2 v3 v4 (v5 + 1) _ hq0 h
    · have h := h2 e
      refine aj_aload_n C dX12_partnersOf_92 rfl ?_
      refine aj_getA (x := 0) (y := 14) C flX12_72 hq0 rfl dX12_partnersOf_93 ?_
      refine aj_iload_n C dX12_partnersOf_96 rfl ?_
      obtain ⟨r0, h⟩ := h
      refine aj_iald C (aj_ca (e := 0) (n := 14) (j := 35) hq0 (by decide) rfl) (by decide) r0 dX12_partnersOf_97 rfl ?_
      obtain ⟨r0, h⟩ := h
      refine aj_i2l C dX12_partnersOf_98 r0 ?_
      refine aj_iload C dX12_partnersOf_99 rfl ?_
      refine aj_callS (rest := []) C msX12_274 (sX12_isIn  h) (aj_np 2 (by decide +kernel) rfl) (Nat.le_of_ble_eq_true rfl) rfl dX12_partnersOf_101 (fun r m3 h => ?_)
      obtain ⟨z3, rfl, h⟩ := h
      obtain ⟨r0, h1, h2⟩ := h
      refine aj_if_eq (tgt := 110) C dX12_partnersOf_104 (by decide) r0 (fun e => ?_) (fun e => ?_)
      · have h := h1 e
        refine aj_iload_n C dX12_partnersOf_110 rfl ?_
        refine aj_iconst C dX12_partnersOf_111 ?_
        refine aj_iload C dX12_partnersOf_112 rfl ?_
        refine aj_ishl C dX12_partnersOf_114 ?_
        refine aj_ior C dX12_partnersOf_115 ?_
        refine aj_istore_n (lv' := [some (vO 12 q0), some (vI v1), some (vI (aj_or v2 (aj_shl 1 v5))), some (vI v3), some (vI v4), some (vI v5)]) C dX12_partnersOf_116 (by decide) rfl ?_
        refine aj_iinc (lv' := [some (vO 12 q0), some (vI v1), some (vI (aj_or v2 (aj_shl 1 v5))), some (vI v3), some (vI v4), some (vI (v5 + 1))]) C dX12_partnersOf_117 rfl (by decide) rfl ?_
        refine aj_goto (tgt := 22) C dX12_partnersOf_120 (by decide) ?_
        exact HK22 q0 v1 (aj_or v2 (aj_shl 1 v5)) v3 v4 (v5 + 1) _ hq0 h
      · have h := h2 e
        refine aj_goto (tgt := 117) C dX12_partnersOf_107 (by decide) ?_
        refine aj_iinc (lv' := [some (vO 12 q0), some (vI v1), some (vI v2), some (vI v3), some (vI v4), some (vI (v5 + 1))]) C dX12_partnersOf_117 rfl (by decide) rfl ?_
        refine aj_goto (tgt := 22) C dX12_partnersOf_120 (by decide) ?_
        exact HK22 q0 v1 v2 v3 v4 (v5 + 1) _ hq0 h
def hX12_partnersOf_22 (f : Nat) (Φ : Int → aj_M → Prop) : Nat → List Nat → Int → Int → Int → Int → Int → aj_M → Prop
  | 0, _, _, _, _, _, _, _ => False
  | k + 1, q0, v1, v2, v3, v4, v5, m => rI v5 ∧ rI (m q0 38) ∧ ((m q0 38) ≤ v5 → Φ v2 m) ∧ (¬ ((m q0 38) ≤ v5) → (0 ≤ v5 ∧ v5 < 14) ∧ rI (m (34 :: q0) v5.toNat) ∧ (¬ (m (34 :: q0) v5.toNat) = 0 → (0 ≤ v5 ∧ v5 < 14) ∧ rI (m (34 :: q0) v5.toNat) ∧ (¬ (m (34 :: q0) v5.toNat) = 0 → hX12_partnersOf_64 f Φ (fun q0 v1 v2 v3 v4 v5 m => hX12_partnersOf_22 f Φ k q0 v1 v2 v3 v4 v5 m) q0 v1 v2 (v3 + 0) v4 v5 m) ∧ ((m (34 :: q0) v5.toNat) = 0 → rI (v3 + 0) ∧ (1 < (v3 + 0) → hX12_partnersOf_22 f Φ k q0 v1 v2 (v3 + 0) v4 (v5 + 1) m) ∧ (¬ (1 < (v3 + 0)) → hX12_partnersOf_64 f Φ (fun q0 v1 v2 v3 v4 v5 m => hX12_partnersOf_22 f Φ k q0 v1 v2 v3 v4 v5 m) q0 v1 v2 (v3 + 0) v4 v5 m))) ∧ ((m (34 :: q0) v5.toNat) = 0 → (0 ≤ v5 ∧ v5 < 14) ∧ rI (m (34 :: q0) v5.toNat) ∧ (¬ (m (34 :: q0) v5.toNat) = 0 → hX12_partnersOf_64 f Φ (fun q0 v1 v2 v3 v4 v5 m => hX12_partnersOf_22 f Φ k q0 v1 v2 v3 v4 v5 m) q0 v1 v2 (v3 + 1) v4 v5 m) ∧ ((m (34 :: q0) v5.toNat) = 0 → rI (v3 + 1) ∧ (1 < (v3 + 1) → hX12_partnersOf_22 f Φ k q0 v1 v2 (v3 + 1) v4 (v5 + 1) m) ∧ (¬ (1 < (v3 + 1)) → hX12_partnersOf_64 f Φ (fun q0 v1 v2 v3 v4 v5 m => hX12_partnersOf_22 f Φ k q0 v1 v2 v3 v4 v5 m) q0 v1 v2 (v3 + 1) v4 v5 m))))
set_option maxHeartbeats 4000000 in
set_option maxRecDepth 100000 in
theorem tX12_partnersOf_22 {X : aj_T} {n f : Nat} {Φ : Int → aj_M → Prop} (C : aj_Cx X cX12_partnersOf RX12 6 (n + 2)) (K : aj_Rt X (some .int) (fun r m => ∃ z, r = some (vI z) ∧ Φ z m)) : ∀ (k : Nat) (q0 : List Nat) (v1 : Int) (v2 : Int) (v3 : Int) (v4 : Int) (v5 : Int) (m : aj_M) (hq0 : (.inl (12, q0) : aj_R) ∈ aj_pls), hX12_partnersOf_22 f Φ k q0 v1 v2 v3 v4 v5 m → aj_J X 22 [some (vO 12 q0), some (vI v1), some (vI v2), some (vI v3), some (vI v4), some (vI v5)] [] m := by
  intro k
  induction k with
  | zero =>
    intro q0 v1 v2 v3 v4 v5 m _ h
    exact h.elim
  | succ k ih =>
    intro q0 v1 v2 v3 v4 v5 m hq0 h
    unfold hX12_partnersOf_22 at h
    refine aj_iload C dX12_partnersOf_22 rfl ?_
    refine aj_aload_n C dX12_partnersOf_24 rfl ?_
    refine aj_getI C flX12_425 hq0 (by decide) dX12_partnersOf_25 rfl ?_
    obtain ⟨r0, r1, h1, h2⟩ := h
    refine aj_icmp_ge (tgt := 123) C dX12_partnersOf_28 (by decide) r0 r1 (fun e => ?_) (fun e => ?_)
    · have h := h1 e
      refine aj_iload_n C dX12_partnersOf_123 rfl ?_
      exact aj_iret C K dX12_partnersOf_124 ⟨_, rfl, h⟩
    · have h := h2 e
      refine aj_iload_n C dX12_partnersOf_31 rfl ?_
      refine aj_aload_n C dX12_partnersOf_32 rfl ?_
      refine aj_getA (x := 0) (y := 14) C flX12_69 hq0 rfl dX12_partnersOf_33 ?_
      refine aj_iload C dX12_partnersOf_36 rfl ?_
      obtain ⟨r0, h⟩ := h
      refine aj_iald C (aj_ca (e := 0) (n := 14) (j := 34) hq0 (by decide) rfl) (by decide) r0 dX12_partnersOf_38 rfl ?_
      obtain ⟨r0, h1, h2⟩ := h
      refine aj_if_ne (tgt := 46) C dX12_partnersOf_39 (by decide) r0 (fun e => ?_) (fun e => ?_)
      · have h := h1 e
        refine aj_iconst C dX12_partnersOf_46 ?_
        refine aj_iadd C dX12_partnersOf_47 ?_
        refine aj_istore_n (lv' := [some (vO 12 q0), some (vI v1), some (vI v2), some (vI (v3 + 0)), some (vI v4), some (vI v5)]) C dX12_partnersOf_48 (by decide) rfl ?_
        refine aj_aload_n C dX12_partnersOf_49 rfl ?_
        refine aj_getA (x := 0) (y := 14) C flX12_69 hq0 rfl dX12_partnersOf_50 ?_
        refine aj_iload C dX12_partnersOf_53 rfl ?_
        obtain ⟨r0, h⟩ := h
        refine aj_iald C (aj_ca (e := 0) (n := 14) (j := 34) hq0 (by decide) rfl) (by decide) r0 dX12_partnersOf_55 rfl ?_
        obtain ⟨r0, h1, h2⟩ := h
        refine aj_if_ne (tgt := 64) C dX12_partnersOf_56 (by decide) r0 (fun e => ?_) (fun e => ?_)
        · have h := h1 e
          exact tX12_partnersOf_64 C K (fun q0 v1 v2 v3 v4 v5 m hq0 hh => ih q0 v1 v2 v3 v4 v5 m hq0 hh) q0 v1 v2 (v3 + 0) v4 v5 _ hq0 h
        · have h := h2 e
          refine aj_iload_n C dX12_partnersOf_59 rfl ?_
          refine aj_iconst C dX12_partnersOf_60 ?_
          obtain ⟨r0, h1, h2⟩ := h
          refine aj_icmp_gt (tgt := 117) C dX12_partnersOf_61 (by decide) r0 (by decide) (fun e => ?_) (fun e => ?_)
          · have h := h1 e
            refine aj_iinc (lv' := [some (vO 12 q0), some (vI v1), some (vI v2), some (vI (v3 + 0)), some (vI v4), some (vI (v5 + 1))]) C dX12_partnersOf_117 rfl (by decide) rfl ?_
            refine aj_goto (tgt := 22) C dX12_partnersOf_120 (by decide) ?_
            exact ih q0 v1 v2 (v3 + 0) v4 (v5 + 1) _ hq0 h
          · have h := h2 e
            exact tX12_partnersOf_64 C K (fun q0 v1 v2 v3 v4 v5 m hq0 hh => ih q0 v1 v2 v3 v4 v5 m hq0 hh) q0 v1 v2 (v3 + 0) v4 v5 _ hq0 h
      · have h := h2 e
        refine aj_iconst C dX12_partnersOf_42 ?_
        refine aj_goto (tgt := 47) C dX12_partnersOf_43 (by decide) ?_
        refine aj_iadd C dX12_partnersOf_47 ?_
        refine aj_istore_n (lv' := [some (vO 12 q0), some (vI v1), some (vI v2), some (vI (v3 + 1)), some (vI v4), some (vI v5)]) C dX12_partnersOf_48 (by decide) rfl ?_
        refine aj_aload_n C dX12_partnersOf_49 rfl ?_
        refine aj_getA (x := 0) (y := 14) C flX12_69 hq0 rfl dX12_partnersOf_50 ?_
        refine aj_iload C dX12_partnersOf_53 rfl ?_
        obtain ⟨r0, h⟩ := h
        refine aj_iald C (aj_ca (e := 0) (n := 14) (j := 34) hq0 (by decide) rfl) (by decide) r0 dX12_partnersOf_55 rfl ?_
        obtain ⟨r0, h1, h2⟩ := h
        refine aj_if_ne (tgt := 64) C dX12_partnersOf_56 (by decide) r0 (fun e => ?_) (fun e => ?_)
        · have h := h1 e
          exact tX12_partnersOf_64 C K (fun q0 v1 v2 v3 v4 v5 m hq0 hh => ih q0 v1 v2 v3 v4 v5 m hq0 hh) q0 v1 v2 (v3 + 1) v4 v5 _ hq0 h
        · have h := h2 e
          refine aj_iload_n C dX12_partnersOf_59 rfl ?_
          refine aj_iconst C dX12_partnersOf_60 ?_
          obtain ⟨r0, h1, h2⟩ := h
          refine aj_icmp_gt (tgt := 117) C dX12_partnersOf_61 (by decide) r0 (by decide) (fun e => ?_) (fun e => ?_)
          · have h := h1 e
            refine aj_iinc (lv' := [some (vO 12 q0), some (vI v1), some (vI v2), some (vI (v3 + 1)), some (vI v4), some (vI (v5 + 1))]) C dX12_partnersOf_117 rfl (by decide) rfl ?_
            refine aj_goto (tgt := 22) C dX12_partnersOf_120 (by decide) ?_
            exact ih q0 v1 v2 (v3 + 1) v4 (v5 + 1) _ hq0 h
          · have h := h2 e
            exact tX12_partnersOf_64 C K (fun q0 v1 v2 v3 v4 v5 m hq0 hh => ih q0 v1 v2 v3 v4 v5 m hq0 hh) q0 v1 v2 (v3 + 1) v4 v5 _ hq0 h
def wX12_partnersOf (f : Nat) (Φ : Int → aj_M → Prop) (q0 : List Nat) (v1 : Int) (m : aj_M) : Prop := wX12_ballOf f (fun z1 m1 => hX12_partnersOf_22 f Φ f q0 v1 0 0 z1 (v1 + 1) m1) q0 v1 ((m q0 37) - 2) m
set_option maxHeartbeats 4000000 in
set_option maxRecDepth 100000 in
theorem sX12_partnersOf {n f : Nat} {Φ : Int → aj_M → Prop} {q0 : List Nat} {v1 : Int} {m : aj_M} (hq0 : (.inl (12, q0) : aj_R) ∈ aj_pls) (h : wX12_partnersOf f Φ q0 v1 m) : aj_Ct (n + 2) yX12_partnersOf cX12_partnersOf 6 (some .int) [vO 12 q0, vI v1] m (fun r m => ∃ z, r = some (vI z) ∧ Φ z m) := by
  refine aj_met (lv := [some (vO 12 q0), some (vI v1), none, none, none, none]) (by decide +kernel) rfl (Nat.le_of_ble_eq_true rfl) (fun X C K => ?_)
  unfold wX12_partnersOf at h
  refine aj_iconst C dX12_partnersOf_0 ?_
  refine aj_istore_n (lv' := [some (vO 12 q0), some (vI v1), some (vI 0), none, none, none]) C dX12_partnersOf_1 (by decide) rfl ?_
  refine aj_iconst C dX12_partnersOf_2 ?_
  refine aj_istore_n (lv' := [some (vO 12 q0), some (vI v1), some (vI 0), some (vI 0), none, none]) C dX12_partnersOf_3 (by decide) rfl ?_
  refine aj_aload_n C dX12_partnersOf_4 rfl ?_
  refine aj_iload_n C dX12_partnersOf_5 rfl ?_
  refine aj_aload_n C dX12_partnersOf_6 rfl ?_
  refine aj_getI C flX12_428 hq0 (by decide) dX12_partnersOf_7 rfl ?_
  refine aj_iconst C dX12_partnersOf_10 ?_
  refine aj_isub C dX12_partnersOf_11 ?_
  refine aj_callV (rest := []) C mvX12_431 (sX12_ballOf hq0 h) hq0 (aj_np 2 (by decide +kernel) rfl) (Nat.le_of_ble_eq_true rfl) rfl dX12_partnersOf_12 (fun r m1 h => ?_)
  obtain ⟨z1, rfl, h⟩ := h
  refine aj_istore (lv' := [some (vO 12 q0), some (vI v1), some (vI 0), some (vI 0), some (vI z1), none]) C dX12_partnersOf_15 (by decide) rfl ?_
  refine aj_iload_n C dX12_partnersOf_17 rfl ?_
  refine aj_iconst C dX12_partnersOf_18 ?_
  refine aj_iadd C dX12_partnersOf_19 ?_
  refine aj_istore (lv' := [some (vO 12 q0), some (vI v1), some (vI 0), some (vI 0), some (vI z1), some (vI (v1 + 1))]) C dX12_partnersOf_20 (by decide) rfl ?_
  exact tX12_partnersOf_22 C K f q0 v1 0 0 z1 (v1 + 1) _ hq0 h
theorem dX12_joinsOrParts_0 : decode cX12_joinsOrParts 0 = .ok (.aload_n 0, 1) := by decide +kernel
theorem dX12_joinsOrParts_1 : decode cX12_joinsOrParts 1 = .ok (.getfield 69, 3) := by decide +kernel
theorem dX12_joinsOrParts_4 : decode cX12_joinsOrParts 4 = .ok (.iload_n 1, 1) := by decide +kernel
theorem dX12_joinsOrParts_5 : decode cX12_joinsOrParts 5 = .ok (.dup2, 1) := by decide +kernel
theorem dX12_joinsOrParts_6 : decode cX12_joinsOrParts 6 = .ok (.iaload, 1) := by decide +kernel
theorem dX12_joinsOrParts_7 : decode cX12_joinsOrParts 7 = .ok (.iconst 1, 1) := by decide +kernel
theorem dX12_joinsOrParts_8 : decode cX12_joinsOrParts 8 = .ok (.iload_n 2, 1) := by decide +kernel
theorem dX12_joinsOrParts_9 : decode cX12_joinsOrParts 9 = .ok (.ishl, 1) := by decide +kernel
theorem dX12_joinsOrParts_10 : decode cX12_joinsOrParts 10 = .ok (.ixor, 1) := by decide +kernel
theorem dX12_joinsOrParts_11 : decode cX12_joinsOrParts 11 = .ok (.iastore, 1) := by decide +kernel
theorem dX12_joinsOrParts_12 : decode cX12_joinsOrParts 12 = .ok (.aload_n 0, 1) := by decide +kernel
theorem dX12_joinsOrParts_13 : decode cX12_joinsOrParts 13 = .ok (.getfield 69, 3) := by decide +kernel
theorem dX12_joinsOrParts_16 : decode cX12_joinsOrParts 16 = .ok (.iload_n 2, 1) := by decide +kernel
theorem dX12_joinsOrParts_17 : decode cX12_joinsOrParts 17 = .ok (.dup2, 1) := by decide +kernel
theorem dX12_joinsOrParts_18 : decode cX12_joinsOrParts 18 = .ok (.iaload, 1) := by decide +kernel
theorem dX12_joinsOrParts_19 : decode cX12_joinsOrParts 19 = .ok (.iconst 1, 1) := by decide +kernel
theorem dX12_joinsOrParts_20 : decode cX12_joinsOrParts 20 = .ok (.iload_n 1, 1) := by decide +kernel
theorem dX12_joinsOrParts_21 : decode cX12_joinsOrParts 21 = .ok (.ishl, 1) := by decide +kernel
theorem dX12_joinsOrParts_22 : decode cX12_joinsOrParts 22 = .ok (.ixor, 1) := by decide +kernel
theorem dX12_joinsOrParts_23 : decode cX12_joinsOrParts 23 = .ok (.iastore, 1) := by decide +kernel
theorem dX12_joinsOrParts_24 : decode cX12_joinsOrParts 24 = .ok (.return_, 1) := by decide +kernel
def wX12_joinsOrParts (f : Nat) (Φ : aj_M → Prop) (q0 : List Nat) (v1 : Int) (v2 : Int) (m : aj_M) : Prop := (0 ≤ v1 ∧ v1 < 14) ∧ (0 ≤ v1 ∧ v1 < 14) ∧ ∀ m1, m1 = aj_u m (34 :: q0) v1.toNat (aj_xor (m (34 :: q0) v1.toNat) (aj_shl 1 v2)) → (0 ≤ v2 ∧ v2 < 14) ∧ (0 ≤ v2 ∧ v2 < 14) ∧ ∀ m2, m2 = aj_u m1 (34 :: q0) v2.toNat (aj_xor (m1 (34 :: q0) v2.toNat) (aj_shl 1 v1)) → Φ m2
set_option maxHeartbeats 4000000 in
set_option maxRecDepth 100000 in
theorem sX12_joinsOrParts {n f : Nat} {Φ : aj_M → Prop} {q0 : List Nat} {v1 : Int} {v2 : Int} {m : aj_M} (hq0 : (.inl (12, q0) : aj_R) ∈ aj_pls) (h : wX12_joinsOrParts f Φ q0 v1 v2 m) : aj_Ct n yX12_joinsOrParts cX12_joinsOrParts 3 none [vO 12 q0, vI v1, vI v2] m (fun r m => r = none ∧ Φ m) := by
  refine aj_met (lv := [some (vO 12 q0), some (vI v1), some (vI v2)]) (by decide +kernel) rfl (Nat.le_of_ble_eq_true rfl) (fun X C K => ?_)
  unfold wX12_joinsOrParts at h
  refine aj_aload_n C dX12_joinsOrParts_0 rfl ?_
  refine aj_getA (x := 0) (y := 14) C flX12_69 hq0 rfl dX12_joinsOrParts_1 ?_
  refine aj_iload_n C dX12_joinsOrParts_4 rfl ?_
  refine aj_dup2 C aj_nI aj_nR dX12_joinsOrParts_5 ?_
  obtain ⟨r0, h⟩ := h
  refine aj_iald C (aj_ca (e := 0) (n := 14) (j := 34) hq0 (by decide) rfl) (by decide) r0 dX12_joinsOrParts_6 rfl ?_
  refine aj_iconst C dX12_joinsOrParts_7 ?_
  refine aj_iload_n C dX12_joinsOrParts_8 rfl ?_
  refine aj_ishl C dX12_joinsOrParts_9 ?_
  refine aj_ixor C dX12_joinsOrParts_10 ?_
  obtain ⟨r0, h⟩ := h
  refine aj_iast C (aj_ca (e := 0) (n := 14) (j := 34) hq0 (by decide) rfl) (by decide) r0 dX12_joinsOrParts_11 ?_
  refine aj_nm (fun m1 e1 => ?_)
  have h := h m1 e1
  refine aj_aload_n C dX12_joinsOrParts_12 rfl ?_
  refine aj_getA (x := 0) (y := 14) C flX12_69 hq0 rfl dX12_joinsOrParts_13 ?_
  refine aj_iload_n C dX12_joinsOrParts_16 rfl ?_
  refine aj_dup2 C aj_nI aj_nR dX12_joinsOrParts_17 ?_
  obtain ⟨r0, h⟩ := h
  refine aj_iald C (aj_ca (e := 0) (n := 14) (j := 34) hq0 (by decide) rfl) (by decide) r0 dX12_joinsOrParts_18 rfl ?_
  refine aj_iconst C dX12_joinsOrParts_19 ?_
  refine aj_iload_n C dX12_joinsOrParts_20 rfl ?_
  refine aj_ishl C dX12_joinsOrParts_21 ?_
  refine aj_ixor C dX12_joinsOrParts_22 ?_
  obtain ⟨r0, h⟩ := h
  refine aj_iast C (aj_ca (e := 0) (n := 14) (j := 34) hq0 (by decide) rfl) (by decide) r0 dX12_joinsOrParts_23 ?_
  refine aj_nm (fun m2 e1 => ?_)
  have h := h m2 e1
  exact aj_vret C K dX12_joinsOrParts_24 ⟨rfl, h⟩
theorem dX12_isSearch_0 : decode cX12_isSearch 0 = .ok (.iload_n 0, 1) := by decide +kernel
theorem dX12_isSearch_1 : decode cX12_isSearch 1 = .ok (.i2l, 1) := by decide +kernel
theorem dX12_isSearch_2 : decode cX12_isSearch 2 = .ok (.ldc2_w 385, 3) := by decide +kernel
theorem dX12_isSearch_5 : decode cX12_isSearch 5 = .ok (.ldc2_w 216, 3) := by decide +kernel
theorem dX12_isSearch_8 : decode cX12_isSearch 8 = .ok (.invokestatic 154, 3) := by decide +kernel
theorem dX12_isSearch_11 : decode cX12_isSearch 11 = .ok (.ifCond .eq 33, 3) := by decide +kernel
theorem dX12_isSearch_14 : decode cX12_isSearch 14 = .ok (.iload_n 1, 1) := by decide +kernel
theorem dX12_isSearch_15 : decode cX12_isSearch 15 = .ok (.i2l, 1) := by decide +kernel
theorem dX12_isSearch_16 : decode cX12_isSearch 16 = .ok (.ldc2_w 328, 3) := by decide +kernel
theorem dX12_isSearch_19 : decode cX12_isSearch 19 = .ok (.ldc2_w 455, 3) := by decide +kernel
theorem dX12_isSearch_22 : decode cX12_isSearch 22 = .ok (.invokestatic 154, 3) := by decide +kernel
theorem dX12_isSearch_25 : decode cX12_isSearch 25 = .ok (.ifCond .eq 19, 3) := by decide +kernel
theorem dX12_isSearch_28 : decode cX12_isSearch 28 = .ok (.iload_n 2, 1) := by decide +kernel
theorem dX12_isSearch_29 : decode cX12_isSearch 29 = .ok (.i2l, 1) := by decide +kernel
theorem dX12_isSearch_30 : decode cX12_isSearch 30 = .ok (.lconst 1, 1) := by decide +kernel
theorem dX12_isSearch_31 : decode cX12_isSearch 31 = .ok (.ldc2_w 457, 3) := by decide +kernel
theorem dX12_isSearch_34 : decode cX12_isSearch 34 = .ok (.invokestatic 154, 3) := by decide +kernel
theorem dX12_isSearch_37 : decode cX12_isSearch 37 = .ok (.ifCond .eq 7, 3) := by decide +kernel
theorem dX12_isSearch_40 : decode cX12_isSearch 40 = .ok (.iconst 1, 1) := by decide +kernel
theorem dX12_isSearch_41 : decode cX12_isSearch 41 = .ok (.goto 4, 3) := by decide +kernel
theorem dX12_isSearch_44 : decode cX12_isSearch 44 = .ok (.iconst 0, 1) := by decide +kernel
theorem dX12_isSearch_45 : decode cX12_isSearch 45 = .ok (.ireturn, 1) := by decide +kernel
def wX12_isSearch (f : Nat) (Φ : Int → aj_M → Prop) (v0 : Int) (v1 : Int) (v2 : Int) (m : aj_M) : Prop := rI v0 ∧ wX12_within f (fun z1 m1 => rI z1 ∧ (z1 = 0 → Φ 0 m1) ∧ (¬ (z1 = 0) → rI v1 ∧ wX12_within f (fun z2 m2 => rI z2 ∧ (z2 = 0 → Φ 0 m2) ∧ (¬ (z2 = 0) → rI v2 ∧ wX12_within f (fun z3 m3 => rI z3 ∧ (z3 = 0 → Φ 0 m3) ∧ (¬ (z3 = 0) → Φ 1 m3)) v2 1 14 m2)) v1 3 8 m1)) v0 2 4 m
set_option maxHeartbeats 4000000 in
set_option maxRecDepth 100000 in
theorem sX12_isSearch {n f : Nat} {Φ : Int → aj_M → Prop} {v0 : Int} {v1 : Int} {v2 : Int} {m : aj_M}  (h : wX12_isSearch f Φ v0 v1 v2 m) : aj_Ct (n + 1) yX12_isSearch cX12_isSearch 3 (some .boolean) [vI v0, vI v1, vI v2] m (fun r m => ∃ z, r = some (vI z) ∧ Φ z m) := by
  refine aj_met (lv := [some (vI v0), some (vI v1), some (vI v2)]) (by decide +kernel) rfl (Nat.le_of_ble_eq_true rfl) (fun X C K => ?_)
  unfold wX12_isSearch at h
  refine aj_iload_n C dX12_isSearch_0 rfl ?_
  obtain ⟨r0, h⟩ := h
  refine aj_i2l C dX12_isSearch_1 r0 ?_
  refine aj_ldc2 (z := 2) C (aj_mem 2023 (by decide +kernel) (by decide +kernel)) rfl dX12_isSearch_2 ?_
  refine aj_ldc2 (z := 4) C (aj_mem 1728 (by decide +kernel) (by decide +kernel)) rfl dX12_isSearch_5 ?_
  refine aj_callS (rest := []) C msX12_154 (sX12_within  h) (aj_np 3 (by decide +kernel) rfl) (Nat.le_of_ble_eq_true rfl) rfl dX12_isSearch_8 (fun r m1 h => ?_)
  obtain ⟨z1, rfl, h⟩ := h
  obtain ⟨r0, h1, h2⟩ := h
  refine aj_if_eq (tgt := 44) C dX12_isSearch_11 (by decide) r0 (fun e => ?_) (fun e => ?_)
  · have h := h1 e
    refine aj_iconst C dX12_isSearch_44 ?_
    exact aj_zret C K (Or.inl rfl) dX12_isSearch_45 ⟨_, rfl, h⟩
  · have h := h2 e
    refine aj_iload_n C dX12_isSearch_14 rfl ?_
    obtain ⟨r0, h⟩ := h
    refine aj_i2l C dX12_isSearch_15 r0 ?_
    refine aj_ldc2 (z := 3) C (aj_mem 1841 (by decide +kernel) (by decide +kernel)) rfl dX12_isSearch_16 ?_
    refine aj_ldc2 (z := 8) C (aj_mem 2093 (by decide +kernel) (by decide +kernel)) rfl dX12_isSearch_19 ?_
    refine aj_callS (rest := []) C msX12_154 (sX12_within  h) (aj_np 3 (by decide +kernel) rfl) (Nat.le_of_ble_eq_true rfl) rfl dX12_isSearch_22 (fun r m2 h => ?_)
    obtain ⟨z2, rfl, h⟩ := h
    obtain ⟨r0, h1, h2⟩ := h
    refine aj_if_eq (tgt := 44) C dX12_isSearch_25 (by decide) r0 (fun e => ?_) (fun e => ?_)
    · have h := h1 e
      refine aj_iconst C dX12_isSearch_44 ?_
      exact aj_zret C K (Or.inl rfl) dX12_isSearch_45 ⟨_, rfl, h⟩
    · have h := h2 e
      refine aj_iload_n C dX12_isSearch_28 rfl ?_
      obtain ⟨r0, h⟩ := h
      refine aj_i2l C dX12_isSearch_29 r0 ?_
      refine aj_lconst (z := 1) C dX12_isSearch_30 rfl ?_
      refine aj_ldc2 (z := 14) C (aj_mem 2094 (by decide +kernel) (by decide +kernel)) rfl dX12_isSearch_31 ?_
      refine aj_callS (rest := []) C msX12_154 (sX12_within  h) (aj_np 3 (by decide +kernel) rfl) (Nat.le_of_ble_eq_true rfl) rfl dX12_isSearch_34 (fun r m3 h => ?_)
      obtain ⟨z3, rfl, h⟩ := h
      obtain ⟨r0, h1, h2⟩ := h
      refine aj_if_eq (tgt := 44) C dX12_isSearch_37 (by decide) r0 (fun e => ?_) (fun e => ?_)
      · have h := h1 e
        refine aj_iconst C dX12_isSearch_44 ?_
        exact aj_zret C K (Or.inl rfl) dX12_isSearch_45 ⟨_, rfl, h⟩
      · have h := h2 e
        refine aj_iconst C dX12_isSearch_40 ?_
        refine aj_goto (tgt := 45) C dX12_isSearch_41 (by decide) ?_
        exact aj_zret C K (Or.inr rfl) dX12_isSearch_45 ⟨_, rfl, h⟩
theorem dX12_noWeighed_0 : decode cX12_noWeighed 0 = .ok (.aload_n 0, 1) := by decide +kernel
theorem dX12_noWeighed_1 : decode cX12_noWeighed 1 = .ok (.iload_n 1, 1) := by decide +kernel
theorem dX12_noWeighed_2 : decode cX12_noWeighed 2 = .ok (.invokevirtual 330, 3) := by decide +kernel
theorem dX12_noWeighed_5 : decode cX12_noWeighed 5 = .ok (.istore_n 2, 1) := by decide +kernel
theorem dX12_noWeighed_6 : decode cX12_noWeighed 6 = .ok (.iload_n 2, 1) := by decide +kernel
theorem dX12_noWeighed_7 : decode cX12_noWeighed 7 = .ok (.ifCond .eq 5, 3) := by decide +kernel
theorem dX12_noWeighed_10 : decode cX12_noWeighed 10 = .ok (.iload_n 2, 1) := by decide +kernel
theorem dX12_noWeighed_11 : decode cX12_noWeighed 11 = .ok (.ireturn, 1) := by decide +kernel
theorem dX12_noWeighed_12 : decode cX12_noWeighed 12 = .ok (.aload_n 0, 1) := by decide +kernel
theorem dX12_noWeighed_13 : decode cX12_noWeighed 13 = .ok (.getfield 81, 3) := by decide +kernel
theorem dX12_noWeighed_16 : decode cX12_noWeighed 16 = .ok (.iload_n 1, 1) := by decide +kernel
theorem dX12_noWeighed_17 : decode cX12_noWeighed 17 = .ok (.iaload, 1) := by decide +kernel
theorem dX12_noWeighed_18 : decode cX12_noWeighed 18 = .ok (.i2l, 1) := by decide +kernel
theorem dX12_noWeighed_19 : decode cX12_noWeighed 19 = .ok (.lconst 1, 1) := by decide +kernel
theorem dX12_noWeighed_20 : decode cX12_noWeighed 20 = .ok (.ldc2_w 455, 3) := by decide +kernel
theorem dX12_noWeighed_23 : decode cX12_noWeighed 23 = .ok (.invokestatic 154, 3) := by decide +kernel
theorem dX12_noWeighed_26 : decode cX12_noWeighed 26 = .ok (.ifCond .ne 6, 3) := by decide +kernel
theorem dX12_noWeighed_29 : decode cX12_noWeighed 29 = .ok (.bipush (-4), 2) := by decide +kernel
theorem dX12_noWeighed_31 : decode cX12_noWeighed 31 = .ok (.ireturn, 1) := by decide +kernel
theorem dX12_noWeighed_32 : decode cX12_noWeighed 32 = .ok (.iconst 0, 1) := by decide +kernel
theorem dX12_noWeighed_33 : decode cX12_noWeighed 33 = .ok (.istore_n 3, 1) := by decide +kernel
theorem dX12_noWeighed_34 : decode cX12_noWeighed 34 = .ok (.iload_n 3, 1) := by decide +kernel
theorem dX12_noWeighed_35 : decode cX12_noWeighed 35 = .ok (.aload_n 0, 1) := by decide +kernel
theorem dX12_noWeighed_36 : decode cX12_noWeighed 36 = .ok (.getfield 81, 3) := by decide +kernel
theorem dX12_noWeighed_39 : decode cX12_noWeighed 39 = .ok (.iload_n 1, 1) := by decide +kernel
theorem dX12_noWeighed_40 : decode cX12_noWeighed 40 = .ok (.iaload, 1) := by decide +kernel
theorem dX12_noWeighed_41 : decode cX12_noWeighed 41 = .ok (.if_icmp .ge 73, 3) := by decide +kernel
theorem dX12_noWeighed_44 : decode cX12_noWeighed 44 = .ok (.aload_n 0, 1) := by decide +kernel
theorem dX12_noWeighed_45 : decode cX12_noWeighed 45 = .ok (.getfield 84, 3) := by decide +kernel
theorem dX12_noWeighed_48 : decode cX12_noWeighed 48 = .ok (.bipush 40, 2) := by decide +kernel
theorem dX12_noWeighed_50 : decode cX12_noWeighed 50 = .ok (.iload_n 1, 1) := by decide +kernel
theorem dX12_noWeighed_51 : decode cX12_noWeighed 51 = .ok (.imul, 1) := by decide +kernel
theorem dX12_noWeighed_52 : decode cX12_noWeighed 52 = .ok (.iload_n 3, 1) := by decide +kernel
theorem dX12_noWeighed_53 : decode cX12_noWeighed 53 = .ok (.iadd, 1) := by decide +kernel
theorem dX12_noWeighed_54 : decode cX12_noWeighed 54 = .ok (.laload, 1) := by decide +kernel
theorem dX12_noWeighed_55 : decode cX12_noWeighed 55 = .ok (.lstore 4, 2) := by decide +kernel
theorem dX12_noWeighed_57 : decode cX12_noWeighed 57 = .ok (.lload 4, 2) := by decide +kernel
theorem dX12_noWeighed_59 : decode cX12_noWeighed 59 = .ok (.lconst 0, 1) := by decide +kernel
theorem dX12_noWeighed_60 : decode cX12_noWeighed 60 = .ok (.lcmp, 1) := by decide +kernel
theorem dX12_noWeighed_61 : decode cX12_noWeighed 61 = .ok (.ifCond .lt 44, 3) := by decide +kernel
theorem dX12_noWeighed_64 : decode cX12_noWeighed 64 = .ok (.aload_n 0, 1) := by decide +kernel
theorem dX12_noWeighed_65 : decode cX12_noWeighed 65 = .ok (.lload 4, 2) := by decide +kernel
theorem dX12_noWeighed_67 : decode cX12_noWeighed 67 = .ok (.ldc2_w 466, 3) := by decide +kernel
theorem dX12_noWeighed_70 : decode cX12_noWeighed 70 = .ok (.ldiv, 1) := by decide +kernel
theorem dX12_noWeighed_71 : decode cX12_noWeighed 71 = .ok (.invokevirtual 291, 3) := by decide +kernel
theorem dX12_noWeighed_74 : decode cX12_noWeighed 74 = .ok (.ifCond .eq 31, 3) := by decide +kernel
theorem dX12_noWeighed_77 : decode cX12_noWeighed 77 = .ok (.aload_n 0, 1) := by decide +kernel
theorem dX12_noWeighed_78 : decode cX12_noWeighed 78 = .ok (.lload 4, 2) := by decide +kernel
theorem dX12_noWeighed_80 : decode cX12_noWeighed 80 = .ok (.ldc2_w 466, 3) := by decide +kernel
theorem dX12_noWeighed_83 : decode cX12_noWeighed 83 = .ok (.lrem, 1) := by decide +kernel
theorem dX12_noWeighed_84 : decode cX12_noWeighed 84 = .ok (.ldc2_w 310, 3) := by decide +kernel
theorem dX12_noWeighed_87 : decode cX12_noWeighed 87 = .ok (.ldiv, 1) := by decide +kernel
theorem dX12_noWeighed_88 : decode cX12_noWeighed 88 = .ok (.invokevirtual 205, 3) := by decide +kernel
theorem dX12_noWeighed_91 : decode cX12_noWeighed 91 = .ok (.ifCond .eq 14, 3) := by decide +kernel
theorem dX12_noWeighed_94 : decode cX12_noWeighed 94 = .ok (.lload 4, 2) := by decide +kernel
theorem dX12_noWeighed_96 : decode cX12_noWeighed 96 = .ok (.ldc2_w 310, 3) := by decide +kernel
theorem dX12_noWeighed_99 : decode cX12_noWeighed 99 = .ok (.lrem, 1) := by decide +kernel
theorem dX12_noWeighed_100 : decode cX12_noWeighed 100 = .ok (.lconst 0, 1) := by decide +kernel
theorem dX12_noWeighed_101 : decode cX12_noWeighed 101 = .ok (.lcmp, 1) := by decide +kernel
theorem dX12_noWeighed_102 : decode cX12_noWeighed 102 = .ok (.ifCond .ne 6, 3) := by decide +kernel
theorem dX12_noWeighed_105 : decode cX12_noWeighed 105 = .ok (.bipush (-3), 2) := by decide +kernel
theorem dX12_noWeighed_107 : decode cX12_noWeighed 107 = .ok (.ireturn, 1) := by decide +kernel
theorem dX12_noWeighed_108 : decode cX12_noWeighed 108 = .ok (.iinc 3 1, 3) := by decide +kernel
theorem dX12_noWeighed_111 : decode cX12_noWeighed 111 = .ok (.goto (-77), 3) := by decide +kernel
theorem dX12_noWeighed_114 : decode cX12_noWeighed 114 = .ok (.iconst 0, 1) := by decide +kernel
theorem dX12_noWeighed_115 : decode cX12_noWeighed 115 = .ok (.ireturn, 1) := by decide +kernel
def hX12_noWeighed_34 (f : Nat) (Φ : Int → aj_M → Prop) : Nat → List Nat → Int → Int → aj_M → Prop
  | 0, _, _, _, _ => False
  | k + 1, q0, v1, v3, m => (0 ≤ v1 ∧ v1 < 4) ∧ rI v3 ∧ rI (m (45 :: q0) v1.toNat) ∧ ((m (45 :: q0) v1.toNat) ≤ v3 → Φ 0 m) ∧ (¬ ((m (45 :: q0) v1.toNat) ≤ v3) → (0 ≤ ((40 * v1) + v3) ∧ ((40 * v1) + v3) < 160) ∧ rL (m (46 :: q0) ((40 * v1) + v3).toNat) ∧ ((m (46 :: q0) ((40 * v1) + v3).toNat) < 0 → Φ (-3) m) ∧ (¬ ((m (46 :: q0) ((40 * v1) + v3).toNat) < 0) → (0 ≤ (m (46 :: q0) ((40 * v1) + v3).toNat) ∧ (m (46 :: q0) ((40 * v1) + v3).toNat) < 9223372036854775808) ∧ wX12_isArc f (fun z1 m1 => rI z1 ∧ (z1 = 0 → Φ (-3) m1) ∧ (¬ (z1 = 0) → (0 ≤ (m (46 :: q0) ((40 * v1) + v3).toNat) ∧ (m (46 :: q0) ((40 * v1) + v3).toNat) < 9223372036854775808) ∧ (0 ≤ ((m (46 :: q0) ((40 * v1) + v3).toNat) % 10000) ∧ ((m (46 :: q0) ((40 * v1) + v3).toNat) % 10000) < 9223372036854775808) ∧ wX12_isMember f (fun z2 m2 => rI z2 ∧ (z2 = 0 → Φ (-3) m2) ∧ (¬ (z2 = 0) → (0 ≤ (m (46 :: q0) ((40 * v1) + v3).toNat) ∧ (m (46 :: q0) ((40 * v1) + v3).toNat) < 9223372036854775808) ∧ rL ((m (46 :: q0) ((40 * v1) + v3).toNat) % 100) ∧ (¬ ((m (46 :: q0) ((40 * v1) + v3).toNat) % 100) = 0 → hX12_noWeighed_34 f Φ k q0 v1 (v3 + 1) m2) ∧ (((m (46 :: q0) ((40 * v1) + v3).toNat) % 100) = 0 → Φ (-3) m2))) q0 (((m (46 :: q0) ((40 * v1) + v3).toNat) % 10000) / 100) m1)) q0 ((m (46 :: q0) ((40 * v1) + v3).toNat) / 10000) m))
set_option maxHeartbeats 4000000 in
set_option maxRecDepth 100000 in
theorem tX12_noWeighed_34 {X : aj_T} {n f : Nat} {Φ : Int → aj_M → Prop} (C : aj_Cx X cX12_noWeighed RX12 6 (n + 2)) (K : aj_Rt X (some .int) (fun r m => ∃ z, r = some (vI z) ∧ Φ z m)) : ∀ (k : Nat) (q0 : List Nat) (v1 : Int) (v3 : Int) (m : aj_M) (hq0 : (.inl (12, q0) : aj_R) ∈ aj_pls), hX12_noWeighed_34 f Φ k q0 v1 v3 m → aj_J X 34 [some (vO 12 q0), some (vI v1), none, some (vI v3), none, none] [] m := by
  intro k
  induction k with
  | zero =>
    intro q0 v1 v3 m _ h
    exact h.elim
  | succ k ih =>
    intro q0 v1 v3 m hq0 h
    unfold hX12_noWeighed_34 at h
    refine aj_iload_n C dX12_noWeighed_34 rfl ?_
    refine aj_aload_n C dX12_noWeighed_35 rfl ?_
    refine aj_getA (x := 0) (y := 4) C flX12_81 hq0 rfl dX12_noWeighed_36 ?_
    refine aj_iload_n C dX12_noWeighed_39 rfl ?_
    obtain ⟨r0, h⟩ := h
    refine aj_iald C (aj_ca (e := 0) (n := 4) (j := 45) hq0 (by decide) rfl) (by decide) r0 dX12_noWeighed_40 rfl ?_
    obtain ⟨r0, r1, h1, h2⟩ := h
    refine aj_icmp_ge (tgt := 114) C dX12_noWeighed_41 (by decide) r0 r1 (fun e => ?_) (fun e => ?_)
    · have h := h1 e
      refine aj_iconst C dX12_noWeighed_114 ?_
      exact aj_iret C K dX12_noWeighed_115 ⟨_, rfl, h⟩
    · have h := h2 e
      refine aj_aload_n C dX12_noWeighed_44 rfl ?_
      refine aj_getA (x := 3) (y := 160) C flX12_84 hq0 rfl dX12_noWeighed_45 ?_
      refine aj_bipush C dX12_noWeighed_48 (by decide) ?_
      refine aj_iload_n C dX12_noWeighed_50 rfl ?_
      refine aj_imul C dX12_noWeighed_51 ?_
      refine aj_iload_n C dX12_noWeighed_52 rfl ?_
      refine aj_iadd C dX12_noWeighed_53 ?_
      obtain ⟨r0, h⟩ := h
      refine aj_lald C (aj_ca (e := 3) (n := 160) (j := 46) hq0 (by decide) rfl) (by decide) r0 dX12_noWeighed_54 rfl ?_
      refine aj_lstore (lv' := [some (vO 12 q0), some (vI v1), none, some (vI v3), some (vL (m (46 :: q0) ((40 * v1) + v3).toNat)), none]) C dX12_noWeighed_55 (by decide) rfl ?_
      refine aj_lload C dX12_noWeighed_57 rfl ?_
      refine aj_lconst (z := 0) C dX12_noWeighed_59 rfl ?_
      obtain ⟨r0, h1, h2⟩ := h
      refine aj_lcmp_lt (tgt := 105) C dX12_noWeighed_60 dX12_noWeighed_61 (by decide) r0 (by decide) (fun e => ?_) (fun e => ?_)
      · have h := h1 e
        refine aj_bipush C dX12_noWeighed_105 (by decide) ?_
        exact aj_iret C K dX12_noWeighed_107 ⟨_, rfl, h⟩
      · have h := h2 e
        refine aj_aload_n C dX12_noWeighed_64 rfl ?_
        refine aj_lload C dX12_noWeighed_65 rfl ?_
        refine aj_ldc2 (z := 10000) C (aj_mem 2130 (by decide +kernel) (by decide +kernel)) rfl dX12_noWeighed_67 ?_
        obtain ⟨r0, h⟩ := h
        refine aj_ldivN C dX12_noWeighed_70 r0 (by decide) ?_
        refine aj_callV (rest := []) C mvX12_291 (sX12_isArc hq0 h) hq0 (aj_np 1 (by decide +kernel) rfl) (Nat.le_of_ble_eq_true rfl) rfl dX12_noWeighed_71 (fun r m1 h => ?_)
        obtain ⟨z1, rfl, h⟩ := h
        obtain ⟨r0, h1, h2⟩ := h
        refine aj_if_eq (tgt := 105) C dX12_noWeighed_74 (by decide) r0 (fun e => ?_) (fun e => ?_)
        · have h := h1 e
          refine aj_bipush C dX12_noWeighed_105 (by decide) ?_
          exact aj_iret C K dX12_noWeighed_107 ⟨_, rfl, h⟩
        · have h := h2 e
          refine aj_aload_n C dX12_noWeighed_77 rfl ?_
          refine aj_lload C dX12_noWeighed_78 rfl ?_
          refine aj_ldc2 (z := 10000) C (aj_mem 2130 (by decide +kernel) (by decide +kernel)) rfl dX12_noWeighed_80 ?_
          obtain ⟨r0, h⟩ := h
          refine aj_lremN C dX12_noWeighed_83 r0 (by decide) ?_
          refine aj_ldc2 (z := 100) C (aj_mem 1855 (by decide +kernel) (by decide +kernel)) rfl dX12_noWeighed_84 ?_
          obtain ⟨r0, h⟩ := h
          refine aj_ldivN C dX12_noWeighed_87 r0 (by decide) ?_
          refine aj_callV (rest := []) C mvX12_205 (sX12_isMember hq0 h) hq0 (aj_np 1 (by decide +kernel) rfl) (Nat.le_of_ble_eq_true rfl) rfl dX12_noWeighed_88 (fun r m2 h => ?_)
          obtain ⟨z2, rfl, h⟩ := h
          obtain ⟨r0, h1, h2⟩ := h
          refine aj_if_eq (tgt := 105) C dX12_noWeighed_91 (by decide) r0 (fun e => ?_) (fun e => ?_)
          · have h := h1 e
            refine aj_bipush C dX12_noWeighed_105 (by decide) ?_
            exact aj_iret C K dX12_noWeighed_107 ⟨_, rfl, h⟩
          · have h := h2 e
            refine aj_lload C dX12_noWeighed_94 rfl ?_
            refine aj_ldc2 (z := 100) C (aj_mem 1855 (by decide +kernel) (by decide +kernel)) rfl dX12_noWeighed_96 ?_
            obtain ⟨r0, h⟩ := h
            refine aj_lremN C dX12_noWeighed_99 r0 (by decide) ?_
            refine aj_lconst (z := 0) C dX12_noWeighed_100 rfl ?_
            obtain ⟨r0, h1, h2⟩ := h
            refine aj_lcmp_ne (tgt := 108) C dX12_noWeighed_101 dX12_noWeighed_102 (by decide) r0 (by decide) (fun e => ?_) (fun e => ?_)
            · have h := h1 e
              refine aj_iinc (lv' := [some (vO 12 q0), some (vI v1), none, some (vI (v3 + 1)), some (vL (m (46 :: q0) ((40 * v1) + v3).toNat)), none]) C dX12_noWeighed_108 rfl (by decide) rfl ?_
              refine aj_goto (tgt := 34) C dX12_noWeighed_111 (by decide) ?_
              refine aj_wk (lv' := [some (vO 12 q0), some (vI v1), none, some (vI (v3 + 1)), none, none]) (⟨rfl, ⟨rfl, ⟨rfl, trivial⟩⟩⟩) ?_
              exact ih q0 v1 (v3 + 1) _ hq0 h
            · have h := h2 e
              refine aj_bipush C dX12_noWeighed_105 (by decide) ?_
              exact aj_iret C K dX12_noWeighed_107 ⟨_, rfl, h⟩
def wX12_noWeighed (f : Nat) (Φ : Int → aj_M → Prop) (q0 : List Nat) (v1 : Int) (m : aj_M) : Prop := wX12_noTray f (fun z1 m1 => rI z1 ∧ (z1 = 0 → (0 ≤ v1 ∧ v1 < 4) ∧ rI (m1 (45 :: q0) v1.toNat) ∧ wX12_within f (fun z2 m2 => rI z2 ∧ (¬ z2 = 0 → hX12_noWeighed_34 f Φ f q0 v1 0 m2) ∧ (z2 = 0 → Φ (-4) m2)) (m1 (45 :: q0) v1.toNat) 1 8 m1) ∧ (¬ (z1 = 0) → Φ z1 m1)) q0 v1 m
set_option maxHeartbeats 4000000 in
set_option maxRecDepth 100000 in
theorem sX12_noWeighed {n f : Nat} {Φ : Int → aj_M → Prop} {q0 : List Nat} {v1 : Int} {m : aj_M} (hq0 : (.inl (12, q0) : aj_R) ∈ aj_pls) (h : wX12_noWeighed f Φ q0 v1 m) : aj_Ct (n + 2) yX12_noWeighed cX12_noWeighed 6 (some .int) [vO 12 q0, vI v1] m (fun r m => ∃ z, r = some (vI z) ∧ Φ z m) := by
  refine aj_met (lv := [some (vO 12 q0), some (vI v1), none, none, none, none]) (by decide +kernel) rfl (Nat.le_of_ble_eq_true rfl) (fun X C K => ?_)
  unfold wX12_noWeighed at h
  refine aj_aload_n C dX12_noWeighed_0 rfl ?_
  refine aj_iload_n C dX12_noWeighed_1 rfl ?_
  refine aj_callV (rest := []) C mvX12_330 (sX12_noTray hq0 h) hq0 (aj_np 1 (by decide +kernel) rfl) (Nat.le_of_ble_eq_true rfl) rfl dX12_noWeighed_2 (fun r m1 h => ?_)
  obtain ⟨z1, rfl, h⟩ := h
  refine aj_istore_n (lv' := [some (vO 12 q0), some (vI v1), some (vI z1), none, none, none]) C dX12_noWeighed_5 (by decide) rfl ?_
  refine aj_iload_n C dX12_noWeighed_6 rfl ?_
  obtain ⟨r0, h1, h2⟩ := h
  refine aj_if_eq (tgt := 12) C dX12_noWeighed_7 (by decide) r0 (fun e => ?_) (fun e => ?_)
  · have h := h1 e
    refine aj_aload_n C dX12_noWeighed_12 rfl ?_
    refine aj_getA (x := 0) (y := 4) C flX12_81 hq0 rfl dX12_noWeighed_13 ?_
    refine aj_iload_n C dX12_noWeighed_16 rfl ?_
    obtain ⟨r0, h⟩ := h
    refine aj_iald C (aj_ca (e := 0) (n := 4) (j := 45) hq0 (by decide) rfl) (by decide) r0 dX12_noWeighed_17 rfl ?_
    obtain ⟨r0, h⟩ := h
    refine aj_i2l C dX12_noWeighed_18 r0 ?_
    refine aj_lconst (z := 1) C dX12_noWeighed_19 rfl ?_
    refine aj_ldc2 (z := 8) C (aj_mem 2093 (by decide +kernel) (by decide +kernel)) rfl dX12_noWeighed_20 ?_
    refine aj_callS (rest := []) C msX12_154 (sX12_within  h) (aj_np 3 (by decide +kernel) rfl) (Nat.le_of_ble_eq_true rfl) rfl dX12_noWeighed_23 (fun r m2 h => ?_)
    obtain ⟨z2, rfl, h⟩ := h
    obtain ⟨r0, h1, h2⟩ := h
    refine aj_if_ne (tgt := 32) C dX12_noWeighed_26 (by decide) r0 (fun e => ?_) (fun e => ?_)
    · have h := h1 e
      refine aj_iconst C dX12_noWeighed_32 ?_
      refine aj_istore_n (lv' := [some (vO 12 q0), some (vI v1), some (vI z1), some (vI 0), none, none]) C dX12_noWeighed_33 (by decide) rfl ?_
      refine aj_wk (lv' := [some (vO 12 q0), some (vI v1), none, some (vI 0), none, none]) (⟨rfl, ⟨rfl, ⟨rfl, trivial⟩⟩⟩) ?_
      exact tX12_noWeighed_34 C K f q0 v1 0 _ hq0 h
    · have h := h2 e
      refine aj_bipush C dX12_noWeighed_29 (by decide) ?_
      exact aj_iret C K dX12_noWeighed_31 ⟨_, rfl, h⟩
  · have h := h2 e
    refine aj_iload_n C dX12_noWeighed_10 rfl ?_
    exact aj_iret C K dX12_noWeighed_11 ⟨_, rfl, h⟩
