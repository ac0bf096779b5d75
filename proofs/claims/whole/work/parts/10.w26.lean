theorem dX12_laysTune_0 : decode cX12_laysTune 0 = .ok (.aload_n 0, 1) := by decide +kernel
theorem dX12_laysTune_1 : decode cX12_laysTune 1 = .ok (.getfield 13, 3) := by decide +kernel
theorem dX12_laysTune_4 : decode cX12_laysTune 4 = .ok (.bipush 49, 2) := by decide +kernel
theorem dX12_laysTune_6 : decode cX12_laysTune 6 = .ok (.iload_n 1, 1) := by decide +kernel
theorem dX12_laysTune_7 : decode cX12_laysTune 7 = .ok (.iadd, 1) := by decide +kernel
theorem dX12_laysTune_8 : decode cX12_laysTune 8 = .ok (.iaload, 1) := by decide +kernel
theorem dX12_laysTune_9 : decode cX12_laysTune 9 = .ok (.istore_n 2, 1) := by decide +kernel
theorem dX12_laysTune_10 : decode cX12_laysTune 10 = .ok (.iconst (-1), 1) := by decide +kernel
theorem dX12_laysTune_11 : decode cX12_laysTune 11 = .ok (.istore_n 3, 1) := by decide +kernel
theorem dX12_laysTune_12 : decode cX12_laysTune 12 = .ok (.aload_n 0, 1) := by decide +kernel
theorem dX12_laysTune_13 : decode cX12_laysTune 13 = .ok (.iconst (-1), 1) := by decide +kernel
theorem dX12_laysTune_14 : decode cX12_laysTune 14 = .ok (.putfield 419, 3) := by decide +kernel
theorem dX12_laysTune_17 : decode cX12_laysTune 17 = .ok (.iconst 0, 1) := by decide +kernel
theorem dX12_laysTune_18 : decode cX12_laysTune 18 = .ok (.istore 4, 2) := by decide +kernel
theorem dX12_laysTune_20 : decode cX12_laysTune 20 = .ok (.iload 4, 2) := by decide +kernel
theorem dX12_laysTune_22 : decode cX12_laysTune 22 = .ok (.aload_n 0, 1) := by decide +kernel
theorem dX12_laysTune_23 : decode cX12_laysTune 23 = .ok (.getfield 13, 3) := by decide +kernel
theorem dX12_laysTune_26 : decode cX12_laysTune 26 = .ok (.iconst 4, 1) := by decide +kernel
theorem dX12_laysTune_27 : decode cX12_laysTune 27 = .ok (.iaload, 1) := by decide +kernel
theorem dX12_laysTune_28 : decode cX12_laysTune 28 = .ok (.if_icmp .ge 66, 3) := by decide +kernel
theorem dX12_laysTune_31 : decode cX12_laysTune 31 = .ok (.aload_n 0, 1) := by decide +kernel
theorem dX12_laysTune_32 : decode cX12_laysTune 32 = .ok (.iload_n 1, 1) := by decide +kernel
theorem dX12_laysTune_33 : decode cX12_laysTune 33 = .ok (.i2l, 1) := by decide +kernel
theorem dX12_laysTune_34 : decode cX12_laysTune 34 = .ok (.iload 4, 2) := by decide +kernel
theorem dX12_laysTune_36 : decode cX12_laysTune 36 = .ok (.i2l, 1) := by decide +kernel
theorem dX12_laysTune_37 : decode cX12_laysTune 37 = .ok (.invokevirtual 294, 3) := by decide +kernel
theorem dX12_laysTune_40 : decode cX12_laysTune 40 = .ok (.ifCond .eq 6, 3) := by decide +kernel
theorem dX12_laysTune_43 : decode cX12_laysTune 43 = .ok (.goto 45, 3) := by decide +kernel
theorem dX12_laysTune_46 : decode cX12_laysTune 46 = .ok (.aload_n 0, 1) := by decide +kernel
theorem dX12_laysTune_47 : decode cX12_laysTune 47 = .ok (.getfield 13, 3) := by decide +kernel
theorem dX12_laysTune_50 : decode cX12_laysTune 50 = .ok (.bipush 49, 2) := by decide +kernel
theorem dX12_laysTune_52 : decode cX12_laysTune 52 = .ok (.iload_n 1, 1) := by decide +kernel
theorem dX12_laysTune_53 : decode cX12_laysTune 53 = .ok (.iadd, 1) := by decide +kernel
theorem dX12_laysTune_54 : decode cX12_laysTune 54 = .ok (.iload 4, 2) := by decide +kernel
theorem dX12_laysTune_56 : decode cX12_laysTune 56 = .ok (.iastore, 1) := by decide +kernel
theorem dX12_laysTune_57 : decode cX12_laysTune 57 = .ok (.aload_n 0, 1) := by decide +kernel
theorem dX12_laysTune_58 : decode cX12_laysTune 58 = .ok (.invokevirtual 336, 3) := by decide +kernel
theorem dX12_laysTune_61 : decode cX12_laysTune 61 = .ok (.aload_n 0, 1) := by decide +kernel
theorem dX12_laysTune_62 : decode cX12_laysTune 62 = .ok (.invokevirtual 342, 3) := by decide +kernel
theorem dX12_laysTune_65 : decode cX12_laysTune 65 = .ok (.istore 5, 2) := by decide +kernel
theorem dX12_laysTune_67 : decode cX12_laysTune 67 = .ok (.iload 5, 2) := by decide +kernel
theorem dX12_laysTune_69 : decode cX12_laysTune 69 = .ok (.aload_n 0, 1) := by decide +kernel
theorem dX12_laysTune_70 : decode cX12_laysTune 70 = .ok (.getfield 419, 3) := by decide +kernel
theorem dX12_laysTune_73 : decode cX12_laysTune 73 = .ok (.if_icmp .gt 6, 3) := by decide +kernel
theorem dX12_laysTune_76 : decode cX12_laysTune 76 = .ok (.goto 12, 3) := by decide +kernel
theorem dX12_laysTune_79 : decode cX12_laysTune 79 = .ok (.iload 4, 2) := by decide +kernel
theorem dX12_laysTune_81 : decode cX12_laysTune 81 = .ok (.istore_n 3, 1) := by decide +kernel
theorem dX12_laysTune_82 : decode cX12_laysTune 82 = .ok (.aload_n 0, 1) := by decide +kernel
theorem dX12_laysTune_83 : decode cX12_laysTune 83 = .ok (.iload 5, 2) := by decide +kernel
theorem dX12_laysTune_85 : decode cX12_laysTune 85 = .ok (.putfield 419, 3) := by decide +kernel
theorem dX12_laysTune_88 : decode cX12_laysTune 88 = .ok (.iinc 4 1, 3) := by decide +kernel
theorem dX12_laysTune_91 : decode cX12_laysTune 91 = .ok (.goto (-71), 3) := by decide +kernel
theorem dX12_laysTune_94 : decode cX12_laysTune 94 = .ok (.aload_n 0, 1) := by decide +kernel
theorem dX12_laysTune_95 : decode cX12_laysTune 95 = .ok (.getfield 13, 3) := by decide +kernel
theorem dX12_laysTune_98 : decode cX12_laysTune 98 = .ok (.bipush 49, 2) := by decide +kernel
theorem dX12_laysTune_100 : decode cX12_laysTune 100 = .ok (.iload_n 1, 1) := by decide +kernel
theorem dX12_laysTune_101 : decode cX12_laysTune 101 = .ok (.iadd, 1) := by decide +kernel
theorem dX12_laysTune_102 : decode cX12_laysTune 102 = .ok (.iload_n 2, 1) := by decide +kernel
theorem dX12_laysTune_103 : decode cX12_laysTune 103 = .ok (.iastore, 1) := by decide +kernel
theorem dX12_laysTune_104 : decode cX12_laysTune 104 = .ok (.iload_n 3, 1) := by decide +kernel
theorem dX12_laysTune_105 : decode cX12_laysTune 105 = .ok (.ireturn, 1) := by decide +kernel
def hX12_laysTune_20 (f : Nat) (Φ : Int → aj_M → Prop) : Nat → List Nat → Int → Int → Int → Int → aj_M → Prop
  | 0, _, _, _, _, _, _ => False
  | k + 1, q0, v1, v2, v3, v4, m => rI v4 ∧ rI (m (1 :: q0) (4 : Int).toNat) ∧ ((m (1 :: q0) (4 : Int).toNat) ≤ v4 → (0 ≤ (49 + v1) ∧ (49 + v1) < 3315) ∧ ∀ m1, m1 = aj_u m (1 :: q0) (49 + v1).toNat v2 → Φ v3 m1) ∧ (¬ ((m (1 :: q0) (4 : Int).toNat) ≤ v4) → rI v1 ∧ rI v4 ∧ wX12_whyTurn f (fun z1 m2 => rI z1 ∧ (z1 = 0 → (0 ≤ (49 + v1) ∧ (49 + v1) < 3315) ∧ ∀ m3, m3 = aj_u m2 (1 :: q0) (49 + v1).toNat v4 → wX12_laysNet f (fun m4 => wX12_girthNow f (fun z3 m5 => rI z3 ∧ rI (m5 q0 33) ∧ ((m5 q0 33) < z3 → ∀ m6, m6 = aj_u m5 q0 33 z3 → hX12_laysTune_20 f Φ k q0 v1 v2 v4 (v4 + 1) m6) ∧ (¬ ((m5 q0 33) < z3) → hX12_laysTune_20 f Φ k q0 v1 v2 v3 (v4 + 1) m5)) q0 m4) q0 m3) ∧ (¬ (z1 = 0) → hX12_laysTune_20 f Φ k q0 v1 v2 v3 (v4 + 1) m2)) q0 v1 v4 m)
set_option maxHeartbeats 4000000 in
set_option maxRecDepth 100000 in
theorem tX12_laysTune_20 {X : aj_T} {n f : Nat} {Φ : Int → aj_M → Prop} (C : aj_Cx X cX12_laysTune RX12 6 (n + 6)) (K : aj_Rt X (some .int) (fun r m => ∃ z, r = some (vI z) ∧ Φ z m)) : ∀ (k : Nat) (q0 : List Nat) (v1 : Int) (v2 : Int) (v3 : Int) (v4 : Int) (m : aj_M) (hq0 : (.inl (12, q0) : aj_R) ∈ aj_pls), hX12_laysTune_20 f Φ k q0 v1 v2 v3 v4 m → aj_J X 20 [some (vO 12 q0), some (vI v1), some (vI v2), some (vI v3), some (vI v4), none] [] m := by
  intro k
  induction k with
  | zero =>
    intro q0 v1 v2 v3 v4 m _ h
    exact h.elim
  | succ k ih =>
    intro q0 v1 v2 v3 v4 m hq0 h
    unfold hX12_laysTune_20 at h
    refine aj_iload C dX12_laysTune_20 rfl ?_
    refine aj_aload_n C dX12_laysTune_22 rfl ?_
    refine aj_getA (x := 0) (y := 3315) C flX12_13 hq0 rfl dX12_laysTune_23 ?_
    refine aj_iconst C dX12_laysTune_26 ?_
    refine aj_iald C (aj_ca (e := 0) (n := 3315) (j := 1) hq0 (by decide) rfl) (by decide) (by decide) dX12_laysTune_27 rfl ?_
    obtain ⟨r0, r1, h1, h2⟩ := h
    refine aj_icmp_ge (tgt := 94) C dX12_laysTune_28 (by decide) r0 r1 (fun e => ?_) (fun e => ?_)
    · have h := h1 e
      refine aj_aload_n C dX12_laysTune_94 rfl ?_
      refine aj_getA (x := 0) (y := 3315) C flX12_13 hq0 rfl dX12_laysTune_95 ?_
      refine aj_bipush C dX12_laysTune_98 (by decide) ?_
      refine aj_iload_n C dX12_laysTune_100 rfl ?_
      refine aj_iadd C dX12_laysTune_101 ?_
      refine aj_iload_n C dX12_laysTune_102 rfl ?_
      obtain ⟨r0, h⟩ := h
      refine aj_iast C (aj_ca (e := 0) (n := 3315) (j := 1) hq0 (by decide) rfl) (by decide) r0 dX12_laysTune_103 ?_
      refine aj_nm (fun m1 e1 => ?_)
      have h := h m1 e1
      refine aj_iload_n C dX12_laysTune_104 rfl ?_
      exact aj_iret C K dX12_laysTune_105 ⟨_, rfl, h⟩
    · have h := h2 e
      refine aj_aload_n C dX12_laysTune_31 rfl ?_
      refine aj_iload_n C dX12_laysTune_32 rfl ?_
      obtain ⟨r0, h⟩ := h
      refine aj_i2l C dX12_laysTune_33 r0 ?_
      refine aj_iload C dX12_laysTune_34 rfl ?_
      obtain ⟨r0, h⟩ := h
      refine aj_i2l C dX12_laysTune_36 r0 ?_
      refine aj_callV (rest := []) C mvX12_294 (sX12_whyTurn hq0 h) hq0 (aj_np 2 (by decide +kernel) rfl) (Nat.le_of_ble_eq_true rfl) rfl dX12_laysTune_37 (fun r m2 h => ?_)
      obtain ⟨z1, rfl, h⟩ := h
      obtain ⟨r0, h1, h2⟩ := h
      refine aj_if_eq (tgt := 46) C dX12_laysTune_40 (by decide) r0 (fun e => ?_) (fun e => ?_)
      · have h := h1 e
        refine aj_aload_n C dX12_laysTune_46 rfl ?_
        refine aj_getA (x := 0) (y := 3315) C flX12_13 hq0 rfl dX12_laysTune_47 ?_
        refine aj_bipush C dX12_laysTune_50 (by decide) ?_
        refine aj_iload_n C dX12_laysTune_52 rfl ?_
        refine aj_iadd C dX12_laysTune_53 ?_
        refine aj_iload C dX12_laysTune_54 rfl ?_
        obtain ⟨r0, h⟩ := h
        refine aj_iast C (aj_ca (e := 0) (n := 3315) (j := 1) hq0 (by decide) rfl) (by decide) r0 dX12_laysTune_56 ?_
        refine aj_nm (fun m3 e1 => ?_)
        have h := h m3 e1
        refine aj_aload_n C dX12_laysTune_57 rfl ?_
        refine aj_callV (rest := []) C mvX12_336 (sX12_laysNet hq0 h) hq0 (aj_np 0 (by decide +kernel) rfl) (Nat.le_of_ble_eq_true rfl) rfl dX12_laysTune_58 (fun r m4 h => ?_)
        obtain ⟨rfl, h⟩ := h
        refine aj_aload_n C dX12_laysTune_61 rfl ?_
        refine aj_callV (rest := []) C mvX12_342 (sX12_girthNow hq0 h) hq0 (aj_np 0 (by decide +kernel) rfl) (Nat.le_of_ble_eq_true rfl) rfl dX12_laysTune_62 (fun r m5 h => ?_)
        obtain ⟨z3, rfl, h⟩ := h
        refine aj_istore (lv' := [some (vO 12 q0), some (vI v1), some (vI v2), some (vI v3), some (vI v4), some (vI z3)]) C dX12_laysTune_65 (by decide) rfl ?_
        refine aj_iload C dX12_laysTune_67 rfl ?_
        refine aj_aload_n C dX12_laysTune_69 rfl ?_
        refine aj_getI C flX12_419 hq0 (by decide) dX12_laysTune_70 rfl ?_
        obtain ⟨r0, r1, h1, h2⟩ := h
        refine aj_icmp_gt (tgt := 79) C dX12_laysTune_73 (by decide) r0 r1 (fun e => ?_) (fun e => ?_)
        · have h := h1 e
          refine aj_iload C dX12_laysTune_79 rfl ?_
          refine aj_istore_n (lv' := [some (vO 12 q0), some (vI v1), some (vI v2), some (vI v4), some (vI v4), some (vI z3)]) C dX12_laysTune_81 (by decide) rfl ?_
          refine aj_aload_n C dX12_laysTune_82 rfl ?_
          refine aj_iload C dX12_laysTune_83 rfl ?_
          refine aj_putI C fpX12_419 hq0 rfl dX12_laysTune_85 ?_
          refine aj_nm (fun m6 e1 => ?_)
          have h := h m6 e1
          refine aj_iinc (lv' := [some (vO 12 q0), some (vI v1), some (vI v2), some (vI v4), some (vI (v4 + 1)), some (vI z3)]) C dX12_laysTune_88 rfl (by decide) rfl ?_
          refine aj_goto (tgt := 20) C dX12_laysTune_91 (by decide) ?_
          refine aj_wk (lv' := [some (vO 12 q0), some (vI v1), some (vI v2), some (vI v4), some (vI (v4 + 1)), none]) (⟨rfl, ⟨rfl, ⟨rfl, ⟨rfl, ⟨rfl, trivial⟩⟩⟩⟩⟩) ?_
          exact ih q0 v1 v2 v4 (v4 + 1) _ hq0 h
        · have h := h2 e
          refine aj_goto (tgt := 88) C dX12_laysTune_76 (by decide) ?_
          refine aj_iinc (lv' := [some (vO 12 q0), some (vI v1), some (vI v2), some (vI v3), some (vI (v4 + 1)), some (vI z3)]) C dX12_laysTune_88 rfl (by decide) rfl ?_
          refine aj_goto (tgt := 20) C dX12_laysTune_91 (by decide) ?_
          refine aj_wk (lv' := [some (vO 12 q0), some (vI v1), some (vI v2), some (vI v3), some (vI (v4 + 1)), none]) (⟨rfl, ⟨rfl, ⟨rfl, ⟨rfl, ⟨rfl, trivial⟩⟩⟩⟩⟩) ?_
          exact ih q0 v1 v2 v3 (v4 + 1) _ hq0 h
      · have h := h2 e
        refine aj_goto (tgt := 88) C dX12_laysTune_43 (by decide) ?_
        refine aj_iinc (lv' := [some (vO 12 q0), some (vI v1), some (vI v2), some (vI v3), some (vI (v4 + 1)), none]) C dX12_laysTune_88 rfl (by decide) rfl ?_
        refine aj_goto (tgt := 20) C dX12_laysTune_91 (by decide) ?_
        exact ih q0 v1 v2 v3 (v4 + 1) _ hq0 h
def wX12_laysTune (f : Nat) (Φ : Int → aj_M → Prop) (q0 : List Nat) (v1 : Int) (m : aj_M) : Prop := (0 ≤ (49 + v1) ∧ (49 + v1) < 3315) ∧ ∀ m1, m1 = aj_u m q0 33 (-1) → hX12_laysTune_20 f Φ f q0 v1 (m (1 :: q0) (49 + v1).toNat) (-1) 0 m1
set_option maxHeartbeats 4000000 in
set_option maxRecDepth 100000 in
theorem sX12_laysTune {n f : Nat} {Φ : Int → aj_M → Prop} {q0 : List Nat} {v1 : Int} {m : aj_M} (hq0 : (.inl (12, q0) : aj_R) ∈ aj_pls) (h : wX12_laysTune f Φ q0 v1 m) : aj_Ct (n + 6) yX12_laysTune cX12_laysTune 6 (some .int) [vO 12 q0, vI v1] m (fun r m => ∃ z, r = some (vI z) ∧ Φ z m) := by
  refine aj_met (lv := [some (vO 12 q0), some (vI v1), none, none, none, none]) (by decide +kernel) rfl (Nat.le_of_ble_eq_true rfl) (fun X C K => ?_)
  unfold wX12_laysTune at h
  refine aj_aload_n C dX12_laysTune_0 rfl ?_
  refine aj_getA (x := 0) (y := 3315) C flX12_13 hq0 rfl dX12_laysTune_1 ?_
  refine aj_bipush C dX12_laysTune_4 (by decide) ?_
  refine aj_iload_n C dX12_laysTune_6 rfl ?_
  refine aj_iadd C dX12_laysTune_7 ?_
  obtain ⟨r0, h⟩ := h
  refine aj_iald C (aj_ca (e := 0) (n := 3315) (j := 1) hq0 (by decide) rfl) (by decide) r0 dX12_laysTune_8 rfl ?_
  refine aj_istore_n (lv' := [some (vO 12 q0), some (vI v1), some (vI (m (1 :: q0) (49 + v1).toNat)), none, none, none]) C dX12_laysTune_9 (by decide) rfl ?_
  refine aj_iconst C dX12_laysTune_10 ?_
  refine aj_istore_n (lv' := [some (vO 12 q0), some (vI v1), some (vI (m (1 :: q0) (49 + v1).toNat)), some (vI (-1)), none, none]) C dX12_laysTune_11 (by decide) rfl ?_
  refine aj_aload_n C dX12_laysTune_12 rfl ?_
  refine aj_iconst C dX12_laysTune_13 ?_
  refine aj_putI C fpX12_419 hq0 rfl dX12_laysTune_14 ?_
  refine aj_nm (fun m1 e1 => ?_)
  have h := h m1 e1
  refine aj_iconst C dX12_laysTune_17 ?_
  refine aj_istore (lv' := [some (vO 12 q0), some (vI v1), some (vI (m (1 :: q0) (49 + v1).toNat)), some (vI (-1)), some (vI 0), none]) C dX12_laysTune_18 (by decide) rfl ?_
  exact tX12_laysTune_20 C K f q0 v1 (m (1 :: q0) (49 + v1).toNat) (-1) 0 _ hq0 h
theorem dX12_tune_0 : decode cX12_tune 0 = .ok (.aload_n 0, 1) := by decide +kernel
theorem dX12_tune_1 : decode cX12_tune 1 = .ok (.iconst 0, 1) := by decide +kernel
theorem dX12_tune_2 : decode cX12_tune 2 = .ok (.putfield 1, 3) := by decide +kernel
theorem dX12_tune_5 : decode cX12_tune 5 = .ok (.aload_n 0, 1) := by decide +kernel
theorem dX12_tune_6 : decode cX12_tune 6 = .ok (.iload_n 1, 1) := by decide +kernel
theorem dX12_tune_7 : decode cX12_tune 7 = .ok (.i2l, 1) := by decide +kernel
theorem dX12_tune_8 : decode cX12_tune 8 = .ok (.invokevirtual 291, 3) := by decide +kernel
theorem dX12_tune_11 : decode cX12_tune 11 = .ok (.ifCond .eq 11, 3) := by decide +kernel
theorem dX12_tune_14 : decode cX12_tune 14 = .ok (.aload_n 0, 1) := by decide +kernel
theorem dX12_tune_15 : decode cX12_tune 15 = .ok (.iload_n 1, 1) := by decide +kernel
theorem dX12_tune_16 : decode cX12_tune 16 = .ok (.invokevirtual 422, 3) := by decide +kernel
theorem dX12_tune_19 : decode cX12_tune 19 = .ok (.goto 5, 3) := by decide +kernel
theorem dX12_tune_22 : decode cX12_tune 22 = .ok (.bipush (-2), 2) := by decide +kernel
theorem dX12_tune_24 : decode cX12_tune 24 = .ok (.ireturn, 1) := by decide +kernel
def wX12_tune (f : Nat) (Φ : Int → aj_M → Prop) (q0 : List Nat) (v1 : Int) (m : aj_M) : Prop := ∀ m1, m1 = aj_u m q0 0 0 → rI v1 ∧ wX12_isArc f (fun z1 m2 => rI z1 ∧ (z1 = 0 → Φ (-2) m2) ∧ (¬ (z1 = 0) → wX12_laysTune f (fun z2 m3 => Φ z2 m3) q0 v1 m2)) q0 v1 m1
set_option maxHeartbeats 4000000 in
set_option maxRecDepth 100000 in
theorem sX12_tune {n f : Nat} {Φ : Int → aj_M → Prop} {q0 : List Nat} {v1 : Int} {m : aj_M} (hq0 : (.inl (12, q0) : aj_R) ∈ aj_pls) (h : wX12_tune f Φ q0 v1 m) : aj_Ct (n + 7) yX12_tune cX12_tune 2 (some .int) [vO 12 q0, vI v1] m (fun r m => ∃ z, r = some (vI z) ∧ Φ z m) := by
  refine aj_met (lv := [some (vO 12 q0), some (vI v1)]) (by decide +kernel) rfl (Nat.le_of_ble_eq_true rfl) (fun X C K => ?_)
  unfold wX12_tune at h
  refine aj_aload_n C dX12_tune_0 rfl ?_
  refine aj_iconst C dX12_tune_1 ?_
  refine aj_putI C fpX12_1 hq0 rfl dX12_tune_2 ?_
  refine aj_nm (fun m1 e1 => ?_)
  have h := h m1 e1
  refine aj_aload_n C dX12_tune_5 rfl ?_
  refine aj_iload_n C dX12_tune_6 rfl ?_
  obtain ⟨r0, h⟩ := h
  refine aj_i2l C dX12_tune_7 r0 ?_
  refine aj_callV (rest := []) C mvX12_291 (sX12_isArc hq0 h) hq0 (aj_np 1 (by decide +kernel) rfl) (Nat.le_of_ble_eq_true rfl) rfl dX12_tune_8 (fun r m2 h => ?_)
  obtain ⟨z1, rfl, h⟩ := h
  obtain ⟨r0, h1, h2⟩ := h
  refine aj_if_eq (tgt := 22) C dX12_tune_11 (by decide) r0 (fun e => ?_) (fun e => ?_)
  · have h := h1 e
    refine aj_bipush C dX12_tune_22 (by decide) ?_
    exact aj_iret C K dX12_tune_24 ⟨_, rfl, h⟩
  · have h := h2 e
    refine aj_aload_n C dX12_tune_14 rfl ?_
    refine aj_iload_n C dX12_tune_15 rfl ?_
    refine aj_callV (rest := []) C mvX12_422 (sX12_laysTune hq0 h) hq0 (aj_np 1 (by decide +kernel) rfl) (Nat.le_of_ble_eq_true rfl) rfl dX12_tune_16 (fun r m3 h => ?_)
    obtain ⟨z2, rfl, h⟩ := h
    refine aj_goto (tgt := 24) C dX12_tune_19 (by decide) ?_
    exact aj_iret C K dX12_tune_24 ⟨_, rfl, h⟩
theorem dX12_tuned_0 : decode cX12_tuned 0 = .ok (.aload_n 0, 1) := by decide +kernel
theorem dX12_tuned_1 : decode cX12_tuned 1 = .ok (.iconst 0, 1) := by decide +kernel
theorem dX12_tuned_2 : decode cX12_tuned 2 = .ok (.putfield 1, 3) := by decide +kernel
theorem dX12_tuned_5 : decode cX12_tuned 5 = .ok (.aload_n 0, 1) := by decide +kernel
theorem dX12_tuned_6 : decode cX12_tuned 6 = .ok (.iload_n 1, 1) := by decide +kernel
theorem dX12_tuned_7 : decode cX12_tuned 7 = .ok (.i2l, 1) := by decide +kernel
theorem dX12_tuned_8 : decode cX12_tuned 8 = .ok (.invokevirtual 291, 3) := by decide +kernel
theorem dX12_tuned_11 : decode cX12_tuned 11 = .ok (.ifCond .ne 6, 3) := by decide +kernel
theorem dX12_tuned_14 : decode cX12_tuned 14 = .ok (.bipush (-2), 2) := by decide +kernel
theorem dX12_tuned_16 : decode cX12_tuned 16 = .ok (.ireturn, 1) := by decide +kernel
theorem dX12_tuned_17 : decode cX12_tuned 17 = .ok (.aload_n 0, 1) := by decide +kernel
theorem dX12_tuned_18 : decode cX12_tuned 18 = .ok (.iload_n 1, 1) := by decide +kernel
theorem dX12_tuned_19 : decode cX12_tuned 19 = .ok (.invokevirtual 422, 3) := by decide +kernel
theorem dX12_tuned_22 : decode cX12_tuned 22 = .ok (.pop, 1) := by decide +kernel
theorem dX12_tuned_23 : decode cX12_tuned 23 = .ok (.aload_n 0, 1) := by decide +kernel
theorem dX12_tuned_24 : decode cX12_tuned 24 = .ok (.getfield 419, 3) := by decide +kernel
theorem dX12_tuned_27 : decode cX12_tuned 27 = .ok (.invokestatic 345, 3) := by decide +kernel
theorem dX12_tuned_30 : decode cX12_tuned 30 = .ok (.ireturn, 1) := by decide +kernel
def wX12_tuned (f : Nat) (Φ : Int → aj_M → Prop) (q0 : List Nat) (v1 : Int) (m : aj_M) : Prop := ∀ m1, m1 = aj_u m q0 0 0 → rI v1 ∧ wX12_isArc f (fun z1 m2 => rI z1 ∧ (¬ z1 = 0 → wX12_laysTune f (fun z2 m3 => wX12_toldFar f (fun z3 m4 => Φ z3 m4) (m3 q0 33) m3) q0 v1 m2) ∧ (z1 = 0 → Φ (-2) m2)) q0 v1 m1
set_option maxHeartbeats 4000000 in
set_option maxRecDepth 100000 in
theorem sX12_tuned {n f : Nat} {Φ : Int → aj_M → Prop} {q0 : List Nat} {v1 : Int} {m : aj_M} (hq0 : (.inl (12, q0) : aj_R) ∈ aj_pls) (h : wX12_tuned f Φ q0 v1 m) : aj_Ct (n + 7) yX12_tuned cX12_tuned 2 (some .int) [vO 12 q0, vI v1] m (fun r m => ∃ z, r = some (vI z) ∧ Φ z m) := by
  refine aj_met (lv := [some (vO 12 q0), some (vI v1)]) (by decide +kernel) rfl (Nat.le_of_ble_eq_true rfl) (fun X C K => ?_)
  unfold wX12_tuned at h
  refine aj_aload_n C dX12_tuned_0 rfl ?_
  refine aj_iconst C dX12_tuned_1 ?_
  refine aj_putI C fpX12_1 hq0 rfl dX12_tuned_2 ?_
  refine aj_nm (fun m1 e1 => ?_)
  have h := h m1 e1
  refine aj_aload_n C dX12_tuned_5 rfl ?_
  refine aj_iload_n C dX12_tuned_6 rfl ?_
  obtain ⟨r0, h⟩ := h
  refine aj_i2l C dX12_tuned_7 r0 ?_
  refine aj_callV (rest := []) C mvX12_291 (sX12_isArc hq0 h) hq0 (aj_np 1 (by decide +kernel) rfl) (Nat.le_of_ble_eq_true rfl) rfl dX12_tuned_8 (fun r m2 h => ?_)
  obtain ⟨z1, rfl, h⟩ := h
  obtain ⟨r0, h1, h2⟩ := h
  refine aj_if_ne (tgt := 17) C dX12_tuned_11 (by decide) r0 (fun e => ?_) (fun e => ?_)
  · have h := h1 e
    refine aj_aload_n C dX12_tuned_17 rfl ?_
    refine aj_iload_n C dX12_tuned_18 rfl ?_
    refine aj_callV (rest := []) C mvX12_422 (sX12_laysTune hq0 h) hq0 (aj_np 1 (by decide +kernel) rfl) (Nat.le_of_ble_eq_true rfl) rfl dX12_tuned_19 (fun r m3 h => ?_)
    obtain ⟨z2, rfl, h⟩ := h
    refine aj_pop C aj_nI dX12_tuned_22 ?_
    refine aj_aload_n C dX12_tuned_23 rfl ?_
    refine aj_getI C flX12_419 hq0 (by decide) dX12_tuned_24 rfl ?_
    refine aj_callS (rest := []) C msX12_345 (sX12_toldFar  h) (aj_np 1 (by decide +kernel) rfl) (Nat.le_of_ble_eq_true rfl) rfl dX12_tuned_27 (fun r m4 h => ?_)
    obtain ⟨z3, rfl, h⟩ := h
    exact aj_iret C K dX12_tuned_30 ⟨_, rfl, h⟩
  · have h := h2 e
    refine aj_bipush C dX12_tuned_14 (by decide) ?_
    exact aj_iret C K dX12_tuned_16 ⟨_, rfl, h⟩
theorem dX12_bitsOf_0 : decode cX12_bitsOf 0 = .ok (.iconst 0, 1) := by decide +kernel
theorem dX12_bitsOf_1 : decode cX12_bitsOf 1 = .ok (.istore_n 1, 1) := by decide +kernel
theorem dX12_bitsOf_2 : decode cX12_bitsOf 2 = .ok (.iconst 0, 1) := by decide +kernel
theorem dX12_bitsOf_3 : decode cX12_bitsOf 3 = .ok (.istore_n 2, 1) := by decide +kernel
theorem dX12_bitsOf_4 : decode cX12_bitsOf 4 = .ok (.iload_n 2, 1) := by decide +kernel
theorem dX12_bitsOf_5 : decode cX12_bitsOf 5 = .ok (.bipush 14, 2) := by decide +kernel
theorem dX12_bitsOf_7 : decode cX12_bitsOf 7 = .ok (.if_icmp .ge 17, 3) := by decide +kernel
theorem dX12_bitsOf_10 : decode cX12_bitsOf 10 = .ok (.iload_n 1, 1) := by decide +kernel
theorem dX12_bitsOf_11 : decode cX12_bitsOf 11 = .ok (.iload_n 0, 1) := by decide +kernel
theorem dX12_bitsOf_12 : decode cX12_bitsOf 12 = .ok (.iload_n 2, 1) := by decide +kernel
theorem dX12_bitsOf_13 : decode cX12_bitsOf 13 = .ok (.ishr, 1) := by decide +kernel
theorem dX12_bitsOf_14 : decode cX12_bitsOf 14 = .ok (.iconst 1, 1) := by decide +kernel
theorem dX12_bitsOf_15 : decode cX12_bitsOf 15 = .ok (.iand, 1) := by decide +kernel
theorem dX12_bitsOf_16 : decode cX12_bitsOf 16 = .ok (.iadd, 1) := by decide +kernel
theorem dX12_bitsOf_17 : decode cX12_bitsOf 17 = .ok (.istore_n 1, 1) := by decide +kernel
theorem dX12_bitsOf_18 : decode cX12_bitsOf 18 = .ok (.iinc 2 1, 3) := by decide +kernel
theorem dX12_bitsOf_21 : decode cX12_bitsOf 21 = .ok (.goto (-17), 3) := by decide +kernel
theorem dX12_bitsOf_24 : decode cX12_bitsOf 24 = .ok (.iload_n 1, 1) := by decide +kernel
theorem dX12_bitsOf_25 : decode cX12_bitsOf 25 = .ok (.ireturn, 1) := by decide +kernel
def hX12_bitsOf_4 (f : Nat) (Φ : Int → aj_M → Prop) : Nat → Int → Int → Int → aj_M → Prop
  | 0, _, _, _, _ => False
  | k + 1, v0, v1, v2, m => rI v2 ∧ (14 ≤ v2 → Φ v1 m) ∧ (¬ (14 ≤ v2) → hX12_bitsOf_4 f Φ k v0 (v1 + (aj_and (aj_shr v0 v2) 1)) (v2 + 1) m)
set_option maxHeartbeats 4000000 in
set_option maxRecDepth 100000 in
theorem tX12_bitsOf_4 {X : aj_T} {n f : Nat} {Φ : Int → aj_M → Prop} (C : aj_Cx X cX12_bitsOf RX12 3 n) (K : aj_Rt X (some .int) (fun r m => ∃ z, r = some (vI z) ∧ Φ z m)) : ∀ (k : Nat) (v0 : Int) (v1 : Int) (v2 : Int) (m : aj_M) , hX12_bitsOf_4 f Φ k v0 v1 v2 m → aj_J X 4 [some (vI v0), some (vI v1), some (vI v2)] [] m := by
  intro k
  induction k with
  | zero =>
    intro v0 v1 v2 m  h
    exact h.elim
  | succ k ih =>
    intro v0 v1 v2 m  h
    unfold hX12_bitsOf_4 at h
    refine aj_iload_n C dX12_bitsOf_4 rfl ?_
    refine aj_bipush C dX12_bitsOf_5 (by decide) ?_
    obtain ⟨r0, h1, h2⟩ := h
    refine aj_icmp_ge (tgt := 24) C dX12_bitsOf_7 (by decide) r0 (by decide) (fun e => ?_) (fun e => ?_)
    · have h := h1 e
      refine aj_iload_n C dX12_bitsOf_24 rfl ?_
      exact aj_iret C K dX12_bitsOf_25 ⟨_, rfl, h⟩
    · have h := h2 e
      refine aj_iload_n C dX12_bitsOf_10 rfl ?_
      refine aj_iload_n C dX12_bitsOf_11 rfl ?_
      refine aj_iload_n C dX12_bitsOf_12 rfl ?_
      refine aj_ishr C dX12_bitsOf_13 ?_
      refine aj_iconst C dX12_bitsOf_14 ?_
      refine aj_iand C dX12_bitsOf_15 ?_
      refine aj_iadd C dX12_bitsOf_16 ?_
      refine aj_istore_n (lv' := [some (vI v0), some (vI (v1 + (aj_and (aj_shr v0 v2) 1))), some (vI v2)]) C dX12_bitsOf_17 (by decide) rfl ?_
      refine aj_iinc (lv' := [some (vI v0), some (vI (v1 + (aj_and (aj_shr v0 v2) 1))), some (vI (v2 + 1))]) C dX12_bitsOf_18 rfl (by decide) rfl ?_
      refine aj_goto (tgt := 4) C dX12_bitsOf_21 (by decide) ?_
      exact ih v0 (v1 + (aj_and (aj_shr v0 v2) 1)) (v2 + 1) _  h
def wX12_bitsOf (f : Nat) (Φ : Int → aj_M → Prop) (v0 : Int) (m : aj_M) : Prop := hX12_bitsOf_4 f Φ f v0 0 0 m
set_option maxHeartbeats 4000000 in
set_option maxRecDepth 100000 in
theorem sX12_bitsOf {n f : Nat} {Φ : Int → aj_M → Prop} {v0 : Int} {m : aj_M}  (h : wX12_bitsOf f Φ v0 m) : aj_Ct n yX12_bitsOf cX12_bitsOf 3 (some .int) [vI v0] m (fun r m => ∃ z, r = some (vI z) ∧ Φ z m) := by
  refine aj_met (lv := [some (vI v0), none, none]) (by decide +kernel) rfl (Nat.le_of_ble_eq_true rfl) (fun X C K => ?_)
  unfold wX12_bitsOf at h
  refine aj_iconst C dX12_bitsOf_0 ?_
  refine aj_istore_n (lv' := [some (vI v0), some (vI 0), none]) C dX12_bitsOf_1 (by decide) rfl ?_
  refine aj_iconst C dX12_bitsOf_2 ?_
  refine aj_istore_n (lv' := [some (vI v0), some (vI 0), some (vI 0)]) C dX12_bitsOf_3 (by decide) rfl ?_
  exact tX12_bitsOf_4 C K f v0 0 0 _  h
theorem dX12_ballOf_0 : decode cX12_ballOf 0 = .ok (.iconst 1, 1) := by decide +kernel
theorem dX12_ballOf_1 : decode cX12_ballOf 1 = .ok (.iload_n 1, 1) := by decide +kernel
theorem dX12_ballOf_2 : decode cX12_ballOf 2 = .ok (.ishl, 1) := by decide +kernel
theorem dX12_ballOf_3 : decode cX12_ballOf 3 = .ok (.istore_n 3, 1) := by decide +kernel
theorem dX12_ballOf_4 : decode cX12_ballOf 4 = .ok (.iconst 0, 1) := by decide +kernel
theorem dX12_ballOf_5 : decode cX12_ballOf 5 = .ok (.istore 4, 2) := by decide +kernel
theorem dX12_ballOf_7 : decode cX12_ballOf 7 = .ok (.iload 4, 2) := by decide +kernel
theorem dX12_ballOf_9 : decode cX12_ballOf 9 = .ok (.iload_n 2, 1) := by decide +kernel
theorem dX12_ballOf_10 : decode cX12_ballOf 10 = .ok (.if_icmp .ge 59, 3) := by decide +kernel
theorem dX12_ballOf_13 : decode cX12_ballOf 13 = .ok (.iload_n 3, 1) := by decide +kernel
theorem dX12_ballOf_14 : decode cX12_ballOf 14 = .ok (.istore 5, 2) := by decide +kernel
theorem dX12_ballOf_16 : decode cX12_ballOf 16 = .ok (.iconst 0, 1) := by decide +kernel
theorem dX12_ballOf_17 : decode cX12_ballOf 17 = .ok (.istore 6, 2) := by decide +kernel
theorem dX12_ballOf_19 : decode cX12_ballOf 19 = .ok (.iload 6, 2) := by decide +kernel
theorem dX12_ballOf_21 : decode cX12_ballOf 21 = .ok (.aload_n 0, 1) := by decide +kernel
theorem dX12_ballOf_22 : decode cX12_ballOf 22 = .ok (.getfield 425, 3) := by decide +kernel
theorem dX12_ballOf_25 : decode cX12_ballOf 25 = .ok (.if_icmp .ge 35, 3) := by decide +kernel
theorem dX12_ballOf_28 : decode cX12_ballOf 28 = .ok (.iload 5, 2) := by decide +kernel
theorem dX12_ballOf_30 : decode cX12_ballOf 30 = .ok (.iload_n 3, 1) := by decide +kernel
theorem dX12_ballOf_31 : decode cX12_ballOf 31 = .ok (.i2l, 1) := by decide +kernel
theorem dX12_ballOf_32 : decode cX12_ballOf 32 = .ok (.iload 6, 2) := by decide +kernel
theorem dX12_ballOf_34 : decode cX12_ballOf 34 = .ok (.invokestatic 274, 3) := by decide +kernel
theorem dX12_ballOf_37 : decode cX12_ballOf 37 = .ok (.ifCond .eq 13, 3) := by decide +kernel
theorem dX12_ballOf_40 : decode cX12_ballOf 40 = .ok (.aload_n 0, 1) := by decide +kernel
theorem dX12_ballOf_41 : decode cX12_ballOf 41 = .ok (.getfield 69, 3) := by decide +kernel
theorem dX12_ballOf_44 : decode cX12_ballOf 44 = .ok (.iload 6, 2) := by decide +kernel
theorem dX12_ballOf_46 : decode cX12_ballOf 46 = .ok (.iaload, 1) := by decide +kernel
theorem dX12_ballOf_47 : decode cX12_ballOf 47 = .ok (.goto 4, 3) := by decide +kernel
theorem dX12_ballOf_50 : decode cX12_ballOf 50 = .ok (.iconst 0, 1) := by decide +kernel
theorem dX12_ballOf_51 : decode cX12_ballOf 51 = .ok (.ior, 1) := by decide +kernel
theorem dX12_ballOf_52 : decode cX12_ballOf 52 = .ok (.istore 5, 2) := by decide +kernel
theorem dX12_ballOf_54 : decode cX12_ballOf 54 = .ok (.iinc 6 1, 3) := by decide +kernel
theorem dX12_ballOf_57 : decode cX12_ballOf 57 = .ok (.goto (-38), 3) := by decide +kernel
theorem dX12_ballOf_60 : decode cX12_ballOf 60 = .ok (.iload 5, 2) := by decide +kernel
theorem dX12_ballOf_62 : decode cX12_ballOf 62 = .ok (.istore_n 3, 1) := by decide +kernel
theorem dX12_ballOf_63 : decode cX12_ballOf 63 = .ok (.iinc 4 1, 3) := by decide +kernel
theorem dX12_ballOf_66 : decode cX12_ballOf 66 = .ok (.goto (-59), 3) := by decide +kernel
theorem dX12_ballOf_69 : decode cX12_ballOf 69 = .ok (.iload_n 3, 1) := by decide +kernel
theorem dX12_ballOf_70 : decode cX12_ballOf 70 = .ok (.ireturn, 1) := by decide +kernel
def hX12_ballOf_19 (f : Nat) (Φ : Int → aj_M → Prop) (K7 : List Nat → Int → Int → Int → aj_M → Prop) : Nat → List Nat → Int → Int → Int → Int → Int → aj_M → Prop
  | 0, _, _, _, _, _, _, _ => False
  | k + 1, q0, v2, v3, v4, v5, v6, m => rI v6 ∧ rI (m q0 38) ∧ ((m q0 38) ≤ v6 → K7 q0 v2 v5 (v4 + 1) m) ∧ (¬ ((m q0 38) ≤ v6) → rI v3 ∧ wX12_isIn f (fun z1 m1 => rI z1 ∧ (z1 = 0 → hX12_ballOf_19 f Φ K7 k q0 v2 v3 v4 (aj_or v5 0) (v6 + 1) m1) ∧ (¬ (z1 = 0) → (0 ≤ v6 ∧ v6 < 14) ∧ hX12_ballOf_19 f Φ K7 k q0 v2 v3 v4 (aj_or v5 (m1 (34 :: q0) v6.toNat)) (v6 + 1) m1)) v3 v6 m)
set_option maxHeartbeats 4000000 in
set_option maxRecDepth 100000 in
theorem tX12_ballOf_19 {X : aj_T} {n f : Nat} {Φ : Int → aj_M → Prop} (C : aj_Cx X cX12_ballOf RX12 7 (n + 1)) (K : aj_Rt X (some .int) (fun r m => ∃ z, r = some (vI z) ∧ Φ z m)) {K7 : List Nat → Int → Int → Int → aj_M → Prop} (HK7 : ∀ (q0 : List Nat) (v2 : Int) (v3 : Int) (v4 : Int) (m : aj_M) (hq0 : (.inl (12, q0) : aj_R) ∈ aj_pls), K7 q0 v2 v3 v4 m → aj_J X 7 [some (vO 12 q0), none, some (vI v2), some (vI v3), some (vI v4), none, none] [] m) : ∀ (k : Nat) (q0 : List Nat) (v2 : Int) (v3 : Int) (v4 : Int) (v5 : Int) (v6 : Int) (m : aj_M) (hq0 : (.inl (12, q0) : aj_R) ∈ aj_pls), hX12_ballOf_19 f Φ K7 k q0 v2 v3 v4 v5 v6 m → aj_J X 19 [some (vO 12 q0), none, some (vI v2), some (vI v3), some (vI v4), some (vI v5), some (vI v6)] [] m := by
  intro k
  induction k with
  | zero =>
    intro q0 v2 v3 v4 v5 v6 m _ h
    exact h.elim
  | succ k ih =>
    intro q0 v2 v3 v4 v5 v6 m hq0 h
    unfold hX12_ballOf_19 at h
    refine aj_iload C dX12_ballOf_19 rfl ?_
    refine aj_aload_n C dX12_ballOf_21 rfl ?_
    refine aj_getI C flX12_425 hq0 (by decide) dX12_ballOf_22 rfl ?_
    obtain ⟨r0, r1, h1, h2⟩ := h
    refine aj_icmp_ge (tgt := 60) C dX12_ballOf_25 (by decide) r0 r1 (fun e => ?_) (fun e => ?_)
    · have h := h1 e
      refine aj_iload C dX12_ballOf_60 rfl ?_
      refine aj_istore_n (lv' := [some (vO 12 q0), none, some (vI v2), some (vI v5), some (vI v4), some (vI v5), some (vI v6)]) C dX12_ballOf_62 (by decide) rfl ?_
      refine aj_iinc (lv' := [some (vO 12 q0), none, some (vI v2), some (vI v5), some (vI (v4 + 1)), some (vI v5), some (vI v6)]) C dX12_ballOf_63 rfl (by decide) rfl ?_
      refine aj_goto (tgt := 7) C dX12_ballOf_66 (by decide) ?_
      refine aj_wk (lv' := [some (vO 12 q0), none, some (vI v2), some (vI v5), some (vI (v4 + 1)), none, none]) (⟨rfl, ⟨rfl, ⟨rfl, ⟨rfl, trivial⟩⟩⟩⟩) ?_
      exact HK7 q0 v2 v5 (v4 + 1) _ hq0 h
    · have h := h2 e
      refine aj_iload C dX12_ballOf_28 rfl ?_
      refine aj_iload_n C dX12_ballOf_30 rfl ?_
      obtain ⟨r0, h⟩ := h
      refine aj_i2l C dX12_ballOf_31 r0 ?_
      refine aj_iload C dX12_ballOf_32 rfl ?_
      refine aj_callS (rest := [vI v5]) C msX12_274 (sX12_isIn  h) (aj_np 2 (by decide +kernel) rfl) (Nat.le_of_ble_eq_true rfl) rfl dX12_ballOf_34 (fun r m1 h => ?_)
      obtain ⟨z1, rfl, h⟩ := h
      obtain ⟨r0, h1, h2⟩ := h
      refine aj_if_eq (tgt := 50) C dX12_ballOf_37 (by decide) r0 (fun e => ?_) (fun e => ?_)
      · have h := h1 e
        refine aj_iconst C dX12_ballOf_50 ?_
        refine aj_ior C dX12_ballOf_51 ?_
        refine aj_istore (lv' := [some (vO 12 q0), none, some (vI v2), some (vI v3), some (vI v4), some (vI (aj_or v5 0)), some (vI v6)]) C dX12_ballOf_52 (by decide) rfl ?_
        refine aj_iinc (lv' := [some (vO 12 q0), none, some (vI v2), some (vI v3), some (vI v4), some (vI (aj_or v5 0)), some (vI (v6 + 1))]) C dX12_ballOf_54 rfl (by decide) rfl ?_
        refine aj_goto (tgt := 19) C dX12_ballOf_57 (by decide) ?_
        exact ih q0 v2 v3 v4 (aj_or v5 0) (v6 + 1) _ hq0 h
      · have h := h2 e
        refine aj_aload_n C dX12_ballOf_40 rfl ?_
        refine aj_getA (x := 0) (y := 14) C flX12_69 hq0 rfl dX12_ballOf_41 ?_
        refine aj_iload C dX12_ballOf_44 rfl ?_
        obtain ⟨r0, h⟩ := h
        refine aj_iald C (aj_ca (e := 0) (n := 14) (j := 34) hq0 (by decide) rfl) (by decide) r0 dX12_ballOf_46 rfl ?_
        refine aj_goto (tgt := 51) C dX12_ballOf_47 (by decide) ?_
        refine aj_ior C dX12_ballOf_51 ?_
        refine aj_istore (lv' := [some (vO 12 q0), none, some (vI v2), some (vI v3), some (vI v4), some (vI (aj_or v5 (m1 (34 :: q0) v6.toNat))), some (vI v6)]) C dX12_ballOf_52 (by decide) rfl ?_
        refine aj_iinc (lv' := [some (vO 12 q0), none, some (vI v2), some (vI v3), some (vI v4), some (vI (aj_or v5 (m1 (34 :: q0) v6.toNat))), some (vI (v6 + 1))]) C dX12_ballOf_54 rfl (by decide) rfl ?_
        refine aj_goto (tgt := 19) C dX12_ballOf_57 (by decide) ?_
        exact ih q0 v2 v3 v4 (aj_or v5 (m1 (34 :: q0) v6.toNat)) (v6 + 1) _ hq0 h
def hX12_ballOf_7 (f : Nat) (Φ : Int → aj_M → Prop) : Nat → List Nat → Int → Int → Int → aj_M → Prop
  | 0, _, _, _, _, _ => False
  | k + 1, q0, v2, v3, v4, m => rI v4 ∧ rI v2 ∧ (v2 ≤ v4 → Φ v3 m) ∧ (¬ (v2 ≤ v4) → hX12_ballOf_19 f Φ (fun q0 v2 v3 v4 m => hX12_ballOf_7 f Φ k q0 v2 v3 v4 m) f q0 v2 v3 v4 v3 0 m)
set_option maxHeartbeats 4000000 in
set_option maxRecDepth 100000 in
theorem tX12_ballOf_7 {X : aj_T} {n f : Nat} {Φ : Int → aj_M → Prop} (C : aj_Cx X cX12_ballOf RX12 7 (n + 1)) (K : aj_Rt X (some .int) (fun r m => ∃ z, r = some (vI z) ∧ Φ z m)) : ∀ (k : Nat) (q0 : List Nat) (v2 : Int) (v3 : Int) (v4 : Int) (m : aj_M) (hq0 : (.inl (12, q0) : aj_R) ∈ aj_pls), hX12_ballOf_7 f Φ k q0 v2 v3 v4 m → aj_J X 7 [some (vO 12 q0), none, some (vI v2), some (vI v3), some (vI v4), none, none] [] m := by
  intro k
  induction k with
  | zero =>
    intro q0 v2 v3 v4 m _ h
    exact h.elim
  | succ k ih =>
    intro q0 v2 v3 v4 m hq0 h
    unfold hX12_ballOf_7 at h
    refine aj_iload C dX12_ballOf_7 rfl ?_
    refine aj_iload_n C dX12_ballOf_9 rfl ?_
    obtain ⟨r0, r1, h1, h2⟩ := h
    refine aj_icmp_ge (tgt := 69) C dX12_ballOf_10 (by decide) r0 r1 (fun e => ?_) (fun e => ?_)
    · have h := h1 e
      refine aj_iload_n C dX12_ballOf_69 rfl ?_
      exact aj_iret C K dX12_ballOf_70 ⟨_, rfl, h⟩
    · have h := h2 e
      refine aj_iload_n C dX12_ballOf_13 rfl ?_
      refine aj_istore (lv' := [some (vO 12 q0), none, some (vI v2), some (vI v3), some (vI v4), some (vI v3), none]) C dX12_ballOf_14 (by decide) rfl ?_
      refine aj_iconst C dX12_ballOf_16 ?_
      refine aj_istore (lv' := [some (vO 12 q0), none, some (vI v2), some (vI v3), some (vI v4), some (vI v3), some (vI 0)]) C dX12_ballOf_17 (by decide) rfl ?_
      exact tX12_ballOf_19 C K (fun q0 v2 v3 v4 m hq0 hh => ih q0 v2 v3 v4 m hq0 hh) f q0 v2 v3 v4 v3 0 _ hq0 h
def wX12_ballOf (f : Nat) (Φ : Int → aj_M → Prop) (q0 : List Nat) (v1 : Int) (v2 : Int) (m : aj_M) : Prop := hX12_ballOf_7 f Φ f q0 v2 (aj_shl 1 v1) 0 m
set_option maxHeartbeats 4000000 in
set_option maxRecDepth 100000 in
theorem sX12_ballOf {n f : Nat} {Φ : Int → aj_M → Prop} {q0 : List Nat} {v1 : Int} {v2 : Int} {m : aj_M} (hq0 : (.inl (12, q0) : aj_R) ∈ aj_pls) (h : wX12_ballOf f Φ q0 v1 v2 m) : aj_Ct (n + 1) yX12_ballOf cX12_ballOf 7 (some .int) [vO 12 q0, vI v1, vI v2] m (fun r m => ∃ z, r = some (vI z) ∧ Φ z m) := by
  refine aj_met (lv := [some (vO 12 q0), some (vI v1), some (vI v2), none, none, none, none]) (by decide +kernel) rfl (Nat.le_of_ble_eq_true rfl) (fun X C K => ?_)
  unfold wX12_ballOf at h
  refine aj_iconst C dX12_ballOf_0 ?_
  refine aj_iload_n C dX12_ballOf_1 rfl ?_
  refine aj_ishl C dX12_ballOf_2 ?_
  refine aj_istore_n (lv' := [some (vO 12 q0), some (vI v1), some (vI v2), some (vI (aj_shl 1 v1)), none, none, none]) C dX12_ballOf_3 (by decide) rfl ?_
  refine aj_iconst C dX12_ballOf_4 ?_
  refine aj_istore (lv' := [some (vO 12 q0), some (vI v1), some (vI v2), some (vI (aj_shl 1 v1)), some (vI 0), none, none]) C dX12_ballOf_5 (by decide) rfl ?_
  refine aj_wk (lv' := [some (vO 12 q0), none, some (vI v2), some (vI (aj_shl 1 v1)), some (vI 0), none, none]) (⟨rfl, ⟨rfl, ⟨rfl, ⟨rfl, trivial⟩⟩⟩⟩) ?_
  exact tX12_ballOf_7 C K f q0 v2 (aj_shl 1 v1) 0 _ hq0 h
theorem dX12_partnersOf_0 : decode cX12_partnersOf 0 = .ok (.iconst 0, 1) := by decide +kernel
theorem dX12_partnersOf_1 : decode cX12_partnersOf 1 = .ok (.istore_n 2, 1) := by decide +kernel
theorem dX12_partnersOf_2 : decode cX12_partnersOf 2 = .ok (.iconst 0, 1) := by decide +kernel
theorem dX12_partnersOf_3 : decode cX12_partnersOf 3 = .ok (.istore_n 3, 1) := by decide +kernel
theorem dX12_partnersOf_4 : decode cX12_partnersOf 4 = .ok (.aload_n 0, 1) := by decide +kernel
theorem dX12_partnersOf_5 : decode cX12_partnersOf 5 = .ok (.iload_n 1, 1) := by decide +kernel
theorem dX12_partnersOf_6 : decode cX12_partnersOf 6 = .ok (.aload_n 0, 1) := by decide +kernel
theorem dX12_partnersOf_7 : decode cX12_partnersOf 7 = .ok (.getfield 428, 3) := by decide +kernel
theorem dX12_partnersOf_10 : decode cX12_partnersOf 10 = .ok (.iconst 2, 1) := by decide +kernel
theorem dX12_partnersOf_11 : decode cX12_partnersOf 11 = .ok (.isub, 1) := by decide +kernel
theorem dX12_partnersOf_12 : decode cX12_partnersOf 12 = .ok (.invokevirtual 431, 3) := by decide +kernel
theorem dX12_partnersOf_15 : decode cX12_partnersOf 15 = .ok (.istore 4, 2) := by decide +kernel
theorem dX12_partnersOf_17 : decode cX12_partnersOf 17 = .ok (.iload_n 1, 1) := by decide +kernel
theorem dX12_partnersOf_18 : decode cX12_partnersOf 18 = .ok (.iconst 1, 1) := by decide +kernel
theorem dX12_partnersOf_19 : decode cX12_partnersOf 19 = .ok (.iadd, 1) := by decide +kernel
theorem dX12_partnersOf_20 : decode cX12_partnersOf 20 = .ok (.istore 5, 2) := by decide +kernel
theorem dX12_partnersOf_22 : decode cX12_partnersOf 22 = .ok (.iload 5, 2) := by decide +kernel
theorem dX12_partnersOf_24 : decode cX12_partnersOf 24 = .ok (.aload_n 0, 1) := by decide +kernel
theorem dX12_partnersOf_25 : decode cX12_partnersOf 25 = .ok (.getfield 425, 3) := by decide +kernel
theorem dX12_partnersOf_28 : decode cX12_partnersOf 28 = .ok (.if_icmp .ge 95, 3) := by decide +kernel
theorem dX12_partnersOf_31 : decode cX12_partnersOf 31 = .ok (.iload_n 3, 1) := by decide +kernel
theorem dX12_partnersOf_32 : decode cX12_partnersOf 32 = .ok (.aload_n 0, 1) := by decide +kernel
theorem dX12_partnersOf_33 : decode cX12_partnersOf 33 = .ok (.getfield 69, 3) := by decide +kernel
theorem dX12_partnersOf_36 : decode cX12_partnersOf 36 = .ok (.iload 5, 2) := by decide +kernel
theorem dX12_partnersOf_38 : decode cX12_partnersOf 38 = .ok (.iaload, 1) := by decide +kernel
theorem dX12_partnersOf_39 : decode cX12_partnersOf 39 = .ok (.ifCond .ne 7, 3) := by decide +kernel
theorem dX12_partnersOf_42 : decode cX12_partnersOf 42 = .ok (.iconst 1, 1) := by decide +kernel
theorem dX12_partnersOf_43 : decode cX12_partnersOf 43 = .ok (.goto 4, 3) := by decide +kernel
theorem dX12_partnersOf_46 : decode cX12_partnersOf 46 = .ok (.iconst 0, 1) := by decide +kernel
theorem dX12_partnersOf_47 : decode cX12_partnersOf 47 = .ok (.iadd, 1) := by decide +kernel
theorem dX12_partnersOf_48 : decode cX12_partnersOf 48 = .ok (.istore_n 3, 1) := by decide +kernel
theorem dX12_partnersOf_49 : decode cX12_partnersOf 49 = .ok (.aload_n 0, 1) := by decide +kernel
theorem dX12_partnersOf_50 : decode cX12_partnersOf 50 = .ok (.getfield 69, 3) := by decide +kernel
theorem dX12_partnersOf_53 : decode cX12_partnersOf 53 = .ok (.iload 5, 2) := by decide +kernel
theorem dX12_partnersOf_55 : decode cX12_partnersOf 55 = .ok (.iaload, 1) := by decide +kernel
theorem dX12_partnersOf_56 : decode cX12_partnersOf 56 = .ok (.ifCond .ne 8, 3) := by decide +kernel
theorem dX12_partnersOf_59 : decode cX12_partnersOf 59 = .ok (.iload_n 3, 1) := by decide +kernel
theorem dX12_partnersOf_60 : decode cX12_partnersOf 60 = .ok (.iconst 1, 1) := by decide +kernel
theorem dX12_partnersOf_61 : decode cX12_partnersOf 61 = .ok (.if_icmp .gt 56, 3) := by decide +kernel
theorem dX12_partnersOf_64 : decode cX12_partnersOf 64 = .ok (.aload_n 0, 1) := by decide +kernel
theorem dX12_partnersOf_65 : decode cX12_partnersOf 65 = .ok (.getfield 69, 3) := by decide +kernel
theorem dX12_partnersOf_68 : decode cX12_partnersOf 68 = .ok (.iload 5, 2) := by decide +kernel
theorem dX12_partnersOf_70 : decode cX12_partnersOf 70 = .ok (.iaload, 1) := by decide +kernel
theorem dX12_partnersOf_71 : decode cX12_partnersOf 71 = .ok (.invokestatic 434, 3) := by decide +kernel
theorem dX12_partnersOf_74 : decode cX12_partnersOf 74 = .ok (.aload_n 0, 1) := by decide +kernel
theorem dX12_partnersOf_75 : decode cX12_partnersOf 75 = .ok (.getfield 437, 3) := by decide +kernel
theorem dX12_partnersOf_78 : decode cX12_partnersOf 78 = .ok (.if_icmp .ge 39, 3) := by decide +kernel
theorem dX12_partnersOf_81 : decode cX12_partnersOf 81 = .ok (.iload 4, 2) := by decide +kernel
theorem dX12_partnersOf_83 : decode cX12_partnersOf 83 = .ok (.i2l, 1) := by decide +kernel
theorem dX12_partnersOf_84 : decode cX12_partnersOf 84 = .ok (.iload 5, 2) := by decide +kernel
theorem dX12_partnersOf_86 : decode cX12_partnersOf 86 = .ok (.invokestatic 274, 3) := by decide +kernel
theorem dX12_partnersOf_89 : decode cX12_partnersOf 89 = .ok (.ifCond .ne 28, 3) := by decide +kernel
theorem dX12_partnersOf_92 : decode cX12_partnersOf 92 = .ok (.aload_n 0, 1) := by decide +kernel
theorem dX12_partnersOf_93 : decode cX12_partnersOf 93 = .ok (.getfield 72, 3) := by decide +kernel
theorem dX12_partnersOf_96 : decode cX12_partnersOf 96 = .ok (.iload_n 1, 1) := by decide +kernel
theorem dX12_partnersOf_97 : decode cX12_partnersOf 97 = .ok (.iaload, 1) := by decide +kernel
theorem dX12_partnersOf_98 : decode cX12_partnersOf 98 = .ok (.i2l, 1) := by decide +kernel
theorem dX12_partnersOf_99 : decode cX12_partnersOf 99 = .ok (.iload 5, 2) := by decide +kernel
theorem dX12_partnersOf_101 : decode cX12_partnersOf 101 = .ok (.invokestatic 274, 3) := by decide +kernel
theorem dX12_partnersOf_104 : decode cX12_partnersOf 104 = .ok (.ifCond .eq 6, 3) := by decide +kernel
theorem dX12_partnersOf_107 : decode cX12_partnersOf 107 = .ok (.goto 10, 3) := by decide +kernel
theorem dX12_partnersOf_110 : decode cX12_partnersOf 110 = .ok (.iload_n 2, 1) := by decide +kernel
theorem dX12_partnersOf_111 : decode cX12_partnersOf 111 = .ok (.iconst 1, 1) := by decide +kernel
theorem dX12_partnersOf_112 : decode cX12_partnersOf 112 = .ok (.iload 5, 2) := by decide +kernel
theorem dX12_partnersOf_114 : decode cX12_partnersOf 114 = .ok (.ishl, 1) := by decide +kernel
theorem dX12_partnersOf_115 : decode cX12_partnersOf 115 = .ok (.ior, 1) := by decide +kernel
theorem dX12_partnersOf_116 : decode cX12_partnersOf 116 = .ok (.istore_n 2, 1) := by decide +kernel
theorem dX12_partnersOf_117 : decode cX12_partnersOf 117 = .ok (.iinc 5 1, 3) := by decide +kernel
theorem dX12_partnersOf_120 : decode cX12_partnersOf 120 = .ok (.goto (-98), 3) := by decide +kernel
theorem dX12_partnersOf_123 : decode cX12_partnersOf 123 = .ok (.iload_n 2, 1) := by decide +kernel
theorem dX12_partnersOf_124 : decode cX12_partnersOf 124 = .ok (.ireturn, 1) := by decide +kernel
def hX12_partnersOf_64 (f : Nat) (Φ : Int → aj_M → Prop) (K22 : List Nat → Int → Int → Int → Int → Int → aj_M → Prop) (q0 : List Nat) (v1 : Int) (v2 : Int) (v3 : Int) (v4 : Int) (v5 : Int) (m : aj_M) : Prop := (0 ≤ v5 ∧ v5 < 14) ∧ wX12_bitsOf f (fun z1 m1 => rI z1 ∧ rI (m1 q0 36) ∧ ((m1 q0 36) ≤ z1 → K22 q0 v1 v2 v3 v4 (v5 + 1) m1) ∧ (¬ ((m1 q0 36) ≤ z1) → rI v4 ∧ wX12_isIn f (fun z2 m2 => rI z2 ∧ (¬ z2 = 0 → K22 q0 v1 v2 v3 v4 (v5 + 1) m2) ∧ (z2 = 0 → (0 ≤ v1 ∧ v1 < 14) ∧ rI (m2 (35 :: q0) v1.toNat) ∧ wX12_isIn f (fun z3 m3 => rI z3 ∧ (z3 = 0 → K22 q0 v1 (aj_or v2 (aj_shl 1 v5)) v3 v4 (v5 + 1) m3) ∧ (¬ (z3 = 0) → K22 q0 v1 v2 v3 v4 (v5 + 1) m3)) (m2 (35 :: q0) v1.toNat) v5 m2)) v4 v5 m1)) (m (34 :: q0) v5.toNat) m
set_option maxHeartbeats 4000000 in
set_option maxRecDepth 100000 in
theorem tX12_partnersOf_64 {X : aj_T} {n f : Nat} {Φ : Int → aj_M → Prop} (C : aj_Cx X cX12_partnersOf RX12 6 (n + 2)) (K : aj_Rt X (some .int) (fun r m => ∃ z, r = some (vI z) ∧ Φ z m)) {K22 : List Nat → Int → Int → Int → Int → Int → aj_M → Prop} (HK22 : ∀ (q0 : List Nat) (v1 : Int) (v2 : Int) (v3 : Int) (v4 : Int) (v5 : Int) (m : aj_M) (hq0 : (.inl (12, q0) : aj_R) ∈ aj_pls), K22 q0 v1 v2 v3 v4 v5 m → aj_J X 22 [some (vO 12 q0), some (vI v1), some (vI v2), some (vI v3), some (vI v4), some (vI v5)] [] m) (q0 : List Nat) (v1 : Int) (v2 : Int) (v3 : Int) (v4 : Int) (v5 : Int) (m : aj_M) (hq0 : (.inl (12, q0) : aj_R) ∈ aj_pls) (h : hX12_partnersOf_64 f Φ K22 q0 v1 v2 v3 v4 v5 m) : aj_J X 64 [some (vO 12 q0), some (vI v1), some (vI v2), some (vI v3), some (vI v4), some (vI v5)] [] m := by
  unfold hX12_partnersOf_64 at h
  refine aj_aload_n C dX12_partnersOf_64 rfl ?_
  refine aj_getA (x := 0) (y := 14) C flX12_69 hq0 rfl dX12_partnersOf_65 ?_
  refine aj_iload C dX12_partnersOf_68 rfl ?_
  obtain ⟨r0, h⟩ := h
  refine aj_iald C (aj_ca (e := 0) (n := 14) (j := 34) hq0 (by decide) rfl) (by decide) r0 dX12_partnersOf_70 rfl ?_
  refine aj_callS (rest := []) C msX12_434 (sX12_bitsOf  h) (aj_np 1 (by decide +kernel) rfl) (Nat.le_of_ble_eq_true rfl) rfl dX12_partnersOf_71 (fun r m1 h => ?_)
  obtain ⟨z1, rfl, h⟩ := h
  refine aj_aload_n C dX12_partnersOf_74 rfl ?_
  refine aj_getI C flX12_437 hq0 (by decide) dX12_partnersOf_75 rfl ?_
  obtain ⟨r0, r1, h1, h2⟩ := h
  refine aj_icmp_ge (tgt := 117) C dX12_partnersOf_78 (by decide) r0 r1 (fun e => ?_) (fun e => ?_)
  · have h := h1 e
    refine aj_iinc (lv' := [some (vO 12 q0), some (vI v1), some (vI v2), some (vI v3), some (vI v4), some (vI (v5 + 1))]) C dX12_partnersOf_117 rfl (by decide) rfl ?_
    refine aj_goto (tgt := 22) C dX12_partnersOf_120 (by decide) ?_
    exact HK22 q0 v1 v2 v3 v4 (v5 + 1) _ hq0 h
  · have h := h2 e
    refine aj_iload C dX12_partnersOf_81 rfl ?_
    obtain ⟨r0, h⟩ := h
    refine aj_i2l C dX12_partnersOf_83 r0 ?_
    refine aj_iload C dX12_partnersOf_84 rfl ?_
    refine aj_callS (rest := []) C msX12_274 (sX12_isIn  h) (aj_np 2 (by decide +kernel) rfl) (Nat.le_of_ble_eq_true rfl) rfl dX12_partnersOf_86 (fun r m2 h => ?_)
    obtain ⟨z2, rfl, h⟩ := h
    obtain ⟨r0, h1, h2⟩ := h
    refine aj_if_ne (tgt := 117) C dX12_partnersOf_89 (by decide) r0 (fun e => ?_) (fun e => ?_)
    · have h := h1 e
      refine aj_iinc (lv' := [some (vO 12 q0), some (vI v1), some (vI v2), some (vI v3), some (vI v4), some (vI (v5 + 1))]) C dX12_partnersOf_117 rfl (by decide) rfl ?_
      refine aj_goto (tgt := 22) C dX12_partnersOf_120 (by decide) ?_
      exact HK22 q0 v1 v2 v3 v4 (v5 + 1) _ hq0 h
    · have h := h2 e
      refine aj_aload_n C dX12_partnersOf_92 rfl ?_
      refine aj_getA (x := 0) (y := 14) C flX12_72 hq0 rfl dX12_partnersOf_93 ?_
      refine aj_iload_n C dX12_partnersOf_96 rfl ?_
      obtain ⟨r0, h⟩ := h
      refine aj_iald C (aj_ca (e := 0) (n := 14) (j := 35) hq0 (by decide) rfl) (by decide) r0 dX12_partnersOf_97 rfl ?_
      obtain ⟨r0, h⟩ := h
      refine aj_i2l C dX12_partnersOf_98 r0 ?_
      refine aj_iload C dX12_partnersOf_99 rfl ?_
      refine aj_callS (rest := []) C msX12_274 (sX12_isIn  h) (aj_np 2 (by decide +kernel) rfl) (Nat.le_of_ble_eq_true rfl) rfl dX12_partnersOf_101 (fun r m3 h => ?_)
      obtain ⟨z3, rfl, h⟩ := h
      obtain ⟨r0, h1, h2⟩ := h
      refine aj_if_eq (tgt := 110) C dX12_partnersOf_104 (by decide) r0 (fun e => ?_) (fun e => ?_)
      · have h := h1 e
        refine aj_iload_n C dX12_partnersOf_110 rfl ?_
        refine aj_iconst C dX12_partnersOf_111 ?_
        refine aj_iload C dX12_partnersOf_112 rfl ?_
        refine aj_ishl C dX12_partnersOf_114 ?_
        refine aj_ior C dX12_partnersOf_115 ?_
        refine aj_istore_n (lv' := [some (vO 12 q0), some (vI v1), some (vI (aj_or v2 (aj_shl 1 v5))), some (vI v3), some (vI v4), some (vI v5)]) C dX12_partnersOf_116 (by decide) rfl ?_
        refine aj_iinc (lv' := [some (vO 12 q0), some (vI v1), some (vI (aj_or v2 (aj_shl 1 v5))), some (vI v3), some (vI v4), some (vI (v5 + 1))]) C dX12_partnersOf_117 rfl (by decide) rfl ?_
        refine aj_goto (tgt := 22) C dX12_partnersOf_120 (by decide) ?_
        exact HK22 q0 v1 (aj_or v2 (aj_shl 1 v5)) v3 v4 (v5 + 1) _ hq0 h
      · have h := h2 e
        refine aj_goto (tgt := 117) C dX12_partnersOf_107 (by decide) ?_
        refine aj_iinc (lv' := [some (vO 12 q0), some (vI v1), some (vI v2), some (vI v3), some (vI v4), some (vI (v5 + 1))]) C dX12_partnersOf_117 rfl (by decide) rfl ?_
        refine aj_goto (tgt := 22) C dX12_partnersOf_120 (by decide) ?_
        exact HK22 q0 v1 v2 v3 v4 (v5 + 1) _ hq0 h
def hX12_partnersOf_22 (f : Nat) (Φ : Int → aj_M → Prop) : Nat → List Nat → Int → Int → Int → Int → Int → aj_M → Prop
  | 0, _, _, _, _, _, _, _ => False
  | k + 1, q0, v1, v2, v3, v4, v5, m => rI v5 ∧ rI (m q0 38) ∧ ((m q0 38) ≤ v5 → Φ v2 m) ∧ (¬ ((m q0 38) ≤ v5) → (0 ≤ v5 ∧ v5 < 14) ∧ rI (m (34 :: q0) v5.toNat) ∧ (¬ (m (34 :: q0) v5.toNat) = 0 → (0 ≤ v5 ∧ v5 < 14) ∧ rI (m (34 :: q0) v5.toNat) ∧ (¬ (m (34 :: q0) v5.toNat) = 0 → hX12_partnersOf_64 f Φ (fun q0 v1 v2 v3 v4 v5 m => hX12_partnersOf_22 f Φ k q0 v1 v2 v3 v4 v5 m) q0 v1 v2 (v3 + 0) v4 v5 m) ∧ ((m (34 :: q0) v5.toNat) = 0 → rI (v3 + 0) ∧ (1 < (v3 + 0) → hX12_partnersOf_22 f Φ k q0 v1 v2 (v3 + 0) v4 (v5 + 1) m) ∧ (¬ (1 < (v3 + 0)) → hX12_partnersOf_64 f Φ (fun q0 v1 v2 v3 v4 v5 m => hX12_partnersOf_22 f Φ k q0 v1 v2 v3 v4 v5 m) q0 v1 v2 (v3 + 0) v4 v5 m))) ∧ ((m (34 :: q0) v5.toNat) = 0 → (0 ≤ v5 ∧ v5 < 14) ∧ rI (m (34 :: q0) v5.toNat) ∧ (¬ (m (34 :: q0) v5.toNat) = 0 → hX12_partnersOf_64 f Φ (fun q0 v1 v2 v3 v4 v5 m => hX12_partnersOf_22 f Φ k q0 v1 v2 v3 v4 v5 m) q0 v1 v2 (v3 + 1) v4 v5 m) ∧ ((m (34 :: q0) v5.toNat) = 0 → rI (v3 + 1) ∧ (1 < (v3 + 1) → hX12_partnersOf_22 f Φ k q0 v1 v2 (v3 + 1) v4 (v5 + 1) m) ∧ (¬ (1 < (v3 + 1)) → hX12_partnersOf_64 f Φ (fun q0 v1 v2 v3 v4 v5 m => hX12_partnersOf_22 f Φ k q0 v1 v2 v3 v4 v5 m) q0 v1 v2 (v3 + 1) v4 v5 m))))
set_option maxHeartbeats 4000000 in
set_option maxRecDepth 100000 in
theorem tX12_partnersOf_22 {X : aj_T} {n f : Nat} {Φ : Int → aj_M → Prop} (C : aj_Cx X cX12_partnersOf RX12 6 (n + 2)) (K : aj_Rt X (some .int) (fun r m => ∃ z, r = some (vI z) ∧ Φ z m)) : ∀ (k : Nat) (q0 : List Nat) (v1 : Int) (v2 : Int) (v3 : Int) (v4 : Int) (v5 : Int) (m : aj_M) (hq0 : (.inl (12, q0) : aj_R) ∈ aj_pls), hX12_partnersOf_22 f Φ k q0 v1 v2 v3 v4 v5 m → aj_J X 22 [some (vO 12 q0), some (vI v1), some (vI v2), some (vI v3), some (vI v4), some (vI v5)] [] m := by
  intro k
  induction k with
  | zero =>
    intro q0 v1 v2 v3 v4 v5 m _ h
    exact h.elim
  | succ k ih =>
    intro q0 v1 v2 v3 v4 v5 m hq0 h
    unfold hX12_partnersOf_22 at h
    refine aj_iload C dX12_partnersOf_22 rfl ?_
    refine aj_aload_n C dX12_partnersOf_24 rfl ?_
    refine aj_getI C flX12_425 hq0 (by decide) dX12_partnersOf_25 rfl ?_
    obtain ⟨r0, r1, h1, h2⟩ := h
    refine aj_icmp_ge (tgt := 123) C dX12_partnersOf_28 (by decide) r0 r1 (fun e => ?_) (fun e => ?_)
    · have h := h1 e
      refine aj_iload_n C dX12_partnersOf_123 rfl ?_
      exact aj_iret C K dX12_partnersOf_124 ⟨_, rfl, h⟩
    · have h := h2 e
      refine aj_iload_n C dX12_partnersOf_31 rfl ?_
      refine aj_aload_n C dX12_partnersOf_32 rfl ?_
      refine aj_getA (x := 0) (y := 14) C flX12_69 hq0 rfl dX12_partnersOf_33 ?_
      refine aj_iload C dX12_partnersOf_36 rfl ?_
      obtain ⟨r0, h⟩ := h
      refine aj_iald C (aj_ca (e := 0) (n := 14) (j := 34) hq0 (by decide) rfl) (by decide) r0 dX12_partnersOf_38 rfl ?_
      obtain ⟨r0, h1, h2⟩ := h
      refine aj_if_ne (tgt := 46) C dX12_partnersOf_39 (by decide) r0 (fun e => ?_) (fun e => ?_)
      · have h := h1 e
        refine aj_iconst C dX12_partnersOf_46 ?_
        refine aj_iadd C dX12_partnersOf_47 ?_
        refine aj_istore_n (lv' := [some (vO 12 q0), some (vI v1), some (vI v2), some (vI (v3 + 0)), some (vI v4), some (vI v5)]) C dX12_partnersOf_48 (by decide) rfl ?_
        refine aj_aload_n C dX12_partnersOf_49 rfl ?_
        refine aj_getA (x := 0) (y := 14) C flX12_69 hq0 rfl dX12_partnersOf_50 ?_
        refine aj_iload C dX12_partnersOf_53 rfl ?_
        obtain ⟨r0, h⟩ := h
        refine aj_iald C (aj_ca (e := 0) (n := 14) (j := 34) hq0 (by decide) rfl) (by decide) r0 dX12_partnersOf_55 rfl ?_
        obtain ⟨r0, h1, h2⟩ := h
        refine aj_if_ne (tgt := 64) C dX12_partnersOf_56 (by decide) r0 (fun e => ?_) (fun e => ?_)
        · have h := h1 e
          exact tX12_partnersOf_64 C K (fun q0 v1 v2 v3 v4 v5 m hq0 hh => ih q0 v1 v2 v3 v4 v5 m hq0 hh) q0 v1 v2 (v3 + 0) v4 v5 _ hq0 h
        · have h := h2 e
          refine aj_iload_n C dX12_partnersOf_59 rfl ?_
          refine aj_iconst C dX12_partnersOf_60 ?_
          obtain ⟨r0, h1, h2⟩ := h
          refine aj_icmp_gt (tgt := 117) C dX12_partnersOf_61 (by decide) r0 (by decide) (fun e => ?_) (fun e => ?_)
          · have h := h1 e
            refine aj_iinc (lv' := [some (vO 12 q0), some (vI v1), some (vI v2), some (vI (v3 + 0)), some (vI v4), some (vI (v5 + 1))]) C dX12_partnersOf_117 rfl (by decide) rfl ?_
            refine aj_goto (tgt := 22) C dX12_partnersOf_120 (by decide) ?_
            exact ih q0 v1 v2 (v3 + 0) v4 (v5 + 1) _ hq0 h
          · have h := h2 e
            exact tX12_partnersOf_64 C K (fun q0 v1 v2 v3 v4 v5 m hq0 hh => ih q0 v1 v2 v3 v4 v5 m hq0 hh) q0 v1 v2 (v3 + 0) v4 v5 _ hq0 h
      · have h := h2 e
        refine aj_iconst C dX12_partnersOf_42 ?_
        refine aj_goto (tgt := 47) C dX12_partnersOf_43 (by decide) ?_
        refine aj_iadd C dX12_partnersOf_47 ?_
        refine aj_istore_n (lv' := [some (vO 12 q0), some (vI v1), some (vI v2), some (vI (v3 + 1)), some (vI v4), some (vI v5)]) C dX12_partnersOf_48 (by decide) rfl ?_
        refine aj_aload_n C dX12_partnersOf_49 rfl ?_
        refine aj_getA (x := 0) (y := 14) C flX12_69 hq0 rfl dX12_partnersOf_50 ?_
        refine aj_iload C dX12_partnersOf_53 rfl ?_
        obtain ⟨r0, h⟩ := h
        refine aj_iald C (aj_ca (e := 0) (n := 14) (j := 34) hq0 (by decide) rfl) (by decide) r0 dX12_partnersOf_55 rfl ?_
        obtain ⟨r0, h1, h2⟩ := h
        refine aj_if_ne (tgt := 64) C dX12_partnersOf_56 (by decide) r0 (fun e => ?_) (fun e => ?_)
        · have h := h1 e
          exact tX12_partnersOf_64 C K (fun q0 v1 v2 v3 v4 v5 m hq0 hh => ih q0 v1 v2 v3 v4 v5 m hq0 hh) q0 v1 v2 (v3 + 1) v4 v5 _ hq0 h
        · have h := h2 e
          refine aj_iload_n C dX12_partnersOf_59 rfl ?_
          refine aj_iconst C dX12_partnersOf_60 ?_
          obtain ⟨r0, h1, h2⟩ := h
          refine aj_icmp_gt (tgt := 117) C dX12_partnersOf_61 (by decide) r0 (by decide) (fun e => ?_) (fun e => ?_)
          · have h := h1 e
            refine aj_iinc (lv' := [some (vO 12 q0), some (vI v1), some (vI v2), some (vI (v3 + 1)), some (vI v4), some (vI (v5 + 1))]) C dX12_partnersOf_117 rfl (by decide) rfl ?_
            refine aj_goto (tgt := 22) C dX12_partnersOf_120 (by decide) ?_
            exact ih q0 v1 v2 (v3 + 1) v4 (v5 + 1) _ hq0 h
          · have h := h2 e
            exact tX12_partnersOf_64 C K (fun q0 v1 v2 v3 v4 v5 m hq0 hh => ih q0 v1 v2 v3 v4 v5 m hq0 hh) q0 v1 v2 (v3 + 1) v4 v5 _ hq0 h
def wX12_partnersOf (f : Nat) (Φ : Int → aj_M → Prop) (q0 : List Nat) (v1 : Int) (m : aj_M) : Prop := wX12_ballOf f (fun z1 m1 => hX12_partnersOf_22 f Φ f q0 v1 0 0 z1 (v1 + 1) m1) q0 v1 ((m q0 37) - 2) m
set_option maxHeartbeats 4000000 in
set_option maxRecDepth 100000 in
theorem sX12_partnersOf {n f : Nat} {Φ : Int → aj_M → Prop} {q0 : List Nat} {v1 : Int} {m : aj_M} (hq0 : (.inl (12, q0) : aj_R) ∈ aj_pls) (h : wX12_partnersOf f Φ q0 v1 m) : aj_Ct (n + 2) yX12_partnersOf cX12_partnersOf 6 (some .int) [vO 12 q0, vI v1] m (fun r m => ∃ z, r = some (vI z) ∧ Φ z m) := by
  refine aj_met (lv := [some (vO 12 q0), some (vI v1), none, none, none, none]) (by decide +kernel) rfl (Nat.le_of_ble_eq_true rfl) (fun X C K => ?_)
  unfold wX12_partnersOf at h
  refine aj_iconst C dX12_partnersOf_0 ?_
  refine aj_istore_n (lv' := [some (vO 12 q0), some (vI v1), some (vI 0), none, none, none]) C dX12_partnersOf_1 (by decide) rfl ?_
  refine aj_iconst C dX12_partnersOf_2 ?_
  refine aj_istore_n (lv' := [some (vO 12 q0), some (vI v1), some (vI 0), some (vI 0), none, none]) C dX12_partnersOf_3 (by decide) rfl ?_
  refine aj_aload_n C dX12_partnersOf_4 rfl ?_
  refine aj_iload_n C dX12_partnersOf_5 rfl ?_
  refine aj_aload_n C dX12_partnersOf_6 rfl ?_
  refine aj_getI C flX12_428 hq0 (by decide) dX12_partnersOf_7 rfl ?_
  refine aj_iconst C dX12_partnersOf_10 ?_
  refine aj_isub C dX12_partnersOf_11 ?_
  refine aj_callV (rest := []) C mvX12_431 (sX12_ballOf hq0 h) hq0 (aj_np 2 (by decide +kernel) rfl) (Nat.le_of_ble_eq_true rfl) rfl dX12_partnersOf_12 (fun r m1 h => ?_)
  obtain ⟨z1, rfl, h⟩ := h
  refine aj_istore (lv' := [some (vO 12 q0), some (vI v1), some (vI 0), some (vI 0), some (vI z1), none]) C dX12_partnersOf_15 (by decide) rfl ?_
  refine aj_iload_n C dX12_partnersOf_17 rfl ?_
  refine aj_iconst C dX12_partnersOf_18 ?_
  refine aj_iadd C dX12_partnersOf_19 ?_
  refine aj_istore (lv' := [some (vO 12 q0), some (vI v1), some (vI 0), some (vI 0), some (vI z1), some (vI (v1 + 1))]) C dX12_partnersOf_20 (by decide) rfl ?_
  exact tX12_partnersOf_22 C K f q0 v1 0 0 z1 (v1 + 1) _ hq0 h
theorem dX12_joinsOrParts_0 : decode cX12_joinsOrParts 0 = .ok (.aload_n 0, 1) := by decide +kernel
theorem dX12_joinsOrParts_1 : decode cX12_joinsOrParts 1 = .ok (.getfield 69, 3) := by decide +kernel
theorem dX12_joinsOrParts_4 : decode cX12_joinsOrParts 4 = .ok (.iload_n 1, 1) := by decide +kernel
theorem dX12_joinsOrParts_5 : decode cX12_joinsOrParts 5 = .ok (.dup2, 1) := by decide +kernel
theorem dX12_joinsOrParts_6 : decode cX12_joinsOrParts 6 = .ok (.iaload, 1) := by decide +kernel
theorem dX12_joinsOrParts_7 : decode cX12_joinsOrParts 7 = .ok (.iconst 1, 1) := by decide +kernel
theorem dX12_joinsOrParts_8 : decode cX12_joinsOrParts 8 = .ok (.iload_n 2, 1) := by decide +kernel
theorem dX12_joinsOrParts_9 : decode cX12_joinsOrParts 9 = .ok (.ishl, 1) := by decide +kernel
theorem dX12_joinsOrParts_10 : decode cX12_joinsOrParts 10 = .ok (.ixor, 1) := by decide +kernel
theorem dX12_joinsOrParts_11 : decode cX12_joinsOrParts 11 = .ok (.iastore, 1) := by decide +kernel
theorem dX12_joinsOrParts_12 : decode cX12_joinsOrParts 12 = .ok (.aload_n 0, 1) := by decide +kernel
theorem dX12_joinsOrParts_13 : decode cX12_joinsOrParts 13 = .ok (.getfield 69, 3) := by decide +kernel
theorem dX12_joinsOrParts_16 : decode cX12_joinsOrParts 16 = .ok (.iload_n 2, 1) := by decide +kernel
theorem dX12_joinsOrParts_17 : decode cX12_joinsOrParts 17 = .ok (.dup2, 1) := by decide +kernel
theorem dX12_joinsOrParts_18 : decode cX12_joinsOrParts 18 = .ok (.iaload, 1) := by decide +kernel
theorem dX12_joinsOrParts_19 : decode cX12_joinsOrParts 19 = .ok (.iconst 1, 1) := by decide +kernel
theorem dX12_joinsOrParts_20 : decode cX12_joinsOrParts 20 = .ok (.iload_n 1, 1) := by decide +kernel
theorem dX12_joinsOrParts_21 : decode cX12_joinsOrParts 21 = .ok (.ishl, 1) := by decide +kernel
theorem dX12_joinsOrParts_22 : decode cX12_joinsOrParts 22 = .ok (.ixor, 1) := by decide +kernel
theorem dX12_joinsOrParts_23 : decode cX12_joinsOrParts 23 = .ok (.iastore, 1) := by decide +kernel
theorem dX12_joinsOrParts_24 : decode cX12_joinsOrParts 24 = .ok (.return_, 1) := by decide +kernel
def wX12_joinsOrParts (f : Nat) (Φ : aj_M → Prop) (q0 : List Nat) (v1 : Int) (v2 : Int) (m : aj_M) : Prop := (0 ≤ v1 ∧ v1 < 14) ∧ (0 ≤ v1 ∧ v1 < 14) ∧ ∀ m1, m1 = aj_u m (34 :: q0) v1.toNat (aj_xor (m (34 :: q0) v1.toNat) (aj_shl 1 v2)) → (0 ≤ v2 ∧ v2 < 14) ∧ (0 ≤ v2 ∧ v2 < 14) ∧ ∀ m2, m2 = aj_u m1 (34 :: q0) v2.toNat (aj_xor (m1 (34 :: q0) v2.toNat) (aj_shl 1 v1)) → Φ m2
set_option maxHeartbeats 4000000 in
set_option maxRecDepth 100000 in
theorem sX12_joinsOrParts {n f : Nat} {Φ : aj_M → Prop} {q0 : List Nat} {v1 : Int} {v2 : Int} {m : aj_M} (hq0 : (.inl (12, q0) : aj_R) ∈ aj_pls) (h : wX12_joinsOrParts f Φ q0 v1 v2 m) : aj_Ct n yX12_joinsOrParts cX12_joinsOrParts 3 none [vO 12 q0, vI v1, vI v2] m (fun r m => r = none ∧ Φ m) := by
  refine aj_met (lv := [some (vO 12 q0), some (vI v1), some (vI v2)]) (by decide +kernel) rfl (Nat.le_of_ble_eq_true rfl) (fun X C K => ?_)
  unfold wX12_joinsOrParts at h
  refine aj_aload_n C dX12_joinsOrParts_0 rfl ?_
  refine aj_getA (x := 0) (y := 14) C flX12_69 hq0 rfl dX12_joinsOrParts_1 ?_
  refine aj_iload_n C dX12_joinsOrParts_4 rfl ?_
  refine aj_dup2 C aj_nI aj_nR dX12_joinsOrParts_5 ?_
  obtain ⟨r0, h⟩ := h
  refine aj_iald C (aj_ca (e := 0) (n := 14) (j := 34) hq0 (by decide) rfl) (by decide) r0 dX12_joinsOrParts_6 rfl ?_
  refine aj_iconst C dX12_joinsOrParts_7 ?_
  refine aj_iload_n C dX12_joinsOrParts_8 rfl ?_
  refine aj_ishl C dX12_joinsOrParts_9 ?_
  refine aj_ixor C dX12_joinsOrParts_10 ?_
  obtain ⟨r0, h⟩ := h
  refine aj_iast C (aj_ca (e := 0) (n := 14) (j := 34) hq0 (by decide) rfl) (by decide) r0 dX12_joinsOrParts_11 ?_
  refine aj_nm (fun m1 e1 => ?_)
  have h := h m1 e1
  refine aj_aload_n C dX12_joinsOrParts_12 rfl ?_
  refine aj_getA (x := 0) (y := 14) C flX12_69 hq0 rfl dX12_joinsOrParts_13 ?_
  refine aj_iload_n C dX12_joinsOrParts_16 rfl ?_
  refine aj_dup2 C aj_nI aj_nR dX12_joinsOrParts_17 ?_
  obtain ⟨r0, h⟩ := h
  refine aj_iald C (aj_ca (e := 0) (n := 14) (j := 34) hq0 (by decide) rfl) (by decide) r0 dX12_joinsOrParts_18 rfl ?_
  refine aj_iconst C dX12_joinsOrParts_19 ?_
  refine aj_iload_n C dX12_joinsOrParts_20 rfl ?_
  refine aj_ishl C dX12_joinsOrParts_21 ?_
  refine aj_ixor C dX12_joinsOrParts_22 ?_
  obtain ⟨r0, h⟩ := h
  refine aj_iast C (aj_ca (e := 0) (n := 14) (j := 34) hq0 (by decide) rfl) (by decide) r0 dX12_joinsOrParts_23 ?_
  refine aj_nm (fun m2 e1 => ?_)
  have h := h m2 e1
  exact aj_vret C K dX12_joinsOrParts_24 ⟨rfl, h⟩
theorem dX12_goesStep_0 : decode cX12_goesStep 0 = .ok (.aload_n 0, 1) := by decide +kernel
theorem dX12_goesStep_1 : decode cX12_goesStep 1 = .ok (.getfield 440, 3) := by decide +kernel
theorem dX12_goesStep_4 : decode cX12_goesStep 4 = .ok (.sipush 5000, 3) := by decide +kernel
theorem dX12_goesStep_7 : decode cX12_goesStep 7 = .ok (.if_icmp .ne 5, 3) := by decide +kernel
theorem dX12_goesStep_10 : decode cX12_goesStep 10 = .ok (.iconst 2, 1) := by decide +kernel
theorem dX12_goesStep_11 : decode cX12_goesStep 11 = .ok (.ireturn, 1) := by decide +kernel
theorem dX12_goesStep_12 : decode cX12_goesStep 12 = .ok (.aload_n 0, 1) := by decide +kernel
theorem dX12_goesStep_13 : decode cX12_goesStep 13 = .ok (.dup, 1) := by decide +kernel
theorem dX12_goesStep_14 : decode cX12_goesStep 14 = .ok (.getfield 440, 3) := by decide +kernel
theorem dX12_goesStep_17 : decode cX12_goesStep 17 = .ok (.iconst 1, 1) := by decide +kernel
theorem dX12_goesStep_18 : decode cX12_goesStep 18 = .ok (.iadd, 1) := by decide +kernel
theorem dX12_goesStep_19 : decode cX12_goesStep 19 = .ok (.putfield 440, 3) := by decide +kernel
theorem dX12_goesStep_22 : decode cX12_goesStep 22 = .ok (.iconst 0, 1) := by decide +kernel
theorem dX12_goesStep_23 : decode cX12_goesStep 23 = .ok (.istore_n 1, 1) := by decide +kernel
theorem dX12_goesStep_24 : decode cX12_goesStep 24 = .ok (.iload_n 1, 1) := by decide +kernel
theorem dX12_goesStep_25 : decode cX12_goesStep 25 = .ok (.aload_n 0, 1) := by decide +kernel
theorem dX12_goesStep_26 : decode cX12_goesStep 26 = .ok (.getfield 425, 3) := by decide +kernel
theorem dX12_goesStep_29 : decode cX12_goesStep 29 = .ok (.if_icmp .ge 25, 3) := by decide +kernel
theorem dX12_goesStep_32 : decode cX12_goesStep 32 = .ok (.aload_n 0, 1) := by decide +kernel
theorem dX12_goesStep_33 : decode cX12_goesStep 33 = .ok (.getfield 69, 3) := by decide +kernel
theorem dX12_goesStep_36 : decode cX12_goesStep 36 = .ok (.iload_n 1, 1) := by decide +kernel
theorem dX12_goesStep_37 : decode cX12_goesStep 37 = .ok (.iaload, 1) := by decide +kernel
theorem dX12_goesStep_38 : decode cX12_goesStep 38 = .ok (.invokestatic 434, 3) := by decide +kernel
theorem dX12_goesStep_41 : decode cX12_goesStep 41 = .ok (.aload_n 0, 1) := by decide +kernel
theorem dX12_goesStep_42 : decode cX12_goesStep 42 = .ok (.getfield 437, 3) := by decide +kernel
theorem dX12_goesStep_45 : decode cX12_goesStep 45 = .ok (.if_icmp .lt 9, 3) := by decide +kernel
theorem dX12_goesStep_48 : decode cX12_goesStep 48 = .ok (.iinc 1 1, 3) := by decide +kernel
theorem dX12_goesStep_51 : decode cX12_goesStep 51 = .ok (.goto (-27), 3) := by decide +kernel
theorem dX12_goesStep_54 : decode cX12_goesStep 54 = .ok (.iload_n 1, 1) := by decide +kernel
theorem dX12_goesStep_55 : decode cX12_goesStep 55 = .ok (.aload_n 0, 1) := by decide +kernel
theorem dX12_goesStep_56 : decode cX12_goesStep 56 = .ok (.getfield 425, 3) := by decide +kernel
theorem dX12_goesStep_59 : decode cX12_goesStep 59 = .ok (.if_icmp .ne 5, 3) := by decide +kernel
theorem dX12_goesStep_62 : decode cX12_goesStep 62 = .ok (.iconst 1, 1) := by decide +kernel
theorem dX12_goesStep_63 : decode cX12_goesStep 63 = .ok (.ireturn, 1) := by decide +kernel
theorem dX12_goesStep_64 : decode cX12_goesStep 64 = .ok (.aload_n 0, 1) := by decide +kernel
theorem dX12_goesStep_65 : decode cX12_goesStep 65 = .ok (.iload_n 1, 1) := by decide +kernel
theorem dX12_goesStep_66 : decode cX12_goesStep 66 = .ok (.invokevirtual 443, 3) := by decide +kernel
theorem dX12_goesStep_69 : decode cX12_goesStep 69 = .ok (.istore_n 2, 1) := by decide +kernel
theorem dX12_goesStep_70 : decode cX12_goesStep 70 = .ok (.aload_n 0, 1) := by decide +kernel
theorem dX12_goesStep_71 : decode cX12_goesStep 71 = .ok (.getfield 72, 3) := by decide +kernel
theorem dX12_goesStep_74 : decode cX12_goesStep 74 = .ok (.iload_n 1, 1) := by decide +kernel
theorem dX12_goesStep_75 : decode cX12_goesStep 75 = .ok (.iaload, 1) := by decide +kernel
theorem dX12_goesStep_76 : decode cX12_goesStep 76 = .ok (.istore_n 3, 1) := by decide +kernel
theorem dX12_goesStep_77 : decode cX12_goesStep 77 = .ok (.iload_n 1, 1) := by decide +kernel
theorem dX12_goesStep_78 : decode cX12_goesStep 78 = .ok (.iconst 1, 1) := by decide +kernel
theorem dX12_goesStep_79 : decode cX12_goesStep 79 = .ok (.iadd, 1) := by decide +kernel
theorem dX12_goesStep_80 : decode cX12_goesStep 80 = .ok (.istore 4, 2) := by decide +kernel
theorem dX12_goesStep_82 : decode cX12_goesStep 82 = .ok (.iload 4, 2) := by decide +kernel
theorem dX12_goesStep_84 : decode cX12_goesStep 84 = .ok (.aload_n 0, 1) := by decide +kernel
theorem dX12_goesStep_85 : decode cX12_goesStep 85 = .ok (.getfield 425, 3) := by decide +kernel
theorem dX12_goesStep_88 : decode cX12_goesStep 88 = .ok (.if_icmp .ge 73, 3) := by decide +kernel
theorem dX12_goesStep_91 : decode cX12_goesStep 91 = .ok (.iload_n 2, 1) := by decide +kernel
theorem dX12_goesStep_92 : decode cX12_goesStep 92 = .ok (.i2l, 1) := by decide +kernel
theorem dX12_goesStep_93 : decode cX12_goesStep 93 = .ok (.iload 4, 2) := by decide +kernel
theorem dX12_goesStep_95 : decode cX12_goesStep 95 = .ok (.invokestatic 274, 3) := by decide +kernel
theorem dX12_goesStep_98 : decode cX12_goesStep 98 = .ok (.ifCond .ne 6, 3) := by decide +kernel
theorem dX12_goesStep_101 : decode cX12_goesStep 101 = .ok (.goto 54, 3) := by decide +kernel
theorem dX12_goesStep_104 : decode cX12_goesStep 104 = .ok (.aload_n 0, 1) := by decide +kernel
theorem dX12_goesStep_105 : decode cX12_goesStep 105 = .ok (.iload_n 1, 1) := by decide +kernel
theorem dX12_goesStep_106 : decode cX12_goesStep 106 = .ok (.iload 4, 2) := by decide +kernel
theorem dX12_goesStep_108 : decode cX12_goesStep 108 = .ok (.invokevirtual 446, 3) := by decide +kernel
theorem dX12_goesStep_111 : decode cX12_goesStep 111 = .ok (.aload_n 0, 1) := by decide +kernel
theorem dX12_goesStep_112 : decode cX12_goesStep 112 = .ok (.invokevirtual 449, 3) := by decide +kernel
theorem dX12_goesStep_115 : decode cX12_goesStep 115 = .ok (.istore 5, 2) := by decide +kernel
theorem dX12_goesStep_117 : decode cX12_goesStep 117 = .ok (.iload 5, 2) := by decide +kernel
theorem dX12_goesStep_119 : decode cX12_goesStep 119 = .ok (.ifCond .eq 6, 3) := by decide +kernel
theorem dX12_goesStep_122 : decode cX12_goesStep 122 = .ok (.iload 5, 2) := by decide +kernel
theorem dX12_goesStep_124 : decode cX12_goesStep 124 = .ok (.ireturn, 1) := by decide +kernel
theorem dX12_goesStep_125 : decode cX12_goesStep 125 = .ok (.aload_n 0, 1) := by decide +kernel
theorem dX12_goesStep_126 : decode cX12_goesStep 126 = .ok (.iload_n 1, 1) := by decide +kernel
theorem dX12_goesStep_127 : decode cX12_goesStep 127 = .ok (.iload 4, 2) := by decide +kernel
theorem dX12_goesStep_129 : decode cX12_goesStep 129 = .ok (.invokevirtual 446, 3) := by decide +kernel
theorem dX12_goesStep_132 : decode cX12_goesStep 132 = .ok (.aload_n 0, 1) := by decide +kernel
theorem dX12_goesStep_133 : decode cX12_goesStep 133 = .ok (.getfield 72, 3) := by decide +kernel
theorem dX12_goesStep_136 : decode cX12_goesStep 136 = .ok (.iload_n 1, 1) := by decide +kernel
theorem dX12_goesStep_137 : decode cX12_goesStep 137 = .ok (.dup2, 1) := by decide +kernel
theorem dX12_goesStep_138 : decode cX12_goesStep 138 = .ok (.iaload, 1) := by decide +kernel
theorem dX12_goesStep_139 : decode cX12_goesStep 139 = .ok (.iconst 1, 1) := by decide +kernel
theorem dX12_goesStep_140 : decode cX12_goesStep 140 = .ok (.iload 4, 2) := by decide +kernel
theorem dX12_goesStep_142 : decode cX12_goesStep 142 = .ok (.ishl, 1) := by decide +kernel
theorem dX12_goesStep_143 : decode cX12_goesStep 143 = .ok (.ior, 1) := by decide +kernel
theorem dX12_goesStep_144 : decode cX12_goesStep 144 = .ok (.iastore, 1) := by decide +kernel
theorem dX12_goesStep_145 : decode cX12_goesStep 145 = .ok (.aload_n 0, 1) := by decide +kernel
theorem dX12_goesStep_146 : decode cX12_goesStep 146 = .ok (.dup, 1) := by decide +kernel
theorem dX12_goesStep_147 : decode cX12_goesStep 147 = .ok (.getfield 452, 3) := by decide +kernel
theorem dX12_goesStep_150 : decode cX12_goesStep 150 = .ok (.iconst 1, 1) := by decide +kernel
theorem dX12_goesStep_151 : decode cX12_goesStep 151 = .ok (.iadd, 1) := by decide +kernel
theorem dX12_goesStep_152 : decode cX12_goesStep 152 = .ok (.putfield 452, 3) := by decide +kernel
theorem dX12_goesStep_155 : decode cX12_goesStep 155 = .ok (.iinc 4 1, 3) := by decide +kernel
theorem dX12_goesStep_158 : decode cX12_goesStep 158 = .ok (.goto (-76), 3) := by decide +kernel
theorem dX12_goesStep_161 : decode cX12_goesStep 161 = .ok (.aload_n 0, 1) := by decide +kernel
theorem dX12_goesStep_162 : decode cX12_goesStep 162 = .ok (.getfield 72, 3) := by decide +kernel
theorem dX12_goesStep_165 : decode cX12_goesStep 165 = .ok (.iload_n 1, 1) := by decide +kernel
theorem dX12_goesStep_166 : decode cX12_goesStep 166 = .ok (.iload_n 3, 1) := by decide +kernel
theorem dX12_goesStep_167 : decode cX12_goesStep 167 = .ok (.iastore, 1) := by decide +kernel
theorem dX12_goesStep_168 : decode cX12_goesStep 168 = .ok (.iconst 0, 1) := by decide +kernel
theorem dX12_goesStep_169 : decode cX12_goesStep 169 = .ok (.ireturn, 1) := by decide +kernel
def hX12_goesStep_82 (f : Nat) (Φ : Int → aj_M → Prop) (R : Nat → (Int → aj_M → Prop) → List Nat → aj_M → Prop) : Nat → List Nat → Int → Int → Int → Int → aj_M → Prop
  | 0, _, _, _, _, _, _ => False
  | k + 1, q0, v1, v2, v3, v4, m => rI v4 ∧ rI (m q0 38) ∧ ((m q0 38) ≤ v4 → (0 ≤ v1 ∧ v1 < 14) ∧ ∀ m1, m1 = aj_u m (35 :: q0) v1.toNat v3 → Φ 0 m1) ∧ (¬ ((m q0 38) ≤ v4) → rI v2 ∧ wX12_isIn f (fun z1 m2 => rI z1 ∧ (¬ z1 = 0 → wX12_joinsOrParts f (fun m3 => R 0 (fun z3 m4 => rI z3 ∧ (z3 = 0 → wX12_joinsOrParts f (fun m5 => (0 ≤ v1 ∧ v1 < 14) ∧ (0 ≤ v1 ∧ v1 < 14) ∧ ∀ m6, m6 = aj_u m5 (35 :: q0) v1.toNat (aj_or (m5 (35 :: q0) v1.toNat) (aj_shl 1 v4)) → ∀ m7, m7 = aj_u m6 q0 40 ((m6 q0 40) + 1) → hX12_goesStep_82 f Φ R k q0 v1 v2 v3 (v4 + 1) m7) q0 v1 v4 m4) ∧ (¬ (z3 = 0) → Φ z3 m4)) q0 m3) q0 v1 v4 m2) ∧ (z1 = 0 → hX12_goesStep_82 f Φ R k q0 v1 v2 v3 (v4 + 1) m2)) v2 v4 m)
set_option maxHeartbeats 4000000 in
set_option maxRecDepth 100000 in
theorem tX12_goesStep_82 {X : aj_T} {n f : Nat} {Φ : Int → aj_M → Prop} (C : aj_Cx X cX12_goesStep RX12 6 (n + 3)) (K : aj_Rt X (some .int) (fun r m => ∃ z, r = some (vI z) ∧ Φ z m)) {R : Nat → (Int → aj_M → Prop) → List Nat → aj_M → Prop} (HR0 : ∀ (Φ : Int → aj_M → Prop) (q0 : List Nat) (m : aj_M) (hq0 : (.inl (12, q0) : aj_R) ∈ aj_pls), R 0 Φ q0 m → aj_Ct (n + 2) yX12_goesStep cX12_goesStep 6 (some .int) [vO 12 q0] m (fun r m => ∃ z, r = some (vI z) ∧ Φ z m)) : ∀ (k : Nat) (q0 : List Nat) (v1 : Int) (v2 : Int) (v3 : Int) (v4 : Int) (m : aj_M) (hq0 : (.inl (12, q0) : aj_R) ∈ aj_pls), hX12_goesStep_82 f Φ R k q0 v1 v2 v3 v4 m → aj_J X 82 [some (vO 12 q0), some (vI v1), some (vI v2), some (vI v3), some (vI v4), none] [] m := by
  intro k
  induction k with
  | zero =>
    intro q0 v1 v2 v3 v4 m _ h
    exact h.elim
  | succ k ih =>
    intro q0 v1 v2 v3 v4 m hq0 h
    unfold hX12_goesStep_82 at h
    refine aj_iload C dX12_goesStep_82 rfl ?_
    refine aj_aload_n C dX12_goesStep_84 rfl ?_
    refine aj_getI C flX12_425 hq0 (by decide) dX12_goesStep_85 rfl ?_
    obtain ⟨r0, r1, h1, h2⟩ := h
    refine aj_icmp_ge (tgt := 161) C dX12_goesStep_88 (by decide) r0 r1 (fun e => ?_) (fun e => ?_)
    · have h := h1 e
      refine aj_aload_n C dX12_goesStep_161 rfl ?_
      refine aj_getA (x := 0) (y := 14) C flX12_72 hq0 rfl dX12_goesStep_162 ?_
      refine aj_iload_n C dX12_goesStep_165 rfl ?_
      refine aj_iload_n C dX12_goesStep_166 rfl ?_
      obtain ⟨r0, h⟩ := h
      refine aj_iast C (aj_ca (e := 0) (n := 14) (j := 35) hq0 (by decide) rfl) (by decide) r0 dX12_goesStep_167 ?_
      refine aj_nm (fun m1 e1 => ?_)
      have h := h m1 e1
      refine aj_iconst C dX12_goesStep_168 ?_
      exact aj_iret C K dX12_goesStep_169 ⟨_, rfl, h⟩
    · have h := h2 e
      refine aj_iload_n C dX12_goesStep_91 rfl ?_
      obtain ⟨r0, h⟩ := h
      refine aj_i2l C dX12_goesStep_92 r0 ?_
      refine aj_iload C dX12_goesStep_93 rfl ?_
      refine aj_callS (rest := []) C msX12_274 (sX12_isIn  h) (aj_np 2 (by decide +kernel) rfl) (Nat.le_of_ble_eq_true rfl) rfl dX12_goesStep_95 (fun r m2 h => ?_)
      obtain ⟨z1, rfl, h⟩ := h
      obtain ⟨r0, h1, h2⟩ := h
      refine aj_if_ne (tgt := 104) C dX12_goesStep_98 (by decide) r0 (fun e => ?_) (fun e => ?_)
      · have h := h1 e
        refine aj_aload_n C dX12_goesStep_104 rfl ?_
        refine aj_iload_n C dX12_goesStep_105 rfl ?_
        refine aj_iload C dX12_goesStep_106 rfl ?_
        refine aj_callV (rest := []) C mvX12_446 (sX12_joinsOrParts hq0 h) hq0 (aj_np 2 (by decide +kernel) rfl) (Nat.le_of_ble_eq_true rfl) rfl dX12_goesStep_108 (fun r m3 h => ?_)
        obtain ⟨rfl, h⟩ := h
        refine aj_aload_n C dX12_goesStep_111 rfl ?_
        refine aj_callV (rest := []) C mvX12_449 (HR0 _ q0 _ hq0 h) hq0 (aj_np 0 (by decide +kernel) rfl) (Nat.le_of_ble_eq_true rfl) rfl dX12_goesStep_112 (fun r m4 h => ?_)
        obtain ⟨z3, rfl, h⟩ := h
        refine aj_istore (lv' := [some (vO 12 q0), some (vI v1), some (vI v2), some (vI v3), some (vI v4), some (vI z3)]) C dX12_goesStep_115 (by decide) rfl ?_
        refine aj_iload C dX12_goesStep_117 rfl ?_
        obtain ⟨r0, h1, h2⟩ := h
        refine aj_if_eq (tgt := 125) C dX12_goesStep_119 (by decide) r0 (fun e => ?_) (fun e => ?_)
        · have h := h1 e
          refine aj_aload_n C dX12_goesStep_125 rfl ?_
          refine aj_iload_n C dX12_goesStep_126 rfl ?_
          refine aj_iload C dX12_goesStep_127 rfl ?_
          refine aj_callV (rest := []) C mvX12_446 (sX12_joinsOrParts hq0 h) hq0 (aj_np 2 (by decide +kernel) rfl) (Nat.le_of_ble_eq_true rfl) rfl dX12_goesStep_129 (fun r m5 h => ?_)
          obtain ⟨rfl, h⟩ := h
          refine aj_aload_n C dX12_goesStep_132 rfl ?_
          refine aj_getA (x := 0) (y := 14) C flX12_72 hq0 rfl dX12_goesStep_133 ?_
          refine aj_iload_n C dX12_goesStep_136 rfl ?_
          refine aj_dup2 C aj_nI aj_nR dX12_goesStep_137 ?_
          obtain ⟨r0, h⟩ := h
          refine aj_iald C (aj_ca (e := 0) (n := 14) (j := 35) hq0 (by decide) rfl) (by decide) r0 dX12_goesStep_138 rfl ?_
          refine aj_iconst C dX12_goesStep_139 ?_
          refine aj_iload C dX12_goesStep_140 rfl ?_
          refine aj_ishl C dX12_goesStep_142 ?_
          refine aj_ior C dX12_goesStep_143 ?_
          obtain ⟨r0, h⟩ := h
          refine aj_iast C (aj_ca (e := 0) (n := 14) (j := 35) hq0 (by decide) rfl) (by decide) r0 dX12_goesStep_144 ?_
          refine aj_nm (fun m6 e1 => ?_)
          have h := h m6 e1
          refine aj_aload_n C dX12_goesStep_145 rfl ?_
          refine aj_dup C aj_nR dX12_goesStep_146 ?_
          refine aj_getI C flX12_452 hq0 (by decide) dX12_goesStep_147 rfl ?_
          refine aj_iconst C dX12_goesStep_150 ?_
          refine aj_iadd C dX12_goesStep_151 ?_
          refine aj_putI C fpX12_452 hq0 rfl dX12_goesStep_152 ?_
          refine aj_nm (fun m7 e1 => ?_)
          have h := h m7 e1
          refine aj_iinc (lv' := [some (vO 12 q0), some (vI v1), some (vI v2), some (vI v3), some (vI (v4 + 1)), some (vI z3)]) C dX12_goesStep_155 rfl (by decide) rfl ?_
          refine aj_goto (tgt := 82) C dX12_goesStep_158 (by decide) ?_
          refine aj_wk (lv' := [some (vO 12 q0), some (vI v1), some (vI v2), some (vI v3), some (vI (v4 + 1)), none]) (⟨rfl, ⟨rfl, ⟨rfl, ⟨rfl, ⟨rfl, trivial⟩⟩⟩⟩⟩) ?_
          exact ih q0 v1 v2 v3 (v4 + 1) _ hq0 h
        · have h := h2 e
          refine aj_iload C dX12_goesStep_122 rfl ?_
          exact aj_iret C K dX12_goesStep_124 ⟨_, rfl, h⟩
      · have h := h2 e
        refine aj_goto (tgt := 155) C dX12_goesStep_101 (by decide) ?_
        refine aj_iinc (lv' := [some (vO 12 q0), some (vI v1), some (vI v2), some (vI v3), some (vI (v4 + 1)), none]) C dX12_goesStep_155 rfl (by decide) rfl ?_
        refine aj_goto (tgt := 82) C dX12_goesStep_158 (by decide) ?_
        exact ih q0 v1 v2 v3 (v4 + 1) _ hq0 h
def hX12_goesStep_54 (f : Nat) (Φ : Int → aj_M → Prop) (R : Nat → (Int → aj_M → Prop) → List Nat → aj_M → Prop) (q0 : List Nat) (v1 : Int) (m : aj_M) : Prop := rI v1 ∧ rI (m q0 38) ∧ (¬ v1 = (m q0 38) → wX12_partnersOf f (fun z1 m1 => (0 ≤ v1 ∧ v1 < 14) ∧ hX12_goesStep_82 f Φ R f q0 v1 z1 (m1 (35 :: q0) v1.toNat) (v1 + 1) m1) q0 v1 m) ∧ (v1 = (m q0 38) → Φ 1 m)
set_option maxHeartbeats 4000000 in
set_option maxRecDepth 100000 in
theorem tX12_goesStep_54 {X : aj_T} {n f : Nat} {Φ : Int → aj_M → Prop} (C : aj_Cx X cX12_goesStep RX12 6 (n + 3)) (K : aj_Rt X (some .int) (fun r m => ∃ z, r = some (vI z) ∧ Φ z m)) {R : Nat → (Int → aj_M → Prop) → List Nat → aj_M → Prop} (HR0 : ∀ (Φ : Int → aj_M → Prop) (q0 : List Nat) (m : aj_M) (hq0 : (.inl (12, q0) : aj_R) ∈ aj_pls), R 0 Φ q0 m → aj_Ct (n + 2) yX12_goesStep cX12_goesStep 6 (some .int) [vO 12 q0] m (fun r m => ∃ z, r = some (vI z) ∧ Φ z m)) (q0 : List Nat) (v1 : Int) (m : aj_M) (hq0 : (.inl (12, q0) : aj_R) ∈ aj_pls) (h : hX12_goesStep_54 f Φ R q0 v1 m) : aj_J X 54 [some (vO 12 q0), some (vI v1), none, none, none, none] [] m := by
  unfold hX12_goesStep_54 at h
  refine aj_iload_n C dX12_goesStep_54 rfl ?_
  refine aj_aload_n C dX12_goesStep_55 rfl ?_
  refine aj_getI C flX12_425 hq0 (by decide) dX12_goesStep_56 rfl ?_
  obtain ⟨r0, r1, h1, h2⟩ := h
  refine aj_icmp_ne (tgt := 64) C dX12_goesStep_59 (by decide) r0 r1 (fun e => ?_) (fun e => ?_)
  · have h := h1 e
    refine aj_aload_n C dX12_goesStep_64 rfl ?_
    refine aj_iload_n C dX12_goesStep_65 rfl ?_
    refine aj_callV (rest := []) C mvX12_443 (sX12_partnersOf hq0 h) hq0 (aj_np 1 (by decide +kernel) rfl) (Nat.le_of_ble_eq_true rfl) rfl dX12_goesStep_66 (fun r m1 h => ?_)
    obtain ⟨z1, rfl, h⟩ := h
    refine aj_istore_n (lv' := [some (vO 12 q0), some (vI v1), some (vI z1), none, none, none]) C dX12_goesStep_69 (by decide) rfl ?_
    refine aj_aload_n C dX12_goesStep_70 rfl ?_
    refine aj_getA (x := 0) (y := 14) C flX12_72 hq0 rfl dX12_goesStep_71 ?_
    refine aj_iload_n C dX12_goesStep_74 rfl ?_
    obtain ⟨r0, h⟩ := h
    refine aj_iald C (aj_ca (e := 0) (n := 14) (j := 35) hq0 (by decide) rfl) (by decide) r0 dX12_goesStep_75 rfl ?_
    refine aj_istore_n (lv' := [some (vO 12 q0), some (vI v1), some (vI z1), some (vI (m1 (35 :: q0) v1.toNat)), none, none]) C dX12_goesStep_76 (by decide) rfl ?_
    refine aj_iload_n C dX12_goesStep_77 rfl ?_
    refine aj_iconst C dX12_goesStep_78 ?_
    refine aj_iadd C dX12_goesStep_79 ?_
    refine aj_istore (lv' := [some (vO 12 q0), some (vI v1), some (vI z1), some (vI (m1 (35 :: q0) v1.toNat)), some (vI (v1 + 1)), none]) C dX12_goesStep_80 (by decide) rfl ?_
    exact tX12_goesStep_82 C K HR0 f q0 v1 z1 (m1 (35 :: q0) v1.toNat) (v1 + 1) _ hq0 h
  · have h := h2 e
    refine aj_iconst C dX12_goesStep_62 ?_
    exact aj_iret C K dX12_goesStep_63 ⟨_, rfl, h⟩
def hX12_goesStep_24 (f : Nat) (Φ : Int → aj_M → Prop) (R : Nat → (Int → aj_M → Prop) → List Nat → aj_M → Prop) : Nat → List Nat → Int → aj_M → Prop
  | 0, _, _, _ => False
  | k + 1, q0, v1, m => rI v1 ∧ rI (m q0 38) ∧ ((m q0 38) ≤ v1 → hX12_goesStep_54 f Φ R q0 v1 m) ∧ (¬ ((m q0 38) ≤ v1) → (0 ≤ v1 ∧ v1 < 14) ∧ wX12_bitsOf f (fun z1 m1 => rI z1 ∧ rI (m1 q0 36) ∧ (z1 < (m1 q0 36) → hX12_goesStep_54 f Φ R q0 v1 m1) ∧ (¬ (z1 < (m1 q0 36)) → hX12_goesStep_24 f Φ R k q0 (v1 + 1) m1)) (m (34 :: q0) v1.toNat) m)
set_option maxHeartbeats 4000000 in
set_option maxRecDepth 100000 in
theorem tX12_goesStep_24 {X : aj_T} {n f : Nat} {Φ : Int → aj_M → Prop} (C : aj_Cx X cX12_goesStep RX12 6 (n + 3)) (K : aj_Rt X (some .int) (fun r m => ∃ z, r = some (vI z) ∧ Φ z m)) {R : Nat → (Int → aj_M → Prop) → List Nat → aj_M → Prop} (HR0 : ∀ (Φ : Int → aj_M → Prop) (q0 : List Nat) (m : aj_M) (hq0 : (.inl (12, q0) : aj_R) ∈ aj_pls), R 0 Φ q0 m → aj_Ct (n + 2) yX12_goesStep cX12_goesStep 6 (some .int) [vO 12 q0] m (fun r m => ∃ z, r = some (vI z) ∧ Φ z m)) : ∀ (k : Nat) (q0 : List Nat) (v1 : Int) (m : aj_M) (hq0 : (.inl (12, q0) : aj_R) ∈ aj_pls), hX12_goesStep_24 f Φ R k q0 v1 m → aj_J X 24 [some (vO 12 q0), some (vI v1), none, none, none, none] [] m := by
  intro k
  induction k with
  | zero =>
    intro q0 v1 m _ h
    exact h.elim
  | succ k ih =>
    intro q0 v1 m hq0 h
    unfold hX12_goesStep_24 at h
    refine aj_iload_n C dX12_goesStep_24 rfl ?_
    refine aj_aload_n C dX12_goesStep_25 rfl ?_
    refine aj_getI C flX12_425 hq0 (by decide) dX12_goesStep_26 rfl ?_
    obtain ⟨r0, r1, h1, h2⟩ := h
    refine aj_icmp_ge (tgt := 54) C dX12_goesStep_29 (by decide) r0 r1 (fun e => ?_) (fun e => ?_)
    · have h := h1 e
      exact tX12_goesStep_54 C K HR0 q0 v1 _ hq0 h
    · have h := h2 e
      refine aj_aload_n C dX12_goesStep_32 rfl ?_
      refine aj_getA (x := 0) (y := 14) C flX12_69 hq0 rfl dX12_goesStep_33 ?_
      refine aj_iload_n C dX12_goesStep_36 rfl ?_
      obtain ⟨r0, h⟩ := h
      refine aj_iald C (aj_ca (e := 0) (n := 14) (j := 34) hq0 (by decide) rfl) (by decide) r0 dX12_goesStep_37 rfl ?_
      refine aj_callS (rest := []) C msX12_434 (sX12_bitsOf  h) (aj_np 1 (by decide +kernel) rfl) (Nat.le_of_ble_eq_true rfl) rfl dX12_goesStep_38 (fun r m1 h => ?_)
      obtain ⟨z1, rfl, h⟩ := h
      refine aj_aload_n C dX12_goesStep_41 rfl ?_
      refine aj_getI C flX12_437 hq0 (by decide) dX12_goesStep_42 rfl ?_
      obtain ⟨r0, r1, h1, h2⟩ := h
      refine aj_icmp_lt (tgt := 54) C dX12_goesStep_45 (by decide) r0 r1 (fun e => ?_) (fun e => ?_)
      · have h := h1 e
        exact tX12_goesStep_54 C K HR0 q0 v1 _ hq0 h
      · have h := h2 e
        refine aj_iinc (lv' := [some (vO 12 q0), some (vI (v1 + 1)), none, none, none, none]) C dX12_goesStep_48 rfl (by decide) rfl ?_
        refine aj_goto (tgt := 24) C dX12_goesStep_51 (by decide) ?_
        exact ih q0 (v1 + 1) _ hq0 h
def wbX12_goesStep (f : Nat) (Φ : Int → aj_M → Prop) (R : Nat → (Int → aj_M → Prop) → List Nat → aj_M → Prop) (q0 : List Nat) (m : aj_M) : Prop := rI (m q0 39) ∧ (¬ (m q0 39) = 5000 → ∀ m1, m1 = aj_u m q0 39 ((m q0 39) + 1) → hX12_goesStep_24 f Φ R f q0 0 m1) ∧ ((m q0 39) = 5000 → Φ 2 m)
set_option maxHeartbeats 4000000 in
set_option maxRecDepth 100000 in
theorem sbX12_goesStep {n f : Nat} {Φ : Int → aj_M → Prop} {R : Nat → (Int → aj_M → Prop) → List Nat → aj_M → Prop} (HR0 : ∀ (Φ : Int → aj_M → Prop) (q0 : List Nat) (m : aj_M) (hq0 : (.inl (12, q0) : aj_R) ∈ aj_pls), R 0 Φ q0 m → aj_Ct (n + 2) yX12_goesStep cX12_goesStep 6 (some .int) [vO 12 q0] m (fun r m => ∃ z, r = some (vI z) ∧ Φ z m)) {q0 : List Nat} {m : aj_M} (hq0 : (.inl (12, q0) : aj_R) ∈ aj_pls) (h : wbX12_goesStep f Φ R q0 m) : aj_Ct (n + 3) yX12_goesStep cX12_goesStep 6 (some .int) [vO 12 q0] m (fun r m => ∃ z, r = some (vI z) ∧ Φ z m) := by
  refine aj_met (lv := [some (vO 12 q0), none, none, none, none, none]) (by decide +kernel) rfl (Nat.le_of_ble_eq_true rfl) (fun X C K => ?_)
  unfold wbX12_goesStep at h
  refine aj_aload_n C dX12_goesStep_0 rfl ?_
  refine aj_getI C flX12_440 hq0 (by decide) dX12_goesStep_1 rfl ?_
  refine aj_sipush C dX12_goesStep_4 (by decide) ?_
  obtain ⟨r0, h1, h2⟩ := h
  refine aj_icmp_ne (tgt := 12) C dX12_goesStep_7 (by decide) r0 (by decide) (fun e => ?_) (fun e => ?_)
  · have h := h1 e
    refine aj_aload_n C dX12_goesStep_12 rfl ?_
    refine aj_dup C aj_nR dX12_goesStep_13 ?_
    refine aj_getI C flX12_440 hq0 (by decide) dX12_goesStep_14 rfl ?_
    refine aj_iconst C dX12_goesStep_17 ?_
    refine aj_iadd C dX12_goesStep_18 ?_
    refine aj_putI C fpX12_440 hq0 rfl dX12_goesStep_19 ?_
    refine aj_nm (fun m1 e1 => ?_)
    have h := h m1 e1
    refine aj_iconst C dX12_goesStep_22 ?_
    refine aj_istore_n (lv' := [some (vO 12 q0), some (vI 0), none, none, none, none]) C dX12_goesStep_23 (by decide) rfl ?_
    exact tX12_goesStep_24 C K HR0 f q0 0 _ hq0 h
  · have h := h2 e
    refine aj_iconst C dX12_goesStep_10 ?_
    exact aj_iret C K dX12_goesStep_11 ⟨_, rfl, h⟩
def rG4 (f : Nat) : Nat → Nat → (Int → aj_M → Prop) → List Nat → aj_M → Prop
  | 0, _, _, _, _ => False
  | d + 1, t, Φ, q0, m => if t = 0 then wbX12_goesStep f Φ (rG4 f d) q0 m else False
set_option maxRecDepth 100000 in
theorem gG4 (f : Nat) : ∀ d : Nat, (∀ n : Nat, ∀ (Φ : Int → aj_M → Prop) (q0 : List Nat) (m : aj_M) (hq0 : (.inl (12, q0) : aj_R) ∈ aj_pls), rG4 f d 0 Φ q0 m → aj_Ct (n + d + 2) yX12_goesStep cX12_goesStep 6 (some .int) [vO 12 q0] m (fun r m => ∃ z, r = some (vI z) ∧ Φ z m)) := by
  intro d
  induction d with
  | zero =>
    exact (fun n Φ q0 m hq0 h => h.elim)
  | succ d ih =>
    · intro n Φ q0 m hq0 h
      rw [show n + (d + 1) + 2 = (n + d) + 3 by omega]
      exact sbX12_goesStep (n := n + d) (f := f) (R := rG4 f d) (ih n) hq0 h
def wX12_goesStep (f : Nat) (Φ : Int → aj_M → Prop) (q0 : List Nat) (m : aj_M) : Prop := rG4 f 32 0 Φ q0 m
theorem sX12_goesStep {n f : Nat} {Φ : Int → aj_M → Prop} {q0 : List Nat} {m : aj_M} (hq0 : (.inl (12, q0) : aj_R) ∈ aj_pls) (h : wX12_goesStep f Φ q0 m) : aj_Ct (n + 34) yX12_goesStep cX12_goesStep 6 (some .int) [vO 12 q0] m (fun r m => ∃ z, r = some (vI z) ∧ Φ z m) := by
  rw [show n + 34 = n + 32 + 2 by omega]
  exact (gG4 f 32) n Φ q0 m hq0 h
theorem dX12_isSearch_0 : decode cX12_isSearch 0 = .ok (.iload_n 0, 1) := by decide +kernel
theorem dX12_isSearch_1 : decode cX12_isSearch 1 = .ok (.i2l, 1) := by decide +kernel
theorem dX12_isSearch_2 : decode cX12_isSearch 2 = .ok (.ldc2_w 385, 3) := by decide +kernel
theorem dX12_isSearch_5 : decode cX12_isSearch 5 = .ok (.ldc2_w 216, 3) := by decide +kernel
theorem dX12_isSearch_8 : decode cX12_isSearch 8 = .ok (.invokestatic 154, 3) := by decide +kernel
theorem dX12_isSearch_11 : decode cX12_isSearch 11 = .ok (.ifCond .eq 33, 3) := by decide +kernel
theorem dX12_isSearch_14 : decode cX12_isSearch 14 = .ok (.iload_n 1, 1) := by decide +kernel
theorem dX12_isSearch_15 : decode cX12_isSearch 15 = .ok (.i2l, 1) := by decide +kernel
theorem dX12_isSearch_16 : decode cX12_isSearch 16 = .ok (.ldc2_w 328, 3) := by decide +kernel
theorem dX12_isSearch_19 : decode cX12_isSearch 19 = .ok (.ldc2_w 455, 3) := by decide +kernel
theorem dX12_isSearch_22 : decode cX12_isSearch 22 = .ok (.invokestatic 154, 3) := by decide +kernel
theorem dX12_isSearch_25 : decode cX12_isSearch 25 = .ok (.ifCond .eq 19, 3) := by decide +kernel
theorem dX12_isSearch_28 : decode cX12_isSearch 28 = .ok (.iload_n 2, 1) := by decide +kernel
theorem dX12_isSearch_29 : decode cX12_isSearch 29 = .ok (.i2l, 1) := by decide +kernel
theorem dX12_isSearch_30 : decode cX12_isSearch 30 = .ok (.lconst 1, 1) := by decide +kernel
theorem dX12_isSearch_31 : decode cX12_isSearch 31 = .ok (.ldc2_w 457, 3) := by decide +kernel
theorem dX12_isSearch_34 : decode cX12_isSearch 34 = .ok (.invokestatic 154, 3) := by decide +kernel
theorem dX12_isSearch_37 : decode cX12_isSearch 37 = .ok (.ifCond .eq 7, 3) := by decide +kernel
theorem dX12_isSearch_40 : decode cX12_isSearch 40 = .ok (.iconst 1, 1) := by decide +kernel
theorem dX12_isSearch_41 : decode cX12_isSearch 41 = .ok (.goto 4, 3) := by decide +kernel
theorem dX12_isSearch_44 : decode cX12_isSearch 44 = .ok (.iconst 0, 1) := by decide +kernel
theorem dX12_isSearch_45 : decode cX12_isSearch 45 = .ok (.ireturn, 1) := by decide +kernel
def wX12_isSearch (f : Nat) (Φ : Int → aj_M → Prop) (v0 : Int) (v1 : Int) (v2 : Int) (m : aj_M) : Prop := rI v0 ∧ wX12_within f (fun z1 m1 => rI z1 ∧ (z1 = 0 → Φ 0 m1) ∧ (¬ (z1 = 0) → rI v1 ∧ wX12_within f (fun z2 m2 => rI z2 ∧ (z2 = 0 → Φ 0 m2) ∧ (¬ (z2 = 0) → rI v2 ∧ wX12_within f (fun z3 m3 => rI z3 ∧ (z3 = 0 → Φ 0 m3) ∧ (¬ (z3 = 0) → Φ 1 m3)) v2 1 14 m2)) v1 3 8 m1)) v0 2 4 m
set_option maxHeartbeats 4000000 in
set_option maxRecDepth 100000 in
theorem sX12_isSearch {n f : Nat} {Φ : Int → aj_M → Prop} {v0 : Int} {v1 : Int} {v2 : Int} {m : aj_M}  (h : wX12_isSearch f Φ v0 v1 v2 m) : aj_Ct (n + 1) yX12_isSearch cX12_isSearch 3 (some .boolean) [vI v0, vI v1, vI v2] m (fun r m => ∃ z, r = some (vI z) ∧ Φ z m) := by
  refine aj_met (lv := [some (vI v0), some (vI v1), some (vI v2)]) (by decide +kernel) rfl (Nat.le_of_ble_eq_true rfl) (fun X C K => ?_)
  unfold wX12_isSearch at h
  refine aj_iload_n C dX12_isSearch_0 rfl ?_
  obtain ⟨r0, h⟩ := h
  refine aj_i2l C dX12_isSearch_1 r0 ?_
  refine aj_ldc2 (z := 2) C (wd2023) rfl dX12_isSearch_2 ?_
  refine aj_ldc2 (z := 4) C (wd1728) rfl dX12_isSearch_5 ?_
  refine aj_callS (rest := []) C msX12_154 (sX12_within  h) (aj_np 3 (by decide +kernel) rfl) (Nat.le_of_ble_eq_true rfl) rfl dX12_isSearch_8 (fun r m1 h => ?_)
  obtain ⟨z1, rfl, h⟩ := h
  obtain ⟨r0, h1, h2⟩ := h
  refine aj_if_eq (tgt := 44) C dX12_isSearch_11 (by decide) r0 (fun e => ?_) (fun e => ?_)
  · have h := h1 e
    refine aj_iconst C dX12_isSearch_44 ?_
    exact aj_zret C K (Or.inl rfl) dX12_isSearch_45 ⟨_, rfl, h⟩
  · have h := h2 e
    refine aj_iload_n C dX12_isSearch_14 rfl ?_
    obtain ⟨r0, h⟩ := h
    refine aj_i2l C dX12_isSearch_15 r0 ?_
    refine aj_ldc2 (z := 3) C (wd1841) rfl dX12_isSearch_16 ?_
    refine aj_ldc2 (z := 8) C (wd2093) rfl dX12_isSearch_19 ?_
    refine aj_callS (rest := []) C msX12_154 (sX12_within  h) (aj_np 3 (by decide +kernel) rfl) (Nat.le_of_ble_eq_true rfl) rfl dX12_isSearch_22 (fun r m2 h => ?_)
    obtain ⟨z2, rfl, h⟩ := h
    obtain ⟨r0, h1, h2⟩ := h
    refine aj_if_eq (tgt := 44) C dX12_isSearch_25 (by decide) r0 (fun e => ?_) (fun e => ?_)
    · have h := h1 e
      refine aj_iconst C dX12_isSearch_44 ?_
      exact aj_zret C K (Or.inl rfl) dX12_isSearch_45 ⟨_, rfl, h⟩
    · have h := h2 e
      refine aj_iload_n C dX12_isSearch_28 rfl ?_
      obtain ⟨r0, h⟩ := h
      refine aj_i2l C dX12_isSearch_29 r0 ?_
      refine aj_lconst (z := 1) C dX12_isSearch_30 rfl ?_
      refine aj_ldc2 (z := 14) C (wd2094) rfl dX12_isSearch_31 ?_
      refine aj_callS (rest := []) C msX12_154 (sX12_within  h) (aj_np 3 (by decide +kernel) rfl) (Nat.le_of_ble_eq_true rfl) rfl dX12_isSearch_34 (fun r m3 h => ?_)
      obtain ⟨z3, rfl, h⟩ := h
      obtain ⟨r0, h1, h2⟩ := h
      refine aj_if_eq (tgt := 44) C dX12_isSearch_37 (by decide) r0 (fun e => ?_) (fun e => ?_)
      · have h := h1 e
        refine aj_iconst C dX12_isSearch_44 ?_
        exact aj_zret C K (Or.inl rfl) dX12_isSearch_45 ⟨_, rfl, h⟩
      · have h := h2 e
        refine aj_iconst C dX12_isSearch_40 ?_
        refine aj_goto (tgt := 45) C dX12_isSearch_41 (by decide) ?_
        exact aj_zret C K (Or.inr rfl) dX12_isSearch_45 ⟨_, rfl, h⟩
theorem dX12_goesSearch_0 : decode cX12_goesSearch 0 = .ok (.aload_n 0, 1) := by decide +kernel
theorem dX12_goesSearch_1 : decode cX12_goesSearch 1 = .ok (.iload_n 1, 1) := by decide +kernel
theorem dX12_goesSearch_2 : decode cX12_goesSearch 2 = .ok (.putfield 437, 3) := by decide +kernel
theorem dX12_goesSearch_5 : decode cX12_goesSearch 5 = .ok (.aload_n 0, 1) := by decide +kernel
theorem dX12_goesSearch_6 : decode cX12_goesSearch 6 = .ok (.iload_n 2, 1) := by decide +kernel
theorem dX12_goesSearch_7 : decode cX12_goesSearch 7 = .ok (.putfield 428, 3) := by decide +kernel
theorem dX12_goesSearch_10 : decode cX12_goesSearch 10 = .ok (.aload_n 0, 1) := by decide +kernel
theorem dX12_goesSearch_11 : decode cX12_goesSearch 11 = .ok (.iload_n 3, 1) := by decide +kernel
theorem dX12_goesSearch_12 : decode cX12_goesSearch 12 = .ok (.putfield 425, 3) := by decide +kernel
theorem dX12_goesSearch_15 : decode cX12_goesSearch 15 = .ok (.aload_n 0, 1) := by decide +kernel
theorem dX12_goesSearch_16 : decode cX12_goesSearch 16 = .ok (.iconst 0, 1) := by decide +kernel
theorem dX12_goesSearch_17 : decode cX12_goesSearch 17 = .ok (.putfield 440, 3) := by decide +kernel
theorem dX12_goesSearch_20 : decode cX12_goesSearch 20 = .ok (.aload_n 0, 1) := by decide +kernel
theorem dX12_goesSearch_21 : decode cX12_goesSearch 21 = .ok (.iconst 0, 1) := by decide +kernel
theorem dX12_goesSearch_22 : decode cX12_goesSearch 22 = .ok (.putfield 452, 3) := by decide +kernel
theorem dX12_goesSearch_25 : decode cX12_goesSearch 25 = .ok (.iconst 0, 1) := by decide +kernel
theorem dX12_goesSearch_26 : decode cX12_goesSearch 26 = .ok (.istore 4, 2) := by decide +kernel
theorem dX12_goesSearch_28 : decode cX12_goesSearch 28 = .ok (.iload 4, 2) := by decide +kernel
theorem dX12_goesSearch_30 : decode cX12_goesSearch 30 = .ok (.bipush 14, 2) := by decide +kernel
theorem dX12_goesSearch_32 : decode cX12_goesSearch 32 = .ok (.if_icmp .ge 25, 3) := by decide +kernel
theorem dX12_goesSearch_35 : decode cX12_goesSearch 35 = .ok (.aload_n 0, 1) := by decide +kernel
theorem dX12_goesSearch_36 : decode cX12_goesSearch 36 = .ok (.getfield 69, 3) := by decide +kernel
theorem dX12_goesSearch_39 : decode cX12_goesSearch 39 = .ok (.iload 4, 2) := by decide +kernel
theorem dX12_goesSearch_41 : decode cX12_goesSearch 41 = .ok (.iconst 0, 1) := by decide +kernel
theorem dX12_goesSearch_42 : decode cX12_goesSearch 42 = .ok (.iastore, 1) := by decide +kernel
theorem dX12_goesSearch_43 : decode cX12_goesSearch 43 = .ok (.aload_n 0, 1) := by decide +kernel
theorem dX12_goesSearch_44 : decode cX12_goesSearch 44 = .ok (.getfield 72, 3) := by decide +kernel
theorem dX12_goesSearch_47 : decode cX12_goesSearch 47 = .ok (.iload 4, 2) := by decide +kernel
theorem dX12_goesSearch_49 : decode cX12_goesSearch 49 = .ok (.iconst 0, 1) := by decide +kernel
theorem dX12_goesSearch_50 : decode cX12_goesSearch 50 = .ok (.iastore, 1) := by decide +kernel
theorem dX12_goesSearch_51 : decode cX12_goesSearch 51 = .ok (.iinc 4 1, 3) := by decide +kernel
theorem dX12_goesSearch_54 : decode cX12_goesSearch 54 = .ok (.goto (-26), 3) := by decide +kernel
theorem dX12_goesSearch_57 : decode cX12_goesSearch 57 = .ok (.aload_n 0, 1) := by decide +kernel
theorem dX12_goesSearch_58 : decode cX12_goesSearch 58 = .ok (.invokevirtual 449, 3) := by decide +kernel
theorem dX12_goesSearch_61 : decode cX12_goesSearch 61 = .ok (.ireturn, 1) := by decide +kernel
def hX12_goesSearch_28 (f : Nat) (Φ : Int → aj_M → Prop) : Nat → List Nat → Int → aj_M → Prop
  | 0, _, _, _ => False
  | k + 1, q0, v4, m => rI v4 ∧ (14 ≤ v4 → wX12_goesStep f (fun z1 m1 => Φ z1 m1) q0 m) ∧ (¬ (14 ≤ v4) → (0 ≤ v4 ∧ v4 < 14) ∧ ∀ m2, m2 = aj_u m (34 :: q0) v4.toNat 0 → (0 ≤ v4 ∧ v4 < 14) ∧ ∀ m3, m3 = aj_u m2 (35 :: q0) v4.toNat 0 → hX12_goesSearch_28 f Φ k q0 (v4 + 1) m3)
set_option maxHeartbeats 4000000 in
set_option maxRecDepth 100000 in
theorem tX12_goesSearch_28 {X : aj_T} {n f : Nat} {Φ : Int → aj_M → Prop} (C : aj_Cx X cX12_goesSearch RX12 5 (n + 35)) (K : aj_Rt X (some .int) (fun r m => ∃ z, r = some (vI z) ∧ Φ z m)) : ∀ (k : Nat) (q0 : List Nat) (v4 : Int) (m : aj_M) (hq0 : (.inl (12, q0) : aj_R) ∈ aj_pls), hX12_goesSearch_28 f Φ k q0 v4 m → aj_J X 28 [some (vO 12 q0), none, none, none, some (vI v4)] [] m := by
  intro k
  induction k with
  | zero =>
    intro q0 v4 m _ h
    exact h.elim
  | succ k ih =>
    intro q0 v4 m hq0 h
    unfold hX12_goesSearch_28 at h
    refine aj_iload C dX12_goesSearch_28 rfl ?_
    refine aj_bipush C dX12_goesSearch_30 (by decide) ?_
    obtain ⟨r0, h1, h2⟩ := h
    refine aj_icmp_ge (tgt := 57) C dX12_goesSearch_32 (by decide) r0 (by decide) (fun e => ?_) (fun e => ?_)
    · have h := h1 e
      refine aj_aload_n C dX12_goesSearch_57 rfl ?_
      refine aj_callV (rest := []) C mvX12_449 (sX12_goesStep hq0 h) hq0 (aj_np 0 (by decide +kernel) rfl) (Nat.le_of_ble_eq_true rfl) rfl dX12_goesSearch_58 (fun r m1 h => ?_)
      obtain ⟨z1, rfl, h⟩ := h
      exact aj_iret C K dX12_goesSearch_61 ⟨_, rfl, h⟩
    · have h := h2 e
      refine aj_aload_n C dX12_goesSearch_35 rfl ?_
      refine aj_getA (x := 0) (y := 14) C flX12_69 hq0 rfl dX12_goesSearch_36 ?_
      refine aj_iload C dX12_goesSearch_39 rfl ?_
      refine aj_iconst C dX12_goesSearch_41 ?_
      obtain ⟨r0, h⟩ := h
      refine aj_iast C (aj_ca (e := 0) (n := 14) (j := 34) hq0 (by decide) rfl) (by decide) r0 dX12_goesSearch_42 ?_
      refine aj_nm (fun m2 e1 => ?_)
      have h := h m2 e1
      refine aj_aload_n C dX12_goesSearch_43 rfl ?_
      refine aj_getA (x := 0) (y := 14) C flX12_72 hq0 rfl dX12_goesSearch_44 ?_
      refine aj_iload C dX12_goesSearch_47 rfl ?_
      refine aj_iconst C dX12_goesSearch_49 ?_
      obtain ⟨r0, h⟩ := h
      refine aj_iast C (aj_ca (e := 0) (n := 14) (j := 35) hq0 (by decide) rfl) (by decide) r0 dX12_goesSearch_50 ?_
      refine aj_nm (fun m3 e1 => ?_)
      have h := h m3 e1
      refine aj_iinc (lv' := [some (vO 12 q0), none, none, none, some (vI (v4 + 1))]) C dX12_goesSearch_51 rfl (by decide) rfl ?_
      refine aj_goto (tgt := 28) C dX12_goesSearch_54 (by decide) ?_
      exact ih q0 (v4 + 1) _ hq0 h
def wX12_goesSearch (f : Nat) (Φ : Int → aj_M → Prop) (q0 : List Nat) (v1 : Int) (v2 : Int) (v3 : Int) (m : aj_M) : Prop := ∀ m1, m1 = aj_u m q0 36 v1 → ∀ m2, m2 = aj_u m1 q0 37 v2 → ∀ m3, m3 = aj_u m2 q0 38 v3 → ∀ m4, m4 = aj_u m3 q0 39 0 → ∀ m5, m5 = aj_u m4 q0 40 0 → hX12_goesSearch_28 f Φ f q0 0 m5
set_option maxHeartbeats 4000000 in
set_option maxRecDepth 100000 in
theorem sX12_goesSearch {n f : Nat} {Φ : Int → aj_M → Prop} {q0 : List Nat} {v1 : Int} {v2 : Int} {v3 : Int} {m : aj_M} (hq0 : (.inl (12, q0) : aj_R) ∈ aj_pls) (h : wX12_goesSearch f Φ q0 v1 v2 v3 m) : aj_Ct (n + 35) yX12_goesSearch cX12_goesSearch 5 (some .int) [vO 12 q0, vI v1, vI v2, vI v3] m (fun r m => ∃ z, r = some (vI z) ∧ Φ z m) := by
  refine aj_met (lv := [some (vO 12 q0), some (vI v1), some (vI v2), some (vI v3), none]) (by decide +kernel) rfl (Nat.le_of_ble_eq_true rfl) (fun X C K => ?_)
  unfold wX12_goesSearch at h
  refine aj_aload_n C dX12_goesSearch_0 rfl ?_
  refine aj_iload_n C dX12_goesSearch_1 rfl ?_
  refine aj_putI C fpX12_437 hq0 rfl dX12_goesSearch_2 ?_
  refine aj_nm (fun m1 e1 => ?_)
  have h := h m1 e1
  refine aj_aload_n C dX12_goesSearch_5 rfl ?_
  refine aj_iload_n C dX12_goesSearch_6 rfl ?_
  refine aj_putI C fpX12_428 hq0 rfl dX12_goesSearch_7 ?_
  refine aj_nm (fun m2 e1 => ?_)
  have h := h m2 e1
  refine aj_aload_n C dX12_goesSearch_10 rfl ?_
  refine aj_iload_n C dX12_goesSearch_11 rfl ?_
  refine aj_putI C fpX12_425 hq0 rfl dX12_goesSearch_12 ?_
  refine aj_nm (fun m3 e1 => ?_)
  have h := h m3 e1
  refine aj_aload_n C dX12_goesSearch_15 rfl ?_
  refine aj_iconst C dX12_goesSearch_16 ?_
  refine aj_putI C fpX12_440 hq0 rfl dX12_goesSearch_17 ?_
  refine aj_nm (fun m4 e1 => ?_)
  have h := h m4 e1
  refine aj_aload_n C dX12_goesSearch_20 rfl ?_
  refine aj_iconst C dX12_goesSearch_21 ?_
  refine aj_putI C fpX12_452 hq0 rfl dX12_goesSearch_22 ?_
  refine aj_nm (fun m5 e1 => ?_)
  have h := h m5 e1
  refine aj_iconst C dX12_goesSearch_25 ?_
  refine aj_istore (lv' := [some (vO 12 q0), some (vI v1), some (vI v2), some (vI v3), some (vI 0)]) C dX12_goesSearch_26 (by decide) rfl ?_
  refine aj_wk (lv' := [some (vO 12 q0), none, none, none, some (vI 0)]) (⟨rfl, ⟨rfl, trivial⟩⟩) ?_
  exact tX12_goesSearch_28 C K f q0 0 _ hq0 h
theorem dX12_search_0 : decode cX12_search 0 = .ok (.aload_n 0, 1) := by decide +kernel
theorem dX12_search_1 : decode cX12_search 1 = .ok (.iconst 0, 1) := by decide +kernel
theorem dX12_search_2 : decode cX12_search 2 = .ok (.putfield 1, 3) := by decide +kernel
theorem dX12_search_5 : decode cX12_search 5 = .ok (.iload 4, 2) := by decide +kernel
theorem dX12_search_7 : decode cX12_search 7 = .ok (.i2l, 1) := by decide +kernel
theorem dX12_search_8 : decode cX12_search 8 = .ok (.lconst 0, 1) := by decide +kernel
theorem dX12_search_9 : decode cX12_search 9 = .ok (.ldc2_w 385, 3) := by decide +kernel
theorem dX12_search_12 : decode cX12_search 12 = .ok (.invokestatic 154, 3) := by decide +kernel
theorem dX12_search_15 : decode cX12_search 15 = .ok (.ifCond .ne 6, 3) := by decide +kernel
theorem dX12_search_18 : decode cX12_search 18 = .ok (.bipush (-2), 2) := by decide +kernel
theorem dX12_search_20 : decode cX12_search 20 = .ok (.ireturn, 1) := by decide +kernel
theorem dX12_search_21 : decode cX12_search 21 = .ok (.iload_n 1, 1) := by decide +kernel
theorem dX12_search_22 : decode cX12_search 22 = .ok (.iload_n 2, 1) := by decide +kernel
theorem dX12_search_23 : decode cX12_search 23 = .ok (.iload_n 3, 1) := by decide +kernel
theorem dX12_search_24 : decode cX12_search 24 = .ok (.invokestatic 459, 3) := by decide +kernel
theorem dX12_search_27 : decode cX12_search 27 = .ok (.ifCond .ne 6, 3) := by decide +kernel
theorem dX12_search_30 : decode cX12_search 30 = .ok (.bipush (-3), 2) := by decide +kernel
theorem dX12_search_32 : decode cX12_search 32 = .ok (.ireturn, 1) := by decide +kernel
theorem dX12_search_33 : decode cX12_search 33 = .ok (.aload_n 0, 1) := by decide +kernel
theorem dX12_search_34 : decode cX12_search 34 = .ok (.iload_n 1, 1) := by decide +kernel
theorem dX12_search_35 : decode cX12_search 35 = .ok (.iload_n 2, 1) := by decide +kernel
theorem dX12_search_36 : decode cX12_search 36 = .ok (.iload_n 3, 1) := by decide +kernel
theorem dX12_search_37 : decode cX12_search 37 = .ok (.invokevirtual 463, 3) := by decide +kernel
theorem dX12_search_40 : decode cX12_search 40 = .ok (.istore 5, 2) := by decide +kernel
theorem dX12_search_42 : decode cX12_search 42 = .ok (.iload 4, 2) := by decide +kernel
theorem dX12_search_44 : decode cX12_search 44 = .ok (.ifCond .ne 8, 3) := by decide +kernel
theorem dX12_search_47 : decode cX12_search 47 = .ok (.iload 5, 2) := by decide +kernel
theorem dX12_search_49 : decode cX12_search 49 = .ok (.goto 20, 3) := by decide +kernel
theorem dX12_search_52 : decode cX12_search 52 = .ok (.iload 4, 2) := by decide +kernel
theorem dX12_search_54 : decode cX12_search 54 = .ok (.iconst 1, 1) := by decide +kernel
theorem dX12_search_55 : decode cX12_search 55 = .ok (.if_icmp .ne 10, 3) := by decide +kernel
theorem dX12_search_58 : decode cX12_search 58 = .ok (.aload_n 0, 1) := by decide +kernel
theorem dX12_search_59 : decode cX12_search 59 = .ok (.getfield 440, 3) := by decide +kernel
theorem dX12_search_62 : decode cX12_search 62 = .ok (.goto 7, 3) := by decide +kernel
theorem dX12_search_65 : decode cX12_search 65 = .ok (.aload_n 0, 1) := by decide +kernel
theorem dX12_search_66 : decode cX12_search 66 = .ok (.getfield 452, 3) := by decide +kernel
theorem dX12_search_69 : decode cX12_search 69 = .ok (.ireturn, 1) := by decide +kernel
def wX12_search (f : Nat) (Φ : Int → aj_M → Prop) (q0 : List Nat) (v1 : Int) (v2 : Int) (v3 : Int) (v4 : Int) (m : aj_M) : Prop := ∀ m1, m1 = aj_u m q0 0 0 → rI v4 ∧ wX12_within f (fun z1 m2 => rI z1 ∧ (¬ z1 = 0 → wX12_isSearch f (fun z2 m3 => rI z2 ∧ (¬ z2 = 0 → wX12_goesSearch f (fun z3 m4 => rI v4 ∧ (¬ v4 = 0 → rI v4 ∧ (¬ v4 = 1 → Φ (m4 q0 40) m4) ∧ (v4 = 1 → Φ (m4 q0 39) m4)) ∧ (v4 = 0 → Φ z3 m4)) q0 v1 v2 v3 m3) ∧ (z2 = 0 → Φ (-3) m3)) v1 v2 v3 m2) ∧ (z1 = 0 → Φ (-2) m2)) v4 0 2 m1
set_option maxHeartbeats 4000000 in
set_option maxRecDepth 100000 in
theorem sX12_search {n f : Nat} {Φ : Int → aj_M → Prop} {q0 : List Nat} {v1 : Int} {v2 : Int} {v3 : Int} {v4 : Int} {m : aj_M} (hq0 : (.inl (12, q0) : aj_R) ∈ aj_pls) (h : wX12_search f Φ q0 v1 v2 v3 v4 m) : aj_Ct (n + 36) yX12_search cX12_search 6 (some .int) [vO 12 q0, vI v1, vI v2, vI v3, vI v4] m (fun r m => ∃ z, r = some (vI z) ∧ Φ z m) := by
  refine aj_met (lv := [some (vO 12 q0), some (vI v1), some (vI v2), some (vI v3), some (vI v4), none]) (by decide +kernel) rfl (Nat.le_of_ble_eq_true rfl) (fun X C K => ?_)
  unfold wX12_search at h
  refine aj_aload_n C dX12_search_0 rfl ?_
  refine aj_iconst C dX12_search_1 ?_
  refine aj_putI C fpX12_1 hq0 rfl dX12_search_2 ?_
  refine aj_nm (fun m1 e1 => ?_)
  have h := h m1 e1
  refine aj_iload C dX12_search_5 rfl ?_
  obtain ⟨r0, h⟩ := h
  refine aj_i2l C dX12_search_7 r0 ?_
  refine aj_lconst (z := 0) C dX12_search_8 rfl ?_
  refine aj_ldc2 (z := 2) C (wd2023) rfl dX12_search_9 ?_
  refine aj_callS (rest := []) C msX12_154 (sX12_within  h) (aj_np 3 (by decide +kernel) rfl) (Nat.le_of_ble_eq_true rfl) rfl dX12_search_12 (fun r m2 h => ?_)
  obtain ⟨z1, rfl, h⟩ := h
  obtain ⟨r0, h1, h2⟩ := h
  refine aj_if_ne (tgt := 21) C dX12_search_15 (by decide) r0 (fun e => ?_) (fun e => ?_)
  · have h := h1 e
    refine aj_iload_n C dX12_search_21 rfl ?_
    refine aj_iload_n C dX12_search_22 rfl ?_
    refine aj_iload_n C dX12_search_23 rfl ?_
    refine aj_callS (rest := []) C msX12_459 (sX12_isSearch  h) (aj_np 3 (by decide +kernel) rfl) (Nat.le_of_ble_eq_true rfl) rfl dX12_search_24 (fun r m3 h => ?_)
    obtain ⟨z2, rfl, h⟩ := h
    obtain ⟨r0, h1, h2⟩ := h
    refine aj_if_ne (tgt := 33) C dX12_search_27 (by decide) r0 (fun e => ?_) (fun e => ?_)
    · have h := h1 e
      refine aj_aload_n C dX12_search_33 rfl ?_
      refine aj_iload_n C dX12_search_34 rfl ?_
      refine aj_iload_n C dX12_search_35 rfl ?_
      refine aj_iload_n C dX12_search_36 rfl ?_
      refine aj_callV (rest := []) C mvX12_463 (sX12_goesSearch hq0 h) hq0 (aj_np 3 (by decide +kernel) rfl) (Nat.le_of_ble_eq_true rfl) rfl dX12_search_37 (fun r m4 h => ?_)
      obtain ⟨z3, rfl, h⟩ := h
      refine aj_istore (lv' := [some (vO 12 q0), some (vI v1), some (vI v2), some (vI v3), some (vI v4), some (vI z3)]) C dX12_search_40 (by decide) rfl ?_
      refine aj_iload C dX12_search_42 rfl ?_
      obtain ⟨r0, h1, h2⟩ := h
      refine aj_if_ne (tgt := 52) C dX12_search_44 (by decide) r0 (fun e => ?_) (fun e => ?_)
      · have h := h1 e
        refine aj_iload C dX12_search_52 rfl ?_
        refine aj_iconst C dX12_search_54 ?_
        obtain ⟨r0, h1, h2⟩ := h
        refine aj_icmp_ne (tgt := 65) C dX12_search_55 (by decide) r0 (by decide) (fun e => ?_) (fun e => ?_)
        · have h := h1 e
          refine aj_aload_n C dX12_search_65 rfl ?_
          refine aj_getI C flX12_452 hq0 (by decide) dX12_search_66 rfl ?_
          exact aj_iret C K dX12_search_69 ⟨_, rfl, h⟩
        · have h := h2 e
          refine aj_aload_n C dX12_search_58 rfl ?_
          refine aj_getI C flX12_440 hq0 (by decide) dX12_search_59 rfl ?_
          refine aj_goto (tgt := 69) C dX12_search_62 (by decide) ?_
          exact aj_iret C K dX12_search_69 ⟨_, rfl, h⟩
      · have h := h2 e
        refine aj_iload C dX12_search_47 rfl ?_
        refine aj_goto (tgt := 69) C dX12_search_49 (by decide) ?_
        exact aj_iret C K dX12_search_69 ⟨_, rfl, h⟩
    · have h := h2 e
      refine aj_bipush C dX12_search_30 (by decide) ?_
      exact aj_iret C K dX12_search_32 ⟨_, rfl, h⟩
  · have h := h2 e
    refine aj_bipush C dX12_search_18 (by decide) ?_
    exact aj_iret C K dX12_search_20 ⟨_, rfl, h⟩
