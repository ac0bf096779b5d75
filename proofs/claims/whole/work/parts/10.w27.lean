theorem dX12_found_0 : decode cX12_found 0 = .ok (.aload_n 0, 1) := by decide +kernel
theorem dX12_found_1 : decode cX12_found 1 = .ok (.iconst 0, 1) := by decide +kernel
theorem dX12_found_2 : decode cX12_found 2 = .ok (.putfield 1, 3) := by decide +kernel
theorem dX12_found_5 : decode cX12_found 5 = .ok (.iload_n 1, 1) := by decide +kernel
theorem dX12_found_6 : decode cX12_found 6 = .ok (.iload_n 2, 1) := by decide +kernel
theorem dX12_found_7 : decode cX12_found 7 = .ok (.iload_n 3, 1) := by decide +kernel
theorem dX12_found_8 : decode cX12_found 8 = .ok (.invokestatic 459, 3) := by decide +kernel
theorem dX12_found_11 : decode cX12_found 11 = .ok (.ifCond .eq 31, 3) := by decide +kernel
theorem dX12_found_14 : decode cX12_found 14 = .ok (.iload 4, 2) := by decide +kernel
theorem dX12_found_16 : decode cX12_found 16 = .ok (.i2l, 1) := by decide +kernel
theorem dX12_found_17 : decode cX12_found 17 = .ok (.lconst 0, 1) := by decide +kernel
theorem dX12_found_18 : decode cX12_found 18 = .ok (.iload_n 3, 1) := by decide +kernel
theorem dX12_found_19 : decode cX12_found 19 = .ok (.iconst 1, 1) := by decide +kernel
theorem dX12_found_20 : decode cX12_found 20 = .ok (.isub, 1) := by decide +kernel
theorem dX12_found_21 : decode cX12_found 21 = .ok (.i2l, 1) := by decide +kernel
theorem dX12_found_22 : decode cX12_found 22 = .ok (.invokestatic 154, 3) := by decide +kernel
theorem dX12_found_25 : decode cX12_found 25 = .ok (.ifCond .eq 17, 3) := by decide +kernel
theorem dX12_found_28 : decode cX12_found 28 = .ok (.iload 5, 2) := by decide +kernel
theorem dX12_found_30 : decode cX12_found 30 = .ok (.i2l, 1) := by decide +kernel
theorem dX12_found_31 : decode cX12_found 31 = .ok (.lconst 0, 1) := by decide +kernel
theorem dX12_found_32 : decode cX12_found 32 = .ok (.iload_n 3, 1) := by decide +kernel
theorem dX12_found_33 : decode cX12_found 33 = .ok (.iconst 1, 1) := by decide +kernel
theorem dX12_found_34 : decode cX12_found 34 = .ok (.isub, 1) := by decide +kernel
theorem dX12_found_35 : decode cX12_found 35 = .ok (.i2l, 1) := by decide +kernel
theorem dX12_found_36 : decode cX12_found 36 = .ok (.invokestatic 154, 3) := by decide +kernel
theorem dX12_found_39 : decode cX12_found 39 = .ok (.ifCond .ne 6, 3) := by decide +kernel
theorem dX12_found_42 : decode cX12_found 42 = .ok (.bipush (-3), 2) := by decide +kernel
theorem dX12_found_44 : decode cX12_found 44 = .ok (.ireturn, 1) := by decide +kernel
theorem dX12_found_45 : decode cX12_found 45 = .ok (.aload_n 0, 1) := by decide +kernel
theorem dX12_found_46 : decode cX12_found 46 = .ok (.iload_n 1, 1) := by decide +kernel
theorem dX12_found_47 : decode cX12_found 47 = .ok (.iload_n 2, 1) := by decide +kernel
theorem dX12_found_48 : decode cX12_found 48 = .ok (.iload_n 3, 1) := by decide +kernel
theorem dX12_found_49 : decode cX12_found 49 = .ok (.invokevirtual 463, 3) := by decide +kernel
theorem dX12_found_52 : decode cX12_found 52 = .ok (.iconst 1, 1) := by decide +kernel
theorem dX12_found_53 : decode cX12_found 53 = .ok (.if_icmp .eq 5, 3) := by decide +kernel
theorem dX12_found_56 : decode cX12_found 56 = .ok (.iconst (-1), 1) := by decide +kernel
theorem dX12_found_57 : decode cX12_found 57 = .ok (.ireturn, 1) := by decide +kernel
theorem dX12_found_58 : decode cX12_found 58 = .ok (.aload_n 0, 1) := by decide +kernel
theorem dX12_found_59 : decode cX12_found 59 = .ok (.getfield 69, 3) := by decide +kernel
theorem dX12_found_62 : decode cX12_found 62 = .ok (.iload 4, 2) := by decide +kernel
theorem dX12_found_64 : decode cX12_found 64 = .ok (.iaload, 1) := by decide +kernel
theorem dX12_found_65 : decode cX12_found 65 = .ok (.i2l, 1) := by decide +kernel
theorem dX12_found_66 : decode cX12_found 66 = .ok (.iload 5, 2) := by decide +kernel
theorem dX12_found_68 : decode cX12_found 68 = .ok (.invokestatic 274, 3) := by decide +kernel
theorem dX12_found_71 : decode cX12_found 71 = .ok (.ifCond .eq 7, 3) := by decide +kernel
theorem dX12_found_74 : decode cX12_found 74 = .ok (.iconst 1, 1) := by decide +kernel
theorem dX12_found_75 : decode cX12_found 75 = .ok (.goto 4, 3) := by decide +kernel
theorem dX12_found_78 : decode cX12_found 78 = .ok (.iconst 0, 1) := by decide +kernel
theorem dX12_found_79 : decode cX12_found 79 = .ok (.ireturn, 1) := by decide +kernel
def wX12_found (f : Nat) (Φ : Int → aj_M → Prop) (q0 : List Nat) (v1 : Int) (v2 : Int) (v3 : Int) (v4 : Int) (v5 : Int) (m : aj_M) : Prop := ∀ m1, m1 = aj_u m q0 0 0 → wX12_isSearch f (fun z1 m2 => rI z1 ∧ (z1 = 0 → Φ (-3) m2) ∧ (¬ (z1 = 0) → rI v4 ∧ rI (v3 - 1) ∧ wX12_within f (fun z2 m3 => rI z2 ∧ (z2 = 0 → Φ (-3) m3) ∧ (¬ (z2 = 0) → rI v5 ∧ rI (v3 - 1) ∧ wX12_within f (fun z3 m4 => rI z3 ∧ (¬ z3 = 0 → wX12_goesSearch f (fun z4 m5 => rI z4 ∧ (z4 = 1 → (0 ≤ v4 ∧ v4 < 14) ∧ rI (m5 (34 :: q0) v4.toNat) ∧ wX12_isIn f (fun z5 m6 => rI z5 ∧ (z5 = 0 → Φ 0 m6) ∧ (¬ (z5 = 0) → Φ 1 m6)) (m5 (34 :: q0) v4.toNat) v5 m5) ∧ (¬ (z4 = 1) → Φ (-1) m5)) q0 v1 v2 v3 m4) ∧ (z3 = 0 → Φ (-3) m4)) v5 0 (v3 - 1) m3)) v4 0 (v3 - 1) m2)) v1 v2 v3 m1
set_option maxHeartbeats 4000000 in
set_option maxRecDepth 100000 in
theorem sX12_found {n f : Nat} {Φ : Int → aj_M → Prop} {q0 : List Nat} {v1 : Int} {v2 : Int} {v3 : Int} {v4 : Int} {v5 : Int} {m : aj_M} (hq0 : (.inl (12, q0) : aj_R) ∈ aj_pls) (h : wX12_found f Φ q0 v1 v2 v3 v4 v5 m) : aj_Ct (n + 36) yX12_found cX12_found 6 (some .int) [vO 12 q0, vI v1, vI v2, vI v3, vI v4, vI v5] m (fun r m => ∃ z, r = some (vI z) ∧ Φ z m) := by
  refine aj_met (lv := [some (vO 12 q0), some (vI v1), some (vI v2), some (vI v3), some (vI v4), some (vI v5)]) (by decide +kernel) rfl (Nat.le_of_ble_eq_true rfl) (fun X C K => ?_)
  unfold wX12_found at h
  refine aj_aload_n C dX12_found_0 rfl ?_
  refine aj_iconst C dX12_found_1 ?_
  refine aj_putI C fpX12_1 hq0 rfl dX12_found_2 ?_
  refine aj_nm (fun m1 e1 => ?_)
  have h := h m1 e1
  refine aj_iload_n C dX12_found_5 rfl ?_
  refine aj_iload_n C dX12_found_6 rfl ?_
  refine aj_iload_n C dX12_found_7 rfl ?_
  refine aj_callS (rest := []) C msX12_459 (sX12_isSearch  h) (aj_np 3 (by decide +kernel) rfl) (Nat.le_of_ble_eq_true rfl) rfl dX12_found_8 (fun r m2 h => ?_)
  obtain ⟨z1, rfl, h⟩ := h
  obtain ⟨r0, h1, h2⟩ := h
  refine aj_if_eq (tgt := 42) C dX12_found_11 (by decide) r0 (fun e => ?_) (fun e => ?_)
  · have h := h1 e
    refine aj_bipush C dX12_found_42 (by decide) ?_
    exact aj_iret C K dX12_found_44 ⟨_, rfl, h⟩
  · have h := h2 e
    refine aj_iload C dX12_found_14 rfl ?_
    obtain ⟨r0, h⟩ := h
    refine aj_i2l C dX12_found_16 r0 ?_
    refine aj_lconst (z := 0) C dX12_found_17 rfl ?_
    refine aj_iload_n C dX12_found_18 rfl ?_
    refine aj_iconst C dX12_found_19 ?_
    refine aj_isub C dX12_found_20 ?_
    obtain ⟨r0, h⟩ := h
    refine aj_i2l C dX12_found_21 r0 ?_
    refine aj_callS (rest := []) C msX12_154 (sX12_within  h) (aj_np 3 (by decide +kernel) rfl) (Nat.le_of_ble_eq_true rfl) rfl dX12_found_22 (fun r m3 h => ?_)
    obtain ⟨z2, rfl, h⟩ := h
    obtain ⟨r0, h1, h2⟩ := h
    refine aj_if_eq (tgt := 42) C dX12_found_25 (by decide) r0 (fun e => ?_) (fun e => ?_)
    · have h := h1 e
      refine aj_bipush C dX12_found_42 (by decide) ?_
      exact aj_iret C K dX12_found_44 ⟨_, rfl, h⟩
    · have h := h2 e
      refine aj_iload C dX12_found_28 rfl ?_
      obtain ⟨r0, h⟩ := h
      refine aj_i2l C dX12_found_30 r0 ?_
      refine aj_lconst (z := 0) C dX12_found_31 rfl ?_
      refine aj_iload_n C dX12_found_32 rfl ?_
      refine aj_iconst C dX12_found_33 ?_
      refine aj_isub C dX12_found_34 ?_
      obtain ⟨r0, h⟩ := h
      refine aj_i2l C dX12_found_35 r0 ?_
      refine aj_callS (rest := []) C msX12_154 (sX12_within  h) (aj_np 3 (by decide +kernel) rfl) (Nat.le_of_ble_eq_true rfl) rfl dX12_found_36 (fun r m4 h => ?_)
      obtain ⟨z3, rfl, h⟩ := h
      obtain ⟨r0, h1, h2⟩ := h
      refine aj_if_ne (tgt := 45) C dX12_found_39 (by decide) r0 (fun e => ?_) (fun e => ?_)
      · have h := h1 e
        refine aj_aload_n C dX12_found_45 rfl ?_
        refine aj_iload_n C dX12_found_46 rfl ?_
        refine aj_iload_n C dX12_found_47 rfl ?_
        refine aj_iload_n C dX12_found_48 rfl ?_
        refine aj_callV (rest := []) C mvX12_463 (sX12_goesSearch hq0 h) hq0 (aj_np 3 (by decide +kernel) rfl) (Nat.le_of_ble_eq_true rfl) rfl dX12_found_49 (fun r m5 h => ?_)
        obtain ⟨z4, rfl, h⟩ := h
        refine aj_iconst C dX12_found_52 ?_
        obtain ⟨r0, h1, h2⟩ := h
        refine aj_icmp_eq (tgt := 58) C dX12_found_53 (by decide) r0 (by decide) (fun e => ?_) (fun e => ?_)
        · have h := h1 e
          refine aj_aload_n C dX12_found_58 rfl ?_
          refine aj_getA (x := 0) (y := 14) C flX12_69 hq0 rfl dX12_found_59 ?_
          refine aj_iload C dX12_found_62 rfl ?_
          obtain ⟨r0, h⟩ := h
          refine aj_iald C (aj_ca (e := 0) (n := 14) (j := 34) hq0 (by decide) rfl) (by decide) r0 dX12_found_64 rfl ?_
          obtain ⟨r0, h⟩ := h
          refine aj_i2l C dX12_found_65 r0 ?_
          refine aj_iload C dX12_found_66 rfl ?_
          refine aj_callS (rest := []) C msX12_274 (sX12_isIn  h) (aj_np 2 (by decide +kernel) rfl) (Nat.le_of_ble_eq_true rfl) rfl dX12_found_68 (fun r m6 h => ?_)
          obtain ⟨z5, rfl, h⟩ := h
          obtain ⟨r0, h1, h2⟩ := h
          refine aj_if_eq (tgt := 78) C dX12_found_71 (by decide) r0 (fun e => ?_) (fun e => ?_)
          · have h := h1 e
            refine aj_iconst C dX12_found_78 ?_
            exact aj_iret C K dX12_found_79 ⟨_, rfl, h⟩
          · have h := h2 e
            refine aj_iconst C dX12_found_74 ?_
            refine aj_goto (tgt := 79) C dX12_found_75 (by decide) ?_
            exact aj_iret C K dX12_found_79 ⟨_, rfl, h⟩
        · have h := h2 e
          refine aj_iconst C dX12_found_56 ?_
          exact aj_iret C K dX12_found_57 ⟨_, rfl, h⟩
      · have h := h2 e
        refine aj_bipush C dX12_found_42 (by decide) ?_
        exact aj_iret C K dX12_found_44 ⟨_, rfl, h⟩
theorem dX12_noWeighed_0 : decode cX12_noWeighed 0 = .ok (.aload_n 0, 1) := by decide +kernel
theorem dX12_noWeighed_1 : decode cX12_noWeighed 1 = .ok (.iload_n 1, 1) := by decide +kernel
theorem dX12_noWeighed_2 : decode cX12_noWeighed 2 = .ok (.invokevirtual 330, 3) := by decide +kernel
theorem dX12_noWeighed_5 : decode cX12_noWeighed 5 = .ok (.istore_n 2, 1) := by decide +kernel
theorem dX12_noWeighed_6 : decode cX12_noWeighed 6 = .ok (.iload_n 2, 1) := by decide +kernel
theorem dX12_noWeighed_7 : decode cX12_noWeighed 7 = .ok (.ifCond .eq 5, 3) := by decide +kernel
theorem dX12_noWeighed_10 : decode cX12_noWeighed 10 = .ok (.iload_n 2, 1) := by decide +kernel
theorem dX12_noWeighed_11 : decode cX12_noWeighed 11 = .ok (.ireturn, 1) := by decide +kernel
theorem dX12_noWeighed_12 : decode cX12_noWeighed 12 = .ok (.aload_n 0, 1) := by decide +kernel
theorem dX12_noWeighed_13 : decode cX12_noWeighed 13 = .ok (.getfield 81, 3) := by decide +kernel
theorem dX12_noWeighed_16 : decode cX12_noWeighed 16 = .ok (.iload_n 1, 1) := by decide +kernel
theorem dX12_noWeighed_17 : decode cX12_noWeighed 17 = .ok (.iaload, 1) := by decide +kernel
theorem dX12_noWeighed_18 : decode cX12_noWeighed 18 = .ok (.i2l, 1) := by decide +kernel
theorem dX12_noWeighed_19 : decode cX12_noWeighed 19 = .ok (.lconst 1, 1) := by decide +kernel
theorem dX12_noWeighed_20 : decode cX12_noWeighed 20 = .ok (.ldc2_w 455, 3) := by decide +kernel
theorem dX12_noWeighed_23 : decode cX12_noWeighed 23 = .ok (.invokestatic 154, 3) := by decide +kernel
theorem dX12_noWeighed_26 : decode cX12_noWeighed 26 = .ok (.ifCond .ne 6, 3) := by decide +kernel
theorem dX12_noWeighed_29 : decode cX12_noWeighed 29 = .ok (.bipush (-4), 2) := by decide +kernel
theorem dX12_noWeighed_31 : decode cX12_noWeighed 31 = .ok (.ireturn, 1) := by decide +kernel
theorem dX12_noWeighed_32 : decode cX12_noWeighed 32 = .ok (.iconst 0, 1) := by decide +kernel
theorem dX12_noWeighed_33 : decode cX12_noWeighed 33 = .ok (.istore_n 3, 1) := by decide +kernel
theorem dX12_noWeighed_34 : decode cX12_noWeighed 34 = .ok (.iload_n 3, 1) := by decide +kernel
theorem dX12_noWeighed_35 : decode cX12_noWeighed 35 = .ok (.aload_n 0, 1) := by decide +kernel
theorem dX12_noWeighed_36 : decode cX12_noWeighed 36 = .ok (.getfield 81, 3) := by decide +kernel
theorem dX12_noWeighed_39 : decode cX12_noWeighed 39 = .ok (.iload_n 1, 1) := by decide +kernel
theorem dX12_noWeighed_40 : decode cX12_noWeighed 40 = .ok (.iaload, 1) := by decide +kernel
theorem dX12_noWeighed_41 : decode cX12_noWeighed 41 = .ok (.if_icmp .ge 73, 3) := by decide +kernel
theorem dX12_noWeighed_44 : decode cX12_noWeighed 44 = .ok (.aload_n 0, 1) := by decide +kernel
theorem dX12_noWeighed_45 : decode cX12_noWeighed 45 = .ok (.getfield 84, 3) := by decide +kernel
theorem dX12_noWeighed_48 : decode cX12_noWeighed 48 = .ok (.bipush 40, 2) := by decide +kernel
theorem dX12_noWeighed_50 : decode cX12_noWeighed 50 = .ok (.iload_n 1, 1) := by decide +kernel
theorem dX12_noWeighed_51 : decode cX12_noWeighed 51 = .ok (.imul, 1) := by decide +kernel
theorem dX12_noWeighed_52 : decode cX12_noWeighed 52 = .ok (.iload_n 3, 1) := by decide +kernel
theorem dX12_noWeighed_53 : decode cX12_noWeighed 53 = .ok (.iadd, 1) := by decide +kernel
theorem dX12_noWeighed_54 : decode cX12_noWeighed 54 = .ok (.laload, 1) := by decide +kernel
theorem dX12_noWeighed_55 : decode cX12_noWeighed 55 = .ok (.lstore 4, 2) := by decide +kernel
theorem dX12_noWeighed_57 : decode cX12_noWeighed 57 = .ok (.lload 4, 2) := by decide +kernel
theorem dX12_noWeighed_59 : decode cX12_noWeighed 59 = .ok (.lconst 0, 1) := by decide +kernel
theorem dX12_noWeighed_60 : decode cX12_noWeighed 60 = .ok (.lcmp, 1) := by decide +kernel
theorem dX12_noWeighed_61 : decode cX12_noWeighed 61 = .ok (.ifCond .lt 44, 3) := by decide +kernel
theorem dX12_noWeighed_64 : decode cX12_noWeighed 64 = .ok (.aload_n 0, 1) := by decide +kernel
theorem dX12_noWeighed_65 : decode cX12_noWeighed 65 = .ok (.lload 4, 2) := by decide +kernel
theorem dX12_noWeighed_67 : decode cX12_noWeighed 67 = .ok (.ldc2_w 466, 3) := by decide +kernel
theorem dX12_noWeighed_70 : decode cX12_noWeighed 70 = .ok (.ldiv, 1) := by decide +kernel
theorem dX12_noWeighed_71 : decode cX12_noWeighed 71 = .ok (.invokevirtual 291, 3) := by decide +kernel
theorem dX12_noWeighed_74 : decode cX12_noWeighed 74 = .ok (.ifCond .eq 31, 3) := by decide +kernel
theorem dX12_noWeighed_77 : decode cX12_noWeighed 77 = .ok (.aload_n 0, 1) := by decide +kernel
theorem dX12_noWeighed_78 : decode cX12_noWeighed 78 = .ok (.lload 4, 2) := by decide +kernel
theorem dX12_noWeighed_80 : decode cX12_noWeighed 80 = .ok (.ldc2_w 466, 3) := by decide +kernel
theorem dX12_noWeighed_83 : decode cX12_noWeighed 83 = .ok (.lrem, 1) := by decide +kernel
theorem dX12_noWeighed_84 : decode cX12_noWeighed 84 = .ok (.ldc2_w 310, 3) := by decide +kernel
theorem dX12_noWeighed_87 : decode cX12_noWeighed 87 = .ok (.ldiv, 1) := by decide +kernel
theorem dX12_noWeighed_88 : decode cX12_noWeighed 88 = .ok (.invokevirtual 205, 3) := by decide +kernel
theorem dX12_noWeighed_91 : decode cX12_noWeighed 91 = .ok (.ifCond .eq 14, 3) := by decide +kernel
theorem dX12_noWeighed_94 : decode cX12_noWeighed 94 = .ok (.lload 4, 2) := by decide +kernel
theorem dX12_noWeighed_96 : decode cX12_noWeighed 96 = .ok (.ldc2_w 310, 3) := by decide +kernel
theorem dX12_noWeighed_99 : decode cX12_noWeighed 99 = .ok (.lrem, 1) := by decide +kernel
theorem dX12_noWeighed_100 : decode cX12_noWeighed 100 = .ok (.lconst 0, 1) := by decide +kernel
theorem dX12_noWeighed_101 : decode cX12_noWeighed 101 = .ok (.lcmp, 1) := by decide +kernel
theorem dX12_noWeighed_102 : decode cX12_noWeighed 102 = .ok (.ifCond .ne 6, 3) := by decide +kernel
theorem dX12_noWeighed_105 : decode cX12_noWeighed 105 = .ok (.bipush (-3), 2) := by decide +kernel
theorem dX12_noWeighed_107 : decode cX12_noWeighed 107 = .ok (.ireturn, 1) := by decide +kernel
theorem dX12_noWeighed_108 : decode cX12_noWeighed 108 = .ok (.iinc 3 1, 3) := by decide +kernel
theorem dX12_noWeighed_111 : decode cX12_noWeighed 111 = .ok (.goto (-77), 3) := by decide +kernel
theorem dX12_noWeighed_114 : decode cX12_noWeighed 114 = .ok (.iconst 0, 1) := by decide +kernel
theorem dX12_noWeighed_115 : decode cX12_noWeighed 115 = .ok (.ireturn, 1) := by decide +kernel
def hX12_noWeighed_34 (f : Nat) (Φ : Int → aj_M → Prop) : Nat → List Nat → Int → Int → aj_M → Prop
  | 0, _, _, _, _ => False
  | k + 1, q0, v1, v3, m => (0 ≤ v1 ∧ v1 < 4) ∧ rI v3 ∧ rI (m (45 :: q0) v1.toNat) ∧ ((m (45 :: q0) v1.toNat) ≤ v3 → Φ 0 m) ∧ (¬ ((m (45 :: q0) v1.toNat) ≤ v3) → (0 ≤ ((40 * v1) + v3) ∧ ((40 * v1) + v3) < 160) ∧ rL (m (46 :: q0) ((40 * v1) + v3).toNat) ∧ ((m (46 :: q0) ((40 * v1) + v3).toNat) < 0 → Φ (-3) m) ∧ (¬ ((m (46 :: q0) ((40 * v1) + v3).toNat) < 0) → (0 ≤ (m (46 :: q0) ((40 * v1) + v3).toNat) ∧ (m (46 :: q0) ((40 * v1) + v3).toNat) < 9223372036854775808) ∧ wX12_isArc f (fun z1 m1 => rI z1 ∧ (z1 = 0 → Φ (-3) m1) ∧ (¬ (z1 = 0) → (0 ≤ (m (46 :: q0) ((40 * v1) + v3).toNat) ∧ (m (46 :: q0) ((40 * v1) + v3).toNat) < 9223372036854775808) ∧ (0 ≤ ((m (46 :: q0) ((40 * v1) + v3).toNat) % 10000) ∧ ((m (46 :: q0) ((40 * v1) + v3).toNat) % 10000) < 9223372036854775808) ∧ wX12_isMember f (fun z2 m2 => rI z2 ∧ (z2 = 0 → Φ (-3) m2) ∧ (¬ (z2 = 0) → (0 ≤ (m (46 :: q0) ((40 * v1) + v3).toNat) ∧ (m (46 :: q0) ((40 * v1) + v3).toNat) < 9223372036854775808) ∧ rL ((m (46 :: q0) ((40 * v1) + v3).toNat) % 100) ∧ (¬ ((m (46 :: q0) ((40 * v1) + v3).toNat) % 100) = 0 → hX12_noWeighed_34 f Φ k q0 v1 (v3 + 1) m2) ∧ (((m (46 :: q0) ((40 * v1) + v3).toNat) % 100) = 0 → Φ (-3) m2))) q0 (((m (46 :: q0) ((40 * v1) + v3).toNat) % 10000) / 100) m1)) q0 ((m (46 :: q0) ((40 * v1) + v3).toNat) / 10000) m))
set_option maxHeartbeats 4000000 in
set_option maxRecDepth 100000 in
theorem tX12_noWeighed_34 {X : aj_T} {n f : Nat} {Φ : Int → aj_M → Prop} (C : aj_Cx X cX12_noWeighed RX12 6 (n + 2)) (K : aj_Rt X (some .int) (fun r m => ∃ z, r = some (vI z) ∧ Φ z m)) : ∀ (k : Nat) (q0 : List Nat) (v1 : Int) (v3 : Int) (m : aj_M) (hq0 : (.inl (12, q0) : aj_R) ∈ aj_pls), hX12_noWeighed_34 f Φ k q0 v1 v3 m → aj_J X 34 [some (vO 12 q0), some (vI v1), none, some (vI v3), none, none] [] m := by
  intro k
  induction k with
  | zero =>
    intro q0 v1 v3 m _ h
    exact h.elim
  | succ k ih =>
    intro q0 v1 v3 m hq0 h
    unfold hX12_noWeighed_34 at h
    refine aj_iload_n C dX12_noWeighed_34 rfl ?_
    refine aj_aload_n C dX12_noWeighed_35 rfl ?_
    refine aj_getA (x := 0) (y := 4) C flX12_81 hq0 rfl dX12_noWeighed_36 ?_
    refine aj_iload_n C dX12_noWeighed_39 rfl ?_
    obtain ⟨r0, h⟩ := h
    refine aj_iald C (aj_ca (e := 0) (n := 4) (j := 45) hq0 (by decide) rfl) (by decide) r0 dX12_noWeighed_40 rfl ?_
    obtain ⟨r0, r1, h1, h2⟩ := h
    refine aj_icmp_ge (tgt := 114) C dX12_noWeighed_41 (by decide) r0 r1 (fun e => ?_) (fun e => ?_)
    · have h := h1 e
      refine aj_iconst C dX12_noWeighed_114 ?_
      exact aj_iret C K dX12_noWeighed_115 ⟨_, rfl, h⟩
    · have h := h2 e
      refine aj_aload_n C dX12_noWeighed_44 rfl ?_
      refine aj_getA (x := 3) (y := 160) C flX12_84 hq0 rfl dX12_noWeighed_45 ?_
      refine aj_bipush C dX12_noWeighed_48 (by decide) ?_
      refine aj_iload_n C dX12_noWeighed_50 rfl ?_
      refine aj_imul C dX12_noWeighed_51 ?_
      refine aj_iload_n C dX12_noWeighed_52 rfl ?_
      refine aj_iadd C dX12_noWeighed_53 ?_
      obtain ⟨r0, h⟩ := h
      refine aj_lald C (aj_ca (e := 3) (n := 160) (j := 46) hq0 (by decide) rfl) (by decide) r0 dX12_noWeighed_54 rfl ?_
      refine aj_lstore (lv' := [some (vO 12 q0), some (vI v1), none, some (vI v3), some (vL (m (46 :: q0) ((40 * v1) + v3).toNat)), none]) C dX12_noWeighed_55 (by decide) rfl ?_
      refine aj_lload C dX12_noWeighed_57 rfl ?_
      refine aj_lconst (z := 0) C dX12_noWeighed_59 rfl ?_
      obtain ⟨r0, h1, h2⟩ := h
      refine aj_lcmp_lt (tgt := 105) C dX12_noWeighed_60 dX12_noWeighed_61 (by decide) r0 (by decide) (fun e => ?_) (fun e => ?_)
      · have h := h1 e
        refine aj_bipush C dX12_noWeighed_105 (by decide) ?_
        exact aj_iret C K dX12_noWeighed_107 ⟨_, rfl, h⟩
      · have h := h2 e
        refine aj_aload_n C dX12_noWeighed_64 rfl ?_
        refine aj_lload C dX12_noWeighed_65 rfl ?_
        refine aj_ldc2 (z := 10000) C (wd2130) rfl dX12_noWeighed_67 ?_
        obtain ⟨r0, h⟩ := h
        refine aj_ldivN C dX12_noWeighed_70 r0 (by decide) ?_
        refine aj_callV (rest := []) C mvX12_291 (sX12_isArc hq0 h) hq0 (aj_np 1 (by decide +kernel) rfl) (Nat.le_of_ble_eq_true rfl) rfl dX12_noWeighed_71 (fun r m1 h => ?_)
        obtain ⟨z1, rfl, h⟩ := h
        obtain ⟨r0, h1, h2⟩ := h
        refine aj_if_eq (tgt := 105) C dX12_noWeighed_74 (by decide) r0 (fun e => ?_) (fun e => ?_)
        · have h := h1 e
          refine aj_bipush C dX12_noWeighed_105 (by decide) ?_
          exact aj_iret C K dX12_noWeighed_107 ⟨_, rfl, h⟩
        · have h := h2 e
          refine aj_aload_n C dX12_noWeighed_77 rfl ?_
          refine aj_lload C dX12_noWeighed_78 rfl ?_
          refine aj_ldc2 (z := 10000) C (wd2130) rfl dX12_noWeighed_80 ?_
          obtain ⟨r0, h⟩ := h
          refine aj_lremN C dX12_noWeighed_83 r0 (by decide) ?_
          refine aj_ldc2 (z := 100) C (wd1855) rfl dX12_noWeighed_84 ?_
          obtain ⟨r0, h⟩ := h
          refine aj_ldivN C dX12_noWeighed_87 r0 (by decide) ?_
          refine aj_callV (rest := []) C mvX12_205 (sX12_isMember hq0 h) hq0 (aj_np 1 (by decide +kernel) rfl) (Nat.le_of_ble_eq_true rfl) rfl dX12_noWeighed_88 (fun r m2 h => ?_)
          obtain ⟨z2, rfl, h⟩ := h
          obtain ⟨r0, h1, h2⟩ := h
          refine aj_if_eq (tgt := 105) C dX12_noWeighed_91 (by decide) r0 (fun e => ?_) (fun e => ?_)
          · have h := h1 e
            refine aj_bipush C dX12_noWeighed_105 (by decide) ?_
            exact aj_iret C K dX12_noWeighed_107 ⟨_, rfl, h⟩
          · have h := h2 e
            refine aj_lload C dX12_noWeighed_94 rfl ?_
            refine aj_ldc2 (z := 100) C (wd1855) rfl dX12_noWeighed_96 ?_
            obtain ⟨r0, h⟩ := h
            refine aj_lremN C dX12_noWeighed_99 r0 (by decide) ?_
            refine aj_lconst (z := 0) C dX12_noWeighed_100 rfl ?_
            obtain ⟨r0, h1, h2⟩ := h
            refine aj_lcmp_ne (tgt := 108) C dX12_noWeighed_101 dX12_noWeighed_102 (by decide) r0 (by decide) (fun e => ?_) (fun e => ?_)
            · have h := h1 e
              refine aj_iinc (lv' := [some (vO 12 q0), some (vI v1), none, some (vI (v3 + 1)), some (vL (m (46 :: q0) ((40 * v1) + v3).toNat)), none]) C dX12_noWeighed_108 rfl (by decide) rfl ?_
              refine aj_goto (tgt := 34) C dX12_noWeighed_111 (by decide) ?_
              refine aj_wk (lv' := [some (vO 12 q0), some (vI v1), none, some (vI (v3 + 1)), none, none]) (⟨rfl, ⟨rfl, ⟨rfl, trivial⟩⟩⟩) ?_
              exact ih q0 v1 (v3 + 1) _ hq0 h
            · have h := h2 e
              refine aj_bipush C dX12_noWeighed_105 (by decide) ?_
              exact aj_iret C K dX12_noWeighed_107 ⟨_, rfl, h⟩
def wX12_noWeighed (f : Nat) (Φ : Int → aj_M → Prop) (q0 : List Nat) (v1 : Int) (m : aj_M) : Prop := wX12_noTray f (fun z1 m1 => rI z1 ∧ (z1 = 0 → (0 ≤ v1 ∧ v1 < 4) ∧ rI (m1 (45 :: q0) v1.toNat) ∧ wX12_within f (fun z2 m2 => rI z2 ∧ (¬ z2 = 0 → hX12_noWeighed_34 f Φ f q0 v1 0 m2) ∧ (z2 = 0 → Φ (-4) m2)) (m1 (45 :: q0) v1.toNat) 1 8 m1) ∧ (¬ (z1 = 0) → Φ z1 m1)) q0 v1 m
set_option maxHeartbeats 4000000 in
set_option maxRecDepth 100000 in
theorem sX12_noWeighed {n f : Nat} {Φ : Int → aj_M → Prop} {q0 : List Nat} {v1 : Int} {m : aj_M} (hq0 : (.inl (12, q0) : aj_R) ∈ aj_pls) (h : wX12_noWeighed f Φ q0 v1 m) : aj_Ct (n + 2) yX12_noWeighed cX12_noWeighed 6 (some .int) [vO 12 q0, vI v1] m (fun r m => ∃ z, r = some (vI z) ∧ Φ z m) := by
  refine aj_met (lv := [some (vO 12 q0), some (vI v1), none, none, none, none]) (by decide +kernel) rfl (Nat.le_of_ble_eq_true rfl) (fun X C K => ?_)
  unfold wX12_noWeighed at h
  refine aj_aload_n C dX12_noWeighed_0 rfl ?_
  refine aj_iload_n C dX12_noWeighed_1 rfl ?_
  refine aj_callV (rest := []) C mvX12_330 (sX12_noTray hq0 h) hq0 (aj_np 1 (by decide +kernel) rfl) (Nat.le_of_ble_eq_true rfl) rfl dX12_noWeighed_2 (fun r m1 h => ?_)
  obtain ⟨z1, rfl, h⟩ := h
  refine aj_istore_n (lv' := [some (vO 12 q0), some (vI v1), some (vI z1), none, none, none]) C dX12_noWeighed_5 (by decide) rfl ?_
  refine aj_iload_n C dX12_noWeighed_6 rfl ?_
  obtain ⟨r0, h1, h2⟩ := h
  refine aj_if_eq (tgt := 12) C dX12_noWeighed_7 (by decide) r0 (fun e => ?_) (fun e => ?_)
  · have h := h1 e
    refine aj_aload_n C dX12_noWeighed_12 rfl ?_
    refine aj_getA (x := 0) (y := 4) C flX12_81 hq0 rfl dX12_noWeighed_13 ?_
    refine aj_iload_n C dX12_noWeighed_16 rfl ?_
    obtain ⟨r0, h⟩ := h
    refine aj_iald C (aj_ca (e := 0) (n := 4) (j := 45) hq0 (by decide) rfl) (by decide) r0 dX12_noWeighed_17 rfl ?_
    obtain ⟨r0, h⟩ := h
    refine aj_i2l C dX12_noWeighed_18 r0 ?_
    refine aj_lconst (z := 1) C dX12_noWeighed_19 rfl ?_
    refine aj_ldc2 (z := 8) C (wd2093) rfl dX12_noWeighed_20 ?_
    refine aj_callS (rest := []) C msX12_154 (sX12_within  h) (aj_np 3 (by decide +kernel) rfl) (Nat.le_of_ble_eq_true rfl) rfl dX12_noWeighed_23 (fun r m2 h => ?_)
    obtain ⟨z2, rfl, h⟩ := h
    obtain ⟨r0, h1, h2⟩ := h
    refine aj_if_ne (tgt := 32) C dX12_noWeighed_26 (by decide) r0 (fun e => ?_) (fun e => ?_)
    · have h := h1 e
      refine aj_iconst C dX12_noWeighed_32 ?_
      refine aj_istore_n (lv' := [some (vO 12 q0), some (vI v1), some (vI z1), some (vI 0), none, none]) C dX12_noWeighed_33 (by decide) rfl ?_
      refine aj_wk (lv' := [some (vO 12 q0), some (vI v1), none, some (vI 0), none, none]) (⟨rfl, ⟨rfl, ⟨rfl, trivial⟩⟩⟩) ?_
      exact tX12_noWeighed_34 C K f q0 v1 0 _ hq0 h
    · have h := h2 e
      refine aj_bipush C dX12_noWeighed_29 (by decide) ?_
      exact aj_iret C K dX12_noWeighed_31 ⟨_, rfl, h⟩
  · have h := h2 e
    refine aj_iload_n C dX12_noWeighed_10 rfl ?_
    exact aj_iret C K dX12_noWeighed_11 ⟨_, rfl, h⟩
theorem dX12_twistsOf_0 : decode cX12_twistsOf 0 = .ok (.iconst 0, 1) := by decide +kernel
theorem dX12_twistsOf_1 : decode cX12_twistsOf 1 = .ok (.istore_n 2, 1) := by decide +kernel
theorem dX12_twistsOf_2 : decode cX12_twistsOf 2 = .ok (.iconst 0, 1) := by decide +kernel
theorem dX12_twistsOf_3 : decode cX12_twistsOf 3 = .ok (.istore_n 3, 1) := by decide +kernel
theorem dX12_twistsOf_4 : decode cX12_twistsOf 4 = .ok (.iload_n 3, 1) := by decide +kernel
theorem dX12_twistsOf_5 : decode cX12_twistsOf 5 = .ok (.bipush 10, 2) := by decide +kernel
theorem dX12_twistsOf_7 : decode cX12_twistsOf 7 = .ok (.if_icmp .ge 100, 3) := by decide +kernel
theorem dX12_twistsOf_10 : decode cX12_twistsOf 10 = .ok (.iconst 1, 1) := by decide +kernel
theorem dX12_twistsOf_11 : decode cX12_twistsOf 11 = .ok (.istore 4, 2) := by decide +kernel
theorem dX12_twistsOf_13 : decode cX12_twistsOf 13 = .ok (.iconst 0, 1) := by decide +kernel
theorem dX12_twistsOf_14 : decode cX12_twistsOf 14 = .ok (.istore 5, 2) := by decide +kernel
theorem dX12_twistsOf_16 : decode cX12_twistsOf 16 = .ok (.iload 5, 2) := by decide +kernel
theorem dX12_twistsOf_18 : decode cX12_twistsOf 18 = .ok (.aload_n 0, 1) := by decide +kernel
theorem dX12_twistsOf_19 : decode cX12_twistsOf 19 = .ok (.getfield 81, 3) := by decide +kernel
theorem dX12_twistsOf_22 : decode cX12_twistsOf 22 = .ok (.iload_n 1, 1) := by decide +kernel
theorem dX12_twistsOf_23 : decode cX12_twistsOf 23 = .ok (.iaload, 1) := by decide +kernel
theorem dX12_twistsOf_24 : decode cX12_twistsOf 24 = .ok (.if_icmp .ge 62, 3) := by decide +kernel
theorem dX12_twistsOf_27 : decode cX12_twistsOf 27 = .ok (.aload_n 0, 1) := by decide +kernel
theorem dX12_twistsOf_28 : decode cX12_twistsOf 28 = .ok (.getfield 84, 3) := by decide +kernel
theorem dX12_twistsOf_31 : decode cX12_twistsOf 31 = .ok (.bipush 40, 2) := by decide +kernel
theorem dX12_twistsOf_33 : decode cX12_twistsOf 33 = .ok (.iload_n 1, 1) := by decide +kernel
theorem dX12_twistsOf_34 : decode cX12_twistsOf 34 = .ok (.imul, 1) := by decide +kernel
theorem dX12_twistsOf_35 : decode cX12_twistsOf 35 = .ok (.iload 5, 2) := by decide +kernel
theorem dX12_twistsOf_37 : decode cX12_twistsOf 37 = .ok (.iadd, 1) := by decide +kernel
theorem dX12_twistsOf_38 : decode cX12_twistsOf 38 = .ok (.laload, 1) := by decide +kernel
theorem dX12_twistsOf_39 : decode cX12_twistsOf 39 = .ok (.l2i, 1) := by decide +kernel
theorem dX12_twistsOf_40 : decode cX12_twistsOf 40 = .ok (.istore 6, 2) := by decide +kernel
theorem dX12_twistsOf_42 : decode cX12_twistsOf 42 = .ok (.iload 4, 2) := by decide +kernel
theorem dX12_twistsOf_44 : decode cX12_twistsOf 44 = .ok (.aload_n 0, 1) := by decide +kernel
theorem dX12_twistsOf_45 : decode cX12_twistsOf 45 = .ok (.iload 6, 2) := by decide +kernel
theorem dX12_twistsOf_47 : decode cX12_twistsOf 47 = .ok (.sipush 10000, 3) := by decide +kernel
theorem dX12_twistsOf_50 : decode cX12_twistsOf 50 = .ok (.idiv, 1) := by decide +kernel
theorem dX12_twistsOf_51 : decode cX12_twistsOf 51 = .ok (.iload 6, 2) := by decide +kernel
theorem dX12_twistsOf_53 : decode cX12_twistsOf 53 = .ok (.sipush 10000, 3) := by decide +kernel
theorem dX12_twistsOf_56 : decode cX12_twistsOf 56 = .ok (.irem, 1) := by decide +kernel
theorem dX12_twistsOf_57 : decode cX12_twistsOf 57 = .ok (.bipush 100, 2) := by decide +kernel
theorem dX12_twistsOf_59 : decode cX12_twistsOf 59 = .ok (.idiv, 1) := by decide +kernel
theorem dX12_twistsOf_60 : decode cX12_twistsOf 60 = .ok (.iload_n 3, 1) := by decide +kernel
theorem dX12_twistsOf_61 : decode cX12_twistsOf 61 = .ok (.invokevirtual 268, 3) := by decide +kernel
theorem dX12_twistsOf_64 : decode cX12_twistsOf 64 = .ok (.iload 6, 2) := by decide +kernel
theorem dX12_twistsOf_66 : decode cX12_twistsOf 66 = .ok (.bipush 100, 2) := by decide +kernel
theorem dX12_twistsOf_68 : decode cX12_twistsOf 68 = .ok (.irem, 1) := by decide +kernel
theorem dX12_twistsOf_69 : decode cX12_twistsOf 69 = .ok (.if_icmp .ne 7, 3) := by decide +kernel
theorem dX12_twistsOf_72 : decode cX12_twistsOf 72 = .ok (.iconst 1, 1) := by decide +kernel
theorem dX12_twistsOf_73 : decode cX12_twistsOf 73 = .ok (.goto 4, 3) := by decide +kernel
theorem dX12_twistsOf_76 : decode cX12_twistsOf 76 = .ok (.iconst 0, 1) := by decide +kernel
theorem dX12_twistsOf_77 : decode cX12_twistsOf 77 = .ok (.iand, 1) := by decide +kernel
theorem dX12_twistsOf_78 : decode cX12_twistsOf 78 = .ok (.istore 4, 2) := by decide +kernel
theorem dX12_twistsOf_80 : decode cX12_twistsOf 80 = .ok (.iinc 5 1, 3) := by decide +kernel
theorem dX12_twistsOf_83 : decode cX12_twistsOf 83 = .ok (.goto (-67), 3) := by decide +kernel
theorem dX12_twistsOf_86 : decode cX12_twistsOf 86 = .ok (.iload_n 2, 1) := by decide +kernel
theorem dX12_twistsOf_87 : decode cX12_twistsOf 87 = .ok (.iload 4, 2) := by decide +kernel
theorem dX12_twistsOf_89 : decode cX12_twistsOf 89 = .ok (.ifCond .eq 9, 3) := by decide +kernel
theorem dX12_twistsOf_92 : decode cX12_twistsOf 92 = .ok (.iconst 1, 1) := by decide +kernel
theorem dX12_twistsOf_93 : decode cX12_twistsOf 93 = .ok (.iload_n 3, 1) := by decide +kernel
theorem dX12_twistsOf_94 : decode cX12_twistsOf 94 = .ok (.ishl, 1) := by decide +kernel
theorem dX12_twistsOf_95 : decode cX12_twistsOf 95 = .ok (.goto 4, 3) := by decide +kernel
theorem dX12_twistsOf_98 : decode cX12_twistsOf 98 = .ok (.iconst 0, 1) := by decide +kernel
theorem dX12_twistsOf_99 : decode cX12_twistsOf 99 = .ok (.ior, 1) := by decide +kernel
theorem dX12_twistsOf_100 : decode cX12_twistsOf 100 = .ok (.istore_n 2, 1) := by decide +kernel
theorem dX12_twistsOf_101 : decode cX12_twistsOf 101 = .ok (.iinc 3 1, 3) := by decide +kernel
theorem dX12_twistsOf_104 : decode cX12_twistsOf 104 = .ok (.goto (-100), 3) := by decide +kernel
theorem dX12_twistsOf_107 : decode cX12_twistsOf 107 = .ok (.iload_n 2, 1) := by decide +kernel
theorem dX12_twistsOf_108 : decode cX12_twistsOf 108 = .ok (.ireturn, 1) := by decide +kernel
def hX12_twistsOf_16 (f : Nat) (Φ : Int → aj_M → Prop) (K4 : List Nat → Int → Int → Int → aj_M → Prop) : Nat → List Nat → Int → Int → Int → Int → Int → aj_M → Prop
  | 0, _, _, _, _, _, _, _ => False
  | k + 1, q0, v1, v2, v3, v4, v5, m => (0 ≤ v1 ∧ v1 < 4) ∧ rI v5 ∧ rI (m (45 :: q0) v1.toNat) ∧ ((m (45 :: q0) v1.toNat) ≤ v5 → rI v4 ∧ (v4 = 0 → K4 q0 v1 (aj_or v2 0) (v3 + 1) m) ∧ (¬ (v4 = 0) → K4 q0 v1 (aj_or v2 (aj_shl 1 v3)) (v3 + 1) m)) ∧ (¬ ((m (45 :: q0) v1.toNat) ≤ v5) → (0 ≤ ((40 * v1) + v5) ∧ ((40 * v1) + v5) < 160) ∧ (0 ≤ (m (46 :: q0) ((40 * v1) + v5).toNat) ∧ (m (46 :: q0) ((40 * v1) + v5).toNat) < 2147483648) ∧ (0 ≤ (m (46 :: q0) ((40 * v1) + v5).toNat) ∧ (m (46 :: q0) ((40 * v1) + v5).toNat) < 2147483648) ∧ (0 ≤ ((m (46 :: q0) ((40 * v1) + v5).toNat) % 10000) ∧ ((m (46 :: q0) ((40 * v1) + v5).toNat) % 10000) < 2147483648) ∧ wX12_weightOf f (fun z1 m1 => (0 ≤ (m (46 :: q0) ((40 * v1) + v5).toNat) ∧ (m (46 :: q0) ((40 * v1) + v5).toNat) < 2147483648) ∧ rI z1 ∧ rI ((m (46 :: q0) ((40 * v1) + v5).toNat) % 100) ∧ (¬ z1 = ((m (46 :: q0) ((40 * v1) + v5).toNat) % 100) → hX12_twistsOf_16 f Φ K4 k q0 v1 v2 v3 (aj_and v4 0) (v5 + 1) m1) ∧ (z1 = ((m (46 :: q0) ((40 * v1) + v5).toNat) % 100) → hX12_twistsOf_16 f Φ K4 k q0 v1 v2 v3 (aj_and v4 1) (v5 + 1) m1)) q0 ((m (46 :: q0) ((40 * v1) + v5).toNat) / 10000) (((m (46 :: q0) ((40 * v1) + v5).toNat) % 10000) / 100) v3 m)
set_option maxHeartbeats 4000000 in
set_option maxRecDepth 100000 in
theorem tX12_twistsOf_16 {X : aj_T} {n f : Nat} {Φ : Int → aj_M → Prop} (C : aj_Cx X cX12_twistsOf RX12 7 (n + 3)) (K : aj_Rt X (some .int) (fun r m => ∃ z, r = some (vI z) ∧ Φ z m)) {K4 : List Nat → Int → Int → Int → aj_M → Prop} (HK4 : ∀ (q0 : List Nat) (v1 : Int) (v2 : Int) (v3 : Int) (m : aj_M) (hq0 : (.inl (12, q0) : aj_R) ∈ aj_pls), K4 q0 v1 v2 v3 m → aj_J X 4 [some (vO 12 q0), some (vI v1), some (vI v2), some (vI v3), none, none, none] [] m) : ∀ (k : Nat) (q0 : List Nat) (v1 : Int) (v2 : Int) (v3 : Int) (v4 : Int) (v5 : Int) (m : aj_M) (hq0 : (.inl (12, q0) : aj_R) ∈ aj_pls), hX12_twistsOf_16 f Φ K4 k q0 v1 v2 v3 v4 v5 m → aj_J X 16 [some (vO 12 q0), some (vI v1), some (vI v2), some (vI v3), some (vI v4), some (vI v5), none] [] m := by
  intro k
  induction k with
  | zero =>
    intro q0 v1 v2 v3 v4 v5 m _ h
    exact h.elim
  | succ k ih =>
    intro q0 v1 v2 v3 v4 v5 m hq0 h
    unfold hX12_twistsOf_16 at h
    refine aj_iload C dX12_twistsOf_16 rfl ?_
    refine aj_aload_n C dX12_twistsOf_18 rfl ?_
    refine aj_getA (x := 0) (y := 4) C flX12_81 hq0 rfl dX12_twistsOf_19 ?_
    refine aj_iload_n C dX12_twistsOf_22 rfl ?_
    obtain ⟨r0, h⟩ := h
    refine aj_iald C (aj_ca (e := 0) (n := 4) (j := 45) hq0 (by decide) rfl) (by decide) r0 dX12_twistsOf_23 rfl ?_
    obtain ⟨r0, r1, h1, h2⟩ := h
    refine aj_icmp_ge (tgt := 86) C dX12_twistsOf_24 (by decide) r0 r1 (fun e => ?_) (fun e => ?_)
    · have h := h1 e
      refine aj_iload_n C dX12_twistsOf_86 rfl ?_
      refine aj_iload C dX12_twistsOf_87 rfl ?_
      obtain ⟨r0, h1, h2⟩ := h
      refine aj_if_eq (tgt := 98) C dX12_twistsOf_89 (by decide) r0 (fun e => ?_) (fun e => ?_)
      · have h := h1 e
        refine aj_iconst C dX12_twistsOf_98 ?_
        refine aj_ior C dX12_twistsOf_99 ?_
        refine aj_istore_n (lv' := [some (vO 12 q0), some (vI v1), some (vI (aj_or v2 0)), some (vI v3), some (vI v4), some (vI v5), none]) C dX12_twistsOf_100 (by decide) rfl ?_
        refine aj_iinc (lv' := [some (vO 12 q0), some (vI v1), some (vI (aj_or v2 0)), some (vI (v3 + 1)), some (vI v4), some (vI v5), none]) C dX12_twistsOf_101 rfl (by decide) rfl ?_
        refine aj_goto (tgt := 4) C dX12_twistsOf_104 (by decide) ?_
        refine aj_wk (lv' := [some (vO 12 q0), some (vI v1), some (vI (aj_or v2 0)), some (vI (v3 + 1)), none, none, none]) (⟨rfl, ⟨rfl, ⟨rfl, ⟨rfl, trivial⟩⟩⟩⟩) ?_
        exact HK4 q0 v1 (aj_or v2 0) (v3 + 1) _ hq0 h
      · have h := h2 e
        refine aj_iconst C dX12_twistsOf_92 ?_
        refine aj_iload_n C dX12_twistsOf_93 rfl ?_
        refine aj_ishl C dX12_twistsOf_94 ?_
        refine aj_goto (tgt := 99) C dX12_twistsOf_95 (by decide) ?_
        refine aj_ior C dX12_twistsOf_99 ?_
        refine aj_istore_n (lv' := [some (vO 12 q0), some (vI v1), some (vI (aj_or v2 (aj_shl 1 v3))), some (vI v3), some (vI v4), some (vI v5), none]) C dX12_twistsOf_100 (by decide) rfl ?_
        refine aj_iinc (lv' := [some (vO 12 q0), some (vI v1), some (vI (aj_or v2 (aj_shl 1 v3))), some (vI (v3 + 1)), some (vI v4), some (vI v5), none]) C dX12_twistsOf_101 rfl (by decide) rfl ?_
        refine aj_goto (tgt := 4) C dX12_twistsOf_104 (by decide) ?_
        refine aj_wk (lv' := [some (vO 12 q0), some (vI v1), some (vI (aj_or v2 (aj_shl 1 v3))), some (vI (v3 + 1)), none, none, none]) (⟨rfl, ⟨rfl, ⟨rfl, ⟨rfl, trivial⟩⟩⟩⟩) ?_
        exact HK4 q0 v1 (aj_or v2 (aj_shl 1 v3)) (v3 + 1) _ hq0 h
    · have h := h2 e
      refine aj_aload_n C dX12_twistsOf_27 rfl ?_
      refine aj_getA (x := 3) (y := 160) C flX12_84 hq0 rfl dX12_twistsOf_28 ?_
      refine aj_bipush C dX12_twistsOf_31 (by decide) ?_
      refine aj_iload_n C dX12_twistsOf_33 rfl ?_
      refine aj_imul C dX12_twistsOf_34 ?_
      refine aj_iload C dX12_twistsOf_35 rfl ?_
      refine aj_iadd C dX12_twistsOf_37 ?_
      obtain ⟨r0, h⟩ := h
      refine aj_lald C (aj_ca (e := 3) (n := 160) (j := 46) hq0 (by decide) rfl) (by decide) r0 dX12_twistsOf_38 rfl ?_
      refine aj_l2i C dX12_twistsOf_39 ?_
      refine aj_istore (lv' := [some (vO 12 q0), some (vI v1), some (vI v2), some (vI v3), some (vI v4), some (vI v5), some (vI (m (46 :: q0) ((40 * v1) + v5).toNat))]) C dX12_twistsOf_40 (by decide) rfl ?_
      refine aj_iload C dX12_twistsOf_42 rfl ?_
      refine aj_aload_n C dX12_twistsOf_44 rfl ?_
      refine aj_iload C dX12_twistsOf_45 rfl ?_
      refine aj_sipush C dX12_twistsOf_47 (by decide) ?_
      obtain ⟨r0, h⟩ := h
      refine aj_idivN C dX12_twistsOf_50 r0 (by decide) ?_
      refine aj_iload C dX12_twistsOf_51 rfl ?_
      refine aj_sipush C dX12_twistsOf_53 (by decide) ?_
      obtain ⟨r0, h⟩ := h
      refine aj_iremN C dX12_twistsOf_56 r0 (by decide) ?_
      refine aj_bipush C dX12_twistsOf_57 (by decide) ?_
      obtain ⟨r0, h⟩ := h
      refine aj_idivN C dX12_twistsOf_59 r0 (by decide) ?_
      refine aj_iload_n C dX12_twistsOf_60 rfl ?_
      refine aj_callV (rest := [vI v4]) C mvX12_268 (sX12_weightOf hq0 h) hq0 (aj_np 3 (by decide +kernel) rfl) (Nat.le_of_ble_eq_true rfl) rfl dX12_twistsOf_61 (fun r m1 h => ?_)
      obtain ⟨z1, rfl, h⟩ := h
      refine aj_iload C dX12_twistsOf_64 rfl ?_
      refine aj_bipush C dX12_twistsOf_66 (by decide) ?_
      obtain ⟨r0, h⟩ := h
      refine aj_iremN C dX12_twistsOf_68 r0 (by decide) ?_
      obtain ⟨r0, r1, h1, h2⟩ := h
      refine aj_icmp_ne (tgt := 76) C dX12_twistsOf_69 (by decide) r0 r1 (fun e => ?_) (fun e => ?_)
      · have h := h1 e
        refine aj_iconst C dX12_twistsOf_76 ?_
        refine aj_iand C dX12_twistsOf_77 ?_
        refine aj_istore (lv' := [some (vO 12 q0), some (vI v1), some (vI v2), some (vI v3), some (vI (aj_and v4 0)), some (vI v5), some (vI (m (46 :: q0) ((40 * v1) + v5).toNat))]) C dX12_twistsOf_78 (by decide) rfl ?_
        refine aj_iinc (lv' := [some (vO 12 q0), some (vI v1), some (vI v2), some (vI v3), some (vI (aj_and v4 0)), some (vI (v5 + 1)), some (vI (m (46 :: q0) ((40 * v1) + v5).toNat))]) C dX12_twistsOf_80 rfl (by decide) rfl ?_
        refine aj_goto (tgt := 16) C dX12_twistsOf_83 (by decide) ?_
        refine aj_wk (lv' := [some (vO 12 q0), some (vI v1), some (vI v2), some (vI v3), some (vI (aj_and v4 0)), some (vI (v5 + 1)), none]) (⟨rfl, ⟨rfl, ⟨rfl, ⟨rfl, ⟨rfl, ⟨rfl, trivial⟩⟩⟩⟩⟩⟩) ?_
        exact ih q0 v1 v2 v3 (aj_and v4 0) (v5 + 1) _ hq0 h
      · have h := h2 e
        refine aj_iconst C dX12_twistsOf_72 ?_
        refine aj_goto (tgt := 77) C dX12_twistsOf_73 (by decide) ?_
        refine aj_iand C dX12_twistsOf_77 ?_
        refine aj_istore (lv' := [some (vO 12 q0), some (vI v1), some (vI v2), some (vI v3), some (vI (aj_and v4 1)), some (vI v5), some (vI (m (46 :: q0) ((40 * v1) + v5).toNat))]) C dX12_twistsOf_78 (by decide) rfl ?_
        refine aj_iinc (lv' := [some (vO 12 q0), some (vI v1), some (vI v2), some (vI v3), some (vI (aj_and v4 1)), some (vI (v5 + 1)), some (vI (m (46 :: q0) ((40 * v1) + v5).toNat))]) C dX12_twistsOf_80 rfl (by decide) rfl ?_
        refine aj_goto (tgt := 16) C dX12_twistsOf_83 (by decide) ?_
        refine aj_wk (lv' := [some (vO 12 q0), some (vI v1), some (vI v2), some (vI v3), some (vI (aj_and v4 1)), some (vI (v5 + 1)), none]) (⟨rfl, ⟨rfl, ⟨rfl, ⟨rfl, ⟨rfl, ⟨rfl, trivial⟩⟩⟩⟩⟩⟩) ?_
        exact ih q0 v1 v2 v3 (aj_and v4 1) (v5 + 1) _ hq0 h
def hX12_twistsOf_4 (f : Nat) (Φ : Int → aj_M → Prop) : Nat → List Nat → Int → Int → Int → aj_M → Prop
  | 0, _, _, _, _, _ => False
  | k + 1, q0, v1, v2, v3, m => rI v3 ∧ (10 ≤ v3 → Φ v2 m) ∧ (¬ (10 ≤ v3) → hX12_twistsOf_16 f Φ (fun q0 v1 v2 v3 m => hX12_twistsOf_4 f Φ k q0 v1 v2 v3 m) f q0 v1 v2 v3 1 0 m)
set_option maxHeartbeats 4000000 in
set_option maxRecDepth 100000 in
theorem tX12_twistsOf_4 {X : aj_T} {n f : Nat} {Φ : Int → aj_M → Prop} (C : aj_Cx X cX12_twistsOf RX12 7 (n + 3)) (K : aj_Rt X (some .int) (fun r m => ∃ z, r = some (vI z) ∧ Φ z m)) : ∀ (k : Nat) (q0 : List Nat) (v1 : Int) (v2 : Int) (v3 : Int) (m : aj_M) (hq0 : (.inl (12, q0) : aj_R) ∈ aj_pls), hX12_twistsOf_4 f Φ k q0 v1 v2 v3 m → aj_J X 4 [some (vO 12 q0), some (vI v1), some (vI v2), some (vI v3), none, none, none] [] m := by
  intro k
  induction k with
  | zero =>
    intro q0 v1 v2 v3 m _ h
    exact h.elim
  | succ k ih =>
    intro q0 v1 v2 v3 m hq0 h
    unfold hX12_twistsOf_4 at h
    refine aj_iload_n C dX12_twistsOf_4 rfl ?_
    refine aj_bipush C dX12_twistsOf_5 (by decide) ?_
    obtain ⟨r0, h1, h2⟩ := h
    refine aj_icmp_ge (tgt := 107) C dX12_twistsOf_7 (by decide) r0 (by decide) (fun e => ?_) (fun e => ?_)
    · have h := h1 e
      refine aj_iload_n C dX12_twistsOf_107 rfl ?_
      exact aj_iret C K dX12_twistsOf_108 ⟨_, rfl, h⟩
    · have h := h2 e
      refine aj_iconst C dX12_twistsOf_10 ?_
      refine aj_istore (lv' := [some (vO 12 q0), some (vI v1), some (vI v2), some (vI v3), some (vI 1), none, none]) C dX12_twistsOf_11 (by decide) rfl ?_
      refine aj_iconst C dX12_twistsOf_13 ?_
      refine aj_istore (lv' := [some (vO 12 q0), some (vI v1), some (vI v2), some (vI v3), some (vI 1), some (vI 0), none]) C dX12_twistsOf_14 (by decide) rfl ?_
      exact tX12_twistsOf_16 C K (fun q0 v1 v2 v3 m hq0 hh => ih q0 v1 v2 v3 m hq0 hh) f q0 v1 v2 v3 1 0 _ hq0 h
def wX12_twistsOf (f : Nat) (Φ : Int → aj_M → Prop) (q0 : List Nat) (v1 : Int) (m : aj_M) : Prop := hX12_twistsOf_4 f Φ f q0 v1 0 0 m
set_option maxHeartbeats 4000000 in
set_option maxRecDepth 100000 in
theorem sX12_twistsOf {n f : Nat} {Φ : Int → aj_M → Prop} {q0 : List Nat} {v1 : Int} {m : aj_M} (hq0 : (.inl (12, q0) : aj_R) ∈ aj_pls) (h : wX12_twistsOf f Φ q0 v1 m) : aj_Ct (n + 3) yX12_twistsOf cX12_twistsOf 7 (some .int) [vO 12 q0, vI v1] m (fun r m => ∃ z, r = some (vI z) ∧ Φ z m) := by
  refine aj_met (lv := [some (vO 12 q0), some (vI v1), none, none, none, none, none]) (by decide +kernel) rfl (Nat.le_of_ble_eq_true rfl) (fun X C K => ?_)
  unfold wX12_twistsOf at h
  refine aj_iconst C dX12_twistsOf_0 ?_
  refine aj_istore_n (lv' := [some (vO 12 q0), some (vI v1), some (vI 0), none, none, none, none]) C dX12_twistsOf_1 (by decide) rfl ?_
  refine aj_iconst C dX12_twistsOf_2 ?_
  refine aj_istore_n (lv' := [some (vO 12 q0), some (vI v1), some (vI 0), some (vI 0), none, none, none]) C dX12_twistsOf_3 (by decide) rfl ?_
  exact tX12_twistsOf_4 C K f q0 v1 0 0 _ hq0 h
theorem dX12_twists_0 : decode cX12_twists 0 = .ok (.aload_n 0, 1) := by decide +kernel
theorem dX12_twists_1 : decode cX12_twists 1 = .ok (.iconst 0, 1) := by decide +kernel
theorem dX12_twists_2 : decode cX12_twists 2 = .ok (.putfield 1, 3) := by decide +kernel
theorem dX12_twists_5 : decode cX12_twists 5 = .ok (.aload_n 0, 1) := by decide +kernel
theorem dX12_twists_6 : decode cX12_twists 6 = .ok (.iload_n 1, 1) := by decide +kernel
theorem dX12_twists_7 : decode cX12_twists 7 = .ok (.invokevirtual 468, 3) := by decide +kernel
theorem dX12_twists_10 : decode cX12_twists 10 = .ok (.istore_n 2, 1) := by decide +kernel
theorem dX12_twists_11 : decode cX12_twists 11 = .ok (.iload_n 2, 1) := by decide +kernel
theorem dX12_twists_12 : decode cX12_twists 12 = .ok (.ifCond .eq 7, 3) := by decide +kernel
theorem dX12_twists_15 : decode cX12_twists 15 = .ok (.iload_n 2, 1) := by decide +kernel
theorem dX12_twists_16 : decode cX12_twists 16 = .ok (.goto 8, 3) := by decide +kernel
theorem dX12_twists_19 : decode cX12_twists 19 = .ok (.aload_n 0, 1) := by decide +kernel
theorem dX12_twists_20 : decode cX12_twists 20 = .ok (.iload_n 1, 1) := by decide +kernel
theorem dX12_twists_21 : decode cX12_twists 21 = .ok (.invokevirtual 471, 3) := by decide +kernel
theorem dX12_twists_24 : decode cX12_twists 24 = .ok (.ireturn, 1) := by decide +kernel
def wX12_twists (f : Nat) (Φ : Int → aj_M → Prop) (q0 : List Nat) (v1 : Int) (m : aj_M) : Prop := ∀ m1, m1 = aj_u m q0 0 0 → wX12_noWeighed f (fun z1 m2 => rI z1 ∧ (z1 = 0 → wX12_twistsOf f (fun z2 m3 => Φ z2 m3) q0 v1 m2) ∧ (¬ (z1 = 0) → Φ z1 m2)) q0 v1 m1
set_option maxHeartbeats 4000000 in
set_option maxRecDepth 100000 in
theorem sX12_twists {n f : Nat} {Φ : Int → aj_M → Prop} {q0 : List Nat} {v1 : Int} {m : aj_M} (hq0 : (.inl (12, q0) : aj_R) ∈ aj_pls) (h : wX12_twists f Φ q0 v1 m) : aj_Ct (n + 4) yX12_twists cX12_twists 3 (some .int) [vO 12 q0, vI v1] m (fun r m => ∃ z, r = some (vI z) ∧ Φ z m) := by
  refine aj_met (lv := [some (vO 12 q0), some (vI v1), none]) (by decide +kernel) rfl (Nat.le_of_ble_eq_true rfl) (fun X C K => ?_)
  unfold wX12_twists at h
  refine aj_aload_n C dX12_twists_0 rfl ?_
  refine aj_iconst C dX12_twists_1 ?_
  refine aj_putI C fpX12_1 hq0 rfl dX12_twists_2 ?_
  refine aj_nm (fun m1 e1 => ?_)
  have h := h m1 e1
  refine aj_aload_n C dX12_twists_5 rfl ?_
  refine aj_iload_n C dX12_twists_6 rfl ?_
  refine aj_callV (rest := []) C mvX12_468 (sX12_noWeighed hq0 h) hq0 (aj_np 1 (by decide +kernel) rfl) (Nat.le_of_ble_eq_true rfl) rfl dX12_twists_7 (fun r m2 h => ?_)
  obtain ⟨z1, rfl, h⟩ := h
  refine aj_istore_n (lv' := [some (vO 12 q0), some (vI v1), some (vI z1)]) C dX12_twists_10 (by decide) rfl ?_
  refine aj_iload_n C dX12_twists_11 rfl ?_
  obtain ⟨r0, h1, h2⟩ := h
  refine aj_if_eq (tgt := 19) C dX12_twists_12 (by decide) r0 (fun e => ?_) (fun e => ?_)
  · have h := h1 e
    refine aj_aload_n C dX12_twists_19 rfl ?_
    refine aj_iload_n C dX12_twists_20 rfl ?_
    refine aj_callV (rest := []) C mvX12_471 (sX12_twistsOf hq0 h) hq0 (aj_np 1 (by decide +kernel) rfl) (Nat.le_of_ble_eq_true rfl) rfl dX12_twists_21 (fun r m3 h => ?_)
    obtain ⟨z2, rfl, h⟩ := h
    exact aj_iret C K dX12_twists_24 ⟨_, rfl, h⟩
  · have h := h2 e
    refine aj_iload_n C dX12_twists_15 rfl ?_
    refine aj_goto (tgt := 24) C dX12_twists_16 (by decide) ?_
    exact aj_iret C K dX12_twists_24 ⟨_, rfl, h⟩
theorem dX12_mostAlike_0 : decode cX12_mostAlike 0 = .ok (.iconst 0, 1) := by decide +kernel
theorem dX12_mostAlike_1 : decode cX12_mostAlike 1 = .ok (.istore 4, 2) := by decide +kernel
theorem dX12_mostAlike_3 : decode cX12_mostAlike 3 = .ok (.iload 4, 2) := by decide +kernel
theorem dX12_mostAlike_5 : decode cX12_mostAlike 5 = .ok (.bipush 10, 2) := by decide +kernel
theorem dX12_mostAlike_7 : decode cX12_mostAlike 7 = .ok (.if_icmp .ge 24, 3) := by decide +kernel
theorem dX12_mostAlike_10 : decode cX12_mostAlike 10 = .ok (.aload_n 0, 1) := by decide +kernel
theorem dX12_mostAlike_11 : decode cX12_mostAlike 11 = .ok (.getfield 75, 3) := by decide +kernel
theorem dX12_mostAlike_14 : decode cX12_mostAlike 14 = .ok (.iload 4, 2) := by decide +kernel
theorem dX12_mostAlike_16 : decode cX12_mostAlike 16 = .ok (.aload_n 0, 1) := by decide +kernel
theorem dX12_mostAlike_17 : decode cX12_mostAlike 17 = .ok (.iload_n 2, 1) := by decide +kernel
theorem dX12_mostAlike_18 : decode cX12_mostAlike 18 = .ok (.iload_n 3, 1) := by decide +kernel
theorem dX12_mostAlike_19 : decode cX12_mostAlike 19 = .ok (.iload 4, 2) := by decide +kernel
theorem dX12_mostAlike_21 : decode cX12_mostAlike 21 = .ok (.invokevirtual 268, 3) := by decide +kernel
theorem dX12_mostAlike_24 : decode cX12_mostAlike 24 = .ok (.iastore, 1) := by decide +kernel
theorem dX12_mostAlike_25 : decode cX12_mostAlike 25 = .ok (.iinc 4 1, 3) := by decide +kernel
theorem dX12_mostAlike_28 : decode cX12_mostAlike 28 = .ok (.goto (-25), 3) := by decide +kernel
theorem dX12_mostAlike_31 : decode cX12_mostAlike 31 = .ok (.iconst 0, 1) := by decide +kernel
theorem dX12_mostAlike_32 : decode cX12_mostAlike 32 = .ok (.istore 4, 2) := by decide +kernel
theorem dX12_mostAlike_34 : decode cX12_mostAlike 34 = .ok (.iconst 0, 1) := by decide +kernel
theorem dX12_mostAlike_35 : decode cX12_mostAlike 35 = .ok (.istore 5, 2) := by decide +kernel
theorem dX12_mostAlike_37 : decode cX12_mostAlike 37 = .ok (.iload 5, 2) := by decide +kernel
theorem dX12_mostAlike_39 : decode cX12_mostAlike 39 = .ok (.bipush 10, 2) := by decide +kernel
theorem dX12_mostAlike_41 : decode cX12_mostAlike 41 = .ok (.if_icmp .ge 91, 3) := by decide +kernel
theorem dX12_mostAlike_44 : decode cX12_mostAlike 44 = .ok (.iconst 0, 1) := by decide +kernel
theorem dX12_mostAlike_45 : decode cX12_mostAlike 45 = .ok (.istore 6, 2) := by decide +kernel
theorem dX12_mostAlike_47 : decode cX12_mostAlike 47 = .ok (.iconst 0, 1) := by decide +kernel
theorem dX12_mostAlike_48 : decode cX12_mostAlike 48 = .ok (.istore 7, 2) := by decide +kernel
theorem dX12_mostAlike_50 : decode cX12_mostAlike 50 = .ok (.iload 7, 2) := by decide +kernel
theorem dX12_mostAlike_52 : decode cX12_mostAlike 52 = .ok (.bipush 10, 2) := by decide +kernel
theorem dX12_mostAlike_54 : decode cX12_mostAlike 54 = .ok (.if_icmp .ge 56, 3) := by decide +kernel
theorem dX12_mostAlike_57 : decode cX12_mostAlike 57 = .ok (.iload 6, 2) := by decide +kernel
theorem dX12_mostAlike_59 : decode cX12_mostAlike 59 = .ok (.iload_n 1, 1) := by decide +kernel
theorem dX12_mostAlike_60 : decode cX12_mostAlike 60 = .ok (.i2l, 1) := by decide +kernel
theorem dX12_mostAlike_61 : decode cX12_mostAlike 61 = .ok (.iload 5, 2) := by decide +kernel
theorem dX12_mostAlike_63 : decode cX12_mostAlike 63 = .ok (.invokestatic 274, 3) := by decide +kernel
theorem dX12_mostAlike_66 : decode cX12_mostAlike 66 = .ok (.ifCond .eq 34, 3) := by decide +kernel
theorem dX12_mostAlike_69 : decode cX12_mostAlike 69 = .ok (.iload_n 1, 1) := by decide +kernel
theorem dX12_mostAlike_70 : decode cX12_mostAlike 70 = .ok (.i2l, 1) := by decide +kernel
theorem dX12_mostAlike_71 : decode cX12_mostAlike 71 = .ok (.iload 7, 2) := by decide +kernel
theorem dX12_mostAlike_73 : decode cX12_mostAlike 73 = .ok (.invokestatic 274, 3) := by decide +kernel
theorem dX12_mostAlike_76 : decode cX12_mostAlike 76 = .ok (.ifCond .eq 24, 3) := by decide +kernel
theorem dX12_mostAlike_79 : decode cX12_mostAlike 79 = .ok (.aload_n 0, 1) := by decide +kernel
theorem dX12_mostAlike_80 : decode cX12_mostAlike 80 = .ok (.getfield 75, 3) := by decide +kernel
theorem dX12_mostAlike_83 : decode cX12_mostAlike 83 = .ok (.iload 5, 2) := by decide +kernel
theorem dX12_mostAlike_85 : decode cX12_mostAlike 85 = .ok (.iaload, 1) := by decide +kernel
theorem dX12_mostAlike_86 : decode cX12_mostAlike 86 = .ok (.aload_n 0, 1) := by decide +kernel
theorem dX12_mostAlike_87 : decode cX12_mostAlike 87 = .ok (.getfield 75, 3) := by decide +kernel
theorem dX12_mostAlike_90 : decode cX12_mostAlike 90 = .ok (.iload 7, 2) := by decide +kernel
theorem dX12_mostAlike_92 : decode cX12_mostAlike 92 = .ok (.iaload, 1) := by decide +kernel
theorem dX12_mostAlike_93 : decode cX12_mostAlike 93 = .ok (.if_icmp .ne 7, 3) := by decide +kernel
theorem dX12_mostAlike_96 : decode cX12_mostAlike 96 = .ok (.iconst 1, 1) := by decide +kernel
theorem dX12_mostAlike_97 : decode cX12_mostAlike 97 = .ok (.goto 4, 3) := by decide +kernel
theorem dX12_mostAlike_100 : decode cX12_mostAlike 100 = .ok (.iconst 0, 1) := by decide +kernel
theorem dX12_mostAlike_101 : decode cX12_mostAlike 101 = .ok (.iadd, 1) := by decide +kernel
theorem dX12_mostAlike_102 : decode cX12_mostAlike 102 = .ok (.istore 6, 2) := by decide +kernel
theorem dX12_mostAlike_104 : decode cX12_mostAlike 104 = .ok (.iinc 7 1, 3) := by decide +kernel
theorem dX12_mostAlike_107 : decode cX12_mostAlike 107 = .ok (.goto (-57), 3) := by decide +kernel
theorem dX12_mostAlike_110 : decode cX12_mostAlike 110 = .ok (.iload 6, 2) := by decide +kernel
theorem dX12_mostAlike_112 : decode cX12_mostAlike 112 = .ok (.iload 4, 2) := by decide +kernel
theorem dX12_mostAlike_114 : decode cX12_mostAlike 114 = .ok (.if_icmp .le 8, 3) := by decide +kernel
theorem dX12_mostAlike_117 : decode cX12_mostAlike 117 = .ok (.iload 6, 2) := by decide +kernel
theorem dX12_mostAlike_119 : decode cX12_mostAlike 119 = .ok (.goto 5, 3) := by decide +kernel
theorem dX12_mostAlike_122 : decode cX12_mostAlike 122 = .ok (.iload 4, 2) := by decide +kernel
theorem dX12_mostAlike_124 : decode cX12_mostAlike 124 = .ok (.istore 4, 2) := by decide +kernel
theorem dX12_mostAlike_126 : decode cX12_mostAlike 126 = .ok (.iinc 5 1, 3) := by decide +kernel
theorem dX12_mostAlike_129 : decode cX12_mostAlike 129 = .ok (.goto (-92), 3) := by decide +kernel
theorem dX12_mostAlike_132 : decode cX12_mostAlike 132 = .ok (.iload 4, 2) := by decide +kernel
theorem dX12_mostAlike_134 : decode cX12_mostAlike 134 = .ok (.ireturn, 1) := by decide +kernel
def hX12_mostAlike_50 (f : Nat) (Φ : Int → aj_M → Prop) (K37 : List Nat → Int → Int → Int → aj_M → Prop) : Nat → List Nat → Int → Int → Int → Int → Int → aj_M → Prop
  | 0, _, _, _, _, _, _, _ => False
  | k + 1, q0, v1, v4, v5, v6, v7, m => rI v7 ∧ (10 ≤ v7 → rI v6 ∧ rI v4 ∧ (v6 ≤ v4 → K37 q0 v1 v4 (v5 + 1) m) ∧ (¬ (v6 ≤ v4) → K37 q0 v1 v6 (v5 + 1) m)) ∧ (¬ (10 ≤ v7) → rI v1 ∧ wX12_isIn f (fun z1 m1 => rI z1 ∧ (z1 = 0 → hX12_mostAlike_50 f Φ K37 k q0 v1 v4 v5 (v6 + 0) (v7 + 1) m1) ∧ (¬ (z1 = 0) → rI v1 ∧ wX12_isIn f (fun z2 m2 => rI z2 ∧ (z2 = 0 → hX12_mostAlike_50 f Φ K37 k q0 v1 v4 v5 (v6 + 0) (v7 + 1) m2) ∧ (¬ (z2 = 0) → (0 ≤ v5 ∧ v5 < 10) ∧ (0 ≤ v7 ∧ v7 < 10) ∧ rI (m2 (41 :: q0) v5.toNat) ∧ rI (m2 (41 :: q0) v7.toNat) ∧ (¬ (m2 (41 :: q0) v5.toNat) = (m2 (41 :: q0) v7.toNat) → hX12_mostAlike_50 f Φ K37 k q0 v1 v4 v5 (v6 + 0) (v7 + 1) m2) ∧ ((m2 (41 :: q0) v5.toNat) = (m2 (41 :: q0) v7.toNat) → hX12_mostAlike_50 f Φ K37 k q0 v1 v4 v5 (v6 + 1) (v7 + 1) m2))) v1 v7 m1)) v1 v5 m)
set_option maxHeartbeats 4000000 in
set_option maxRecDepth 100000 in
theorem tX12_mostAlike_50 {X : aj_T} {n f : Nat} {Φ : Int → aj_M → Prop} (C : aj_Cx X cX12_mostAlike RX12 8 (n + 3)) (K : aj_Rt X (some .int) (fun r m => ∃ z, r = some (vI z) ∧ Φ z m)) {K37 : List Nat → Int → Int → Int → aj_M → Prop} (HK37 : ∀ (q0 : List Nat) (v1 : Int) (v4 : Int) (v5 : Int) (m : aj_M) (hq0 : (.inl (12, q0) : aj_R) ∈ aj_pls), K37 q0 v1 v4 v5 m → aj_J X 37 [some (vO 12 q0), some (vI v1), none, none, some (vI v4), some (vI v5), none, none] [] m) : ∀ (k : Nat) (q0 : List Nat) (v1 : Int) (v4 : Int) (v5 : Int) (v6 : Int) (v7 : Int) (m : aj_M) (hq0 : (.inl (12, q0) : aj_R) ∈ aj_pls), hX12_mostAlike_50 f Φ K37 k q0 v1 v4 v5 v6 v7 m → aj_J X 50 [some (vO 12 q0), some (vI v1), none, none, some (vI v4), some (vI v5), some (vI v6), some (vI v7)] [] m := by
  intro k
  induction k with
  | zero =>
    intro q0 v1 v4 v5 v6 v7 m _ h
    exact h.elim
  | succ k ih =>
    intro q0 v1 v4 v5 v6 v7 m hq0 h
    unfold hX12_mostAlike_50 at h
    refine aj_iload C dX12_mostAlike_50 rfl ?_
    refine aj_bipush C dX12_mostAlike_52 (by decide) ?_
    obtain ⟨r0, h1, h2⟩ := h
    refine aj_icmp_ge (tgt := 110) C dX12_mostAlike_54 (by decide) r0 (by decide) (fun e => ?_) (fun e => ?_)
    · have h := h1 e
      refine aj_iload C dX12_mostAlike_110 rfl ?_
      refine aj_iload C dX12_mostAlike_112 rfl ?_
      obtain ⟨r0, r1, h1, h2⟩ := h
      refine aj_icmp_le (tgt := 122) C dX12_mostAlike_114 (by decide) r0 r1 (fun e => ?_) (fun e => ?_)
      · have h := h1 e
        refine aj_iload C dX12_mostAlike_122 rfl ?_
        refine aj_istore (lv' := [some (vO 12 q0), some (vI v1), none, none, some (vI v4), some (vI v5), some (vI v6), some (vI v7)]) C dX12_mostAlike_124 (by decide) rfl ?_
        refine aj_iinc (lv' := [some (vO 12 q0), some (vI v1), none, none, some (vI v4), some (vI (v5 + 1)), some (vI v6), some (vI v7)]) C dX12_mostAlike_126 rfl (by decide) rfl ?_
        refine aj_goto (tgt := 37) C dX12_mostAlike_129 (by decide) ?_
        refine aj_wk (lv' := [some (vO 12 q0), some (vI v1), none, none, some (vI v4), some (vI (v5 + 1)), none, none]) (⟨rfl, ⟨rfl, ⟨rfl, ⟨rfl, trivial⟩⟩⟩⟩) ?_
        exact HK37 q0 v1 v4 (v5 + 1) _ hq0 h
      · have h := h2 e
        refine aj_iload C dX12_mostAlike_117 rfl ?_
        refine aj_goto (tgt := 124) C dX12_mostAlike_119 (by decide) ?_
        refine aj_istore (lv' := [some (vO 12 q0), some (vI v1), none, none, some (vI v6), some (vI v5), some (vI v6), some (vI v7)]) C dX12_mostAlike_124 (by decide) rfl ?_
        refine aj_iinc (lv' := [some (vO 12 q0), some (vI v1), none, none, some (vI v6), some (vI (v5 + 1)), some (vI v6), some (vI v7)]) C dX12_mostAlike_126 rfl (by decide) rfl ?_
        refine aj_goto (tgt := 37) C dX12_mostAlike_129 (by decide) ?_
        refine aj_wk (lv' := [some (vO 12 q0), some (vI v1), none, none, some (vI v6), some (vI (v5 + 1)), none, none]) (⟨rfl, ⟨rfl, ⟨rfl, ⟨rfl, trivial⟩⟩⟩⟩) ?_
        exact HK37 q0 v1 v6 (v5 + 1) _ hq0 h
    · have h := h2 e
      refine aj_iload C dX12_mostAlike_57 rfl ?_
      refine aj_iload_n C dX12_mostAlike_59 rfl ?_
      obtain ⟨r0, h⟩ := h
      refine aj_i2l C dX12_mostAlike_60 r0 ?_
      refine aj_iload C dX12_mostAlike_61 rfl ?_
      refine aj_callS (rest := [vI v6]) C msX12_274 (sX12_isIn  h) (aj_np 2 (by decide +kernel) rfl) (Nat.le_of_ble_eq_true rfl) rfl dX12_mostAlike_63 (fun r m1 h => ?_)
      obtain ⟨z1, rfl, h⟩ := h
      obtain ⟨r0, h1, h2⟩ := h
      refine aj_if_eq (tgt := 100) C dX12_mostAlike_66 (by decide) r0 (fun e => ?_) (fun e => ?_)
      · have h := h1 e
        refine aj_iconst C dX12_mostAlike_100 ?_
        refine aj_iadd C dX12_mostAlike_101 ?_
        refine aj_istore (lv' := [some (vO 12 q0), some (vI v1), none, none, some (vI v4), some (vI v5), some (vI (v6 + 0)), some (vI v7)]) C dX12_mostAlike_102 (by decide) rfl ?_
        refine aj_iinc (lv' := [some (vO 12 q0), some (vI v1), none, none, some (vI v4), some (vI v5), some (vI (v6 + 0)), some (vI (v7 + 1))]) C dX12_mostAlike_104 rfl (by decide) rfl ?_
        refine aj_goto (tgt := 50) C dX12_mostAlike_107 (by decide) ?_
        exact ih q0 v1 v4 v5 (v6 + 0) (v7 + 1) _ hq0 h
      · have h := h2 e
        refine aj_iload_n C dX12_mostAlike_69 rfl ?_
        obtain ⟨r0, h⟩ := h
        refine aj_i2l C dX12_mostAlike_70 r0 ?_
        refine aj_iload C dX12_mostAlike_71 rfl ?_
        refine aj_callS (rest := [vI v6]) C msX12_274 (sX12_isIn  h) (aj_np 2 (by decide +kernel) rfl) (Nat.le_of_ble_eq_true rfl) rfl dX12_mostAlike_73 (fun r m2 h => ?_)
        obtain ⟨z2, rfl, h⟩ := h
        obtain ⟨r0, h1, h2⟩ := h
        refine aj_if_eq (tgt := 100) C dX12_mostAlike_76 (by decide) r0 (fun e => ?_) (fun e => ?_)
        · have h := h1 e
          refine aj_iconst C dX12_mostAlike_100 ?_
          refine aj_iadd C dX12_mostAlike_101 ?_
          refine aj_istore (lv' := [some (vO 12 q0), some (vI v1), none, none, some (vI v4), some (vI v5), some (vI (v6 + 0)), some (vI v7)]) C dX12_mostAlike_102 (by decide) rfl ?_
          refine aj_iinc (lv' := [some (vO 12 q0), some (vI v1), none, none, some (vI v4), some (vI v5), some (vI (v6 + 0)), some (vI (v7 + 1))]) C dX12_mostAlike_104 rfl (by decide) rfl ?_
          refine aj_goto (tgt := 50) C dX12_mostAlike_107 (by decide) ?_
          exact ih q0 v1 v4 v5 (v6 + 0) (v7 + 1) _ hq0 h
        · have h := h2 e
          refine aj_aload_n C dX12_mostAlike_79 rfl ?_
          refine aj_getA (x := 0) (y := 10) C flX12_75 hq0 rfl dX12_mostAlike_80 ?_
          refine aj_iload C dX12_mostAlike_83 rfl ?_
          obtain ⟨r0, h⟩ := h
          refine aj_iald C (aj_ca (e := 0) (n := 10) (j := 41) hq0 (by decide) rfl) (by decide) r0 dX12_mostAlike_85 rfl ?_
          refine aj_aload_n C dX12_mostAlike_86 rfl ?_
          refine aj_getA (x := 0) (y := 10) C flX12_75 hq0 rfl dX12_mostAlike_87 ?_
          refine aj_iload C dX12_mostAlike_90 rfl ?_
          obtain ⟨r0, h⟩ := h
          refine aj_iald C (aj_ca (e := 0) (n := 10) (j := 41) hq0 (by decide) rfl) (by decide) r0 dX12_mostAlike_92 rfl ?_
          obtain ⟨r0, r1, h1, h2⟩ := h
          refine aj_icmp_ne (tgt := 100) C dX12_mostAlike_93 (by decide) r0 r1 (fun e => ?_) (fun e => ?_)
          · have h := h1 e
            refine aj_iconst C dX12_mostAlike_100 ?_
            refine aj_iadd C dX12_mostAlike_101 ?_
            refine aj_istore (lv' := [some (vO 12 q0), some (vI v1), none, none, some (vI v4), some (vI v5), some (vI (v6 + 0)), some (vI v7)]) C dX12_mostAlike_102 (by decide) rfl ?_
            refine aj_iinc (lv' := [some (vO 12 q0), some (vI v1), none, none, some (vI v4), some (vI v5), some (vI (v6 + 0)), some (vI (v7 + 1))]) C dX12_mostAlike_104 rfl (by decide) rfl ?_
            refine aj_goto (tgt := 50) C dX12_mostAlike_107 (by decide) ?_
            exact ih q0 v1 v4 v5 (v6 + 0) (v7 + 1) _ hq0 h
          · have h := h2 e
            refine aj_iconst C dX12_mostAlike_96 ?_
            refine aj_goto (tgt := 101) C dX12_mostAlike_97 (by decide) ?_
            refine aj_iadd C dX12_mostAlike_101 ?_
            refine aj_istore (lv' := [some (vO 12 q0), some (vI v1), none, none, some (vI v4), some (vI v5), some (vI (v6 + 1)), some (vI v7)]) C dX12_mostAlike_102 (by decide) rfl ?_
            refine aj_iinc (lv' := [some (vO 12 q0), some (vI v1), none, none, some (vI v4), some (vI v5), some (vI (v6 + 1)), some (vI (v7 + 1))]) C dX12_mostAlike_104 rfl (by decide) rfl ?_
            refine aj_goto (tgt := 50) C dX12_mostAlike_107 (by decide) ?_
            exact ih q0 v1 v4 v5 (v6 + 1) (v7 + 1) _ hq0 h
def hX12_mostAlike_37 (f : Nat) (Φ : Int → aj_M → Prop) : Nat → List Nat → Int → Int → Int → aj_M → Prop
  | 0, _, _, _, _, _ => False
  | k + 1, q0, v1, v4, v5, m => rI v5 ∧ (10 ≤ v5 → Φ v4 m) ∧ (¬ (10 ≤ v5) → hX12_mostAlike_50 f Φ (fun q0 v1 v4 v5 m => hX12_mostAlike_37 f Φ k q0 v1 v4 v5 m) f q0 v1 v4 v5 0 0 m)
set_option maxHeartbeats 4000000 in
set_option maxRecDepth 100000 in
theorem tX12_mostAlike_37 {X : aj_T} {n f : Nat} {Φ : Int → aj_M → Prop} (C : aj_Cx X cX12_mostAlike RX12 8 (n + 3)) (K : aj_Rt X (some .int) (fun r m => ∃ z, r = some (vI z) ∧ Φ z m)) : ∀ (k : Nat) (q0 : List Nat) (v1 : Int) (v4 : Int) (v5 : Int) (m : aj_M) (hq0 : (.inl (12, q0) : aj_R) ∈ aj_pls), hX12_mostAlike_37 f Φ k q0 v1 v4 v5 m → aj_J X 37 [some (vO 12 q0), some (vI v1), none, none, some (vI v4), some (vI v5), none, none] [] m := by
  intro k
  induction k with
  | zero =>
    intro q0 v1 v4 v5 m _ h
    exact h.elim
  | succ k ih =>
    intro q0 v1 v4 v5 m hq0 h
    unfold hX12_mostAlike_37 at h
    refine aj_iload C dX12_mostAlike_37 rfl ?_
    refine aj_bipush C dX12_mostAlike_39 (by decide) ?_
    obtain ⟨r0, h1, h2⟩ := h
    refine aj_icmp_ge (tgt := 132) C dX12_mostAlike_41 (by decide) r0 (by decide) (fun e => ?_) (fun e => ?_)
    · have h := h1 e
      refine aj_iload C dX12_mostAlike_132 rfl ?_
      exact aj_iret C K dX12_mostAlike_134 ⟨_, rfl, h⟩
    · have h := h2 e
      refine aj_iconst C dX12_mostAlike_44 ?_
      refine aj_istore (lv' := [some (vO 12 q0), some (vI v1), none, none, some (vI v4), some (vI v5), some (vI 0), none]) C dX12_mostAlike_45 (by decide) rfl ?_
      refine aj_iconst C dX12_mostAlike_47 ?_
      refine aj_istore (lv' := [some (vO 12 q0), some (vI v1), none, none, some (vI v4), some (vI v5), some (vI 0), some (vI 0)]) C dX12_mostAlike_48 (by decide) rfl ?_
      exact tX12_mostAlike_50 C K (fun q0 v1 v4 v5 m hq0 hh => ih q0 v1 v4 v5 m hq0 hh) f q0 v1 v4 v5 0 0 _ hq0 h
def hX12_mostAlike_3 (f : Nat) (Φ : Int → aj_M → Prop) : Nat → List Nat → Int → Int → Int → Int → aj_M → Prop
  | 0, _, _, _, _, _, _ => False
  | k + 1, q0, v1, v2, v3, v4, m => rI v4 ∧ (10 ≤ v4 → hX12_mostAlike_37 f Φ f q0 v1 0 0 m) ∧ (¬ (10 ≤ v4) → wX12_weightOf f (fun z1 m1 => (0 ≤ v4 ∧ v4 < 10) ∧ ∀ m2, m2 = aj_u m1 (41 :: q0) v4.toNat z1 → hX12_mostAlike_3 f Φ k q0 v1 v2 v3 (v4 + 1) m2) q0 v2 v3 v4 m)
set_option maxHeartbeats 4000000 in
set_option maxRecDepth 100000 in
theorem tX12_mostAlike_3 {X : aj_T} {n f : Nat} {Φ : Int → aj_M → Prop} (C : aj_Cx X cX12_mostAlike RX12 8 (n + 3)) (K : aj_Rt X (some .int) (fun r m => ∃ z, r = some (vI z) ∧ Φ z m)) : ∀ (k : Nat) (q0 : List Nat) (v1 : Int) (v2 : Int) (v3 : Int) (v4 : Int) (m : aj_M) (hq0 : (.inl (12, q0) : aj_R) ∈ aj_pls), hX12_mostAlike_3 f Φ k q0 v1 v2 v3 v4 m → aj_J X 3 [some (vO 12 q0), some (vI v1), some (vI v2), some (vI v3), some (vI v4), none, none, none] [] m := by
  intro k
  induction k with
  | zero =>
    intro q0 v1 v2 v3 v4 m _ h
    exact h.elim
  | succ k ih =>
    intro q0 v1 v2 v3 v4 m hq0 h
    unfold hX12_mostAlike_3 at h
    refine aj_iload C dX12_mostAlike_3 rfl ?_
    refine aj_bipush C dX12_mostAlike_5 (by decide) ?_
    obtain ⟨r0, h1, h2⟩ := h
    refine aj_icmp_ge (tgt := 31) C dX12_mostAlike_7 (by decide) r0 (by decide) (fun e => ?_) (fun e => ?_)
    · have h := h1 e
      refine aj_iconst C dX12_mostAlike_31 ?_
      refine aj_istore (lv' := [some (vO 12 q0), some (vI v1), some (vI v2), some (vI v3), some (vI 0), none, none, none]) C dX12_mostAlike_32 (by decide) rfl ?_
      refine aj_iconst C dX12_mostAlike_34 ?_
      refine aj_istore (lv' := [some (vO 12 q0), some (vI v1), some (vI v2), some (vI v3), some (vI 0), some (vI 0), none, none]) C dX12_mostAlike_35 (by decide) rfl ?_
      refine aj_wk (lv' := [some (vO 12 q0), some (vI v1), none, none, some (vI 0), some (vI 0), none, none]) (⟨rfl, ⟨rfl, ⟨rfl, ⟨rfl, trivial⟩⟩⟩⟩) ?_
      exact tX12_mostAlike_37 C K f q0 v1 0 0 _ hq0 h
    · have h := h2 e
      refine aj_aload_n C dX12_mostAlike_10 rfl ?_
      refine aj_getA (x := 0) (y := 10) C flX12_75 hq0 rfl dX12_mostAlike_11 ?_
      refine aj_iload C dX12_mostAlike_14 rfl ?_
      refine aj_aload_n C dX12_mostAlike_16 rfl ?_
      refine aj_iload_n C dX12_mostAlike_17 rfl ?_
      refine aj_iload_n C dX12_mostAlike_18 rfl ?_
      refine aj_iload C dX12_mostAlike_19 rfl ?_
      refine aj_callV (rest := [vI v4, vA 0 10 (41 :: q0)]) C mvX12_268 (sX12_weightOf hq0 h) hq0 (aj_np 3 (by decide +kernel) rfl) (Nat.le_of_ble_eq_true rfl) rfl dX12_mostAlike_21 (fun r m1 h => ?_)
      obtain ⟨z1, rfl, h⟩ := h
      obtain ⟨r0, h⟩ := h
      refine aj_iast C (aj_ca (e := 0) (n := 10) (j := 41) hq0 (by decide) rfl) (by decide) r0 dX12_mostAlike_24 ?_
      refine aj_nm (fun m2 e1 => ?_)
      have h := h m2 e1
      refine aj_iinc (lv' := [some (vO 12 q0), some (vI v1), some (vI v2), some (vI v3), some (vI (v4 + 1)), none, none, none]) C dX12_mostAlike_25 rfl (by decide) rfl ?_
      refine aj_goto (tgt := 3) C dX12_mostAlike_28 (by decide) ?_
      exact ih q0 v1 v2 v3 (v4 + 1) _ hq0 h
def wX12_mostAlike (f : Nat) (Φ : Int → aj_M → Prop) (q0 : List Nat) (v1 : Int) (v2 : Int) (v3 : Int) (m : aj_M) : Prop := hX12_mostAlike_3 f Φ f q0 v1 v2 v3 0 m
set_option maxHeartbeats 4000000 in
set_option maxRecDepth 100000 in
theorem sX12_mostAlike {n f : Nat} {Φ : Int → aj_M → Prop} {q0 : List Nat} {v1 : Int} {v2 : Int} {v3 : Int} {m : aj_M} (hq0 : (.inl (12, q0) : aj_R) ∈ aj_pls) (h : wX12_mostAlike f Φ q0 v1 v2 v3 m) : aj_Ct (n + 3) yX12_mostAlike cX12_mostAlike 8 (some .int) [vO 12 q0, vI v1, vI v2, vI v3] m (fun r m => ∃ z, r = some (vI z) ∧ Φ z m) := by
  refine aj_met (lv := [some (vO 12 q0), some (vI v1), some (vI v2), some (vI v3), none, none, none, none]) (by decide +kernel) rfl (Nat.le_of_ble_eq_true rfl) (fun X C K => ?_)
  unfold wX12_mostAlike at h
  refine aj_iconst C dX12_mostAlike_0 ?_
  refine aj_istore (lv' := [some (vO 12 q0), some (vI v1), some (vI v2), some (vI v3), some (vI 0), none, none, none]) C dX12_mostAlike_1 (by decide) rfl ?_
  exact tX12_mostAlike_3 C K f q0 v1 v2 v3 0 _ hq0 h
theorem dX12_weigh_0 : decode cX12_weigh 0 = .ok (.aload_n 0, 1) := by decide +kernel
theorem dX12_weigh_1 : decode cX12_weigh 1 = .ok (.iconst 0, 1) := by decide +kernel
theorem dX12_weigh_2 : decode cX12_weigh 2 = .ok (.putfield 1, 3) := by decide +kernel
theorem dX12_weigh_5 : decode cX12_weigh 5 = .ok (.aload_n 0, 1) := by decide +kernel
theorem dX12_weigh_6 : decode cX12_weigh 6 = .ok (.iload_n 1, 1) := by decide +kernel
theorem dX12_weigh_7 : decode cX12_weigh 7 = .ok (.invokevirtual 468, 3) := by decide +kernel
theorem dX12_weigh_10 : decode cX12_weigh 10 = .ok (.istore_n 2, 1) := by decide +kernel
theorem dX12_weigh_11 : decode cX12_weigh 11 = .ok (.iload_n 2, 1) := by decide +kernel
theorem dX12_weigh_12 : decode cX12_weigh 12 = .ok (.ifCond .eq 5, 3) := by decide +kernel
theorem dX12_weigh_15 : decode cX12_weigh 15 = .ok (.iload_n 2, 1) := by decide +kernel
theorem dX12_weigh_16 : decode cX12_weigh 16 = .ok (.ireturn, 1) := by decide +kernel
theorem dX12_weigh_17 : decode cX12_weigh 17 = .ok (.aload_n 0, 1) := by decide +kernel
theorem dX12_weigh_18 : decode cX12_weigh 18 = .ok (.iload_n 1, 1) := by decide +kernel
theorem dX12_weigh_19 : decode cX12_weigh 19 = .ok (.invokevirtual 471, 3) := by decide +kernel
theorem dX12_weigh_22 : decode cX12_weigh 22 = .ok (.istore_n 3, 1) := by decide +kernel
theorem dX12_weigh_23 : decode cX12_weigh 23 = .ok (.iconst (-1), 1) := by decide +kernel
theorem dX12_weigh_24 : decode cX12_weigh 24 = .ok (.istore 4, 2) := by decide +kernel
theorem dX12_weigh_26 : decode cX12_weigh 26 = .ok (.ldc_w 281, 3) := by decide +kernel
theorem dX12_weigh_29 : decode cX12_weigh 29 = .ok (.istore 5, 2) := by decide +kernel
theorem dX12_weigh_31 : decode cX12_weigh 31 = .ok (.iconst 0, 1) := by decide +kernel
theorem dX12_weigh_32 : decode cX12_weigh 32 = .ok (.istore 6, 2) := by decide +kernel
theorem dX12_weigh_34 : decode cX12_weigh 34 = .ok (.iload 6, 2) := by decide +kernel
theorem dX12_weigh_36 : decode cX12_weigh 36 = .ok (.aload_n 0, 1) := by decide +kernel
theorem dX12_weigh_37 : decode cX12_weigh 37 = .ok (.getfield 13, 3) := by decide +kernel
theorem dX12_weigh_40 : decode cX12_weigh 40 = .ok (.bipush 6, 2) := by decide +kernel
theorem dX12_weigh_42 : decode cX12_weigh 42 = .ok (.iaload, 1) := by decide +kernel
theorem dX12_weigh_43 : decode cX12_weigh 43 = .ok (.if_icmp .ge 68, 3) := by decide +kernel
theorem dX12_weigh_46 : decode cX12_weigh 46 = .ok (.iload_n 3, 1) := by decide +kernel
theorem dX12_weigh_47 : decode cX12_weigh 47 = .ok (.ifCond .eq 64, 3) := by decide +kernel
theorem dX12_weigh_50 : decode cX12_weigh 50 = .ok (.iconst 0, 1) := by decide +kernel
theorem dX12_weigh_51 : decode cX12_weigh 51 = .ok (.istore 7, 2) := by decide +kernel
theorem dX12_weigh_53 : decode cX12_weigh 53 = .ok (.iload 7, 2) := by decide +kernel
theorem dX12_weigh_55 : decode cX12_weigh 55 = .ok (.aload_n 0, 1) := by decide +kernel
theorem dX12_weigh_56 : decode cX12_weigh 56 = .ok (.getfield 13, 3) := by decide +kernel
theorem dX12_weigh_59 : decode cX12_weigh 59 = .ok (.iconst 4, 1) := by decide +kernel
theorem dX12_weigh_60 : decode cX12_weigh 60 = .ok (.iaload, 1) := by decide +kernel
theorem dX12_weigh_61 : decode cX12_weigh 61 = .ok (.if_icmp .ge 44, 3) := by decide +kernel
theorem dX12_weigh_64 : decode cX12_weigh 64 = .ok (.aload_n 0, 1) := by decide +kernel
theorem dX12_weigh_65 : decode cX12_weigh 65 = .ok (.iload_n 3, 1) := by decide +kernel
theorem dX12_weigh_66 : decode cX12_weigh 66 = .ok (.iload 6, 2) := by decide +kernel
theorem dX12_weigh_68 : decode cX12_weigh 68 = .ok (.iload 7, 2) := by decide +kernel
theorem dX12_weigh_70 : decode cX12_weigh 70 = .ok (.invokevirtual 474, 3) := by decide +kernel
theorem dX12_weigh_73 : decode cX12_weigh 73 = .ok (.istore 8, 2) := by decide +kernel
theorem dX12_weigh_75 : decode cX12_weigh 75 = .ok (.iload 8, 2) := by decide +kernel
theorem dX12_weigh_77 : decode cX12_weigh 77 = .ok (.iload 5, 2) := by decide +kernel
theorem dX12_weigh_79 : decode cX12_weigh 79 = .ok (.if_icmp .lt 6, 3) := by decide +kernel
theorem dX12_weigh_82 : decode cX12_weigh 82 = .ok (.goto 17, 3) := by decide +kernel
theorem dX12_weigh_85 : decode cX12_weigh 85 = .ok (.bipush 100, 2) := by decide +kernel
theorem dX12_weigh_87 : decode cX12_weigh 87 = .ok (.iload 6, 2) := by decide +kernel
theorem dX12_weigh_89 : decode cX12_weigh 89 = .ok (.imul, 1) := by decide +kernel
theorem dX12_weigh_90 : decode cX12_weigh 90 = .ok (.iload 7, 2) := by decide +kernel
theorem dX12_weigh_92 : decode cX12_weigh 92 = .ok (.iadd, 1) := by decide +kernel
theorem dX12_weigh_93 : decode cX12_weigh 93 = .ok (.istore 4, 2) := by decide +kernel
theorem dX12_weigh_95 : decode cX12_weigh 95 = .ok (.iload 8, 2) := by decide +kernel
theorem dX12_weigh_97 : decode cX12_weigh 97 = .ok (.istore 5, 2) := by decide +kernel
theorem dX12_weigh_99 : decode cX12_weigh 99 = .ok (.iinc 7 1, 3) := by decide +kernel
theorem dX12_weigh_102 : decode cX12_weigh 102 = .ok (.goto (-49), 3) := by decide +kernel
theorem dX12_weigh_105 : decode cX12_weigh 105 = .ok (.iinc 6 1, 3) := by decide +kernel
theorem dX12_weigh_108 : decode cX12_weigh 108 = .ok (.goto (-74), 3) := by decide +kernel
theorem dX12_weigh_111 : decode cX12_weigh 111 = .ok (.iload 4, 2) := by decide +kernel
theorem dX12_weigh_113 : decode cX12_weigh 113 = .ok (.ireturn, 1) := by decide +kernel
def hX12_weigh_53 (f : Nat) (Φ : Int → aj_M → Prop) (K34 : List Nat → Int → Int → Int → Int → aj_M → Prop) : Nat → List Nat → Int → Int → Int → Int → Int → aj_M → Prop
  | 0, _, _, _, _, _, _, _ => False
  | k + 1, q0, v3, v4, v5, v6, v7, m => rI v7 ∧ rI (m (1 :: q0) (4 : Int).toNat) ∧ ((m (1 :: q0) (4 : Int).toNat) ≤ v7 → K34 q0 v3 v4 v5 (v6 + 1) m) ∧ (¬ ((m (1 :: q0) (4 : Int).toNat) ≤ v7) → wX12_mostAlike f (fun z1 m1 => rI z1 ∧ rI v5 ∧ (z1 < v5 → hX12_weigh_53 f Φ K34 k q0 v3 ((100 * v6) + v7) z1 v6 (v7 + 1) m1) ∧ (¬ (z1 < v5) → hX12_weigh_53 f Φ K34 k q0 v3 v4 v5 v6 (v7 + 1) m1)) q0 v3 v6 v7 m)
set_option maxHeartbeats 4000000 in
set_option maxRecDepth 100000 in
theorem tX12_weigh_53 {X : aj_T} {n f : Nat} {Φ : Int → aj_M → Prop} (C : aj_Cx X cX12_weigh RX12 9 (n + 4)) (K : aj_Rt X (some .int) (fun r m => ∃ z, r = some (vI z) ∧ Φ z m)) {K34 : List Nat → Int → Int → Int → Int → aj_M → Prop} (HK34 : ∀ (q0 : List Nat) (v3 : Int) (v4 : Int) (v5 : Int) (v6 : Int) (m : aj_M) (hq0 : (.inl (12, q0) : aj_R) ∈ aj_pls), K34 q0 v3 v4 v5 v6 m → aj_J X 34 [some (vO 12 q0), none, none, some (vI v3), some (vI v4), some (vI v5), some (vI v6), none, none] [] m) : ∀ (k : Nat) (q0 : List Nat) (v3 : Int) (v4 : Int) (v5 : Int) (v6 : Int) (v7 : Int) (m : aj_M) (hq0 : (.inl (12, q0) : aj_R) ∈ aj_pls), hX12_weigh_53 f Φ K34 k q0 v3 v4 v5 v6 v7 m → aj_J X 53 [some (vO 12 q0), none, none, some (vI v3), some (vI v4), some (vI v5), some (vI v6), some (vI v7), none] [] m := by
  intro k
  induction k with
  | zero =>
    intro q0 v3 v4 v5 v6 v7 m _ h
    exact h.elim
  | succ k ih =>
    intro q0 v3 v4 v5 v6 v7 m hq0 h
    unfold hX12_weigh_53 at h
    refine aj_iload C dX12_weigh_53 rfl ?_
    refine aj_aload_n C dX12_weigh_55 rfl ?_
    refine aj_getA (x := 0) (y := 3315) C flX12_13 hq0 rfl dX12_weigh_56 ?_
    refine aj_iconst C dX12_weigh_59 ?_
    refine aj_iald C (aj_ca (e := 0) (n := 3315) (j := 1) hq0 (by decide) rfl) (by decide) (by decide) dX12_weigh_60 rfl ?_
    obtain ⟨r0, r1, h1, h2⟩ := h
    refine aj_icmp_ge (tgt := 105) C dX12_weigh_61 (by decide) r0 r1 (fun e => ?_) (fun e => ?_)
    · have h := h1 e
      refine aj_iinc (lv' := [some (vO 12 q0), none, none, some (vI v3), some (vI v4), some (vI v5), some (vI (v6 + 1)), some (vI v7), none]) C dX12_weigh_105 rfl (by decide) rfl ?_
      refine aj_goto (tgt := 34) C dX12_weigh_108 (by decide) ?_
      refine aj_wk (lv' := [some (vO 12 q0), none, none, some (vI v3), some (vI v4), some (vI v5), some (vI (v6 + 1)), none, none]) (⟨rfl, ⟨rfl, ⟨rfl, ⟨rfl, ⟨rfl, trivial⟩⟩⟩⟩⟩) ?_
      exact HK34 q0 v3 v4 v5 (v6 + 1) _ hq0 h
    · have h := h2 e
      refine aj_aload_n C dX12_weigh_64 rfl ?_
      refine aj_iload_n C dX12_weigh_65 rfl ?_
      refine aj_iload C dX12_weigh_66 rfl ?_
      refine aj_iload C dX12_weigh_68 rfl ?_
      refine aj_callV (rest := []) C mvX12_474 (sX12_mostAlike hq0 h) hq0 (aj_np 3 (by decide +kernel) rfl) (Nat.le_of_ble_eq_true rfl) rfl dX12_weigh_70 (fun r m1 h => ?_)
      obtain ⟨z1, rfl, h⟩ := h
      refine aj_istore (lv' := [some (vO 12 q0), none, none, some (vI v3), some (vI v4), some (vI v5), some (vI v6), some (vI v7), some (vI z1)]) C dX12_weigh_73 (by decide) rfl ?_
      refine aj_iload C dX12_weigh_75 rfl ?_
      refine aj_iload C dX12_weigh_77 rfl ?_
      obtain ⟨r0, r1, h1, h2⟩ := h
      refine aj_icmp_lt (tgt := 85) C dX12_weigh_79 (by decide) r0 r1 (fun e => ?_) (fun e => ?_)
      · have h := h1 e
        refine aj_bipush C dX12_weigh_85 (by decide) ?_
        refine aj_iload C dX12_weigh_87 rfl ?_
        refine aj_imul C dX12_weigh_89 ?_
        refine aj_iload C dX12_weigh_90 rfl ?_
        refine aj_iadd C dX12_weigh_92 ?_
        refine aj_istore (lv' := [some (vO 12 q0), none, none, some (vI v3), some (vI ((100 * v6) + v7)), some (vI v5), some (vI v6), some (vI v7), some (vI z1)]) C dX12_weigh_93 (by decide) rfl ?_
        refine aj_iload C dX12_weigh_95 rfl ?_
        refine aj_istore (lv' := [some (vO 12 q0), none, none, some (vI v3), some (vI ((100 * v6) + v7)), some (vI z1), some (vI v6), some (vI v7), some (vI z1)]) C dX12_weigh_97 (by decide) rfl ?_
        refine aj_iinc (lv' := [some (vO 12 q0), none, none, some (vI v3), some (vI ((100 * v6) + v7)), some (vI z1), some (vI v6), some (vI (v7 + 1)), some (vI z1)]) C dX12_weigh_99 rfl (by decide) rfl ?_
        refine aj_goto (tgt := 53) C dX12_weigh_102 (by decide) ?_
        refine aj_wk (lv' := [some (vO 12 q0), none, none, some (vI v3), some (vI ((100 * v6) + v7)), some (vI z1), some (vI v6), some (vI (v7 + 1)), none]) (⟨rfl, ⟨rfl, ⟨rfl, ⟨rfl, ⟨rfl, ⟨rfl, trivial⟩⟩⟩⟩⟩⟩) ?_
        exact ih q0 v3 ((100 * v6) + v7) z1 v6 (v7 + 1) _ hq0 h
      · have h := h2 e
        refine aj_goto (tgt := 99) C dX12_weigh_82 (by decide) ?_
        refine aj_iinc (lv' := [some (vO 12 q0), none, none, some (vI v3), some (vI v4), some (vI v5), some (vI v6), some (vI (v7 + 1)), some (vI z1)]) C dX12_weigh_99 rfl (by decide) rfl ?_
        refine aj_goto (tgt := 53) C dX12_weigh_102 (by decide) ?_
        refine aj_wk (lv' := [some (vO 12 q0), none, none, some (vI v3), some (vI v4), some (vI v5), some (vI v6), some (vI (v7 + 1)), none]) (⟨rfl, ⟨rfl, ⟨rfl, ⟨rfl, ⟨rfl, ⟨rfl, trivial⟩⟩⟩⟩⟩⟩) ?_
        exact ih q0 v3 v4 v5 v6 (v7 + 1) _ hq0 h
def hX12_weigh_34 (f : Nat) (Φ : Int → aj_M → Prop) : Nat → List Nat → Int → Int → Int → Int → aj_M → Prop
  | 0, _, _, _, _, _, _ => False
  | k + 1, q0, v3, v4, v5, v6, m => rI v6 ∧ rI (m (1 :: q0) (6 : Int).toNat) ∧ ((m (1 :: q0) (6 : Int).toNat) ≤ v6 → Φ v4 m) ∧ (¬ ((m (1 :: q0) (6 : Int).toNat) ≤ v6) → rI v3 ∧ (v3 = 0 → Φ v4 m) ∧ (¬ (v3 = 0) → hX12_weigh_53 f Φ (fun q0 v3 v4 v5 v6 m => hX12_weigh_34 f Φ k q0 v3 v4 v5 v6 m) f q0 v3 v4 v5 v6 0 m))
set_option maxHeartbeats 4000000 in
set_option maxRecDepth 100000 in
theorem tX12_weigh_34 {X : aj_T} {n f : Nat} {Φ : Int → aj_M → Prop} (C : aj_Cx X cX12_weigh RX12 9 (n + 4)) (K : aj_Rt X (some .int) (fun r m => ∃ z, r = some (vI z) ∧ Φ z m)) : ∀ (k : Nat) (q0 : List Nat) (v3 : Int) (v4 : Int) (v5 : Int) (v6 : Int) (m : aj_M) (hq0 : (.inl (12, q0) : aj_R) ∈ aj_pls), hX12_weigh_34 f Φ k q0 v3 v4 v5 v6 m → aj_J X 34 [some (vO 12 q0), none, none, some (vI v3), some (vI v4), some (vI v5), some (vI v6), none, none] [] m := by
  intro k
  induction k with
  | zero =>
    intro q0 v3 v4 v5 v6 m _ h
    exact h.elim
  | succ k ih =>
    intro q0 v3 v4 v5 v6 m hq0 h
    unfold hX12_weigh_34 at h
    refine aj_iload C dX12_weigh_34 rfl ?_
    refine aj_aload_n C dX12_weigh_36 rfl ?_
    refine aj_getA (x := 0) (y := 3315) C flX12_13 hq0 rfl dX12_weigh_37 ?_
    refine aj_bipush C dX12_weigh_40 (by decide) ?_
    refine aj_iald C (aj_ca (e := 0) (n := 3315) (j := 1) hq0 (by decide) rfl) (by decide) (by decide) dX12_weigh_42 rfl ?_
    obtain ⟨r0, r1, h1, h2⟩ := h
    refine aj_icmp_ge (tgt := 111) C dX12_weigh_43 (by decide) r0 r1 (fun e => ?_) (fun e => ?_)
    · have h := h1 e
      refine aj_iload C dX12_weigh_111 rfl ?_
      exact aj_iret C K dX12_weigh_113 ⟨_, rfl, h⟩
    · have h := h2 e
      refine aj_iload_n C dX12_weigh_46 rfl ?_
      obtain ⟨r0, h1, h2⟩ := h
      refine aj_if_eq (tgt := 111) C dX12_weigh_47 (by decide) r0 (fun e => ?_) (fun e => ?_)
      · have h := h1 e
        refine aj_iload C dX12_weigh_111 rfl ?_
        exact aj_iret C K dX12_weigh_113 ⟨_, rfl, h⟩
      · have h := h2 e
        refine aj_iconst C dX12_weigh_50 ?_
        refine aj_istore (lv' := [some (vO 12 q0), none, none, some (vI v3), some (vI v4), some (vI v5), some (vI v6), some (vI 0), none]) C dX12_weigh_51 (by decide) rfl ?_
        exact tX12_weigh_53 C K (fun q0 v3 v4 v5 v6 m hq0 hh => ih q0 v3 v4 v5 v6 m hq0 hh) f q0 v3 v4 v5 v6 0 _ hq0 h
def wX12_weigh (f : Nat) (Φ : Int → aj_M → Prop) (q0 : List Nat) (v1 : Int) (m : aj_M) : Prop := ∀ m1, m1 = aj_u m q0 0 0 → wX12_noWeighed f (fun z1 m2 => rI z1 ∧ (z1 = 0 → wX12_twistsOf f (fun z2 m3 => hX12_weigh_34 f Φ f q0 z2 (-1) 268435456 0 m3) q0 v1 m2) ∧ (¬ (z1 = 0) → Φ z1 m2)) q0 v1 m1
set_option maxHeartbeats 4000000 in
set_option maxRecDepth 100000 in
theorem sX12_weigh {n f : Nat} {Φ : Int → aj_M → Prop} {q0 : List Nat} {v1 : Int} {m : aj_M} (hq0 : (.inl (12, q0) : aj_R) ∈ aj_pls) (h : wX12_weigh f Φ q0 v1 m) : aj_Ct (n + 4) yX12_weigh cX12_weigh 9 (some .int) [vO 12 q0, vI v1] m (fun r m => ∃ z, r = some (vI z) ∧ Φ z m) := by
  refine aj_met (lv := [some (vO 12 q0), some (vI v1), none, none, none, none, none, none, none]) (by decide +kernel) rfl (Nat.le_of_ble_eq_true rfl) (fun X C K => ?_)
  unfold wX12_weigh at h
  refine aj_aload_n C dX12_weigh_0 rfl ?_
  refine aj_iconst C dX12_weigh_1 ?_
  refine aj_putI C fpX12_1 hq0 rfl dX12_weigh_2 ?_
  refine aj_nm (fun m1 e1 => ?_)
  have h := h m1 e1
  refine aj_aload_n C dX12_weigh_5 rfl ?_
  refine aj_iload_n C dX12_weigh_6 rfl ?_
  refine aj_callV (rest := []) C mvX12_468 (sX12_noWeighed hq0 h) hq0 (aj_np 1 (by decide +kernel) rfl) (Nat.le_of_ble_eq_true rfl) rfl dX12_weigh_7 (fun r m2 h => ?_)
  obtain ⟨z1, rfl, h⟩ := h
  refine aj_istore_n (lv' := [some (vO 12 q0), some (vI v1), some (vI z1), none, none, none, none, none, none]) C dX12_weigh_10 (by decide) rfl ?_
  refine aj_iload_n C dX12_weigh_11 rfl ?_
  obtain ⟨r0, h1, h2⟩ := h
  refine aj_if_eq (tgt := 17) C dX12_weigh_12 (by decide) r0 (fun e => ?_) (fun e => ?_)
  · have h := h1 e
    refine aj_aload_n C dX12_weigh_17 rfl ?_
    refine aj_iload_n C dX12_weigh_18 rfl ?_
    refine aj_callV (rest := []) C mvX12_471 (sX12_twistsOf hq0 h) hq0 (aj_np 1 (by decide +kernel) rfl) (Nat.le_of_ble_eq_true rfl) rfl dX12_weigh_19 (fun r m3 h => ?_)
    obtain ⟨z2, rfl, h⟩ := h
    refine aj_istore_n (lv' := [some (vO 12 q0), some (vI v1), some (vI z1), some (vI z2), none, none, none, none, none]) C dX12_weigh_22 (by decide) rfl ?_
    refine aj_iconst C dX12_weigh_23 ?_
    refine aj_istore (lv' := [some (vO 12 q0), some (vI v1), some (vI z1), some (vI z2), some (vI (-1)), none, none, none, none]) C dX12_weigh_24 (by decide) rfl ?_
    refine aj_ldcw (z := 268435456) C (wd1900) rfl dX12_weigh_26 ?_
    refine aj_istore (lv' := [some (vO 12 q0), some (vI v1), some (vI z1), some (vI z2), some (vI (-1)), some (vI 268435456), none, none, none]) C dX12_weigh_29 (by decide) rfl ?_
    refine aj_iconst C dX12_weigh_31 ?_
    refine aj_istore (lv' := [some (vO 12 q0), some (vI v1), some (vI z1), some (vI z2), some (vI (-1)), some (vI 268435456), some (vI 0), none, none]) C dX12_weigh_32 (by decide) rfl ?_
    refine aj_wk (lv' := [some (vO 12 q0), none, none, some (vI z2), some (vI (-1)), some (vI 268435456), some (vI 0), none, none]) (⟨rfl, ⟨rfl, ⟨rfl, ⟨rfl, ⟨rfl, trivial⟩⟩⟩⟩⟩) ?_
    exact tX12_weigh_34 C K f q0 z2 (-1) 268435456 0 _ hq0 h
  · have h := h2 e
    refine aj_iload_n C dX12_weigh_15 rfl ?_
    exact aj_iret C K dX12_weigh_16 ⟨_, rfl, h⟩
