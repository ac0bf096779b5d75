theorem dX7_takeNumber_0 : decode cX7_takeNumber 0 = .ok (.aload_n 0, 1) := by decide +kernel
theorem dX7_takeNumber_1 : decode cX7_takeNumber 1 = .ok (.getfield 39, 3) := by decide +kernel
theorem dX7_takeNumber_4 : decode cX7_takeNumber 4 = .ok (.iconst 2, 1) := by decide +kernel
theorem dX7_takeNumber_5 : decode cX7_takeNumber 5 = .ok (.if_icmp .eq 10, 3) := by decide +kernel
theorem dX7_takeNumber_8 : decode cX7_takeNumber 8 = .ok (.aload_n 0, 1) := by decide +kernel
theorem dX7_takeNumber_9 : decode cX7_takeNumber 9 = .ok (.invokevirtual 86, 3) := by decide +kernel
theorem dX7_takeNumber_12 : decode cX7_takeNumber 12 = .ok (.pop, 1) := by decide +kernel
theorem dX7_takeNumber_13 : decode cX7_takeNumber 13 = .ok (.iconst (-1), 1) := by decide +kernel
theorem dX7_takeNumber_14 : decode cX7_takeNumber 14 = .ok (.ireturn, 1) := by decide +kernel
theorem dX7_takeNumber_15 : decode cX7_takeNumber 15 = .ok (.aload_n 0, 1) := by decide +kernel
theorem dX7_takeNumber_16 : decode cX7_takeNumber 16 = .ok (.getfield 42, 3) := by decide +kernel
theorem dX7_takeNumber_19 : decode cX7_takeNumber 19 = .ok (.iload_n 1, 1) := by decide +kernel
theorem dX7_takeNumber_20 : decode cX7_takeNumber 20 = .ok (.if_icmp .lt 11, 3) := by decide +kernel
theorem dX7_takeNumber_23 : decode cX7_takeNumber 23 = .ok (.aload_n 0, 1) := by decide +kernel
theorem dX7_takeNumber_24 : decode cX7_takeNumber 24 = .ok (.getfield 42, 3) := by decide +kernel
theorem dX7_takeNumber_27 : decode cX7_takeNumber 27 = .ok (.iload_n 2, 1) := by decide +kernel
theorem dX7_takeNumber_28 : decode cX7_takeNumber 28 = .ok (.if_icmp .le 11, 3) := by decide +kernel
theorem dX7_takeNumber_31 : decode cX7_takeNumber 31 = .ok (.aload_n 0, 1) := by decide +kernel
theorem dX7_takeNumber_32 : decode cX7_takeNumber 32 = .ok (.iconst 3, 1) := by decide +kernel
theorem dX7_takeNumber_33 : decode cX7_takeNumber 33 = .ok (.invokevirtual 130, 3) := by decide +kernel
theorem dX7_takeNumber_36 : decode cX7_takeNumber 36 = .ok (.pop, 1) := by decide +kernel
theorem dX7_takeNumber_37 : decode cX7_takeNumber 37 = .ok (.iconst (-1), 1) := by decide +kernel
theorem dX7_takeNumber_38 : decode cX7_takeNumber 38 = .ok (.ireturn, 1) := by decide +kernel
theorem dX7_takeNumber_39 : decode cX7_takeNumber 39 = .ok (.aload_n 0, 1) := by decide +kernel
theorem dX7_takeNumber_40 : decode cX7_takeNumber 40 = .ok (.getfield 42, 3) := by decide +kernel
theorem dX7_takeNumber_43 : decode cX7_takeNumber 43 = .ok (.istore_n 3, 1) := by decide +kernel
theorem dX7_takeNumber_44 : decode cX7_takeNumber 44 = .ok (.aload_n 0, 1) := by decide +kernel
theorem dX7_takeNumber_45 : decode cX7_takeNumber 45 = .ok (.invokevirtual 60, 3) := by decide +kernel
theorem dX7_takeNumber_48 : decode cX7_takeNumber 48 = .ok (.iload_n 3, 1) := by decide +kernel
theorem dX7_takeNumber_49 : decode cX7_takeNumber 49 = .ok (.ireturn, 1) := by decide +kernel
def wX7_takeNumber (f : Nat) (Φ : Int → aj_M → Prop) (q0 : List Nat) (v1 : Int) (v2 : Int) (m : aj_M) : Prop := rI (m q0 7) ∧ ((m q0 7) = 2 → rI (m q0 8) ∧ rI v1 ∧ ((m q0 8) < v1 → wX7_faulty f (fun z1 m1 => Φ (-1) m1) q0 3 m) ∧ (¬ ((m q0 8) < v1) → rI (m q0 8) ∧ rI v2 ∧ ((m q0 8) ≤ v2 → wX7_step f (fun m2 => Φ (m q0 8) m2) q0 m) ∧ (¬ ((m q0 8) ≤ v2) → wX7_faulty f (fun z3 m3 => Φ (-1) m3) q0 3 m))) ∧ (¬ ((m q0 7) = 2) → wX7_cantStand f (fun z4 m4 => Φ (-1) m4) q0 m)
set_option maxHeartbeats 4000000 in
set_option maxRecDepth 100000 in
theorem sX7_takeNumber {n f : Nat} {Φ : Int → aj_M → Prop} {q0 : List Nat} {v1 : Int} {v2 : Int} {m : aj_M} (hq0 : (.inl (7, q0) : aj_R) ∈ aj_pls) (h : wX7_takeNumber f Φ q0 v1 v2 m) : aj_Ct (n + 6) yX7_takeNumber cX7_takeNumber 4 (some .int) [vO 7 q0, vI v1, vI v2] m (fun r m => ∃ z, r = some (vI z) ∧ Φ z m) := by
  refine aj_met (lv := [some (vO 7 q0), some (vI v1), some (vI v2), none]) (by decide +kernel) rfl (Nat.le_of_ble_eq_true rfl) (fun X C K => ?_)
  unfold wX7_takeNumber at h
  refine aj_aload_n C dX7_takeNumber_0 rfl ?_
  refine aj_getI C flX7_39 hq0 (by decide) dX7_takeNumber_1 rfl ?_
  refine aj_iconst C dX7_takeNumber_4 ?_
  obtain ⟨r0, h1, h2⟩ := h
  refine aj_icmp_eq (tgt := 15) C dX7_takeNumber_5 (by decide) r0 (by decide) (fun e => ?_) (fun e => ?_)
  · have h := h1 e
    refine aj_aload_n C dX7_takeNumber_15 rfl ?_
    refine aj_getI C flX7_42 hq0 (by decide) dX7_takeNumber_16 rfl ?_
    refine aj_iload_n C dX7_takeNumber_19 rfl ?_
    obtain ⟨r0, r1, h1, h2⟩ := h
    refine aj_icmp_lt (tgt := 31) C dX7_takeNumber_20 (by decide) r0 r1 (fun e => ?_) (fun e => ?_)
    · have h := h1 e
      refine aj_aload_n C dX7_takeNumber_31 rfl ?_
      refine aj_iconst C dX7_takeNumber_32 ?_
      refine aj_callV (rest := []) C mvX7_130 (sX7_faulty hq0 h) hq0 (aj_np 1 (by decide +kernel) rfl) (Nat.le_of_ble_eq_true rfl) rfl dX7_takeNumber_33 (fun r m1 h => ?_)
      obtain ⟨z1, rfl, h⟩ := h
      refine aj_pop C aj_nI dX7_takeNumber_36 ?_
      refine aj_iconst C dX7_takeNumber_37 ?_
      exact aj_iret C K dX7_takeNumber_38 ⟨_, rfl, h⟩
    · have h := h2 e
      refine aj_aload_n C dX7_takeNumber_23 rfl ?_
      refine aj_getI C flX7_42 hq0 (by decide) dX7_takeNumber_24 rfl ?_
      refine aj_iload_n C dX7_takeNumber_27 rfl ?_
      obtain ⟨r0, r1, h1, h2⟩ := h
      refine aj_icmp_le (tgt := 39) C dX7_takeNumber_28 (by decide) r0 r1 (fun e => ?_) (fun e => ?_)
      · have h := h1 e
        refine aj_aload_n C dX7_takeNumber_39 rfl ?_
        refine aj_getI C flX7_42 hq0 (by decide) dX7_takeNumber_40 rfl ?_
        refine aj_istore_n (lv' := [some (vO 7 q0), some (vI v1), some (vI v2), some (vI (m q0 8))]) C dX7_takeNumber_43 (by decide) rfl ?_
        refine aj_aload_n C dX7_takeNumber_44 rfl ?_
        refine aj_callV (rest := []) C mvX7_60 (sX7_step hq0 h) hq0 (aj_np 0 (by decide +kernel) rfl) (Nat.le_of_ble_eq_true rfl) rfl dX7_takeNumber_45 (fun r m2 h => ?_)
        obtain ⟨rfl, h⟩ := h
        refine aj_iload_n C dX7_takeNumber_48 rfl ?_
        exact aj_iret C K dX7_takeNumber_49 ⟨_, rfl, h⟩
      · have h := h2 e
        refine aj_aload_n C dX7_takeNumber_31 rfl ?_
        refine aj_iconst C dX7_takeNumber_32 ?_
        refine aj_callV (rest := []) C mvX7_130 (sX7_faulty hq0 h) hq0 (aj_np 1 (by decide +kernel) rfl) (Nat.le_of_ble_eq_true rfl) rfl dX7_takeNumber_33 (fun r m3 h => ?_)
        obtain ⟨z3, rfl, h⟩ := h
        refine aj_pop C aj_nI dX7_takeNumber_36 ?_
        refine aj_iconst C dX7_takeNumber_37 ?_
        exact aj_iret C K dX7_takeNumber_38 ⟨_, rfl, h⟩
  · have h := h2 e
    refine aj_aload_n C dX7_takeNumber_8 rfl ?_
    refine aj_callV (rest := []) C mvX7_86 (sX7_cantStand hq0 h) hq0 (aj_np 0 (by decide +kernel) rfl) (Nat.le_of_ble_eq_true rfl) rfl dX7_takeNumber_9 (fun r m4 h => ?_)
    obtain ⟨z4, rfl, h⟩ := h
    refine aj_pop C aj_nI dX7_takeNumber_12 ?_
    refine aj_iconst C dX7_takeNumber_13 ?_
    exact aj_iret C K dX7_takeNumber_14 ⟨_, rfl, h⟩
theorem dX7_readKind_0 : decode cX7_readKind 0 = .ok (.aload_n 0, 1) := by decide +kernel
theorem dX7_readKind_1 : decode cX7_readKind 1 = .ok (.getfield 39, 3) := by decide +kernel
theorem dX7_readKind_4 : decode cX7_readKind 4 = .ok (.istore_n 1, 1) := by decide +kernel
theorem dX7_readKind_5 : decode cX7_readKind 5 = .ok (.iload_n 1, 1) := by decide +kernel
theorem dX7_readKind_6 : decode cX7_readKind 6 = .ok (.sipush 201, 3) := by decide +kernel
theorem dX7_readKind_9 : decode cX7_readKind 9 = .ok (.if_icmp .lt 10, 3) := by decide +kernel
theorem dX7_readKind_12 : decode cX7_readKind 12 = .ok (.iload_n 1, 1) := by decide +kernel
theorem dX7_readKind_13 : decode cX7_readKind 13 = .ok (.sipush 204, 3) := by decide +kernel
theorem dX7_readKind_16 : decode cX7_readKind 16 = .ok (.if_icmp .le 8, 3) := by decide +kernel
theorem dX7_readKind_19 : decode cX7_readKind 19 = .ok (.aload_n 0, 1) := by decide +kernel
theorem dX7_readKind_20 : decode cX7_readKind 20 = .ok (.invokevirtual 86, 3) := by decide +kernel
theorem dX7_readKind_23 : decode cX7_readKind 23 = .ok (.ireturn, 1) := by decide +kernel
theorem dX7_readKind_24 : decode cX7_readKind 24 = .ok (.aload_n 0, 1) := by decide +kernel
theorem dX7_readKind_25 : decode cX7_readKind 25 = .ok (.invokevirtual 60, 3) := by decide +kernel
theorem dX7_readKind_28 : decode cX7_readKind 28 = .ok (.iload_n 1, 1) := by decide +kernel
theorem dX7_readKind_29 : decode cX7_readKind 29 = .ok (.sipush 204, 3) := by decide +kernel
theorem dX7_readKind_32 : decode cX7_readKind 32 = .ok (.if_icmp .ne 15, 3) := by decide +kernel
theorem dX7_readKind_35 : decode cX7_readKind 35 = .ok (.aload_n 0, 1) := by decide +kernel
theorem dX7_readKind_36 : decode cX7_readKind 36 = .ok (.getfield 25, 3) := by decide +kernel
theorem dX7_readKind_39 : decode cX7_readKind 39 = .ok (.getfield 89, 3) := by decide +kernel
theorem dX7_readKind_42 : decode cX7_readKind 42 = .ok (.invokevirtual 93, 3) := by decide +kernel
theorem dX7_readKind_45 : decode cX7_readKind 45 = .ok (.iconst 1, 1) := by decide +kernel
theorem dX7_readKind_46 : decode cX7_readKind 46 = .ok (.ireturn, 1) := by decide +kernel
theorem dX7_readKind_47 : decode cX7_readKind 47 = .ok (.aload_n 0, 1) := by decide +kernel
theorem dX7_readKind_48 : decode cX7_readKind 48 = .ok (.iconst 1, 1) := by decide +kernel
theorem dX7_readKind_49 : decode cX7_readKind 49 = .ok (.iload_n 1, 1) := by decide +kernel
theorem dX7_readKind_50 : decode cX7_readKind 50 = .ok (.sipush 202, 3) := by decide +kernel
theorem dX7_readKind_53 : decode cX7_readKind 53 = .ok (.if_icmp .ne 8, 3) := by decide +kernel
theorem dX7_readKind_56 : decode cX7_readKind 56 = .ok (.bipush 6, 2) := by decide +kernel
theorem dX7_readKind_58 : decode cX7_readKind 58 = .ok (.goto 5, 3) := by decide +kernel
theorem dX7_readKind_61 : decode cX7_readKind 61 = .ok (.bipush 12, 2) := by decide +kernel
theorem dX7_readKind_63 : decode cX7_readKind 63 = .ok (.invokevirtual 80, 3) := by decide +kernel
theorem dX7_readKind_66 : decode cX7_readKind 66 = .ok (.istore_n 2, 1) := by decide +kernel
theorem dX7_readKind_67 : decode cX7_readKind 67 = .ok (.iload_n 2, 1) := by decide +kernel
theorem dX7_readKind_68 : decode cX7_readKind 68 = .ok (.iconst 1, 1) := by decide +kernel
theorem dX7_readKind_69 : decode cX7_readKind 69 = .ok (.if_icmp .ge 5, 3) := by decide +kernel
theorem dX7_readKind_72 : decode cX7_readKind 72 = .ok (.iconst 0, 1) := by decide +kernel
theorem dX7_readKind_73 : decode cX7_readKind 73 = .ok (.ireturn, 1) := by decide +kernel
theorem dX7_readKind_74 : decode cX7_readKind 74 = .ok (.iload_n 1, 1) := by decide +kernel
theorem dX7_readKind_75 : decode cX7_readKind 75 = .ok (.sipush 202, 3) := by decide +kernel
theorem dX7_readKind_78 : decode cX7_readKind 78 = .ok (.if_icmp .ne 16, 3) := by decide +kernel
theorem dX7_readKind_81 : decode cX7_readKind 81 = .ok (.aload_n 0, 1) := by decide +kernel
theorem dX7_readKind_82 : decode cX7_readKind 82 = .ok (.getfield 25, 3) := by decide +kernel
theorem dX7_readKind_85 : decode cX7_readKind 85 = .ok (.getfield 89, 3) := by decide +kernel
theorem dX7_readKind_88 : decode cX7_readKind 88 = .ok (.iload_n 2, 1) := by decide +kernel
theorem dX7_readKind_89 : decode cX7_readKind 89 = .ok (.invokevirtual 98, 3) := by decide +kernel
theorem dX7_readKind_92 : decode cX7_readKind 92 = .ok (.iconst 1, 1) := by decide +kernel
theorem dX7_readKind_93 : decode cX7_readKind 93 = .ok (.ireturn, 1) := by decide +kernel
theorem dX7_readKind_94 : decode cX7_readKind 94 = .ok (.iload_n 1, 1) := by decide +kernel
theorem dX7_readKind_95 : decode cX7_readKind 95 = .ok (.sipush 203, 3) := by decide +kernel
theorem dX7_readKind_98 : decode cX7_readKind 98 = .ok (.if_icmp .ne 15, 3) := by decide +kernel
theorem dX7_readKind_101 : decode cX7_readKind 101 = .ok (.aload_n 0, 1) := by decide +kernel
theorem dX7_readKind_102 : decode cX7_readKind 102 = .ok (.iconst 1, 1) := by decide +kernel
theorem dX7_readKind_103 : decode cX7_readKind 103 = .ok (.bipush 12, 2) := by decide +kernel
theorem dX7_readKind_105 : decode cX7_readKind 105 = .ok (.iload_n 2, 1) := by decide +kernel
theorem dX7_readKind_106 : decode cX7_readKind 106 = .ok (.idiv, 1) := by decide +kernel
theorem dX7_readKind_107 : decode cX7_readKind 107 = .ok (.invokevirtual 80, 3) := by decide +kernel
theorem dX7_readKind_110 : decode cX7_readKind 110 = .ok (.goto 4, 3) := by decide +kernel
theorem dX7_readKind_113 : decode cX7_readKind 113 = .ok (.iconst 1, 1) := by decide +kernel
theorem dX7_readKind_114 : decode cX7_readKind 114 = .ok (.istore_n 3, 1) := by decide +kernel
theorem dX7_readKind_115 : decode cX7_readKind 115 = .ok (.iload_n 3, 1) := by decide +kernel
theorem dX7_readKind_116 : decode cX7_readKind 116 = .ok (.iconst 1, 1) := by decide +kernel
theorem dX7_readKind_117 : decode cX7_readKind 117 = .ok (.if_icmp .ge 5, 3) := by decide +kernel
theorem dX7_readKind_120 : decode cX7_readKind 120 = .ok (.iconst 0, 1) := by decide +kernel
theorem dX7_readKind_121 : decode cX7_readKind 121 = .ok (.ireturn, 1) := by decide +kernel
theorem dX7_readKind_122 : decode cX7_readKind 122 = .ok (.aload_n 0, 1) := by decide +kernel
theorem dX7_readKind_123 : decode cX7_readKind 123 = .ok (.getfield 25, 3) := by decide +kernel
theorem dX7_readKind_126 : decode cX7_readKind 126 = .ok (.getfield 89, 3) := by decide +kernel
theorem dX7_readKind_129 : decode cX7_readKind 129 = .ok (.iload_n 2, 1) := by decide +kernel
theorem dX7_readKind_130 : decode cX7_readKind 130 = .ok (.iload_n 3, 1) := by decide +kernel
theorem dX7_readKind_131 : decode cX7_readKind 131 = .ok (.invokevirtual 102, 3) := by decide +kernel
theorem dX7_readKind_134 : decode cX7_readKind 134 = .ok (.iconst 1, 1) := by decide +kernel
theorem dX7_readKind_135 : decode cX7_readKind 135 = .ok (.ireturn, 1) := by decide +kernel
def hX7_readKind_63 (f : Nat) (Φ : Int → aj_M → Prop) (q0 : List Nat) (v1 : Int) (qs0 : List Nat) (vs1 : Int) (vs2 : Int) (m : aj_M) : Prop := wX7_takeNumber f (fun z1 m1 => rI z1 ∧ (1 ≤ z1 → rI v1 ∧ (¬ v1 = 202 → rI v1 ∧ (¬ v1 = 203 → wX0_makeProduct f (fun m2 => Φ 1 m2) (0 :: (3 :: q0)) z1 1 m1) ∧ (v1 = 203 → (0 < z1 ∧ z1 < 2147483648) ∧ wX7_takeNumber f (fun z3 m3 => rI z3 ∧ (1 ≤ z3 → wX0_makeProduct f (fun m4 => Φ 1 m4) (0 :: (3 :: q0)) z1 z3 m3) ∧ (¬ (1 ≤ z3) → Φ 0 m3)) q0 1 (12 / z1) m1)) ∧ (v1 = 202 → wX0_makeMirrors f (fun m5 => Φ 1 m5) (0 :: (3 :: q0)) z1 m1)) ∧ (¬ (1 ≤ z1) → Φ 0 m1)) qs0 vs1 vs2 m
set_option maxHeartbeats 4000000 in
set_option maxRecDepth 100000 in
theorem tX7_readKind_63 {X : aj_T} {n f : Nat} {Φ : Int → aj_M → Prop} (C : aj_Cx X cX7_readKind RX7 4 (n + 7)) (K : aj_Rt X (some .boolean) (fun r m => ∃ z, r = some (vI z) ∧ Φ z m)) (q0 : List Nat) (v1 : Int) (qs0 : List Nat) (vs1 : Int) (vs2 : Int) (m : aj_M) (hq0 : (.inl (7, q0) : aj_R) ∈ aj_pls) (hqs0 : (.inl (7, qs0) : aj_R) ∈ aj_pls) (h : hX7_readKind_63 f Φ q0 v1 qs0 vs1 vs2 m) : aj_J X 63 [some (vO 7 q0), some (vI v1), none, none] [vI vs2, vI vs1, vO 7 qs0] m := by
  unfold hX7_readKind_63 at h
  refine aj_callV (rest := []) C mvX7_80 (sX7_takeNumber hqs0 h) hqs0 (aj_np 2 (by decide +kernel) rfl) (Nat.le_of_ble_eq_true rfl) rfl dX7_readKind_63 (fun r m1 h => ?_)
  obtain ⟨z1, rfl, h⟩ := h
  refine aj_istore_n (lv' := [some (vO 7 q0), some (vI v1), some (vI z1), none]) C dX7_readKind_66 (by decide) rfl ?_
  refine aj_iload_n C dX7_readKind_67 rfl ?_
  refine aj_iconst C dX7_readKind_68 ?_
  obtain ⟨r0, h1, h2⟩ := h
  refine aj_icmp_ge (tgt := 74) C dX7_readKind_69 (by decide) r0 (by decide) (fun e => ?_) (fun e => ?_)
  · have h := h1 e
    refine aj_iload_n C dX7_readKind_74 rfl ?_
    refine aj_sipush C dX7_readKind_75 (by decide) ?_
    obtain ⟨r0, h1, h2⟩ := h
    refine aj_icmp_ne (tgt := 94) C dX7_readKind_78 (by decide) r0 (by decide) (fun e => ?_) (fun e => ?_)
    · have h := h1 e
      refine aj_iload_n C dX7_readKind_94 rfl ?_
      refine aj_sipush C dX7_readKind_95 (by decide) ?_
      obtain ⟨r0, h1, h2⟩ := h
      refine aj_icmp_ne (tgt := 113) C dX7_readKind_98 (by decide) r0 (by decide) (fun e => ?_) (fun e => ?_)
      · have h := h1 e
        refine aj_iconst C dX7_readKind_113 ?_
        refine aj_istore_n (lv' := [some (vO 7 q0), some (vI v1), some (vI z1), some (vI 1)]) C dX7_readKind_114 (by decide) rfl ?_
        refine aj_iload_n C dX7_readKind_115 rfl ?_
        refine aj_iconst C dX7_readKind_116 ?_
        refine aj_icmp_ge (tgt := 122) C dX7_readKind_117 (by decide) (by decide) (by decide) (fun _ => ?_) (fun e => absurd (by decide : (1 : Int) ≤ 1) e)
        refine aj_aload_n C dX7_readKind_122 rfl ?_
        refine aj_getO (x := 6) (y := 0) C flX7_25 hq0 rfl dX7_readKind_123 ?_
        refine aj_getO (x := 0) (y := 0) C flX7_89 (aj_cf (x := 6) (y := 0) (j := 3) hq0 (by decide) rfl) rfl dX7_readKind_126 ?_
        refine aj_iload_n C dX7_readKind_129 rfl ?_
        refine aj_iload_n C dX7_readKind_130 rfl ?_
        refine aj_callV (rest := []) C mvX7_102 (sX0_makeProduct (aj_cf (x := 0) (y := 0) (j := 0) (aj_cf (x := 6) (y := 0) (j := 3) hq0 (by decide) rfl) (by decide) rfl) h) (aj_cf (x := 0) (y := 0) (j := 0) (aj_cf (x := 6) (y := 0) (j := 3) hq0 (by decide) rfl) (by decide) rfl) (aj_np 2 (by decide +kernel) rfl) (Nat.le_of_ble_eq_true rfl) rfl dX7_readKind_131 (fun r m2 h => ?_)
        obtain ⟨rfl, h⟩ := h
        refine aj_iconst C dX7_readKind_134 ?_
        exact aj_zret C K (Or.inr rfl) dX7_readKind_135 ⟨_, rfl, h⟩
      · have h := h2 e
        refine aj_aload_n C dX7_readKind_101 rfl ?_
        refine aj_iconst C dX7_readKind_102 ?_
        refine aj_bipush C dX7_readKind_103 (by decide) ?_
        refine aj_iload_n C dX7_readKind_105 rfl ?_
        obtain ⟨r1, h⟩ := h
        refine aj_idivN C dX7_readKind_106 (by decide) r1 ?_
        refine aj_callV (rest := []) C mvX7_80 (sX7_takeNumber hq0 h) hq0 (aj_np 2 (by decide +kernel) rfl) (Nat.le_of_ble_eq_true rfl) rfl dX7_readKind_107 (fun r m3 h => ?_)
        obtain ⟨z3, rfl, h⟩ := h
        refine aj_goto (tgt := 114) C dX7_readKind_110 (by decide) ?_
        refine aj_istore_n (lv' := [some (vO 7 q0), some (vI v1), some (vI z1), some (vI z3)]) C dX7_readKind_114 (by decide) rfl ?_
        refine aj_iload_n C dX7_readKind_115 rfl ?_
        refine aj_iconst C dX7_readKind_116 ?_
        obtain ⟨r0, h1, h2⟩ := h
        refine aj_icmp_ge (tgt := 122) C dX7_readKind_117 (by decide) r0 (by decide) (fun e => ?_) (fun e => ?_)
        · have h := h1 e
          refine aj_aload_n C dX7_readKind_122 rfl ?_
          refine aj_getO (x := 6) (y := 0) C flX7_25 hq0 rfl dX7_readKind_123 ?_
          refine aj_getO (x := 0) (y := 0) C flX7_89 (aj_cf (x := 6) (y := 0) (j := 3) hq0 (by decide) rfl) rfl dX7_readKind_126 ?_
          refine aj_iload_n C dX7_readKind_129 rfl ?_
          refine aj_iload_n C dX7_readKind_130 rfl ?_
          refine aj_callV (rest := []) C mvX7_102 (sX0_makeProduct (aj_cf (x := 0) (y := 0) (j := 0) (aj_cf (x := 6) (y := 0) (j := 3) hq0 (by decide) rfl) (by decide) rfl) h) (aj_cf (x := 0) (y := 0) (j := 0) (aj_cf (x := 6) (y := 0) (j := 3) hq0 (by decide) rfl) (by decide) rfl) (aj_np 2 (by decide +kernel) rfl) (Nat.le_of_ble_eq_true rfl) rfl dX7_readKind_131 (fun r m4 h => ?_)
          obtain ⟨rfl, h⟩ := h
          refine aj_iconst C dX7_readKind_134 ?_
          exact aj_zret C K (Or.inr rfl) dX7_readKind_135 ⟨_, rfl, h⟩
        · have h := h2 e
          refine aj_iconst C dX7_readKind_120 ?_
          exact aj_zret C K (Or.inl rfl) dX7_readKind_121 ⟨_, rfl, h⟩
    · have h := h2 e
      refine aj_aload_n C dX7_readKind_81 rfl ?_
      refine aj_getO (x := 6) (y := 0) C flX7_25 hq0 rfl dX7_readKind_82 ?_
      refine aj_getO (x := 0) (y := 0) C flX7_89 (aj_cf (x := 6) (y := 0) (j := 3) hq0 (by decide) rfl) rfl dX7_readKind_85 ?_
      refine aj_iload_n C dX7_readKind_88 rfl ?_
      refine aj_callV (rest := []) C mvX7_98 (sX0_makeMirrors (aj_cf (x := 0) (y := 0) (j := 0) (aj_cf (x := 6) (y := 0) (j := 3) hq0 (by decide) rfl) (by decide) rfl) h) (aj_cf (x := 0) (y := 0) (j := 0) (aj_cf (x := 6) (y := 0) (j := 3) hq0 (by decide) rfl) (by decide) rfl) (aj_np 1 (by decide +kernel) rfl) (Nat.le_of_ble_eq_true rfl) rfl dX7_readKind_89 (fun r m5 h => ?_)
      obtain ⟨rfl, h⟩ := h
      refine aj_iconst C dX7_readKind_92 ?_
      exact aj_zret C K (Or.inr rfl) dX7_readKind_93 ⟨_, rfl, h⟩
  · have h := h2 e
    refine aj_iconst C dX7_readKind_72 ?_
    exact aj_zret C K (Or.inl rfl) dX7_readKind_73 ⟨_, rfl, h⟩
def wX7_readKind (f : Nat) (Φ : Int → aj_M → Prop) (q0 : List Nat) (m : aj_M) : Prop := rI (m q0 7) ∧ ((m q0 7) < 201 → wX7_cantStand f (fun z1 m1 => (z1 = 0 ∨ z1 = 1) ∧ Φ z1 m1) q0 m) ∧ (¬ ((m q0 7) < 201) → rI (m q0 7) ∧ ((m q0 7) ≤ 204 → wX7_step f (fun m2 => rI (m q0 7) ∧ (¬ (m q0 7) = 204 → rI (m q0 7) ∧ (¬ (m q0 7) = 202 → hX7_readKind_63 f Φ q0 (m q0 7) q0 1 12 m2) ∧ ((m q0 7) = 202 → hX7_readKind_63 f Φ q0 (m q0 7) q0 1 6 m2)) ∧ ((m q0 7) = 204 → wX0_makeQuaternions f (fun m3 => Φ 1 m3) (0 :: (3 :: q0)) m2)) q0 m) ∧ (¬ ((m q0 7) ≤ 204) → wX7_cantStand f (fun z4 m4 => (z4 = 0 ∨ z4 = 1) ∧ Φ z4 m4) q0 m))
set_option maxHeartbeats 4000000 in
set_option maxRecDepth 100000 in
theorem sX7_readKind {n f : Nat} {Φ : Int → aj_M → Prop} {q0 : List Nat} {m : aj_M} (hq0 : (.inl (7, q0) : aj_R) ∈ aj_pls) (h : wX7_readKind f Φ q0 m) : aj_Ct (n + 7) yX7_readKind cX7_readKind 4 (some .boolean) [vO 7 q0] m (fun r m => ∃ z, r = some (vI z) ∧ Φ z m) := by
  refine aj_met (lv := [some (vO 7 q0), none, none, none]) (by decide +kernel) rfl (Nat.le_of_ble_eq_true rfl) (fun X C K => ?_)
  unfold wX7_readKind at h
  refine aj_aload_n C dX7_readKind_0 rfl ?_
  refine aj_getI C flX7_39 hq0 (by decide) dX7_readKind_1 rfl ?_
  refine aj_istore_n (lv' := [some (vO 7 q0), some (vI (m q0 7)), none, none]) C dX7_readKind_4 (by decide) rfl ?_
  refine aj_iload_n C dX7_readKind_5 rfl ?_
  refine aj_sipush C dX7_readKind_6 (by decide) ?_
  obtain ⟨r0, h1, h2⟩ := h
  refine aj_icmp_lt (tgt := 19) C dX7_readKind_9 (by decide) r0 (by decide) (fun e => ?_) (fun e => ?_)
  · have h := h1 e
    refine aj_aload_n C dX7_readKind_19 rfl ?_
    refine aj_callV (rest := []) C mvX7_86 (sX7_cantStand hq0 h) hq0 (aj_np 0 (by decide +kernel) rfl) (Nat.le_of_ble_eq_true rfl) rfl dX7_readKind_20 (fun r m1 h => ?_)
    obtain ⟨z1, rfl, h⟩ := h
    exact aj_zret C K h.1 dX7_readKind_23 ⟨_, rfl, h.2⟩
  · have h := h2 e
    refine aj_iload_n C dX7_readKind_12 rfl ?_
    refine aj_sipush C dX7_readKind_13 (by decide) ?_
    obtain ⟨r0, h1, h2⟩ := h
    refine aj_icmp_le (tgt := 24) C dX7_readKind_16 (by decide) r0 (by decide) (fun e => ?_) (fun e => ?_)
    · have h := h1 e
      refine aj_aload_n C dX7_readKind_24 rfl ?_
      refine aj_callV (rest := []) C mvX7_60 (sX7_step hq0 h) hq0 (aj_np 0 (by decide +kernel) rfl) (Nat.le_of_ble_eq_true rfl) rfl dX7_readKind_25 (fun r m2 h => ?_)
      obtain ⟨rfl, h⟩ := h
      refine aj_iload_n C dX7_readKind_28 rfl ?_
      refine aj_sipush C dX7_readKind_29 (by decide) ?_
      obtain ⟨r0, h1, h2⟩ := h
      refine aj_icmp_ne (tgt := 47) C dX7_readKind_32 (by decide) r0 (by decide) (fun e => ?_) (fun e => ?_)
      · have h := h1 e
        refine aj_aload_n C dX7_readKind_47 rfl ?_
        refine aj_iconst C dX7_readKind_48 ?_
        refine aj_iload_n C dX7_readKind_49 rfl ?_
        refine aj_sipush C dX7_readKind_50 (by decide) ?_
        obtain ⟨r0, h1, h2⟩ := h
        refine aj_icmp_ne (tgt := 61) C dX7_readKind_53 (by decide) r0 (by decide) (fun e => ?_) (fun e => ?_)
        · have h := h1 e
          refine aj_bipush C dX7_readKind_61 (by decide) ?_
          exact tX7_readKind_63 C K q0 (m q0 7) q0 1 12 _ hq0 hq0 h
        · have h := h2 e
          refine aj_bipush C dX7_readKind_56 (by decide) ?_
          refine aj_goto (tgt := 63) C dX7_readKind_58 (by decide) ?_
          exact tX7_readKind_63 C K q0 (m q0 7) q0 1 6 _ hq0 hq0 h
      · have h := h2 e
        refine aj_aload_n C dX7_readKind_35 rfl ?_
        refine aj_getO (x := 6) (y := 0) C flX7_25 hq0 rfl dX7_readKind_36 ?_
        refine aj_getO (x := 0) (y := 0) C flX7_89 (aj_cf (x := 6) (y := 0) (j := 3) hq0 (by decide) rfl) rfl dX7_readKind_39 ?_
        refine aj_callV (rest := []) C mvX7_93 (sX0_makeQuaternions (aj_cf (x := 0) (y := 0) (j := 0) (aj_cf (x := 6) (y := 0) (j := 3) hq0 (by decide) rfl) (by decide) rfl) h) (aj_cf (x := 0) (y := 0) (j := 0) (aj_cf (x := 6) (y := 0) (j := 3) hq0 (by decide) rfl) (by decide) rfl) (aj_np 0 (by decide +kernel) rfl) (Nat.le_of_ble_eq_true rfl) rfl dX7_readKind_42 (fun r m3 h => ?_)
        obtain ⟨rfl, h⟩ := h
        refine aj_iconst C dX7_readKind_45 ?_
        exact aj_zret C K (Or.inr rfl) dX7_readKind_46 ⟨_, rfl, h⟩
    · have h := h2 e
      refine aj_aload_n C dX7_readKind_19 rfl ?_
      refine aj_callV (rest := []) C mvX7_86 (sX7_cantStand hq0 h) hq0 (aj_np 0 (by decide +kernel) rfl) (Nat.le_of_ble_eq_true rfl) rfl dX7_readKind_20 (fun r m4 h => ?_)
      obtain ⟨z4, rfl, h⟩ := h
      exact aj_zret C K h.1 dX7_readKind_23 ⟨_, rfl, h.2⟩
theorem dX7_readHead_0 : decode cX7_readHead 0 = .ok (.aload_n 0, 1) := by decide +kernel
theorem dX7_readHead_1 : decode cX7_readHead 1 = .ok (.sipush 200, 3) := by decide +kernel
theorem dX7_readHead_4 : decode cX7_readHead 4 = .ok (.invokevirtual 70, 3) := by decide +kernel
theorem dX7_readHead_7 : decode cX7_readHead 7 = .ok (.ifCond .eq 20, 3) := by decide +kernel
theorem dX7_readHead_10 : decode cX7_readHead 10 = .ok (.aload_n 0, 1) := by decide +kernel
theorem dX7_readHead_11 : decode cX7_readHead 11 = .ok (.invokevirtual 77, 3) := by decide +kernel
theorem dX7_readHead_14 : decode cX7_readHead 14 = .ok (.ifCond .eq 13, 3) := by decide +kernel
theorem dX7_readHead_17 : decode cX7_readHead 17 = .ok (.aload_n 0, 1) := by decide +kernel
theorem dX7_readHead_18 : decode cX7_readHead 18 = .ok (.sipush 205, 3) := by decide +kernel
theorem dX7_readHead_21 : decode cX7_readHead 21 = .ok (.invokevirtual 70, 3) := by decide +kernel
theorem dX7_readHead_24 : decode cX7_readHead 24 = .ok (.ifCond .ne 5, 3) := by decide +kernel
theorem dX7_readHead_27 : decode cX7_readHead 27 = .ok (.iconst 0, 1) := by decide +kernel
theorem dX7_readHead_28 : decode cX7_readHead 28 = .ok (.ireturn, 1) := by decide +kernel
theorem dX7_readHead_29 : decode cX7_readHead 29 = .ok (.aload_n 0, 1) := by decide +kernel
theorem dX7_readHead_30 : decode cX7_readHead 30 = .ok (.getfield 25, 3) := by decide +kernel
theorem dX7_readHead_33 : decode cX7_readHead 33 = .ok (.aload_n 0, 1) := by decide +kernel
theorem dX7_readHead_34 : decode cX7_readHead 34 = .ok (.iconst 0, 1) := by decide +kernel
theorem dX7_readHead_35 : decode cX7_readHead 35 = .ok (.bipush 9, 2) := by decide +kernel
theorem dX7_readHead_37 : decode cX7_readHead 37 = .ok (.invokevirtual 80, 3) := by decide +kernel
theorem dX7_readHead_40 : decode cX7_readHead 40 = .ok (.putfield 83, 3) := by decide +kernel
theorem dX7_readHead_43 : decode cX7_readHead 43 = .ok (.aload_n 0, 1) := by decide +kernel
theorem dX7_readHead_44 : decode cX7_readHead 44 = .ok (.getfield 25, 3) := by decide +kernel
theorem dX7_readHead_47 : decode cX7_readHead 47 = .ok (.iconst 1, 1) := by decide +kernel
theorem dX7_readHead_48 : decode cX7_readHead 48 = .ok (.putfield 74, 3) := by decide +kernel
theorem dX7_readHead_51 : decode cX7_readHead 51 = .ok (.aload_n 0, 1) := by decide +kernel
theorem dX7_readHead_52 : decode cX7_readHead 52 = .ok (.getfield 25, 3) := by decide +kernel
theorem dX7_readHead_55 : decode cX7_readHead 55 = .ok (.getfield 83, 3) := by decide +kernel
theorem dX7_readHead_58 : decode cX7_readHead 58 = .ok (.ifCond .lt 16, 3) := by decide +kernel
theorem dX7_readHead_61 : decode cX7_readHead 61 = .ok (.aload_n 0, 1) := by decide +kernel
theorem dX7_readHead_62 : decode cX7_readHead 62 = .ok (.bipush 59, 2) := by decide +kernel
theorem dX7_readHead_64 : decode cX7_readHead 64 = .ok (.invokevirtual 70, 3) := by decide +kernel
theorem dX7_readHead_67 : decode cX7_readHead 67 = .ok (.ifCond .eq 7, 3) := by decide +kernel
theorem dX7_readHead_70 : decode cX7_readHead 70 = .ok (.iconst 1, 1) := by decide +kernel
theorem dX7_readHead_71 : decode cX7_readHead 71 = .ok (.goto 4, 3) := by decide +kernel
theorem dX7_readHead_74 : decode cX7_readHead 74 = .ok (.iconst 0, 1) := by decide +kernel
theorem dX7_readHead_75 : decode cX7_readHead 75 = .ok (.ireturn, 1) := by decide +kernel
def wX7_readHead (f : Nat) (Φ : Int → aj_M → Prop) (q0 : List Nat) (m : aj_M) : Prop := wX7_take f (fun z1 m1 => rI z1 ∧ (z1 = 0 → Φ 0 m1) ∧ (¬ (z1 = 0) → wX7_readKind f (fun z2 m2 => rI z2 ∧ (z2 = 0 → Φ 0 m2) ∧ (¬ (z2 = 0) → wX7_take f (fun z3 m3 => rI z3 ∧ (¬ z3 = 0 → wX7_takeNumber f (fun z4 m4 => ∀ m5, m5 = aj_u m4 (3 :: q0) 2 z4 → ∀ m6, m6 = aj_u m5 (3 :: q0) 5 1 → rI (m6 (3 :: q0) 2) ∧ ((m6 (3 :: q0) 2) < 0 → Φ 0 m6) ∧ (¬ ((m6 (3 :: q0) 2) < 0) → wX7_take f (fun z5 m7 => rI z5 ∧ (z5 = 0 → Φ 0 m7) ∧ (¬ (z5 = 0) → Φ 1 m7)) q0 59 m6)) q0 0 9 m3) ∧ (z3 = 0 → Φ 0 m3)) q0 205 m2)) q0 m1)) q0 200 m
set_option maxHeartbeats 4000000 in
set_option maxRecDepth 100000 in
theorem sX7_readHead {n f : Nat} {Φ : Int → aj_M → Prop} {q0 : List Nat} {m : aj_M} (hq0 : (.inl (7, q0) : aj_R) ∈ aj_pls) (h : wX7_readHead f Φ q0 m) : aj_Ct (n + 8) yX7_readHead cX7_readHead 1 (some .boolean) [vO 7 q0] m (fun r m => ∃ z, r = some (vI z) ∧ Φ z m) := by
  refine aj_met (lv := [some (vO 7 q0)]) (by decide +kernel) rfl (Nat.le_of_ble_eq_true rfl) (fun X C K => ?_)
  unfold wX7_readHead at h
  refine aj_aload_n C dX7_readHead_0 rfl ?_
  refine aj_sipush C dX7_readHead_1 (by decide) ?_
  refine aj_callV (rest := []) C mvX7_70 (sX7_take hq0 h) hq0 (aj_np 1 (by decide +kernel) rfl) (Nat.le_of_ble_eq_true rfl) rfl dX7_readHead_4 (fun r m1 h => ?_)
  obtain ⟨z1, rfl, h⟩ := h
  obtain ⟨r0, h1, h2⟩ := h
  refine aj_if_eq (tgt := 27) C dX7_readHead_7 (by decide) r0 (fun e => ?_) (fun e => ?_)
  · have h := h1 e
    refine aj_iconst C dX7_readHead_27 ?_
    exact aj_zret C K (Or.inl rfl) dX7_readHead_28 ⟨_, rfl, h⟩
  · have h := h2 e
    refine aj_aload_n C dX7_readHead_10 rfl ?_
    refine aj_callV (rest := []) C mvX7_77 (sX7_readKind hq0 h) hq0 (aj_np 0 (by decide +kernel) rfl) (Nat.le_of_ble_eq_true rfl) rfl dX7_readHead_11 (fun r m2 h => ?_)
    obtain ⟨z2, rfl, h⟩ := h
    obtain ⟨r0, h1, h2⟩ := h
    refine aj_if_eq (tgt := 27) C dX7_readHead_14 (by decide) r0 (fun e => ?_) (fun e => ?_)
    · have h := h1 e
      refine aj_iconst C dX7_readHead_27 ?_
      exact aj_zret C K (Or.inl rfl) dX7_readHead_28 ⟨_, rfl, h⟩
    · have h := h2 e
      refine aj_aload_n C dX7_readHead_17 rfl ?_
      refine aj_sipush C dX7_readHead_18 (by decide) ?_
      refine aj_callV (rest := []) C mvX7_70 (sX7_take hq0 h) hq0 (aj_np 1 (by decide +kernel) rfl) (Nat.le_of_ble_eq_true rfl) rfl dX7_readHead_21 (fun r m3 h => ?_)
      obtain ⟨z3, rfl, h⟩ := h
      obtain ⟨r0, h1, h2⟩ := h
      refine aj_if_ne (tgt := 29) C dX7_readHead_24 (by decide) r0 (fun e => ?_) (fun e => ?_)
      · have h := h1 e
        refine aj_aload_n C dX7_readHead_29 rfl ?_
        refine aj_getO (x := 6) (y := 0) C flX7_25 hq0 rfl dX7_readHead_30 ?_
        refine aj_aload_n C dX7_readHead_33 rfl ?_
        refine aj_iconst C dX7_readHead_34 ?_
        refine aj_bipush C dX7_readHead_35 (by decide) ?_
        refine aj_callV (rest := [vO 6 (3 :: q0)]) C mvX7_80 (sX7_takeNumber hq0 h) hq0 (aj_np 2 (by decide +kernel) rfl) (Nat.le_of_ble_eq_true rfl) rfl dX7_readHead_37 (fun r m4 h => ?_)
        obtain ⟨z4, rfl, h⟩ := h
        refine aj_putI C fpX7_83 (aj_cf (x := 6) (y := 0) (j := 3) hq0 (by decide) rfl) rfl dX7_readHead_40 ?_
        refine aj_nm (fun m5 e1 => ?_)
        have h := h m5 e1
        refine aj_aload_n C dX7_readHead_43 rfl ?_
        refine aj_getO (x := 6) (y := 0) C flX7_25 hq0 rfl dX7_readHead_44 ?_
        refine aj_iconst C dX7_readHead_47 ?_
        refine aj_putI C fpX7_74 (aj_cf (x := 6) (y := 0) (j := 3) hq0 (by decide) rfl) rfl dX7_readHead_48 ?_
        refine aj_nm (fun m6 e1 => ?_)
        have h := h m6 e1
        refine aj_aload_n C dX7_readHead_51 rfl ?_
        refine aj_getO (x := 6) (y := 0) C flX7_25 hq0 rfl dX7_readHead_52 ?_
        refine aj_getI C flX7_83 (aj_cf (x := 6) (y := 0) (j := 3) hq0 (by decide) rfl) (by decide) dX7_readHead_55 rfl ?_
        obtain ⟨r0, h1, h2⟩ := h
        refine aj_if_lt (tgt := 74) C dX7_readHead_58 (by decide) r0 (fun e => ?_) (fun e => ?_)
        · have h := h1 e
          refine aj_iconst C dX7_readHead_74 ?_
          exact aj_zret C K (Or.inl rfl) dX7_readHead_75 ⟨_, rfl, h⟩
        · have h := h2 e
          refine aj_aload_n C dX7_readHead_61 rfl ?_
          refine aj_bipush C dX7_readHead_62 (by decide) ?_
          refine aj_callV (rest := []) C mvX7_70 (sX7_take hq0 h) hq0 (aj_np 1 (by decide +kernel) rfl) (Nat.le_of_ble_eq_true rfl) rfl dX7_readHead_64 (fun r m7 h => ?_)
          obtain ⟨z5, rfl, h⟩ := h
          obtain ⟨r0, h1, h2⟩ := h
          refine aj_if_eq (tgt := 74) C dX7_readHead_67 (by decide) r0 (fun e => ?_) (fun e => ?_)
          · have h := h1 e
            refine aj_iconst C dX7_readHead_74 ?_
            exact aj_zret C K (Or.inl rfl) dX7_readHead_75 ⟨_, rfl, h⟩
          · have h := h2 e
            refine aj_iconst C dX7_readHead_70 ?_
            refine aj_goto (tgt := 75) C dX7_readHead_71 (by decide) ?_
            exact aj_zret C K (Or.inr rfl) dX7_readHead_75 ⟨_, rfl, h⟩
      · have h := h2 e
        refine aj_iconst C dX7_readHead_27 ?_
        exact aj_zret C K (Or.inl rfl) dX7_readHead_28 ⟨_, rfl, h⟩
theorem dX7_readPlaces_0 : decode cX7_readPlaces 0 = .ok (.aload_n 0, 1) := by decide +kernel
theorem dX7_readPlaces_1 : decode cX7_readPlaces 1 = .ok (.getfield 29, 3) := by decide +kernel
theorem dX7_readPlaces_4 : decode cX7_readPlaces 4 = .ok (.ifCond .ne 13, 3) := by decide +kernel
theorem dX7_readPlaces_7 : decode cX7_readPlaces 7 = .ok (.aload_n 0, 1) := by decide +kernel
theorem dX7_readPlaces_8 : decode cX7_readPlaces 8 = .ok (.getfield 25, 3) := by decide +kernel
theorem dX7_readPlaces_11 : decode cX7_readPlaces 11 = .ok (.getfield 121, 3) := by decide +kernel
theorem dX7_readPlaces_14 : decode cX7_readPlaces 14 = .ok (.ifCond .le 8, 3) := by decide +kernel
theorem dX7_readPlaces_17 : decode cX7_readPlaces 17 = .ok (.aload_n 0, 1) := by decide +kernel
theorem dX7_readPlaces_18 : decode cX7_readPlaces 18 = .ok (.invokevirtual 86, 3) := by decide +kernel
theorem dX7_readPlaces_21 : decode cX7_readPlaces 21 = .ok (.ireturn, 1) := by decide +kernel
theorem dX7_readPlaces_22 : decode cX7_readPlaces 22 = .ok (.aload_n 0, 1) := by decide +kernel
theorem dX7_readPlaces_23 : decode cX7_readPlaces 23 = .ok (.iconst 1, 1) := by decide +kernel
theorem dX7_readPlaces_24 : decode cX7_readPlaces 24 = .ok (.putfield 29, 3) := by decide +kernel
theorem dX7_readPlaces_27 : decode cX7_readPlaces 27 = .ok (.aload_n 0, 1) := by decide +kernel
theorem dX7_readPlaces_28 : decode cX7_readPlaces 28 = .ok (.invokevirtual 60, 3) := by decide +kernel
theorem dX7_readPlaces_31 : decode cX7_readPlaces 31 = .ok (.aload_n 0, 1) := by decide +kernel
theorem dX7_readPlaces_32 : decode cX7_readPlaces 32 = .ok (.iconst 1, 1) := by decide +kernel
theorem dX7_readPlaces_33 : decode cX7_readPlaces 33 = .ok (.iconst 5, 1) := by decide +kernel
theorem dX7_readPlaces_34 : decode cX7_readPlaces 34 = .ok (.invokevirtual 80, 3) := by decide +kernel
theorem dX7_readPlaces_37 : decode cX7_readPlaces 37 = .ok (.istore_n 1, 1) := by decide +kernel
theorem dX7_readPlaces_38 : decode cX7_readPlaces 38 = .ok (.aload_n 0, 1) := by decide +kernel
theorem dX7_readPlaces_39 : decode cX7_readPlaces 39 = .ok (.getfield 25, 3) := by decide +kernel
theorem dX7_readPlaces_42 : decode cX7_readPlaces 42 = .ok (.iconst 1, 1) := by decide +kernel
theorem dX7_readPlaces_43 : decode cX7_readPlaces 43 = .ok (.iload_n 1, 1) := by decide +kernel
theorem dX7_readPlaces_44 : decode cX7_readPlaces 44 = .ok (.invokestatic 124, 3) := by decide +kernel
theorem dX7_readPlaces_47 : decode cX7_readPlaces 47 = .ok (.putfield 127, 3) := by decide +kernel
theorem dX7_readPlaces_50 : decode cX7_readPlaces 50 = .ok (.iload_n 1, 1) := by decide +kernel
theorem dX7_readPlaces_51 : decode cX7_readPlaces 51 = .ok (.iconst 1, 1) := by decide +kernel
theorem dX7_readPlaces_52 : decode cX7_readPlaces 52 = .ok (.if_icmp .lt 7, 3) := by decide +kernel
theorem dX7_readPlaces_55 : decode cX7_readPlaces 55 = .ok (.iconst 1, 1) := by decide +kernel
theorem dX7_readPlaces_56 : decode cX7_readPlaces 56 = .ok (.goto 4, 3) := by decide +kernel
theorem dX7_readPlaces_59 : decode cX7_readPlaces 59 = .ok (.iconst 0, 1) := by decide +kernel
theorem dX7_readPlaces_60 : decode cX7_readPlaces 60 = .ok (.ireturn, 1) := by decide +kernel
def wX7_readPlaces (f : Nat) (Φ : Int → aj_M → Prop) (q0 : List Nat) (m : aj_M) : Prop := rI (m q0 4) ∧ (¬ (m q0 4) = 0 → wX7_cantStand f (fun z1 m1 => (z1 = 0 ∨ z1 = 1) ∧ Φ z1 m1) q0 m) ∧ ((m q0 4) = 0 → rI (m (3 :: q0) 4) ∧ ((m (3 :: q0) 4) ≤ 0 → ∀ m2, m2 = aj_u m q0 4 1 → wX7_step f (fun m3 => wX7_takeNumber f (fun z3 m4 => rI z3 ∧ ∀ m5, m5 = aj_u m4 (3 :: q0) 3 (max 1 z3) → rI z3 ∧ (z3 < 1 → Φ 0 m5) ∧ (¬ (z3 < 1) → Φ 1 m5)) q0 1 5 m3) q0 m2) ∧ (¬ ((m (3 :: q0) 4) ≤ 0) → wX7_cantStand f (fun z4 m6 => (z4 = 0 ∨ z4 = 1) ∧ Φ z4 m6) q0 m))
set_option maxHeartbeats 4000000 in
set_option maxRecDepth 100000 in
theorem sX7_readPlaces {n f : Nat} {Φ : Int → aj_M → Prop} {q0 : List Nat} {m : aj_M} (hq0 : (.inl (7, q0) : aj_R) ∈ aj_pls) (h : wX7_readPlaces f Φ q0 m) : aj_Ct (n + 7) yX7_readPlaces cX7_readPlaces 2 (some .boolean) [vO 7 q0] m (fun r m => ∃ z, r = some (vI z) ∧ Φ z m) := by
  refine aj_met (lv := [some (vO 7 q0), none]) (by decide +kernel) rfl (Nat.le_of_ble_eq_true rfl) (fun X C K => ?_)
  unfold wX7_readPlaces at h
  refine aj_aload_n C dX7_readPlaces_0 rfl ?_
  refine aj_getI C flX7_29 hq0 (by decide) dX7_readPlaces_1 rfl ?_
  obtain ⟨r0, h1, h2⟩ := h
  refine aj_if_ne (tgt := 17) C dX7_readPlaces_4 (by decide) r0 (fun e => ?_) (fun e => ?_)
  · have h := h1 e
    refine aj_aload_n C dX7_readPlaces_17 rfl ?_
    refine aj_callV (rest := []) C mvX7_86 (sX7_cantStand hq0 h) hq0 (aj_np 0 (by decide +kernel) rfl) (Nat.le_of_ble_eq_true rfl) rfl dX7_readPlaces_18 (fun r m1 h => ?_)
    obtain ⟨z1, rfl, h⟩ := h
    exact aj_zret C K h.1 dX7_readPlaces_21 ⟨_, rfl, h.2⟩
  · have h := h2 e
    refine aj_aload_n C dX7_readPlaces_7 rfl ?_
    refine aj_getO (x := 6) (y := 0) C flX7_25 hq0 rfl dX7_readPlaces_8 ?_
    refine aj_getI C flX7_121 (aj_cf (x := 6) (y := 0) (j := 3) hq0 (by decide) rfl) (by decide) dX7_readPlaces_11 rfl ?_
    obtain ⟨r0, h1, h2⟩ := h
    refine aj_if_le (tgt := 22) C dX7_readPlaces_14 (by decide) r0 (fun e => ?_) (fun e => ?_)
    · have h := h1 e
      refine aj_aload_n C dX7_readPlaces_22 rfl ?_
      refine aj_iconst C dX7_readPlaces_23 ?_
      refine aj_putZ C fpX7_29 hq0 (Or.inr rfl) rfl dX7_readPlaces_24 ?_
      refine aj_nm (fun m2 e1 => ?_)
      have h := h m2 e1
      refine aj_aload_n C dX7_readPlaces_27 rfl ?_
      refine aj_callV (rest := []) C mvX7_60 (sX7_step hq0 h) hq0 (aj_np 0 (by decide +kernel) rfl) (Nat.le_of_ble_eq_true rfl) rfl dX7_readPlaces_28 (fun r m3 h => ?_)
      obtain ⟨rfl, h⟩ := h
      refine aj_aload_n C dX7_readPlaces_31 rfl ?_
      refine aj_iconst C dX7_readPlaces_32 ?_
      refine aj_iconst C dX7_readPlaces_33 ?_
      refine aj_callV (rest := []) C mvX7_80 (sX7_takeNumber hq0 h) hq0 (aj_np 2 (by decide +kernel) rfl) (Nat.le_of_ble_eq_true rfl) rfl dX7_readPlaces_34 (fun r m4 h => ?_)
      obtain ⟨z3, rfl, h⟩ := h
      refine aj_istore_n (lv' := [some (vO 7 q0), some (vI z3)]) C dX7_readPlaces_37 (by decide) rfl ?_
      refine aj_aload_n C dX7_readPlaces_38 rfl ?_
      refine aj_getO (x := 6) (y := 0) C flX7_25 hq0 rfl dX7_readPlaces_39 ?_
      refine aj_iconst C dX7_readPlaces_42 ?_
      refine aj_iload_n C dX7_readPlaces_43 rfl ?_
      obtain ⟨r1, h⟩ := h
      refine aj_mmax C msX7_124 (Nat.le_of_ble_eq_true rfl) (by decide) r1 dX7_readPlaces_44 ?_
      refine aj_putI C fpX7_127 (aj_cf (x := 6) (y := 0) (j := 3) hq0 (by decide) rfl) rfl dX7_readPlaces_47 ?_
      refine aj_nm (fun m5 e1 => ?_)
      have h := h m5 e1
      refine aj_iload_n C dX7_readPlaces_50 rfl ?_
      refine aj_iconst C dX7_readPlaces_51 ?_
      obtain ⟨r0, h1, h2⟩ := h
      refine aj_icmp_lt (tgt := 59) C dX7_readPlaces_52 (by decide) r0 (by decide) (fun e => ?_) (fun e => ?_)
      · have h := h1 e
        refine aj_iconst C dX7_readPlaces_59 ?_
        exact aj_zret C K (Or.inl rfl) dX7_readPlaces_60 ⟨_, rfl, h⟩
      · have h := h2 e
        refine aj_iconst C dX7_readPlaces_55 ?_
        refine aj_goto (tgt := 60) C dX7_readPlaces_56 (by decide) ?_
        exact aj_zret C K (Or.inr rfl) dX7_readPlaces_60 ⟨_, rfl, h⟩
    · have h := h2 e
      refine aj_aload_n C dX7_readPlaces_17 rfl ?_
      refine aj_callV (rest := []) C mvX7_86 (sX7_cantStand hq0 h) hq0 (aj_np 0 (by decide +kernel) rfl) (Nat.le_of_ble_eq_true rfl) rfl dX7_readPlaces_18 (fun r m6 h => ?_)
      obtain ⟨z4, rfl, h⟩ := h
      exact aj_zret C K h.1 dX7_readPlaces_21 ⟨_, rfl, h.2⟩
theorem dX7_readArc_0 : decode cX7_readArc 0 = .ok (.aload_n 0, 1) := by decide +kernel
theorem dX7_readArc_1 : decode cX7_readArc 1 = .ok (.getfield 25, 3) := by decide +kernel
theorem dX7_readArc_4 : decode cX7_readArc 4 = .ok (.getfield 121, 3) := by decide +kernel
theorem dX7_readArc_7 : decode cX7_readArc 7 = .ok (.bipush 12, 2) := by decide +kernel
theorem dX7_readArc_9 : decode cX7_readArc 9 = .ok (.if_icmp .lt 9, 3) := by decide +kernel
theorem dX7_readArc_12 : decode cX7_readArc 12 = .ok (.aload_n 0, 1) := by decide +kernel
theorem dX7_readArc_13 : decode cX7_readArc 13 = .ok (.iconst 4, 1) := by decide +kernel
theorem dX7_readArc_14 : decode cX7_readArc 14 = .ok (.invokevirtual 130, 3) := by decide +kernel
theorem dX7_readArc_17 : decode cX7_readArc 17 = .ok (.ireturn, 1) := by decide +kernel
theorem dX7_readArc_18 : decode cX7_readArc 18 = .ok (.aload_n 0, 1) := by decide +kernel
theorem dX7_readArc_19 : decode cX7_readArc 19 = .ok (.invokevirtual 60, 3) := by decide +kernel
theorem dX7_readArc_22 : decode cX7_readArc 22 = .ok (.aload_n 0, 1) := by decide +kernel
theorem dX7_readArc_23 : decode cX7_readArc 23 = .ok (.iconst 0, 1) := by decide +kernel
theorem dX7_readArc_24 : decode cX7_readArc 24 = .ok (.aload_n 0, 1) := by decide +kernel
theorem dX7_readArc_25 : decode cX7_readArc 25 = .ok (.getfield 25, 3) := by decide +kernel
theorem dX7_readArc_28 : decode cX7_readArc 28 = .ok (.getfield 127, 3) := by decide +kernel
theorem dX7_readArc_31 : decode cX7_readArc 31 = .ok (.iconst 1, 1) := by decide +kernel
theorem dX7_readArc_32 : decode cX7_readArc 32 = .ok (.isub, 1) := by decide +kernel
theorem dX7_readArc_33 : decode cX7_readArc 33 = .ok (.invokevirtual 80, 3) := by decide +kernel
theorem dX7_readArc_36 : decode cX7_readArc 36 = .ok (.istore_n 1, 1) := by decide +kernel
theorem dX7_readArc_37 : decode cX7_readArc 37 = .ok (.iload_n 1, 1) := by decide +kernel
theorem dX7_readArc_38 : decode cX7_readArc 38 = .ok (.ifCond .ge 5, 3) := by decide +kernel
theorem dX7_readArc_41 : decode cX7_readArc 41 = .ok (.iconst 0, 1) := by decide +kernel
theorem dX7_readArc_42 : decode cX7_readArc 42 = .ok (.ireturn, 1) := by decide +kernel
theorem dX7_readArc_43 : decode cX7_readArc 43 = .ok (.aload_n 0, 1) := by decide +kernel
theorem dX7_readArc_44 : decode cX7_readArc 44 = .ok (.iconst 0, 1) := by decide +kernel
theorem dX7_readArc_45 : decode cX7_readArc 45 = .ok (.aload_n 0, 1) := by decide +kernel
theorem dX7_readArc_46 : decode cX7_readArc 46 = .ok (.getfield 25, 3) := by decide +kernel
theorem dX7_readArc_49 : decode cX7_readArc 49 = .ok (.getfield 127, 3) := by decide +kernel
theorem dX7_readArc_52 : decode cX7_readArc 52 = .ok (.iconst 1, 1) := by decide +kernel
theorem dX7_readArc_53 : decode cX7_readArc 53 = .ok (.isub, 1) := by decide +kernel
theorem dX7_readArc_54 : decode cX7_readArc 54 = .ok (.invokevirtual 80, 3) := by decide +kernel
theorem dX7_readArc_57 : decode cX7_readArc 57 = .ok (.istore_n 2, 1) := by decide +kernel
theorem dX7_readArc_58 : decode cX7_readArc 58 = .ok (.iload_n 2, 1) := by decide +kernel
theorem dX7_readArc_59 : decode cX7_readArc 59 = .ok (.ifCond .lt 13, 3) := by decide +kernel
theorem dX7_readArc_62 : decode cX7_readArc 62 = .ok (.aload_n 0, 1) := by decide +kernel
theorem dX7_readArc_63 : decode cX7_readArc 63 = .ok (.sipush 209, 3) := by decide +kernel
theorem dX7_readArc_66 : decode cX7_readArc 66 = .ok (.invokevirtual 70, 3) := by decide +kernel
theorem dX7_readArc_69 : decode cX7_readArc 69 = .ok (.ifCond .ne 5, 3) := by decide +kernel
theorem dX7_readArc_72 : decode cX7_readArc 72 = .ok (.iconst 0, 1) := by decide +kernel
theorem dX7_readArc_73 : decode cX7_readArc 73 = .ok (.ireturn, 1) := by decide +kernel
theorem dX7_readArc_74 : decode cX7_readArc 74 = .ok (.aload_n 0, 1) := by decide +kernel
theorem dX7_readArc_75 : decode cX7_readArc 75 = .ok (.iconst 0, 1) := by decide +kernel
theorem dX7_readArc_76 : decode cX7_readArc 76 = .ok (.aload_n 0, 1) := by decide +kernel
theorem dX7_readArc_77 : decode cX7_readArc 77 = .ok (.getfield 25, 3) := by decide +kernel
theorem dX7_readArc_80 : decode cX7_readArc 80 = .ok (.getfield 89, 3) := by decide +kernel
theorem dX7_readArc_83 : decode cX7_readArc 83 = .ok (.getfield 133, 3) := by decide +kernel
theorem dX7_readArc_86 : decode cX7_readArc 86 = .ok (.iconst 1, 1) := by decide +kernel
theorem dX7_readArc_87 : decode cX7_readArc 87 = .ok (.isub, 1) := by decide +kernel
theorem dX7_readArc_88 : decode cX7_readArc 88 = .ok (.invokevirtual 80, 3) := by decide +kernel
theorem dX7_readArc_91 : decode cX7_readArc 91 = .ok (.istore_n 3, 1) := by decide +kernel
theorem dX7_readArc_92 : decode cX7_readArc 92 = .ok (.iload_n 3, 1) := by decide +kernel
theorem dX7_readArc_93 : decode cX7_readArc 93 = .ok (.ifCond .ge 5, 3) := by decide +kernel
theorem dX7_readArc_96 : decode cX7_readArc 96 = .ok (.iconst 0, 1) := by decide +kernel
theorem dX7_readArc_97 : decode cX7_readArc 97 = .ok (.ireturn, 1) := by decide +kernel
theorem dX7_readArc_98 : decode cX7_readArc 98 = .ok (.aload_n 0, 1) := by decide +kernel
theorem dX7_readArc_99 : decode cX7_readArc 99 = .ok (.getfield 25, 3) := by decide +kernel
theorem dX7_readArc_102 : decode cX7_readArc 102 = .ok (.iload_n 1, 1) := by decide +kernel
theorem dX7_readArc_103 : decode cX7_readArc 103 = .ok (.iload_n 2, 1) := by decide +kernel
theorem dX7_readArc_104 : decode cX7_readArc 104 = .ok (.iload_n 3, 1) := by decide +kernel
theorem dX7_readArc_105 : decode cX7_readArc 105 = .ok (.iconst 0, 1) := by decide +kernel
theorem dX7_readArc_106 : decode cX7_readArc 106 = .ok (.invokevirtual 136, 3) := by decide +kernel
theorem dX7_readArc_109 : decode cX7_readArc 109 = .ok (.iconst 1, 1) := by decide +kernel
theorem dX7_readArc_110 : decode cX7_readArc 110 = .ok (.ireturn, 1) := by decide +kernel
def wX7_readArc (f : Nat) (Φ : Int → aj_M → Prop) (q0 : List Nat) (m : aj_M) : Prop := rI (m (3 :: q0) 4) ∧ ((m (3 :: q0) 4) < 12 → wX7_step f (fun m1 => wX7_takeNumber f (fun z2 m2 => rI z2 ∧ (0 ≤ z2 → wX7_takeNumber f (fun z3 m3 => rI z3 ∧ (z3 < 0 → Φ 0 m3) ∧ (¬ (z3 < 0) → wX7_take f (fun z4 m4 => rI z4 ∧ (¬ z4 = 0 → wX7_takeNumber f (fun z5 m5 => rI z5 ∧ (0 ≤ z5 → wX6_addArc f (fun m6 => Φ 1 m6) (3 :: q0) z2 z3 z5 0 m5) ∧ (¬ (0 ≤ z5) → Φ 0 m5)) q0 0 ((m4 (0 :: (3 :: q0)) 0) - 1) m4) ∧ (z4 = 0 → Φ 0 m4)) q0 209 m3)) q0 0 ((m2 (3 :: q0) 3) - 1) m2) ∧ (¬ (0 ≤ z2) → Φ 0 m2)) q0 0 ((m1 (3 :: q0) 3) - 1) m1) q0 m) ∧ (¬ ((m (3 :: q0) 4) < 12) → wX7_faulty f (fun z7 m7 => (z7 = 0 ∨ z7 = 1) ∧ Φ z7 m7) q0 4 m)
set_option maxHeartbeats 4000000 in
set_option maxRecDepth 100000 in
theorem sX7_readArc {n f : Nat} {Φ : Int → aj_M → Prop} {q0 : List Nat} {m : aj_M} (hq0 : (.inl (7, q0) : aj_R) ∈ aj_pls) (h : wX7_readArc f Φ q0 m) : aj_Ct (n + 7) yX7_readArc cX7_readArc 4 (some .boolean) [vO 7 q0] m (fun r m => ∃ z, r = some (vI z) ∧ Φ z m) := by
  refine aj_met (lv := [some (vO 7 q0), none, none, none]) (by decide +kernel) rfl (Nat.le_of_ble_eq_true rfl) (fun X C K => ?_)
  unfold wX7_readArc at h
  refine aj_aload_n C dX7_readArc_0 rfl ?_
  refine aj_getO (x := 6) (y := 0) C flX7_25 hq0 rfl dX7_readArc_1 ?_
  refine aj_getI C flX7_121 (aj_cf (x := 6) (y := 0) (j := 3) hq0 (by decide) rfl) (by decide) dX7_readArc_4 rfl ?_
  refine aj_bipush C dX7_readArc_7 (by decide) ?_
  obtain ⟨r0, h1, h2⟩ := h
  refine aj_icmp_lt (tgt := 18) C dX7_readArc_9 (by decide) r0 (by decide) (fun e => ?_) (fun e => ?_)
  · have h := h1 e
    refine aj_aload_n C dX7_readArc_18 rfl ?_
    refine aj_callV (rest := []) C mvX7_60 (sX7_step hq0 h) hq0 (aj_np 0 (by decide +kernel) rfl) (Nat.le_of_ble_eq_true rfl) rfl dX7_readArc_19 (fun r m1 h => ?_)
    obtain ⟨rfl, h⟩ := h
    refine aj_aload_n C dX7_readArc_22 rfl ?_
    refine aj_iconst C dX7_readArc_23 ?_
    refine aj_aload_n C dX7_readArc_24 rfl ?_
    refine aj_getO (x := 6) (y := 0) C flX7_25 hq0 rfl dX7_readArc_25 ?_
    refine aj_getI C flX7_127 (aj_cf (x := 6) (y := 0) (j := 3) hq0 (by decide) rfl) (by decide) dX7_readArc_28 rfl ?_
    refine aj_iconst C dX7_readArc_31 ?_
    refine aj_isub C dX7_readArc_32 ?_
    refine aj_callV (rest := []) C mvX7_80 (sX7_takeNumber hq0 h) hq0 (aj_np 2 (by decide +kernel) rfl) (Nat.le_of_ble_eq_true rfl) rfl dX7_readArc_33 (fun r m2 h => ?_)
    obtain ⟨z2, rfl, h⟩ := h
    refine aj_istore_n (lv' := [some (vO 7 q0), some (vI z2), none, none]) C dX7_readArc_36 (by decide) rfl ?_
    refine aj_iload_n C dX7_readArc_37 rfl ?_
    obtain ⟨r0, h1, h2⟩ := h
    refine aj_if_ge (tgt := 43) C dX7_readArc_38 (by decide) r0 (fun e => ?_) (fun e => ?_)
    · have h := h1 e
      refine aj_aload_n C dX7_readArc_43 rfl ?_
      refine aj_iconst C dX7_readArc_44 ?_
      refine aj_aload_n C dX7_readArc_45 rfl ?_
      refine aj_getO (x := 6) (y := 0) C flX7_25 hq0 rfl dX7_readArc_46 ?_
      refine aj_getI C flX7_127 (aj_cf (x := 6) (y := 0) (j := 3) hq0 (by decide) rfl) (by decide) dX7_readArc_49 rfl ?_
      refine aj_iconst C dX7_readArc_52 ?_
      refine aj_isub C dX7_readArc_53 ?_
      refine aj_callV (rest := []) C mvX7_80 (sX7_takeNumber hq0 h) hq0 (aj_np 2 (by decide +kernel) rfl) (Nat.le_of_ble_eq_true rfl) rfl dX7_readArc_54 (fun r m3 h => ?_)
      obtain ⟨z3, rfl, h⟩ := h
      refine aj_istore_n (lv' := [some (vO 7 q0), some (vI z2), some (vI z3), none]) C dX7_readArc_57 (by decide) rfl ?_
      refine aj_iload_n C dX7_readArc_58 rfl ?_
      obtain ⟨r0, h1, h2⟩ := h
      refine aj_if_lt (tgt := 72) C dX7_readArc_59 (by decide) r0 (fun e => ?_) (fun e => ?_)
      · have h := h1 e
        refine aj_iconst C dX7_readArc_72 ?_
        exact aj_zret C K (Or.inl rfl) dX7_readArc_73 ⟨_, rfl, h⟩
      · have h := h2 e
        refine aj_aload_n C dX7_readArc_62 rfl ?_
        refine aj_sipush C dX7_readArc_63 (by decide) ?_
        refine aj_callV (rest := []) C mvX7_70 (sX7_take hq0 h) hq0 (aj_np 1 (by decide +kernel) rfl) (Nat.le_of_ble_eq_true rfl) rfl dX7_readArc_66 (fun r m4 h => ?_)
        obtain ⟨z4, rfl, h⟩ := h
        obtain ⟨r0, h1, h2⟩ := h
        refine aj_if_ne (tgt := 74) C dX7_readArc_69 (by decide) r0 (fun e => ?_) (fun e => ?_)
        · have h := h1 e
          refine aj_aload_n C dX7_readArc_74 rfl ?_
          refine aj_iconst C dX7_readArc_75 ?_
          refine aj_aload_n C dX7_readArc_76 rfl ?_
          refine aj_getO (x := 6) (y := 0) C flX7_25 hq0 rfl dX7_readArc_77 ?_
          refine aj_getO (x := 0) (y := 0) C flX7_89 (aj_cf (x := 6) (y := 0) (j := 3) hq0 (by decide) rfl) rfl dX7_readArc_80 ?_
          refine aj_getI C flX7_133 (aj_cf (x := 0) (y := 0) (j := 0) (aj_cf (x := 6) (y := 0) (j := 3) hq0 (by decide) rfl) (by decide) rfl) (by decide) dX7_readArc_83 rfl ?_
          refine aj_iconst C dX7_readArc_86 ?_
          refine aj_isub C dX7_readArc_87 ?_
          refine aj_callV (rest := []) C mvX7_80 (sX7_takeNumber hq0 h) hq0 (aj_np 2 (by decide +kernel) rfl) (Nat.le_of_ble_eq_true rfl) rfl dX7_readArc_88 (fun r m5 h => ?_)
          obtain ⟨z5, rfl, h⟩ := h
          refine aj_istore_n (lv' := [some (vO 7 q0), some (vI z2), some (vI z3), some (vI z5)]) C dX7_readArc_91 (by decide) rfl ?_
          refine aj_iload_n C dX7_readArc_92 rfl ?_
          obtain ⟨r0, h1, h2⟩ := h
          refine aj_if_ge (tgt := 98) C dX7_readArc_93 (by decide) r0 (fun e => ?_) (fun e => ?_)
          · have h := h1 e
            refine aj_aload_n C dX7_readArc_98 rfl ?_
            refine aj_getO (x := 6) (y := 0) C flX7_25 hq0 rfl dX7_readArc_99 ?_
            refine aj_iload_n C dX7_readArc_102 rfl ?_
            refine aj_iload_n C dX7_readArc_103 rfl ?_
            refine aj_iload_n C dX7_readArc_104 rfl ?_
            refine aj_iconst C dX7_readArc_105 ?_
            refine aj_callV (rest := []) C mvX7_136 (sX6_addArc (aj_cf (x := 6) (y := 0) (j := 3) hq0 (by decide) rfl) h) (aj_cf (x := 6) (y := 0) (j := 3) hq0 (by decide) rfl) (aj_np 4 (by decide +kernel) rfl) (Nat.le_of_ble_eq_true rfl) rfl dX7_readArc_106 (fun r m6 h => ?_)
            obtain ⟨rfl, h⟩ := h
            refine aj_iconst C dX7_readArc_109 ?_
            exact aj_zret C K (Or.inr rfl) dX7_readArc_110 ⟨_, rfl, h⟩
          · have h := h2 e
            refine aj_iconst C dX7_readArc_96 ?_
            exact aj_zret C K (Or.inl rfl) dX7_readArc_97 ⟨_, rfl, h⟩
        · have h := h2 e
          refine aj_iconst C dX7_readArc_72 ?_
          exact aj_zret C K (Or.inl rfl) dX7_readArc_73 ⟨_, rfl, h⟩
    · have h := h2 e
      refine aj_iconst C dX7_readArc_41 ?_
      exact aj_zret C K (Or.inl rfl) dX7_readArc_42 ⟨_, rfl, h⟩
  · have h := h2 e
    refine aj_aload_n C dX7_readArc_12 rfl ?_
    refine aj_iconst C dX7_readArc_13 ?_
    refine aj_callV (rest := []) C mvX7_130 (sX7_faulty hq0 h) hq0 (aj_np 1 (by decide +kernel) rfl) (Nat.le_of_ble_eq_true rfl) rfl dX7_readArc_14 (fun r m7 h => ?_)
    obtain ⟨z7, rfl, h⟩ := h
    exact aj_zret C K h.1 dX7_readArc_17 ⟨_, rfl, h.2⟩
theorem dX7_readHalf_0 : decode cX7_readHalf 0 = .ok (.aload_n 0, 1) := by decide +kernel
theorem dX7_readHalf_1 : decode cX7_readHalf 1 = .ok (.getfield 25, 3) := by decide +kernel
theorem dX7_readHalf_4 : decode cX7_readHalf 4 = .ok (.getfield 121, 3) := by decide +kernel
theorem dX7_readHalf_7 : decode cX7_readHalf 7 = .ok (.bipush 12, 2) := by decide +kernel
theorem dX7_readHalf_9 : decode cX7_readHalf 9 = .ok (.if_icmp .lt 9, 3) := by decide +kernel
theorem dX7_readHalf_12 : decode cX7_readHalf 12 = .ok (.aload_n 0, 1) := by decide +kernel
theorem dX7_readHalf_13 : decode cX7_readHalf 13 = .ok (.iconst 4, 1) := by decide +kernel
theorem dX7_readHalf_14 : decode cX7_readHalf 14 = .ok (.invokevirtual 130, 3) := by decide +kernel
theorem dX7_readHalf_17 : decode cX7_readHalf 17 = .ok (.ireturn, 1) := by decide +kernel
theorem dX7_readHalf_18 : decode cX7_readHalf 18 = .ok (.aload_n 0, 1) := by decide +kernel
theorem dX7_readHalf_19 : decode cX7_readHalf 19 = .ok (.invokevirtual 60, 3) := by decide +kernel
theorem dX7_readHalf_22 : decode cX7_readHalf 22 = .ok (.aload_n 0, 1) := by decide +kernel
theorem dX7_readHalf_23 : decode cX7_readHalf 23 = .ok (.iconst 0, 1) := by decide +kernel
theorem dX7_readHalf_24 : decode cX7_readHalf 24 = .ok (.aload_n 0, 1) := by decide +kernel
theorem dX7_readHalf_25 : decode cX7_readHalf 25 = .ok (.getfield 25, 3) := by decide +kernel
theorem dX7_readHalf_28 : decode cX7_readHalf 28 = .ok (.getfield 127, 3) := by decide +kernel
theorem dX7_readHalf_31 : decode cX7_readHalf 31 = .ok (.iconst 1, 1) := by decide +kernel
theorem dX7_readHalf_32 : decode cX7_readHalf 32 = .ok (.isub, 1) := by decide +kernel
theorem dX7_readHalf_33 : decode cX7_readHalf 33 = .ok (.invokevirtual 80, 3) := by decide +kernel
theorem dX7_readHalf_36 : decode cX7_readHalf 36 = .ok (.istore_n 1, 1) := by decide +kernel
theorem dX7_readHalf_37 : decode cX7_readHalf 37 = .ok (.iload_n 1, 1) := by decide +kernel
theorem dX7_readHalf_38 : decode cX7_readHalf 38 = .ok (.ifCond .lt 13, 3) := by decide +kernel
theorem dX7_readHalf_41 : decode cX7_readHalf 41 = .ok (.aload_n 0, 1) := by decide +kernel
theorem dX7_readHalf_42 : decode cX7_readHalf 42 = .ok (.sipush 209, 3) := by decide +kernel
theorem dX7_readHalf_45 : decode cX7_readHalf 45 = .ok (.invokevirtual 70, 3) := by decide +kernel
theorem dX7_readHalf_48 : decode cX7_readHalf 48 = .ok (.ifCond .ne 5, 3) := by decide +kernel
theorem dX7_readHalf_51 : decode cX7_readHalf 51 = .ok (.iconst 0, 1) := by decide +kernel
theorem dX7_readHalf_52 : decode cX7_readHalf 52 = .ok (.ireturn, 1) := by decide +kernel
theorem dX7_readHalf_53 : decode cX7_readHalf 53 = .ok (.aload_n 0, 1) := by decide +kernel
theorem dX7_readHalf_54 : decode cX7_readHalf 54 = .ok (.getfield 39, 3) := by decide +kernel
theorem dX7_readHalf_57 : decode cX7_readHalf 57 = .ok (.iconst 2, 1) := by decide +kernel
theorem dX7_readHalf_58 : decode cX7_readHalf 58 = .ok (.if_icmp .ne 45, 3) := by decide +kernel
theorem dX7_readHalf_61 : decode cX7_readHalf 61 = .ok (.aload_n 0, 1) := by decide +kernel
theorem dX7_readHalf_62 : decode cX7_readHalf 62 = .ok (.getfield 25, 3) := by decide +kernel
theorem dX7_readHalf_65 : decode cX7_readHalf 65 = .ok (.getfield 89, 3) := by decide +kernel
theorem dX7_readHalf_68 : decode cX7_readHalf 68 = .ok (.aload_n 0, 1) := by decide +kernel
theorem dX7_readHalf_69 : decode cX7_readHalf 69 = .ok (.getfield 42, 3) := by decide +kernel
theorem dX7_readHalf_72 : decode cX7_readHalf 72 = .ok (.invokevirtual 140, 3) := by decide +kernel
theorem dX7_readHalf_75 : decode cX7_readHalf 75 = .ok (.ifCond .eq 28, 3) := by decide +kernel
theorem dX7_readHalf_78 : decode cX7_readHalf 78 = .ok (.aload_n 0, 1) := by decide +kernel
theorem dX7_readHalf_79 : decode cX7_readHalf 79 = .ok (.getfield 25, 3) := by decide +kernel
theorem dX7_readHalf_82 : decode cX7_readHalf 82 = .ok (.getfield 89, 3) := by decide +kernel
theorem dX7_readHalf_85 : decode cX7_readHalf 85 = .ok (.getfield 143, 3) := by decide +kernel
theorem dX7_readHalf_88 : decode cX7_readHalf 88 = .ok (.aload_n 0, 1) := by decide +kernel
theorem dX7_readHalf_89 : decode cX7_readHalf 89 = .ok (.getfield 42, 3) := by decide +kernel
theorem dX7_readHalf_92 : decode cX7_readHalf 92 = .ok (.iaload, 1) := by decide +kernel
theorem dX7_readHalf_93 : decode cX7_readHalf 93 = .ok (.iconst 2, 1) := by decide +kernel
theorem dX7_readHalf_94 : decode cX7_readHalf 94 = .ok (.if_icmp .eq 9, 3) := by decide +kernel
theorem dX7_readHalf_97 : decode cX7_readHalf 97 = .ok (.aload_n 0, 1) := by decide +kernel
theorem dX7_readHalf_98 : decode cX7_readHalf 98 = .ok (.iconst 3, 1) := by decide +kernel
theorem dX7_readHalf_99 : decode cX7_readHalf 99 = .ok (.invokevirtual 130, 3) := by decide +kernel
theorem dX7_readHalf_102 : decode cX7_readHalf 102 = .ok (.ireturn, 1) := by decide +kernel
theorem dX7_readHalf_103 : decode cX7_readHalf 103 = .ok (.aload_n 0, 1) := by decide +kernel
theorem dX7_readHalf_104 : decode cX7_readHalf 104 = .ok (.iconst 0, 1) := by decide +kernel
theorem dX7_readHalf_105 : decode cX7_readHalf 105 = .ok (.aload_n 0, 1) := by decide +kernel
theorem dX7_readHalf_106 : decode cX7_readHalf 106 = .ok (.getfield 25, 3) := by decide +kernel
theorem dX7_readHalf_109 : decode cX7_readHalf 109 = .ok (.getfield 89, 3) := by decide +kernel
theorem dX7_readHalf_112 : decode cX7_readHalf 112 = .ok (.getfield 133, 3) := by decide +kernel
theorem dX7_readHalf_115 : decode cX7_readHalf 115 = .ok (.iconst 1, 1) := by decide +kernel
theorem dX7_readHalf_116 : decode cX7_readHalf 116 = .ok (.isub, 1) := by decide +kernel
theorem dX7_readHalf_117 : decode cX7_readHalf 117 = .ok (.invokevirtual 80, 3) := by decide +kernel
theorem dX7_readHalf_120 : decode cX7_readHalf 120 = .ok (.istore_n 2, 1) := by decide +kernel
theorem dX7_readHalf_121 : decode cX7_readHalf 121 = .ok (.iload_n 2, 1) := by decide +kernel
theorem dX7_readHalf_122 : decode cX7_readHalf 122 = .ok (.ifCond .ge 5, 3) := by decide +kernel
theorem dX7_readHalf_125 : decode cX7_readHalf 125 = .ok (.iconst 0, 1) := by decide +kernel
theorem dX7_readHalf_126 : decode cX7_readHalf 126 = .ok (.ireturn, 1) := by decide +kernel
theorem dX7_readHalf_127 : decode cX7_readHalf 127 = .ok (.aload_n 0, 1) := by decide +kernel
theorem dX7_readHalf_128 : decode cX7_readHalf 128 = .ok (.getfield 25, 3) := by decide +kernel
theorem dX7_readHalf_131 : decode cX7_readHalf 131 = .ok (.iload_n 1, 1) := by decide +kernel
theorem dX7_readHalf_132 : decode cX7_readHalf 132 = .ok (.iload_n 1, 1) := by decide +kernel
theorem dX7_readHalf_133 : decode cX7_readHalf 133 = .ok (.iload_n 2, 1) := by decide +kernel
theorem dX7_readHalf_134 : decode cX7_readHalf 134 = .ok (.iconst 1, 1) := by decide +kernel
theorem dX7_readHalf_135 : decode cX7_readHalf 135 = .ok (.invokevirtual 136, 3) := by decide +kernel
theorem dX7_readHalf_138 : decode cX7_readHalf 138 = .ok (.iconst 1, 1) := by decide +kernel
theorem dX7_readHalf_139 : decode cX7_readHalf 139 = .ok (.ireturn, 1) := by decide +kernel
def hX7_readHalf_103 (f : Nat) (Φ : Int → aj_M → Prop) (q0 : List Nat) (v1 : Int) (m : aj_M) : Prop := wX7_takeNumber f (fun z1 m1 => rI z1 ∧ (0 ≤ z1 → wX6_addArc f (fun m2 => Φ 1 m2) (3 :: q0) v1 v1 z1 1 m1) ∧ (¬ (0 ≤ z1) → Φ 0 m1)) q0 0 ((m (0 :: (3 :: q0)) 0) - 1) m
set_option maxHeartbeats 4000000 in
set_option maxRecDepth 100000 in
theorem tX7_readHalf_103 {X : aj_T} {n f : Nat} {Φ : Int → aj_M → Prop} (C : aj_Cx X cX7_readHalf RX7 3 (n + 7)) (K : aj_Rt X (some .boolean) (fun r m => ∃ z, r = some (vI z) ∧ Φ z m)) (q0 : List Nat) (v1 : Int) (m : aj_M) (hq0 : (.inl (7, q0) : aj_R) ∈ aj_pls) (h : hX7_readHalf_103 f Φ q0 v1 m) : aj_J X 103 [some (vO 7 q0), some (vI v1), none] [] m := by
  unfold hX7_readHalf_103 at h
  refine aj_aload_n C dX7_readHalf_103 rfl ?_
  refine aj_iconst C dX7_readHalf_104 ?_
  refine aj_aload_n C dX7_readHalf_105 rfl ?_
  refine aj_getO (x := 6) (y := 0) C flX7_25 hq0 rfl dX7_readHalf_106 ?_
  refine aj_getO (x := 0) (y := 0) C flX7_89 (aj_cf (x := 6) (y := 0) (j := 3) hq0 (by decide) rfl) rfl dX7_readHalf_109 ?_
  refine aj_getI C flX7_133 (aj_cf (x := 0) (y := 0) (j := 0) (aj_cf (x := 6) (y := 0) (j := 3) hq0 (by decide) rfl) (by decide) rfl) (by decide) dX7_readHalf_112 rfl ?_
  refine aj_iconst C dX7_readHalf_115 ?_
  refine aj_isub C dX7_readHalf_116 ?_
  refine aj_callV (rest := []) C mvX7_80 (sX7_takeNumber hq0 h) hq0 (aj_np 2 (by decide +kernel) rfl) (Nat.le_of_ble_eq_true rfl) rfl dX7_readHalf_117 (fun r m1 h => ?_)
  obtain ⟨z1, rfl, h⟩ := h
  refine aj_istore_n (lv' := [some (vO 7 q0), some (vI v1), some (vI z1)]) C dX7_readHalf_120 (by decide) rfl ?_
  refine aj_iload_n C dX7_readHalf_121 rfl ?_
  obtain ⟨r0, h1, h2⟩ := h
  refine aj_if_ge (tgt := 127) C dX7_readHalf_122 (by decide) r0 (fun e => ?_) (fun e => ?_)
  · have h := h1 e
    refine aj_aload_n C dX7_readHalf_127 rfl ?_
    refine aj_getO (x := 6) (y := 0) C flX7_25 hq0 rfl dX7_readHalf_128 ?_
    refine aj_iload_n C dX7_readHalf_131 rfl ?_
    refine aj_iload_n C dX7_readHalf_132 rfl ?_
    refine aj_iload_n C dX7_readHalf_133 rfl ?_
    refine aj_iconst C dX7_readHalf_134 ?_
    refine aj_callV (rest := []) C mvX7_136 (sX6_addArc (aj_cf (x := 6) (y := 0) (j := 3) hq0 (by decide) rfl) h) (aj_cf (x := 6) (y := 0) (j := 3) hq0 (by decide) rfl) (aj_np 4 (by decide +kernel) rfl) (Nat.le_of_ble_eq_true rfl) rfl dX7_readHalf_135 (fun r m2 h => ?_)
    obtain ⟨rfl, h⟩ := h
    refine aj_iconst C dX7_readHalf_138 ?_
    exact aj_zret C K (Or.inr rfl) dX7_readHalf_139 ⟨_, rfl, h⟩
  · have h := h2 e
    refine aj_iconst C dX7_readHalf_125 ?_
    exact aj_zret C K (Or.inl rfl) dX7_readHalf_126 ⟨_, rfl, h⟩
def wX7_readHalf (f : Nat) (Φ : Int → aj_M → Prop) (q0 : List Nat) (m : aj_M) : Prop := rI (m (3 :: q0) 4) ∧ ((m (3 :: q0) 4) < 12 → wX7_step f (fun m1 => wX7_takeNumber f (fun z2 m2 => rI z2 ∧ (z2 < 0 → Φ 0 m2) ∧ (¬ (z2 < 0) → wX7_take f (fun z3 m3 => rI z3 ∧ (¬ z3 = 0 → rI (m3 q0 7) ∧ (¬ (m3 q0 7) = 2 → hX7_readHalf_103 f Φ q0 z2 m3) ∧ ((m3 q0 7) = 2 → wX0_has f (fun z4 m4 => rI z4 ∧ (z4 = 0 → hX7_readHalf_103 f Φ q0 z2 m4) ∧ (¬ (z4 = 0) → (0 ≤ (m4 q0 8) ∧ (m4 q0 8) < 12) ∧ rI (m4 (3 :: (0 :: (3 :: q0))) (m4 q0 8).toNat) ∧ ((m4 (3 :: (0 :: (3 :: q0))) (m4 q0 8).toNat) = 2 → hX7_readHalf_103 f Φ q0 z2 m4) ∧ (¬ ((m4 (3 :: (0 :: (3 :: q0))) (m4 q0 8).toNat) = 2) → wX7_faulty f (fun z5 m5 => (z5 = 0 ∨ z5 = 1) ∧ Φ z5 m5) q0 3 m4))) (0 :: (3 :: q0)) (m3 q0 8) m3)) ∧ (z3 = 0 → Φ 0 m3)) q0 209 m2)) q0 0 ((m1 (3 :: q0) 3) - 1) m1) q0 m) ∧ (¬ ((m (3 :: q0) 4) < 12) → wX7_faulty f (fun z6 m6 => (z6 = 0 ∨ z6 = 1) ∧ Φ z6 m6) q0 4 m)
set_option maxHeartbeats 4000000 in
set_option maxRecDepth 100000 in
theorem sX7_readHalf {n f : Nat} {Φ : Int → aj_M → Prop} {q0 : List Nat} {m : aj_M} (hq0 : (.inl (7, q0) : aj_R) ∈ aj_pls) (h : wX7_readHalf f Φ q0 m) : aj_Ct (n + 7) yX7_readHalf cX7_readHalf 3 (some .boolean) [vO 7 q0] m (fun r m => ∃ z, r = some (vI z) ∧ Φ z m) := by
  refine aj_met (lv := [some (vO 7 q0), none, none]) (by decide +kernel) rfl (Nat.le_of_ble_eq_true rfl) (fun X C K => ?_)
  unfold wX7_readHalf at h
  refine aj_aload_n C dX7_readHalf_0 rfl ?_
  refine aj_getO (x := 6) (y := 0) C flX7_25 hq0 rfl dX7_readHalf_1 ?_
  refine aj_getI C flX7_121 (aj_cf (x := 6) (y := 0) (j := 3) hq0 (by decide) rfl) (by decide) dX7_readHalf_4 rfl ?_
  refine aj_bipush C dX7_readHalf_7 (by decide) ?_
  obtain ⟨r0, h1, h2⟩ := h
  refine aj_icmp_lt (tgt := 18) C dX7_readHalf_9 (by decide) r0 (by decide) (fun e => ?_) (fun e => ?_)
  · have h := h1 e
    refine aj_aload_n C dX7_readHalf_18 rfl ?_
    refine aj_callV (rest := []) C mvX7_60 (sX7_step hq0 h) hq0 (aj_np 0 (by decide +kernel) rfl) (Nat.le_of_ble_eq_true rfl) rfl dX7_readHalf_19 (fun r m1 h => ?_)
    obtain ⟨rfl, h⟩ := h
    refine aj_aload_n C dX7_readHalf_22 rfl ?_
    refine aj_iconst C dX7_readHalf_23 ?_
    refine aj_aload_n C dX7_readHalf_24 rfl ?_
    refine aj_getO (x := 6) (y := 0) C flX7_25 hq0 rfl dX7_readHalf_25 ?_
    refine aj_getI C flX7_127 (aj_cf (x := 6) (y := 0) (j := 3) hq0 (by decide) rfl) (by decide) dX7_readHalf_28 rfl ?_
    refine aj_iconst C dX7_readHalf_31 ?_
    refine aj_isub C dX7_readHalf_32 ?_
    refine aj_callV (rest := []) C mvX7_80 (sX7_takeNumber hq0 h) hq0 (aj_np 2 (by decide +kernel) rfl) (Nat.le_of_ble_eq_true rfl) rfl dX7_readHalf_33 (fun r m2 h => ?_)
    obtain ⟨z2, rfl, h⟩ := h
    refine aj_istore_n (lv' := [some (vO 7 q0), some (vI z2), none]) C dX7_readHalf_36 (by decide) rfl ?_
    refine aj_iload_n C dX7_readHalf_37 rfl ?_
    obtain ⟨r0, h1, h2⟩ := h
    refine aj_if_lt (tgt := 51) C dX7_readHalf_38 (by decide) r0 (fun e => ?_) (fun e => ?_)
    · have h := h1 e
      refine aj_iconst C dX7_readHalf_51 ?_
      exact aj_zret C K (Or.inl rfl) dX7_readHalf_52 ⟨_, rfl, h⟩
    · have h := h2 e
      refine aj_aload_n C dX7_readHalf_41 rfl ?_
      refine aj_sipush C dX7_readHalf_42 (by decide) ?_
      refine aj_callV (rest := []) C mvX7_70 (sX7_take hq0 h) hq0 (aj_np 1 (by decide +kernel) rfl) (Nat.le_of_ble_eq_true rfl) rfl dX7_readHalf_45 (fun r m3 h => ?_)
      obtain ⟨z3, rfl, h⟩ := h
      obtain ⟨r0, h1, h2⟩ := h
      refine aj_if_ne (tgt := 53) C dX7_readHalf_48 (by decide) r0 (fun e => ?_) (fun e => ?_)
      · have h := h1 e
        refine aj_aload_n C dX7_readHalf_53 rfl ?_
        refine aj_getI C flX7_39 hq0 (by decide) dX7_readHalf_54 rfl ?_
        refine aj_iconst C dX7_readHalf_57 ?_
        obtain ⟨r0, h1, h2⟩ := h
        refine aj_icmp_ne (tgt := 103) C dX7_readHalf_58 (by decide) r0 (by decide) (fun e => ?_) (fun e => ?_)
        · have h := h1 e
          exact tX7_readHalf_103 C K q0 z2 _ hq0 h
        · have h := h2 e
          refine aj_aload_n C dX7_readHalf_61 rfl ?_
          refine aj_getO (x := 6) (y := 0) C flX7_25 hq0 rfl dX7_readHalf_62 ?_
          refine aj_getO (x := 0) (y := 0) C flX7_89 (aj_cf (x := 6) (y := 0) (j := 3) hq0 (by decide) rfl) rfl dX7_readHalf_65 ?_
          refine aj_aload_n C dX7_readHalf_68 rfl ?_
          refine aj_getI C flX7_42 hq0 (by decide) dX7_readHalf_69 rfl ?_
          refine aj_callV (rest := []) C mvX7_140 (sX0_has (aj_cf (x := 0) (y := 0) (j := 0) (aj_cf (x := 6) (y := 0) (j := 3) hq0 (by decide) rfl) (by decide) rfl) h) (aj_cf (x := 0) (y := 0) (j := 0) (aj_cf (x := 6) (y := 0) (j := 3) hq0 (by decide) rfl) (by decide) rfl) (aj_np 1 (by decide +kernel) rfl) (Nat.le_of_ble_eq_true rfl) rfl dX7_readHalf_72 (fun r m4 h => ?_)
          obtain ⟨z4, rfl, h⟩ := h
          obtain ⟨r0, h1, h2⟩ := h
          refine aj_if_eq (tgt := 103) C dX7_readHalf_75 (by decide) r0 (fun e => ?_) (fun e => ?_)
          · have h := h1 e
            exact tX7_readHalf_103 C K q0 z2 _ hq0 h
          · have h := h2 e
            refine aj_aload_n C dX7_readHalf_78 rfl ?_
            refine aj_getO (x := 6) (y := 0) C flX7_25 hq0 rfl dX7_readHalf_79 ?_
            refine aj_getO (x := 0) (y := 0) C flX7_89 (aj_cf (x := 6) (y := 0) (j := 3) hq0 (by decide) rfl) rfl dX7_readHalf_82 ?_
            refine aj_getA (x := 0) (y := 12) C flX7_143 (aj_cf (x := 0) (y := 0) (j := 0) (aj_cf (x := 6) (y := 0) (j := 3) hq0 (by decide) rfl) (by decide) rfl) rfl dX7_readHalf_85 ?_
            refine aj_aload_n C dX7_readHalf_88 rfl ?_
            refine aj_getI C flX7_42 hq0 (by decide) dX7_readHalf_89 rfl ?_
            obtain ⟨r0, h⟩ := h
            refine aj_iald C (aj_ca (e := 0) (n := 12) (j := 3) (aj_cf (x := 0) (y := 0) (j := 0) (aj_cf (x := 6) (y := 0) (j := 3) hq0 (by decide) rfl) (by decide) rfl) (by decide) rfl) (by decide) r0 dX7_readHalf_92 rfl ?_
            refine aj_iconst C dX7_readHalf_93 ?_
            obtain ⟨r0, h1, h2⟩ := h
            refine aj_icmp_eq (tgt := 103) C dX7_readHalf_94 (by decide) r0 (by decide) (fun e => ?_) (fun e => ?_)
            · have h := h1 e
              exact tX7_readHalf_103 C K q0 z2 _ hq0 h
            · have h := h2 e
              refine aj_aload_n C dX7_readHalf_97 rfl ?_
              refine aj_iconst C dX7_readHalf_98 ?_
              refine aj_callV (rest := []) C mvX7_130 (sX7_faulty hq0 h) hq0 (aj_np 1 (by decide +kernel) rfl) (Nat.le_of_ble_eq_true rfl) rfl dX7_readHalf_99 (fun r m5 h => ?_)
              obtain ⟨z5, rfl, h⟩ := h
              exact aj_zret C K h.1 dX7_readHalf_102 ⟨_, rfl, h.2⟩
      · have h := h2 e
        refine aj_iconst C dX7_readHalf_51 ?_
        exact aj_zret C K (Or.inl rfl) dX7_readHalf_52 ⟨_, rfl, h⟩
  · have h := h2 e
    refine aj_aload_n C dX7_readHalf_12 rfl ?_
    refine aj_iconst C dX7_readHalf_13 ?_
    refine aj_callV (rest := []) C mvX7_130 (sX7_faulty hq0 h) hq0 (aj_np 1 (by decide +kernel) rfl) (Nat.le_of_ble_eq_true rfl) rfl dX7_readHalf_14 (fun r m6 h => ?_)
    obtain ⟨z6, rfl, h⟩ := h
    exact aj_zret C K h.1 dX7_readHalf_17 ⟨_, rfl, h.2⟩
theorem dX7_addAtom_0 : decode cX7_addAtom 0 = .ok (.aload_n 0, 1) := by decide +kernel
theorem dX7_addAtom_1 : decode cX7_addAtom 1 = .ok (.getfield 25, 3) := by decide +kernel
theorem dX7_addAtom_4 : decode cX7_addAtom 4 = .ok (.getfield 147, 3) := by decide +kernel
theorem dX7_addAtom_7 : decode cX7_addAtom 7 = .ok (.iload_n 1, 1) := by decide +kernel
theorem dX7_addAtom_8 : decode cX7_addAtom 8 = .ok (.iload_n 2, 1) := by decide +kernel
theorem dX7_addAtom_9 : decode cX7_addAtom 9 = .ok (.invokevirtual 175, 3) := by decide +kernel
theorem dX7_addAtom_12 : decode cX7_addAtom 12 = .ok (.aload_n 0, 1) := by decide +kernel
theorem dX7_addAtom_13 : decode cX7_addAtom 13 = .ok (.invokevirtual 60, 3) := by decide +kernel
theorem dX7_addAtom_16 : decode cX7_addAtom 16 = .ok (.iconst 1, 1) := by decide +kernel
theorem dX7_addAtom_17 : decode cX7_addAtom 17 = .ok (.ireturn, 1) := by decide +kernel
def wX7_addAtom (f : Nat) (Φ : Int → aj_M → Prop) (q0 : List Nat) (v1 : Int) (v2 : Int) (m : aj_M) : Prop := wX4_add f (fun m1 => wX7_step f (fun m2 => Φ 1 m2) q0 m1) (1 :: (3 :: q0)) v1 v2 m
set_option maxHeartbeats 4000000 in
set_option maxRecDepth 100000 in
theorem sX7_addAtom {n f : Nat} {Φ : Int → aj_M → Prop} {q0 : List Nat} {v1 : Int} {v2 : Int} {m : aj_M} (hq0 : (.inl (7, q0) : aj_R) ∈ aj_pls) (h : wX7_addAtom f Φ q0 v1 v2 m) : aj_Ct (n + 6) yX7_addAtom cX7_addAtom 3 (some .boolean) [vO 7 q0, vI v1, vI v2] m (fun r m => ∃ z, r = some (vI z) ∧ Φ z m) := by
  refine aj_met (lv := [some (vO 7 q0), some (vI v1), some (vI v2)]) (by decide +kernel) rfl (Nat.le_of_ble_eq_true rfl) (fun X C K => ?_)
  unfold wX7_addAtom at h
  refine aj_aload_n C dX7_addAtom_0 rfl ?_
  refine aj_getO (x := 6) (y := 0) C flX7_25 hq0 rfl dX7_addAtom_1 ?_
  refine aj_getO (x := 4) (y := 0) C flX7_147 (aj_cf (x := 6) (y := 0) (j := 3) hq0 (by decide) rfl) rfl dX7_addAtom_4 ?_
  refine aj_iload_n C dX7_addAtom_7 rfl ?_
  refine aj_iload_n C dX7_addAtom_8 rfl ?_
  refine aj_callV (rest := []) C mvX7_175 (sX4_add (aj_cf (x := 4) (y := 0) (j := 1) (aj_cf (x := 6) (y := 0) (j := 3) hq0 (by decide) rfl) (by decide) rfl) h) (aj_cf (x := 4) (y := 0) (j := 1) (aj_cf (x := 6) (y := 0) (j := 3) hq0 (by decide) rfl) (by decide) rfl) (aj_np 2 (by decide +kernel) rfl) (Nat.le_of_ble_eq_true rfl) rfl dX7_addAtom_9 (fun r m1 h => ?_)
  obtain ⟨rfl, h⟩ := h
  refine aj_aload_n C dX7_addAtom_12 rfl ?_
  refine aj_callV (rest := []) C mvX7_60 (sX7_step hq0 h) hq0 (aj_np 0 (by decide +kernel) rfl) (Nat.le_of_ble_eq_true rfl) rfl dX7_addAtom_13 (fun r m2 h => ?_)
  obtain ⟨rfl, h⟩ := h
  refine aj_iconst C dX7_addAtom_16 ?_
  exact aj_zret C K (Or.inr rfl) dX7_addAtom_17 ⟨_, rfl, h⟩
