theorem dJ6_bitCount_0f7a4_0 : decode cJ6_bitCount_0f7a4 0 = .ok (.iload_n 0, 1) := by decide +kernel
theorem dJ6_bitCount_0f7a4_1 : decode cJ6_bitCount_0f7a4 1 = .ok (.iload_n 0, 1) := by decide +kernel
theorem dJ6_bitCount_0f7a4_2 : decode cJ6_bitCount_0f7a4 2 = .ok (.iconst 1, 1) := by decide +kernel
theorem dJ6_bitCount_0f7a4_3 : decode cJ6_bitCount_0f7a4 3 = .ok (.iushr, 1) := by decide +kernel
theorem dJ6_bitCount_0f7a4_4 : decode cJ6_bitCount_0f7a4 4 = .ok (.ldc_w 265, 3) := by decide +kernel
theorem dJ6_bitCount_0f7a4_7 : decode cJ6_bitCount_0f7a4 7 = .ok (.iand, 1) := by decide +kernel
theorem dJ6_bitCount_0f7a4_8 : decode cJ6_bitCount_0f7a4 8 = .ok (.isub, 1) := by decide +kernel
theorem dJ6_bitCount_0f7a4_9 : decode cJ6_bitCount_0f7a4 9 = .ok (.istore_n 0, 1) := by decide +kernel
theorem dJ6_bitCount_0f7a4_10 : decode cJ6_bitCount_0f7a4 10 = .ok (.iload_n 0, 1) := by decide +kernel
theorem dJ6_bitCount_0f7a4_11 : decode cJ6_bitCount_0f7a4 11 = .ok (.ldc_w 266, 3) := by decide +kernel
theorem dJ6_bitCount_0f7a4_14 : decode cJ6_bitCount_0f7a4 14 = .ok (.iand, 1) := by decide +kernel
theorem dJ6_bitCount_0f7a4_15 : decode cJ6_bitCount_0f7a4 15 = .ok (.iload_n 0, 1) := by decide +kernel
theorem dJ6_bitCount_0f7a4_16 : decode cJ6_bitCount_0f7a4 16 = .ok (.iconst 2, 1) := by decide +kernel
theorem dJ6_bitCount_0f7a4_17 : decode cJ6_bitCount_0f7a4 17 = .ok (.iushr, 1) := by decide +kernel
theorem dJ6_bitCount_0f7a4_18 : decode cJ6_bitCount_0f7a4 18 = .ok (.ldc_w 266, 3) := by decide +kernel
theorem dJ6_bitCount_0f7a4_21 : decode cJ6_bitCount_0f7a4 21 = .ok (.iand, 1) := by decide +kernel
theorem dJ6_bitCount_0f7a4_22 : decode cJ6_bitCount_0f7a4 22 = .ok (.iadd, 1) := by decide +kernel
theorem dJ6_bitCount_0f7a4_23 : decode cJ6_bitCount_0f7a4 23 = .ok (.istore_n 0, 1) := by decide +kernel
theorem dJ6_bitCount_0f7a4_24 : decode cJ6_bitCount_0f7a4 24 = .ok (.iload_n 0, 1) := by decide +kernel
theorem dJ6_bitCount_0f7a4_25 : decode cJ6_bitCount_0f7a4 25 = .ok (.iload_n 0, 1) := by decide +kernel
theorem dJ6_bitCount_0f7a4_26 : decode cJ6_bitCount_0f7a4 26 = .ok (.iconst 4, 1) := by decide +kernel
theorem dJ6_bitCount_0f7a4_27 : decode cJ6_bitCount_0f7a4 27 = .ok (.iushr, 1) := by decide +kernel
theorem dJ6_bitCount_0f7a4_28 : decode cJ6_bitCount_0f7a4 28 = .ok (.iadd, 1) := by decide +kernel
theorem dJ6_bitCount_0f7a4_29 : decode cJ6_bitCount_0f7a4 29 = .ok (.ldc_w 267, 3) := by decide +kernel
theorem dJ6_bitCount_0f7a4_32 : decode cJ6_bitCount_0f7a4 32 = .ok (.iand, 1) := by decide +kernel
theorem dJ6_bitCount_0f7a4_33 : decode cJ6_bitCount_0f7a4 33 = .ok (.istore_n 0, 1) := by decide +kernel
theorem dJ6_bitCount_0f7a4_34 : decode cJ6_bitCount_0f7a4 34 = .ok (.iload_n 0, 1) := by decide +kernel
theorem dJ6_bitCount_0f7a4_35 : decode cJ6_bitCount_0f7a4 35 = .ok (.iload_n 0, 1) := by decide +kernel
theorem dJ6_bitCount_0f7a4_36 : decode cJ6_bitCount_0f7a4 36 = .ok (.bipush 8, 2) := by decide +kernel
theorem dJ6_bitCount_0f7a4_38 : decode cJ6_bitCount_0f7a4 38 = .ok (.iushr, 1) := by decide +kernel
theorem dJ6_bitCount_0f7a4_39 : decode cJ6_bitCount_0f7a4 39 = .ok (.iadd, 1) := by decide +kernel
theorem dJ6_bitCount_0f7a4_40 : decode cJ6_bitCount_0f7a4 40 = .ok (.istore_n 0, 1) := by decide +kernel
theorem dJ6_bitCount_0f7a4_41 : decode cJ6_bitCount_0f7a4 41 = .ok (.iload_n 0, 1) := by decide +kernel
theorem dJ6_bitCount_0f7a4_42 : decode cJ6_bitCount_0f7a4 42 = .ok (.iload_n 0, 1) := by decide +kernel
theorem dJ6_bitCount_0f7a4_43 : decode cJ6_bitCount_0f7a4 43 = .ok (.bipush 16, 2) := by decide +kernel
theorem dJ6_bitCount_0f7a4_45 : decode cJ6_bitCount_0f7a4 45 = .ok (.iushr, 1) := by decide +kernel
theorem dJ6_bitCount_0f7a4_46 : decode cJ6_bitCount_0f7a4 46 = .ok (.iadd, 1) := by decide +kernel
theorem dJ6_bitCount_0f7a4_47 : decode cJ6_bitCount_0f7a4 47 = .ok (.istore_n 0, 1) := by decide +kernel
theorem dJ6_bitCount_0f7a4_48 : decode cJ6_bitCount_0f7a4 48 = .ok (.iload_n 0, 1) := by decide +kernel
theorem dJ6_bitCount_0f7a4_49 : decode cJ6_bitCount_0f7a4 49 = .ok (.bipush 63, 2) := by decide +kernel
theorem dJ6_bitCount_0f7a4_51 : decode cJ6_bitCount_0f7a4 51 = .ok (.iand, 1) := by decide +kernel
theorem dJ6_bitCount_0f7a4_52 : decode cJ6_bitCount_0f7a4 52 = .ok (.ireturn, 1) := by decide +kernel
def wJ6_bitCount_0f7a4 (f : Nat) (Φ : Int → aj_M → Prop) (v0 : Int) (m : aj_M) : Prop := Φ (aj_and (((aj_and (((aj_and (v0 - (aj_and (aj_ushr v0 1) 1431655765)) 858993459) + (aj_and (aj_ushr (v0 - (aj_and (aj_ushr v0 1) 1431655765)) 2) 858993459)) + (aj_ushr ((aj_and (v0 - (aj_and (aj_ushr v0 1) 1431655765)) 858993459) + (aj_and (aj_ushr (v0 - (aj_and (aj_ushr v0 1) 1431655765)) 2) 858993459)) 4)) 252645135) + (aj_ushr (aj_and (((aj_and (v0 - (aj_and (aj_ushr v0 1) 1431655765)) 858993459) + (aj_and (aj_ushr (v0 - (aj_and (aj_ushr v0 1) 1431655765)) 2) 858993459)) + (aj_ushr ((aj_and (v0 - (aj_and (aj_ushr v0 1) 1431655765)) 858993459) + (aj_and (aj_ushr (v0 - (aj_and (aj_ushr v0 1) 1431655765)) 2) 858993459)) 4)) 252645135) 8)) + (aj_ushr ((aj_and (((aj_and (v0 - (aj_and (aj_ushr v0 1) 1431655765)) 858993459) + (aj_and (aj_ushr (v0 - (aj_and (aj_ushr v0 1) 1431655765)) 2) 858993459)) + (aj_ushr ((aj_and (v0 - (aj_and (aj_ushr v0 1) 1431655765)) 858993459) + (aj_and (aj_ushr (v0 - (aj_and (aj_ushr v0 1) 1431655765)) 2) 858993459)) 4)) 252645135) + (aj_ushr (aj_and (((aj_and (v0 - (aj_and (aj_ushr v0 1) 1431655765)) 858993459) + (aj_and (aj_ushr (v0 - (aj_and (aj_ushr v0 1) 1431655765)) 2) 858993459)) + (aj_ushr ((aj_and (v0 - (aj_and (aj_ushr v0 1) 1431655765)) 858993459) + (aj_and (aj_ushr (v0 - (aj_and (aj_ushr v0 1) 1431655765)) 2) 858993459)) 4)) 252645135) 8)) 16)) 63) m
set_option maxHeartbeats 4000000 in
set_option maxRecDepth 100000 in
theorem sJ6_bitCount_0f7a4 {n f : Nat} {Φ : Int → aj_M → Prop} {v0 : Int} {m : aj_M}  (h : wJ6_bitCount_0f7a4 f Φ v0 m) : aj_Ct n yJ6_bitCount_0f7a4 cJ6_bitCount_0f7a4 1 (some .int) [vI v0] m (fun r m => ∃ z, r = some (vI z) ∧ Φ z m) := by
  refine aj_met (lv := [some (vI v0)]) (by decide +kernel) rfl (Nat.le_of_ble_eq_true rfl) (fun X C K => ?_)
  unfold wJ6_bitCount_0f7a4 at h
  refine aj_iload_n C dJ6_bitCount_0f7a4_0 rfl ?_
  refine aj_iload_n C dJ6_bitCount_0f7a4_1 rfl ?_
  refine aj_iconst C dJ6_bitCount_0f7a4_2 ?_
  refine aj_iushr C dJ6_bitCount_0f7a4_3 ?_
  refine aj_ldcw (z := 1431655765) C (aj_mem 1377 (by decide +kernel) (by decide +kernel)) rfl dJ6_bitCount_0f7a4_4 ?_
  refine aj_iand C dJ6_bitCount_0f7a4_7 ?_
  refine aj_isub C dJ6_bitCount_0f7a4_8 ?_
  refine aj_istore_n (lv' := [some (vI (v0 - (aj_and (aj_ushr v0 1) 1431655765)))]) C dJ6_bitCount_0f7a4_9 (by decide) rfl ?_
  refine aj_iload_n C dJ6_bitCount_0f7a4_10 rfl ?_
  refine aj_ldcw (z := 858993459) C (aj_mem 1378 (by decide +kernel) (by decide +kernel)) rfl dJ6_bitCount_0f7a4_11 ?_
  refine aj_iand C dJ6_bitCount_0f7a4_14 ?_
  refine aj_iload_n C dJ6_bitCount_0f7a4_15 rfl ?_
  refine aj_iconst C dJ6_bitCount_0f7a4_16 ?_
  refine aj_iushr C dJ6_bitCount_0f7a4_17 ?_
  refine aj_ldcw (z := 858993459) C (aj_mem 1378 (by decide +kernel) (by decide +kernel)) rfl dJ6_bitCount_0f7a4_18 ?_
  refine aj_iand C dJ6_bitCount_0f7a4_21 ?_
  refine aj_iadd C dJ6_bitCount_0f7a4_22 ?_
  refine aj_istore_n (lv' := [some (vI ((aj_and (v0 - (aj_and (aj_ushr v0 1) 1431655765)) 858993459) + (aj_and (aj_ushr (v0 - (aj_and (aj_ushr v0 1) 1431655765)) 2) 858993459)))]) C dJ6_bitCount_0f7a4_23 (by decide) rfl ?_
  refine aj_iload_n C dJ6_bitCount_0f7a4_24 rfl ?_
  refine aj_iload_n C dJ6_bitCount_0f7a4_25 rfl ?_
  refine aj_iconst C dJ6_bitCount_0f7a4_26 ?_
  refine aj_iushr C dJ6_bitCount_0f7a4_27 ?_
  refine aj_iadd C dJ6_bitCount_0f7a4_28 ?_
  refine aj_ldcw (z := 252645135) C (aj_mem 1379 (by decide +kernel) (by decide +kernel)) rfl dJ6_bitCount_0f7a4_29 ?_
  refine aj_iand C dJ6_bitCount_0f7a4_32 ?_
  refine aj_istore_n (lv' := [some (vI (aj_and (((aj_and (v0 - (aj_and (aj_ushr v0 1) 1431655765)) 858993459) + (aj_and (aj_ushr (v0 - (aj_and (aj_ushr v0 1) 1431655765)) 2) 858993459)) + (aj_ushr ((aj_and (v0 - (aj_and (aj_ushr v0 1) 1431655765)) 858993459) + (aj_and (aj_ushr (v0 - (aj_and (aj_ushr v0 1) 1431655765)) 2) 858993459)) 4)) 252645135))]) C dJ6_bitCount_0f7a4_33 (by decide) rfl ?_
  refine aj_iload_n C dJ6_bitCount_0f7a4_34 rfl ?_
  refine aj_iload_n C dJ6_bitCount_0f7a4_35 rfl ?_
  refine aj_bipush C dJ6_bitCount_0f7a4_36 (by decide) ?_
  refine aj_iushr C dJ6_bitCount_0f7a4_38 ?_
  refine aj_iadd C dJ6_bitCount_0f7a4_39 ?_
  refine aj_istore_n (lv' := [some (vI ((aj_and (((aj_and (v0 - (aj_and (aj_ushr v0 1) 1431655765)) 858993459) + (aj_and (aj_ushr (v0 - (aj_and (aj_ushr v0 1) 1431655765)) 2) 858993459)) + (aj_ushr ((aj_and (v0 - (aj_and (aj_ushr v0 1) 1431655765)) 858993459) + (aj_and (aj_ushr (v0 - (aj_and (aj_ushr v0 1) 1431655765)) 2) 858993459)) 4)) 252645135) + (aj_ushr (aj_and (((aj_and (v0 - (aj_and (aj_ushr v0 1) 1431655765)) 858993459) + (aj_and (aj_ushr (v0 - (aj_and (aj_ushr v0 1) 1431655765)) 2) 858993459)) + (aj_ushr ((aj_and (v0 - (aj_and (aj_ushr v0 1) 1431655765)) 858993459) + (aj_and (aj_ushr (v0 - (aj_and (aj_ushr v0 1) 1431655765)) 2) 858993459)) 4)) 252645135) 8)))]) C dJ6_bitCount_0f7a4_40 (by decide) rfl ?_
  refine aj_iload_n C dJ6_bitCount_0f7a4_41 rfl ?_
  refine aj_iload_n C dJ6_bitCount_0f7a4_42 rfl ?_
  refine aj_bipush C dJ6_bitCount_0f7a4_43 (by decide) ?_
  refine aj_iushr C dJ6_bitCount_0f7a4_45 ?_
  refine aj_iadd C dJ6_bitCount_0f7a4_46 ?_
  refine aj_istore_n (lv' := [some (vI (((aj_and (((aj_and (v0 - (aj_and (aj_ushr v0 1) 1431655765)) 858993459) + (aj_and (aj_ushr (v0 - (aj_and (aj_ushr v0 1) 1431655765)) 2) 858993459)) + (aj_ushr ((aj_and (v0 - (aj_and (aj_ushr v0 1) 1431655765)) 858993459) + (aj_and (aj_ushr (v0 - (aj_and (aj_ushr v0 1) 1431655765)) 2) 858993459)) 4)) 252645135) + (aj_ushr (aj_and (((aj_and (v0 - (aj_and (aj_ushr v0 1) 1431655765)) 858993459) + (aj_and (aj_ushr (v0 - (aj_and (aj_ushr v0 1) 1431655765)) 2) 858993459)) + (aj_ushr ((aj_and (v0 - (aj_and (aj_ushr v0 1) 1431655765)) 858993459) + (aj_and (aj_ushr (v0 - (aj_and (aj_ushr v0 1) 1431655765)) 2) 858993459)) 4)) 252645135) 8)) + (aj_ushr ((aj_and (((aj_and (v0 - (aj_and (aj_ushr v0 1) 1431655765)) 858993459) + (aj_and (aj_ushr (v0 - (aj_and (aj_ushr v0 1) 1431655765)) 2) 858993459)) + (aj_ushr ((aj_and (v0 - (aj_and (aj_ushr v0 1) 1431655765)) 858993459) + (aj_and (aj_ushr (v0 - (aj_and (aj_ushr v0 1) 1431655765)) 2) 858993459)) 4)) 252645135) + (aj_ushr (aj_and (((aj_and (v0 - (aj_and (aj_ushr v0 1) 1431655765)) 858993459) + (aj_and (aj_ushr (v0 - (aj_and (aj_ushr v0 1) 1431655765)) 2) 858993459)) + (aj_ushr ((aj_and (v0 - (aj_and (aj_ushr v0 1) 1431655765)) 858993459) + (aj_and (aj_ushr (v0 - (aj_and (aj_ushr v0 1) 1431655765)) 2) 858993459)) 4)) 252645135) 8)) 16)))]) C dJ6_bitCount_0f7a4_47 (by decide) rfl ?_
  refine aj_iload_n C dJ6_bitCount_0f7a4_48 rfl ?_
  refine aj_bipush C dJ6_bitCount_0f7a4_49 (by decide) ?_
  refine aj_iand C dJ6_bitCount_0f7a4_51 ?_
  exact aj_iret C K dJ6_bitCount_0f7a4_52 ⟨_, rfl, h⟩
theorem dX2_isUnfilled_0 : decode cX2_isUnfilled 0 = .ok (.aload_n 0, 1) := by decide +kernel
theorem dX2_isUnfilled_1 : decode cX2_isUnfilled 1 = .ok (.getfield 30, 3) := by decide +kernel
theorem dX2_isUnfilled_4 : decode cX2_isUnfilled 4 = .ok (.iload_n 1, 1) := by decide +kernel
theorem dX2_isUnfilled_5 : decode cX2_isUnfilled 5 = .ok (.iaload, 1) := by decide +kernel
theorem dX2_isUnfilled_6 : decode cX2_isUnfilled 6 = .ok (.invokestatic 59, 3) := by decide +kernel
theorem dX2_isUnfilled_9 : decode cX2_isUnfilled 9 = .ok (.aload_n 0, 1) := by decide +kernel
theorem dX2_isUnfilled_10 : decode cX2_isUnfilled 10 = .ok (.getfield 11, 3) := by decide +kernel
theorem dX2_isUnfilled_13 : decode cX2_isUnfilled 13 = .ok (.if_icmp .ge 7, 3) := by decide +kernel
theorem dX2_isUnfilled_16 : decode cX2_isUnfilled 16 = .ok (.iconst 1, 1) := by decide +kernel
theorem dX2_isUnfilled_17 : decode cX2_isUnfilled 17 = .ok (.goto 4, 3) := by decide +kernel
theorem dX2_isUnfilled_20 : decode cX2_isUnfilled 20 = .ok (.iconst 0, 1) := by decide +kernel
theorem dX2_isUnfilled_21 : decode cX2_isUnfilled 21 = .ok (.ireturn, 1) := by decide +kernel
def wX2_isUnfilled (f : Nat) (Φ : Int → aj_M → Prop) (q0 : List Nat) (v1 : Int) (m : aj_M) : Prop := (0 ≤ v1 ∧ v1 < 14) ∧ wJ6_bitCount_0f7a4 f (fun z1 m1 => rI z1 ∧ rI (m1 q0 0) ∧ ((m1 q0 0) ≤ z1 → Φ 0 m1) ∧ (¬ ((m1 q0 0) ≤ z1) → Φ 1 m1)) (m (6 :: q0) v1.toNat) m
set_option maxHeartbeats 4000000 in
set_option maxRecDepth 100000 in
theorem sX2_isUnfilled {n f : Nat} {Φ : Int → aj_M → Prop} {q0 : List Nat} {v1 : Int} {m : aj_M} (hq0 : (.inl (2, q0) : aj_R) ∈ aj_pls) (h : wX2_isUnfilled f Φ q0 v1 m) : aj_Ct (n + 1) yX2_isUnfilled cX2_isUnfilled 2 (some .boolean) [vO 2 q0, vI v1] m (fun r m => ∃ z, r = some (vI z) ∧ Φ z m) := by
  refine aj_met (lv := [some (vO 2 q0), some (vI v1)]) (by decide +kernel) rfl (Nat.le_of_ble_eq_true rfl) (fun X C K => ?_)
  unfold wX2_isUnfilled at h
  refine aj_aload_n C dX2_isUnfilled_0 rfl ?_
  refine aj_getA (x := 0) (y := 14) C flX2_30 hq0 rfl dX2_isUnfilled_1 ?_
  refine aj_iload_n C dX2_isUnfilled_4 rfl ?_
  obtain ⟨r0, h⟩ := h
  refine aj_iald C (aj_ca (e := 0) (n := 14) (j := 6) hq0 (by decide) rfl) (by decide) r0 dX2_isUnfilled_5 rfl ?_
  refine aj_callS (rest := []) C msX2_59 (sJ6_bitCount_0f7a4  h) (aj_np 1 (by decide +kernel) rfl) (Nat.le_of_ble_eq_true rfl) rfl dX2_isUnfilled_6 (fun r m1 h => ?_)
  obtain ⟨z1, rfl, h⟩ := h
  refine aj_aload_n C dX2_isUnfilled_9 rfl ?_
  refine aj_getI C flX2_11 hq0 (by decide) dX2_isUnfilled_10 rfl ?_
  obtain ⟨r0, r1, h1, h2⟩ := h
  refine aj_icmp_ge (tgt := 20) C dX2_isUnfilled_13 (by decide) r0 r1 (fun e => ?_) (fun e => ?_)
  · have h := h1 e
    refine aj_iconst C dX2_isUnfilled_20 ?_
    exact aj_zret C K (Or.inl rfl) dX2_isUnfilled_21 ⟨_, rfl, h⟩
  · have h := h2 e
    refine aj_iconst C dX2_isUnfilled_16 ?_
    refine aj_goto (tgt := 21) C dX2_isUnfilled_17 (by decide) ?_
    exact aj_zret C K (Or.inr rfl) dX2_isUnfilled_21 ⟨_, rfl, h⟩
theorem dX2_leastUnfilled_0 : decode cX2_leastUnfilled 0 = .ok (.iconst 0, 1) := by decide +kernel
theorem dX2_leastUnfilled_1 : decode cX2_leastUnfilled 1 = .ok (.istore_n 1, 1) := by decide +kernel
theorem dX2_leastUnfilled_2 : decode cX2_leastUnfilled 2 = .ok (.iload_n 1, 1) := by decide +kernel
theorem dX2_leastUnfilled_3 : decode cX2_leastUnfilled 3 = .ok (.aload_n 0, 1) := by decide +kernel
theorem dX2_leastUnfilled_4 : decode cX2_leastUnfilled 4 = .ok (.getfield 18, 3) := by decide +kernel
theorem dX2_leastUnfilled_7 : decode cX2_leastUnfilled 7 = .ok (.if_icmp .ge 19, 3) := by decide +kernel
theorem dX2_leastUnfilled_10 : decode cX2_leastUnfilled 10 = .ok (.aload_n 0, 1) := by decide +kernel
theorem dX2_leastUnfilled_11 : decode cX2_leastUnfilled 11 = .ok (.iload_n 1, 1) := by decide +kernel
theorem dX2_leastUnfilled_12 : decode cX2_leastUnfilled 12 = .ok (.invokevirtual 64, 3) := by decide +kernel
theorem dX2_leastUnfilled_15 : decode cX2_leastUnfilled 15 = .ok (.ifCond .eq 5, 3) := by decide +kernel
theorem dX2_leastUnfilled_18 : decode cX2_leastUnfilled 18 = .ok (.iload_n 1, 1) := by decide +kernel
theorem dX2_leastUnfilled_19 : decode cX2_leastUnfilled 19 = .ok (.ireturn, 1) := by decide +kernel
theorem dX2_leastUnfilled_20 : decode cX2_leastUnfilled 20 = .ok (.iinc 1 1, 3) := by decide +kernel
theorem dX2_leastUnfilled_23 : decode cX2_leastUnfilled 23 = .ok (.goto (-21), 3) := by decide +kernel
theorem dX2_leastUnfilled_26 : decode cX2_leastUnfilled 26 = .ok (.iconst (-1), 1) := by decide +kernel
theorem dX2_leastUnfilled_27 : decode cX2_leastUnfilled 27 = .ok (.ireturn, 1) := by decide +kernel
def hX2_leastUnfilled_2 (f : Nat) (Φ : Int → aj_M → Prop) : Nat → List Nat → Int → aj_M → Prop
  | 0, _, _, _ => False
  | k + 1, q0, v1, m => rI v1 ∧ rI (m q0 2) ∧ ((m q0 2) ≤ v1 → Φ (-1) m) ∧ (¬ ((m q0 2) ≤ v1) → wX2_isUnfilled f (fun z1 m1 => rI z1 ∧ (z1 = 0 → hX2_leastUnfilled_2 f Φ k q0 (v1 + 1) m1) ∧ (¬ (z1 = 0) → Φ v1 m1)) q0 v1 m)
set_option maxHeartbeats 4000000 in
set_option maxRecDepth 100000 in
theorem tX2_leastUnfilled_2 {X : aj_T} {n f : Nat} {Φ : Int → aj_M → Prop} (C : aj_Cx X cX2_leastUnfilled RX2 2 (n + 2)) (K : aj_Rt X (some .int) (fun r m => ∃ z, r = some (vI z) ∧ Φ z m)) : ∀ (k : Nat) (q0 : List Nat) (v1 : Int) (m : aj_M) (hq0 : (.inl (2, q0) : aj_R) ∈ aj_pls), hX2_leastUnfilled_2 f Φ k q0 v1 m → aj_J X 2 [some (vO 2 q0), some (vI v1)] [] m := by
  intro k
  induction k with
  | zero =>
    intro q0 v1 m _ h
    exact h.elim
  | succ k ih =>
    intro q0 v1 m hq0 h
    unfold hX2_leastUnfilled_2 at h
    refine aj_iload_n C dX2_leastUnfilled_2 rfl ?_
    refine aj_aload_n C dX2_leastUnfilled_3 rfl ?_
    refine aj_getI C flX2_18 hq0 (by decide) dX2_leastUnfilled_4 rfl ?_
    obtain ⟨r0, r1, h1, h2⟩ := h
    refine aj_icmp_ge (tgt := 26) C dX2_leastUnfilled_7 (by decide) r0 r1 (fun e => ?_) (fun e => ?_)
    · have h := h1 e
      refine aj_iconst C dX2_leastUnfilled_26 ?_
      exact aj_iret C K dX2_leastUnfilled_27 ⟨_, rfl, h⟩
    · have h := h2 e
      refine aj_aload_n C dX2_leastUnfilled_10 rfl ?_
      refine aj_iload_n C dX2_leastUnfilled_11 rfl ?_
      refine aj_callV (rest := []) C mvX2_64 (sX2_isUnfilled hq0 h) hq0 (aj_np 1 (by decide +kernel) rfl) (Nat.le_of_ble_eq_true rfl) rfl dX2_leastUnfilled_12 (fun r m1 h => ?_)
      obtain ⟨z1, rfl, h⟩ := h
      obtain ⟨r0, h1, h2⟩ := h
      refine aj_if_eq (tgt := 20) C dX2_leastUnfilled_15 (by decide) r0 (fun e => ?_) (fun e => ?_)
      · have h := h1 e
        refine aj_iinc (lv' := [some (vO 2 q0), some (vI (v1 + 1))]) C dX2_leastUnfilled_20 rfl (by decide) rfl ?_
        refine aj_goto (tgt := 2) C dX2_leastUnfilled_23 (by decide) ?_
        exact ih q0 (v1 + 1) _ hq0 h
      · have h := h2 e
        refine aj_iload_n C dX2_leastUnfilled_18 rfl ?_
        exact aj_iret C K dX2_leastUnfilled_19 ⟨_, rfl, h⟩
def wX2_leastUnfilled (f : Nat) (Φ : Int → aj_M → Prop) (q0 : List Nat) (m : aj_M) : Prop := hX2_leastUnfilled_2 f Φ f q0 0 m
set_option maxHeartbeats 4000000 in
set_option maxRecDepth 100000 in
theorem sX2_leastUnfilled {n f : Nat} {Φ : Int → aj_M → Prop} {q0 : List Nat} {m : aj_M} (hq0 : (.inl (2, q0) : aj_R) ∈ aj_pls) (h : wX2_leastUnfilled f Φ q0 m) : aj_Ct (n + 2) yX2_leastUnfilled cX2_leastUnfilled 2 (some .int) [vO 2 q0] m (fun r m => ∃ z, r = some (vI z) ∧ Φ z m) := by
  refine aj_met (lv := [some (vO 2 q0), none]) (by decide +kernel) rfl (Nat.le_of_ble_eq_true rfl) (fun X C K => ?_)
  unfold wX2_leastUnfilled at h
  refine aj_iconst C dX2_leastUnfilled_0 ?_
  refine aj_istore_n (lv' := [some (vO 2 q0), some (vI 0)]) C dX2_leastUnfilled_1 (by decide) rfl ?_
  exact tX2_leastUnfilled_2 C K f q0 0 _ hq0 h
theorem dX2_tooNear_0 : decode cX2_tooNear 0 = .ok (.iconst 1, 1) := by decide +kernel
theorem dX2_tooNear_1 : decode cX2_tooNear 1 = .ok (.iload_n 1, 1) := by decide +kernel
theorem dX2_tooNear_2 : decode cX2_tooNear 2 = .ok (.ishl, 1) := by decide +kernel
theorem dX2_tooNear_3 : decode cX2_tooNear 3 = .ok (.istore_n 2, 1) := by decide +kernel
theorem dX2_tooNear_4 : decode cX2_tooNear 4 = .ok (.iconst 0, 1) := by decide +kernel
theorem dX2_tooNear_5 : decode cX2_tooNear 5 = .ok (.istore_n 3, 1) := by decide +kernel
theorem dX2_tooNear_6 : decode cX2_tooNear 6 = .ok (.iload_n 3, 1) := by decide +kernel
theorem dX2_tooNear_7 : decode cX2_tooNear 7 = .ok (.aload_n 0, 1) := by decide +kernel
theorem dX2_tooNear_8 : decode cX2_tooNear 8 = .ok (.getfield 15, 3) := by decide +kernel
theorem dX2_tooNear_11 : decode cX2_tooNear 11 = .ok (.iconst 2, 1) := by decide +kernel
theorem dX2_tooNear_12 : decode cX2_tooNear 12 = .ok (.isub, 1) := by decide +kernel
theorem dX2_tooNear_13 : decode cX2_tooNear 13 = .ok (.if_icmp .ge 67, 3) := by decide +kernel
theorem dX2_tooNear_16 : decode cX2_tooNear 16 = .ok (.iload_n 2, 1) := by decide +kernel
theorem dX2_tooNear_17 : decode cX2_tooNear 17 = .ok (.istore 4, 2) := by decide +kernel
theorem dX2_tooNear_19 : decode cX2_tooNear 19 = .ok (.iconst 0, 1) := by decide +kernel
theorem dX2_tooNear_20 : decode cX2_tooNear 20 = .ok (.istore 5, 2) := by decide +kernel
theorem dX2_tooNear_22 : decode cX2_tooNear 22 = .ok (.iload 5, 2) := by decide +kernel
theorem dX2_tooNear_24 : decode cX2_tooNear 24 = .ok (.aload_n 0, 1) := by decide +kernel
theorem dX2_tooNear_25 : decode cX2_tooNear 25 = .ok (.getfield 18, 3) := by decide +kernel
theorem dX2_tooNear_28 : decode cX2_tooNear 28 = .ok (.if_icmp .ge 35, 3) := by decide +kernel
theorem dX2_tooNear_31 : decode cX2_tooNear 31 = .ok (.iload 4, 2) := by decide +kernel
theorem dX2_tooNear_33 : decode cX2_tooNear 33 = .ok (.iload_n 2, 1) := by decide +kernel
theorem dX2_tooNear_34 : decode cX2_tooNear 34 = .ok (.iload 5, 2) := by decide +kernel
theorem dX2_tooNear_36 : decode cX2_tooNear 36 = .ok (.ishr, 1) := by decide +kernel
theorem dX2_tooNear_37 : decode cX2_tooNear 37 = .ok (.iconst 1, 1) := by decide +kernel
theorem dX2_tooNear_38 : decode cX2_tooNear 38 = .ok (.iand, 1) := by decide +kernel
theorem dX2_tooNear_39 : decode cX2_tooNear 39 = .ok (.iconst 1, 1) := by decide +kernel
theorem dX2_tooNear_40 : decode cX2_tooNear 40 = .ok (.if_icmp .ne 13, 3) := by decide +kernel
theorem dX2_tooNear_43 : decode cX2_tooNear 43 = .ok (.aload_n 0, 1) := by decide +kernel
theorem dX2_tooNear_44 : decode cX2_tooNear 44 = .ok (.getfield 30, 3) := by decide +kernel
theorem dX2_tooNear_47 : decode cX2_tooNear 47 = .ok (.iload 5, 2) := by decide +kernel
theorem dX2_tooNear_49 : decode cX2_tooNear 49 = .ok (.iaload, 1) := by decide +kernel
theorem dX2_tooNear_50 : decode cX2_tooNear 50 = .ok (.goto 4, 3) := by decide +kernel
theorem dX2_tooNear_53 : decode cX2_tooNear 53 = .ok (.iconst 0, 1) := by decide +kernel
theorem dX2_tooNear_54 : decode cX2_tooNear 54 = .ok (.ior, 1) := by decide +kernel
theorem dX2_tooNear_55 : decode cX2_tooNear 55 = .ok (.istore 4, 2) := by decide +kernel
theorem dX2_tooNear_57 : decode cX2_tooNear 57 = .ok (.iinc 5 1, 3) := by decide +kernel
theorem dX2_tooNear_60 : decode cX2_tooNear 60 = .ok (.goto (-38), 3) := by decide +kernel
theorem dX2_tooNear_63 : decode cX2_tooNear 63 = .ok (.iload 4, 2) := by decide +kernel
theorem dX2_tooNear_65 : decode cX2_tooNear 65 = .ok (.iload_n 2, 1) := by decide +kernel
theorem dX2_tooNear_66 : decode cX2_tooNear 66 = .ok (.if_icmp .ne 5, 3) := by decide +kernel
theorem dX2_tooNear_69 : decode cX2_tooNear 69 = .ok (.iload_n 2, 1) := by decide +kernel
theorem dX2_tooNear_70 : decode cX2_tooNear 70 = .ok (.ireturn, 1) := by decide +kernel
theorem dX2_tooNear_71 : decode cX2_tooNear 71 = .ok (.iload 4, 2) := by decide +kernel
theorem dX2_tooNear_73 : decode cX2_tooNear 73 = .ok (.istore_n 2, 1) := by decide +kernel
theorem dX2_tooNear_74 : decode cX2_tooNear 74 = .ok (.iinc 3 1, 3) := by decide +kernel
theorem dX2_tooNear_77 : decode cX2_tooNear 77 = .ok (.goto (-71), 3) := by decide +kernel
theorem dX2_tooNear_80 : decode cX2_tooNear 80 = .ok (.iload_n 2, 1) := by decide +kernel
theorem dX2_tooNear_81 : decode cX2_tooNear 81 = .ok (.ireturn, 1) := by decide +kernel
def hX2_tooNear_22 (f : Nat) (Φ : Int → aj_M → Prop) (K6 : List Nat → Int → Int → aj_M → Prop) : Nat → List Nat → Int → Int → Int → Int → aj_M → Prop
  | 0, _, _, _, _, _, _ => False
  | k + 1, q0, v2, v3, v4, v5, m => rI v5 ∧ rI (m q0 2) ∧ ((m q0 2) ≤ v5 → rI v4 ∧ rI v2 ∧ (¬ v4 = v2 → K6 q0 v4 (v3 + 1) m) ∧ (v4 = v2 → Φ v2 m)) ∧ (¬ ((m q0 2) ≤ v5) → rI (aj_and (aj_shr v2 v5) 1) ∧ (¬ (aj_and (aj_shr v2 v5) 1) = 1 → hX2_tooNear_22 f Φ K6 k q0 v2 v3 (aj_or v4 0) (v5 + 1) m) ∧ ((aj_and (aj_shr v2 v5) 1) = 1 → (0 ≤ v5 ∧ v5 < 14) ∧ hX2_tooNear_22 f Φ K6 k q0 v2 v3 (aj_or v4 (m (6 :: q0) v5.toNat)) (v5 + 1) m))
set_option maxHeartbeats 4000000 in
set_option maxRecDepth 100000 in
theorem tX2_tooNear_22 {X : aj_T} {n f : Nat} {Φ : Int → aj_M → Prop} (C : aj_Cx X cX2_tooNear RX2 6 n) (K : aj_Rt X (some .int) (fun r m => ∃ z, r = some (vI z) ∧ Φ z m)) {K6 : List Nat → Int → Int → aj_M → Prop} (HK6 : ∀ (q0 : List Nat) (v2 : Int) (v3 : Int) (m : aj_M) (hq0 : (.inl (2, q0) : aj_R) ∈ aj_pls), K6 q0 v2 v3 m → aj_J X 6 [some (vO 2 q0), none, some (vI v2), some (vI v3), none, none] [] m) : ∀ (k : Nat) (q0 : List Nat) (v2 : Int) (v3 : Int) (v4 : Int) (v5 : Int) (m : aj_M) (hq0 : (.inl (2, q0) : aj_R) ∈ aj_pls), hX2_tooNear_22 f Φ K6 k q0 v2 v3 v4 v5 m → aj_J X 22 [some (vO 2 q0), none, some (vI v2), some (vI v3), some (vI v4), some (vI v5)] [] m := by
  intro k
  induction k with
  | zero =>
    intro q0 v2 v3 v4 v5 m _ h
    exact h.elim
  | succ k ih =>
    intro q0 v2 v3 v4 v5 m hq0 h
    unfold hX2_tooNear_22 at h
    refine aj_iload C dX2_tooNear_22 rfl ?_
    refine aj_aload_n C dX2_tooNear_24 rfl ?_
    refine aj_getI C flX2_18 hq0 (by decide) dX2_tooNear_25 rfl ?_
    obtain ⟨r0, r1, h1, h2⟩ := h
    refine aj_icmp_ge (tgt := 63) C dX2_tooNear_28 (by decide) r0 r1 (fun e => ?_) (fun e => ?_)
    · have h := h1 e
      refine aj_iload C dX2_tooNear_63 rfl ?_
      refine aj_iload_n C dX2_tooNear_65 rfl ?_
      obtain ⟨r0, r1, h1, h2⟩ := h
      refine aj_icmp_ne (tgt := 71) C dX2_tooNear_66 (by decide) r0 r1 (fun e => ?_) (fun e => ?_)
      · have h := h1 e
        refine aj_iload C dX2_tooNear_71 rfl ?_
        refine aj_istore_n (lv' := [some (vO 2 q0), none, some (vI v4), some (vI v3), some (vI v4), some (vI v5)]) C dX2_tooNear_73 (by decide) rfl ?_
        refine aj_iinc (lv' := [some (vO 2 q0), none, some (vI v4), some (vI (v3 + 1)), some (vI v4), some (vI v5)]) C dX2_tooNear_74 rfl (by decide) rfl ?_
        refine aj_goto (tgt := 6) C dX2_tooNear_77 (by decide) ?_
        refine aj_wk (lv' := [some (vO 2 q0), none, some (vI v4), some (vI (v3 + 1)), none, none]) (⟨rfl, ⟨rfl, ⟨rfl, trivial⟩⟩⟩) ?_
        exact HK6 q0 v4 (v3 + 1) _ hq0 h
      · have h := h2 e
        refine aj_iload_n C dX2_tooNear_69 rfl ?_
        exact aj_iret C K dX2_tooNear_70 ⟨_, rfl, h⟩
    · have h := h2 e
      refine aj_iload C dX2_tooNear_31 rfl ?_
      refine aj_iload_n C dX2_tooNear_33 rfl ?_
      refine aj_iload C dX2_tooNear_34 rfl ?_
      refine aj_ishr C dX2_tooNear_36 ?_
      refine aj_iconst C dX2_tooNear_37 ?_
      refine aj_iand C dX2_tooNear_38 ?_
      refine aj_iconst C dX2_tooNear_39 ?_
      obtain ⟨r0, h1, h2⟩ := h
      refine aj_icmp_ne (tgt := 53) C dX2_tooNear_40 (by decide) r0 (by decide) (fun e => ?_) (fun e => ?_)
      · have h := h1 e
        refine aj_iconst C dX2_tooNear_53 ?_
        refine aj_ior C dX2_tooNear_54 ?_
        refine aj_istore (lv' := [some (vO 2 q0), none, some (vI v2), some (vI v3), some (vI (aj_or v4 0)), some (vI v5)]) C dX2_tooNear_55 (by decide) rfl ?_
        refine aj_iinc (lv' := [some (vO 2 q0), none, some (vI v2), some (vI v3), some (vI (aj_or v4 0)), some (vI (v5 + 1))]) C dX2_tooNear_57 rfl (by decide) rfl ?_
        refine aj_goto (tgt := 22) C dX2_tooNear_60 (by decide) ?_
        exact ih q0 v2 v3 (aj_or v4 0) (v5 + 1) _ hq0 h
      · have h := h2 e
        refine aj_aload_n C dX2_tooNear_43 rfl ?_
        refine aj_getA (x := 0) (y := 14) C flX2_30 hq0 rfl dX2_tooNear_44 ?_
        refine aj_iload C dX2_tooNear_47 rfl ?_
        obtain ⟨r0, h⟩ := h
        refine aj_iald C (aj_ca (e := 0) (n := 14) (j := 6) hq0 (by decide) rfl) (by decide) r0 dX2_tooNear_49 rfl ?_
        refine aj_goto (tgt := 54) C dX2_tooNear_50 (by decide) ?_
        refine aj_ior C dX2_tooNear_54 ?_
        refine aj_istore (lv' := [some (vO 2 q0), none, some (vI v2), some (vI v3), some (vI (aj_or v4 (m (6 :: q0) v5.toNat))), some (vI v5)]) C dX2_tooNear_55 (by decide) rfl ?_
        refine aj_iinc (lv' := [some (vO 2 q0), none, some (vI v2), some (vI v3), some (vI (aj_or v4 (m (6 :: q0) v5.toNat))), some (vI (v5 + 1))]) C dX2_tooNear_57 rfl (by decide) rfl ?_
        refine aj_goto (tgt := 22) C dX2_tooNear_60 (by decide) ?_
        exact ih q0 v2 v3 (aj_or v4 (m (6 :: q0) v5.toNat)) (v5 + 1) _ hq0 h
def hX2_tooNear_6 (f : Nat) (Φ : Int → aj_M → Prop) : Nat → List Nat → Int → Int → aj_M → Prop
  | 0, _, _, _, _ => False
  | k + 1, q0, v2, v3, m => rI v3 ∧ rI ((m q0 1) - 2) ∧ (((m q0 1) - 2) ≤ v3 → Φ v2 m) ∧ (¬ (((m q0 1) - 2) ≤ v3) → hX2_tooNear_22 f Φ (fun q0 v2 v3 m => hX2_tooNear_6 f Φ k q0 v2 v3 m) f q0 v2 v3 v2 0 m)
set_option maxHeartbeats 4000000 in
set_option maxRecDepth 100000 in
theorem tX2_tooNear_6 {X : aj_T} {n f : Nat} {Φ : Int → aj_M → Prop} (C : aj_Cx X cX2_tooNear RX2 6 n) (K : aj_Rt X (some .int) (fun r m => ∃ z, r = some (vI z) ∧ Φ z m)) : ∀ (k : Nat) (q0 : List Nat) (v2 : Int) (v3 : Int) (m : aj_M) (hq0 : (.inl (2, q0) : aj_R) ∈ aj_pls), hX2_tooNear_6 f Φ k q0 v2 v3 m → aj_J X 6 [some (vO 2 q0), none, some (vI v2), some (vI v3), none, none] [] m := by
  intro k
  induction k with
  | zero =>
    intro q0 v2 v3 m _ h
    exact h.elim
  | succ k ih =>
    intro q0 v2 v3 m hq0 h
    unfold hX2_tooNear_6 at h
    refine aj_iload_n C dX2_tooNear_6 rfl ?_
    refine aj_aload_n C dX2_tooNear_7 rfl ?_
    refine aj_getI C flX2_15 hq0 (by decide) dX2_tooNear_8 rfl ?_
    refine aj_iconst C dX2_tooNear_11 ?_
    refine aj_isub C dX2_tooNear_12 ?_
    obtain ⟨r0, r1, h1, h2⟩ := h
    refine aj_icmp_ge (tgt := 80) C dX2_tooNear_13 (by decide) r0 r1 (fun e => ?_) (fun e => ?_)
    · have h := h1 e
      refine aj_iload_n C dX2_tooNear_80 rfl ?_
      exact aj_iret C K dX2_tooNear_81 ⟨_, rfl, h⟩
    · have h := h2 e
      refine aj_iload_n C dX2_tooNear_16 rfl ?_
      refine aj_istore (lv' := [some (vO 2 q0), none, some (vI v2), some (vI v3), some (vI v2), none]) C dX2_tooNear_17 (by decide) rfl ?_
      refine aj_iconst C dX2_tooNear_19 ?_
      refine aj_istore (lv' := [some (vO 2 q0), none, some (vI v2), some (vI v3), some (vI v2), some (vI 0)]) C dX2_tooNear_20 (by decide) rfl ?_
      exact tX2_tooNear_22 C K (fun q0 v2 v3 m hq0 hh => ih q0 v2 v3 m hq0 hh) f q0 v2 v3 v2 0 _ hq0 h
def wX2_tooNear (f : Nat) (Φ : Int → aj_M → Prop) (q0 : List Nat) (v1 : Int) (m : aj_M) : Prop := hX2_tooNear_6 f Φ f q0 (aj_shl 1 v1) 0 m
set_option maxHeartbeats 4000000 in
set_option maxRecDepth 100000 in
theorem sX2_tooNear {n f : Nat} {Φ : Int → aj_M → Prop} {q0 : List Nat} {v1 : Int} {m : aj_M} (hq0 : (.inl (2, q0) : aj_R) ∈ aj_pls) (h : wX2_tooNear f Φ q0 v1 m) : aj_Ct n yX2_tooNear cX2_tooNear 6 (some .int) [vO 2 q0, vI v1] m (fun r m => ∃ z, r = some (vI z) ∧ Φ z m) := by
  refine aj_met (lv := [some (vO 2 q0), some (vI v1), none, none, none, none]) (by decide +kernel) rfl (Nat.le_of_ble_eq_true rfl) (fun X C K => ?_)
  unfold wX2_tooNear at h
  refine aj_iconst C dX2_tooNear_0 ?_
  refine aj_iload_n C dX2_tooNear_1 rfl ?_
  refine aj_ishl C dX2_tooNear_2 ?_
  refine aj_istore_n (lv' := [some (vO 2 q0), some (vI v1), some (vI (aj_shl 1 v1)), none, none, none]) C dX2_tooNear_3 (by decide) rfl ?_
  refine aj_iconst C dX2_tooNear_4 ?_
  refine aj_istore_n (lv' := [some (vO 2 q0), some (vI v1), some (vI (aj_shl 1 v1)), some (vI 0), none, none]) C dX2_tooNear_5 (by decide) rfl ?_
  refine aj_wk (lv' := [some (vO 2 q0), none, some (vI (aj_shl 1 v1)), some (vI 0), none, none]) (⟨rfl, ⟨rfl, ⟨rfl, trivial⟩⟩⟩) ?_
  exact tX2_tooNear_6 C K f q0 (aj_shl 1 v1) 0 _ hq0 h
theorem dX2_partnersOf_0 : decode cX2_partnersOf 0 = .ok (.aload_n 0, 1) := by decide +kernel
theorem dX2_partnersOf_1 : decode cX2_partnersOf 1 = .ok (.getfield 34, 3) := by decide +kernel
theorem dX2_partnersOf_4 : decode cX2_partnersOf 4 = .ok (.iload_n 1, 1) := by decide +kernel
theorem dX2_partnersOf_5 : decode cX2_partnersOf 5 = .ok (.iaload, 1) := by decide +kernel
theorem dX2_partnersOf_6 : decode cX2_partnersOf 6 = .ok (.aload_n 0, 1) := by decide +kernel
theorem dX2_partnersOf_7 : decode cX2_partnersOf 7 = .ok (.iload_n 1, 1) := by decide +kernel
theorem dX2_partnersOf_8 : decode cX2_partnersOf 8 = .ok (.invokevirtual 68, 3) := by decide +kernel
theorem dX2_partnersOf_11 : decode cX2_partnersOf 11 = .ok (.ior, 1) := by decide +kernel
theorem dX2_partnersOf_12 : decode cX2_partnersOf 12 = .ok (.istore_n 2, 1) := by decide +kernel
theorem dX2_partnersOf_13 : decode cX2_partnersOf 13 = .ok (.iconst 0, 1) := by decide +kernel
theorem dX2_partnersOf_14 : decode cX2_partnersOf 14 = .ok (.istore_n 3, 1) := by decide +kernel
theorem dX2_partnersOf_15 : decode cX2_partnersOf 15 = .ok (.iconst 0, 1) := by decide +kernel
theorem dX2_partnersOf_16 : decode cX2_partnersOf 16 = .ok (.istore 4, 2) := by decide +kernel
theorem dX2_partnersOf_18 : decode cX2_partnersOf 18 = .ok (.iload_n 1, 1) := by decide +kernel
theorem dX2_partnersOf_19 : decode cX2_partnersOf 19 = .ok (.iconst 1, 1) := by decide +kernel
theorem dX2_partnersOf_20 : decode cX2_partnersOf 20 = .ok (.iadd, 1) := by decide +kernel
theorem dX2_partnersOf_21 : decode cX2_partnersOf 21 = .ok (.istore 5, 2) := by decide +kernel
theorem dX2_partnersOf_23 : decode cX2_partnersOf 23 = .ok (.iload 5, 2) := by decide +kernel
theorem dX2_partnersOf_25 : decode cX2_partnersOf 25 = .ok (.aload_n 0, 1) := by decide +kernel
theorem dX2_partnersOf_26 : decode cX2_partnersOf 26 = .ok (.getfield 18, 3) := by decide +kernel
theorem dX2_partnersOf_29 : decode cX2_partnersOf 29 = .ok (.if_icmp .ge 97, 3) := by decide +kernel
theorem dX2_partnersOf_32 : decode cX2_partnersOf 32 = .ok (.aload_n 0, 1) := by decide +kernel
theorem dX2_partnersOf_33 : decode cX2_partnersOf 33 = .ok (.iload 5, 2) := by decide +kernel
theorem dX2_partnersOf_35 : decode cX2_partnersOf 35 = .ok (.invokevirtual 64, 3) := by decide +kernel
theorem dX2_partnersOf_38 : decode cX2_partnersOf 38 = .ok (.ifCond .eq 16, 3) := by decide +kernel
theorem dX2_partnersOf_41 : decode cX2_partnersOf 41 = .ok (.iload_n 2, 1) := by decide +kernel
theorem dX2_partnersOf_42 : decode cX2_partnersOf 42 = .ok (.iload 5, 2) := by decide +kernel
theorem dX2_partnersOf_44 : decode cX2_partnersOf 44 = .ok (.ishr, 1) := by decide +kernel
theorem dX2_partnersOf_45 : decode cX2_partnersOf 45 = .ok (.iconst 1, 1) := by decide +kernel
theorem dX2_partnersOf_46 : decode cX2_partnersOf 46 = .ok (.iand, 1) := by decide +kernel
theorem dX2_partnersOf_47 : decode cX2_partnersOf 47 = .ok (.ifCond .ne 7, 3) := by decide +kernel
theorem dX2_partnersOf_50 : decode cX2_partnersOf 50 = .ok (.iconst 1, 1) := by decide +kernel
theorem dX2_partnersOf_51 : decode cX2_partnersOf 51 = .ok (.goto 4, 3) := by decide +kernel
theorem dX2_partnersOf_54 : decode cX2_partnersOf 54 = .ok (.iconst 0, 1) := by decide +kernel
theorem dX2_partnersOf_55 : decode cX2_partnersOf 55 = .ok (.istore 6, 2) := by decide +kernel
theorem dX2_partnersOf_57 : decode cX2_partnersOf 57 = .ok (.aload_n 0, 1) := by decide +kernel
theorem dX2_partnersOf_58 : decode cX2_partnersOf 58 = .ok (.getfield 30, 3) := by decide +kernel
theorem dX2_partnersOf_61 : decode cX2_partnersOf 61 = .ok (.iload 5, 2) := by decide +kernel
theorem dX2_partnersOf_63 : decode cX2_partnersOf 63 = .ok (.iaload, 1) := by decide +kernel
theorem dX2_partnersOf_64 : decode cX2_partnersOf 64 = .ok (.ifCond .ne 12, 3) := by decide +kernel
theorem dX2_partnersOf_67 : decode cX2_partnersOf 67 = .ok (.iload 4, 2) := by decide +kernel
theorem dX2_partnersOf_69 : decode cX2_partnersOf 69 = .ok (.ifCond .eq 7, 3) := by decide +kernel
theorem dX2_partnersOf_72 : decode cX2_partnersOf 72 = .ok (.iconst 1, 1) := by decide +kernel
theorem dX2_partnersOf_73 : decode cX2_partnersOf 73 = .ok (.goto 4, 3) := by decide +kernel
theorem dX2_partnersOf_76 : decode cX2_partnersOf 76 = .ok (.iconst 0, 1) := by decide +kernel
theorem dX2_partnersOf_77 : decode cX2_partnersOf 77 = .ok (.istore 7, 2) := by decide +kernel
theorem dX2_partnersOf_79 : decode cX2_partnersOf 79 = .ok (.iload 4, 2) := by decide +kernel
theorem dX2_partnersOf_81 : decode cX2_partnersOf 81 = .ok (.aload_n 0, 1) := by decide +kernel
theorem dX2_partnersOf_82 : decode cX2_partnersOf 82 = .ok (.getfield 30, 3) := by decide +kernel
theorem dX2_partnersOf_85 : decode cX2_partnersOf 85 = .ok (.iload 5, 2) := by decide +kernel
theorem dX2_partnersOf_87 : decode cX2_partnersOf 87 = .ok (.iaload, 1) := by decide +kernel
theorem dX2_partnersOf_88 : decode cX2_partnersOf 88 = .ok (.ifCond .ne 7, 3) := by decide +kernel
theorem dX2_partnersOf_91 : decode cX2_partnersOf 91 = .ok (.iconst 1, 1) := by decide +kernel
theorem dX2_partnersOf_92 : decode cX2_partnersOf 92 = .ok (.goto 4, 3) := by decide +kernel
theorem dX2_partnersOf_95 : decode cX2_partnersOf 95 = .ok (.iconst 0, 1) := by decide +kernel
theorem dX2_partnersOf_96 : decode cX2_partnersOf 96 = .ok (.ior, 1) := by decide +kernel
theorem dX2_partnersOf_97 : decode cX2_partnersOf 97 = .ok (.istore 4, 2) := by decide +kernel
theorem dX2_partnersOf_99 : decode cX2_partnersOf 99 = .ok (.iload_n 3, 1) := by decide +kernel
theorem dX2_partnersOf_100 : decode cX2_partnersOf 100 = .ok (.iload 6, 2) := by decide +kernel
theorem dX2_partnersOf_102 : decode cX2_partnersOf 102 = .ok (.ifCond .eq 15, 3) := by decide +kernel
theorem dX2_partnersOf_105 : decode cX2_partnersOf 105 = .ok (.iload 7, 2) := by decide +kernel
theorem dX2_partnersOf_107 : decode cX2_partnersOf 107 = .ok (.ifCond .ne 10, 3) := by decide +kernel
theorem dX2_partnersOf_110 : decode cX2_partnersOf 110 = .ok (.iconst 1, 1) := by decide +kernel
theorem dX2_partnersOf_111 : decode cX2_partnersOf 111 = .ok (.iload 5, 2) := by decide +kernel
theorem dX2_partnersOf_113 : decode cX2_partnersOf 113 = .ok (.ishl, 1) := by decide +kernel
theorem dX2_partnersOf_114 : decode cX2_partnersOf 114 = .ok (.goto 4, 3) := by decide +kernel
theorem dX2_partnersOf_117 : decode cX2_partnersOf 117 = .ok (.iconst 0, 1) := by decide +kernel
theorem dX2_partnersOf_118 : decode cX2_partnersOf 118 = .ok (.ior, 1) := by decide +kernel
theorem dX2_partnersOf_119 : decode cX2_partnersOf 119 = .ok (.istore_n 3, 1) := by decide +kernel
theorem dX2_partnersOf_120 : decode cX2_partnersOf 120 = .ok (.iinc 5 1, 3) := by decide +kernel
theorem dX2_partnersOf_123 : decode cX2_partnersOf 123 = .ok (.goto (-100), 3) := by decide +kernel
theorem dX2_partnersOf_126 : decode cX2_partnersOf 126 = .ok (.iload_n 3, 1) := by decide +kernel
theorem dX2_partnersOf_127 : decode cX2_partnersOf 127 = .ok (.ireturn, 1) := by decide +kernel
def hX2_partnersOf_96 (f : Nat) (Φ : Int → aj_M → Prop) (K23 : List Nat → Int → Int → Int → Int → aj_M → Prop) (q0 : List Nat) (v2 : Int) (v3 : Int) (v5 : Int) (v6 : Int) (v7 : Int) (vs0 : Int) (vs1 : Int) (m : aj_M) : Prop := rI v6 ∧ (v6 = 0 → K23 q0 v2 (aj_or v3 0) (aj_or vs0 vs1) (v5 + 1) m) ∧ (¬ (v6 = 0) → rI v7 ∧ (¬ v7 = 0 → K23 q0 v2 (aj_or v3 0) (aj_or vs0 vs1) (v5 + 1) m) ∧ (v7 = 0 → K23 q0 v2 (aj_or v3 (aj_shl 1 v5)) (aj_or vs0 vs1) (v5 + 1) m))
set_option maxHeartbeats 4000000 in
set_option maxRecDepth 100000 in
theorem tX2_partnersOf_96 {X : aj_T} {n f : Nat} {Φ : Int → aj_M → Prop} (C : aj_Cx X cX2_partnersOf RX2 8 (n + 2)) (K : aj_Rt X (some .int) (fun r m => ∃ z, r = some (vI z) ∧ Φ z m)) {K23 : List Nat → Int → Int → Int → Int → aj_M → Prop} (HK23 : ∀ (q0 : List Nat) (v2 : Int) (v3 : Int) (v4 : Int) (v5 : Int) (m : aj_M) (hq0 : (.inl (2, q0) : aj_R) ∈ aj_pls), K23 q0 v2 v3 v4 v5 m → aj_J X 23 [some (vO 2 q0), none, some (vI v2), some (vI v3), some (vI v4), some (vI v5), none, none] [] m) (q0 : List Nat) (v2 : Int) (v3 : Int) (v5 : Int) (v6 : Int) (v7 : Int) (vs0 : Int) (vs1 : Int) (m : aj_M) (hq0 : (.inl (2, q0) : aj_R) ∈ aj_pls) (h : hX2_partnersOf_96 f Φ K23 q0 v2 v3 v5 v6 v7 vs0 vs1 m) : aj_J X 96 [some (vO 2 q0), none, some (vI v2), some (vI v3), none, some (vI v5), some (vI v6), some (vI v7)] [vI vs1, vI vs0] m := by
  unfold hX2_partnersOf_96 at h
  refine aj_ior C dX2_partnersOf_96 ?_
  refine aj_istore (lv' := [some (vO 2 q0), none, some (vI v2), some (vI v3), some (vI (aj_or vs0 vs1)), some (vI v5), some (vI v6), some (vI v7)]) C dX2_partnersOf_97 (by decide) rfl ?_
  refine aj_iload_n C dX2_partnersOf_99 rfl ?_
  refine aj_iload C dX2_partnersOf_100 rfl ?_
  obtain ⟨r0, h1, h2⟩ := h
  refine aj_if_eq (tgt := 117) C dX2_partnersOf_102 (by decide) r0 (fun e => ?_) (fun e => ?_)
  · have h := h1 e
    refine aj_iconst C dX2_partnersOf_117 ?_
    refine aj_ior C dX2_partnersOf_118 ?_
    refine aj_istore_n (lv' := [some (vO 2 q0), none, some (vI v2), some (vI (aj_or v3 0)), some (vI (aj_or vs0 vs1)), some (vI v5), some (vI v6), some (vI v7)]) C dX2_partnersOf_119 (by decide) rfl ?_
    refine aj_iinc (lv' := [some (vO 2 q0), none, some (vI v2), some (vI (aj_or v3 0)), some (vI (aj_or vs0 vs1)), some (vI (v5 + 1)), some (vI v6), some (vI v7)]) C dX2_partnersOf_120 rfl (by decide) rfl ?_
    refine aj_goto (tgt := 23) C dX2_partnersOf_123 (by decide) ?_
    refine aj_wk (lv' := [some (vO 2 q0), none, some (vI v2), some (vI (aj_or v3 0)), some (vI (aj_or vs0 vs1)), some (vI (v5 + 1)), none, none]) (⟨rfl, ⟨rfl, ⟨rfl, ⟨rfl, ⟨rfl, trivial⟩⟩⟩⟩⟩) ?_
    exact HK23 q0 v2 (aj_or v3 0) (aj_or vs0 vs1) (v5 + 1) _ hq0 h
  · have h := h2 e
    refine aj_iload C dX2_partnersOf_105 rfl ?_
    obtain ⟨r0, h1, h2⟩ := h
    refine aj_if_ne (tgt := 117) C dX2_partnersOf_107 (by decide) r0 (fun e => ?_) (fun e => ?_)
    · have h := h1 e
      refine aj_iconst C dX2_partnersOf_117 ?_
      refine aj_ior C dX2_partnersOf_118 ?_
      refine aj_istore_n (lv' := [some (vO 2 q0), none, some (vI v2), some (vI (aj_or v3 0)), some (vI (aj_or vs0 vs1)), some (vI v5), some (vI v6), some (vI v7)]) C dX2_partnersOf_119 (by decide) rfl ?_
      refine aj_iinc (lv' := [some (vO 2 q0), none, some (vI v2), some (vI (aj_or v3 0)), some (vI (aj_or vs0 vs1)), some (vI (v5 + 1)), some (vI v6), some (vI v7)]) C dX2_partnersOf_120 rfl (by decide) rfl ?_
      refine aj_goto (tgt := 23) C dX2_partnersOf_123 (by decide) ?_
      refine aj_wk (lv' := [some (vO 2 q0), none, some (vI v2), some (vI (aj_or v3 0)), some (vI (aj_or vs0 vs1)), some (vI (v5 + 1)), none, none]) (⟨rfl, ⟨rfl, ⟨rfl, ⟨rfl, ⟨rfl, trivial⟩⟩⟩⟩⟩) ?_
      exact HK23 q0 v2 (aj_or v3 0) (aj_or vs0 vs1) (v5 + 1) _ hq0 h
    · have h := h2 e
      refine aj_iconst C dX2_partnersOf_110 ?_
      refine aj_iload C dX2_partnersOf_111 rfl ?_
      refine aj_ishl C dX2_partnersOf_113 ?_
      refine aj_goto (tgt := 118) C dX2_partnersOf_114 (by decide) ?_
      refine aj_ior C dX2_partnersOf_118 ?_
      refine aj_istore_n (lv' := [some (vO 2 q0), none, some (vI v2), some (vI (aj_or v3 (aj_shl 1 v5))), some (vI (aj_or vs0 vs1)), some (vI v5), some (vI v6), some (vI v7)]) C dX2_partnersOf_119 (by decide) rfl ?_
      refine aj_iinc (lv' := [some (vO 2 q0), none, some (vI v2), some (vI (aj_or v3 (aj_shl 1 v5))), some (vI (aj_or vs0 vs1)), some (vI (v5 + 1)), some (vI v6), some (vI v7)]) C dX2_partnersOf_120 rfl (by decide) rfl ?_
      refine aj_goto (tgt := 23) C dX2_partnersOf_123 (by decide) ?_
      refine aj_wk (lv' := [some (vO 2 q0), none, some (vI v2), some (vI (aj_or v3 (aj_shl 1 v5))), some (vI (aj_or vs0 vs1)), some (vI (v5 + 1)), none, none]) (⟨rfl, ⟨rfl, ⟨rfl, ⟨rfl, ⟨rfl, trivial⟩⟩⟩⟩⟩) ?_
      exact HK23 q0 v2 (aj_or v3 (aj_shl 1 v5)) (aj_or vs0 vs1) (v5 + 1) _ hq0 h
def hX2_partnersOf_55 (f : Nat) (Φ : Int → aj_M → Prop) (K23 : List Nat → Int → Int → Int → Int → aj_M → Prop) (q0 : List Nat) (v2 : Int) (v3 : Int) (v4 : Int) (v5 : Int) (vs0 : Int) (m : aj_M) : Prop := (0 ≤ v5 ∧ v5 < 14) ∧ rI (m (6 :: q0) v5.toNat) ∧ (¬ (m (6 :: q0) v5.toNat) = 0 → (0 ≤ v5 ∧ v5 < 14) ∧ rI (m (6 :: q0) v5.toNat) ∧ (¬ (m (6 :: q0) v5.toNat) = 0 → hX2_partnersOf_96 f Φ K23 q0 v2 v3 v5 vs0 0 v4 0 m) ∧ ((m (6 :: q0) v5.toNat) = 0 → hX2_partnersOf_96 f Φ K23 q0 v2 v3 v5 vs0 0 v4 1 m)) ∧ ((m (6 :: q0) v5.toNat) = 0 → rI v4 ∧ (v4 = 0 → (0 ≤ v5 ∧ v5 < 14) ∧ rI (m (6 :: q0) v5.toNat) ∧ (¬ (m (6 :: q0) v5.toNat) = 0 → hX2_partnersOf_96 f Φ K23 q0 v2 v3 v5 vs0 0 v4 0 m) ∧ ((m (6 :: q0) v5.toNat) = 0 → hX2_partnersOf_96 f Φ K23 q0 v2 v3 v5 vs0 0 v4 1 m)) ∧ (¬ (v4 = 0) → (0 ≤ v5 ∧ v5 < 14) ∧ rI (m (6 :: q0) v5.toNat) ∧ (¬ (m (6 :: q0) v5.toNat) = 0 → hX2_partnersOf_96 f Φ K23 q0 v2 v3 v5 vs0 1 v4 0 m) ∧ ((m (6 :: q0) v5.toNat) = 0 → hX2_partnersOf_96 f Φ K23 q0 v2 v3 v5 vs0 1 v4 1 m)))
set_option maxHeartbeats 4000000 in
set_option maxRecDepth 100000 in
theorem tX2_partnersOf_55 {X : aj_T} {n f : Nat} {Φ : Int → aj_M → Prop} (C : aj_Cx X cX2_partnersOf RX2 8 (n + 2)) (K : aj_Rt X (some .int) (fun r m => ∃ z, r = some (vI z) ∧ Φ z m)) {K23 : List Nat → Int → Int → Int → Int → aj_M → Prop} (HK23 : ∀ (q0 : List Nat) (v2 : Int) (v3 : Int) (v4 : Int) (v5 : Int) (m : aj_M) (hq0 : (.inl (2, q0) : aj_R) ∈ aj_pls), K23 q0 v2 v3 v4 v5 m → aj_J X 23 [some (vO 2 q0), none, some (vI v2), some (vI v3), some (vI v4), some (vI v5), none, none] [] m) (q0 : List Nat) (v2 : Int) (v3 : Int) (v4 : Int) (v5 : Int) (vs0 : Int) (m : aj_M) (hq0 : (.inl (2, q0) : aj_R) ∈ aj_pls) (h : hX2_partnersOf_55 f Φ K23 q0 v2 v3 v4 v5 vs0 m) : aj_J X 55 [some (vO 2 q0), none, some (vI v2), some (vI v3), some (vI v4), some (vI v5), none, none] [vI vs0] m := by
  unfold hX2_partnersOf_55 at h
  refine aj_istore (lv' := [some (vO 2 q0), none, some (vI v2), some (vI v3), some (vI v4), some (vI v5), some (vI vs0), none]) C dX2_partnersOf_55 (by decide) rfl ?_
  refine aj_aload_n C dX2_partnersOf_57 rfl ?_
  refine aj_getA (x := 0) (y := 14) C flX2_30 hq0 rfl dX2_partnersOf_58 ?_
  refine aj_iload C dX2_partnersOf_61 rfl ?_
  obtain ⟨r0, h⟩ := h
  refine aj_iald C (aj_ca (e := 0) (n := 14) (j := 6) hq0 (by decide) rfl) (by decide) r0 dX2_partnersOf_63 rfl ?_
  obtain ⟨r0, h1, h2⟩ := h
  refine aj_if_ne (tgt := 76) C dX2_partnersOf_64 (by decide) r0 (fun e => ?_) (fun e => ?_)
  · have h := h1 e
    refine aj_iconst C dX2_partnersOf_76 ?_
    refine aj_istore (lv' := [some (vO 2 q0), none, some (vI v2), some (vI v3), some (vI v4), some (vI v5), some (vI vs0), some (vI 0)]) C dX2_partnersOf_77 (by decide) rfl ?_
    refine aj_iload C dX2_partnersOf_79 rfl ?_
    refine aj_aload_n C dX2_partnersOf_81 rfl ?_
    refine aj_getA (x := 0) (y := 14) C flX2_30 hq0 rfl dX2_partnersOf_82 ?_
    refine aj_iload C dX2_partnersOf_85 rfl ?_
    obtain ⟨r0, h⟩ := h
    refine aj_iald C (aj_ca (e := 0) (n := 14) (j := 6) hq0 (by decide) rfl) (by decide) r0 dX2_partnersOf_87 rfl ?_
    obtain ⟨r0, h1, h2⟩ := h
    refine aj_if_ne (tgt := 95) C dX2_partnersOf_88 (by decide) r0 (fun e => ?_) (fun e => ?_)
    · have h := h1 e
      refine aj_iconst C dX2_partnersOf_95 ?_
      refine aj_wk (lv' := [some (vO 2 q0), none, some (vI v2), some (vI v3), none, some (vI v5), some (vI vs0), some (vI 0)]) (⟨rfl, ⟨rfl, ⟨rfl, ⟨rfl, ⟨rfl, ⟨rfl, trivial⟩⟩⟩⟩⟩⟩) ?_
      exact tX2_partnersOf_96 C K HK23 q0 v2 v3 v5 vs0 0 v4 0 _ hq0 h
    · have h := h2 e
      refine aj_iconst C dX2_partnersOf_91 ?_
      refine aj_goto (tgt := 96) C dX2_partnersOf_92 (by decide) ?_
      refine aj_wk (lv' := [some (vO 2 q0), none, some (vI v2), some (vI v3), none, some (vI v5), some (vI vs0), some (vI 0)]) (⟨rfl, ⟨rfl, ⟨rfl, ⟨rfl, ⟨rfl, ⟨rfl, trivial⟩⟩⟩⟩⟩⟩) ?_
      exact tX2_partnersOf_96 C K HK23 q0 v2 v3 v5 vs0 0 v4 1 _ hq0 h
  · have h := h2 e
    refine aj_iload C dX2_partnersOf_67 rfl ?_
    obtain ⟨r0, h1, h2⟩ := h
    refine aj_if_eq (tgt := 76) C dX2_partnersOf_69 (by decide) r0 (fun e => ?_) (fun e => ?_)
    · have h := h1 e
      refine aj_iconst C dX2_partnersOf_76 ?_
      refine aj_istore (lv' := [some (vO 2 q0), none, some (vI v2), some (vI v3), some (vI v4), some (vI v5), some (vI vs0), some (vI 0)]) C dX2_partnersOf_77 (by decide) rfl ?_
      refine aj_iload C dX2_partnersOf_79 rfl ?_
      refine aj_aload_n C dX2_partnersOf_81 rfl ?_
      refine aj_getA (x := 0) (y := 14) C flX2_30 hq0 rfl dX2_partnersOf_82 ?_
      refine aj_iload C dX2_partnersOf_85 rfl ?_
      obtain ⟨r0, h⟩ := h
      refine aj_iald C (aj_ca (e := 0) (n := 14) (j := 6) hq0 (by decide) rfl) (by decide) r0 dX2_partnersOf_87 rfl ?_
      obtain ⟨r0, h1, h2⟩ := h
      refine aj_if_ne (tgt := 95) C dX2_partnersOf_88 (by decide) r0 (fun e => ?_) (fun e => ?_)
      · have h := h1 e
        refine aj_iconst C dX2_partnersOf_95 ?_
        refine aj_wk (lv' := [some (vO 2 q0), none, some (vI v2), some (vI v3), none, some (vI v5), some (vI vs0), some (vI 0)]) (⟨rfl, ⟨rfl, ⟨rfl, ⟨rfl, ⟨rfl, ⟨rfl, trivial⟩⟩⟩⟩⟩⟩) ?_
        exact tX2_partnersOf_96 C K HK23 q0 v2 v3 v5 vs0 0 v4 0 _ hq0 h
      · have h := h2 e
        refine aj_iconst C dX2_partnersOf_91 ?_
        refine aj_goto (tgt := 96) C dX2_partnersOf_92 (by decide) ?_
        refine aj_wk (lv' := [some (vO 2 q0), none, some (vI v2), some (vI v3), none, some (vI v5), some (vI vs0), some (vI 0)]) (⟨rfl, ⟨rfl, ⟨rfl, ⟨rfl, ⟨rfl, ⟨rfl, trivial⟩⟩⟩⟩⟩⟩) ?_
        exact tX2_partnersOf_96 C K HK23 q0 v2 v3 v5 vs0 0 v4 1 _ hq0 h
    · have h := h2 e
      refine aj_iconst C dX2_partnersOf_72 ?_
      refine aj_goto (tgt := 77) C dX2_partnersOf_73 (by decide) ?_
      refine aj_istore (lv' := [some (vO 2 q0), none, some (vI v2), some (vI v3), some (vI v4), some (vI v5), some (vI vs0), some (vI 1)]) C dX2_partnersOf_77 (by decide) rfl ?_
      refine aj_iload C dX2_partnersOf_79 rfl ?_
      refine aj_aload_n C dX2_partnersOf_81 rfl ?_
      refine aj_getA (x := 0) (y := 14) C flX2_30 hq0 rfl dX2_partnersOf_82 ?_
      refine aj_iload C dX2_partnersOf_85 rfl ?_
      obtain ⟨r0, h⟩ := h
      refine aj_iald C (aj_ca (e := 0) (n := 14) (j := 6) hq0 (by decide) rfl) (by decide) r0 dX2_partnersOf_87 rfl ?_
      obtain ⟨r0, h1, h2⟩ := h
      refine aj_if_ne (tgt := 95) C dX2_partnersOf_88 (by decide) r0 (fun e => ?_) (fun e => ?_)
      · have h := h1 e
        refine aj_iconst C dX2_partnersOf_95 ?_
        refine aj_wk (lv' := [some (vO 2 q0), none, some (vI v2), some (vI v3), none, some (vI v5), some (vI vs0), some (vI 1)]) (⟨rfl, ⟨rfl, ⟨rfl, ⟨rfl, ⟨rfl, ⟨rfl, trivial⟩⟩⟩⟩⟩⟩) ?_
        exact tX2_partnersOf_96 C K HK23 q0 v2 v3 v5 vs0 1 v4 0 _ hq0 h
      · have h := h2 e
        refine aj_iconst C dX2_partnersOf_91 ?_
        refine aj_goto (tgt := 96) C dX2_partnersOf_92 (by decide) ?_
        refine aj_wk (lv' := [some (vO 2 q0), none, some (vI v2), some (vI v3), none, some (vI v5), some (vI vs0), some (vI 1)]) (⟨rfl, ⟨rfl, ⟨rfl, ⟨rfl, ⟨rfl, ⟨rfl, trivial⟩⟩⟩⟩⟩⟩) ?_
        exact tX2_partnersOf_96 C K HK23 q0 v2 v3 v5 vs0 1 v4 1 _ hq0 h
def hX2_partnersOf_23 (f : Nat) (Φ : Int → aj_M → Prop) : Nat → List Nat → Int → Int → Int → Int → aj_M → Prop
  | 0, _, _, _, _, _, _ => False
  | k + 1, q0, v2, v3, v4, v5, m => rI v5 ∧ rI (m q0 2) ∧ ((m q0 2) ≤ v5 → Φ v3 m) ∧ (¬ ((m q0 2) ≤ v5) → wX2_isUnfilled f (fun z1 m1 => rI z1 ∧ (z1 = 0 → hX2_partnersOf_55 f Φ (fun q0 v2 v3 v4 v5 m => hX2_partnersOf_23 f Φ k q0 v2 v3 v4 v5 m) q0 v2 v3 v4 v5 0 m1) ∧ (¬ (z1 = 0) → rI (aj_and (aj_shr v2 v5) 1) ∧ (¬ (aj_and (aj_shr v2 v5) 1) = 0 → hX2_partnersOf_55 f Φ (fun q0 v2 v3 v4 v5 m => hX2_partnersOf_23 f Φ k q0 v2 v3 v4 v5 m) q0 v2 v3 v4 v5 0 m1) ∧ ((aj_and (aj_shr v2 v5) 1) = 0 → hX2_partnersOf_55 f Φ (fun q0 v2 v3 v4 v5 m => hX2_partnersOf_23 f Φ k q0 v2 v3 v4 v5 m) q0 v2 v3 v4 v5 1 m1))) q0 v5 m)
set_option maxHeartbeats 4000000 in
set_option maxRecDepth 100000 in
theorem tX2_partnersOf_23 {X : aj_T} {n f : Nat} {Φ : Int → aj_M → Prop} (C : aj_Cx X cX2_partnersOf RX2 8 (n + 2)) (K : aj_Rt X (some .int) (fun r m => ∃ z, r = some (vI z) ∧ Φ z m)) : ∀ (k : Nat) (q0 : List Nat) (v2 : Int) (v3 : Int) (v4 : Int) (v5 : Int) (m : aj_M) (hq0 : (.inl (2, q0) : aj_R) ∈ aj_pls), hX2_partnersOf_23 f Φ k q0 v2 v3 v4 v5 m → aj_J X 23 [some (vO 2 q0), none, some (vI v2), some (vI v3), some (vI v4), some (vI v5), none, none] [] m := by
  intro k
  induction k with
  | zero =>
    intro q0 v2 v3 v4 v5 m _ h
    exact h.elim
  | succ k ih =>
    intro q0 v2 v3 v4 v5 m hq0 h
    unfold hX2_partnersOf_23 at h
    refine aj_iload C dX2_partnersOf_23 rfl ?_
    refine aj_aload_n C dX2_partnersOf_25 rfl ?_
    refine aj_getI C flX2_18 hq0 (by decide) dX2_partnersOf_26 rfl ?_
    obtain ⟨r0, r1, h1, h2⟩ := h
    refine aj_icmp_ge (tgt := 126) C dX2_partnersOf_29 (by decide) r0 r1 (fun e => ?_) (fun e => ?_)
    · have h := h1 e
      refine aj_iload_n C dX2_partnersOf_126 rfl ?_
      exact aj_iret C K dX2_partnersOf_127 ⟨_, rfl, h⟩
    · have h := h2 e
      refine aj_aload_n C dX2_partnersOf_32 rfl ?_
      refine aj_iload C dX2_partnersOf_33 rfl ?_
      refine aj_callV (rest := []) C mvX2_64 (sX2_isUnfilled hq0 h) hq0 (aj_np 1 (by decide +kernel) rfl) (Nat.le_of_ble_eq_true rfl) rfl dX2_partnersOf_35 (fun r m1 h => ?_)
      obtain ⟨z1, rfl, h⟩ := h
      obtain ⟨r0, h1, h2⟩ := h
      refine aj_if_eq (tgt := 54) C dX2_partnersOf_38 (by decide) r0 (fun e => ?_) (fun e => ?_)
      · have h := h1 e
        refine aj_iconst C dX2_partnersOf_54 ?_
        exact tX2_partnersOf_55 C K (fun q0 v2 v3 v4 v5 m hq0 hh => ih q0 v2 v3 v4 v5 m hq0 hh) q0 v2 v3 v4 v5 0 _ hq0 h
      · have h := h2 e
        refine aj_iload_n C dX2_partnersOf_41 rfl ?_
        refine aj_iload C dX2_partnersOf_42 rfl ?_
        refine aj_ishr C dX2_partnersOf_44 ?_
        refine aj_iconst C dX2_partnersOf_45 ?_
        refine aj_iand C dX2_partnersOf_46 ?_
        obtain ⟨r0, h1, h2⟩ := h
        refine aj_if_ne (tgt := 54) C dX2_partnersOf_47 (by decide) r0 (fun e => ?_) (fun e => ?_)
        · have h := h1 e
          refine aj_iconst C dX2_partnersOf_54 ?_
          exact tX2_partnersOf_55 C K (fun q0 v2 v3 v4 v5 m hq0 hh => ih q0 v2 v3 v4 v5 m hq0 hh) q0 v2 v3 v4 v5 0 _ hq0 h
        · have h := h2 e
          refine aj_iconst C dX2_partnersOf_50 ?_
          refine aj_goto (tgt := 55) C dX2_partnersOf_51 (by decide) ?_
          exact tX2_partnersOf_55 C K (fun q0 v2 v3 v4 v5 m hq0 hh => ih q0 v2 v3 v4 v5 m hq0 hh) q0 v2 v3 v4 v5 1 _ hq0 h
def wX2_partnersOf (f : Nat) (Φ : Int → aj_M → Prop) (q0 : List Nat) (v1 : Int) (m : aj_M) : Prop := (0 ≤ v1 ∧ v1 < 14) ∧ wX2_tooNear f (fun z1 m1 => hX2_partnersOf_23 f Φ f q0 (aj_or (m (7 :: q0) v1.toNat) z1) 0 0 (v1 + 1) m1) q0 v1 m
set_option maxHeartbeats 4000000 in
set_option maxRecDepth 100000 in
theorem sX2_partnersOf {n f : Nat} {Φ : Int → aj_M → Prop} {q0 : List Nat} {v1 : Int} {m : aj_M} (hq0 : (.inl (2, q0) : aj_R) ∈ aj_pls) (h : wX2_partnersOf f Φ q0 v1 m) : aj_Ct (n + 2) yX2_partnersOf cX2_partnersOf 8 (some .int) [vO 2 q0, vI v1] m (fun r m => ∃ z, r = some (vI z) ∧ Φ z m) := by
  refine aj_met (lv := [some (vO 2 q0), some (vI v1), none, none, none, none, none, none]) (by decide +kernel) rfl (Nat.le_of_ble_eq_true rfl) (fun X C K => ?_)
  unfold wX2_partnersOf at h
  refine aj_aload_n C dX2_partnersOf_0 rfl ?_
  refine aj_getA (x := 0) (y := 14) C flX2_34 hq0 rfl dX2_partnersOf_1 ?_
  refine aj_iload_n C dX2_partnersOf_4 rfl ?_
  obtain ⟨r0, h⟩ := h
  refine aj_iald C (aj_ca (e := 0) (n := 14) (j := 7) hq0 (by decide) rfl) (by decide) r0 dX2_partnersOf_5 rfl ?_
  refine aj_aload_n C dX2_partnersOf_6 rfl ?_
  refine aj_iload_n C dX2_partnersOf_7 rfl ?_
  refine aj_callV (rest := [vI (m (7 :: q0) v1.toNat)]) C mvX2_68 (sX2_tooNear hq0 h) hq0 (aj_np 1 (by decide +kernel) rfl) (Nat.le_of_ble_eq_true rfl) rfl dX2_partnersOf_8 (fun r m1 h => ?_)
  obtain ⟨z1, rfl, h⟩ := h
  refine aj_ior C dX2_partnersOf_11 ?_
  refine aj_istore_n (lv' := [some (vO 2 q0), some (vI v1), some (vI (aj_or (m (7 :: q0) v1.toNat) z1)), none, none, none, none, none]) C dX2_partnersOf_12 (by decide) rfl ?_
  refine aj_iconst C dX2_partnersOf_13 ?_
  refine aj_istore_n (lv' := [some (vO 2 q0), some (vI v1), some (vI (aj_or (m (7 :: q0) v1.toNat) z1)), some (vI 0), none, none, none, none]) C dX2_partnersOf_14 (by decide) rfl ?_
  refine aj_iconst C dX2_partnersOf_15 ?_
  refine aj_istore (lv' := [some (vO 2 q0), some (vI v1), some (vI (aj_or (m (7 :: q0) v1.toNat) z1)), some (vI 0), some (vI 0), none, none, none]) C dX2_partnersOf_16 (by decide) rfl ?_
  refine aj_iload_n C dX2_partnersOf_18 rfl ?_
  refine aj_iconst C dX2_partnersOf_19 ?_
  refine aj_iadd C dX2_partnersOf_20 ?_
  refine aj_istore (lv' := [some (vO 2 q0), some (vI v1), some (vI (aj_or (m (7 :: q0) v1.toNat) z1)), some (vI 0), some (vI 0), some (vI (v1 + 1)), none, none]) C dX2_partnersOf_21 (by decide) rfl ?_
  refine aj_wk (lv' := [some (vO 2 q0), none, some (vI (aj_or (m (7 :: q0) v1.toNat) z1)), some (vI 0), some (vI 0), some (vI (v1 + 1)), none, none]) (⟨rfl, ⟨rfl, ⟨rfl, ⟨rfl, ⟨rfl, trivial⟩⟩⟩⟩⟩) ?_
  exact tX2_partnersOf_23 C K f q0 (aj_or (m (7 :: q0) v1.toNat) z1) 0 0 (v1 + 1) _ hq0 h
theorem dX4_copyFrom_0 : decode cX4_copyFrom 0 = .ok (.aload_n 0, 1) := by decide +kernel
theorem dX4_copyFrom_1 : decode cX4_copyFrom 1 = .ok (.aload_n 1, 1) := by decide +kernel
theorem dX4_copyFrom_2 : decode cX4_copyFrom 2 = .ok (.getfield 15, 3) := by decide +kernel
theorem dX4_copyFrom_5 : decode cX4_copyFrom 5 = .ok (.putfield 15, 3) := by decide +kernel
theorem dX4_copyFrom_8 : decode cX4_copyFrom 8 = .ok (.aload_n 1, 1) := by decide +kernel
theorem dX4_copyFrom_9 : decode cX4_copyFrom 9 = .ok (.getfield 9, 3) := by decide +kernel
theorem dX4_copyFrom_12 : decode cX4_copyFrom 12 = .ok (.iconst 0, 1) := by decide +kernel
theorem dX4_copyFrom_13 : decode cX4_copyFrom 13 = .ok (.aload_n 0, 1) := by decide +kernel
theorem dX4_copyFrom_14 : decode cX4_copyFrom 14 = .ok (.getfield 9, 3) := by decide +kernel
theorem dX4_copyFrom_17 : decode cX4_copyFrom 17 = .ok (.iconst 0, 1) := by decide +kernel
theorem dX4_copyFrom_18 : decode cX4_copyFrom 18 = .ok (.aload_n 1, 1) := by decide +kernel
theorem dX4_copyFrom_19 : decode cX4_copyFrom 19 = .ok (.getfield 15, 3) := by decide +kernel
theorem dX4_copyFrom_22 : decode cX4_copyFrom 22 = .ok (.invokestatic 34, 3) := by decide +kernel
theorem dX4_copyFrom_25 : decode cX4_copyFrom 25 = .ok (.aload_n 0, 1) := by decide +kernel
theorem dX4_copyFrom_26 : decode cX4_copyFrom 26 = .ok (.aload_n 1, 1) := by decide +kernel
theorem dX4_copyFrom_27 : decode cX4_copyFrom 27 = .ok (.getfield 19, 3) := by decide +kernel
theorem dX4_copyFrom_30 : decode cX4_copyFrom 30 = .ok (.putfield 19, 3) := by decide +kernel
theorem dX4_copyFrom_33 : decode cX4_copyFrom 33 = .ok (.aload_n 0, 1) := by decide +kernel
theorem dX4_copyFrom_34 : decode cX4_copyFrom 34 = .ok (.aload_n 1, 1) := by decide +kernel
theorem dX4_copyFrom_35 : decode cX4_copyFrom 35 = .ok (.getfield 22, 3) := by decide +kernel
theorem dX4_copyFrom_38 : decode cX4_copyFrom 38 = .ok (.putfield 22, 3) := by decide +kernel
theorem dX4_copyFrom_41 : decode cX4_copyFrom 41 = .ok (.aload_n 0, 1) := by decide +kernel
theorem dX4_copyFrom_42 : decode cX4_copyFrom 42 = .ok (.aload_n 1, 1) := by decide +kernel
theorem dX4_copyFrom_43 : decode cX4_copyFrom 43 = .ok (.getfield 25, 3) := by decide +kernel
theorem dX4_copyFrom_46 : decode cX4_copyFrom 46 = .ok (.putfield 25, 3) := by decide +kernel
theorem dX4_copyFrom_49 : decode cX4_copyFrom 49 = .ok (.aload_n 0, 1) := by decide +kernel
theorem dX4_copyFrom_50 : decode cX4_copyFrom 50 = .ok (.aload_n 1, 1) := by decide +kernel
theorem dX4_copyFrom_51 : decode cX4_copyFrom 51 = .ok (.getfield 28, 3) := by decide +kernel
theorem dX4_copyFrom_54 : decode cX4_copyFrom 54 = .ok (.putfield 28, 3) := by decide +kernel
theorem dX4_copyFrom_57 : decode cX4_copyFrom 57 = .ok (.return_, 1) := by decide +kernel
def wX4_copyFrom (f : Nat) (Φ : aj_M → Prop) (q0 : List Nat) (q1 : List Nat) (m : aj_M) : Prop := ∀ m1, m1 = aj_u m q0 1 (m q1 1) → ((0 : Int) ≤ 0 ∧ (0 : Int) ≤ 0 ∧ (0 : Int) ≤ (m1 q1 1)) ∧ ((0 : Int) + (m1 q1 1) ≤ 900 ∧ (0 : Int) + (m1 q1 1) ≤ 900) ∧ ∀ m2, m2 = aj_cp m1 (0 :: q1) (0 : Int).toNat (0 :: q0) (0 : Int).toNat (m1 q1 1).toNat → ∀ m3, m3 = aj_u m2 q0 2 (m2 q1 2) → ∀ m4, m4 = aj_u m3 q0 3 (m3 q1 3) → ∀ m5, m5 = aj_u m4 q0 4 (m4 q1 4) → ∀ m6, m6 = aj_u m5 q0 5 (m5 q1 5) → Φ m6
set_option maxHeartbeats 4000000 in
set_option maxRecDepth 100000 in
theorem sX4_copyFrom {n f : Nat} {Φ : aj_M → Prop} {q0 : List Nat} {q1 : List Nat} {m : aj_M} (hq0 : (.inl (4, q0) : aj_R) ∈ aj_pls) (hq1 : (.inl (4, q1) : aj_R) ∈ aj_pls) (h : wX4_copyFrom f Φ q0 q1 m) : aj_Ct (n + 1) yX4_copyFrom cX4_copyFrom 2 none [vO 4 q0, vO 4 q1] m (fun r m => r = none ∧ Φ m) := by
  refine aj_met (lv := [some (vO 4 q0), some (vO 4 q1)]) (by decide +kernel) rfl (Nat.le_of_ble_eq_true rfl) (fun X C K => ?_)
  unfold wX4_copyFrom at h
  refine aj_aload_n C dX4_copyFrom_0 rfl ?_
  refine aj_aload_n C dX4_copyFrom_1 rfl ?_
  refine aj_getI C flX4_15 hq1 (by decide) dX4_copyFrom_2 rfl ?_
  refine aj_putI C fpX4_15 hq0 rfl dX4_copyFrom_5 ?_
  refine aj_nm (fun m1 e1 => ?_)
  have h := h m1 e1
  refine aj_aload_n C dX4_copyFrom_8 rfl ?_
  refine aj_getA (x := 0) (y := 900) C flX4_9 hq1 rfl dX4_copyFrom_9 ?_
  refine aj_iconst C dX4_copyFrom_12 ?_
  refine aj_aload_n C dX4_copyFrom_13 rfl ?_
  refine aj_getA (x := 0) (y := 900) C flX4_9 hq0 rfl dX4_copyFrom_14 ?_
  refine aj_iconst C dX4_copyFrom_17 ?_
  refine aj_aload_n C dX4_copyFrom_18 rfl ?_
  refine aj_getI C flX4_15 hq1 (by decide) dX4_copyFrom_19 rfl ?_
  obtain ⟨r0, r1, h⟩ := h
  refine aj_copy C mnX4_34 (aj_ca (e := 0) (n := 900) (j := 0) hq1 (by decide) rfl) (aj_ca (e := 0) (n := 900) (j := 0) hq0 (by decide) rfl) (by decide) r0 r1 (Nat.le_of_ble_eq_true rfl) dX4_copyFrom_22 ?_
  refine aj_nm (fun m2 e1 => ?_)
  have h := h m2 e1
  refine aj_aload_n C dX4_copyFrom_25 rfl ?_
  refine aj_aload_n C dX4_copyFrom_26 rfl ?_
  refine aj_getI C flX4_19 hq1 (by decide) dX4_copyFrom_27 rfl ?_
  refine aj_putI C fpX4_19 hq0 rfl dX4_copyFrom_30 ?_
  refine aj_nm (fun m3 e1 => ?_)
  have h := h m3 e1
  refine aj_aload_n C dX4_copyFrom_33 rfl ?_
  refine aj_aload_n C dX4_copyFrom_34 rfl ?_
  refine aj_getI C flX4_22 hq1 (by decide) dX4_copyFrom_35 rfl ?_
  refine aj_putI C fpX4_22 hq0 rfl dX4_copyFrom_38 ?_
  refine aj_nm (fun m4 e1 => ?_)
  have h := h m4 e1
  refine aj_aload_n C dX4_copyFrom_41 rfl ?_
  refine aj_aload_n C dX4_copyFrom_42 rfl ?_
  refine aj_getI C flX4_25 hq1 (by decide) dX4_copyFrom_43 rfl ?_
  refine aj_putI C fpX4_25 hq0 rfl dX4_copyFrom_46 ?_
  refine aj_nm (fun m5 e1 => ?_)
  have h := h m5 e1
  refine aj_aload_n C dX4_copyFrom_49 rfl ?_
  refine aj_aload_n C dX4_copyFrom_50 rfl ?_
  refine aj_getI C flX4_28 hq1 (by decide) dX4_copyFrom_51 rfl ?_
  refine aj_putI C fpX4_28 hq0 rfl dX4_copyFrom_54 ?_
  refine aj_nm (fun m6 e1 => ?_)
  have h := h m6 e1
  exact aj_vret C K dX4_copyFrom_57 ⟨rfl, h⟩
theorem dX6_copyFrom_0 : decode cX6_copyFrom 0 = .ok (.aload_n 0, 1) := by decide +kernel
theorem dX6_copyFrom_1 : decode cX6_copyFrom 1 = .ok (.getfield 12, 3) := by decide +kernel
theorem dX6_copyFrom_4 : decode cX6_copyFrom 4 = .ok (.aload_n 1, 1) := by decide +kernel
theorem dX6_copyFrom_5 : decode cX6_copyFrom 5 = .ok (.getfield 12, 3) := by decide +kernel
theorem dX6_copyFrom_8 : decode cX6_copyFrom 8 = .ok (.invokevirtual 64, 3) := by decide +kernel
theorem dX6_copyFrom_11 : decode cX6_copyFrom 11 = .ok (.aload_n 0, 1) := by decide +kernel
theorem dX6_copyFrom_12 : decode cX6_copyFrom 12 = .ok (.getfield 21, 3) := by decide +kernel
theorem dX6_copyFrom_15 : decode cX6_copyFrom 15 = .ok (.aload_n 1, 1) := by decide +kernel
theorem dX6_copyFrom_16 : decode cX6_copyFrom 16 = .ok (.getfield 21, 3) := by decide +kernel
theorem dX6_copyFrom_19 : decode cX6_copyFrom 19 = .ok (.invokevirtual 68, 3) := by decide +kernel
theorem dX6_copyFrom_22 : decode cX6_copyFrom 22 = .ok (.aload_n 0, 1) := by decide +kernel
theorem dX6_copyFrom_23 : decode cX6_copyFrom 23 = .ok (.aload_n 1, 1) := by decide +kernel
theorem dX6_copyFrom_24 : decode cX6_copyFrom 24 = .ok (.getfield 25, 3) := by decide +kernel
theorem dX6_copyFrom_27 : decode cX6_copyFrom 27 = .ok (.putfield 25, 3) := by decide +kernel
theorem dX6_copyFrom_30 : decode cX6_copyFrom 30 = .ok (.aload_n 0, 1) := by decide +kernel
theorem dX6_copyFrom_31 : decode cX6_copyFrom 31 = .ok (.aload_n 1, 1) := by decide +kernel
theorem dX6_copyFrom_32 : decode cX6_copyFrom 32 = .ok (.getfield 29, 3) := by decide +kernel
theorem dX6_copyFrom_35 : decode cX6_copyFrom 35 = .ok (.putfield 29, 3) := by decide +kernel
theorem dX6_copyFrom_38 : decode cX6_copyFrom 38 = .ok (.aload_n 0, 1) := by decide +kernel
theorem dX6_copyFrom_39 : decode cX6_copyFrom 39 = .ok (.aload_n 1, 1) := by decide +kernel
theorem dX6_copyFrom_40 : decode cX6_copyFrom 40 = .ok (.getfield 32, 3) := by decide +kernel
theorem dX6_copyFrom_43 : decode cX6_copyFrom 43 = .ok (.putfield 32, 3) := by decide +kernel
theorem dX6_copyFrom_46 : decode cX6_copyFrom 46 = .ok (.aload_n 0, 1) := by decide +kernel
theorem dX6_copyFrom_47 : decode cX6_copyFrom 47 = .ok (.aload_n 1, 1) := by decide +kernel
theorem dX6_copyFrom_48 : decode cX6_copyFrom 48 = .ok (.getfield 35, 3) := by decide +kernel
theorem dX6_copyFrom_51 : decode cX6_copyFrom 51 = .ok (.putfield 35, 3) := by decide +kernel
theorem dX6_copyFrom_54 : decode cX6_copyFrom 54 = .ok (.aload_n 0, 1) := by decide +kernel
theorem dX6_copyFrom_55 : decode cX6_copyFrom 55 = .ok (.aload_n 1, 1) := by decide +kernel
theorem dX6_copyFrom_56 : decode cX6_copyFrom 56 = .ok (.getfield 38, 3) := by decide +kernel
theorem dX6_copyFrom_59 : decode cX6_copyFrom 59 = .ok (.putfield 38, 3) := by decide +kernel
theorem dX6_copyFrom_62 : decode cX6_copyFrom 62 = .ok (.aload_n 0, 1) := by decide +kernel
theorem dX6_copyFrom_63 : decode cX6_copyFrom 63 = .ok (.iconst (-1), 1) := by decide +kernel
theorem dX6_copyFrom_64 : decode cX6_copyFrom 64 = .ok (.putfield 51, 3) := by decide +kernel
theorem dX6_copyFrom_67 : decode cX6_copyFrom 67 = .ok (.aload_n 1, 1) := by decide +kernel
theorem dX6_copyFrom_68 : decode cX6_copyFrom 68 = .ok (.getfield 41, 3) := by decide +kernel
theorem dX6_copyFrom_71 : decode cX6_copyFrom 71 = .ok (.iconst 0, 1) := by decide +kernel
theorem dX6_copyFrom_72 : decode cX6_copyFrom 72 = .ok (.aload_n 0, 1) := by decide +kernel
theorem dX6_copyFrom_73 : decode cX6_copyFrom 73 = .ok (.getfield 41, 3) := by decide +kernel
theorem dX6_copyFrom_76 : decode cX6_copyFrom 76 = .ok (.iconst 0, 1) := by decide +kernel
theorem dX6_copyFrom_77 : decode cX6_copyFrom 77 = .ok (.bipush 12, 2) := by decide +kernel
theorem dX6_copyFrom_79 : decode cX6_copyFrom 79 = .ok (.invokestatic 71, 3) := by decide +kernel
theorem dX6_copyFrom_82 : decode cX6_copyFrom 82 = .ok (.aload_n 1, 1) := by decide +kernel
theorem dX6_copyFrom_83 : decode cX6_copyFrom 83 = .ok (.getfield 45, 3) := by decide +kernel
theorem dX6_copyFrom_86 : decode cX6_copyFrom 86 = .ok (.iconst 0, 1) := by decide +kernel
theorem dX6_copyFrom_87 : decode cX6_copyFrom 87 = .ok (.aload_n 0, 1) := by decide +kernel
theorem dX6_copyFrom_88 : decode cX6_copyFrom 88 = .ok (.getfield 45, 3) := by decide +kernel
theorem dX6_copyFrom_91 : decode cX6_copyFrom 91 = .ok (.iconst 0, 1) := by decide +kernel
theorem dX6_copyFrom_92 : decode cX6_copyFrom 92 = .ok (.bipush 12, 2) := by decide +kernel
theorem dX6_copyFrom_94 : decode cX6_copyFrom 94 = .ok (.invokestatic 71, 3) := by decide +kernel
theorem dX6_copyFrom_97 : decode cX6_copyFrom 97 = .ok (.aload_n 1, 1) := by decide +kernel
theorem dX6_copyFrom_98 : decode cX6_copyFrom 98 = .ok (.getfield 48, 3) := by decide +kernel
theorem dX6_copyFrom_101 : decode cX6_copyFrom 101 = .ok (.iconst 0, 1) := by decide +kernel
theorem dX6_copyFrom_102 : decode cX6_copyFrom 102 = .ok (.aload_n 0, 1) := by decide +kernel
theorem dX6_copyFrom_103 : decode cX6_copyFrom 103 = .ok (.getfield 48, 3) := by decide +kernel
theorem dX6_copyFrom_106 : decode cX6_copyFrom 106 = .ok (.iconst 0, 1) := by decide +kernel
theorem dX6_copyFrom_107 : decode cX6_copyFrom 107 = .ok (.bipush 12, 2) := by decide +kernel
theorem dX6_copyFrom_109 : decode cX6_copyFrom 109 = .ok (.invokestatic 71, 3) := by decide +kernel
theorem dX6_copyFrom_112 : decode cX6_copyFrom 112 = .ok (.return_, 1) := by decide +kernel
def wX6_copyFrom (f : Nat) (Φ : aj_M → Prop) (q0 : List Nat) (q1 : List Nat) (m : aj_M) : Prop := wX0_copyFrom f (fun m1 => wX4_copyFrom f (fun m2 => ∀ m3, m3 = aj_u m2 q0 2 (m2 q1 2) → ∀ m4, m4 = aj_u m3 q0 3 (m3 q1 3) → ∀ m5, m5 = aj_u m4 q0 4 (m4 q1 4) → ∀ m6, m6 = aj_u m5 q0 5 (m5 q1 5) → ∀ m7, m7 = aj_u m6 q0 6 (m6 q1 6) → ∀ m8, m8 = aj_u m7 q0 10 (-1) → ∀ m9, m9 = aj_cp m8 (7 :: q1) (0 : Int).toNat (7 :: q0) (0 : Int).toNat (12 : Int).toNat → ∀ m10, m10 = aj_cp m9 (8 :: q1) (0 : Int).toNat (8 :: q0) (0 : Int).toNat (12 : Int).toNat → ∀ m11, m11 = aj_cp m10 (9 :: q1) (0 : Int).toNat (9 :: q0) (0 : Int).toNat (12 : Int).toNat → Φ m11) (1 :: q0) (1 :: q1) m1) (0 :: q0) (0 :: q1) m
set_option maxHeartbeats 4000000 in
set_option maxRecDepth 100000 in
theorem sX6_copyFrom {n f : Nat} {Φ : aj_M → Prop} {q0 : List Nat} {q1 : List Nat} {m : aj_M} (hq0 : (.inl (6, q0) : aj_R) ∈ aj_pls) (hq1 : (.inl (6, q1) : aj_R) ∈ aj_pls) (h : wX6_copyFrom f Φ q0 q1 m) : aj_Ct (n + 2) yX6_copyFrom cX6_copyFrom 2 none [vO 6 q0, vO 6 q1] m (fun r m => r = none ∧ Φ m) := by
  refine aj_met (lv := [some (vO 6 q0), some (vO 6 q1)]) (by decide +kernel) rfl (Nat.le_of_ble_eq_true rfl) (fun X C K => ?_)
  unfold wX6_copyFrom at h
  refine aj_aload_n C dX6_copyFrom_0 rfl ?_
  refine aj_getO (x := 0) (y := 0) C flX6_12 hq0 rfl dX6_copyFrom_1 ?_
  refine aj_aload_n C dX6_copyFrom_4 rfl ?_
  refine aj_getO (x := 0) (y := 0) C flX6_12 hq1 rfl dX6_copyFrom_5 ?_
  refine aj_callV (rest := []) C mvX6_64 (sX0_copyFrom (aj_cf (x := 0) (y := 0) (j := 0) hq0 (by decide) rfl) (aj_cf (x := 0) (y := 0) (j := 0) hq1 (by decide) rfl) h) (aj_cf (x := 0) (y := 0) (j := 0) hq0 (by decide) rfl) (aj_np 1 (by decide +kernel) rfl) (Nat.le_of_ble_eq_true rfl) rfl dX6_copyFrom_8 (fun r m1 h => ?_)
  obtain ⟨rfl, h⟩ := h
  refine aj_aload_n C dX6_copyFrom_11 rfl ?_
  refine aj_getO (x := 4) (y := 0) C flX6_21 hq0 rfl dX6_copyFrom_12 ?_
  refine aj_aload_n C dX6_copyFrom_15 rfl ?_
  refine aj_getO (x := 4) (y := 0) C flX6_21 hq1 rfl dX6_copyFrom_16 ?_
  refine aj_callV (rest := []) C mvX6_68 (sX4_copyFrom (aj_cf (x := 4) (y := 0) (j := 1) hq0 (by decide) rfl) (aj_cf (x := 4) (y := 0) (j := 1) hq1 (by decide) rfl) h) (aj_cf (x := 4) (y := 0) (j := 1) hq0 (by decide) rfl) (aj_np 1 (by decide +kernel) rfl) (Nat.le_of_ble_eq_true rfl) rfl dX6_copyFrom_19 (fun r m2 h => ?_)
  obtain ⟨rfl, h⟩ := h
  refine aj_aload_n C dX6_copyFrom_22 rfl ?_
  refine aj_aload_n C dX6_copyFrom_23 rfl ?_
  refine aj_getI C flX6_25 hq1 (by decide) dX6_copyFrom_24 rfl ?_
  refine aj_putI C fpX6_25 hq0 rfl dX6_copyFrom_27 ?_
  refine aj_nm (fun m3 e1 => ?_)
  have h := h m3 e1
  refine aj_aload_n C dX6_copyFrom_30 rfl ?_
  refine aj_aload_n C dX6_copyFrom_31 rfl ?_
  refine aj_getI C flX6_29 hq1 (by decide) dX6_copyFrom_32 rfl ?_
  refine aj_putI C fpX6_29 hq0 rfl dX6_copyFrom_35 ?_
  refine aj_nm (fun m4 e1 => ?_)
  have h := h m4 e1
  refine aj_aload_n C dX6_copyFrom_38 rfl ?_
  refine aj_aload_n C dX6_copyFrom_39 rfl ?_
  refine aj_getI C flX6_32 hq1 (by decide) dX6_copyFrom_40 rfl ?_
  refine aj_putI C fpX6_32 hq0 rfl dX6_copyFrom_43 ?_
  refine aj_nm (fun m5 e1 => ?_)
  have h := h m5 e1
  refine aj_aload_n C dX6_copyFrom_46 rfl ?_
  refine aj_aload_n C dX6_copyFrom_47 rfl ?_
  refine aj_getI C flX6_35 hq1 (by decide) dX6_copyFrom_48 rfl ?_
  refine aj_putI C fpX6_35 hq0 rfl dX6_copyFrom_51 ?_
  refine aj_nm (fun m6 e1 => ?_)
  have h := h m6 e1
  refine aj_aload_n C dX6_copyFrom_54 rfl ?_
  refine aj_aload_n C dX6_copyFrom_55 rfl ?_
  refine aj_getI C flX6_38 hq1 (by decide) dX6_copyFrom_56 rfl ?_
  refine aj_putI C fpX6_38 hq0 rfl dX6_copyFrom_59 ?_
  refine aj_nm (fun m7 e1 => ?_)
  have h := h m7 e1
  refine aj_aload_n C dX6_copyFrom_62 rfl ?_
  refine aj_iconst C dX6_copyFrom_63 ?_
  refine aj_putI C fpX6_51 hq0 rfl dX6_copyFrom_64 ?_
  refine aj_nm (fun m8 e1 => ?_)
  have h := h m8 e1
  refine aj_aload_n C dX6_copyFrom_67 rfl ?_
  refine aj_getA (x := 0) (y := 12) C flX6_41 hq1 rfl dX6_copyFrom_68 ?_
  refine aj_iconst C dX6_copyFrom_71 ?_
  refine aj_aload_n C dX6_copyFrom_72 rfl ?_
  refine aj_getA (x := 0) (y := 12) C flX6_41 hq0 rfl dX6_copyFrom_73 ?_
  refine aj_iconst C dX6_copyFrom_76 ?_
  refine aj_bipush C dX6_copyFrom_77 (by decide) ?_
  refine aj_copy C mnX6_71 (aj_ca (e := 0) (n := 12) (j := 7) hq1 (by decide) rfl) (aj_ca (e := 0) (n := 12) (j := 7) hq0 (by decide) rfl) (by decide) (by decide) (by decide) (Nat.le_of_ble_eq_true rfl) dX6_copyFrom_79 ?_
  refine aj_nm (fun m9 e1 => ?_)
  have h := h m9 e1
  refine aj_aload_n C dX6_copyFrom_82 rfl ?_
  refine aj_getA (x := 0) (y := 12) C flX6_45 hq1 rfl dX6_copyFrom_83 ?_
  refine aj_iconst C dX6_copyFrom_86 ?_
  refine aj_aload_n C dX6_copyFrom_87 rfl ?_
  refine aj_getA (x := 0) (y := 12) C flX6_45 hq0 rfl dX6_copyFrom_88 ?_
  refine aj_iconst C dX6_copyFrom_91 ?_
  refine aj_bipush C dX6_copyFrom_92 (by decide) ?_
  refine aj_copy C mnX6_71 (aj_ca (e := 0) (n := 12) (j := 8) hq1 (by decide) rfl) (aj_ca (e := 0) (n := 12) (j := 8) hq0 (by decide) rfl) (by decide) (by decide) (by decide) (Nat.le_of_ble_eq_true rfl) dX6_copyFrom_94 ?_
  refine aj_nm (fun m10 e1 => ?_)
  have h := h m10 e1
  refine aj_aload_n C dX6_copyFrom_97 rfl ?_
  refine aj_getA (x := 0) (y := 12) C flX6_48 hq1 rfl dX6_copyFrom_98 ?_
  refine aj_iconst C dX6_copyFrom_101 ?_
  refine aj_aload_n C dX6_copyFrom_102 rfl ?_
  refine aj_getA (x := 0) (y := 12) C flX6_48 hq0 rfl dX6_copyFrom_103 ?_
  refine aj_iconst C dX6_copyFrom_106 ?_
  refine aj_bipush C dX6_copyFrom_107 (by decide) ?_
  refine aj_copy C mnX6_71 (aj_ca (e := 0) (n := 12) (j := 9) hq1 (by decide) rfl) (aj_ca (e := 0) (n := 12) (j := 9) hq0 (by decide) rfl) (by decide) (by decide) (by decide) (Nat.le_of_ble_eq_true rfl) dX6_copyFrom_109 ?_
  refine aj_nm (fun m11 e1 => ?_)
  have h := h m11 e1
  exact aj_vret C K dX6_copyFrom_112 ⟨rfl, h⟩
theorem dX3_take_0 : decode cX3_take 0 = .ok (.aload_n 0, 1) := by decide +kernel
theorem dX3_take_1 : decode cX3_take 1 = .ok (.getfield 10, 3) := by decide +kernel
theorem dX3_take_4 : decode cX3_take 4 = .ok (.aload_n 1, 1) := by decide +kernel
theorem dX3_take_5 : decode cX3_take 5 = .ok (.invokevirtual 27, 3) := by decide +kernel
theorem dX3_take_8 : decode cX3_take 8 = .ok (.aload_n 0, 1) := by decide +kernel
theorem dX3_take_9 : decode cX3_take 9 = .ok (.getfield 19, 3) := by decide +kernel
theorem dX3_take_12 : decode cX3_take 12 = .ok (.aload_n 2, 1) := by decide +kernel
theorem dX3_take_13 : decode cX3_take 13 = .ok (.invokevirtual 31, 3) := by decide +kernel
theorem dX3_take_16 : decode cX3_take 16 = .ok (.aload_n 0, 1) := by decide +kernel
theorem dX3_take_17 : decode cX3_take 17 = .ok (.iconst 1, 1) := by decide +kernel
theorem dX3_take_18 : decode cX3_take 18 = .ok (.putfield 23, 3) := by decide +kernel
theorem dX3_take_21 : decode cX3_take 21 = .ok (.return_, 1) := by decide +kernel
def wX3_take (f : Nat) (Φ : aj_M → Prop) (q0 : List Nat) (q1 : List Nat) (q2 : List Nat) (m : aj_M) : Prop := wX6_copyFrom f (fun m1 => wX9_copyFrom f (fun m2 => ∀ m3, m3 = aj_u m2 q0 2 1 → Φ m3) (1 :: q0) q2 m1) (0 :: q0) q1 m
set_option maxHeartbeats 4000000 in
set_option maxRecDepth 100000 in
theorem sX3_take {n f : Nat} {Φ : aj_M → Prop} {q0 : List Nat} {q1 : List Nat} {q2 : List Nat} {m : aj_M} (hq0 : (.inl (3, q0) : aj_R) ∈ aj_pls) (hq1 : (.inl (6, q1) : aj_R) ∈ aj_pls) (hq2 : (.inl (9, q2) : aj_R) ∈ aj_pls) (h : wX3_take f Φ q0 q1 q2 m) : aj_Ct (n + 3) yX3_take cX3_take 3 none [vO 3 q0, vO 6 q1, vO 9 q2] m (fun r m => r = none ∧ Φ m) := by
  refine aj_met (lv := [some (vO 3 q0), some (vO 6 q1), some (vO 9 q2)]) (by decide +kernel) rfl (Nat.le_of_ble_eq_true rfl) (fun X C K => ?_)
  unfold wX3_take at h
  refine aj_aload_n C dX3_take_0 rfl ?_
  refine aj_getO (x := 6) (y := 0) C flX3_10 hq0 rfl dX3_take_1 ?_
  refine aj_aload_n C dX3_take_4 rfl ?_
  refine aj_callV (rest := []) C mvX3_27 (sX6_copyFrom (aj_cf (x := 6) (y := 0) (j := 0) hq0 (by decide) rfl) hq1 h) (aj_cf (x := 6) (y := 0) (j := 0) hq0 (by decide) rfl) (aj_np 1 (by decide +kernel) rfl) (Nat.le_of_ble_eq_true rfl) rfl dX3_take_5 (fun r m1 h => ?_)
  obtain ⟨rfl, h⟩ := h
  refine aj_aload_n C dX3_take_8 rfl ?_
  refine aj_getO (x := 9) (y := 0) C flX3_19 hq0 rfl dX3_take_9 ?_
  refine aj_aload_n C dX3_take_12 rfl ?_
  refine aj_callV (rest := []) C mvX3_31 (sX9_copyFrom (aj_cf (x := 9) (y := 0) (j := 1) hq0 (by decide) rfl) hq2 h) (aj_cf (x := 9) (y := 0) (j := 1) hq0 (by decide) rfl) (aj_np 1 (by decide +kernel) rfl) (Nat.le_of_ble_eq_true rfl) rfl dX3_take_13 (fun r m2 h => ?_)
  obtain ⟨rfl, h⟩ := h
  refine aj_aload_n C dX3_take_16 rfl ?_
  refine aj_iconst C dX3_take_17 ?_
  refine aj_putZ C fpX3_23 hq0 (Or.inr rfl) rfl dX3_take_18 ?_
  refine aj_nm (fun m3 e1 => ?_)
  have h := h m3 e1
  exact aj_vret C K dX3_take_21 ⟨rfl, h⟩
theorem dX3_giveBack_0 : decode cX3_giveBack 0 = .ok (.aload_n 1, 1) := by decide +kernel
theorem dX3_giveBack_1 : decode cX3_giveBack 1 = .ok (.aload_n 0, 1) := by decide +kernel
theorem dX3_giveBack_2 : decode cX3_giveBack 2 = .ok (.getfield 10, 3) := by decide +kernel
theorem dX3_giveBack_5 : decode cX3_giveBack 5 = .ok (.invokevirtual 27, 3) := by decide +kernel
theorem dX3_giveBack_8 : decode cX3_giveBack 8 = .ok (.aload_n 2, 1) := by decide +kernel
theorem dX3_giveBack_9 : decode cX3_giveBack 9 = .ok (.aload_n 0, 1) := by decide +kernel
theorem dX3_giveBack_10 : decode cX3_giveBack 10 = .ok (.getfield 19, 3) := by decide +kernel
theorem dX3_giveBack_13 : decode cX3_giveBack 13 = .ok (.invokevirtual 31, 3) := by decide +kernel
theorem dX3_giveBack_16 : decode cX3_giveBack 16 = .ok (.return_, 1) := by decide +kernel
def wX3_giveBack (f : Nat) (Φ : aj_M → Prop) (q0 : List Nat) (q1 : List Nat) (q2 : List Nat) (m : aj_M) : Prop := wX6_copyFrom f (fun m1 => wX9_copyFrom f (fun m2 => Φ m2) q2 (1 :: q0) m1) q1 (0 :: q0) m
set_option maxHeartbeats 4000000 in
set_option maxRecDepth 100000 in
theorem sX3_giveBack {n f : Nat} {Φ : aj_M → Prop} {q0 : List Nat} {q1 : List Nat} {q2 : List Nat} {m : aj_M} (hq0 : (.inl (3, q0) : aj_R) ∈ aj_pls) (hq1 : (.inl (6, q1) : aj_R) ∈ aj_pls) (hq2 : (.inl (9, q2) : aj_R) ∈ aj_pls) (h : wX3_giveBack f Φ q0 q1 q2 m) : aj_Ct (n + 3) yX3_giveBack cX3_giveBack 3 none [vO 3 q0, vO 6 q1, vO 9 q2] m (fun r m => r = none ∧ Φ m) := by
  refine aj_met (lv := [some (vO 3 q0), some (vO 6 q1), some (vO 9 q2)]) (by decide +kernel) rfl (Nat.le_of_ble_eq_true rfl) (fun X C K => ?_)
  unfold wX3_giveBack at h
  refine aj_aload_n C dX3_giveBack_0 rfl ?_
  refine aj_aload_n C dX3_giveBack_1 rfl ?_
  refine aj_getO (x := 6) (y := 0) C flX3_10 hq0 rfl dX3_giveBack_2 ?_
  refine aj_callV (rest := []) C mvX3_27 (sX6_copyFrom hq1 (aj_cf (x := 6) (y := 0) (j := 0) hq0 (by decide) rfl) h) hq1 (aj_np 1 (by decide +kernel) rfl) (Nat.le_of_ble_eq_true rfl) rfl dX3_giveBack_5 (fun r m1 h => ?_)
  obtain ⟨rfl, h⟩ := h
  refine aj_aload_n C dX3_giveBack_8 rfl ?_
  refine aj_aload_n C dX3_giveBack_9 rfl ?_
  refine aj_getO (x := 9) (y := 0) C flX3_19 hq0 rfl dX3_giveBack_10 ?_
  refine aj_callV (rest := []) C mvX3_31 (sX9_copyFrom hq2 (aj_cf (x := 9) (y := 0) (j := 1) hq0 (by decide) rfl) h) hq2 (aj_np 1 (by decide +kernel) rfl) (Nat.le_of_ble_eq_true rfl) rfl dX3_giveBack_13 (fun r m2 h => ?_)
  obtain ⟨rfl, h⟩ := h
  exact aj_vret C K dX3_giveBack_16 ⟨rfl, h⟩
theorem dX4_clear_0 : decode cX4_clear 0 = .ok (.aload_n 0, 1) := by decide +kernel
theorem dX4_clear_1 : decode cX4_clear 1 = .ok (.iconst 0, 1) := by decide +kernel
theorem dX4_clear_2 : decode cX4_clear 2 = .ok (.putfield 15, 3) := by decide +kernel
theorem dX4_clear_5 : decode cX4_clear 5 = .ok (.aload_n 0, 1) := by decide +kernel
theorem dX4_clear_6 : decode cX4_clear 6 = .ok (.iconst 0, 1) := by decide +kernel
theorem dX4_clear_7 : decode cX4_clear 7 = .ok (.putfield 19, 3) := by decide +kernel
theorem dX4_clear_10 : decode cX4_clear 10 = .ok (.aload_n 0, 1) := by decide +kernel
theorem dX4_clear_11 : decode cX4_clear 11 = .ok (.iconst 0, 1) := by decide +kernel
theorem dX4_clear_12 : decode cX4_clear 12 = .ok (.putfield 22, 3) := by decide +kernel
theorem dX4_clear_15 : decode cX4_clear 15 = .ok (.aload_n 0, 1) := by decide +kernel
theorem dX4_clear_16 : decode cX4_clear 16 = .ok (.iconst 0, 1) := by decide +kernel
theorem dX4_clear_17 : decode cX4_clear 17 = .ok (.putfield 25, 3) := by decide +kernel
theorem dX4_clear_20 : decode cX4_clear 20 = .ok (.aload_n 0, 1) := by decide +kernel
theorem dX4_clear_21 : decode cX4_clear 21 = .ok (.iconst 0, 1) := by decide +kernel
theorem dX4_clear_22 : decode cX4_clear 22 = .ok (.putfield 28, 3) := by decide +kernel
theorem dX4_clear_25 : decode cX4_clear 25 = .ok (.return_, 1) := by decide +kernel
def wX4_clear (f : Nat) (Φ : aj_M → Prop) (q0 : List Nat) (m : aj_M) : Prop := ∀ m1, m1 = aj_u m q0 1 0 → ∀ m2, m2 = aj_u m1 q0 2 0 → ∀ m3, m3 = aj_u m2 q0 3 0 → ∀ m4, m4 = aj_u m3 q0 4 0 → ∀ m5, m5 = aj_u m4 q0 5 0 → Φ m5
set_option maxHeartbeats 4000000 in
set_option maxRecDepth 100000 in
theorem sX4_clear {n f : Nat} {Φ : aj_M → Prop} {q0 : List Nat} {m : aj_M} (hq0 : (.inl (4, q0) : aj_R) ∈ aj_pls) (h : wX4_clear f Φ q0 m) : aj_Ct n yX4_clear cX4_clear 1 none [vO 4 q0] m (fun r m => r = none ∧ Φ m) := by
  refine aj_met (lv := [some (vO 4 q0)]) (by decide +kernel) rfl (Nat.le_of_ble_eq_true rfl) (fun X C K => ?_)
  unfold wX4_clear at h
  refine aj_aload_n C dX4_clear_0 rfl ?_
  refine aj_iconst C dX4_clear_1 ?_
  refine aj_putI C fpX4_15 hq0 rfl dX4_clear_2 ?_
  refine aj_nm (fun m1 e1 => ?_)
  have h := h m1 e1
  refine aj_aload_n C dX4_clear_5 rfl ?_
  refine aj_iconst C dX4_clear_6 ?_
  refine aj_putI C fpX4_19 hq0 rfl dX4_clear_7 ?_
  refine aj_nm (fun m2 e1 => ?_)
  have h := h m2 e1
  refine aj_aload_n C dX4_clear_10 rfl ?_
  refine aj_iconst C dX4_clear_11 ?_
  refine aj_putI C fpX4_22 hq0 rfl dX4_clear_12 ?_
  refine aj_nm (fun m3 e1 => ?_)
  have h := h m3 e1
  refine aj_aload_n C dX4_clear_15 rfl ?_
  refine aj_iconst C dX4_clear_16 ?_
  refine aj_putI C fpX4_25 hq0 rfl dX4_clear_17 ?_
  refine aj_nm (fun m4 e1 => ?_)
  have h := h m4 e1
  refine aj_aload_n C dX4_clear_20 rfl ?_
  refine aj_iconst C dX4_clear_21 ?_
  refine aj_putI C fpX4_28 hq0 rfl dX4_clear_22 ?_
  refine aj_nm (fun m5 e1 => ?_)
  have h := h m5 e1
  exact aj_vret C K dX4_clear_25 ⟨rfl, h⟩
theorem dX4_add_0 : decode cX4_add 0 = .ok (.aload_n 0, 1) := by decide +kernel
theorem dX4_add_1 : decode cX4_add 1 = .ok (.getfield 15, 3) := by decide +kernel
theorem dX4_add_4 : decode cX4_add 4 = .ok (.aload_n 0, 1) := by decide +kernel
theorem dX4_add_5 : decode cX4_add 5 = .ok (.getfield 9, 3) := by decide +kernel
theorem dX4_add_8 : decode cX4_add 8 = .ok (.arraylength, 1) := by decide +kernel
theorem dX4_add_9 : decode cX4_add 9 = .ok (.if_icmp .ge 28, 3) := by decide +kernel
theorem dX4_add_12 : decode cX4_add 12 = .ok (.aload_n 0, 1) := by decide +kernel
theorem dX4_add_13 : decode cX4_add 13 = .ok (.getfield 9, 3) := by decide +kernel
theorem dX4_add_16 : decode cX4_add 16 = .ok (.aload_n 0, 1) := by decide +kernel
theorem dX4_add_17 : decode cX4_add 17 = .ok (.getfield 15, 3) := by decide +kernel
theorem dX4_add_20 : decode cX4_add 20 = .ok (.iload_n 2, 1) := by decide +kernel
theorem dX4_add_21 : decode cX4_add 21 = .ok (.bipush 16, 2) := by decide +kernel
theorem dX4_add_23 : decode cX4_add 23 = .ok (.imul, 1) := by decide +kernel
theorem dX4_add_24 : decode cX4_add 24 = .ok (.iload_n 1, 1) := by decide +kernel
theorem dX4_add_25 : decode cX4_add 25 = .ok (.iadd, 1) := by decide +kernel
theorem dX4_add_26 : decode cX4_add 26 = .ok (.iastore, 1) := by decide +kernel
theorem dX4_add_27 : decode cX4_add 27 = .ok (.aload_n 0, 1) := by decide +kernel
theorem dX4_add_28 : decode cX4_add 28 = .ok (.dup, 1) := by decide +kernel
theorem dX4_add_29 : decode cX4_add 29 = .ok (.getfield 15, 3) := by decide +kernel
theorem dX4_add_32 : decode cX4_add 32 = .ok (.iconst 1, 1) := by decide +kernel
theorem dX4_add_33 : decode cX4_add 33 = .ok (.iadd, 1) := by decide +kernel
theorem dX4_add_34 : decode cX4_add 34 = .ok (.putfield 15, 3) := by decide +kernel
theorem dX4_add_37 : decode cX4_add 37 = .ok (.return_, 1) := by decide +kernel
def wX4_add (f : Nat) (Φ : aj_M → Prop) (q0 : List Nat) (v1 : Int) (v2 : Int) (m : aj_M) : Prop := rI (m q0 1) ∧ (900 ≤ (m q0 1) → Φ m) ∧ (¬ (900 ≤ (m q0 1)) → (0 ≤ (m q0 1) ∧ (m q0 1) < 900) ∧ ∀ m1, m1 = aj_u m (0 :: q0) (m q0 1).toNat ((v2 * 16) + v1) → ∀ m2, m2 = aj_u m1 q0 1 ((m1 q0 1) + 1) → Φ m2)
set_option maxHeartbeats 4000000 in
set_option maxRecDepth 100000 in
theorem sX4_add {n f : Nat} {Φ : aj_M → Prop} {q0 : List Nat} {v1 : Int} {v2 : Int} {m : aj_M} (hq0 : (.inl (4, q0) : aj_R) ∈ aj_pls) (h : wX4_add f Φ q0 v1 v2 m) : aj_Ct n yX4_add cX4_add 3 none [vO 4 q0, vI v1, vI v2] m (fun r m => r = none ∧ Φ m) := by
  refine aj_met (lv := [some (vO 4 q0), some (vI v1), some (vI v2)]) (by decide +kernel) rfl (Nat.le_of_ble_eq_true rfl) (fun X C K => ?_)
  unfold wX4_add at h
  refine aj_aload_n C dX4_add_0 rfl ?_
  refine aj_getI C flX4_15 hq0 (by decide) dX4_add_1 rfl ?_
  refine aj_aload_n C dX4_add_4 rfl ?_
  refine aj_getA (x := 0) (y := 900) C flX4_9 hq0 rfl dX4_add_5 ?_
  refine aj_alen C (aj_ca (e := 0) (n := 900) (j := 0) hq0 (by decide) rfl) (fun _ => rfl) dX4_add_8 ?_
  obtain ⟨r0, h1, h2⟩ := h
  refine aj_icmp_ge (tgt := 37) C dX4_add_9 (by decide) r0 (by decide) (fun e => ?_) (fun e => ?_)
  · have h := h1 e
    exact aj_vret C K dX4_add_37 ⟨rfl, h⟩
  · have h := h2 e
    refine aj_aload_n C dX4_add_12 rfl ?_
    refine aj_getA (x := 0) (y := 900) C flX4_9 hq0 rfl dX4_add_13 ?_
    refine aj_aload_n C dX4_add_16 rfl ?_
    refine aj_getI C flX4_15 hq0 (by decide) dX4_add_17 rfl ?_
    refine aj_iload_n C dX4_add_20 rfl ?_
    refine aj_bipush C dX4_add_21 (by decide) ?_
    refine aj_imul C dX4_add_23 ?_
    refine aj_iload_n C dX4_add_24 rfl ?_
    refine aj_iadd C dX4_add_25 ?_
    obtain ⟨r0, h⟩ := h
    refine aj_iast C (aj_ca (e := 0) (n := 900) (j := 0) hq0 (by decide) rfl) (by decide) r0 dX4_add_26 ?_
    refine aj_nm (fun m1 e1 => ?_)
    have h := h m1 e1
    refine aj_aload_n C dX4_add_27 rfl ?_
    refine aj_dup C aj_nR dX4_add_28 ?_
    refine aj_getI C flX4_15 hq0 (by decide) dX4_add_29 rfl ?_
    refine aj_iconst C dX4_add_32 ?_
    refine aj_iadd C dX4_add_33 ?_
    refine aj_putI C fpX4_15 hq0 rfl dX4_add_34 ?_
    refine aj_nm (fun m2 e1 => ?_)
    have h := h m2 e1
    exact aj_vret C K dX4_add_37 ⟨rfl, h⟩
theorem dX4_atom_0 : decode cX4_atom 0 = .ok (.iload_n 0, 1) := by decide +kernel
theorem dX4_atom_1 : decode cX4_atom 1 = .ok (.tableswitch 57 1 5 #[35, 37, 44, 51, 54], 35) := by decide +kernel
theorem dX4_atom_36 : decode cX4_atom 36 = .ok (.iload_n 3, 1) := by decide +kernel
theorem dX4_atom_37 : decode cX4_atom 37 = .ok (.ireturn, 1) := by decide +kernel
theorem dX4_atom_38 : decode cX4_atom 38 = .ok (.aload_n 2, 1) := by decide +kernel
theorem dX4_atom_39 : decode cX4_atom 39 = .ok (.getfield 61, 3) := by decide +kernel
theorem dX4_atom_42 : decode cX4_atom 42 = .ok (.iload_n 3, 1) := by decide +kernel
theorem dX4_atom_43 : decode cX4_atom 43 = .ok (.iaload, 1) := by decide +kernel
theorem dX4_atom_44 : decode cX4_atom 44 = .ok (.ireturn, 1) := by decide +kernel
theorem dX4_atom_45 : decode cX4_atom 45 = .ok (.aload_n 2, 1) := by decide +kernel
theorem dX4_atom_46 : decode cX4_atom 46 = .ok (.getfield 66, 3) := by decide +kernel
theorem dX4_atom_49 : decode cX4_atom 49 = .ok (.iload_n 3, 1) := by decide +kernel
theorem dX4_atom_50 : decode cX4_atom 50 = .ok (.iaload, 1) := by decide +kernel
theorem dX4_atom_51 : decode cX4_atom 51 = .ok (.ireturn, 1) := by decide +kernel
theorem dX4_atom_52 : decode cX4_atom 52 = .ok (.iload 4, 2) := by decide +kernel
theorem dX4_atom_54 : decode cX4_atom 54 = .ok (.ireturn, 1) := by decide +kernel
theorem dX4_atom_55 : decode cX4_atom 55 = .ok (.iload 5, 2) := by decide +kernel
theorem dX4_atom_57 : decode cX4_atom 57 = .ok (.ireturn, 1) := by decide +kernel
theorem dX4_atom_58 : decode cX4_atom 58 = .ok (.iload_n 1, 1) := by decide +kernel
theorem dX4_atom_59 : decode cX4_atom 59 = .ok (.ireturn, 1) := by decide +kernel
def wX4_atom (f : Nat) (Φ : Int → aj_M → Prop) (v0 : Int) (v1 : Int) (q2 : List Nat) (v3 : Int) (v4 : Int) (v5 : Int) (m : aj_M) : Prop := rI v0 ∧ (v0 < 1 ∨ 5 < v0 → Φ v1 m) ∧ (v0 = 1 → Φ v3 m) ∧ (v0 = 2 → (0 ≤ v3 ∧ v3 < 12) ∧ Φ (m (7 :: q2) v3.toNat) m) ∧ (v0 = 3 → (0 ≤ v3 ∧ v3 < 12) ∧ Φ (m (8 :: q2) v3.toNat) m) ∧ (v0 = 4 → Φ v4 m) ∧ (v0 = 5 → Φ v5 m)
set_option maxHeartbeats 4000000 in
set_option maxRecDepth 100000 in
theorem sX4_atom {n f : Nat} {Φ : Int → aj_M → Prop} {v0 : Int} {v1 : Int} {q2 : List Nat} {v3 : Int} {v4 : Int} {v5 : Int} {m : aj_M} (hq2 : (.inl (6, q2) : aj_R) ∈ aj_pls) (h : wX4_atom f Φ v0 v1 q2 v3 v4 v5 m) : aj_Ct n yX4_atom cX4_atom 6 (some .int) [vI v0, vI v1, vO 6 q2, vI v3, vI v4, vI v5] m (fun r m => ∃ z, r = some (vI z) ∧ Φ z m) := by
  refine aj_met (lv := [some (vI v0), some (vI v1), some (vO 6 q2), some (vI v3), some (vI v4), some (vI v5)]) (by decide +kernel) rfl (Nat.le_of_ble_eq_true rfl) (fun X C K => ?_)
  unfold wX4_atom at h
  refine aj_iload_n C dX4_atom_0 rfl ?_
  obtain ⟨r0, hd, hc0, hc1, hc2, hc3, hc4⟩ := h
  rcases (by omega : (v0 < 1 ∨ 5 < v0) ∨ v0 = 1 ∨ v0 = 2 ∨ v0 = 3 ∨ v0 = 4 ∨ v0 = 5) with e | e | e | e | e | e
  · have h := hd e
    refine aj_tout (tgt := 58) C dX4_atom_1 r0 e (by decide) ?_
    refine aj_iload_n C dX4_atom_58 rfl ?_
    exact aj_iret C K dX4_atom_59 ⟨_, rfl, h⟩
  · have h := hc0 e
    refine aj_tin (tgt := 36) (off := 35) C dX4_atom_1 r0 (by omega) (by omega) (by rw [e]; rfl) (by decide) ?_
    refine aj_iload_n C dX4_atom_36 rfl ?_
    exact aj_iret C K dX4_atom_37 ⟨_, rfl, h⟩
  · have h := hc1 e
    refine aj_tin (tgt := 38) (off := 37) C dX4_atom_1 r0 (by omega) (by omega) (by rw [e]; rfl) (by decide) ?_
    refine aj_aload_n C dX4_atom_38 rfl ?_
    refine aj_getA (x := 0) (y := 12) C flX4_61 hq2 rfl dX4_atom_39 ?_
    refine aj_iload_n C dX4_atom_42 rfl ?_
    obtain ⟨r0, h⟩ := h
    refine aj_iald C (aj_ca (e := 0) (n := 12) (j := 7) hq2 (by decide) rfl) (by decide) r0 dX4_atom_43 rfl ?_
    exact aj_iret C K dX4_atom_44 ⟨_, rfl, h⟩
  · have h := hc2 e
    refine aj_tin (tgt := 45) (off := 44) C dX4_atom_1 r0 (by omega) (by omega) (by rw [e]; rfl) (by decide) ?_
    refine aj_aload_n C dX4_atom_45 rfl ?_
    refine aj_getA (x := 0) (y := 12) C flX4_66 hq2 rfl dX4_atom_46 ?_
    refine aj_iload_n C dX4_atom_49 rfl ?_
    obtain ⟨r0, h⟩ := h
    refine aj_iald C (aj_ca (e := 0) (n := 12) (j := 8) hq2 (by decide) rfl) (by decide) r0 dX4_atom_50 rfl ?_
    exact aj_iret C K dX4_atom_51 ⟨_, rfl, h⟩
  · have h := hc3 e
    refine aj_tin (tgt := 52) (off := 51) C dX4_atom_1 r0 (by omega) (by omega) (by rw [e]; rfl) (by decide) ?_
    refine aj_iload C dX4_atom_52 rfl ?_
    exact aj_iret C K dX4_atom_54 ⟨_, rfl, h⟩
  · have h := hc4 e
    refine aj_tin (tgt := 55) (off := 54) C dX4_atom_1 r0 (by omega) (by omega) (by rw [e]; rfl) (by decide) ?_
    refine aj_iload C dX4_atom_55 rfl ?_
    exact aj_iret C K dX4_atom_57 ⟨_, rfl, h⟩
theorem dX4_joined_0 : decode cX4_joined 0 = .ok (.iload_n 0, 1) := by decide +kernel
theorem dX4_joined_1 : decode cX4_joined 1 = .ok (.tableswitch 101 6 13 #[47, 52, 57, 63, 74, 85, 101, 96], 47) := by decide +kernel
theorem dX4_joined_48 : decode cX4_joined 48 = .ok (.iload_n 1, 1) := by decide +kernel
theorem dX4_joined_49 : decode cX4_joined 49 = .ok (.iload_n 2, 1) := by decide +kernel
theorem dX4_joined_50 : decode cX4_joined 50 = .ok (.iadd, 1) := by decide +kernel
theorem dX4_joined_51 : decode cX4_joined 51 = .ok (.i2l, 1) := by decide +kernel
theorem dX4_joined_52 : decode cX4_joined 52 = .ok (.lreturn, 1) := by decide +kernel
theorem dX4_joined_53 : decode cX4_joined 53 = .ok (.iload_n 1, 1) := by decide +kernel
theorem dX4_joined_54 : decode cX4_joined 54 = .ok (.iload_n 2, 1) := by decide +kernel
theorem dX4_joined_55 : decode cX4_joined 55 = .ok (.isub, 1) := by decide +kernel
theorem dX4_joined_56 : decode cX4_joined 56 = .ok (.i2l, 1) := by decide +kernel
theorem dX4_joined_57 : decode cX4_joined 57 = .ok (.lreturn, 1) := by decide +kernel
theorem dX4_joined_58 : decode cX4_joined 58 = .ok (.iload_n 1, 1) := by decide +kernel
theorem dX4_joined_59 : decode cX4_joined 59 = .ok (.i2l, 1) := by decide +kernel
theorem dX4_joined_60 : decode cX4_joined 60 = .ok (.iload_n 2, 1) := by decide +kernel
theorem dX4_joined_61 : decode cX4_joined 61 = .ok (.i2l, 1) := by decide +kernel
theorem dX4_joined_62 : decode cX4_joined 62 = .ok (.lmul, 1) := by decide +kernel
theorem dX4_joined_63 : decode cX4_joined 63 = .ok (.lreturn, 1) := by decide +kernel
theorem dX4_joined_64 : decode cX4_joined 64 = .ok (.iload_n 1, 1) := by decide +kernel
theorem dX4_joined_65 : decode cX4_joined 65 = .ok (.iload_n 2, 1) := by decide +kernel
theorem dX4_joined_66 : decode cX4_joined 66 = .ok (.if_icmp .ne 7, 3) := by decide +kernel
theorem dX4_joined_69 : decode cX4_joined 69 = .ok (.lconst 1, 1) := by decide +kernel
theorem dX4_joined_70 : decode cX4_joined 70 = .ok (.goto 4, 3) := by decide +kernel
theorem dX4_joined_73 : decode cX4_joined 73 = .ok (.lconst 0, 1) := by decide +kernel
theorem dX4_joined_74 : decode cX4_joined 74 = .ok (.lreturn, 1) := by decide +kernel
theorem dX4_joined_75 : decode cX4_joined 75 = .ok (.iload_n 1, 1) := by decide +kernel
theorem dX4_joined_76 : decode cX4_joined 76 = .ok (.iload_n 2, 1) := by decide +kernel
theorem dX4_joined_77 : decode cX4_joined 77 = .ok (.if_icmp .ge 7, 3) := by decide +kernel
theorem dX4_joined_80 : decode cX4_joined 80 = .ok (.lconst 1, 1) := by decide +kernel
theorem dX4_joined_81 : decode cX4_joined 81 = .ok (.goto 4, 3) := by decide +kernel
theorem dX4_joined_84 : decode cX4_joined 84 = .ok (.lconst 0, 1) := by decide +kernel
theorem dX4_joined_85 : decode cX4_joined 85 = .ok (.lreturn, 1) := by decide +kernel
theorem dX4_joined_86 : decode cX4_joined 86 = .ok (.iload_n 1, 1) := by decide +kernel
theorem dX4_joined_87 : decode cX4_joined 87 = .ok (.iload_n 2, 1) := by decide +kernel
theorem dX4_joined_88 : decode cX4_joined 88 = .ok (.if_icmp .le 7, 3) := by decide +kernel
theorem dX4_joined_91 : decode cX4_joined 91 = .ok (.lconst 1, 1) := by decide +kernel
theorem dX4_joined_92 : decode cX4_joined 92 = .ok (.goto 4, 3) := by decide +kernel
theorem dX4_joined_95 : decode cX4_joined 95 = .ok (.lconst 0, 1) := by decide +kernel
theorem dX4_joined_96 : decode cX4_joined 96 = .ok (.lreturn, 1) := by decide +kernel
theorem dX4_joined_97 : decode cX4_joined 97 = .ok (.iload_n 1, 1) := by decide +kernel
theorem dX4_joined_98 : decode cX4_joined 98 = .ok (.iload_n 2, 1) := by decide +kernel
theorem dX4_joined_99 : decode cX4_joined 99 = .ok (.iand, 1) := by decide +kernel
theorem dX4_joined_100 : decode cX4_joined 100 = .ok (.i2l, 1) := by decide +kernel
theorem dX4_joined_101 : decode cX4_joined 101 = .ok (.lreturn, 1) := by decide +kernel
theorem dX4_joined_102 : decode cX4_joined 102 = .ok (.iload_n 1, 1) := by decide +kernel
theorem dX4_joined_103 : decode cX4_joined 103 = .ok (.iload_n 2, 1) := by decide +kernel
theorem dX4_joined_104 : decode cX4_joined 104 = .ok (.ior, 1) := by decide +kernel
theorem dX4_joined_105 : decode cX4_joined 105 = .ok (.i2l, 1) := by decide +kernel
theorem dX4_joined_106 : decode cX4_joined 106 = .ok (.lreturn, 1) := by decide +kernel
def wX4_joined (f : Nat) (Φ : Int → aj_M → Prop) (v0 : Int) (v1 : Int) (v2 : Int) (m : aj_M) : Prop := rI v0 ∧ (v0 < 6 ∨ 13 < v0 → rI (aj_or v1 v2) ∧ Φ (aj_or v1 v2) m) ∧ (v0 = 6 → rI (v1 + v2) ∧ Φ (v1 + v2) m) ∧ (v0 = 7 → rI (v1 - v2) ∧ Φ (v1 - v2) m) ∧ (v0 = 8 → rI v1 ∧ rI v2 ∧ Φ (v1 * v2) m) ∧ (v0 = 9 → rI v1 ∧ rI v2 ∧ (¬ v1 = v2 → Φ 0 m) ∧ (v1 = v2 → Φ 1 m)) ∧ (v0 = 10 → rI v1 ∧ rI v2 ∧ (v2 ≤ v1 → Φ 0 m) ∧ (¬ (v2 ≤ v1) → Φ 1 m)) ∧ (v0 = 11 → rI v1 ∧ rI v2 ∧ (v1 ≤ v2 → Φ 0 m) ∧ (¬ (v1 ≤ v2) → Φ 1 m)) ∧ (v0 = 12 → rI (aj_or v1 v2) ∧ Φ (aj_or v1 v2) m) ∧ (v0 = 13 → rI (aj_and v1 v2) ∧ Φ (aj_and v1 v2) m)
set_option maxHeartbeats 4000000 in
set_option maxRecDepth 100000 in
theorem sX4_joined {n f : Nat} {Φ : Int → aj_M → Prop} {v0 : Int} {v1 : Int} {v2 : Int} {m : aj_M}  (h : wX4_joined f Φ v0 v1 v2 m) : aj_Ct n yX4_joined cX4_joined 3 (some .long) [vI v0, vI v1, vI v2] m (fun r m => ∃ z, r = some (vL z) ∧ Φ z m) := by
  refine aj_met (lv := [some (vI v0), some (vI v1), some (vI v2)]) (by decide +kernel) rfl (Nat.le_of_ble_eq_true rfl) (fun X C K => ?_)
  unfold wX4_joined at h
  refine aj_iload_n C dX4_joined_0 rfl ?_
  obtain ⟨r0, hd, hc0, hc1, hc2, hc3, hc4, hc5, hc6, hc7⟩ := h
  rcases (by omega : (v0 < 6 ∨ 13 < v0) ∨ v0 = 6 ∨ v0 = 7 ∨ v0 = 8 ∨ v0 = 9 ∨ v0 = 10 ∨ v0 = 11 ∨ v0 = 12 ∨ v0 = 13) with e | e | e | e | e | e | e | e | e
  · have h := hd e
    refine aj_tout (tgt := 102) C dX4_joined_1 r0 e (by decide) ?_
    refine aj_iload_n C dX4_joined_102 rfl ?_
    refine aj_iload_n C dX4_joined_103 rfl ?_
    refine aj_ior C dX4_joined_104 ?_
    obtain ⟨r0, h⟩ := h
    refine aj_i2l C dX4_joined_105 r0 ?_
    exact aj_lret C K dX4_joined_106 ⟨_, rfl, h⟩
  · have h := hc0 e
    refine aj_tin (tgt := 48) (off := 47) C dX4_joined_1 r0 (by omega) (by omega) (by rw [e]; rfl) (by decide) ?_
    refine aj_iload_n C dX4_joined_48 rfl ?_
    refine aj_iload_n C dX4_joined_49 rfl ?_
    refine aj_iadd C dX4_joined_50 ?_
    obtain ⟨r0, h⟩ := h
    refine aj_i2l C dX4_joined_51 r0 ?_
    exact aj_lret C K dX4_joined_52 ⟨_, rfl, h⟩
  · have h := hc1 e
    refine aj_tin (tgt := 53) (off := 52) C dX4_joined_1 r0 (by omega) (by omega) (by rw [e]; rfl) (by decide) ?_
    refine aj_iload_n C dX4_joined_53 rfl ?_
    refine aj_iload_n C dX4_joined_54 rfl ?_
    refine aj_isub C dX4_joined_55 ?_
    obtain ⟨r0, h⟩ := h
    refine aj_i2l C dX4_joined_56 r0 ?_
    exact aj_lret C K dX4_joined_57 ⟨_, rfl, h⟩
  · have h := hc2 e
    refine aj_tin (tgt := 58) (off := 57) C dX4_joined_1 r0 (by omega) (by omega) (by rw [e]; rfl) (by decide) ?_
    refine aj_iload_n C dX4_joined_58 rfl ?_
    obtain ⟨r0, h⟩ := h
    refine aj_i2l C dX4_joined_59 r0 ?_
    refine aj_iload_n C dX4_joined_60 rfl ?_
    obtain ⟨r0, h⟩ := h
    refine aj_i2l C dX4_joined_61 r0 ?_
    refine aj_lmul C dX4_joined_62 ?_
    exact aj_lret C K dX4_joined_63 ⟨_, rfl, h⟩
  · have h := hc3 e
    refine aj_tin (tgt := 64) (off := 63) C dX4_joined_1 r0 (by omega) (by omega) (by rw [e]; rfl) (by decide) ?_
    refine aj_iload_n C dX4_joined_64 rfl ?_
    refine aj_iload_n C dX4_joined_65 rfl ?_
    obtain ⟨r0, r1, h1, h2⟩ := h
    refine aj_icmp_ne (tgt := 73) C dX4_joined_66 (by decide) r0 r1 (fun e => ?_) (fun e => ?_)
    · have h := h1 e
      refine aj_lconst (z := 0) C dX4_joined_73 rfl ?_
      exact aj_lret C K dX4_joined_74 ⟨_, rfl, h⟩
    · have h := h2 e
      refine aj_lconst (z := 1) C dX4_joined_69 rfl ?_
      refine aj_goto (tgt := 74) C dX4_joined_70 (by decide) ?_
      exact aj_lret C K dX4_joined_74 ⟨_, rfl, h⟩
  · have h := hc4 e
    refine aj_tin (tgt := 75) (off := 74) C dX4_joined_1 r0 (by omega) (by omega) (by rw [e]; rfl) (by decide) ?_
    refine aj_iload_n C dX4_joined_75 rfl ?_
    refine aj_iload_n C dX4_joined_76 rfl ?_
    obtain ⟨r0, r1, h1, h2⟩ := h
    refine aj_icmp_ge (tgt := 84) C dX4_joined_77 (by decide) r0 r1 (fun e => ?_) (fun e => ?_)
    · have h := h1 e
      refine aj_lconst (z := 0) C dX4_joined_84 rfl ?_
      exact aj_lret C K dX4_joined_85 ⟨_, rfl, h⟩
    · have h := h2 e
      refine aj_lconst (z := 1) C dX4_joined_80 rfl ?_
      refine aj_goto (tgt := 85) C dX4_joined_81 (by decide) ?_
      exact aj_lret C K dX4_joined_85 ⟨_, rfl, h⟩
  · have h := hc5 e
    refine aj_tin (tgt := 86) (off := 85) C dX4_joined_1 r0 (by omega) (by omega) (by rw [e]; rfl) (by decide) ?_
    refine aj_iload_n C dX4_joined_86 rfl ?_
    refine aj_iload_n C dX4_joined_87 rfl ?_
    obtain ⟨r0, r1, h1, h2⟩ := h
    refine aj_icmp_le (tgt := 95) C dX4_joined_88 (by decide) r0 r1 (fun e => ?_) (fun e => ?_)
    · have h := h1 e
      refine aj_lconst (z := 0) C dX4_joined_95 rfl ?_
      exact aj_lret C K dX4_joined_96 ⟨_, rfl, h⟩
    · have h := h2 e
      refine aj_lconst (z := 1) C dX4_joined_91 rfl ?_
      refine aj_goto (tgt := 96) C dX4_joined_92 (by decide) ?_
      exact aj_lret C K dX4_joined_96 ⟨_, rfl, h⟩
  · have h := hc6 e
    refine aj_tin (tgt := 102) (off := 101) C dX4_joined_1 r0 (by omega) (by omega) (by rw [e]; rfl) (by decide) ?_
    refine aj_iload_n C dX4_joined_102 rfl ?_
    refine aj_iload_n C dX4_joined_103 rfl ?_
    refine aj_ior C dX4_joined_104 ?_
    obtain ⟨r0, h⟩ := h
    refine aj_i2l C dX4_joined_105 r0 ?_
    exact aj_lret C K dX4_joined_106 ⟨_, rfl, h⟩
  · have h := hc7 e
    refine aj_tin (tgt := 97) (off := 96) C dX4_joined_1 r0 (by omega) (by omega) (by rw [e]; rfl) (by decide) ?_
    refine aj_iload_n C dX4_joined_97 rfl ?_
    refine aj_iload_n C dX4_joined_98 rfl ?_
    refine aj_iand C dX4_joined_99 ?_
    obtain ⟨r0, h⟩ := h
    refine aj_i2l C dX4_joined_100 r0 ?_
    exact aj_lret C K dX4_joined_101 ⟨_, rfl, h⟩
