theorem dX11_found_0 : decode cX11_found 0 = .ok (.iload_n 1, 1) := by decide +kernel
theorem dX11_found_1 : decode cX11_found 1 = .ok (.iload_n 2, 1) := by decide +kernel
theorem dX11_found_2 : decode cX11_found 2 = .ok (.iload_n 3, 1) := by decide +kernel
theorem dX11_found_3 : decode cX11_found 3 = .ok (.invokestatic 337, 3) := by decide +kernel
theorem dX11_found_6 : decode cX11_found 6 = .ok (.ifCond .eq 25, 3) := by decide +kernel
theorem dX11_found_9 : decode cX11_found 9 = .ok (.iload 4, 2) := by decide +kernel
theorem dX11_found_11 : decode cX11_found 11 = .ok (.ifCond .lt 20, 3) := by decide +kernel
theorem dX11_found_14 : decode cX11_found 14 = .ok (.iload 4, 2) := by decide +kernel
theorem dX11_found_16 : decode cX11_found 16 = .ok (.iload_n 3, 1) := by decide +kernel
theorem dX11_found_17 : decode cX11_found 17 = .ok (.if_icmp .ge 14, 3) := by decide +kernel
theorem dX11_found_20 : decode cX11_found 20 = .ok (.iload 5, 2) := by decide +kernel
theorem dX11_found_22 : decode cX11_found 22 = .ok (.ifCond .lt 9, 3) := by decide +kernel
theorem dX11_found_25 : decode cX11_found 25 = .ok (.iload 5, 2) := by decide +kernel
theorem dX11_found_27 : decode cX11_found 27 = .ok (.iload_n 3, 1) := by decide +kernel
theorem dX11_found_28 : decode cX11_found 28 = .ok (.if_icmp .lt 6, 3) := by decide +kernel
theorem dX11_found_31 : decode cX11_found 31 = .ok (.bipush (-3), 2) := by decide +kernel
theorem dX11_found_33 : decode cX11_found 33 = .ok (.ireturn, 1) := by decide +kernel
theorem dX11_found_34 : decode cX11_found 34 = .ok (.aload_n 0, 1) := by decide +kernel
theorem dX11_found_35 : decode cX11_found 35 = .ok (.getfield 72, 3) := by decide +kernel
theorem dX11_found_38 : decode cX11_found 38 = .ok (.iload_n 1, 1) := by decide +kernel
theorem dX11_found_39 : decode cX11_found 39 = .ok (.iload_n 2, 1) := by decide +kernel
theorem dX11_found_40 : decode cX11_found 40 = .ok (.iload_n 3, 1) := by decide +kernel
theorem dX11_found_41 : decode cX11_found 41 = .ok (.invokevirtual 341, 3) := by decide +kernel
theorem dX11_found_44 : decode cX11_found 44 = .ok (.aload_n 0, 1) := by decide +kernel
theorem dX11_found_45 : decode cX11_found 45 = .ok (.getfield 72, 3) := by decide +kernel
theorem dX11_found_48 : decode cX11_found 48 = .ok (.getfield 345, 3) := by decide +kernel
theorem dX11_found_51 : decode cX11_found 51 = .ok (.iconst 1, 1) := by decide +kernel
theorem dX11_found_52 : decode cX11_found 52 = .ok (.if_icmp .eq 5, 3) := by decide +kernel
theorem dX11_found_55 : decode cX11_found 55 = .ok (.iconst (-1), 1) := by decide +kernel
theorem dX11_found_56 : decode cX11_found 56 = .ok (.ireturn, 1) := by decide +kernel
theorem dX11_found_57 : decode cX11_found 57 = .ok (.aload_n 0, 1) := by decide +kernel
theorem dX11_found_58 : decode cX11_found 58 = .ok (.getfield 72, 3) := by decide +kernel
theorem dX11_found_61 : decode cX11_found 61 = .ok (.getfield 354, 3) := by decide +kernel
theorem dX11_found_64 : decode cX11_found 64 = .ok (.iload 4, 2) := by decide +kernel
theorem dX11_found_66 : decode cX11_found 66 = .ok (.iaload, 1) := by decide +kernel
theorem dX11_found_67 : decode cX11_found 67 = .ok (.iload 5, 2) := by decide +kernel
theorem dX11_found_69 : decode cX11_found 69 = .ok (.ishr, 1) := by decide +kernel
theorem dX11_found_70 : decode cX11_found 70 = .ok (.iconst 1, 1) := by decide +kernel
theorem dX11_found_71 : decode cX11_found 71 = .ok (.iand, 1) := by decide +kernel
theorem dX11_found_72 : decode cX11_found 72 = .ok (.ireturn, 1) := by decide +kernel
def wX11_found (f : Nat) (Φ : Int → aj_M → Prop) (q0 : List Nat) (v1 : Int) (v2 : Int) (v3 : Int) (v4 : Int) (v5 : Int) (m : aj_M) : Prop := wX2_canBe f (fun z1 m1 => rI z1 ∧ (z1 = 0 → Φ (-3) m1) ∧ (¬ (z1 = 0) → rI v4 ∧ (v4 < 0 → Φ (-3) m1) ∧ (¬ (v4 < 0) → rI v4 ∧ rI v3 ∧ (v3 ≤ v4 → Φ (-3) m1) ∧ (¬ (v3 ≤ v4) → rI v5 ∧ (v5 < 0 → Φ (-3) m1) ∧ (¬ (v5 < 0) → rI v5 ∧ rI v3 ∧ (v5 < v3 → wX2_run f (fun m2 => rI (m2 (10 :: q0) 3) ∧ ((m2 (10 :: q0) 3) = 1 → (0 ≤ v4 ∧ v4 < 14) ∧ Φ (aj_and (aj_shr (m2 (6 :: (10 :: q0)) v4.toNat) v5) 1) m2) ∧ (¬ ((m2 (10 :: q0) 3) = 1) → Φ (-1) m2)) (10 :: q0) v1 v2 v3 m1) ∧ (¬ (v5 < v3) → Φ (-3) m1)))))) v1 v2 v3 m
set_option maxHeartbeats 4000000 in
set_option maxRecDepth 100000 in
theorem sX11_found {n f : Nat} {Φ : Int → aj_M → Prop} {q0 : List Nat} {v1 : Int} {v2 : Int} {v3 : Int} {v4 : Int} {v5 : Int} {m : aj_M} (hq0 : (.inl (11, q0) : aj_R) ∈ aj_pls) (h : wX11_found f Φ q0 v1 v2 v3 v4 v5 m) : aj_Ct (n + 36) yX11_found cX11_found 6 (some .int) [vO 11 q0, vI v1, vI v2, vI v3, vI v4, vI v5] m (fun r m => ∃ z, r = some (vI z) ∧ Φ z m) := by
  refine aj_met (lv := [some (vO 11 q0), some (vI v1), some (vI v2), some (vI v3), some (vI v4), some (vI v5)]) (by decide +kernel) rfl (Nat.le_of_ble_eq_true rfl) (fun X C K => ?_)
  unfold wX11_found at h
  refine aj_iload_n C dX11_found_0 rfl ?_
  refine aj_iload_n C dX11_found_1 rfl ?_
  refine aj_iload_n C dX11_found_2 rfl ?_
  refine aj_callS (rest := []) C msX11_337 (sX2_canBe  h) (aj_np 3 (by decide +kernel) rfl) (Nat.le_of_ble_eq_true rfl) rfl dX11_found_3 (fun r m1 h => ?_)
  obtain ⟨z1, rfl, h⟩ := h
  obtain ⟨r0, h1, h2⟩ := h
  refine aj_if_eq (tgt := 31) C dX11_found_6 (by decide) r0 (fun e => ?_) (fun e => ?_)
  · have h := h1 e
    refine aj_bipush C dX11_found_31 (by decide) ?_
    exact aj_iret C K dX11_found_33 ⟨_, rfl, h⟩
  · have h := h2 e
    refine aj_iload C dX11_found_9 rfl ?_
    obtain ⟨r0, h1, h2⟩ := h
    refine aj_if_lt (tgt := 31) C dX11_found_11 (by decide) r0 (fun e => ?_) (fun e => ?_)
    · have h := h1 e
      refine aj_bipush C dX11_found_31 (by decide) ?_
      exact aj_iret C K dX11_found_33 ⟨_, rfl, h⟩
    · have h := h2 e
      refine aj_iload C dX11_found_14 rfl ?_
      refine aj_iload_n C dX11_found_16 rfl ?_
      obtain ⟨r0, r1, h1, h2⟩ := h
      refine aj_icmp_ge (tgt := 31) C dX11_found_17 (by decide) r0 r1 (fun e => ?_) (fun e => ?_)
      · have h := h1 e
        refine aj_bipush C dX11_found_31 (by decide) ?_
        exact aj_iret C K dX11_found_33 ⟨_, rfl, h⟩
      · have h := h2 e
        refine aj_iload C dX11_found_20 rfl ?_
        obtain ⟨r0, h1, h2⟩ := h
        refine aj_if_lt (tgt := 31) C dX11_found_22 (by decide) r0 (fun e => ?_) (fun e => ?_)
        · have h := h1 e
          refine aj_bipush C dX11_found_31 (by decide) ?_
          exact aj_iret C K dX11_found_33 ⟨_, rfl, h⟩
        · have h := h2 e
          refine aj_iload C dX11_found_25 rfl ?_
          refine aj_iload_n C dX11_found_27 rfl ?_
          obtain ⟨r0, r1, h1, h2⟩ := h
          refine aj_icmp_lt (tgt := 34) C dX11_found_28 (by decide) r0 r1 (fun e => ?_) (fun e => ?_)
          · have h := h1 e
            refine aj_aload_n C dX11_found_34 rfl ?_
            refine aj_getO (x := 2) (y := 0) C flX11_72 hq0 rfl dX11_found_35 ?_
            refine aj_iload_n C dX11_found_38 rfl ?_
            refine aj_iload_n C dX11_found_39 rfl ?_
            refine aj_iload_n C dX11_found_40 rfl ?_
            refine aj_callV (rest := []) C mvX11_341 (sX2_run (aj_cf (x := 2) (y := 0) (j := 10) hq0 (by decide) rfl) h) (aj_cf (x := 2) (y := 0) (j := 10) hq0 (by decide) rfl) (aj_np 3 (by decide +kernel) rfl) (Nat.le_of_ble_eq_true rfl) rfl dX11_found_41 (fun r m2 h => ?_)
            obtain ⟨rfl, h⟩ := h
            refine aj_aload_n C dX11_found_44 rfl ?_
            refine aj_getO (x := 2) (y := 0) C flX11_72 hq0 rfl dX11_found_45 ?_
            refine aj_getI C flX11_345 (aj_cf (x := 2) (y := 0) (j := 10) hq0 (by decide) rfl) (by decide) dX11_found_48 rfl ?_
            refine aj_iconst C dX11_found_51 ?_
            obtain ⟨r0, h1, h2⟩ := h
            refine aj_icmp_eq (tgt := 57) C dX11_found_52 (by decide) r0 (by decide) (fun e => ?_) (fun e => ?_)
            · have h := h1 e
              refine aj_aload_n C dX11_found_57 rfl ?_
              refine aj_getO (x := 2) (y := 0) C flX11_72 hq0 rfl dX11_found_58 ?_
              refine aj_getA (x := 0) (y := 14) C flX11_354 (aj_cf (x := 2) (y := 0) (j := 10) hq0 (by decide) rfl) rfl dX11_found_61 ?_
              refine aj_iload C dX11_found_64 rfl ?_
              obtain ⟨r0, h⟩ := h
              refine aj_iald C (aj_ca (e := 0) (n := 14) (j := 6) (aj_cf (x := 2) (y := 0) (j := 10) hq0 (by decide) rfl) (by decide) rfl) (by decide) r0 dX11_found_66 rfl ?_
              refine aj_iload C dX11_found_67 rfl ?_
              refine aj_ishr C dX11_found_69 ?_
              refine aj_iconst C dX11_found_70 ?_
              refine aj_iand C dX11_found_71 ?_
              exact aj_iret C K dX11_found_72 ⟨_, rfl, h⟩
            · have h := h2 e
              refine aj_iconst C dX11_found_55 ?_
              exact aj_iret C K dX11_found_56 ⟨_, rfl, h⟩
          · have h := h2 e
            refine aj_bipush C dX11_found_31 (by decide) ?_
            exact aj_iret C K dX11_found_33 ⟨_, rfl, h⟩
theorem dX11_isWeighing_0 : decode cX11_isWeighing 0 = .ok (.lload_n 1, 1) := by decide +kernel
theorem dX11_isWeighing_1 : decode cX11_isWeighing 1 = .ok (.lconst 0, 1) := by decide +kernel
theorem dX11_isWeighing_2 : decode cX11_isWeighing 2 = .ok (.lcmp, 1) := by decide +kernel
theorem dX11_isWeighing_3 : decode cX11_isWeighing 3 = .ok (.ifCond .lt 58, 3) := by decide +kernel
theorem dX11_isWeighing_6 : decode cX11_isWeighing 6 = .ok (.lload_n 1, 1) := by decide +kernel
theorem dX11_isWeighing_7 : decode cX11_isWeighing 7 = .ok (.ldc2_w 424, 3) := by decide +kernel
theorem dX11_isWeighing_10 : decode cX11_isWeighing 10 = .ok (.ldiv, 1) := by decide +kernel
theorem dX11_isWeighing_11 : decode cX11_isWeighing 11 = .ok (.aload_n 0, 1) := by decide +kernel
theorem dX11_isWeighing_12 : decode cX11_isWeighing 12 = .ok (.getfield 19, 3) := by decide +kernel
theorem dX11_isWeighing_15 : decode cX11_isWeighing 15 = .ok (.getfield 368, 3) := by decide +kernel
theorem dX11_isWeighing_18 : decode cX11_isWeighing 18 = .ok (.i2l, 1) := by decide +kernel
theorem dX11_isWeighing_19 : decode cX11_isWeighing 19 = .ok (.lcmp, 1) := by decide +kernel
theorem dX11_isWeighing_20 : decode cX11_isWeighing 20 = .ok (.ifCond .ge 41, 3) := by decide +kernel
theorem dX11_isWeighing_23 : decode cX11_isWeighing 23 = .ok (.lload_n 1, 1) := by decide +kernel
theorem dX11_isWeighing_24 : decode cX11_isWeighing 24 = .ok (.ldc2_w 426, 3) := by decide +kernel
theorem dX11_isWeighing_27 : decode cX11_isWeighing 27 = .ok (.ldiv, 1) := by decide +kernel
theorem dX11_isWeighing_28 : decode cX11_isWeighing 28 = .ok (.ldc2_w 426, 3) := by decide +kernel
theorem dX11_isWeighing_31 : decode cX11_isWeighing 31 = .ok (.lrem, 1) := by decide +kernel
theorem dX11_isWeighing_32 : decode cX11_isWeighing 32 = .ok (.aload_n 0, 1) := by decide +kernel
theorem dX11_isWeighing_33 : decode cX11_isWeighing 33 = .ok (.getfield 19, 3) := by decide +kernel
theorem dX11_isWeighing_36 : decode cX11_isWeighing 36 = .ok (.getfield 136, 3) := by decide +kernel
theorem dX11_isWeighing_39 : decode cX11_isWeighing 39 = .ok (.getfield 327, 3) := by decide +kernel
theorem dX11_isWeighing_42 : decode cX11_isWeighing 42 = .ok (.i2l, 1) := by decide +kernel
theorem dX11_isWeighing_43 : decode cX11_isWeighing 43 = .ok (.lcmp, 1) := by decide +kernel
theorem dX11_isWeighing_44 : decode cX11_isWeighing 44 = .ok (.ifCond .ge 17, 3) := by decide +kernel
theorem dX11_isWeighing_47 : decode cX11_isWeighing 47 = .ok (.lload_n 1, 1) := by decide +kernel
theorem dX11_isWeighing_48 : decode cX11_isWeighing 48 = .ok (.ldc2_w 426, 3) := by decide +kernel
theorem dX11_isWeighing_51 : decode cX11_isWeighing 51 = .ok (.lrem, 1) := by decide +kernel
theorem dX11_isWeighing_52 : decode cX11_isWeighing 52 = .ok (.lconst 0, 1) := by decide +kernel
theorem dX11_isWeighing_53 : decode cX11_isWeighing 53 = .ok (.lcmp, 1) := by decide +kernel
theorem dX11_isWeighing_54 : decode cX11_isWeighing 54 = .ok (.ifCond .le 7, 3) := by decide +kernel
theorem dX11_isWeighing_57 : decode cX11_isWeighing 57 = .ok (.iconst 1, 1) := by decide +kernel
theorem dX11_isWeighing_58 : decode cX11_isWeighing 58 = .ok (.goto 4, 3) := by decide +kernel
theorem dX11_isWeighing_61 : decode cX11_isWeighing 61 = .ok (.iconst 0, 1) := by decide +kernel
theorem dX11_isWeighing_62 : decode cX11_isWeighing 62 = .ok (.ireturn, 1) := by decide +kernel
def wX11_isWeighing (f : Nat) (Φ : Int → aj_M → Prop) (q0 : List Nat) (w1 : Int) (m : aj_M) : Prop := rL w1 ∧ (w1 < 0 → Φ 0 m) ∧ (¬ (w1 < 0) → (0 ≤ w1 ∧ w1 < 9223372036854775808) ∧ rI (m (1 :: q0) 4) ∧ rL (w1 / 10000) ∧ rL (m (1 :: q0) 4) ∧ ((m (1 :: q0) 4) ≤ (w1 / 10000) → Φ 0 m) ∧ (¬ ((m (1 :: q0) 4) ≤ (w1 / 10000)) → (0 ≤ w1 ∧ w1 < 9223372036854775808) ∧ (0 ≤ (w1 / 100) ∧ (w1 / 100) < 9223372036854775808) ∧ rI (m (0 :: (1 :: q0)) 0) ∧ rL ((w1 / 100) % 100) ∧ rL (m (0 :: (1 :: q0)) 0) ∧ ((m (0 :: (1 :: q0)) 0) ≤ ((w1 / 100) % 100) → Φ 0 m) ∧ (¬ ((m (0 :: (1 :: q0)) 0) ≤ ((w1 / 100) % 100)) → (0 ≤ w1 ∧ w1 < 9223372036854775808) ∧ rL (w1 % 100) ∧ ((w1 % 100) ≤ 0 → Φ 0 m) ∧ (¬ ((w1 % 100) ≤ 0) → Φ 1 m))))
set_option maxHeartbeats 4000000 in
set_option maxRecDepth 100000 in
theorem sX11_isWeighing {n f : Nat} {Φ : Int → aj_M → Prop} {q0 : List Nat} {w1 : Int} {m : aj_M} (hq0 : (.inl (11, q0) : aj_R) ∈ aj_pls) (h : wX11_isWeighing f Φ q0 w1 m) : aj_Ct n yX11_isWeighing cX11_isWeighing 3 (some .boolean) [vO 11 q0, vL w1] m (fun r m => ∃ z, r = some (vI z) ∧ Φ z m) := by
  refine aj_met (lv := [some (vO 11 q0), some (vL w1), none]) (by decide +kernel) rfl (Nat.le_of_ble_eq_true rfl) (fun X C K => ?_)
  unfold wX11_isWeighing at h
  refine aj_lload_n C dX11_isWeighing_0 rfl ?_
  refine aj_lconst (z := 0) C dX11_isWeighing_1 rfl ?_
  obtain ⟨r0, h1, h2⟩ := h
  refine aj_lcmp_lt (tgt := 61) C dX11_isWeighing_2 dX11_isWeighing_3 (by decide) r0 (by decide) (fun e => ?_) (fun e => ?_)
  · have h := h1 e
    refine aj_iconst C dX11_isWeighing_61 ?_
    exact aj_zret C K (Or.inl rfl) dX11_isWeighing_62 ⟨_, rfl, h⟩
  · have h := h2 e
    refine aj_lload_n C dX11_isWeighing_6 rfl ?_
    refine aj_ldc2 (z := 10000) C (wd1400) rfl dX11_isWeighing_7 ?_
    obtain ⟨r0, h⟩ := h
    refine aj_ldivN C dX11_isWeighing_10 r0 (by decide) ?_
    refine aj_aload_n C dX11_isWeighing_11 rfl ?_
    refine aj_getO (x := 6) (y := 0) C flX11_19 hq0 rfl dX11_isWeighing_12 ?_
    refine aj_getI C flX11_368 (aj_cf (x := 6) (y := 0) (j := 1) hq0 (by decide) rfl) (by decide) dX11_isWeighing_15 rfl ?_
    obtain ⟨r0, h⟩ := h
    refine aj_i2l C dX11_isWeighing_18 r0 ?_
    obtain ⟨r0, r1, h1, h2⟩ := h
    refine aj_lcmp_ge (tgt := 61) C dX11_isWeighing_19 dX11_isWeighing_20 (by decide) r0 r1 (fun e => ?_) (fun e => ?_)
    · have h := h1 e
      refine aj_iconst C dX11_isWeighing_61 ?_
      exact aj_zret C K (Or.inl rfl) dX11_isWeighing_62 ⟨_, rfl, h⟩
    · have h := h2 e
      refine aj_lload_n C dX11_isWeighing_23 rfl ?_
      refine aj_ldc2 (z := 100) C (wd1401) rfl dX11_isWeighing_24 ?_
      obtain ⟨r0, h⟩ := h
      refine aj_ldivN C dX11_isWeighing_27 r0 (by decide) ?_
      refine aj_ldc2 (z := 100) C (wd1401) rfl dX11_isWeighing_28 ?_
      obtain ⟨r0, h⟩ := h
      refine aj_lremN C dX11_isWeighing_31 r0 (by decide) ?_
      refine aj_aload_n C dX11_isWeighing_32 rfl ?_
      refine aj_getO (x := 6) (y := 0) C flX11_19 hq0 rfl dX11_isWeighing_33 ?_
      refine aj_getO (x := 0) (y := 0) C flX11_136 (aj_cf (x := 6) (y := 0) (j := 1) hq0 (by decide) rfl) rfl dX11_isWeighing_36 ?_
      refine aj_getI C flX11_327 (aj_cf (x := 0) (y := 0) (j := 0) (aj_cf (x := 6) (y := 0) (j := 1) hq0 (by decide) rfl) (by decide) rfl) (by decide) dX11_isWeighing_39 rfl ?_
      obtain ⟨r0, h⟩ := h
      refine aj_i2l C dX11_isWeighing_42 r0 ?_
      obtain ⟨r0, r1, h1, h2⟩ := h
      refine aj_lcmp_ge (tgt := 61) C dX11_isWeighing_43 dX11_isWeighing_44 (by decide) r0 r1 (fun e => ?_) (fun e => ?_)
      · have h := h1 e
        refine aj_iconst C dX11_isWeighing_61 ?_
        exact aj_zret C K (Or.inl rfl) dX11_isWeighing_62 ⟨_, rfl, h⟩
      · have h := h2 e
        refine aj_lload_n C dX11_isWeighing_47 rfl ?_
        refine aj_ldc2 (z := 100) C (wd1401) rfl dX11_isWeighing_48 ?_
        obtain ⟨r0, h⟩ := h
        refine aj_lremN C dX11_isWeighing_51 r0 (by decide) ?_
        refine aj_lconst (z := 0) C dX11_isWeighing_52 rfl ?_
        obtain ⟨r0, h1, h2⟩ := h
        refine aj_lcmp_le (tgt := 61) C dX11_isWeighing_53 dX11_isWeighing_54 (by decide) r0 (by decide) (fun e => ?_) (fun e => ?_)
        · have h := h1 e
          refine aj_iconst C dX11_isWeighing_61 ?_
          exact aj_zret C K (Or.inl rfl) dX11_isWeighing_62 ⟨_, rfl, h⟩
        · have h := h2 e
          refine aj_iconst C dX11_isWeighing_57 ?_
          refine aj_goto (tgt := 62) C dX11_isWeighing_58 (by decide) ?_
          exact aj_zret C K (Or.inr rfl) dX11_isWeighing_62 ⟨_, rfl, h⟩
theorem dX11_allWeighSo_0 : decode cX11_allWeighSo 0 = .ok (.iconst 0, 1) := by decide +kernel
theorem dX11_allWeighSo_1 : decode cX11_allWeighSo 1 = .ok (.istore_n 3, 1) := by decide +kernel
theorem dX11_allWeighSo_2 : decode cX11_allWeighSo 2 = .ok (.iload_n 3, 1) := by decide +kernel
theorem dX11_allWeighSo_3 : decode cX11_allWeighSo 3 = .ok (.aload_n 1, 1) := by decide +kernel
theorem dX11_allWeighSo_4 : decode cX11_allWeighSo 4 = .ok (.getfield 198, 3) := by decide +kernel
theorem dX11_allWeighSo_7 : decode cX11_allWeighSo 7 = .ok (.if_icmp .ge 50, 3) := by decide +kernel
theorem dX11_allWeighSo_10 : decode cX11_allWeighSo 10 = .ok (.aload_n 1, 1) := by decide +kernel
theorem dX11_allWeighSo_11 : decode cX11_allWeighSo 11 = .ok (.getfield 201, 3) := by decide +kernel
theorem dX11_allWeighSo_14 : decode cX11_allWeighSo 14 = .ok (.iload_n 3, 1) := by decide +kernel
theorem dX11_allWeighSo_15 : decode cX11_allWeighSo 15 = .ok (.laload, 1) := by decide +kernel
theorem dX11_allWeighSo_16 : decode cX11_allWeighSo 16 = .ok (.l2i, 1) := by decide +kernel
theorem dX11_allWeighSo_17 : decode cX11_allWeighSo 17 = .ok (.istore 4, 2) := by decide +kernel
theorem dX11_allWeighSo_19 : decode cX11_allWeighSo 19 = .ok (.aload_n 0, 1) := by decide +kernel
theorem dX11_allWeighSo_20 : decode cX11_allWeighSo 20 = .ok (.getfield 19, 3) := by decide +kernel
theorem dX11_allWeighSo_23 : decode cX11_allWeighSo 23 = .ok (.iload 4, 2) := by decide +kernel
theorem dX11_allWeighSo_25 : decode cX11_allWeighSo 25 = .ok (.sipush 10000, 3) := by decide +kernel
theorem dX11_allWeighSo_28 : decode cX11_allWeighSo 28 = .ok (.idiv, 1) := by decide +kernel
theorem dX11_allWeighSo_29 : decode cX11_allWeighSo 29 = .ok (.iload 4, 2) := by decide +kernel
theorem dX11_allWeighSo_31 : decode cX11_allWeighSo 31 = .ok (.bipush 100, 2) := by decide +kernel
theorem dX11_allWeighSo_33 : decode cX11_allWeighSo 33 = .ok (.idiv, 1) := by decide +kernel
theorem dX11_allWeighSo_34 : decode cX11_allWeighSo 34 = .ok (.bipush 100, 2) := by decide +kernel
theorem dX11_allWeighSo_36 : decode cX11_allWeighSo 36 = .ok (.irem, 1) := by decide +kernel
theorem dX11_allWeighSo_37 : decode cX11_allWeighSo 37 = .ok (.iload_n 2, 1) := by decide +kernel
theorem dX11_allWeighSo_38 : decode cX11_allWeighSo 38 = .ok (.invokevirtual 428, 3) := by decide +kernel
theorem dX11_allWeighSo_41 : decode cX11_allWeighSo 41 = .ok (.iload 4, 2) := by decide +kernel
theorem dX11_allWeighSo_43 : decode cX11_allWeighSo 43 = .ok (.bipush 100, 2) := by decide +kernel
theorem dX11_allWeighSo_45 : decode cX11_allWeighSo 45 = .ok (.irem, 1) := by decide +kernel
theorem dX11_allWeighSo_46 : decode cX11_allWeighSo 46 = .ok (.if_icmp .eq 5, 3) := by decide +kernel
theorem dX11_allWeighSo_49 : decode cX11_allWeighSo 49 = .ok (.iconst 0, 1) := by decide +kernel
theorem dX11_allWeighSo_50 : decode cX11_allWeighSo 50 = .ok (.ireturn, 1) := by decide +kernel
theorem dX11_allWeighSo_51 : decode cX11_allWeighSo 51 = .ok (.iinc 3 1, 3) := by decide +kernel
theorem dX11_allWeighSo_54 : decode cX11_allWeighSo 54 = .ok (.goto (-52), 3) := by decide +kernel
theorem dX11_allWeighSo_57 : decode cX11_allWeighSo 57 = .ok (.iconst 1, 1) := by decide +kernel
theorem dX11_allWeighSo_58 : decode cX11_allWeighSo 58 = .ok (.ireturn, 1) := by decide +kernel
def hX11_allWeighSo_2 (f : Nat) (Φ : Int → aj_M → Prop) : Nat → List Nat → List Nat → Int → Int → aj_M → Prop
  | 0, _, _, _, _, _ => False
  | k + 1, q0, q1, v2, v3, m => rI v3 ∧ rI (m q1 2) ∧ ((m q1 2) ≤ v3 → Φ 1 m) ∧ (¬ ((m q1 2) ≤ v3) → (0 ≤ v3 ∧ v3 < 40) ∧ (0 ≤ (m (0 :: q1) v3.toNat) ∧ (m (0 :: q1) v3.toNat) < 2147483648) ∧ (0 ≤ (m (0 :: q1) v3.toNat) ∧ (m (0 :: q1) v3.toNat) < 2147483648) ∧ (0 ≤ ((m (0 :: q1) v3.toNat) / 100) ∧ ((m (0 :: q1) v3.toNat) / 100) < 2147483648) ∧ wX6_weightOf f (fun z1 m1 => (0 ≤ (m (0 :: q1) v3.toNat) ∧ (m (0 :: q1) v3.toNat) < 2147483648) ∧ rI z1 ∧ rI ((m (0 :: q1) v3.toNat) % 100) ∧ (z1 = ((m (0 :: q1) v3.toNat) % 100) → hX11_allWeighSo_2 f Φ k q0 q1 v2 (v3 + 1) m1) ∧ (¬ (z1 = ((m (0 :: q1) v3.toNat) % 100)) → Φ 0 m1)) (1 :: q0) ((m (0 :: q1) v3.toNat) / 10000) (((m (0 :: q1) v3.toNat) / 100) % 100) v2 m)
set_option maxHeartbeats 4000000 in
set_option maxRecDepth 100000 in
theorem tX11_allWeighSo_2 {X : aj_T} {n f : Nat} {Φ : Int → aj_M → Prop} (C : aj_Cx X cX11_allWeighSo RX11 5 (n + 3)) (K : aj_Rt X (some .boolean) (fun r m => ∃ z, r = some (vI z) ∧ Φ z m)) : ∀ (k : Nat) (q0 : List Nat) (q1 : List Nat) (v2 : Int) (v3 : Int) (m : aj_M) (hq0 : (.inl (11, q0) : aj_R) ∈ aj_pls) (hq1 : (.inl (10, q1) : aj_R) ∈ aj_pls), hX11_allWeighSo_2 f Φ k q0 q1 v2 v3 m → aj_J X 2 [some (vO 11 q0), some (vO 10 q1), some (vI v2), some (vI v3), none] [] m := by
  intro k
  induction k with
  | zero =>
    intro q0 q1 v2 v3 m _ _ h
    exact h.elim
  | succ k ih =>
    intro q0 q1 v2 v3 m hq0 hq1 h
    unfold hX11_allWeighSo_2 at h
    refine aj_iload_n C dX11_allWeighSo_2 rfl ?_
    refine aj_aload_n C dX11_allWeighSo_3 rfl ?_
    refine aj_getI C flX11_198 hq1 (by decide) dX11_allWeighSo_4 rfl ?_
    obtain ⟨r0, r1, h1, h2⟩ := h
    refine aj_icmp_ge (tgt := 57) C dX11_allWeighSo_7 (by decide) r0 r1 (fun e => ?_) (fun e => ?_)
    · have h := h1 e
      refine aj_iconst C dX11_allWeighSo_57 ?_
      exact aj_zret C K (Or.inr rfl) dX11_allWeighSo_58 ⟨_, rfl, h⟩
    · have h := h2 e
      refine aj_aload_n C dX11_allWeighSo_10 rfl ?_
      refine aj_getA (x := 3) (y := 40) C flX11_201 hq1 rfl dX11_allWeighSo_11 ?_
      refine aj_iload_n C dX11_allWeighSo_14 rfl ?_
      obtain ⟨r0, h⟩ := h
      refine aj_lald C (aj_ca (e := 3) (n := 40) (j := 0) hq1 (by decide) rfl) (by decide) r0 dX11_allWeighSo_15 rfl ?_
      refine aj_l2i C dX11_allWeighSo_16 ?_
      refine aj_istore (lv' := [some (vO 11 q0), some (vO 10 q1), some (vI v2), some (vI v3), some (vI (m (0 :: q1) v3.toNat))]) C dX11_allWeighSo_17 (by decide) rfl ?_
      refine aj_aload_n C dX11_allWeighSo_19 rfl ?_
      refine aj_getO (x := 6) (y := 0) C flX11_19 hq0 rfl dX11_allWeighSo_20 ?_
      refine aj_iload C dX11_allWeighSo_23 rfl ?_
      refine aj_sipush C dX11_allWeighSo_25 (by decide) ?_
      obtain ⟨r0, h⟩ := h
      refine aj_idivN C dX11_allWeighSo_28 r0 (by decide) ?_
      refine aj_iload C dX11_allWeighSo_29 rfl ?_
      refine aj_bipush C dX11_allWeighSo_31 (by decide) ?_
      obtain ⟨r0, h⟩ := h
      refine aj_idivN C dX11_allWeighSo_33 r0 (by decide) ?_
      refine aj_bipush C dX11_allWeighSo_34 (by decide) ?_
      obtain ⟨r0, h⟩ := h
      refine aj_iremN C dX11_allWeighSo_36 r0 (by decide) ?_
      refine aj_iload_n C dX11_allWeighSo_37 rfl ?_
      refine aj_callV (rest := []) C mvX11_428 (sX6_weightOf (aj_cf (x := 6) (y := 0) (j := 1) hq0 (by decide) rfl) h) (aj_cf (x := 6) (y := 0) (j := 1) hq0 (by decide) rfl) (aj_np 3 (by decide +kernel) rfl) (Nat.le_of_ble_eq_true rfl) rfl dX11_allWeighSo_38 (fun r m1 h => ?_)
      obtain ⟨z1, rfl, h⟩ := h
      refine aj_iload C dX11_allWeighSo_41 rfl ?_
      refine aj_bipush C dX11_allWeighSo_43 (by decide) ?_
      obtain ⟨r0, h⟩ := h
      refine aj_iremN C dX11_allWeighSo_45 r0 (by decide) ?_
      obtain ⟨r0, r1, h1, h2⟩ := h
      refine aj_icmp_eq (tgt := 51) C dX11_allWeighSo_46 (by decide) r0 r1 (fun e => ?_) (fun e => ?_)
      · have h := h1 e
        refine aj_iinc (lv' := [some (vO 11 q0), some (vO 10 q1), some (vI v2), some (vI (v3 + 1)), some (vI (m (0 :: q1) v3.toNat))]) C dX11_allWeighSo_51 rfl (by decide) rfl ?_
        refine aj_goto (tgt := 2) C dX11_allWeighSo_54 (by decide) ?_
        refine aj_wk (lv' := [some (vO 11 q0), some (vO 10 q1), some (vI v2), some (vI (v3 + 1)), none]) (⟨rfl, ⟨rfl, ⟨rfl, ⟨rfl, trivial⟩⟩⟩⟩) ?_
        exact ih q0 q1 v2 (v3 + 1) _ hq0 hq1 h
      · have h := h2 e
        refine aj_iconst C dX11_allWeighSo_49 ?_
        exact aj_zret C K (Or.inl rfl) dX11_allWeighSo_50 ⟨_, rfl, h⟩
def wX11_allWeighSo (f : Nat) (Φ : Int → aj_M → Prop) (q0 : List Nat) (q1 : List Nat) (v2 : Int) (m : aj_M) : Prop := hX11_allWeighSo_2 f Φ f q0 q1 v2 0 m
set_option maxHeartbeats 4000000 in
set_option maxRecDepth 100000 in
theorem sX11_allWeighSo {n f : Nat} {Φ : Int → aj_M → Prop} {q0 : List Nat} {q1 : List Nat} {v2 : Int} {m : aj_M} (hq0 : (.inl (11, q0) : aj_R) ∈ aj_pls) (hq1 : (.inl (10, q1) : aj_R) ∈ aj_pls) (h : wX11_allWeighSo f Φ q0 q1 v2 m) : aj_Ct (n + 3) yX11_allWeighSo cX11_allWeighSo 5 (some .boolean) [vO 11 q0, vO 10 q1, vI v2] m (fun r m => ∃ z, r = some (vI z) ∧ Φ z m) := by
  refine aj_met (lv := [some (vO 11 q0), some (vO 10 q1), some (vI v2), none, none]) (by decide +kernel) rfl (Nat.le_of_ble_eq_true rfl) (fun X C K => ?_)
  unfold wX11_allWeighSo at h
  refine aj_iconst C dX11_allWeighSo_0 ?_
  refine aj_istore_n (lv' := [some (vO 11 q0), some (vO 10 q1), some (vI v2), some (vI 0), none]) C dX11_allWeighSo_1 (by decide) rfl ?_
  exact tX11_allWeighSo_2 C K f q0 q1 v2 0 _ hq0 hq1 h
theorem dX11_twists_0 : decode cX11_twists 0 = .ok (.aload_n 0, 1) := by decide +kernel
theorem dX11_twists_1 : decode cX11_twists 1 = .ok (.iload_n 1, 1) := by decide +kernel
theorem dX11_twists_2 : decode cX11_twists 2 = .ok (.invokevirtual 222, 3) := by decide +kernel
theorem dX11_twists_5 : decode cX11_twists 5 = .ok (.istore_n 2, 1) := by decide +kernel
theorem dX11_twists_6 : decode cX11_twists 6 = .ok (.iload_n 2, 1) := by decide +kernel
theorem dX11_twists_7 : decode cX11_twists 7 = .ok (.ifCond .eq 5, 3) := by decide +kernel
theorem dX11_twists_10 : decode cX11_twists 10 = .ok (.iload_n 2, 1) := by decide +kernel
theorem dX11_twists_11 : decode cX11_twists 11 = .ok (.ireturn, 1) := by decide +kernel
theorem dX11_twists_12 : decode cX11_twists 12 = .ok (.aload_n 0, 1) := by decide +kernel
theorem dX11_twists_13 : decode cX11_twists 13 = .ok (.getfield 51, 3) := by decide +kernel
theorem dX11_twists_16 : decode cX11_twists 16 = .ok (.iload_n 1, 1) := by decide +kernel
theorem dX11_twists_17 : decode cX11_twists 17 = .ok (.aaload, 1) := by decide +kernel
theorem dX11_twists_18 : decode cX11_twists 18 = .ok (.astore_n 3, 1) := by decide +kernel
theorem dX11_twists_19 : decode cX11_twists 19 = .ok (.aload_n 3, 1) := by decide +kernel
theorem dX11_twists_20 : decode cX11_twists 20 = .ok (.getfield 198, 3) := by decide +kernel
theorem dX11_twists_23 : decode cX11_twists 23 = .ok (.iconst 1, 1) := by decide +kernel
theorem dX11_twists_24 : decode cX11_twists 24 = .ok (.if_icmp .lt 12, 3) := by decide +kernel
theorem dX11_twists_27 : decode cX11_twists 27 = .ok (.aload_n 3, 1) := by decide +kernel
theorem dX11_twists_28 : decode cX11_twists 28 = .ok (.getfield 198, 3) := by decide +kernel
theorem dX11_twists_31 : decode cX11_twists 31 = .ok (.bipush 8, 2) := by decide +kernel
theorem dX11_twists_33 : decode cX11_twists 33 = .ok (.if_icmp .le 6, 3) := by decide +kernel
theorem dX11_twists_36 : decode cX11_twists 36 = .ok (.bipush (-4), 2) := by decide +kernel
theorem dX11_twists_38 : decode cX11_twists 38 = .ok (.ireturn, 1) := by decide +kernel
theorem dX11_twists_39 : decode cX11_twists 39 = .ok (.iconst 0, 1) := by decide +kernel
theorem dX11_twists_40 : decode cX11_twists 40 = .ok (.istore 4, 2) := by decide +kernel
theorem dX11_twists_42 : decode cX11_twists 42 = .ok (.iload 4, 2) := by decide +kernel
theorem dX11_twists_44 : decode cX11_twists 44 = .ok (.aload_n 3, 1) := by decide +kernel
theorem dX11_twists_45 : decode cX11_twists 45 = .ok (.getfield 198, 3) := by decide +kernel
theorem dX11_twists_48 : decode cX11_twists 48 = .ok (.if_icmp .ge 26, 3) := by decide +kernel
theorem dX11_twists_51 : decode cX11_twists 51 = .ok (.aload_n 0, 1) := by decide +kernel
theorem dX11_twists_52 : decode cX11_twists 52 = .ok (.aload_n 3, 1) := by decide +kernel
theorem dX11_twists_53 : decode cX11_twists 53 = .ok (.getfield 201, 3) := by decide +kernel
theorem dX11_twists_56 : decode cX11_twists 56 = .ok (.iload 4, 2) := by decide +kernel
theorem dX11_twists_58 : decode cX11_twists 58 = .ok (.laload, 1) := by decide +kernel
theorem dX11_twists_59 : decode cX11_twists 59 = .ok (.invokevirtual 357, 3) := by decide +kernel
theorem dX11_twists_62 : decode cX11_twists 62 = .ok (.ifCond .ne 6, 3) := by decide +kernel
theorem dX11_twists_65 : decode cX11_twists 65 = .ok (.bipush (-3), 2) := by decide +kernel
theorem dX11_twists_67 : decode cX11_twists 67 = .ok (.ireturn, 1) := by decide +kernel
theorem dX11_twists_68 : decode cX11_twists 68 = .ok (.iinc 4 1, 3) := by decide +kernel
theorem dX11_twists_71 : decode cX11_twists 71 = .ok (.goto (-29), 3) := by decide +kernel
theorem dX11_twists_74 : decode cX11_twists 74 = .ok (.iconst 0, 1) := by decide +kernel
theorem dX11_twists_75 : decode cX11_twists 75 = .ok (.istore 4, 2) := by decide +kernel
theorem dX11_twists_77 : decode cX11_twists 77 = .ok (.iconst 0, 1) := by decide +kernel
theorem dX11_twists_78 : decode cX11_twists 78 = .ok (.istore 5, 2) := by decide +kernel
theorem dX11_twists_80 : decode cX11_twists 80 = .ok (.iload 5, 2) := by decide +kernel
theorem dX11_twists_82 : decode cX11_twists 82 = .ok (.bipush 10, 2) := by decide +kernel
theorem dX11_twists_84 : decode cX11_twists 84 = .ok (.if_icmp .ge 28, 3) := by decide +kernel
theorem dX11_twists_87 : decode cX11_twists 87 = .ok (.aload_n 0, 1) := by decide +kernel
theorem dX11_twists_88 : decode cX11_twists 88 = .ok (.aload_n 3, 1) := by decide +kernel
theorem dX11_twists_89 : decode cX11_twists 89 = .ok (.iload 5, 2) := by decide +kernel
theorem dX11_twists_91 : decode cX11_twists 91 = .ok (.invokevirtual 361, 3) := by decide +kernel
theorem dX11_twists_94 : decode cX11_twists 94 = .ok (.ifCond .eq 12, 3) := by decide +kernel
theorem dX11_twists_97 : decode cX11_twists 97 = .ok (.iload 4, 2) := by decide +kernel
theorem dX11_twists_99 : decode cX11_twists 99 = .ok (.iconst 1, 1) := by decide +kernel
theorem dX11_twists_100 : decode cX11_twists 100 = .ok (.iload 5, 2) := by decide +kernel
theorem dX11_twists_102 : decode cX11_twists 102 = .ok (.ishl, 1) := by decide +kernel
theorem dX11_twists_103 : decode cX11_twists 103 = .ok (.ior, 1) := by decide +kernel
theorem dX11_twists_104 : decode cX11_twists 104 = .ok (.istore 4, 2) := by decide +kernel
theorem dX11_twists_106 : decode cX11_twists 106 = .ok (.iinc 5 1, 3) := by decide +kernel
theorem dX11_twists_109 : decode cX11_twists 109 = .ok (.goto (-29), 3) := by decide +kernel
theorem dX11_twists_112 : decode cX11_twists 112 = .ok (.iload 4, 2) := by decide +kernel
theorem dX11_twists_114 : decode cX11_twists 114 = .ok (.ireturn, 1) := by decide +kernel
def hX11_twists_80 (f : Nat) (Φ : Int → aj_M → Prop) : Nat → List Nat → List Nat → Int → Int → aj_M → Prop
  | 0, _, _, _, _, _ => False
  | k + 1, q0, q3, v4, v5, m => rI v5 ∧ (10 ≤ v5 → Φ v4 m) ∧ (¬ (10 ≤ v5) → wX11_allWeighSo f (fun z1 m1 => rI z1 ∧ (z1 = 0 → hX11_twists_80 f Φ k q0 q3 v4 (v5 + 1) m1) ∧ (¬ (z1 = 0) → hX11_twists_80 f Φ k q0 q3 (aj_or v4 (aj_shl 1 v5)) (v5 + 1) m1)) q0 q3 v5 m)
set_option maxHeartbeats 4000000 in
set_option maxRecDepth 100000 in
theorem tX11_twists_80 {X : aj_T} {n f : Nat} {Φ : Int → aj_M → Prop} (C : aj_Cx X cX11_twists RX11 6 (n + 4)) (K : aj_Rt X (some .int) (fun r m => ∃ z, r = some (vI z) ∧ Φ z m)) : ∀ (k : Nat) (q0 : List Nat) (q3 : List Nat) (v4 : Int) (v5 : Int) (m : aj_M) (hq0 : (.inl (11, q0) : aj_R) ∈ aj_pls) (hq3 : (.inl (10, q3) : aj_R) ∈ aj_pls), hX11_twists_80 f Φ k q0 q3 v4 v5 m → aj_J X 80 [some (vO 11 q0), none, none, some (vO 10 q3), some (vI v4), some (vI v5)] [] m := by
  intro k
  induction k with
  | zero =>
    intro q0 q3 v4 v5 m _ _ h
    exact h.elim
  | succ k ih =>
    intro q0 q3 v4 v5 m hq0 hq3 h
    unfold hX11_twists_80 at h
    refine aj_iload C dX11_twists_80 rfl ?_
    refine aj_bipush C dX11_twists_82 (by decide) ?_
    obtain ⟨r0, h1, h2⟩ := h
    refine aj_icmp_ge (tgt := 112) C dX11_twists_84 (by decide) r0 (by decide) (fun e => ?_) (fun e => ?_)
    · have h := h1 e
      refine aj_iload C dX11_twists_112 rfl ?_
      exact aj_iret C K dX11_twists_114 ⟨_, rfl, h⟩
    · have h := h2 e
      refine aj_aload_n C dX11_twists_87 rfl ?_
      refine aj_aload_n C dX11_twists_88 rfl ?_
      refine aj_iload C dX11_twists_89 rfl ?_
      refine aj_callV (rest := []) C mvX11_361 (sX11_allWeighSo hq0 hq3 h) hq0 (aj_np 2 (by decide +kernel) rfl) (Nat.le_of_ble_eq_true rfl) rfl dX11_twists_91 (fun r m1 h => ?_)
      obtain ⟨z1, rfl, h⟩ := h
      obtain ⟨r0, h1, h2⟩ := h
      refine aj_if_eq (tgt := 106) C dX11_twists_94 (by decide) r0 (fun e => ?_) (fun e => ?_)
      · have h := h1 e
        refine aj_iinc (lv' := [some (vO 11 q0), none, none, some (vO 10 q3), some (vI v4), some (vI (v5 + 1))]) C dX11_twists_106 rfl (by decide) rfl ?_
        refine aj_goto (tgt := 80) C dX11_twists_109 (by decide) ?_
        exact ih q0 q3 v4 (v5 + 1) _ hq0 hq3 h
      · have h := h2 e
        refine aj_iload C dX11_twists_97 rfl ?_
        refine aj_iconst C dX11_twists_99 ?_
        refine aj_iload C dX11_twists_100 rfl ?_
        refine aj_ishl C dX11_twists_102 ?_
        refine aj_ior C dX11_twists_103 ?_
        refine aj_istore (lv' := [some (vO 11 q0), none, none, some (vO 10 q3), some (vI (aj_or v4 (aj_shl 1 v5))), some (vI v5)]) C dX11_twists_104 (by decide) rfl ?_
        refine aj_iinc (lv' := [some (vO 11 q0), none, none, some (vO 10 q3), some (vI (aj_or v4 (aj_shl 1 v5))), some (vI (v5 + 1))]) C dX11_twists_106 rfl (by decide) rfl ?_
        refine aj_goto (tgt := 80) C dX11_twists_109 (by decide) ?_
        exact ih q0 q3 (aj_or v4 (aj_shl 1 v5)) (v5 + 1) _ hq0 hq3 h
def hX11_twists_42 (f : Nat) (Φ : Int → aj_M → Prop) : Nat → List Nat → List Nat → Int → aj_M → Prop
  | 0, _, _, _, _ => False
  | k + 1, q0, q3, v4, m => rI v4 ∧ rI (m q3 2) ∧ ((m q3 2) ≤ v4 → hX11_twists_80 f Φ f q0 q3 0 0 m) ∧ (¬ ((m q3 2) ≤ v4) → (0 ≤ v4 ∧ v4 < 40) ∧ wX11_isWeighing f (fun z1 m1 => rI z1 ∧ (¬ z1 = 0 → hX11_twists_42 f Φ k q0 q3 (v4 + 1) m1) ∧ (z1 = 0 → Φ (-3) m1)) q0 (m (0 :: q3) v4.toNat) m)
set_option maxHeartbeats 4000000 in
set_option maxRecDepth 100000 in
theorem tX11_twists_42 {X : aj_T} {n f : Nat} {Φ : Int → aj_M → Prop} (C : aj_Cx X cX11_twists RX11 6 (n + 4)) (K : aj_Rt X (some .int) (fun r m => ∃ z, r = some (vI z) ∧ Φ z m)) : ∀ (k : Nat) (q0 : List Nat) (q3 : List Nat) (v4 : Int) (m : aj_M) (hq0 : (.inl (11, q0) : aj_R) ∈ aj_pls) (hq3 : (.inl (10, q3) : aj_R) ∈ aj_pls), hX11_twists_42 f Φ k q0 q3 v4 m → aj_J X 42 [some (vO 11 q0), none, none, some (vO 10 q3), some (vI v4), none] [] m := by
  intro k
  induction k with
  | zero =>
    intro q0 q3 v4 m _ _ h
    exact h.elim
  | succ k ih =>
    intro q0 q3 v4 m hq0 hq3 h
    unfold hX11_twists_42 at h
    refine aj_iload C dX11_twists_42 rfl ?_
    refine aj_aload_n C dX11_twists_44 rfl ?_
    refine aj_getI C flX11_198 hq3 (by decide) dX11_twists_45 rfl ?_
    obtain ⟨r0, r1, h1, h2⟩ := h
    refine aj_icmp_ge (tgt := 74) C dX11_twists_48 (by decide) r0 r1 (fun e => ?_) (fun e => ?_)
    · have h := h1 e
      refine aj_iconst C dX11_twists_74 ?_
      refine aj_istore (lv' := [some (vO 11 q0), none, none, some (vO 10 q3), some (vI 0), none]) C dX11_twists_75 (by decide) rfl ?_
      refine aj_iconst C dX11_twists_77 ?_
      refine aj_istore (lv' := [some (vO 11 q0), none, none, some (vO 10 q3), some (vI 0), some (vI 0)]) C dX11_twists_78 (by decide) rfl ?_
      exact tX11_twists_80 C K f q0 q3 0 0 _ hq0 hq3 h
    · have h := h2 e
      refine aj_aload_n C dX11_twists_51 rfl ?_
      refine aj_aload_n C dX11_twists_52 rfl ?_
      refine aj_getA (x := 3) (y := 40) C flX11_201 hq3 rfl dX11_twists_53 ?_
      refine aj_iload C dX11_twists_56 rfl ?_
      obtain ⟨r0, h⟩ := h
      refine aj_lald C (aj_ca (e := 3) (n := 40) (j := 0) hq3 (by decide) rfl) (by decide) r0 dX11_twists_58 rfl ?_
      refine aj_callV (rest := []) C mvX11_357 (sX11_isWeighing hq0 h) hq0 (aj_np 1 (by decide +kernel) rfl) (Nat.le_of_ble_eq_true rfl) rfl dX11_twists_59 (fun r m1 h => ?_)
      obtain ⟨z1, rfl, h⟩ := h
      obtain ⟨r0, h1, h2⟩ := h
      refine aj_if_ne (tgt := 68) C dX11_twists_62 (by decide) r0 (fun e => ?_) (fun e => ?_)
      · have h := h1 e
        refine aj_iinc (lv' := [some (vO 11 q0), none, none, some (vO 10 q3), some (vI (v4 + 1)), none]) C dX11_twists_68 rfl (by decide) rfl ?_
        refine aj_goto (tgt := 42) C dX11_twists_71 (by decide) ?_
        exact ih q0 q3 (v4 + 1) _ hq0 hq3 h
      · have h := h2 e
        refine aj_bipush C dX11_twists_65 (by decide) ?_
        exact aj_iret C K dX11_twists_67 ⟨_, rfl, h⟩
def wX11_twists (f : Nat) (Φ : Int → aj_M → Prop) (q0 : List Nat) (v1 : Int) (m : aj_M) : Prop := wX11_trayCode f (fun z1 m1 => rI z1 ∧ (z1 = 0 → (0 ≤ v1 ∧ v1 < 4) ∧ rI (m1 (v1.toNat :: (7 :: q0)) 2) ∧ ((m1 (v1.toNat :: (7 :: q0)) 2) < 1 → Φ (-4) m1) ∧ (¬ ((m1 (v1.toNat :: (7 :: q0)) 2) < 1) → rI (m1 (v1.toNat :: (7 :: q0)) 2) ∧ ((m1 (v1.toNat :: (7 :: q0)) 2) ≤ 8 → hX11_twists_42 f Φ f q0 (v1.toNat :: (7 :: q0)) 0 m1) ∧ (¬ ((m1 (v1.toNat :: (7 :: q0)) 2) ≤ 8) → Φ (-4) m1))) ∧ (¬ (z1 = 0) → Φ z1 m1)) q0 v1 m
set_option maxHeartbeats 4000000 in
set_option maxRecDepth 100000 in
theorem sX11_twists {n f : Nat} {Φ : Int → aj_M → Prop} {q0 : List Nat} {v1 : Int} {m : aj_M} (hq0 : (.inl (11, q0) : aj_R) ∈ aj_pls) (h : wX11_twists f Φ q0 v1 m) : aj_Ct (n + 4) yX11_twists cX11_twists 6 (some .int) [vO 11 q0, vI v1] m (fun r m => ∃ z, r = some (vI z) ∧ Φ z m) := by
  refine aj_met (lv := [some (vO 11 q0), some (vI v1), none, none, none, none]) (by decide +kernel) rfl (Nat.le_of_ble_eq_true rfl) (fun X C K => ?_)
  unfold wX11_twists at h
  refine aj_aload_n C dX11_twists_0 rfl ?_
  refine aj_iload_n C dX11_twists_1 rfl ?_
  refine aj_callV (rest := []) C mvX11_222 (sX11_trayCode hq0 h) hq0 (aj_np 1 (by decide +kernel) rfl) (Nat.le_of_ble_eq_true rfl) rfl dX11_twists_2 (fun r m1 h => ?_)
  obtain ⟨z1, rfl, h⟩ := h
  refine aj_istore_n (lv' := [some (vO 11 q0), some (vI v1), some (vI z1), none, none, none]) C dX11_twists_5 (by decide) rfl ?_
  refine aj_iload_n C dX11_twists_6 rfl ?_
  obtain ⟨r0, h1, h2⟩ := h
  refine aj_if_eq (tgt := 12) C dX11_twists_7 (by decide) r0 (fun e => ?_) (fun e => ?_)
  · have h := h1 e
    refine aj_aload_n C dX11_twists_12 rfl ?_
    refine aj_getA (x := 6) (y := 4) C flX11_51 hq0 rfl dX11_twists_13 ?_
    refine aj_iload_n C dX11_twists_16 rfl ?_
    obtain ⟨r0_1, h⟩ := h
    refine aj_aald (c1 := 10) C (aj_ca (e := 6) (n := 4) (j := 7) hq0 (by decide) rfl) (by decide) (fun _ => rfl) (by decide) r0_1 dX11_twists_17 ?_
    refine aj_astore_n (lv' := [some (vO 11 q0), some (vI v1), some (vI z1), some (vO 10 (v1.toNat :: (7 :: q0))), none, none]) C dX11_twists_18 (by decide) rfl ?_
    refine aj_aload_n C dX11_twists_19 rfl ?_
    refine aj_getI C flX11_198 (aj_ce (i := v1.toNat) (aj_ca (e := 6) (n := 4) (j := 7) hq0 (by decide) rfl) rfl (by omega)) (by decide) dX11_twists_20 rfl ?_
    refine aj_iconst C dX11_twists_23 ?_
    obtain ⟨r0, h1, h2⟩ := h
    refine aj_icmp_lt (tgt := 36) C dX11_twists_24 (by decide) r0 (by decide) (fun e => ?_) (fun e => ?_)
    · have h := h1 e
      refine aj_bipush C dX11_twists_36 (by decide) ?_
      exact aj_iret C K dX11_twists_38 ⟨_, rfl, h⟩
    · have h := h2 e
      refine aj_aload_n C dX11_twists_27 rfl ?_
      refine aj_getI C flX11_198 (aj_ce (i := v1.toNat) (aj_ca (e := 6) (n := 4) (j := 7) hq0 (by decide) rfl) rfl (by omega)) (by decide) dX11_twists_28 rfl ?_
      refine aj_bipush C dX11_twists_31 (by decide) ?_
      obtain ⟨r0, h1, h2⟩ := h
      refine aj_icmp_le (tgt := 39) C dX11_twists_33 (by decide) r0 (by decide) (fun e => ?_) (fun e => ?_)
      · have h := h1 e
        refine aj_iconst C dX11_twists_39 ?_
        refine aj_istore (lv' := [some (vO 11 q0), some (vI v1), some (vI z1), some (vO 10 (v1.toNat :: (7 :: q0))), some (vI 0), none]) C dX11_twists_40 (by decide) rfl ?_
        refine aj_wk (lv' := [some (vO 11 q0), none, none, some (vO 10 (v1.toNat :: (7 :: q0))), some (vI 0), none]) (⟨rfl, ⟨rfl, ⟨rfl, trivial⟩⟩⟩) ?_
        exact tX11_twists_42 C K f q0 (v1.toNat :: (7 :: q0)) 0 _ hq0 (aj_ce (i := v1.toNat) (aj_ca (e := 6) (n := 4) (j := 7) hq0 (by decide) rfl) rfl (by omega)) h
      · have h := h2 e
        refine aj_bipush C dX11_twists_36 (by decide) ?_
        exact aj_iret C K dX11_twists_38 ⟨_, rfl, h⟩
  · have h := h2 e
    refine aj_iload_n C dX11_twists_10 rfl ?_
    exact aj_iret C K dX11_twists_11 ⟨_, rfl, h⟩
theorem dX11_mostAlike_0 : decode cX11_mostAlike 0 = .ok (.iconst 0, 1) := by decide +kernel
theorem dX11_mostAlike_1 : decode cX11_mostAlike 1 = .ok (.istore 4, 2) := by decide +kernel
theorem dX11_mostAlike_3 : decode cX11_mostAlike 3 = .ok (.iconst 0, 1) := by decide +kernel
theorem dX11_mostAlike_4 : decode cX11_mostAlike 4 = .ok (.istore 5, 2) := by decide +kernel
theorem dX11_mostAlike_6 : decode cX11_mostAlike 6 = .ok (.iload 5, 2) := by decide +kernel
theorem dX11_mostAlike_8 : decode cX11_mostAlike 8 = .ok (.bipush 10, 2) := by decide +kernel
theorem dX11_mostAlike_10 : decode cX11_mostAlike 10 = .ok (.if_icmp .ge 111, 3) := by decide +kernel
theorem dX11_mostAlike_13 : decode cX11_mostAlike 13 = .ok (.aload_n 0, 1) := by decide +kernel
theorem dX11_mostAlike_14 : decode cX11_mostAlike 14 = .ok (.getfield 76, 3) := by decide +kernel
theorem dX11_mostAlike_17 : decode cX11_mostAlike 17 = .ok (.iload 5, 2) := by decide +kernel
theorem dX11_mostAlike_19 : decode cX11_mostAlike 19 = .ok (.iload_n 1, 1) := by decide +kernel
theorem dX11_mostAlike_20 : decode cX11_mostAlike 20 = .ok (.iload 5, 2) := by decide +kernel
theorem dX11_mostAlike_22 : decode cX11_mostAlike 22 = .ok (.ishr, 1) := by decide +kernel
theorem dX11_mostAlike_23 : decode cX11_mostAlike 23 = .ok (.iconst 1, 1) := by decide +kernel
theorem dX11_mostAlike_24 : decode cX11_mostAlike 24 = .ok (.iand, 1) := by decide +kernel
theorem dX11_mostAlike_25 : decode cX11_mostAlike 25 = .ok (.iconst 1, 1) := by decide +kernel
theorem dX11_mostAlike_26 : decode cX11_mostAlike 26 = .ok (.if_icmp .ne 17, 3) := by decide +kernel
theorem dX11_mostAlike_29 : decode cX11_mostAlike 29 = .ok (.aload_n 0, 1) := by decide +kernel
theorem dX11_mostAlike_30 : decode cX11_mostAlike 30 = .ok (.getfield 19, 3) := by decide +kernel
theorem dX11_mostAlike_33 : decode cX11_mostAlike 33 = .ok (.iload_n 2, 1) := by decide +kernel
theorem dX11_mostAlike_34 : decode cX11_mostAlike 34 = .ok (.iload_n 3, 1) := by decide +kernel
theorem dX11_mostAlike_35 : decode cX11_mostAlike 35 = .ok (.iload 5, 2) := by decide +kernel
theorem dX11_mostAlike_37 : decode cX11_mostAlike 37 = .ok (.invokevirtual 428, 3) := by decide +kernel
theorem dX11_mostAlike_40 : decode cX11_mostAlike 40 = .ok (.goto 4, 3) := by decide +kernel
theorem dX11_mostAlike_43 : decode cX11_mostAlike 43 = .ok (.iconst 0, 1) := by decide +kernel
theorem dX11_mostAlike_44 : decode cX11_mostAlike 44 = .ok (.iastore, 1) := by decide +kernel
theorem dX11_mostAlike_45 : decode cX11_mostAlike 45 = .ok (.iconst 0, 1) := by decide +kernel
theorem dX11_mostAlike_46 : decode cX11_mostAlike 46 = .ok (.istore 6, 2) := by decide +kernel
theorem dX11_mostAlike_48 : decode cX11_mostAlike 48 = .ok (.iconst 0, 1) := by decide +kernel
theorem dX11_mostAlike_49 : decode cX11_mostAlike 49 = .ok (.istore 7, 2) := by decide +kernel
theorem dX11_mostAlike_51 : decode cX11_mostAlike 51 = .ok (.iload 7, 2) := by decide +kernel
theorem dX11_mostAlike_53 : decode cX11_mostAlike 53 = .ok (.iload 5, 2) := by decide +kernel
theorem dX11_mostAlike_55 : decode cX11_mostAlike 55 = .ok (.if_icmp .gt 36, 3) := by decide +kernel
theorem dX11_mostAlike_58 : decode cX11_mostAlike 58 = .ok (.iload 6, 2) := by decide +kernel
theorem dX11_mostAlike_60 : decode cX11_mostAlike 60 = .ok (.aload_n 0, 1) := by decide +kernel
theorem dX11_mostAlike_61 : decode cX11_mostAlike 61 = .ok (.getfield 76, 3) := by decide +kernel
theorem dX11_mostAlike_64 : decode cX11_mostAlike 64 = .ok (.iload 7, 2) := by decide +kernel
theorem dX11_mostAlike_66 : decode cX11_mostAlike 66 = .ok (.iaload, 1) := by decide +kernel
theorem dX11_mostAlike_67 : decode cX11_mostAlike 67 = .ok (.aload_n 0, 1) := by decide +kernel
theorem dX11_mostAlike_68 : decode cX11_mostAlike 68 = .ok (.getfield 76, 3) := by decide +kernel
theorem dX11_mostAlike_71 : decode cX11_mostAlike 71 = .ok (.iload 5, 2) := by decide +kernel
theorem dX11_mostAlike_73 : decode cX11_mostAlike 73 = .ok (.iaload, 1) := by decide +kernel
theorem dX11_mostAlike_74 : decode cX11_mostAlike 74 = .ok (.if_icmp .ne 7, 3) := by decide +kernel
theorem dX11_mostAlike_77 : decode cX11_mostAlike 77 = .ok (.iconst 1, 1) := by decide +kernel
theorem dX11_mostAlike_78 : decode cX11_mostAlike 78 = .ok (.goto 4, 3) := by decide +kernel
theorem dX11_mostAlike_81 : decode cX11_mostAlike 81 = .ok (.iconst 0, 1) := by decide +kernel
theorem dX11_mostAlike_82 : decode cX11_mostAlike 82 = .ok (.iadd, 1) := by decide +kernel
theorem dX11_mostAlike_83 : decode cX11_mostAlike 83 = .ok (.istore 6, 2) := by decide +kernel
theorem dX11_mostAlike_85 : decode cX11_mostAlike 85 = .ok (.iinc 7 1, 3) := by decide +kernel
theorem dX11_mostAlike_88 : decode cX11_mostAlike 88 = .ok (.goto (-37), 3) := by decide +kernel
theorem dX11_mostAlike_91 : decode cX11_mostAlike 91 = .ok (.aload_n 0, 1) := by decide +kernel
theorem dX11_mostAlike_92 : decode cX11_mostAlike 92 = .ok (.getfield 76, 3) := by decide +kernel
theorem dX11_mostAlike_95 : decode cX11_mostAlike 95 = .ok (.iload 5, 2) := by decide +kernel
theorem dX11_mostAlike_97 : decode cX11_mostAlike 97 = .ok (.iaload, 1) := by decide +kernel
theorem dX11_mostAlike_98 : decode cX11_mostAlike 98 = .ok (.ifCond .ne 8, 3) := by decide +kernel
theorem dX11_mostAlike_101 : decode cX11_mostAlike 101 = .ok (.iload 4, 2) := by decide +kernel
theorem dX11_mostAlike_103 : decode cX11_mostAlike 103 = .ok (.goto 10, 3) := by decide +kernel
theorem dX11_mostAlike_106 : decode cX11_mostAlike 106 = .ok (.iload 4, 2) := by decide +kernel
theorem dX11_mostAlike_108 : decode cX11_mostAlike 108 = .ok (.iload 6, 2) := by decide +kernel
theorem dX11_mostAlike_110 : decode cX11_mostAlike 110 = .ok (.invokestatic 431, 3) := by decide +kernel
theorem dX11_mostAlike_113 : decode cX11_mostAlike 113 = .ok (.istore 4, 2) := by decide +kernel
theorem dX11_mostAlike_115 : decode cX11_mostAlike 115 = .ok (.iinc 5 1, 3) := by decide +kernel
theorem dX11_mostAlike_118 : decode cX11_mostAlike 118 = .ok (.goto (-112), 3) := by decide +kernel
theorem dX11_mostAlike_121 : decode cX11_mostAlike 121 = .ok (.iload 4, 2) := by decide +kernel
theorem dX11_mostAlike_123 : decode cX11_mostAlike 123 = .ok (.ireturn, 1) := by decide +kernel
def hX11_mostAlike_51 (f : Nat) (Φ : Int → aj_M → Prop) (K6 : List Nat → Int → Int → Int → Int → Int → aj_M → Prop) : Nat → List Nat → Int → Int → Int → Int → Int → Int → Int → aj_M → Prop
  | 0, _, _, _, _, _, _, _, _, _ => False
  | k + 1, q0, v1, v2, v3, v4, v5, v6, v7, m => rI v7 ∧ rI v5 ∧ (v5 < v7 → (0 ≤ v5 ∧ v5 < 10) ∧ rI (m (11 :: q0) v5.toNat) ∧ (¬ (m (11 :: q0) v5.toNat) = 0 → rI v4 ∧ rI v6 ∧ K6 q0 v1 v2 v3 (max v4 v6) (v5 + 1) m) ∧ ((m (11 :: q0) v5.toNat) = 0 → K6 q0 v1 v2 v3 v4 (v5 + 1) m)) ∧ (¬ (v5 < v7) → (0 ≤ v7 ∧ v7 < 10) ∧ (0 ≤ v5 ∧ v5 < 10) ∧ rI (m (11 :: q0) v7.toNat) ∧ rI (m (11 :: q0) v5.toNat) ∧ (¬ (m (11 :: q0) v7.toNat) = (m (11 :: q0) v5.toNat) → hX11_mostAlike_51 f Φ K6 k q0 v1 v2 v3 v4 v5 (v6 + 0) (v7 + 1) m) ∧ ((m (11 :: q0) v7.toNat) = (m (11 :: q0) v5.toNat) → hX11_mostAlike_51 f Φ K6 k q0 v1 v2 v3 v4 v5 (v6 + 1) (v7 + 1) m))
set_option maxHeartbeats 4000000 in
set_option maxRecDepth 100000 in
theorem tX11_mostAlike_51 {X : aj_T} {n f : Nat} {Φ : Int → aj_M → Prop} (C : aj_Cx X cX11_mostAlike RX11 8 (n + 3)) (K : aj_Rt X (some .int) (fun r m => ∃ z, r = some (vI z) ∧ Φ z m)) {K6 : List Nat → Int → Int → Int → Int → Int → aj_M → Prop} (HK6 : ∀ (q0 : List Nat) (v1 : Int) (v2 : Int) (v3 : Int) (v4 : Int) (v5 : Int) (m : aj_M) (hq0 : (.inl (11, q0) : aj_R) ∈ aj_pls), K6 q0 v1 v2 v3 v4 v5 m → aj_J X 6 [some (vO 11 q0), some (vI v1), some (vI v2), some (vI v3), some (vI v4), some (vI v5), none, none] [] m) : ∀ (k : Nat) (q0 : List Nat) (v1 : Int) (v2 : Int) (v3 : Int) (v4 : Int) (v5 : Int) (v6 : Int) (v7 : Int) (m : aj_M) (hq0 : (.inl (11, q0) : aj_R) ∈ aj_pls), hX11_mostAlike_51 f Φ K6 k q0 v1 v2 v3 v4 v5 v6 v7 m → aj_J X 51 [some (vO 11 q0), some (vI v1), some (vI v2), some (vI v3), some (vI v4), some (vI v5), some (vI v6), some (vI v7)] [] m := by
  intro k
  induction k with
  | zero =>
    intro q0 v1 v2 v3 v4 v5 v6 v7 m _ h
    exact h.elim
  | succ k ih =>
    intro q0 v1 v2 v3 v4 v5 v6 v7 m hq0 h
    unfold hX11_mostAlike_51 at h
    refine aj_iload C dX11_mostAlike_51 rfl ?_
    refine aj_iload C dX11_mostAlike_53 rfl ?_
    obtain ⟨r0, r1, h1, h2⟩ := h
    refine aj_icmp_gt (tgt := 91) C dX11_mostAlike_55 (by decide) r0 r1 (fun e => ?_) (fun e => ?_)
    · have h := h1 e
      refine aj_aload_n C dX11_mostAlike_91 rfl ?_
      refine aj_getA (x := 0) (y := 10) C flX11_76 hq0 rfl dX11_mostAlike_92 ?_
      refine aj_iload C dX11_mostAlike_95 rfl ?_
      obtain ⟨r0, h⟩ := h
      refine aj_iald C (aj_ca (e := 0) (n := 10) (j := 11) hq0 (by decide) rfl) (by decide) r0 dX11_mostAlike_97 rfl ?_
      obtain ⟨r0, h1, h2⟩ := h
      refine aj_if_ne (tgt := 106) C dX11_mostAlike_98 (by decide) r0 (fun e => ?_) (fun e => ?_)
      · have h := h1 e
        refine aj_iload C dX11_mostAlike_106 rfl ?_
        refine aj_iload C dX11_mostAlike_108 rfl ?_
        obtain ⟨r0, r1, h⟩ := h
        refine aj_mmax C msX11_431 (Nat.le_of_ble_eq_true rfl) r0 r1 dX11_mostAlike_110 ?_
        refine aj_istore (lv' := [some (vO 11 q0), some (vI v1), some (vI v2), some (vI v3), some (vI (max v4 v6)), some (vI v5), some (vI v6), some (vI v7)]) C dX11_mostAlike_113 (by decide) rfl ?_
        refine aj_iinc (lv' := [some (vO 11 q0), some (vI v1), some (vI v2), some (vI v3), some (vI (max v4 v6)), some (vI (v5 + 1)), some (vI v6), some (vI v7)]) C dX11_mostAlike_115 rfl (by decide) rfl ?_
        refine aj_goto (tgt := 6) C dX11_mostAlike_118 (by decide) ?_
        refine aj_wk (lv' := [some (vO 11 q0), some (vI v1), some (vI v2), some (vI v3), some (vI (max v4 v6)), some (vI (v5 + 1)), none, none]) (⟨rfl, ⟨rfl, ⟨rfl, ⟨rfl, ⟨rfl, ⟨rfl, trivial⟩⟩⟩⟩⟩⟩) ?_
        exact HK6 q0 v1 v2 v3 (max v4 v6) (v5 + 1) _ hq0 h
      · have h := h2 e
        refine aj_iload C dX11_mostAlike_101 rfl ?_
        refine aj_goto (tgt := 113) C dX11_mostAlike_103 (by decide) ?_
        refine aj_istore (lv' := [some (vO 11 q0), some (vI v1), some (vI v2), some (vI v3), some (vI v4), some (vI v5), some (vI v6), some (vI v7)]) C dX11_mostAlike_113 (by decide) rfl ?_
        refine aj_iinc (lv' := [some (vO 11 q0), some (vI v1), some (vI v2), some (vI v3), some (vI v4), some (vI (v5 + 1)), some (vI v6), some (vI v7)]) C dX11_mostAlike_115 rfl (by decide) rfl ?_
        refine aj_goto (tgt := 6) C dX11_mostAlike_118 (by decide) ?_
        refine aj_wk (lv' := [some (vO 11 q0), some (vI v1), some (vI v2), some (vI v3), some (vI v4), some (vI (v5 + 1)), none, none]) (⟨rfl, ⟨rfl, ⟨rfl, ⟨rfl, ⟨rfl, ⟨rfl, trivial⟩⟩⟩⟩⟩⟩) ?_
        exact HK6 q0 v1 v2 v3 v4 (v5 + 1) _ hq0 h
    · have h := h2 e
      refine aj_iload C dX11_mostAlike_58 rfl ?_
      refine aj_aload_n C dX11_mostAlike_60 rfl ?_
      refine aj_getA (x := 0) (y := 10) C flX11_76 hq0 rfl dX11_mostAlike_61 ?_
      refine aj_iload C dX11_mostAlike_64 rfl ?_
      obtain ⟨r0, h⟩ := h
      refine aj_iald C (aj_ca (e := 0) (n := 10) (j := 11) hq0 (by decide) rfl) (by decide) r0 dX11_mostAlike_66 rfl ?_
      refine aj_aload_n C dX11_mostAlike_67 rfl ?_
      refine aj_getA (x := 0) (y := 10) C flX11_76 hq0 rfl dX11_mostAlike_68 ?_
      refine aj_iload C dX11_mostAlike_71 rfl ?_
      obtain ⟨r0, h⟩ := h
      refine aj_iald C (aj_ca (e := 0) (n := 10) (j := 11) hq0 (by decide) rfl) (by decide) r0 dX11_mostAlike_73 rfl ?_
      obtain ⟨r0, r1, h1, h2⟩ := h
      refine aj_icmp_ne (tgt := 81) C dX11_mostAlike_74 (by decide) r0 r1 (fun e => ?_) (fun e => ?_)
      · have h := h1 e
        refine aj_iconst C dX11_mostAlike_81 ?_
        refine aj_iadd C dX11_mostAlike_82 ?_
        refine aj_istore (lv' := [some (vO 11 q0), some (vI v1), some (vI v2), some (vI v3), some (vI v4), some (vI v5), some (vI (v6 + 0)), some (vI v7)]) C dX11_mostAlike_83 (by decide) rfl ?_
        refine aj_iinc (lv' := [some (vO 11 q0), some (vI v1), some (vI v2), some (vI v3), some (vI v4), some (vI v5), some (vI (v6 + 0)), some (vI (v7 + 1))]) C dX11_mostAlike_85 rfl (by decide) rfl ?_
        refine aj_goto (tgt := 51) C dX11_mostAlike_88 (by decide) ?_
        exact ih q0 v1 v2 v3 v4 v5 (v6 + 0) (v7 + 1) _ hq0 h
      · have h := h2 e
        refine aj_iconst C dX11_mostAlike_77 ?_
        refine aj_goto (tgt := 82) C dX11_mostAlike_78 (by decide) ?_
        refine aj_iadd C dX11_mostAlike_82 ?_
        refine aj_istore (lv' := [some (vO 11 q0), some (vI v1), some (vI v2), some (vI v3), some (vI v4), some (vI v5), some (vI (v6 + 1)), some (vI v7)]) C dX11_mostAlike_83 (by decide) rfl ?_
        refine aj_iinc (lv' := [some (vO 11 q0), some (vI v1), some (vI v2), some (vI v3), some (vI v4), some (vI v5), some (vI (v6 + 1)), some (vI (v7 + 1))]) C dX11_mostAlike_85 rfl (by decide) rfl ?_
        refine aj_goto (tgt := 51) C dX11_mostAlike_88 (by decide) ?_
        exact ih q0 v1 v2 v3 v4 v5 (v6 + 1) (v7 + 1) _ hq0 h
def hX11_mostAlike_6 (f : Nat) (Φ : Int → aj_M → Prop) : Nat → List Nat → Int → Int → Int → Int → Int → aj_M → Prop
  | 0, _, _, _, _, _, _, _ => False
  | k + 1, q0, v1, v2, v3, v4, v5, m => rI v5 ∧ (10 ≤ v5 → Φ v4 m) ∧ (¬ (10 ≤ v5) → rI (aj_and (aj_shr v1 v5) 1) ∧ (¬ (aj_and (aj_shr v1 v5) 1) = 1 → (0 ≤ v5 ∧ v5 < 10) ∧ ∀ m1, m1 = aj_u m (11 :: q0) v5.toNat 0 → hX11_mostAlike_51 f Φ (fun q0 v1 v2 v3 v4 v5 m => hX11_mostAlike_6 f Φ k q0 v1 v2 v3 v4 v5 m) f q0 v1 v2 v3 v4 v5 0 0 m1) ∧ ((aj_and (aj_shr v1 v5) 1) = 1 → wX6_weightOf f (fun z1 m2 => (0 ≤ v5 ∧ v5 < 10) ∧ ∀ m3, m3 = aj_u m2 (11 :: q0) v5.toNat z1 → hX11_mostAlike_51 f Φ (fun q0 v1 v2 v3 v4 v5 m => hX11_mostAlike_6 f Φ k q0 v1 v2 v3 v4 v5 m) f q0 v1 v2 v3 v4 v5 0 0 m3) (1 :: q0) v2 v3 v5 m))
set_option maxHeartbeats 4000000 in
set_option maxRecDepth 100000 in
theorem tX11_mostAlike_6 {X : aj_T} {n f : Nat} {Φ : Int → aj_M → Prop} (C : aj_Cx X cX11_mostAlike RX11 8 (n + 3)) (K : aj_Rt X (some .int) (fun r m => ∃ z, r = some (vI z) ∧ Φ z m)) : ∀ (k : Nat) (q0 : List Nat) (v1 : Int) (v2 : Int) (v3 : Int) (v4 : Int) (v5 : Int) (m : aj_M) (hq0 : (.inl (11, q0) : aj_R) ∈ aj_pls), hX11_mostAlike_6 f Φ k q0 v1 v2 v3 v4 v5 m → aj_J X 6 [some (vO 11 q0), some (vI v1), some (vI v2), some (vI v3), some (vI v4), some (vI v5), none, none] [] m := by
  intro k
  induction k with
  | zero =>
    intro q0 v1 v2 v3 v4 v5 m _ h
    exact h.elim
  | succ k ih =>
    intro q0 v1 v2 v3 v4 v5 m hq0 h
    unfold hX11_mostAlike_6 at h
    refine aj_iload C dX11_mostAlike_6 rfl ?_
    refine aj_bipush C dX11_mostAlike_8 (by decide) ?_
    obtain ⟨r0, h1, h2⟩ := h
    refine aj_icmp_ge (tgt := 121) C dX11_mostAlike_10 (by decide) r0 (by decide) (fun e => ?_) (fun e => ?_)
    · have h := h1 e
      refine aj_iload C dX11_mostAlike_121 rfl ?_
      exact aj_iret C K dX11_mostAlike_123 ⟨_, rfl, h⟩
    · have h := h2 e
      refine aj_aload_n C dX11_mostAlike_13 rfl ?_
      refine aj_getA (x := 0) (y := 10) C flX11_76 hq0 rfl dX11_mostAlike_14 ?_
      refine aj_iload C dX11_mostAlike_17 rfl ?_
      refine aj_iload_n C dX11_mostAlike_19 rfl ?_
      refine aj_iload C dX11_mostAlike_20 rfl ?_
      refine aj_ishr C dX11_mostAlike_22 ?_
      refine aj_iconst C dX11_mostAlike_23 ?_
      refine aj_iand C dX11_mostAlike_24 ?_
      refine aj_iconst C dX11_mostAlike_25 ?_
      obtain ⟨r0, h1, h2⟩ := h
      refine aj_icmp_ne (tgt := 43) C dX11_mostAlike_26 (by decide) r0 (by decide) (fun e => ?_) (fun e => ?_)
      · have h := h1 e
        refine aj_iconst C dX11_mostAlike_43 ?_
        obtain ⟨r0, h⟩ := h
        refine aj_iast C (aj_ca (e := 0) (n := 10) (j := 11) hq0 (by decide) rfl) (by decide) r0 dX11_mostAlike_44 ?_
        refine aj_nm (fun m1 e1 => ?_)
        have h := h m1 e1
        refine aj_iconst C dX11_mostAlike_45 ?_
        refine aj_istore (lv' := [some (vO 11 q0), some (vI v1), some (vI v2), some (vI v3), some (vI v4), some (vI v5), some (vI 0), none]) C dX11_mostAlike_46 (by decide) rfl ?_
        refine aj_iconst C dX11_mostAlike_48 ?_
        refine aj_istore (lv' := [some (vO 11 q0), some (vI v1), some (vI v2), some (vI v3), some (vI v4), some (vI v5), some (vI 0), some (vI 0)]) C dX11_mostAlike_49 (by decide) rfl ?_
        exact tX11_mostAlike_51 C K (fun q0 v1 v2 v3 v4 v5 m hq0 hh => ih q0 v1 v2 v3 v4 v5 m hq0 hh) f q0 v1 v2 v3 v4 v5 0 0 _ hq0 h
      · have h := h2 e
        refine aj_aload_n C dX11_mostAlike_29 rfl ?_
        refine aj_getO (x := 6) (y := 0) C flX11_19 hq0 rfl dX11_mostAlike_30 ?_
        refine aj_iload_n C dX11_mostAlike_33 rfl ?_
        refine aj_iload_n C dX11_mostAlike_34 rfl ?_
        refine aj_iload C dX11_mostAlike_35 rfl ?_
        refine aj_callV (rest := [vI v5, vA 0 10 (11 :: q0)]) C mvX11_428 (sX6_weightOf (aj_cf (x := 6) (y := 0) (j := 1) hq0 (by decide) rfl) h) (aj_cf (x := 6) (y := 0) (j := 1) hq0 (by decide) rfl) (aj_np 3 (by decide +kernel) rfl) (Nat.le_of_ble_eq_true rfl) rfl dX11_mostAlike_37 (fun r m2 h => ?_)
        obtain ⟨z1, rfl, h⟩ := h
        refine aj_goto (tgt := 44) C dX11_mostAlike_40 (by decide) ?_
        obtain ⟨r0, h⟩ := h
        refine aj_iast C (aj_ca (e := 0) (n := 10) (j := 11) hq0 (by decide) rfl) (by decide) r0 dX11_mostAlike_44 ?_
        refine aj_nm (fun m3 e1 => ?_)
        have h := h m3 e1
        refine aj_iconst C dX11_mostAlike_45 ?_
        refine aj_istore (lv' := [some (vO 11 q0), some (vI v1), some (vI v2), some (vI v3), some (vI v4), some (vI v5), some (vI 0), none]) C dX11_mostAlike_46 (by decide) rfl ?_
        refine aj_iconst C dX11_mostAlike_48 ?_
        refine aj_istore (lv' := [some (vO 11 q0), some (vI v1), some (vI v2), some (vI v3), some (vI v4), some (vI v5), some (vI 0), some (vI 0)]) C dX11_mostAlike_49 (by decide) rfl ?_
        exact tX11_mostAlike_51 C K (fun q0 v1 v2 v3 v4 v5 m hq0 hh => ih q0 v1 v2 v3 v4 v5 m hq0 hh) f q0 v1 v2 v3 v4 v5 0 0 _ hq0 h
def wX11_mostAlike (f : Nat) (Φ : Int → aj_M → Prop) (q0 : List Nat) (v1 : Int) (v2 : Int) (v3 : Int) (m : aj_M) : Prop := hX11_mostAlike_6 f Φ f q0 v1 v2 v3 0 0 m
set_option maxHeartbeats 4000000 in
set_option maxRecDepth 100000 in
theorem sX11_mostAlike {n f : Nat} {Φ : Int → aj_M → Prop} {q0 : List Nat} {v1 : Int} {v2 : Int} {v3 : Int} {m : aj_M} (hq0 : (.inl (11, q0) : aj_R) ∈ aj_pls) (h : wX11_mostAlike f Φ q0 v1 v2 v3 m) : aj_Ct (n + 3) yX11_mostAlike cX11_mostAlike 8 (some .int) [vO 11 q0, vI v1, vI v2, vI v3] m (fun r m => ∃ z, r = some (vI z) ∧ Φ z m) := by
  refine aj_met (lv := [some (vO 11 q0), some (vI v1), some (vI v2), some (vI v3), none, none, none, none]) (by decide +kernel) rfl (Nat.le_of_ble_eq_true rfl) (fun X C K => ?_)
  unfold wX11_mostAlike at h
  refine aj_iconst C dX11_mostAlike_0 ?_
  refine aj_istore (lv' := [some (vO 11 q0), some (vI v1), some (vI v2), some (vI v3), some (vI 0), none, none, none]) C dX11_mostAlike_1 (by decide) rfl ?_
  refine aj_iconst C dX11_mostAlike_3 ?_
  refine aj_istore (lv' := [some (vO 11 q0), some (vI v1), some (vI v2), some (vI v3), some (vI 0), some (vI 0), none, none]) C dX11_mostAlike_4 (by decide) rfl ?_
  exact tX11_mostAlike_6 C K f q0 v1 v2 v3 0 0 _ hq0 h
theorem dX11_weigh_0 : decode cX11_weigh 0 = .ok (.aload_n 0, 1) := by decide +kernel
theorem dX11_weigh_1 : decode cX11_weigh 1 = .ok (.iload_n 1, 1) := by decide +kernel
theorem dX11_weigh_2 : decode cX11_weigh 2 = .ok (.invokevirtual 365, 3) := by decide +kernel
theorem dX11_weigh_5 : decode cX11_weigh 5 = .ok (.istore_n 2, 1) := by decide +kernel
theorem dX11_weigh_6 : decode cX11_weigh 6 = .ok (.iload_n 2, 1) := by decide +kernel
theorem dX11_weigh_7 : decode cX11_weigh 7 = .ok (.ifCond .gt 13, 3) := by decide +kernel
theorem dX11_weigh_10 : decode cX11_weigh 10 = .ok (.iload_n 2, 1) := by decide +kernel
theorem dX11_weigh_11 : decode cX11_weigh 11 = .ok (.ifCond .ne 7, 3) := by decide +kernel
theorem dX11_weigh_14 : decode cX11_weigh 14 = .ok (.iconst (-1), 1) := by decide +kernel
theorem dX11_weigh_15 : decode cX11_weigh 15 = .ok (.goto 4, 3) := by decide +kernel
theorem dX11_weigh_18 : decode cX11_weigh 18 = .ok (.iload_n 2, 1) := by decide +kernel
theorem dX11_weigh_19 : decode cX11_weigh 19 = .ok (.ireturn, 1) := by decide +kernel
theorem dX11_weigh_20 : decode cX11_weigh 20 = .ok (.iconst (-1), 1) := by decide +kernel
theorem dX11_weigh_21 : decode cX11_weigh 21 = .ok (.istore_n 3, 1) := by decide +kernel
theorem dX11_weigh_22 : decode cX11_weigh 22 = .ok (.bipush 11, 2) := by decide +kernel
theorem dX11_weigh_24 : decode cX11_weigh 24 = .ok (.istore 4, 2) := by decide +kernel
theorem dX11_weigh_26 : decode cX11_weigh 26 = .ok (.iconst 0, 1) := by decide +kernel
theorem dX11_weigh_27 : decode cX11_weigh 27 = .ok (.istore 5, 2) := by decide +kernel
theorem dX11_weigh_29 : decode cX11_weigh 29 = .ok (.iload 5, 2) := by decide +kernel
theorem dX11_weigh_31 : decode cX11_weigh 31 = .ok (.aload_n 0, 1) := by decide +kernel
theorem dX11_weigh_32 : decode cX11_weigh 32 = .ok (.getfield 19, 3) := by decide +kernel
theorem dX11_weigh_35 : decode cX11_weigh 35 = .ok (.getfield 368, 3) := by decide +kernel
theorem dX11_weigh_38 : decode cX11_weigh 38 = .ok (.if_icmp .ge 64, 3) := by decide +kernel
theorem dX11_weigh_41 : decode cX11_weigh 41 = .ok (.iconst 0, 1) := by decide +kernel
theorem dX11_weigh_42 : decode cX11_weigh 42 = .ok (.istore 6, 2) := by decide +kernel
theorem dX11_weigh_44 : decode cX11_weigh 44 = .ok (.iload 6, 2) := by decide +kernel
theorem dX11_weigh_46 : decode cX11_weigh 46 = .ok (.aload_n 0, 1) := by decide +kernel
theorem dX11_weigh_47 : decode cX11_weigh 47 = .ok (.getfield 19, 3) := by decide +kernel
theorem dX11_weigh_50 : decode cX11_weigh 50 = .ok (.getfield 136, 3) := by decide +kernel
theorem dX11_weigh_53 : decode cX11_weigh 53 = .ok (.getfield 327, 3) := by decide +kernel
theorem dX11_weigh_56 : decode cX11_weigh 56 = .ok (.if_icmp .ge 40, 3) := by decide +kernel
theorem dX11_weigh_59 : decode cX11_weigh 59 = .ok (.aload_n 0, 1) := by decide +kernel
theorem dX11_weigh_60 : decode cX11_weigh 60 = .ok (.iload_n 2, 1) := by decide +kernel
theorem dX11_weigh_61 : decode cX11_weigh 61 = .ok (.iload 5, 2) := by decide +kernel
theorem dX11_weigh_63 : decode cX11_weigh 63 = .ok (.iload 6, 2) := by decide +kernel
theorem dX11_weigh_65 : decode cX11_weigh 65 = .ok (.invokevirtual 371, 3) := by decide +kernel
theorem dX11_weigh_68 : decode cX11_weigh 68 = .ok (.istore 7, 2) := by decide +kernel
theorem dX11_weigh_70 : decode cX11_weigh 70 = .ok (.iload 7, 2) := by decide +kernel
theorem dX11_weigh_72 : decode cX11_weigh 72 = .ok (.iload 4, 2) := by decide +kernel
theorem dX11_weigh_74 : decode cX11_weigh 74 = .ok (.if_icmp .ge 16, 3) := by decide +kernel
theorem dX11_weigh_77 : decode cX11_weigh 77 = .ok (.iload 7, 2) := by decide +kernel
theorem dX11_weigh_79 : decode cX11_weigh 79 = .ok (.istore 4, 2) := by decide +kernel
theorem dX11_weigh_81 : decode cX11_weigh 81 = .ok (.bipush 100, 2) := by decide +kernel
theorem dX11_weigh_83 : decode cX11_weigh 83 = .ok (.iload 5, 2) := by decide +kernel
theorem dX11_weigh_85 : decode cX11_weigh 85 = .ok (.imul, 1) := by decide +kernel
theorem dX11_weigh_86 : decode cX11_weigh 86 = .ok (.iload 6, 2) := by decide +kernel
theorem dX11_weigh_88 : decode cX11_weigh 88 = .ok (.iadd, 1) := by decide +kernel
theorem dX11_weigh_89 : decode cX11_weigh 89 = .ok (.istore_n 3, 1) := by decide +kernel
theorem dX11_weigh_90 : decode cX11_weigh 90 = .ok (.iinc 6 1, 3) := by decide +kernel
theorem dX11_weigh_93 : decode cX11_weigh 93 = .ok (.goto (-49), 3) := by decide +kernel
theorem dX11_weigh_96 : decode cX11_weigh 96 = .ok (.iinc 5 1, 3) := by decide +kernel
theorem dX11_weigh_99 : decode cX11_weigh 99 = .ok (.goto (-70), 3) := by decide +kernel
theorem dX11_weigh_102 : decode cX11_weigh 102 = .ok (.iload_n 3, 1) := by decide +kernel
theorem dX11_weigh_103 : decode cX11_weigh 103 = .ok (.ireturn, 1) := by decide +kernel
def hX11_weigh_44 (f : Nat) (Φ : Int → aj_M → Prop) (K29 : List Nat → Int → Int → Int → Int → aj_M → Prop) : Nat → List Nat → Int → Int → Int → Int → Int → aj_M → Prop
  | 0, _, _, _, _, _, _, _ => False
  | k + 1, q0, v2, v3, v4, v5, v6, m => rI v6 ∧ rI (m (0 :: (1 :: q0)) 0) ∧ ((m (0 :: (1 :: q0)) 0) ≤ v6 → K29 q0 v2 v3 v4 (v5 + 1) m) ∧ (¬ ((m (0 :: (1 :: q0)) 0) ≤ v6) → wX11_mostAlike f (fun z1 m1 => rI z1 ∧ rI v4 ∧ (v4 ≤ z1 → hX11_weigh_44 f Φ K29 k q0 v2 v3 v4 v5 (v6 + 1) m1) ∧ (¬ (v4 ≤ z1) → hX11_weigh_44 f Φ K29 k q0 v2 ((100 * v5) + v6) z1 v5 (v6 + 1) m1)) q0 v2 v5 v6 m)
set_option maxHeartbeats 4000000 in
set_option maxRecDepth 100000 in
theorem tX11_weigh_44 {X : aj_T} {n f : Nat} {Φ : Int → aj_M → Prop} (C : aj_Cx X cX11_weigh RX11 8 (n + 5)) (K : aj_Rt X (some .int) (fun r m => ∃ z, r = some (vI z) ∧ Φ z m)) {K29 : List Nat → Int → Int → Int → Int → aj_M → Prop} (HK29 : ∀ (q0 : List Nat) (v2 : Int) (v3 : Int) (v4 : Int) (v5 : Int) (m : aj_M) (hq0 : (.inl (11, q0) : aj_R) ∈ aj_pls), K29 q0 v2 v3 v4 v5 m → aj_J X 29 [some (vO 11 q0), none, some (vI v2), some (vI v3), some (vI v4), some (vI v5), none, none] [] m) : ∀ (k : Nat) (q0 : List Nat) (v2 : Int) (v3 : Int) (v4 : Int) (v5 : Int) (v6 : Int) (m : aj_M) (hq0 : (.inl (11, q0) : aj_R) ∈ aj_pls), hX11_weigh_44 f Φ K29 k q0 v2 v3 v4 v5 v6 m → aj_J X 44 [some (vO 11 q0), none, some (vI v2), some (vI v3), some (vI v4), some (vI v5), some (vI v6), none] [] m := by
  intro k
  induction k with
  | zero =>
    intro q0 v2 v3 v4 v5 v6 m _ h
    exact h.elim
  | succ k ih =>
    intro q0 v2 v3 v4 v5 v6 m hq0 h
    unfold hX11_weigh_44 at h
    refine aj_iload C dX11_weigh_44 rfl ?_
    refine aj_aload_n C dX11_weigh_46 rfl ?_
    refine aj_getO (x := 6) (y := 0) C flX11_19 hq0 rfl dX11_weigh_47 ?_
    refine aj_getO (x := 0) (y := 0) C flX11_136 (aj_cf (x := 6) (y := 0) (j := 1) hq0 (by decide) rfl) rfl dX11_weigh_50 ?_
    refine aj_getI C flX11_327 (aj_cf (x := 0) (y := 0) (j := 0) (aj_cf (x := 6) (y := 0) (j := 1) hq0 (by decide) rfl) (by decide) rfl) (by decide) dX11_weigh_53 rfl ?_
    obtain ⟨r0, r1, h1, h2⟩ := h
    refine aj_icmp_ge (tgt := 96) C dX11_weigh_56 (by decide) r0 r1 (fun e => ?_) (fun e => ?_)
    · have h := h1 e
      refine aj_iinc (lv' := [some (vO 11 q0), none, some (vI v2), some (vI v3), some (vI v4), some (vI (v5 + 1)), some (vI v6), none]) C dX11_weigh_96 rfl (by decide) rfl ?_
      refine aj_goto (tgt := 29) C dX11_weigh_99 (by decide) ?_
      refine aj_wk (lv' := [some (vO 11 q0), none, some (vI v2), some (vI v3), some (vI v4), some (vI (v5 + 1)), none, none]) (⟨rfl, ⟨rfl, ⟨rfl, ⟨rfl, ⟨rfl, trivial⟩⟩⟩⟩⟩) ?_
      exact HK29 q0 v2 v3 v4 (v5 + 1) _ hq0 h
    · have h := h2 e
      refine aj_aload_n C dX11_weigh_59 rfl ?_
      refine aj_iload_n C dX11_weigh_60 rfl ?_
      refine aj_iload C dX11_weigh_61 rfl ?_
      refine aj_iload C dX11_weigh_63 rfl ?_
      refine aj_callV (rest := []) C mvX11_371 (sX11_mostAlike hq0 h) hq0 (aj_np 3 (by decide +kernel) rfl) (Nat.le_of_ble_eq_true rfl) rfl dX11_weigh_65 (fun r m1 h => ?_)
      obtain ⟨z1, rfl, h⟩ := h
      refine aj_istore (lv' := [some (vO 11 q0), none, some (vI v2), some (vI v3), some (vI v4), some (vI v5), some (vI v6), some (vI z1)]) C dX11_weigh_68 (by decide) rfl ?_
      refine aj_iload C dX11_weigh_70 rfl ?_
      refine aj_iload C dX11_weigh_72 rfl ?_
      obtain ⟨r0, r1, h1, h2⟩ := h
      refine aj_icmp_ge (tgt := 90) C dX11_weigh_74 (by decide) r0 r1 (fun e => ?_) (fun e => ?_)
      · have h := h1 e
        refine aj_iinc (lv' := [some (vO 11 q0), none, some (vI v2), some (vI v3), some (vI v4), some (vI v5), some (vI (v6 + 1)), some (vI z1)]) C dX11_weigh_90 rfl (by decide) rfl ?_
        refine aj_goto (tgt := 44) C dX11_weigh_93 (by decide) ?_
        refine aj_wk (lv' := [some (vO 11 q0), none, some (vI v2), some (vI v3), some (vI v4), some (vI v5), some (vI (v6 + 1)), none]) (⟨rfl, ⟨rfl, ⟨rfl, ⟨rfl, ⟨rfl, ⟨rfl, trivial⟩⟩⟩⟩⟩⟩) ?_
        exact ih q0 v2 v3 v4 v5 (v6 + 1) _ hq0 h
      · have h := h2 e
        refine aj_iload C dX11_weigh_77 rfl ?_
        refine aj_istore (lv' := [some (vO 11 q0), none, some (vI v2), some (vI v3), some (vI z1), some (vI v5), some (vI v6), some (vI z1)]) C dX11_weigh_79 (by decide) rfl ?_
        refine aj_bipush C dX11_weigh_81 (by decide) ?_
        refine aj_iload C dX11_weigh_83 rfl ?_
        refine aj_imul C dX11_weigh_85 ?_
        refine aj_iload C dX11_weigh_86 rfl ?_
        refine aj_iadd C dX11_weigh_88 ?_
        refine aj_istore_n (lv' := [some (vO 11 q0), none, some (vI v2), some (vI ((100 * v5) + v6)), some (vI z1), some (vI v5), some (vI v6), some (vI z1)]) C dX11_weigh_89 (by decide) rfl ?_
        refine aj_iinc (lv' := [some (vO 11 q0), none, some (vI v2), some (vI ((100 * v5) + v6)), some (vI z1), some (vI v5), some (vI (v6 + 1)), some (vI z1)]) C dX11_weigh_90 rfl (by decide) rfl ?_
        refine aj_goto (tgt := 44) C dX11_weigh_93 (by decide) ?_
        refine aj_wk (lv' := [some (vO 11 q0), none, some (vI v2), some (vI ((100 * v5) + v6)), some (vI z1), some (vI v5), some (vI (v6 + 1)), none]) (⟨rfl, ⟨rfl, ⟨rfl, ⟨rfl, ⟨rfl, ⟨rfl, trivial⟩⟩⟩⟩⟩⟩) ?_
        exact ih q0 v2 ((100 * v5) + v6) z1 v5 (v6 + 1) _ hq0 h
def hX11_weigh_29 (f : Nat) (Φ : Int → aj_M → Prop) : Nat → List Nat → Int → Int → Int → Int → aj_M → Prop
  | 0, _, _, _, _, _, _ => False
  | k + 1, q0, v2, v3, v4, v5, m => rI v5 ∧ rI (m (1 :: q0) 4) ∧ ((m (1 :: q0) 4) ≤ v5 → Φ v3 m) ∧ (¬ ((m (1 :: q0) 4) ≤ v5) → hX11_weigh_44 f Φ (fun q0 v2 v3 v4 v5 m => hX11_weigh_29 f Φ k q0 v2 v3 v4 v5 m) f q0 v2 v3 v4 v5 0 m)
set_option maxHeartbeats 4000000 in
set_option maxRecDepth 100000 in
theorem tX11_weigh_29 {X : aj_T} {n f : Nat} {Φ : Int → aj_M → Prop} (C : aj_Cx X cX11_weigh RX11 8 (n + 5)) (K : aj_Rt X (some .int) (fun r m => ∃ z, r = some (vI z) ∧ Φ z m)) : ∀ (k : Nat) (q0 : List Nat) (v2 : Int) (v3 : Int) (v4 : Int) (v5 : Int) (m : aj_M) (hq0 : (.inl (11, q0) : aj_R) ∈ aj_pls), hX11_weigh_29 f Φ k q0 v2 v3 v4 v5 m → aj_J X 29 [some (vO 11 q0), none, some (vI v2), some (vI v3), some (vI v4), some (vI v5), none, none] [] m := by
  intro k
  induction k with
  | zero =>
    intro q0 v2 v3 v4 v5 m _ h
    exact h.elim
  | succ k ih =>
    intro q0 v2 v3 v4 v5 m hq0 h
    unfold hX11_weigh_29 at h
    refine aj_iload C dX11_weigh_29 rfl ?_
    refine aj_aload_n C dX11_weigh_31 rfl ?_
    refine aj_getO (x := 6) (y := 0) C flX11_19 hq0 rfl dX11_weigh_32 ?_
    refine aj_getI C flX11_368 (aj_cf (x := 6) (y := 0) (j := 1) hq0 (by decide) rfl) (by decide) dX11_weigh_35 rfl ?_
    obtain ⟨r0, r1, h1, h2⟩ := h
    refine aj_icmp_ge (tgt := 102) C dX11_weigh_38 (by decide) r0 r1 (fun e => ?_) (fun e => ?_)
    · have h := h1 e
      refine aj_iload_n C dX11_weigh_102 rfl ?_
      exact aj_iret C K dX11_weigh_103 ⟨_, rfl, h⟩
    · have h := h2 e
      refine aj_iconst C dX11_weigh_41 ?_
      refine aj_istore (lv' := [some (vO 11 q0), none, some (vI v2), some (vI v3), some (vI v4), some (vI v5), some (vI 0), none]) C dX11_weigh_42 (by decide) rfl ?_
      exact tX11_weigh_44 C K (fun q0 v2 v3 v4 v5 m hq0 hh => ih q0 v2 v3 v4 v5 m hq0 hh) f q0 v2 v3 v4 v5 0 _ hq0 h
def wX11_weigh (f : Nat) (Φ : Int → aj_M → Prop) (q0 : List Nat) (v1 : Int) (m : aj_M) : Prop := wX11_twists f (fun z1 m1 => rI z1 ∧ (0 < z1 → hX11_weigh_29 f Φ f q0 z1 (-1) 11 0 m1) ∧ (¬ (0 < z1) → rI z1 ∧ (¬ z1 = 0 → Φ z1 m1) ∧ (z1 = 0 → Φ (-1) m1))) q0 v1 m
set_option maxHeartbeats 4000000 in
set_option maxRecDepth 100000 in
theorem sX11_weigh {n f : Nat} {Φ : Int → aj_M → Prop} {q0 : List Nat} {v1 : Int} {m : aj_M} (hq0 : (.inl (11, q0) : aj_R) ∈ aj_pls) (h : wX11_weigh f Φ q0 v1 m) : aj_Ct (n + 5) yX11_weigh cX11_weigh 8 (some .int) [vO 11 q0, vI v1] m (fun r m => ∃ z, r = some (vI z) ∧ Φ z m) := by
  refine aj_met (lv := [some (vO 11 q0), some (vI v1), none, none, none, none, none, none]) (by decide +kernel) rfl (Nat.le_of_ble_eq_true rfl) (fun X C K => ?_)
  unfold wX11_weigh at h
  refine aj_aload_n C dX11_weigh_0 rfl ?_
  refine aj_iload_n C dX11_weigh_1 rfl ?_
  refine aj_callV (rest := []) C mvX11_365 (sX11_twists hq0 h) hq0 (aj_np 1 (by decide +kernel) rfl) (Nat.le_of_ble_eq_true rfl) rfl dX11_weigh_2 (fun r m1 h => ?_)
  obtain ⟨z1, rfl, h⟩ := h
  refine aj_istore_n (lv' := [some (vO 11 q0), some (vI v1), some (vI z1), none, none, none, none, none]) C dX11_weigh_5 (by decide) rfl ?_
  refine aj_iload_n C dX11_weigh_6 rfl ?_
  obtain ⟨r0, h1, h2⟩ := h
  refine aj_if_gt (tgt := 20) C dX11_weigh_7 (by decide) r0 (fun e => ?_) (fun e => ?_)
  · have h := h1 e
    refine aj_iconst C dX11_weigh_20 ?_
    refine aj_istore_n (lv' := [some (vO 11 q0), some (vI v1), some (vI z1), some (vI (-1)), none, none, none, none]) C dX11_weigh_21 (by decide) rfl ?_
    refine aj_bipush C dX11_weigh_22 (by decide) ?_
    refine aj_istore (lv' := [some (vO 11 q0), some (vI v1), some (vI z1), some (vI (-1)), some (vI 11), none, none, none]) C dX11_weigh_24 (by decide) rfl ?_
    refine aj_iconst C dX11_weigh_26 ?_
    refine aj_istore (lv' := [some (vO 11 q0), some (vI v1), some (vI z1), some (vI (-1)), some (vI 11), some (vI 0), none, none]) C dX11_weigh_27 (by decide) rfl ?_
    refine aj_wk (lv' := [some (vO 11 q0), none, some (vI z1), some (vI (-1)), some (vI 11), some (vI 0), none, none]) (⟨rfl, ⟨rfl, ⟨rfl, ⟨rfl, ⟨rfl, trivial⟩⟩⟩⟩⟩) ?_
    exact tX11_weigh_29 C K f q0 z1 (-1) 11 0 _ hq0 h
  · have h := h2 e
    refine aj_iload_n C dX11_weigh_10 rfl ?_
    obtain ⟨r0, h1, h2⟩ := h
    refine aj_if_ne (tgt := 18) C dX11_weigh_11 (by decide) r0 (fun e => ?_) (fun e => ?_)
    · have h := h1 e
      refine aj_iload_n C dX11_weigh_18 rfl ?_
      exact aj_iret C K dX11_weigh_19 ⟨_, rfl, h⟩
    · have h := h2 e
      refine aj_iconst C dX11_weigh_14 ?_
      refine aj_goto (tgt := 19) C dX11_weigh_15 (by decide) ?_
      exact aj_iret C K dX11_weigh_19 ⟨_, rfl, h⟩
theorem dX11_worth_0 : decode cX11_worth 0 = .ok (.aload_n 0, 1) := by decide +kernel
theorem dX11_worth_1 : decode cX11_worth 1 = .ok (.getfield 65, 3) := by decide +kernel
theorem dX11_worth_4 : decode cX11_worth 4 = .ok (.aload_n 0, 1) := by decide +kernel
theorem dX11_worth_5 : decode cX11_worth 5 = .ok (.getfield 19, 3) := by decide +kernel
theorem dX11_worth_8 : decode cX11_worth 8 = .ok (.aload_n 0, 1) := by decide +kernel
theorem dX11_worth_9 : decode cX11_worth 9 = .ok (.getfield 33, 3) := by decide +kernel
theorem dX11_worth_12 : decode cX11_worth 12 = .ok (.invokevirtual 209, 3) := by decide +kernel
theorem dX11_worth_15 : decode cX11_worth 15 = .ok (.aload_n 0, 1) := by decide +kernel
theorem dX11_worth_16 : decode cX11_worth 16 = .ok (.getfield 65, 3) := by decide +kernel
theorem dX11_worth_19 : decode cX11_worth 19 = .ok (.invokevirtual 213, 3) := by decide +kernel
theorem dX11_worth_22 : decode cX11_worth 22 = .ok (.istore_n 2, 1) := by decide +kernel
theorem dX11_worth_23 : decode cX11_worth 23 = .ok (.iload_n 1, 1) := by decide +kernel
theorem dX11_worth_24 : decode cX11_worth 24 = .ok (.ifCond .ne 16, 3) := by decide +kernel
theorem dX11_worth_27 : decode cX11_worth 27 = .ok (.iload_n 2, 1) := by decide +kernel
theorem dX11_worth_28 : decode cX11_worth 28 = .ok (.ldc_w 414, 3) := by decide +kernel
theorem dX11_worth_31 : decode cX11_worth 31 = .ok (.if_icmp .ne 7, 3) := by decide +kernel
theorem dX11_worth_34 : decode cX11_worth 34 = .ok (.iconst 0, 1) := by decide +kernel
theorem dX11_worth_35 : decode cX11_worth 35 = .ok (.goto 4, 3) := by decide +kernel
theorem dX11_worth_38 : decode cX11_worth 38 = .ok (.iload_n 2, 1) := by decide +kernel
theorem dX11_worth_39 : decode cX11_worth 39 = .ok (.ireturn, 1) := by decide +kernel
theorem dX11_worth_40 : decode cX11_worth 40 = .ok (.iload_n 2, 1) := by decide +kernel
theorem dX11_worth_41 : decode cX11_worth 41 = .ok (.iload_n 1, 1) := by decide +kernel
theorem dX11_worth_42 : decode cX11_worth 42 = .ok (.if_icmp .lt 7, 3) := by decide +kernel
theorem dX11_worth_45 : decode cX11_worth 45 = .ok (.iconst 1, 1) := by decide +kernel
theorem dX11_worth_46 : decode cX11_worth 46 = .ok (.goto 4, 3) := by decide +kernel
theorem dX11_worth_49 : decode cX11_worth 49 = .ok (.iconst 0, 1) := by decide +kernel
theorem dX11_worth_50 : decode cX11_worth 50 = .ok (.ireturn, 1) := by decide +kernel
def wX11_worth (f : Nat) (Φ : Int → aj_M → Prop) (q0 : List Nat) (v1 : Int) (m : aj_M) : Prop := wX5_build f (fun m1 => wX5_shortestRing f (fun z2 m2 => rI v1 ∧ (¬ v1 = 0 → rI z2 ∧ rI v1 ∧ (z2 < v1 → Φ 0 m2) ∧ (¬ (z2 < v1) → Φ 1 m2)) ∧ (v1 = 0 → rI z2 ∧ (¬ z2 = 1000000 → Φ z2 m2) ∧ (z2 = 1000000 → Φ 0 m2))) (9 :: q0) m1) (9 :: q0) (1 :: q0) (4 :: q0) m
set_option maxHeartbeats 4000000 in
set_option maxRecDepth 100000 in
theorem sX11_worth {n f : Nat} {Φ : Int → aj_M → Prop} {q0 : List Nat} {v1 : Int} {m : aj_M} (hq0 : (.inl (11, q0) : aj_R) ∈ aj_pls) (h : wX11_worth f Φ q0 v1 m) : aj_Ct (n + 4) yX11_worth cX11_worth 3 (some .int) [vO 11 q0, vI v1] m (fun r m => ∃ z, r = some (vI z) ∧ Φ z m) := by
  refine aj_met (lv := [some (vO 11 q0), some (vI v1), none]) (by decide +kernel) rfl (Nat.le_of_ble_eq_true rfl) (fun X C K => ?_)
  unfold wX11_worth at h
  refine aj_aload_n C dX11_worth_0 rfl ?_
  refine aj_getO (x := 5) (y := 0) C flX11_65 hq0 rfl dX11_worth_1 ?_
  refine aj_aload_n C dX11_worth_4 rfl ?_
  refine aj_getO (x := 6) (y := 0) C flX11_19 hq0 rfl dX11_worth_5 ?_
  refine aj_aload_n C dX11_worth_8 rfl ?_
  refine aj_getO (x := 9) (y := 0) C flX11_33 hq0 rfl dX11_worth_9 ?_
  refine aj_callV (rest := []) C mvX11_209 (sX5_build (aj_cf (x := 5) (y := 0) (j := 9) hq0 (by decide) rfl) (aj_cf (x := 6) (y := 0) (j := 1) hq0 (by decide) rfl) (aj_cf (x := 9) (y := 0) (j := 4) hq0 (by decide) rfl) h) (aj_cf (x := 5) (y := 0) (j := 9) hq0 (by decide) rfl) (aj_np 2 (by decide +kernel) rfl) (Nat.le_of_ble_eq_true rfl) rfl dX11_worth_12 (fun r m1 h => ?_)
  obtain ⟨rfl, h⟩ := h
  refine aj_aload_n C dX11_worth_15 rfl ?_
  refine aj_getO (x := 5) (y := 0) C flX11_65 hq0 rfl dX11_worth_16 ?_
  refine aj_callV (rest := []) C mvX11_213 (sX5_shortestRing (aj_cf (x := 5) (y := 0) (j := 9) hq0 (by decide) rfl) h) (aj_cf (x := 5) (y := 0) (j := 9) hq0 (by decide) rfl) (aj_np 0 (by decide +kernel) rfl) (Nat.le_of_ble_eq_true rfl) rfl dX11_worth_19 (fun r m2 h => ?_)
  obtain ⟨z2, rfl, h⟩ := h
  refine aj_istore_n (lv' := [some (vO 11 q0), some (vI v1), some (vI z2)]) C dX11_worth_22 (by decide) rfl ?_
  refine aj_iload_n C dX11_worth_23 rfl ?_
  obtain ⟨r0, h1, h2⟩ := h
  refine aj_if_ne (tgt := 40) C dX11_worth_24 (by decide) r0 (fun e => ?_) (fun e => ?_)
  · have h := h1 e
    refine aj_iload_n C dX11_worth_40 rfl ?_
    refine aj_iload_n C dX11_worth_41 rfl ?_
    obtain ⟨r0, r1, h1, h2⟩ := h
    refine aj_icmp_lt (tgt := 49) C dX11_worth_42 (by decide) r0 r1 (fun e => ?_) (fun e => ?_)
    · have h := h1 e
      refine aj_iconst C dX11_worth_49 ?_
      exact aj_iret C K dX11_worth_50 ⟨_, rfl, h⟩
    · have h := h2 e
      refine aj_iconst C dX11_worth_45 ?_
      refine aj_goto (tgt := 50) C dX11_worth_46 (by decide) ?_
      exact aj_iret C K dX11_worth_50 ⟨_, rfl, h⟩
  · have h := h2 e
    refine aj_iload_n C dX11_worth_27 rfl ?_
    refine aj_ldcw (z := 1000000) C (wd1082) rfl dX11_worth_28 ?_
    obtain ⟨r0, h1, h2⟩ := h
    refine aj_icmp_ne (tgt := 38) C dX11_worth_31 (by decide) r0 (by decide) (fun e => ?_) (fun e => ?_)
    · have h := h1 e
      refine aj_iload_n C dX11_worth_38 rfl ?_
      exact aj_iret C K dX11_worth_39 ⟨_, rfl, h⟩
    · have h := h2 e
      refine aj_iconst C dX11_worth_34 ?_
      refine aj_goto (tgt := 39) C dX11_worth_35 (by decide) ?_
      exact aj_iret C K dX11_worth_39 ⟨_, rfl, h⟩
theorem dX11_drawLot_0 : decode cX11_drawLot 0 = .ok (.aload_n 0, 1) := by decide +kernel
theorem dX11_drawLot_1 : decode cX11_drawLot 1 = .ok (.getfield 19, 3) := by decide +kernel
theorem dX11_drawLot_4 : decode cX11_drawLot 4 = .ok (.iload_n 1, 1) := by decide +kernel
theorem dX11_drawLot_5 : decode cX11_drawLot 5 = .ok (.invokevirtual 118, 3) := by decide +kernel
theorem dX11_drawLot_8 : decode cX11_drawLot 8 = .ok (.ifCond .eq 57, 3) := by decide +kernel
theorem dX11_drawLot_11 : decode cX11_drawLot 11 = .ok (.aload_n 0, 1) := by decide +kernel
theorem dX11_drawLot_12 : decode cX11_drawLot 12 = .ok (.getfield 19, 3) := by decide +kernel
theorem dX11_drawLot_15 : decode cX11_drawLot 15 = .ok (.iload_n 1, 1) := by decide +kernel
theorem dX11_drawLot_16 : decode cX11_drawLot 16 = .ok (.invokevirtual 130, 3) := by decide +kernel
theorem dX11_drawLot_19 : decode cX11_drawLot 19 = .ok (.ifCond .ne 46, 3) := by decide +kernel
theorem dX11_drawLot_22 : decode cX11_drawLot 22 = .ok (.aload_n 0, 1) := by decide +kernel
theorem dX11_drawLot_23 : decode cX11_drawLot 23 = .ok (.getfield 19, 3) := by decide +kernel
theorem dX11_drawLot_26 : decode cX11_drawLot 26 = .ok (.getfield 136, 3) := by decide +kernel
theorem dX11_drawLot_29 : decode cX11_drawLot 29 = .ok (.iconst 1, 1) := by decide +kernel
theorem dX11_drawLot_30 : decode cX11_drawLot 30 = .ok (.invokevirtual 140, 3) := by decide +kernel
theorem dX11_drawLot_33 : decode cX11_drawLot 33 = .ok (.ifCond .eq 32, 3) := by decide +kernel
theorem dX11_drawLot_36 : decode cX11_drawLot 36 = .ok (.aload_n 0, 1) := by decide +kernel
theorem dX11_drawLot_37 : decode cX11_drawLot 37 = .ok (.getfield 33, 3) := by decide +kernel
theorem dX11_drawLot_40 : decode cX11_drawLot 40 = .ok (.getfield 127, 3) := by decide +kernel
theorem dX11_drawLot_43 : decode cX11_drawLot 43 = .ok (.iload_n 1, 1) := by decide +kernel
theorem dX11_drawLot_44 : decode cX11_drawLot 44 = .ok (.aload_n 0, 1) := by decide +kernel
theorem dX11_drawLot_45 : decode cX11_drawLot 45 = .ok (.getfield 19, 3) := by decide +kernel
theorem dX11_drawLot_48 : decode cX11_drawLot 48 = .ok (.getfield 136, 3) := by decide +kernel
theorem dX11_drawLot_51 : decode cX11_drawLot 51 = .ok (.aload_n 0, 1) := by decide +kernel
theorem dX11_drawLot_52 : decode cX11_drawLot 52 = .ok (.getfield 33, 3) := by decide +kernel
theorem dX11_drawLot_55 : decode cX11_drawLot 55 = .ok (.getfield 127, 3) := by decide +kernel
theorem dX11_drawLot_58 : decode cX11_drawLot 58 = .ok (.iload_n 1, 1) := by decide +kernel
theorem dX11_drawLot_59 : decode cX11_drawLot 59 = .ok (.iaload, 1) := by decide +kernel
theorem dX11_drawLot_60 : decode cX11_drawLot 60 = .ok (.iconst 1, 1) := by decide +kernel
theorem dX11_drawLot_61 : decode cX11_drawLot 61 = .ok (.invokevirtual 145, 3) := by decide +kernel
theorem dX11_drawLot_64 : decode cX11_drawLot 64 = .ok (.iastore, 1) := by decide +kernel
theorem dX11_drawLot_65 : decode cX11_drawLot 65 = .ok (.return_, 1) := by decide +kernel
def wX11_drawLot (f : Nat) (Φ : aj_M → Prop) (q0 : List Nat) (v1 : Int) (m : aj_M) : Prop := wX6_hasArc f (fun z1 m1 => rI z1 ∧ (z1 = 0 → Φ m1) ∧ (¬ (z1 = 0) → wX6_isHalf f (fun z2 m2 => rI z2 ∧ (¬ z2 = 0 → Φ m2) ∧ (z2 = 0 → wX0_has f (fun z3 m3 => rI z3 ∧ (z3 = 0 → Φ m3) ∧ (¬ (z3 = 0) → (0 ≤ v1 ∧ v1 < 12) ∧ wX0_times f (fun z4 m4 => (0 ≤ v1 ∧ v1 < 12) ∧ ∀ m5, m5 = aj_u m4 (0 :: (4 :: q0)) v1.toNat z4 → Φ m5) (0 :: (1 :: q0)) (m3 (0 :: (4 :: q0)) v1.toNat) 1 m3)) (0 :: (1 :: q0)) 1 m2)) (1 :: q0) v1 m1)) (1 :: q0) v1 m
set_option maxHeartbeats 4000000 in
set_option maxRecDepth 100000 in
theorem sX11_drawLot {n f : Nat} {Φ : aj_M → Prop} {q0 : List Nat} {v1 : Int} {m : aj_M} (hq0 : (.inl (11, q0) : aj_R) ∈ aj_pls) (h : wX11_drawLot f Φ q0 v1 m) : aj_Ct (n + 2) yX11_drawLot cX11_drawLot 2 none [vO 11 q0, vI v1] m (fun r m => r = none ∧ Φ m) := by
  refine aj_met (lv := [some (vO 11 q0), some (vI v1)]) (by decide +kernel) rfl (Nat.le_of_ble_eq_true rfl) (fun X C K => ?_)
  unfold wX11_drawLot at h
  refine aj_aload_n C dX11_drawLot_0 rfl ?_
  refine aj_getO (x := 6) (y := 0) C flX11_19 hq0 rfl dX11_drawLot_1 ?_
  refine aj_iload_n C dX11_drawLot_4 rfl ?_
  refine aj_callV (rest := []) C mvX11_118 (sX6_hasArc (aj_cf (x := 6) (y := 0) (j := 1) hq0 (by decide) rfl) h) (aj_cf (x := 6) (y := 0) (j := 1) hq0 (by decide) rfl) (aj_np 1 (by decide +kernel) rfl) (Nat.le_of_ble_eq_true rfl) rfl dX11_drawLot_5 (fun r m1 h => ?_)
  obtain ⟨z1, rfl, h⟩ := h
  obtain ⟨r0, h1, h2⟩ := h
  refine aj_if_eq (tgt := 65) C dX11_drawLot_8 (by decide) r0 (fun e => ?_) (fun e => ?_)
  · have h := h1 e
    exact aj_vret C K dX11_drawLot_65 ⟨rfl, h⟩
  · have h := h2 e
    refine aj_aload_n C dX11_drawLot_11 rfl ?_
    refine aj_getO (x := 6) (y := 0) C flX11_19 hq0 rfl dX11_drawLot_12 ?_
    refine aj_iload_n C dX11_drawLot_15 rfl ?_
    refine aj_callV (rest := []) C mvX11_130 (sX6_isHalf (aj_cf (x := 6) (y := 0) (j := 1) hq0 (by decide) rfl) h) (aj_cf (x := 6) (y := 0) (j := 1) hq0 (by decide) rfl) (aj_np 1 (by decide +kernel) rfl) (Nat.le_of_ble_eq_true rfl) rfl dX11_drawLot_16 (fun r m2 h => ?_)
    obtain ⟨z2, rfl, h⟩ := h
    obtain ⟨r0, h1, h2⟩ := h
    refine aj_if_ne (tgt := 65) C dX11_drawLot_19 (by decide) r0 (fun e => ?_) (fun e => ?_)
    · have h := h1 e
      exact aj_vret C K dX11_drawLot_65 ⟨rfl, h⟩
    · have h := h2 e
      refine aj_aload_n C dX11_drawLot_22 rfl ?_
      refine aj_getO (x := 6) (y := 0) C flX11_19 hq0 rfl dX11_drawLot_23 ?_
      refine aj_getO (x := 0) (y := 0) C flX11_136 (aj_cf (x := 6) (y := 0) (j := 1) hq0 (by decide) rfl) rfl dX11_drawLot_26 ?_
      refine aj_iconst C dX11_drawLot_29 ?_
      refine aj_callV (rest := []) C mvX11_140 (sX0_has (aj_cf (x := 0) (y := 0) (j := 0) (aj_cf (x := 6) (y := 0) (j := 1) hq0 (by decide) rfl) (by decide) rfl) h) (aj_cf (x := 0) (y := 0) (j := 0) (aj_cf (x := 6) (y := 0) (j := 1) hq0 (by decide) rfl) (by decide) rfl) (aj_np 1 (by decide +kernel) rfl) (Nat.le_of_ble_eq_true rfl) rfl dX11_drawLot_30 (fun r m3 h => ?_)
      obtain ⟨z3, rfl, h⟩ := h
      obtain ⟨r0, h1, h2⟩ := h
      refine aj_if_eq (tgt := 65) C dX11_drawLot_33 (by decide) r0 (fun e => ?_) (fun e => ?_)
      · have h := h1 e
        exact aj_vret C K dX11_drawLot_65 ⟨rfl, h⟩
      · have h := h2 e
        refine aj_aload_n C dX11_drawLot_36 rfl ?_
        refine aj_getO (x := 9) (y := 0) C flX11_33 hq0 rfl dX11_drawLot_37 ?_
        refine aj_getA (x := 0) (y := 12) C flX11_127 (aj_cf (x := 9) (y := 0) (j := 4) hq0 (by decide) rfl) rfl dX11_drawLot_40 ?_
        refine aj_iload_n C dX11_drawLot_43 rfl ?_
        refine aj_aload_n C dX11_drawLot_44 rfl ?_
        refine aj_getO (x := 6) (y := 0) C flX11_19 hq0 rfl dX11_drawLot_45 ?_
        refine aj_getO (x := 0) (y := 0) C flX11_136 (aj_cf (x := 6) (y := 0) (j := 1) hq0 (by decide) rfl) rfl dX11_drawLot_48 ?_
        refine aj_aload_n C dX11_drawLot_51 rfl ?_
        refine aj_getO (x := 9) (y := 0) C flX11_33 hq0 rfl dX11_drawLot_52 ?_
        refine aj_getA (x := 0) (y := 12) C flX11_127 (aj_cf (x := 9) (y := 0) (j := 4) hq0 (by decide) rfl) rfl dX11_drawLot_55 ?_
        refine aj_iload_n C dX11_drawLot_58 rfl ?_
        obtain ⟨r0, h⟩ := h
        refine aj_iald C (aj_ca (e := 0) (n := 12) (j := 0) (aj_cf (x := 9) (y := 0) (j := 4) hq0 (by decide) rfl) (by decide) rfl) (by decide) r0 dX11_drawLot_59 rfl ?_
        refine aj_iconst C dX11_drawLot_60 ?_
        refine aj_callV (rest := [vI v1, vA 0 12 (0 :: (4 :: q0))]) C mvX11_145 (sX0_times (aj_cf (x := 0) (y := 0) (j := 0) (aj_cf (x := 6) (y := 0) (j := 1) hq0 (by decide) rfl) (by decide) rfl) h) (aj_cf (x := 0) (y := 0) (j := 0) (aj_cf (x := 6) (y := 0) (j := 1) hq0 (by decide) rfl) (by decide) rfl) (aj_np 2 (by decide +kernel) rfl) (Nat.le_of_ble_eq_true rfl) rfl dX11_drawLot_61 (fun r m4 h => ?_)
        obtain ⟨z4, rfl, h⟩ := h
        obtain ⟨r0, h⟩ := h
        refine aj_iast C (aj_ca (e := 0) (n := 12) (j := 0) (aj_cf (x := 9) (y := 0) (j := 4) hq0 (by decide) rfl) (by decide) rfl) (by decide) r0 dX11_drawLot_64 ?_
        refine aj_nm (fun m5 e1 => ?_)
        have h := h m5 e1
        exact aj_vret C K dX11_drawLot_65 ⟨rfl, h⟩
