theorem dX7_readKeeps_0 : decode cX7_readKeeps 0 = .ok (.aload_n 0, 1) := by decide +kernel
theorem dX7_readKeeps_1 : decode cX7_readKeeps 1 = .ok (.invokevirtual 60, 3) := by decide +kernel
theorem dX7_readKeeps_4 : decode cX7_readKeeps 4 = .ok (.aload_n 0, 1) := by decide +kernel
theorem dX7_readKeeps_5 : decode cX7_readKeeps 5 = .ok (.getfield 25, 3) := by decide +kernel
theorem dX7_readKeeps_8 : decode cX7_readKeeps 8 = .ok (.getfield 147, 3) := by decide +kernel
theorem dX7_readKeeps_11 : decode cX7_readKeeps 11 = .ok (.getfield 151, 3) := by decide +kernel
theorem dX7_readKeeps_14 : decode cX7_readKeeps 14 = .ok (.istore_n 1, 1) := by decide +kernel
theorem dX7_readKeeps_15 : decode cX7_readKeeps 15 = .ok (.aload_n 0, 1) := by decide +kernel
theorem dX7_readKeeps_16 : decode cX7_readKeeps 16 = .ok (.bipush 58, 2) := by decide +kernel
theorem dX7_readKeeps_18 : decode cX7_readKeeps 18 = .ok (.invokevirtual 70, 3) := by decide +kernel
theorem dX7_readKeeps_21 : decode cX7_readKeeps 21 = .ok (.ifCond .eq 11, 3) := by decide +kernel
theorem dX7_readKeeps_24 : decode cX7_readKeeps 24 = .ok (.aload_n 0, 1) := by decide +kernel
theorem dX7_readKeeps_25 : decode cX7_readKeeps 25 = .ok (.iconst 0, 1) := by decide +kernel
theorem dX7_readKeeps_26 : decode cX7_readKeeps 26 = .ok (.invokevirtual 154, 3) := by decide +kernel
theorem dX7_readKeeps_29 : decode cX7_readKeeps 29 = .ok (.ifCond .ne 5, 3) := by decide +kernel
theorem dX7_readKeeps_32 : decode cX7_readKeeps 32 = .ok (.iconst 0, 1) := by decide +kernel
theorem dX7_readKeeps_33 : decode cX7_readKeeps 33 = .ok (.ireturn, 1) := by decide +kernel
theorem dX7_readKeeps_34 : decode cX7_readKeeps 34 = .ok (.aload_n 0, 1) := by decide +kernel
theorem dX7_readKeeps_35 : decode cX7_readKeeps 35 = .ok (.getfield 25, 3) := by decide +kernel
theorem dX7_readKeeps_38 : decode cX7_readKeeps 38 = .ok (.getfield 147, 3) := by decide +kernel
theorem dX7_readKeeps_41 : decode cX7_readKeeps 41 = .ok (.iload_n 1, 1) := by decide +kernel
theorem dX7_readKeeps_42 : decode cX7_readKeeps 42 = .ok (.putfield 157, 3) := by decide +kernel
theorem dX7_readKeeps_45 : decode cX7_readKeeps 45 = .ok (.aload_n 0, 1) := by decide +kernel
theorem dX7_readKeeps_46 : decode cX7_readKeeps 46 = .ok (.getfield 25, 3) := by decide +kernel
theorem dX7_readKeeps_49 : decode cX7_readKeeps 49 = .ok (.getfield 147, 3) := by decide +kernel
theorem dX7_readKeeps_52 : decode cX7_readKeeps 52 = .ok (.aload_n 0, 1) := by decide +kernel
theorem dX7_readKeeps_53 : decode cX7_readKeeps 53 = .ok (.getfield 25, 3) := by decide +kernel
theorem dX7_readKeeps_56 : decode cX7_readKeeps 56 = .ok (.getfield 147, 3) := by decide +kernel
theorem dX7_readKeeps_59 : decode cX7_readKeeps 59 = .ok (.getfield 151, 3) := by decide +kernel
theorem dX7_readKeeps_62 : decode cX7_readKeeps 62 = .ok (.putfield 160, 3) := by decide +kernel
theorem dX7_readKeeps_65 : decode cX7_readKeeps 65 = .ok (.iconst 1, 1) := by decide +kernel
theorem dX7_readKeeps_66 : decode cX7_readKeeps 66 = .ok (.ireturn, 1) := by decide +kernel
def wX7_readKeeps (f : Nat) (Φ : Int → aj_M → Prop) (q0 : List Nat) (m : aj_M) : Prop := wX7_step f (fun m1 => wX7_take f (fun z2 m2 => rI z2 ∧ (z2 = 0 → Φ 0 m2) ∧ (¬ (z2 = 0) → wX7_readTruth f (fun z3 m3 => rI z3 ∧ (¬ z3 = 0 → ∀ m4, m4 = aj_u m3 (1 :: (3 :: q0)) 2 (m1 (1 :: (3 :: q0)) 1) → ∀ m5, m5 = aj_u m4 (1 :: (3 :: q0)) 3 (m4 (1 :: (3 :: q0)) 1) → Φ 1 m5) ∧ (z3 = 0 → Φ 0 m3)) q0 0 m2)) q0 58 m1) q0 m
set_option maxHeartbeats 4000000 in
set_option maxRecDepth 100000 in
theorem sX7_readKeeps {n f : Nat} {Φ : Int → aj_M → Prop} {q0 : List Nat} {m : aj_M} (hq0 : (.inl (7, q0) : aj_R) ∈ aj_pls) (h : wX7_readKeeps f Φ q0 m) : aj_Ct (n + 77) yX7_readKeeps cX7_readKeeps 2 (some .boolean) [vO 7 q0] m (fun r m => ∃ z, r = some (vI z) ∧ Φ z m) := by
  refine aj_met (lv := [some (vO 7 q0), none]) (by decide +kernel) rfl (Nat.le_of_ble_eq_true rfl) (fun X C K => ?_)
  unfold wX7_readKeeps at h
  refine aj_aload_n C dX7_readKeeps_0 rfl ?_
  refine aj_callV (rest := []) C mvX7_60 (sX7_step hq0 h) hq0 (aj_np 0 (by decide +kernel) rfl) (Nat.le_of_ble_eq_true rfl) rfl dX7_readKeeps_1 (fun r m1 h => ?_)
  obtain ⟨rfl, h⟩ := h
  refine aj_aload_n C dX7_readKeeps_4 rfl ?_
  refine aj_getO (x := 6) (y := 0) C flX7_25 hq0 rfl dX7_readKeeps_5 ?_
  refine aj_getO (x := 4) (y := 0) C flX7_147 (aj_cf (x := 6) (y := 0) (j := 3) hq0 (by decide) rfl) rfl dX7_readKeeps_8 ?_
  refine aj_getI C flX7_151 (aj_cf (x := 4) (y := 0) (j := 1) (aj_cf (x := 6) (y := 0) (j := 3) hq0 (by decide) rfl) (by decide) rfl) (by decide) dX7_readKeeps_11 rfl ?_
  refine aj_istore_n (lv' := [some (vO 7 q0), some (vI (m1 (1 :: (3 :: q0)) 1))]) C dX7_readKeeps_14 (by decide) rfl ?_
  refine aj_aload_n C dX7_readKeeps_15 rfl ?_
  refine aj_bipush C dX7_readKeeps_16 (by decide) ?_
  refine aj_callV (rest := []) C mvX7_70 (sX7_take hq0 h) hq0 (aj_np 1 (by decide +kernel) rfl) (Nat.le_of_ble_eq_true rfl) rfl dX7_readKeeps_18 (fun r m2 h => ?_)
  obtain ⟨z2, rfl, h⟩ := h
  obtain ⟨r0, h1, h2⟩ := h
  refine aj_if_eq (tgt := 32) C dX7_readKeeps_21 (by decide) r0 (fun e => ?_) (fun e => ?_)
  · have h := h1 e
    refine aj_iconst C dX7_readKeeps_32 ?_
    exact aj_zret C K (Or.inl rfl) dX7_readKeeps_33 ⟨_, rfl, h⟩
  · have h := h2 e
    refine aj_aload_n C dX7_readKeeps_24 rfl ?_
    refine aj_iconst C dX7_readKeeps_25 ?_
    refine aj_callV (rest := []) C mvX7_154 (sX7_readTruth hq0 h) hq0 (aj_np 1 (by decide +kernel) rfl) (Nat.le_of_ble_eq_true rfl) rfl dX7_readKeeps_26 (fun r m3 h => ?_)
    obtain ⟨z3, rfl, h⟩ := h
    obtain ⟨r0, h1, h2⟩ := h
    refine aj_if_ne (tgt := 34) C dX7_readKeeps_29 (by decide) r0 (fun e => ?_) (fun e => ?_)
    · have h := h1 e
      refine aj_aload_n C dX7_readKeeps_34 rfl ?_
      refine aj_getO (x := 6) (y := 0) C flX7_25 hq0 rfl dX7_readKeeps_35 ?_
      refine aj_getO (x := 4) (y := 0) C flX7_147 (aj_cf (x := 6) (y := 0) (j := 3) hq0 (by decide) rfl) rfl dX7_readKeeps_38 ?_
      refine aj_iload_n C dX7_readKeeps_41 rfl ?_
      refine aj_putI C fpX7_157 (aj_cf (x := 4) (y := 0) (j := 1) (aj_cf (x := 6) (y := 0) (j := 3) hq0 (by decide) rfl) (by decide) rfl) rfl dX7_readKeeps_42 ?_
      refine aj_nm (fun m4 e1 => ?_)
      have h := h m4 e1
      refine aj_aload_n C dX7_readKeeps_45 rfl ?_
      refine aj_getO (x := 6) (y := 0) C flX7_25 hq0 rfl dX7_readKeeps_46 ?_
      refine aj_getO (x := 4) (y := 0) C flX7_147 (aj_cf (x := 6) (y := 0) (j := 3) hq0 (by decide) rfl) rfl dX7_readKeeps_49 ?_
      refine aj_aload_n C dX7_readKeeps_52 rfl ?_
      refine aj_getO (x := 6) (y := 0) C flX7_25 hq0 rfl dX7_readKeeps_53 ?_
      refine aj_getO (x := 4) (y := 0) C flX7_147 (aj_cf (x := 6) (y := 0) (j := 3) hq0 (by decide) rfl) rfl dX7_readKeeps_56 ?_
      refine aj_getI C flX7_151 (aj_cf (x := 4) (y := 0) (j := 1) (aj_cf (x := 6) (y := 0) (j := 3) hq0 (by decide) rfl) (by decide) rfl) (by decide) dX7_readKeeps_59 rfl ?_
      refine aj_putI C fpX7_160 (aj_cf (x := 4) (y := 0) (j := 1) (aj_cf (x := 6) (y := 0) (j := 3) hq0 (by decide) rfl) (by decide) rfl) rfl dX7_readKeeps_62 ?_
      refine aj_nm (fun m5 e1 => ?_)
      have h := h m5 e1
      refine aj_iconst C dX7_readKeeps_65 ?_
      exact aj_zret C K (Or.inr rfl) dX7_readKeeps_66 ⟨_, rfl, h⟩
    · have h := h2 e
      refine aj_iconst C dX7_readKeeps_32 ?_
      exact aj_zret C K (Or.inl rfl) dX7_readKeeps_33 ⟨_, rfl, h⟩
theorem dX7_readWeighs_0 : decode cX7_readWeighs 0 = .ok (.aload_n 0, 1) := by decide +kernel
theorem dX7_readWeighs_1 : decode cX7_readWeighs 1 = .ok (.invokevirtual 60, 3) := by decide +kernel
theorem dX7_readWeighs_4 : decode cX7_readWeighs 4 = .ok (.aload_n 0, 1) := by decide +kernel
theorem dX7_readWeighs_5 : decode cX7_readWeighs 5 = .ok (.getfield 25, 3) := by decide +kernel
theorem dX7_readWeighs_8 : decode cX7_readWeighs 8 = .ok (.getfield 147, 3) := by decide +kernel
theorem dX7_readWeighs_11 : decode cX7_readWeighs 11 = .ok (.getfield 151, 3) := by decide +kernel
theorem dX7_readWeighs_14 : decode cX7_readWeighs 14 = .ok (.istore_n 1, 1) := by decide +kernel
theorem dX7_readWeighs_15 : decode cX7_readWeighs 15 = .ok (.aload_n 0, 1) := by decide +kernel
theorem dX7_readWeighs_16 : decode cX7_readWeighs 16 = .ok (.bipush 58, 2) := by decide +kernel
theorem dX7_readWeighs_18 : decode cX7_readWeighs 18 = .ok (.invokevirtual 70, 3) := by decide +kernel
theorem dX7_readWeighs_21 : decode cX7_readWeighs 21 = .ok (.ifCond .eq 11, 3) := by decide +kernel
theorem dX7_readWeighs_24 : decode cX7_readWeighs 24 = .ok (.aload_n 0, 1) := by decide +kernel
theorem dX7_readWeighs_25 : decode cX7_readWeighs 25 = .ok (.iconst 0, 1) := by decide +kernel
theorem dX7_readWeighs_26 : decode cX7_readWeighs 26 = .ok (.invokevirtual 163, 3) := by decide +kernel
theorem dX7_readWeighs_29 : decode cX7_readWeighs 29 = .ok (.ifCond .ne 5, 3) := by decide +kernel
theorem dX7_readWeighs_32 : decode cX7_readWeighs 32 = .ok (.iconst 0, 1) := by decide +kernel
theorem dX7_readWeighs_33 : decode cX7_readWeighs 33 = .ok (.ireturn, 1) := by decide +kernel
theorem dX7_readWeighs_34 : decode cX7_readWeighs 34 = .ok (.aload_n 0, 1) := by decide +kernel
theorem dX7_readWeighs_35 : decode cX7_readWeighs 35 = .ok (.getfield 25, 3) := by decide +kernel
theorem dX7_readWeighs_38 : decode cX7_readWeighs 38 = .ok (.getfield 147, 3) := by decide +kernel
theorem dX7_readWeighs_41 : decode cX7_readWeighs 41 = .ok (.iload_n 1, 1) := by decide +kernel
theorem dX7_readWeighs_42 : decode cX7_readWeighs 42 = .ok (.putfield 166, 3) := by decide +kernel
theorem dX7_readWeighs_45 : decode cX7_readWeighs 45 = .ok (.aload_n 0, 1) := by decide +kernel
theorem dX7_readWeighs_46 : decode cX7_readWeighs 46 = .ok (.getfield 25, 3) := by decide +kernel
theorem dX7_readWeighs_49 : decode cX7_readWeighs 49 = .ok (.getfield 147, 3) := by decide +kernel
theorem dX7_readWeighs_52 : decode cX7_readWeighs 52 = .ok (.aload_n 0, 1) := by decide +kernel
theorem dX7_readWeighs_53 : decode cX7_readWeighs 53 = .ok (.getfield 25, 3) := by decide +kernel
theorem dX7_readWeighs_56 : decode cX7_readWeighs 56 = .ok (.getfield 147, 3) := by decide +kernel
theorem dX7_readWeighs_59 : decode cX7_readWeighs 59 = .ok (.getfield 151, 3) := by decide +kernel
theorem dX7_readWeighs_62 : decode cX7_readWeighs 62 = .ok (.putfield 169, 3) := by decide +kernel
theorem dX7_readWeighs_65 : decode cX7_readWeighs 65 = .ok (.iconst 1, 1) := by decide +kernel
theorem dX7_readWeighs_66 : decode cX7_readWeighs 66 = .ok (.ireturn, 1) := by decide +kernel
def wX7_readWeighs (f : Nat) (Φ : Int → aj_M → Prop) (q0 : List Nat) (m : aj_M) : Prop := wX7_step f (fun m1 => wX7_take f (fun z2 m2 => rI z2 ∧ (z2 = 0 → Φ 0 m2) ∧ (¬ (z2 = 0) → wX7_readSum f (fun z3 m3 => rI z3 ∧ (¬ z3 = 0 → ∀ m4, m4 = aj_u m3 (1 :: (3 :: q0)) 4 (m1 (1 :: (3 :: q0)) 1) → ∀ m5, m5 = aj_u m4 (1 :: (3 :: q0)) 5 (m4 (1 :: (3 :: q0)) 1) → Φ 1 m5) ∧ (z3 = 0 → Φ 0 m3)) q0 0 m2)) q0 58 m1) q0 m
set_option maxHeartbeats 4000000 in
set_option maxRecDepth 100000 in
theorem sX7_readWeighs {n f : Nat} {Φ : Int → aj_M → Prop} {q0 : List Nat} {m : aj_M} (hq0 : (.inl (7, q0) : aj_R) ∈ aj_pls) (h : wX7_readWeighs f Φ q0 m) : aj_Ct (n + 77) yX7_readWeighs cX7_readWeighs 2 (some .boolean) [vO 7 q0] m (fun r m => ∃ z, r = some (vI z) ∧ Φ z m) := by
  refine aj_met (lv := [some (vO 7 q0), none]) (by decide +kernel) rfl (Nat.le_of_ble_eq_true rfl) (fun X C K => ?_)
  unfold wX7_readWeighs at h
  refine aj_aload_n C dX7_readWeighs_0 rfl ?_
  refine aj_callV (rest := []) C mvX7_60 (sX7_step hq0 h) hq0 (aj_np 0 (by decide +kernel) rfl) (Nat.le_of_ble_eq_true rfl) rfl dX7_readWeighs_1 (fun r m1 h => ?_)
  obtain ⟨rfl, h⟩ := h
  refine aj_aload_n C dX7_readWeighs_4 rfl ?_
  refine aj_getO (x := 6) (y := 0) C flX7_25 hq0 rfl dX7_readWeighs_5 ?_
  refine aj_getO (x := 4) (y := 0) C flX7_147 (aj_cf (x := 6) (y := 0) (j := 3) hq0 (by decide) rfl) rfl dX7_readWeighs_8 ?_
  refine aj_getI C flX7_151 (aj_cf (x := 4) (y := 0) (j := 1) (aj_cf (x := 6) (y := 0) (j := 3) hq0 (by decide) rfl) (by decide) rfl) (by decide) dX7_readWeighs_11 rfl ?_
  refine aj_istore_n (lv' := [some (vO 7 q0), some (vI (m1 (1 :: (3 :: q0)) 1))]) C dX7_readWeighs_14 (by decide) rfl ?_
  refine aj_aload_n C dX7_readWeighs_15 rfl ?_
  refine aj_bipush C dX7_readWeighs_16 (by decide) ?_
  refine aj_callV (rest := []) C mvX7_70 (sX7_take hq0 h) hq0 (aj_np 1 (by decide +kernel) rfl) (Nat.le_of_ble_eq_true rfl) rfl dX7_readWeighs_18 (fun r m2 h => ?_)
  obtain ⟨z2, rfl, h⟩ := h
  obtain ⟨r0, h1, h2⟩ := h
  refine aj_if_eq (tgt := 32) C dX7_readWeighs_21 (by decide) r0 (fun e => ?_) (fun e => ?_)
  · have h := h1 e
    refine aj_iconst C dX7_readWeighs_32 ?_
    exact aj_zret C K (Or.inl rfl) dX7_readWeighs_33 ⟨_, rfl, h⟩
  · have h := h2 e
    refine aj_aload_n C dX7_readWeighs_24 rfl ?_
    refine aj_iconst C dX7_readWeighs_25 ?_
    refine aj_callV (rest := []) C mvX7_163 (sX7_readSum hq0 h) hq0 (aj_np 1 (by decide +kernel) rfl) (Nat.le_of_ble_eq_true rfl) rfl dX7_readWeighs_26 (fun r m3 h => ?_)
    obtain ⟨z3, rfl, h⟩ := h
    obtain ⟨r0, h1, h2⟩ := h
    refine aj_if_ne (tgt := 34) C dX7_readWeighs_29 (by decide) r0 (fun e => ?_) (fun e => ?_)
    · have h := h1 e
      refine aj_aload_n C dX7_readWeighs_34 rfl ?_
      refine aj_getO (x := 6) (y := 0) C flX7_25 hq0 rfl dX7_readWeighs_35 ?_
      refine aj_getO (x := 4) (y := 0) C flX7_147 (aj_cf (x := 6) (y := 0) (j := 3) hq0 (by decide) rfl) rfl dX7_readWeighs_38 ?_
      refine aj_iload_n C dX7_readWeighs_41 rfl ?_
      refine aj_putI C fpX7_166 (aj_cf (x := 4) (y := 0) (j := 1) (aj_cf (x := 6) (y := 0) (j := 3) hq0 (by decide) rfl) (by decide) rfl) rfl dX7_readWeighs_42 ?_
      refine aj_nm (fun m4 e1 => ?_)
      have h := h m4 e1
      refine aj_aload_n C dX7_readWeighs_45 rfl ?_
      refine aj_getO (x := 6) (y := 0) C flX7_25 hq0 rfl dX7_readWeighs_46 ?_
      refine aj_getO (x := 4) (y := 0) C flX7_147 (aj_cf (x := 6) (y := 0) (j := 3) hq0 (by decide) rfl) rfl dX7_readWeighs_49 ?_
      refine aj_aload_n C dX7_readWeighs_52 rfl ?_
      refine aj_getO (x := 6) (y := 0) C flX7_25 hq0 rfl dX7_readWeighs_53 ?_
      refine aj_getO (x := 4) (y := 0) C flX7_147 (aj_cf (x := 6) (y := 0) (j := 3) hq0 (by decide) rfl) rfl dX7_readWeighs_56 ?_
      refine aj_getI C flX7_151 (aj_cf (x := 4) (y := 0) (j := 1) (aj_cf (x := 6) (y := 0) (j := 3) hq0 (by decide) rfl) (by decide) rfl) (by decide) dX7_readWeighs_59 rfl ?_
      refine aj_putI C fpX7_169 (aj_cf (x := 4) (y := 0) (j := 1) (aj_cf (x := 6) (y := 0) (j := 3) hq0 (by decide) rfl) (by decide) rfl) rfl dX7_readWeighs_62 ?_
      refine aj_nm (fun m5 e1 => ?_)
      have h := h m5 e1
      refine aj_iconst C dX7_readWeighs_65 ?_
      exact aj_zret C K (Or.inr rfl) dX7_readWeighs_66 ⟨_, rfl, h⟩
    · have h := h2 e
      refine aj_iconst C dX7_readWeighs_32 ?_
      exact aj_zret C K (Or.inl rfl) dX7_readWeighs_33 ⟨_, rfl, h⟩
theorem dX7_readLine_0 : decode cX7_readLine 0 = .ok (.aload_n 0, 1) := by decide +kernel
theorem dX7_readLine_1 : decode cX7_readLine 1 = .ok (.getfield 39, 3) := by decide +kernel
theorem dX7_readLine_4 : decode cX7_readLine 4 = .ok (.tableswitch 65 206 211 #[40, 45, 50, 65, 55, 60], 40) := by decide +kernel
theorem dX7_readLine_44 : decode cX7_readLine 44 = .ok (.aload_n 0, 1) := by decide +kernel
theorem dX7_readLine_45 : decode cX7_readLine 45 = .ok (.invokevirtual 106, 3) := by decide +kernel
theorem dX7_readLine_48 : decode cX7_readLine 48 = .ok (.ireturn, 1) := by decide +kernel
theorem dX7_readLine_49 : decode cX7_readLine 49 = .ok (.aload_n 0, 1) := by decide +kernel
theorem dX7_readLine_50 : decode cX7_readLine 50 = .ok (.invokevirtual 109, 3) := by decide +kernel
theorem dX7_readLine_53 : decode cX7_readLine 53 = .ok (.ireturn, 1) := by decide +kernel
theorem dX7_readLine_54 : decode cX7_readLine 54 = .ok (.aload_n 0, 1) := by decide +kernel
theorem dX7_readLine_55 : decode cX7_readLine 55 = .ok (.invokevirtual 112, 3) := by decide +kernel
theorem dX7_readLine_58 : decode cX7_readLine 58 = .ok (.ireturn, 1) := by decide +kernel
theorem dX7_readLine_59 : decode cX7_readLine 59 = .ok (.aload_n 0, 1) := by decide +kernel
theorem dX7_readLine_60 : decode cX7_readLine 60 = .ok (.invokevirtual 115, 3) := by decide +kernel
theorem dX7_readLine_63 : decode cX7_readLine 63 = .ok (.ireturn, 1) := by decide +kernel
theorem dX7_readLine_64 : decode cX7_readLine 64 = .ok (.aload_n 0, 1) := by decide +kernel
theorem dX7_readLine_65 : decode cX7_readLine 65 = .ok (.invokevirtual 118, 3) := by decide +kernel
theorem dX7_readLine_68 : decode cX7_readLine 68 = .ok (.ireturn, 1) := by decide +kernel
theorem dX7_readLine_69 : decode cX7_readLine 69 = .ok (.aload_n 0, 1) := by decide +kernel
theorem dX7_readLine_70 : decode cX7_readLine 70 = .ok (.invokevirtual 86, 3) := by decide +kernel
theorem dX7_readLine_73 : decode cX7_readLine 73 = .ok (.ireturn, 1) := by decide +kernel
def wX7_readLine (f : Nat) (Φ : Int → aj_M → Prop) (q0 : List Nat) (m : aj_M) : Prop := rI (m q0 7) ∧ ((m q0 7) < 206 ∨ 211 < (m q0 7) → wX7_cantStand f (fun z1 m1 => (z1 = 0 ∨ z1 = 1) ∧ Φ z1 m1) q0 m) ∧ ((m q0 7) = 206 → wX7_readPlaces f (fun z2 m2 => (z2 = 0 ∨ z2 = 1) ∧ Φ z2 m2) q0 m) ∧ ((m q0 7) = 207 → wX7_readArc f (fun z3 m3 => (z3 = 0 ∨ z3 = 1) ∧ Φ z3 m3) q0 m) ∧ ((m q0 7) = 208 → wX7_readHalf f (fun z4 m4 => (z4 = 0 ∨ z4 = 1) ∧ Φ z4 m4) q0 m) ∧ ((m q0 7) = 209 → wX7_cantStand f (fun z5 m5 => (z5 = 0 ∨ z5 = 1) ∧ Φ z5 m5) q0 m) ∧ ((m q0 7) = 210 → wX7_readKeeps f (fun z6 m6 => (z6 = 0 ∨ z6 = 1) ∧ Φ z6 m6) q0 m) ∧ ((m q0 7) = 211 → wX7_readWeighs f (fun z7 m7 => (z7 = 0 ∨ z7 = 1) ∧ Φ z7 m7) q0 m)
set_option maxHeartbeats 4000000 in
set_option maxRecDepth 100000 in
theorem sX7_readLine {n f : Nat} {Φ : Int → aj_M → Prop} {q0 : List Nat} {m : aj_M} (hq0 : (.inl (7, q0) : aj_R) ∈ aj_pls) (h : wX7_readLine f Φ q0 m) : aj_Ct (n + 78) yX7_readLine cX7_readLine 1 (some .boolean) [vO 7 q0] m (fun r m => ∃ z, r = some (vI z) ∧ Φ z m) := by
  refine aj_met (lv := [some (vO 7 q0)]) (by decide +kernel) rfl (Nat.le_of_ble_eq_true rfl) (fun X C K => ?_)
  unfold wX7_readLine at h
  refine aj_aload_n C dX7_readLine_0 rfl ?_
  refine aj_getI C flX7_39 hq0 (by decide) dX7_readLine_1 rfl ?_
  obtain ⟨r0, hd, hc0, hc1, hc2, hc3, hc4, hc5⟩ := h
  rcases (by omega : ((m q0 7) < 206 ∨ 211 < (m q0 7)) ∨ (m q0 7) = 206 ∨ (m q0 7) = 207 ∨ (m q0 7) = 208 ∨ (m q0 7) = 209 ∨ (m q0 7) = 210 ∨ (m q0 7) = 211) with e | e | e | e | e | e | e
  · have h := hd e
    refine aj_tout (tgt := 69) C dX7_readLine_4 r0 e (by decide) ?_
    refine aj_aload_n C dX7_readLine_69 rfl ?_
    refine aj_callV (rest := []) C mvX7_86 (sX7_cantStand hq0 h) hq0 (aj_np 0 (by decide +kernel) rfl) (Nat.le_of_ble_eq_true rfl) rfl dX7_readLine_70 (fun r m1 h => ?_)
    obtain ⟨z1, rfl, h⟩ := h
    exact aj_zret C K h.1 dX7_readLine_73 ⟨_, rfl, h.2⟩
  · have h := hc0 e
    refine aj_tin (tgt := 44) (off := 40) C dX7_readLine_4 r0 (by omega) (by omega) (by rw [e]; rfl) (by decide) ?_
    refine aj_aload_n C dX7_readLine_44 rfl ?_
    refine aj_callV (rest := []) C mvX7_106 (sX7_readPlaces hq0 h) hq0 (aj_np 0 (by decide +kernel) rfl) (Nat.le_of_ble_eq_true rfl) rfl dX7_readLine_45 (fun r m2 h => ?_)
    obtain ⟨z2, rfl, h⟩ := h
    exact aj_zret C K h.1 dX7_readLine_48 ⟨_, rfl, h.2⟩
  · have h := hc1 e
    refine aj_tin (tgt := 49) (off := 45) C dX7_readLine_4 r0 (by omega) (by omega) (by rw [e]; rfl) (by decide) ?_
    refine aj_aload_n C dX7_readLine_49 rfl ?_
    refine aj_callV (rest := []) C mvX7_109 (sX7_readArc hq0 h) hq0 (aj_np 0 (by decide +kernel) rfl) (Nat.le_of_ble_eq_true rfl) rfl dX7_readLine_50 (fun r m3 h => ?_)
    obtain ⟨z3, rfl, h⟩ := h
    exact aj_zret C K h.1 dX7_readLine_53 ⟨_, rfl, h.2⟩
  · have h := hc2 e
    refine aj_tin (tgt := 54) (off := 50) C dX7_readLine_4 r0 (by omega) (by omega) (by rw [e]; rfl) (by decide) ?_
    refine aj_aload_n C dX7_readLine_54 rfl ?_
    refine aj_callV (rest := []) C mvX7_112 (sX7_readHalf hq0 h) hq0 (aj_np 0 (by decide +kernel) rfl) (Nat.le_of_ble_eq_true rfl) rfl dX7_readLine_55 (fun r m4 h => ?_)
    obtain ⟨z4, rfl, h⟩ := h
    exact aj_zret C K h.1 dX7_readLine_58 ⟨_, rfl, h.2⟩
  · have h := hc3 e
    refine aj_tin (tgt := 69) (off := 65) C dX7_readLine_4 r0 (by omega) (by omega) (by rw [e]; rfl) (by decide) ?_
    refine aj_aload_n C dX7_readLine_69 rfl ?_
    refine aj_callV (rest := []) C mvX7_86 (sX7_cantStand hq0 h) hq0 (aj_np 0 (by decide +kernel) rfl) (Nat.le_of_ble_eq_true rfl) rfl dX7_readLine_70 (fun r m5 h => ?_)
    obtain ⟨z5, rfl, h⟩ := h
    exact aj_zret C K h.1 dX7_readLine_73 ⟨_, rfl, h.2⟩
  · have h := hc4 e
    refine aj_tin (tgt := 59) (off := 55) C dX7_readLine_4 r0 (by omega) (by omega) (by rw [e]; rfl) (by decide) ?_
    refine aj_aload_n C dX7_readLine_59 rfl ?_
    refine aj_callV (rest := []) C mvX7_115 (sX7_readKeeps hq0 h) hq0 (aj_np 0 (by decide +kernel) rfl) (Nat.le_of_ble_eq_true rfl) rfl dX7_readLine_60 (fun r m6 h => ?_)
    obtain ⟨z6, rfl, h⟩ := h
    exact aj_zret C K h.1 dX7_readLine_63 ⟨_, rfl, h.2⟩
  · have h := hc5 e
    refine aj_tin (tgt := 64) (off := 60) C dX7_readLine_4 r0 (by omega) (by omega) (by rw [e]; rfl) (by decide) ?_
    refine aj_aload_n C dX7_readLine_64 rfl ?_
    refine aj_callV (rest := []) C mvX7_118 (sX7_readWeighs hq0 h) hq0 (aj_np 0 (by decide +kernel) rfl) (Nat.le_of_ble_eq_true rfl) rfl dX7_readLine_65 (fun r m7 h => ?_)
    obtain ⟨z7, rfl, h⟩ := h
    exact aj_zret C K h.1 dX7_readLine_68 ⟨_, rfl, h.2⟩
theorem dX7_readAll_0 : decode cX7_readAll 0 = .ok (.aload_n 0, 1) := by decide +kernel
theorem dX7_readAll_1 : decode cX7_readAll 1 = .ok (.iload_n 1, 1) := by decide +kernel
theorem dX7_readAll_2 : decode cX7_readAll 2 = .ok (.aload_n 0, 1) := by decide +kernel
theorem dX7_readAll_3 : decode cX7_readAll 3 = .ok (.getfield 15, 3) := by decide +kernel
theorem dX7_readAll_6 : decode cX7_readAll 6 = .ok (.invokestatic 51, 3) := by decide +kernel
theorem dX7_readAll_9 : decode cX7_readAll 9 = .ok (.putfield 19, 3) := by decide +kernel
theorem dX7_readAll_12 : decode cX7_readAll 12 = .ok (.aload_n 0, 1) := by decide +kernel
theorem dX7_readAll_13 : decode cX7_readAll 13 = .ok (.iconst 0, 1) := by decide +kernel
theorem dX7_readAll_14 : decode cX7_readAll 14 = .ok (.putfield 15, 3) := by decide +kernel
theorem dX7_readAll_17 : decode cX7_readAll 17 = .ok (.aload_n 0, 1) := by decide +kernel
theorem dX7_readAll_18 : decode cX7_readAll 18 = .ok (.getfield 25, 3) := by decide +kernel
theorem dX7_readAll_21 : decode cX7_readAll 21 = .ok (.invokevirtual 57, 3) := by decide +kernel
theorem dX7_readAll_24 : decode cX7_readAll 24 = .ok (.aload_n 0, 1) := by decide +kernel
theorem dX7_readAll_25 : decode cX7_readAll 25 = .ok (.iconst 0, 1) := by decide +kernel
theorem dX7_readAll_26 : decode cX7_readAll 26 = .ok (.putfield 29, 3) := by decide +kernel
theorem dX7_readAll_29 : decode cX7_readAll 29 = .ok (.aload_n 0, 1) := by decide +kernel
theorem dX7_readAll_30 : decode cX7_readAll 30 = .ok (.iconst 0, 1) := by decide +kernel
theorem dX7_readAll_31 : decode cX7_readAll 31 = .ok (.putfield 36, 3) := by decide +kernel
theorem dX7_readAll_34 : decode cX7_readAll 34 = .ok (.aload_n 0, 1) := by decide +kernel
theorem dX7_readAll_35 : decode cX7_readAll 35 = .ok (.iconst 0, 1) := by decide +kernel
theorem dX7_readAll_36 : decode cX7_readAll 36 = .ok (.putfield 45, 3) := by decide +kernel
theorem dX7_readAll_39 : decode cX7_readAll 39 = .ok (.aload_n 0, 1) := by decide +kernel
theorem dX7_readAll_40 : decode cX7_readAll 40 = .ok (.iconst (-1), 1) := by decide +kernel
theorem dX7_readAll_41 : decode cX7_readAll 41 = .ok (.putfield 48, 3) := by decide +kernel
theorem dX7_readAll_44 : decode cX7_readAll 44 = .ok (.aload_n 0, 1) := by decide +kernel
theorem dX7_readAll_45 : decode cX7_readAll 45 = .ok (.invokevirtual 60, 3) := by decide +kernel
theorem dX7_readAll_48 : decode cX7_readAll 48 = .ok (.aload_n 0, 1) := by decide +kernel
theorem dX7_readAll_49 : decode cX7_readAll 49 = .ok (.invokevirtual 63, 3) := by decide +kernel
theorem dX7_readAll_52 : decode cX7_readAll 52 = .ok (.ifCond .ne 5, 3) := by decide +kernel
theorem dX7_readAll_55 : decode cX7_readAll 55 = .ok (.iconst 0, 1) := by decide +kernel
theorem dX7_readAll_56 : decode cX7_readAll 56 = .ok (.ireturn, 1) := by decide +kernel
theorem dX7_readAll_57 : decode cX7_readAll 57 = .ok (.iconst 0, 1) := by decide +kernel
theorem dX7_readAll_58 : decode cX7_readAll 58 = .ok (.istore_n 2, 1) := by decide +kernel
theorem dX7_readAll_59 : decode cX7_readAll 59 = .ok (.iload_n 2, 1) := by decide +kernel
theorem dX7_readAll_60 : decode cX7_readAll 60 = .ok (.aload_n 0, 1) := by decide +kernel
theorem dX7_readAll_61 : decode cX7_readAll 61 = .ok (.getfield 19, 3) := by decide +kernel
theorem dX7_readAll_64 : decode cX7_readAll 64 = .ok (.if_icmp .ge 48, 3) := by decide +kernel
theorem dX7_readAll_67 : decode cX7_readAll 67 = .ok (.aload_n 0, 1) := by decide +kernel
theorem dX7_readAll_68 : decode cX7_readAll 68 = .ok (.getfield 39, 3) := by decide +kernel
theorem dX7_readAll_71 : decode cX7_readAll 71 = .ok (.iconst 1, 1) := by decide +kernel
theorem dX7_readAll_72 : decode cX7_readAll 72 = .ok (.if_icmp .eq 40, 3) := by decide +kernel
theorem dX7_readAll_75 : decode cX7_readAll 75 = .ok (.aload_n 0, 1) := by decide +kernel
theorem dX7_readAll_76 : decode cX7_readAll 76 = .ok (.invokevirtual 67, 3) := by decide +kernel
theorem dX7_readAll_79 : decode cX7_readAll 79 = .ok (.ifCond .eq 12, 3) := by decide +kernel
theorem dX7_readAll_82 : decode cX7_readAll 82 = .ok (.aload_n 0, 1) := by decide +kernel
theorem dX7_readAll_83 : decode cX7_readAll 83 = .ok (.bipush 59, 2) := by decide +kernel
theorem dX7_readAll_85 : decode cX7_readAll 85 = .ok (.invokevirtual 70, 3) := by decide +kernel
theorem dX7_readAll_88 : decode cX7_readAll 88 = .ok (.ifCond .ne 5, 3) := by decide +kernel
theorem dX7_readAll_91 : decode cX7_readAll 91 = .ok (.iconst 0, 1) := by decide +kernel
theorem dX7_readAll_92 : decode cX7_readAll 92 = .ok (.ireturn, 1) := by decide +kernel
theorem dX7_readAll_93 : decode cX7_readAll 93 = .ok (.aload_n 0, 1) := by decide +kernel
theorem dX7_readAll_94 : decode cX7_readAll 94 = .ok (.getfield 25, 3) := by decide +kernel
theorem dX7_readAll_97 : decode cX7_readAll 97 = .ok (.dup, 1) := by decide +kernel
theorem dX7_readAll_98 : decode cX7_readAll 98 = .ok (.getfield 74, 3) := by decide +kernel
theorem dX7_readAll_101 : decode cX7_readAll 101 = .ok (.iconst 1, 1) := by decide +kernel
theorem dX7_readAll_102 : decode cX7_readAll 102 = .ok (.iadd, 1) := by decide +kernel
theorem dX7_readAll_103 : decode cX7_readAll 103 = .ok (.putfield 74, 3) := by decide +kernel
theorem dX7_readAll_106 : decode cX7_readAll 106 = .ok (.iinc 2 1, 3) := by decide +kernel
theorem dX7_readAll_109 : decode cX7_readAll 109 = .ok (.goto (-50), 3) := by decide +kernel
theorem dX7_readAll_112 : decode cX7_readAll 112 = .ok (.iconst 1, 1) := by decide +kernel
theorem dX7_readAll_113 : decode cX7_readAll 113 = .ok (.ireturn, 1) := by decide +kernel
def hX7_readAll_59 (f : Nat) (Φ : Int → aj_M → Prop) : Nat → List Nat → Int → aj_M → Prop
  | 0, _, _, _ => False
  | k + 1, q0, v2, m => rI v2 ∧ rI (m q0 2) ∧ ((m q0 2) ≤ v2 → Φ 1 m) ∧ (¬ ((m q0 2) ≤ v2) → rI (m q0 7) ∧ ((m q0 7) = 1 → Φ 1 m) ∧ (¬ ((m q0 7) = 1) → wX7_readLine f (fun z1 m1 => rI z1 ∧ (z1 = 0 → Φ 0 m1) ∧ (¬ (z1 = 0) → wX7_take f (fun z2 m2 => rI z2 ∧ (¬ z2 = 0 → ∀ m3, m3 = aj_u m2 (3 :: q0) 5 ((m2 (3 :: q0) 5) + 1) → hX7_readAll_59 f Φ k q0 (v2 + 1) m3) ∧ (z2 = 0 → Φ 0 m2)) q0 59 m1)) q0 m))
set_option maxHeartbeats 4000000 in
set_option maxRecDepth 100000 in
theorem tX7_readAll_59 {X : aj_T} {n f : Nat} {Φ : Int → aj_M → Prop} (C : aj_Cx X cX7_readAll RX7 3 (n + 79)) (K : aj_Rt X (some .boolean) (fun r m => ∃ z, r = some (vI z) ∧ Φ z m)) : ∀ (k : Nat) (q0 : List Nat) (v2 : Int) (m : aj_M) (hq0 : (.inl (7, q0) : aj_R) ∈ aj_pls), hX7_readAll_59 f Φ k q0 v2 m → aj_J X 59 [some (vO 7 q0), none, some (vI v2)] [] m := by
  intro k
  induction k with
  | zero =>
    intro q0 v2 m _ h
    exact h.elim
  | succ k ih =>
    intro q0 v2 m hq0 h
    unfold hX7_readAll_59 at h
    refine aj_iload_n C dX7_readAll_59 rfl ?_
    refine aj_aload_n C dX7_readAll_60 rfl ?_
    refine aj_getI C flX7_19 hq0 (by decide) dX7_readAll_61 rfl ?_
    obtain ⟨r0, r1, h1, h2⟩ := h
    refine aj_icmp_ge (tgt := 112) C dX7_readAll_64 (by decide) r0 r1 (fun e => ?_) (fun e => ?_)
    · have h := h1 e
      refine aj_iconst C dX7_readAll_112 ?_
      exact aj_zret C K (Or.inr rfl) dX7_readAll_113 ⟨_, rfl, h⟩
    · have h := h2 e
      refine aj_aload_n C dX7_readAll_67 rfl ?_
      refine aj_getI C flX7_39 hq0 (by decide) dX7_readAll_68 rfl ?_
      refine aj_iconst C dX7_readAll_71 ?_
      obtain ⟨r0, h1, h2⟩ := h
      refine aj_icmp_eq (tgt := 112) C dX7_readAll_72 (by decide) r0 (by decide) (fun e => ?_) (fun e => ?_)
      · have h := h1 e
        refine aj_iconst C dX7_readAll_112 ?_
        exact aj_zret C K (Or.inr rfl) dX7_readAll_113 ⟨_, rfl, h⟩
      · have h := h2 e
        refine aj_aload_n C dX7_readAll_75 rfl ?_
        refine aj_callV (rest := []) C mvX7_67 (sX7_readLine hq0 h) hq0 (aj_np 0 (by decide +kernel) rfl) (Nat.le_of_ble_eq_true rfl) rfl dX7_readAll_76 (fun r m1 h => ?_)
        obtain ⟨z1, rfl, h⟩ := h
        obtain ⟨r0, h1, h2⟩ := h
        refine aj_if_eq (tgt := 91) C dX7_readAll_79 (by decide) r0 (fun e => ?_) (fun e => ?_)
        · have h := h1 e
          refine aj_iconst C dX7_readAll_91 ?_
          exact aj_zret C K (Or.inl rfl) dX7_readAll_92 ⟨_, rfl, h⟩
        · have h := h2 e
          refine aj_aload_n C dX7_readAll_82 rfl ?_
          refine aj_bipush C dX7_readAll_83 (by decide) ?_
          refine aj_callV (rest := []) C mvX7_70 (sX7_take hq0 h) hq0 (aj_np 1 (by decide +kernel) rfl) (Nat.le_of_ble_eq_true rfl) rfl dX7_readAll_85 (fun r m2 h => ?_)
          obtain ⟨z2, rfl, h⟩ := h
          obtain ⟨r0, h1, h2⟩ := h
          refine aj_if_ne (tgt := 93) C dX7_readAll_88 (by decide) r0 (fun e => ?_) (fun e => ?_)
          · have h := h1 e
            refine aj_aload_n C dX7_readAll_93 rfl ?_
            refine aj_getO (x := 6) (y := 0) C flX7_25 hq0 rfl dX7_readAll_94 ?_
            refine aj_dup C aj_nR dX7_readAll_97 ?_
            refine aj_getI C flX7_74 (aj_cf (x := 6) (y := 0) (j := 3) hq0 (by decide) rfl) (by decide) dX7_readAll_98 rfl ?_
            refine aj_iconst C dX7_readAll_101 ?_
            refine aj_iadd C dX7_readAll_102 ?_
            refine aj_putI C fpX7_74 (aj_cf (x := 6) (y := 0) (j := 3) hq0 (by decide) rfl) rfl dX7_readAll_103 ?_
            refine aj_nm (fun m3 e1 => ?_)
            have h := h m3 e1
            refine aj_iinc (lv' := [some (vO 7 q0), none, some (vI (v2 + 1))]) C dX7_readAll_106 rfl (by decide) rfl ?_
            refine aj_goto (tgt := 59) C dX7_readAll_109 (by decide) ?_
            exact ih q0 (v2 + 1) _ hq0 h
          · have h := h2 e
            refine aj_iconst C dX7_readAll_91 ?_
            exact aj_zret C K (Or.inl rfl) dX7_readAll_92 ⟨_, rfl, h⟩
def wX7_readAll (f : Nat) (Φ : Int → aj_M → Prop) (q0 : List Nat) (v1 : Int) (m : aj_M) : Prop := rI v1 ∧ rI (m q0 1) ∧ ∀ m1, m1 = aj_u m q0 2 (min v1 (m q0 1)) → ∀ m2, m2 = aj_u m1 q0 1 0 → wX6_clear f (fun m3 => ∀ m4, m4 = aj_u m3 q0 4 0 → ∀ m5, m5 = aj_u m4 q0 6 0 → ∀ m6, m6 = aj_u m5 q0 9 0 → ∀ m7, m7 = aj_u m6 q0 10 (-1) → wX7_step f (fun m8 => wX7_readHead f (fun z3 m9 => rI z3 ∧ (¬ z3 = 0 → hX7_readAll_59 f Φ f q0 0 m9) ∧ (z3 = 0 → Φ 0 m9)) q0 m8) q0 m7) (3 :: q0) m2
set_option maxHeartbeats 4000000 in
set_option maxRecDepth 100000 in
theorem sX7_readAll {n f : Nat} {Φ : Int → aj_M → Prop} {q0 : List Nat} {v1 : Int} {m : aj_M} (hq0 : (.inl (7, q0) : aj_R) ∈ aj_pls) (h : wX7_readAll f Φ q0 v1 m) : aj_Ct (n + 79) yX7_readAll cX7_readAll 3 (some .boolean) [vO 7 q0, vI v1] m (fun r m => ∃ z, r = some (vI z) ∧ Φ z m) := by
  refine aj_met (lv := [some (vO 7 q0), some (vI v1), none]) (by decide +kernel) rfl (Nat.le_of_ble_eq_true rfl) (fun X C K => ?_)
  unfold wX7_readAll at h
  refine aj_aload_n C dX7_readAll_0 rfl ?_
  refine aj_iload_n C dX7_readAll_1 rfl ?_
  refine aj_aload_n C dX7_readAll_2 rfl ?_
  refine aj_getI C flX7_15 hq0 (by decide) dX7_readAll_3 rfl ?_
  obtain ⟨r0, r1, h⟩ := h
  refine aj_mmin C msX7_51 (Nat.le_of_ble_eq_true rfl) r0 r1 dX7_readAll_6 ?_
  refine aj_putI C fpX7_19 hq0 rfl dX7_readAll_9 ?_
  refine aj_nm (fun m1 e1 => ?_)
  have h := h m1 e1
  refine aj_aload_n C dX7_readAll_12 rfl ?_
  refine aj_iconst C dX7_readAll_13 ?_
  refine aj_putI C fpX7_15 hq0 rfl dX7_readAll_14 ?_
  refine aj_nm (fun m2 e1 => ?_)
  have h := h m2 e1
  refine aj_aload_n C dX7_readAll_17 rfl ?_
  refine aj_getO (x := 6) (y := 0) C flX7_25 hq0 rfl dX7_readAll_18 ?_
  refine aj_callV (rest := []) C mvX7_57 (sX6_clear (aj_cf (x := 6) (y := 0) (j := 3) hq0 (by decide) rfl) h) (aj_cf (x := 6) (y := 0) (j := 3) hq0 (by decide) rfl) (aj_np 0 (by decide +kernel) rfl) (Nat.le_of_ble_eq_true rfl) rfl dX7_readAll_21 (fun r m3 h => ?_)
  obtain ⟨rfl, h⟩ := h
  refine aj_aload_n C dX7_readAll_24 rfl ?_
  refine aj_iconst C dX7_readAll_25 ?_
  refine aj_putZ C fpX7_29 hq0 (Or.inl rfl) rfl dX7_readAll_26 ?_
  refine aj_nm (fun m4 e1 => ?_)
  have h := h m4 e1
  refine aj_aload_n C dX7_readAll_29 rfl ?_
  refine aj_iconst C dX7_readAll_30 ?_
  refine aj_putI C fpX7_36 hq0 rfl dX7_readAll_31 ?_
  refine aj_nm (fun m5 e1 => ?_)
  have h := h m5 e1
  refine aj_aload_n C dX7_readAll_34 rfl ?_
  refine aj_iconst C dX7_readAll_35 ?_
  refine aj_putI C fpX7_45 hq0 rfl dX7_readAll_36 ?_
  refine aj_nm (fun m6 e1 => ?_)
  have h := h m6 e1
  refine aj_aload_n C dX7_readAll_39 rfl ?_
  refine aj_iconst C dX7_readAll_40 ?_
  refine aj_putI C fpX7_48 hq0 rfl dX7_readAll_41 ?_
  refine aj_nm (fun m7 e1 => ?_)
  have h := h m7 e1
  refine aj_aload_n C dX7_readAll_44 rfl ?_
  refine aj_callV (rest := []) C mvX7_60 (sX7_step hq0 h) hq0 (aj_np 0 (by decide +kernel) rfl) (Nat.le_of_ble_eq_true rfl) rfl dX7_readAll_45 (fun r m8 h => ?_)
  obtain ⟨rfl, h⟩ := h
  refine aj_aload_n C dX7_readAll_48 rfl ?_
  refine aj_callV (rest := []) C mvX7_63 (sX7_readHead hq0 h) hq0 (aj_np 0 (by decide +kernel) rfl) (Nat.le_of_ble_eq_true rfl) rfl dX7_readAll_49 (fun r m9 h => ?_)
  obtain ⟨z3, rfl, h⟩ := h
  obtain ⟨r0, h1, h2⟩ := h
  refine aj_if_ne (tgt := 57) C dX7_readAll_52 (by decide) r0 (fun e => ?_) (fun e => ?_)
  · have h := h1 e
    refine aj_iconst C dX7_readAll_57 ?_
    refine aj_istore_n (lv' := [some (vO 7 q0), some (vI v1), some (vI 0)]) C dX7_readAll_58 (by decide) rfl ?_
    refine aj_wk (lv' := [some (vO 7 q0), none, some (vI 0)]) (⟨rfl, ⟨rfl, trivial⟩⟩) ?_
    exact tX7_readAll_59 C K f q0 0 _ hq0 h
  · have h := h2 e
    refine aj_iconst C dX7_readAll_55 ?_
    exact aj_zret C K (Or.inl rfl) dX7_readAll_56 ⟨_, rfl, h⟩
theorem dX8_leastAt_0 : decode cX8_leastAt 0 = .ok (.iconst (-1), 1) := by decide +kernel
theorem dX8_leastAt_1 : decode cX8_leastAt 1 = .ok (.istore_n 3, 1) := by decide +kernel
theorem dX8_leastAt_2 : decode cX8_leastAt 2 = .ok (.aload_n 0, 1) := by decide +kernel
theorem dX8_leastAt_3 : decode cX8_leastAt 3 = .ok (.getfield 26, 3) := by decide +kernel
theorem dX8_leastAt_6 : decode cX8_leastAt 6 = .ok (.getfield 79, 3) := by decide +kernel
theorem dX8_leastAt_9 : decode cX8_leastAt 9 = .ok (.iload_n 1, 1) := by decide +kernel
theorem dX8_leastAt_10 : decode cX8_leastAt 10 = .ok (.iaload, 1) := by decide +kernel
theorem dX8_leastAt_11 : decode cX8_leastAt 11 = .ok (.istore 4, 2) := by decide +kernel
theorem dX8_leastAt_13 : decode cX8_leastAt 13 = .ok (.iload 4, 2) := by decide +kernel
theorem dX8_leastAt_15 : decode cX8_leastAt 15 = .ok (.aload_n 0, 1) := by decide +kernel
theorem dX8_leastAt_16 : decode cX8_leastAt 16 = .ok (.getfield 26, 3) := by decide +kernel
theorem dX8_leastAt_19 : decode cX8_leastAt 19 = .ok (.getfield 79, 3) := by decide +kernel
theorem dX8_leastAt_22 : decode cX8_leastAt 22 = .ok (.iload_n 1, 1) := by decide +kernel
theorem dX8_leastAt_23 : decode cX8_leastAt 23 = .ok (.iconst 1, 1) := by decide +kernel
theorem dX8_leastAt_24 : decode cX8_leastAt 24 = .ok (.iadd, 1) := by decide +kernel
theorem dX8_leastAt_25 : decode cX8_leastAt 25 = .ok (.iaload, 1) := by decide +kernel
theorem dX8_leastAt_26 : decode cX8_leastAt 26 = .ok (.if_icmp .ge 56, 3) := by decide +kernel
theorem dX8_leastAt_29 : decode cX8_leastAt 29 = .ok (.aload_n 0, 1) := by decide +kernel
theorem dX8_leastAt_30 : decode cX8_leastAt 30 = .ok (.getfield 26, 3) := by decide +kernel
theorem dX8_leastAt_33 : decode cX8_leastAt 33 = .ok (.aload_n 0, 1) := by decide +kernel
theorem dX8_leastAt_34 : decode cX8_leastAt 34 = .ok (.getfield 26, 3) := by decide +kernel
theorem dX8_leastAt_37 : decode cX8_leastAt 37 = .ok (.getfield 82, 3) := by decide +kernel
theorem dX8_leastAt_40 : decode cX8_leastAt 40 = .ok (.iload 4, 2) := by decide +kernel
theorem dX8_leastAt_42 : decode cX8_leastAt 42 = .ok (.iaload, 1) := by decide +kernel
theorem dX8_leastAt_43 : decode cX8_leastAt 43 = .ok (.iload_n 1, 1) := by decide +kernel
theorem dX8_leastAt_44 : decode cX8_leastAt 44 = .ok (.invokevirtual 85, 3) := by decide +kernel
theorem dX8_leastAt_47 : decode cX8_leastAt 47 = .ok (.istore 5, 2) := by decide +kernel
theorem dX8_leastAt_49 : decode cX8_leastAt 49 = .ok (.aload_n 0, 1) := by decide +kernel
theorem dX8_leastAt_50 : decode cX8_leastAt 50 = .ok (.getfield 26, 3) := by decide +kernel
theorem dX8_leastAt_53 : decode cX8_leastAt 53 = .ok (.getfield 88, 3) := by decide +kernel
theorem dX8_leastAt_56 : decode cX8_leastAt 56 = .ok (.iload 5, 2) := by decide +kernel
theorem dX8_leastAt_58 : decode cX8_leastAt 58 = .ok (.iaload, 1) := by decide +kernel
theorem dX8_leastAt_59 : decode cX8_leastAt 59 = .ok (.iload_n 2, 1) := by decide +kernel
theorem dX8_leastAt_60 : decode cX8_leastAt 60 = .ok (.if_icmp .ne 16, 3) := by decide +kernel
theorem dX8_leastAt_63 : decode cX8_leastAt 63 = .ok (.iload_n 3, 1) := by decide +kernel
theorem dX8_leastAt_64 : decode cX8_leastAt 64 = .ok (.ifCond .lt 9, 3) := by decide +kernel
theorem dX8_leastAt_67 : decode cX8_leastAt 67 = .ok (.iload 5, 2) := by decide +kernel
theorem dX8_leastAt_69 : decode cX8_leastAt 69 = .ok (.iload_n 3, 1) := by decide +kernel
theorem dX8_leastAt_70 : decode cX8_leastAt 70 = .ok (.if_icmp .ge 6, 3) := by decide +kernel
theorem dX8_leastAt_73 : decode cX8_leastAt 73 = .ok (.iload 5, 2) := by decide +kernel
theorem dX8_leastAt_75 : decode cX8_leastAt 75 = .ok (.istore_n 3, 1) := by decide +kernel
theorem dX8_leastAt_76 : decode cX8_leastAt 76 = .ok (.iinc 4 1, 3) := by decide +kernel
theorem dX8_leastAt_79 : decode cX8_leastAt 79 = .ok (.goto (-66), 3) := by decide +kernel
theorem dX8_leastAt_82 : decode cX8_leastAt 82 = .ok (.iload_n 3, 1) := by decide +kernel
theorem dX8_leastAt_83 : decode cX8_leastAt 83 = .ok (.ireturn, 1) := by decide +kernel
def hX8_leastAt_13 (f : Nat) (Φ : Int → aj_M → Prop) : Nat → List Nat → Int → Int → Int → Int → aj_M → Prop
  | 0, _, _, _, _, _, _ => False
  | k + 1, q0, v1, v2, v3, v4, m => (0 ≤ (v1 + 1) ∧ (v1 + 1) < 62) ∧ rI v4 ∧ rI (m (8 :: (3 :: q0)) (v1 + 1).toNat) ∧ ((m (8 :: (3 :: q0)) (v1 + 1).toNat) ≤ v4 → Φ v3 m) ∧ (¬ ((m (8 :: (3 :: q0)) (v1 + 1).toNat) ≤ v4) → (0 ≤ v4 ∧ v4 < 288) ∧ wX5_otherEnd f (fun z1 m1 => (0 ≤ z1 ∧ z1 < 60) ∧ rI (m1 (10 :: (3 :: q0)) z1.toNat) ∧ rI v2 ∧ (¬ (m1 (10 :: (3 :: q0)) z1.toNat) = v2 → hX8_leastAt_13 f Φ k q0 v1 v2 v3 (v4 + 1) m1) ∧ ((m1 (10 :: (3 :: q0)) z1.toNat) = v2 → rI v3 ∧ (v3 < 0 → hX8_leastAt_13 f Φ k q0 v1 v2 z1 (v4 + 1) m1) ∧ (¬ (v3 < 0) → rI z1 ∧ rI v3 ∧ (v3 ≤ z1 → hX8_leastAt_13 f Φ k q0 v1 v2 v3 (v4 + 1) m1) ∧ (¬ (v3 ≤ z1) → hX8_leastAt_13 f Φ k q0 v1 v2 z1 (v4 + 1) m1)))) (3 :: q0) (m (9 :: (3 :: q0)) v4.toNat) v1 m)
set_option maxHeartbeats 4000000 in
set_option maxRecDepth 100000 in
theorem tX8_leastAt_13 {X : aj_T} {n f : Nat} {Φ : Int → aj_M → Prop} (C : aj_Cx X cX8_leastAt RX8 6 (n + 1)) (K : aj_Rt X (some .int) (fun r m => ∃ z, r = some (vI z) ∧ Φ z m)) : ∀ (k : Nat) (q0 : List Nat) (v1 : Int) (v2 : Int) (v3 : Int) (v4 : Int) (m : aj_M) (hq0 : (.inl (8, q0) : aj_R) ∈ aj_pls), hX8_leastAt_13 f Φ k q0 v1 v2 v3 v4 m → aj_J X 13 [some (vO 8 q0), some (vI v1), some (vI v2), some (vI v3), some (vI v4), none] [] m := by
  intro k
  induction k with
  | zero =>
    intro q0 v1 v2 v3 v4 m _ h
    exact h.elim
  | succ k ih =>
    intro q0 v1 v2 v3 v4 m hq0 h
    unfold hX8_leastAt_13 at h
    refine aj_iload C dX8_leastAt_13 rfl ?_
    refine aj_aload_n C dX8_leastAt_15 rfl ?_
    refine aj_getO (x := 5) (y := 0) C flX8_26 hq0 rfl dX8_leastAt_16 ?_
    refine aj_getA (x := 0) (y := 62) C flX8_79 (aj_cf (x := 5) (y := 0) (j := 3) hq0 (by decide) rfl) rfl dX8_leastAt_19 ?_
    refine aj_iload_n C dX8_leastAt_22 rfl ?_
    refine aj_iconst C dX8_leastAt_23 ?_
    refine aj_iadd C dX8_leastAt_24 ?_
    obtain ⟨r0, h⟩ := h
    refine aj_iald C (aj_ca (e := 0) (n := 62) (j := 8) (aj_cf (x := 5) (y := 0) (j := 3) hq0 (by decide) rfl) (by decide) rfl) (by decide) r0 dX8_leastAt_25 rfl ?_
    obtain ⟨r0, r1, h1, h2⟩ := h
    refine aj_icmp_ge (tgt := 82) C dX8_leastAt_26 (by decide) r0 r1 (fun e => ?_) (fun e => ?_)
    · have h := h1 e
      refine aj_iload_n C dX8_leastAt_82 rfl ?_
      exact aj_iret C K dX8_leastAt_83 ⟨_, rfl, h⟩
    · have h := h2 e
      refine aj_aload_n C dX8_leastAt_29 rfl ?_
      refine aj_getO (x := 5) (y := 0) C flX8_26 hq0 rfl dX8_leastAt_30 ?_
      refine aj_aload_n C dX8_leastAt_33 rfl ?_
      refine aj_getO (x := 5) (y := 0) C flX8_26 hq0 rfl dX8_leastAt_34 ?_
      refine aj_getA (x := 0) (y := 288) C flX8_82 (aj_cf (x := 5) (y := 0) (j := 3) hq0 (by decide) rfl) rfl dX8_leastAt_37 ?_
      refine aj_iload C dX8_leastAt_40 rfl ?_
      obtain ⟨r0, h⟩ := h
      refine aj_iald C (aj_ca (e := 0) (n := 288) (j := 9) (aj_cf (x := 5) (y := 0) (j := 3) hq0 (by decide) rfl) (by decide) rfl) (by decide) r0 dX8_leastAt_42 rfl ?_
      refine aj_iload_n C dX8_leastAt_43 rfl ?_
      refine aj_callV (rest := []) C mvX8_85 (sX5_otherEnd (aj_cf (x := 5) (y := 0) (j := 3) hq0 (by decide) rfl) h) (aj_cf (x := 5) (y := 0) (j := 3) hq0 (by decide) rfl) (aj_np 2 (by decide +kernel) rfl) (Nat.le_of_ble_eq_true rfl) rfl dX8_leastAt_44 (fun r m1 h => ?_)
      obtain ⟨z1, rfl, h⟩ := h
      refine aj_istore (lv' := [some (vO 8 q0), some (vI v1), some (vI v2), some (vI v3), some (vI v4), some (vI z1)]) C dX8_leastAt_47 (by decide) rfl ?_
      refine aj_aload_n C dX8_leastAt_49 rfl ?_
      refine aj_getO (x := 5) (y := 0) C flX8_26 hq0 rfl dX8_leastAt_50 ?_
      refine aj_getA (x := 0) (y := 60) C flX8_88 (aj_cf (x := 5) (y := 0) (j := 3) hq0 (by decide) rfl) rfl dX8_leastAt_53 ?_
      refine aj_iload C dX8_leastAt_56 rfl ?_
      obtain ⟨r0, h⟩ := h
      refine aj_iald C (aj_ca (e := 0) (n := 60) (j := 10) (aj_cf (x := 5) (y := 0) (j := 3) hq0 (by decide) rfl) (by decide) rfl) (by decide) r0 dX8_leastAt_58 rfl ?_
      refine aj_iload_n C dX8_leastAt_59 rfl ?_
      obtain ⟨r0, r1, h1, h2⟩ := h
      refine aj_icmp_ne (tgt := 76) C dX8_leastAt_60 (by decide) r0 r1 (fun e => ?_) (fun e => ?_)
      · have h := h1 e
        refine aj_iinc (lv' := [some (vO 8 q0), some (vI v1), some (vI v2), some (vI v3), some (vI (v4 + 1)), some (vI z1)]) C dX8_leastAt_76 rfl (by decide) rfl ?_
        refine aj_goto (tgt := 13) C dX8_leastAt_79 (by decide) ?_
        refine aj_wk (lv' := [some (vO 8 q0), some (vI v1), some (vI v2), some (vI v3), some (vI (v4 + 1)), none]) (⟨rfl, ⟨rfl, ⟨rfl, ⟨rfl, ⟨rfl, trivial⟩⟩⟩⟩⟩) ?_
        exact ih q0 v1 v2 v3 (v4 + 1) _ hq0 h
      · have h := h2 e
        refine aj_iload_n C dX8_leastAt_63 rfl ?_
        obtain ⟨r0, h1, h2⟩ := h
        refine aj_if_lt (tgt := 73) C dX8_leastAt_64 (by decide) r0 (fun e => ?_) (fun e => ?_)
        · have h := h1 e
          refine aj_iload C dX8_leastAt_73 rfl ?_
          refine aj_istore_n (lv' := [some (vO 8 q0), some (vI v1), some (vI v2), some (vI z1), some (vI v4), some (vI z1)]) C dX8_leastAt_75 (by decide) rfl ?_
          refine aj_iinc (lv' := [some (vO 8 q0), some (vI v1), some (vI v2), some (vI z1), some (vI (v4 + 1)), some (vI z1)]) C dX8_leastAt_76 rfl (by decide) rfl ?_
          refine aj_goto (tgt := 13) C dX8_leastAt_79 (by decide) ?_
          refine aj_wk (lv' := [some (vO 8 q0), some (vI v1), some (vI v2), some (vI z1), some (vI (v4 + 1)), none]) (⟨rfl, ⟨rfl, ⟨rfl, ⟨rfl, ⟨rfl, trivial⟩⟩⟩⟩⟩) ?_
          exact ih q0 v1 v2 z1 (v4 + 1) _ hq0 h
        · have h := h2 e
          refine aj_iload C dX8_leastAt_67 rfl ?_
          refine aj_iload_n C dX8_leastAt_69 rfl ?_
          obtain ⟨r0, r1, h1, h2⟩ := h
          refine aj_icmp_ge (tgt := 76) C dX8_leastAt_70 (by decide) r0 r1 (fun e => ?_) (fun e => ?_)
          · have h := h1 e
            refine aj_iinc (lv' := [some (vO 8 q0), some (vI v1), some (vI v2), some (vI v3), some (vI (v4 + 1)), some (vI z1)]) C dX8_leastAt_76 rfl (by decide) rfl ?_
            refine aj_goto (tgt := 13) C dX8_leastAt_79 (by decide) ?_
            refine aj_wk (lv' := [some (vO 8 q0), some (vI v1), some (vI v2), some (vI v3), some (vI (v4 + 1)), none]) (⟨rfl, ⟨rfl, ⟨rfl, ⟨rfl, ⟨rfl, trivial⟩⟩⟩⟩⟩) ?_
            exact ih q0 v1 v2 v3 (v4 + 1) _ hq0 h
          · have h := h2 e
            refine aj_iload C dX8_leastAt_73 rfl ?_
            refine aj_istore_n (lv' := [some (vO 8 q0), some (vI v1), some (vI v2), some (vI z1), some (vI v4), some (vI z1)]) C dX8_leastAt_75 (by decide) rfl ?_
            refine aj_iinc (lv' := [some (vO 8 q0), some (vI v1), some (vI v2), some (vI z1), some (vI (v4 + 1)), some (vI z1)]) C dX8_leastAt_76 rfl (by decide) rfl ?_
            refine aj_goto (tgt := 13) C dX8_leastAt_79 (by decide) ?_
            refine aj_wk (lv' := [some (vO 8 q0), some (vI v1), some (vI v2), some (vI z1), some (vI (v4 + 1)), none]) (⟨rfl, ⟨rfl, ⟨rfl, ⟨rfl, ⟨rfl, trivial⟩⟩⟩⟩⟩) ?_
            exact ih q0 v1 v2 z1 (v4 + 1) _ hq0 h
def wX8_leastAt (f : Nat) (Φ : Int → aj_M → Prop) (q0 : List Nat) (v1 : Int) (v2 : Int) (m : aj_M) : Prop := (0 ≤ v1 ∧ v1 < 62) ∧ hX8_leastAt_13 f Φ f q0 v1 v2 (-1) (m (8 :: (3 :: q0)) v1.toNat) m
set_option maxHeartbeats 4000000 in
set_option maxRecDepth 100000 in
theorem sX8_leastAt {n f : Nat} {Φ : Int → aj_M → Prop} {q0 : List Nat} {v1 : Int} {v2 : Int} {m : aj_M} (hq0 : (.inl (8, q0) : aj_R) ∈ aj_pls) (h : wX8_leastAt f Φ q0 v1 v2 m) : aj_Ct (n + 1) yX8_leastAt cX8_leastAt 6 (some .int) [vO 8 q0, vI v1, vI v2] m (fun r m => ∃ z, r = some (vI z) ∧ Φ z m) := by
  refine aj_met (lv := [some (vO 8 q0), some (vI v1), some (vI v2), none, none, none]) (by decide +kernel) rfl (Nat.le_of_ble_eq_true rfl) (fun X C K => ?_)
  unfold wX8_leastAt at h
  refine aj_iconst C dX8_leastAt_0 ?_
  refine aj_istore_n (lv' := [some (vO 8 q0), some (vI v1), some (vI v2), some (vI (-1)), none, none]) C dX8_leastAt_1 (by decide) rfl ?_
  refine aj_aload_n C dX8_leastAt_2 rfl ?_
  refine aj_getO (x := 5) (y := 0) C flX8_26 hq0 rfl dX8_leastAt_3 ?_
  refine aj_getA (x := 0) (y := 62) C flX8_79 (aj_cf (x := 5) (y := 0) (j := 3) hq0 (by decide) rfl) rfl dX8_leastAt_6 ?_
  refine aj_iload_n C dX8_leastAt_9 rfl ?_
  obtain ⟨r0, h⟩ := h
  refine aj_iald C (aj_ca (e := 0) (n := 62) (j := 8) (aj_cf (x := 5) (y := 0) (j := 3) hq0 (by decide) rfl) (by decide) rfl) (by decide) r0 dX8_leastAt_10 rfl ?_
  refine aj_istore (lv' := [some (vO 8 q0), some (vI v1), some (vI v2), some (vI (-1)), some (vI (m (8 :: (3 :: q0)) v1.toNat)), none]) C dX8_leastAt_11 (by decide) rfl ?_
  exact tX8_leastAt_13 C K f q0 v1 v2 (-1) (m (8 :: (3 :: q0)) v1.toNat) _ hq0 h
theorem dX8_findRest_0 : decode cX8_findRest 0 = .ok (.iconst 1, 1) := by decide +kernel
theorem dX8_findRest_1 : decode cX8_findRest 1 = .ok (.istore_n 2, 1) := by decide +kernel
theorem dX8_findRest_2 : decode cX8_findRest 2 = .ok (.iload_n 2, 1) := by decide +kernel
theorem dX8_findRest_3 : decode cX8_findRest 3 = .ok (.aload_n 0, 1) := by decide +kernel
theorem dX8_findRest_4 : decode cX8_findRest 4 = .ok (.getfield 15, 3) := by decide +kernel
theorem dX8_findRest_7 : decode cX8_findRest 7 = .ok (.iconst 1, 1) := by decide +kernel
theorem dX8_findRest_8 : decode cX8_findRest 8 = .ok (.isub, 1) := by decide +kernel
theorem dX8_findRest_9 : decode cX8_findRest 9 = .ok (.if_icmp .ge 67, 3) := by decide +kernel
theorem dX8_findRest_12 : decode cX8_findRest 12 = .ok (.aload_n 0, 1) := by decide +kernel
theorem dX8_findRest_13 : decode cX8_findRest 13 = .ok (.getfield 26, 3) := by decide +kernel
theorem dX8_findRest_16 : decode cX8_findRest 16 = .ok (.iload_n 1, 1) := by decide +kernel
theorem dX8_findRest_17 : decode cX8_findRest 17 = .ok (.invokevirtual 72, 3) := by decide +kernel
theorem dX8_findRest_20 : decode cX8_findRest 20 = .ok (.pop, 1) := by decide +kernel
theorem dX8_findRest_21 : decode cX8_findRest 21 = .ok (.aload_n 0, 1) := by decide +kernel
theorem dX8_findRest_22 : decode cX8_findRest 22 = .ok (.aload_n 0, 1) := by decide +kernel
theorem dX8_findRest_23 : decode cX8_findRest 23 = .ok (.getfield 19, 3) := by decide +kernel
theorem dX8_findRest_26 : decode cX8_findRest 26 = .ok (.iload_n 2, 1) := by decide +kernel
theorem dX8_findRest_27 : decode cX8_findRest 27 = .ok (.iaload, 1) := by decide +kernel
theorem dX8_findRest_28 : decode cX8_findRest 28 = .ok (.aload_n 0, 1) := by decide +kernel
theorem dX8_findRest_29 : decode cX8_findRest 29 = .ok (.getfield 15, 3) := by decide +kernel
theorem dX8_findRest_32 : decode cX8_findRest 32 = .ok (.iconst 1, 1) := by decide +kernel
theorem dX8_findRest_33 : decode cX8_findRest 33 = .ok (.isub, 1) := by decide +kernel
theorem dX8_findRest_34 : decode cX8_findRest 34 = .ok (.iload_n 2, 1) := by decide +kernel
theorem dX8_findRest_35 : decode cX8_findRest 35 = .ok (.isub, 1) := by decide +kernel
theorem dX8_findRest_36 : decode cX8_findRest 36 = .ok (.invokevirtual 76, 3) := by decide +kernel
theorem dX8_findRest_39 : decode cX8_findRest 39 = .ok (.istore_n 3, 1) := by decide +kernel
theorem dX8_findRest_40 : decode cX8_findRest 40 = .ok (.iload_n 3, 1) := by decide +kernel
theorem dX8_findRest_41 : decode cX8_findRest 41 = .ok (.ifCond .ge 5, 3) := by decide +kernel
theorem dX8_findRest_44 : decode cX8_findRest 44 = .ok (.iconst 0, 1) := by decide +kernel
theorem dX8_findRest_45 : decode cX8_findRest 45 = .ok (.ireturn, 1) := by decide +kernel
theorem dX8_findRest_46 : decode cX8_findRest 46 = .ok (.aload_n 0, 1) := by decide +kernel
theorem dX8_findRest_47 : decode cX8_findRest 47 = .ok (.getfield 19, 3) := by decide +kernel
theorem dX8_findRest_50 : decode cX8_findRest 50 = .ok (.iload_n 2, 1) := by decide +kernel
theorem dX8_findRest_51 : decode cX8_findRest 51 = .ok (.iconst 1, 1) := by decide +kernel
theorem dX8_findRest_52 : decode cX8_findRest 52 = .ok (.iadd, 1) := by decide +kernel
theorem dX8_findRest_53 : decode cX8_findRest 53 = .ok (.iload_n 3, 1) := by decide +kernel
theorem dX8_findRest_54 : decode cX8_findRest 54 = .ok (.iastore, 1) := by decide +kernel
theorem dX8_findRest_55 : decode cX8_findRest 55 = .ok (.aload_n 0, 1) := by decide +kernel
theorem dX8_findRest_56 : decode cX8_findRest 56 = .ok (.getfield 26, 3) := by decide +kernel
theorem dX8_findRest_59 : decode cX8_findRest 59 = .ok (.dup, 1) := by decide +kernel
theorem dX8_findRest_60 : decode cX8_findRest 60 = .ok (.getfield 64, 3) := by decide +kernel
theorem dX8_findRest_63 : decode cX8_findRest 63 = .ok (.lconst 1, 1) := by decide +kernel
theorem dX8_findRest_64 : decode cX8_findRest 64 = .ok (.iload_n 3, 1) := by decide +kernel
theorem dX8_findRest_65 : decode cX8_findRest 65 = .ok (.lshl, 1) := by decide +kernel
theorem dX8_findRest_66 : decode cX8_findRest 66 = .ok (.lor, 1) := by decide +kernel
theorem dX8_findRest_67 : decode cX8_findRest 67 = .ok (.putfield 64, 3) := by decide +kernel
theorem dX8_findRest_70 : decode cX8_findRest 70 = .ok (.iinc 2 1, 3) := by decide +kernel
theorem dX8_findRest_73 : decode cX8_findRest 73 = .ok (.goto (-71), 3) := by decide +kernel
theorem dX8_findRest_76 : decode cX8_findRest 76 = .ok (.iconst 1, 1) := by decide +kernel
theorem dX8_findRest_77 : decode cX8_findRest 77 = .ok (.ireturn, 1) := by decide +kernel
def hX8_findRest_2 (f : Nat) (Φ : Int → aj_M → Prop) : Nat → List Nat → Int → Int → aj_M → Prop
  | 0, _, _, _, _ => False
  | k + 1, q0, v1, v2, m => rI v2 ∧ rI ((m q0 1) - 1) ∧ (((m q0 1) - 1) ≤ v2 → Φ 1 m) ∧ (¬ (((m q0 1) - 1) ≤ v2) → wX5_spread f (fun z1 m1 => (0 ≤ v2 ∧ v2 < 60) ∧ wX8_leastAt f (fun z2 m2 => rI z2 ∧ (0 ≤ z2 → (0 ≤ (v2 + 1) ∧ (v2 + 1) < 60) ∧ ∀ m3, m3 = aj_u m2 (2 :: q0) (v2 + 1).toNat z2 → ∀ m4, m4 = aj_u m3 (3 :: q0) 16 (aj_lorL (m3 (3 :: q0) 16) (aj_lshl 1 z2)) → hX8_findRest_2 f Φ k q0 v1 (v2 + 1) m4) ∧ (¬ (0 ≤ z2) → Φ 0 m2)) q0 (m1 (2 :: q0) v2.toNat) (((m1 q0 1) - 1) - v2) m1) (3 :: q0) v1 m)
set_option maxHeartbeats 4000000 in
set_option maxRecDepth 100000 in
theorem tX8_findRest_2 {X : aj_T} {n f : Nat} {Φ : Int → aj_M → Prop} (C : aj_Cx X cX8_findRest RX8 4 (n + 2)) (K : aj_Rt X (some .boolean) (fun r m => ∃ z, r = some (vI z) ∧ Φ z m)) : ∀ (k : Nat) (q0 : List Nat) (v1 : Int) (v2 : Int) (m : aj_M) (hq0 : (.inl (8, q0) : aj_R) ∈ aj_pls), hX8_findRest_2 f Φ k q0 v1 v2 m → aj_J X 2 [some (vO 8 q0), some (vI v1), some (vI v2), none] [] m := by
  intro k
  induction k with
  | zero =>
    intro q0 v1 v2 m _ h
    exact h.elim
  | succ k ih =>
    intro q0 v1 v2 m hq0 h
    unfold hX8_findRest_2 at h
    refine aj_iload_n C dX8_findRest_2 rfl ?_
    refine aj_aload_n C dX8_findRest_3 rfl ?_
    refine aj_getI C flX8_15 hq0 (by decide) dX8_findRest_4 rfl ?_
    refine aj_iconst C dX8_findRest_7 ?_
    refine aj_isub C dX8_findRest_8 ?_
    obtain ⟨r0, r1, h1, h2⟩ := h
    refine aj_icmp_ge (tgt := 76) C dX8_findRest_9 (by decide) r0 r1 (fun e => ?_) (fun e => ?_)
    · have h := h1 e
      refine aj_iconst C dX8_findRest_76 ?_
      exact aj_zret C K (Or.inr rfl) dX8_findRest_77 ⟨_, rfl, h⟩
    · have h := h2 e
      refine aj_aload_n C dX8_findRest_12 rfl ?_
      refine aj_getO (x := 5) (y := 0) C flX8_26 hq0 rfl dX8_findRest_13 ?_
      refine aj_iload_n C dX8_findRest_16 rfl ?_
      refine aj_callV (rest := []) C mvX8_72 (sX5_spread (aj_cf (x := 5) (y := 0) (j := 3) hq0 (by decide) rfl) h) (aj_cf (x := 5) (y := 0) (j := 3) hq0 (by decide) rfl) (aj_np 1 (by decide +kernel) rfl) (Nat.le_of_ble_eq_true rfl) rfl dX8_findRest_17 (fun r m1 h => ?_)
      obtain ⟨z1, rfl, h⟩ := h
      refine aj_pop C aj_nI dX8_findRest_20 ?_
      refine aj_aload_n C dX8_findRest_21 rfl ?_
      refine aj_aload_n C dX8_findRest_22 rfl ?_
      refine aj_getA (x := 0) (y := 60) C flX8_19 hq0 rfl dX8_findRest_23 ?_
      refine aj_iload_n C dX8_findRest_26 rfl ?_
      obtain ⟨r0, h⟩ := h
      refine aj_iald C (aj_ca (e := 0) (n := 60) (j := 2) hq0 (by decide) rfl) (by decide) r0 dX8_findRest_27 rfl ?_
      refine aj_aload_n C dX8_findRest_28 rfl ?_
      refine aj_getI C flX8_15 hq0 (by decide) dX8_findRest_29 rfl ?_
      refine aj_iconst C dX8_findRest_32 ?_
      refine aj_isub C dX8_findRest_33 ?_
      refine aj_iload_n C dX8_findRest_34 rfl ?_
      refine aj_isub C dX8_findRest_35 ?_
      refine aj_callV (rest := []) C mvX8_76 (sX8_leastAt hq0 h) hq0 (aj_np 2 (by decide +kernel) rfl) (Nat.le_of_ble_eq_true rfl) rfl dX8_findRest_36 (fun r m2 h => ?_)
      obtain ⟨z2, rfl, h⟩ := h
      refine aj_istore_n (lv' := [some (vO 8 q0), some (vI v1), some (vI v2), some (vI z2)]) C dX8_findRest_39 (by decide) rfl ?_
      refine aj_iload_n C dX8_findRest_40 rfl ?_
      obtain ⟨r0, h1, h2⟩ := h
      refine aj_if_ge (tgt := 46) C dX8_findRest_41 (by decide) r0 (fun e => ?_) (fun e => ?_)
      · have h := h1 e
        refine aj_aload_n C dX8_findRest_46 rfl ?_
        refine aj_getA (x := 0) (y := 60) C flX8_19 hq0 rfl dX8_findRest_47 ?_
        refine aj_iload_n C dX8_findRest_50 rfl ?_
        refine aj_iconst C dX8_findRest_51 ?_
        refine aj_iadd C dX8_findRest_52 ?_
        refine aj_iload_n C dX8_findRest_53 rfl ?_
        obtain ⟨r0, h⟩ := h
        refine aj_iast C (aj_ca (e := 0) (n := 60) (j := 2) hq0 (by decide) rfl) (by decide) r0 dX8_findRest_54 ?_
        refine aj_nm (fun m3 e1 => ?_)
        have h := h m3 e1
        refine aj_aload_n C dX8_findRest_55 rfl ?_
        refine aj_getO (x := 5) (y := 0) C flX8_26 hq0 rfl dX8_findRest_56 ?_
        refine aj_dup C aj_nR dX8_findRest_59 ?_
        refine aj_getL C flX8_64 (aj_cf (x := 5) (y := 0) (j := 3) hq0 (by decide) rfl) rfl dX8_findRest_60 rfl ?_
        refine aj_lconst (z := 1) C dX8_findRest_63 rfl ?_
        refine aj_iload_n C dX8_findRest_64 rfl ?_
        refine aj_lshl_ C dX8_findRest_65 ?_
        refine aj_lor C dX8_findRest_66 ?_
        refine aj_putL C fpX8_64 (aj_cf (x := 5) (y := 0) (j := 3) hq0 (by decide) rfl) rfl dX8_findRest_67 ?_
        refine aj_nm (fun m4 e1 => ?_)
        have h := h m4 e1
        refine aj_iinc (lv' := [some (vO 8 q0), some (vI v1), some (vI (v2 + 1)), some (vI z2)]) C dX8_findRest_70 rfl (by decide) rfl ?_
        refine aj_goto (tgt := 2) C dX8_findRest_73 (by decide) ?_
        refine aj_wk (lv' := [some (vO 8 q0), some (vI v1), some (vI (v2 + 1)), none]) (⟨rfl, ⟨rfl, ⟨rfl, trivial⟩⟩⟩) ?_
        exact ih q0 v1 (v2 + 1) _ hq0 h
      · have h := h2 e
        refine aj_iconst C dX8_findRest_44 ?_
        exact aj_zret C K (Or.inl rfl) dX8_findRest_45 ⟨_, rfl, h⟩
def wX8_findRest (f : Nat) (Φ : Int → aj_M → Prop) (q0 : List Nat) (v1 : Int) (m : aj_M) : Prop := hX8_findRest_2 f Φ f q0 v1 1 m
set_option maxHeartbeats 4000000 in
set_option maxRecDepth 100000 in
theorem sX8_findRest {n f : Nat} {Φ : Int → aj_M → Prop} {q0 : List Nat} {v1 : Int} {m : aj_M} (hq0 : (.inl (8, q0) : aj_R) ∈ aj_pls) (h : wX8_findRest f Φ q0 v1 m) : aj_Ct (n + 2) yX8_findRest cX8_findRest 4 (some .boolean) [vO 8 q0, vI v1] m (fun r m => ∃ z, r = some (vI z) ∧ Φ z m) := by
  refine aj_met (lv := [some (vO 8 q0), some (vI v1), none, none]) (by decide +kernel) rfl (Nat.le_of_ble_eq_true rfl) (fun X C K => ?_)
  unfold wX8_findRest at h
  refine aj_iconst C dX8_findRest_0 ?_
  refine aj_istore_n (lv' := [some (vO 8 q0), some (vI v1), some (vI 1), none]) C dX8_findRest_1 (by decide) rfl ?_
  exact tX8_findRest_2 C K f q0 v1 1 _ hq0 h
theorem dX8_findFrom_0 : decode cX8_findFrom 0 = .ok (.iload_n 1, 1) := by decide +kernel
theorem dX8_findFrom_1 : decode cX8_findFrom 1 = .ok (.iconst 1, 1) := by decide +kernel
theorem dX8_findFrom_2 : decode cX8_findFrom 2 = .ok (.iadd, 1) := by decide +kernel
theorem dX8_findFrom_3 : decode cX8_findFrom 3 = .ok (.istore_n 2, 1) := by decide +kernel
theorem dX8_findFrom_4 : decode cX8_findFrom 4 = .ok (.iload_n 2, 1) := by decide +kernel
theorem dX8_findFrom_5 : decode cX8_findFrom 5 = .ok (.aload_n 0, 1) := by decide +kernel
theorem dX8_findFrom_6 : decode cX8_findFrom 6 = .ok (.getfield 26, 3) := by decide +kernel
theorem dX8_findFrom_9 : decode cX8_findFrom 9 = .ok (.getfield 53, 3) := by decide +kernel
theorem dX8_findFrom_12 : decode cX8_findFrom 12 = .ok (.if_icmp .ge 90, 3) := by decide +kernel
theorem dX8_findFrom_15 : decode cX8_findFrom 15 = .ok (.aload_n 0, 1) := by decide +kernel
theorem dX8_findFrom_16 : decode cX8_findFrom 16 = .ok (.getfield 26, 3) := by decide +kernel
theorem dX8_findFrom_19 : decode cX8_findFrom 19 = .ok (.iload_n 1, 1) := by decide +kernel
theorem dX8_findFrom_20 : decode cX8_findFrom 20 = .ok (.iload_n 2, 1) := by decide +kernel
theorem dX8_findFrom_21 : decode cX8_findFrom 21 = .ok (.invokevirtual 56, 3) := by decide +kernel
theorem dX8_findFrom_24 : decode cX8_findFrom 24 = .ok (.istore_n 3, 1) := by decide +kernel
theorem dX8_findFrom_25 : decode cX8_findFrom 25 = .ok (.iload_n 3, 1) := by decide +kernel
theorem dX8_findFrom_26 : decode cX8_findFrom 26 = .ok (.ifCond .le 70, 3) := by decide +kernel
theorem dX8_findFrom_29 : decode cX8_findFrom 29 = .ok (.aload_n 0, 1) := by decide +kernel
theorem dX8_findFrom_30 : decode cX8_findFrom 30 = .ok (.getfield 19, 3) := by decide +kernel
theorem dX8_findFrom_33 : decode cX8_findFrom 33 = .ok (.iconst 1, 1) := by decide +kernel
theorem dX8_findFrom_34 : decode cX8_findFrom 34 = .ok (.iload_n 2, 1) := by decide +kernel
theorem dX8_findFrom_35 : decode cX8_findFrom 35 = .ok (.iastore, 1) := by decide +kernel
theorem dX8_findFrom_36 : decode cX8_findFrom 36 = .ok (.aload_n 0, 1) := by decide +kernel
theorem dX8_findFrom_37 : decode cX8_findFrom 37 = .ok (.getfield 26, 3) := by decide +kernel
theorem dX8_findFrom_40 : decode cX8_findFrom 40 = .ok (.dup, 1) := by decide +kernel
theorem dX8_findFrom_41 : decode cX8_findFrom 41 = .ok (.getfield 64, 3) := by decide +kernel
theorem dX8_findFrom_44 : decode cX8_findFrom 44 = .ok (.lconst 1, 1) := by decide +kernel
theorem dX8_findFrom_45 : decode cX8_findFrom 45 = .ok (.iload_n 2, 1) := by decide +kernel
theorem dX8_findFrom_46 : decode cX8_findFrom 46 = .ok (.lshl, 1) := by decide +kernel
theorem dX8_findFrom_47 : decode cX8_findFrom 47 = .ok (.lor, 1) := by decide +kernel
theorem dX8_findFrom_48 : decode cX8_findFrom 48 = .ok (.putfield 64, 3) := by decide +kernel
theorem dX8_findFrom_51 : decode cX8_findFrom 51 = .ok (.aload_n 0, 1) := by decide +kernel
theorem dX8_findFrom_52 : decode cX8_findFrom 52 = .ok (.getfield 15, 3) := by decide +kernel
theorem dX8_findFrom_55 : decode cX8_findFrom 55 = .ok (.iconst 2, 1) := by decide +kernel
theorem dX8_findFrom_56 : decode cX8_findFrom 56 = .ok (.if_icmp .ne 11, 3) := by decide +kernel
theorem dX8_findFrom_59 : decode cX8_findFrom 59 = .ok (.iload_n 3, 1) := by decide +kernel
theorem dX8_findFrom_60 : decode cX8_findFrom 60 = .ok (.iconst 1, 1) := by decide +kernel
theorem dX8_findFrom_61 : decode cX8_findFrom 61 = .ok (.if_icmp .le 16, 3) := by decide +kernel
theorem dX8_findFrom_64 : decode cX8_findFrom 64 = .ok (.goto 11, 3) := by decide +kernel
theorem dX8_findFrom_67 : decode cX8_findFrom 67 = .ok (.aload_n 0, 1) := by decide +kernel
theorem dX8_findFrom_68 : decode cX8_findFrom 68 = .ok (.iload_n 1, 1) := by decide +kernel
theorem dX8_findFrom_69 : decode cX8_findFrom 69 = .ok (.invokevirtual 67, 3) := by decide +kernel
theorem dX8_findFrom_72 : decode cX8_findFrom 72 = .ok (.ifCond .eq 5, 3) := by decide +kernel
theorem dX8_findFrom_75 : decode cX8_findFrom 75 = .ok (.iconst 1, 1) := by decide +kernel
theorem dX8_findFrom_76 : decode cX8_findFrom 76 = .ok (.ireturn, 1) := by decide +kernel
theorem dX8_findFrom_77 : decode cX8_findFrom 77 = .ok (.aload_n 0, 1) := by decide +kernel
theorem dX8_findFrom_78 : decode cX8_findFrom 78 = .ok (.getfield 26, 3) := by decide +kernel
theorem dX8_findFrom_81 : decode cX8_findFrom 81 = .ok (.dup, 1) := by decide +kernel
theorem dX8_findFrom_82 : decode cX8_findFrom 82 = .ok (.getfield 64, 3) := by decide +kernel
theorem dX8_findFrom_85 : decode cX8_findFrom 85 = .ok (.lconst 1, 1) := by decide +kernel
theorem dX8_findFrom_86 : decode cX8_findFrom 86 = .ok (.iload_n 2, 1) := by decide +kernel
theorem dX8_findFrom_87 : decode cX8_findFrom 87 = .ok (.lshl, 1) := by decide +kernel
theorem dX8_findFrom_88 : decode cX8_findFrom 88 = .ok (.ldc2_w 70, 3) := by decide +kernel
theorem dX8_findFrom_91 : decode cX8_findFrom 91 = .ok (.lxor, 1) := by decide +kernel
theorem dX8_findFrom_92 : decode cX8_findFrom 92 = .ok (.land, 1) := by decide +kernel
theorem dX8_findFrom_93 : decode cX8_findFrom 93 = .ok (.putfield 64, 3) := by decide +kernel
theorem dX8_findFrom_96 : decode cX8_findFrom 96 = .ok (.iinc 2 1, 3) := by decide +kernel
theorem dX8_findFrom_99 : decode cX8_findFrom 99 = .ok (.goto (-95), 3) := by decide +kernel
theorem dX8_findFrom_102 : decode cX8_findFrom 102 = .ok (.aload_n 0, 1) := by decide +kernel
theorem dX8_findFrom_103 : decode cX8_findFrom 103 = .ok (.getfield 26, 3) := by decide +kernel
theorem dX8_findFrom_106 : decode cX8_findFrom 106 = .ok (.dup, 1) := by decide +kernel
theorem dX8_findFrom_107 : decode cX8_findFrom 107 = .ok (.getfield 64, 3) := by decide +kernel
theorem dX8_findFrom_110 : decode cX8_findFrom 110 = .ok (.lconst 1, 1) := by decide +kernel
theorem dX8_findFrom_111 : decode cX8_findFrom 111 = .ok (.iload_n 1, 1) := by decide +kernel
theorem dX8_findFrom_112 : decode cX8_findFrom 112 = .ok (.lshl, 1) := by decide +kernel
theorem dX8_findFrom_113 : decode cX8_findFrom 113 = .ok (.lor, 1) := by decide +kernel
theorem dX8_findFrom_114 : decode cX8_findFrom 114 = .ok (.putfield 64, 3) := by decide +kernel
theorem dX8_findFrom_117 : decode cX8_findFrom 117 = .ok (.iconst 0, 1) := by decide +kernel
theorem dX8_findFrom_118 : decode cX8_findFrom 118 = .ok (.ireturn, 1) := by decide +kernel
def hX8_findFrom_4 (f : Nat) (Φ : Int → aj_M → Prop) : Nat → List Nat → Int → Int → aj_M → Prop
  | 0, _, _, _, _ => False
  | k + 1, q0, v1, v2, m => rI v2 ∧ rI (m (3 :: q0) 0) ∧ ((m (3 :: q0) 0) ≤ v2 → ∀ m1, m1 = aj_u m (3 :: q0) 16 (aj_lorL (m (3 :: q0) 16) (aj_lshl 1 v1)) → Φ 0 m1) ∧ (¬ ((m (3 :: q0) 0) ≤ v2) → wX5_linksBetween f (fun z1 m2 => rI z1 ∧ (z1 ≤ 0 → hX8_findFrom_4 f Φ k q0 v1 (v2 + 1) m2) ∧ (¬ (z1 ≤ 0) → ∀ m3, m3 = aj_u m2 (2 :: q0) (1 : Int).toNat v2 → ∀ m4, m4 = aj_u m3 (3 :: q0) 16 (aj_lorL (m3 (3 :: q0) 16) (aj_lshl 1 v2)) → rI (m4 q0 1) ∧ (¬ (m4 q0 1) = 2 → wX8_findRest f (fun z2 m5 => rI z2 ∧ (z2 = 0 → ∀ m6, m6 = aj_u m5 (3 :: q0) 16 (aj_landL (m5 (3 :: q0) 16) (aj_lxorL (aj_lshl 1 v2) (-1))) → hX8_findFrom_4 f Φ k q0 v1 (v2 + 1) m6) ∧ (¬ (z2 = 0) → Φ 1 m5)) q0 v1 m4) ∧ ((m4 q0 1) = 2 → rI z1 ∧ (z1 ≤ 1 → ∀ m7, m7 = aj_u m4 (3 :: q0) 16 (aj_landL (m4 (3 :: q0) 16) (aj_lxorL (aj_lshl 1 v2) (-1))) → hX8_findFrom_4 f Φ k q0 v1 (v2 + 1) m7) ∧ (¬ (z1 ≤ 1) → Φ 1 m4)))) (3 :: q0) v1 v2 m)
set_option maxHeartbeats 4000000 in
set_option maxRecDepth 100000 in
theorem tX8_findFrom_4 {X : aj_T} {n f : Nat} {Φ : Int → aj_M → Prop} (C : aj_Cx X cX8_findFrom RX8 4 (n + 3)) (K : aj_Rt X (some .boolean) (fun r m => ∃ z, r = some (vI z) ∧ Φ z m)) : ∀ (k : Nat) (q0 : List Nat) (v1 : Int) (v2 : Int) (m : aj_M) (hq0 : (.inl (8, q0) : aj_R) ∈ aj_pls), hX8_findFrom_4 f Φ k q0 v1 v2 m → aj_J X 4 [some (vO 8 q0), some (vI v1), some (vI v2), none] [] m := by
  intro k
  induction k with
  | zero =>
    intro q0 v1 v2 m _ h
    exact h.elim
  | succ k ih =>
    intro q0 v1 v2 m hq0 h
    unfold hX8_findFrom_4 at h
    refine aj_iload_n C dX8_findFrom_4 rfl ?_
    refine aj_aload_n C dX8_findFrom_5 rfl ?_
    refine aj_getO (x := 5) (y := 0) C flX8_26 hq0 rfl dX8_findFrom_6 ?_
    refine aj_getI C flX8_53 (aj_cf (x := 5) (y := 0) (j := 3) hq0 (by decide) rfl) (by decide) dX8_findFrom_9 rfl ?_
    obtain ⟨r0, r1, h1, h2⟩ := h
    refine aj_icmp_ge (tgt := 102) C dX8_findFrom_12 (by decide) r0 r1 (fun e => ?_) (fun e => ?_)
    · have h := h1 e
      refine aj_aload_n C dX8_findFrom_102 rfl ?_
      refine aj_getO (x := 5) (y := 0) C flX8_26 hq0 rfl dX8_findFrom_103 ?_
      refine aj_dup C aj_nR dX8_findFrom_106 ?_
      refine aj_getL C flX8_64 (aj_cf (x := 5) (y := 0) (j := 3) hq0 (by decide) rfl) rfl dX8_findFrom_107 rfl ?_
      refine aj_lconst (z := 1) C dX8_findFrom_110 rfl ?_
      refine aj_iload_n C dX8_findFrom_111 rfl ?_
      refine aj_lshl_ C dX8_findFrom_112 ?_
      refine aj_lor C dX8_findFrom_113 ?_
      refine aj_putL C fpX8_64 (aj_cf (x := 5) (y := 0) (j := 3) hq0 (by decide) rfl) rfl dX8_findFrom_114 ?_
      refine aj_nm (fun m1 e1 => ?_)
      have h := h m1 e1
      refine aj_iconst C dX8_findFrom_117 ?_
      exact aj_zret C K (Or.inl rfl) dX8_findFrom_118 ⟨_, rfl, h⟩
    · have h := h2 e
      refine aj_aload_n C dX8_findFrom_15 rfl ?_
      refine aj_getO (x := 5) (y := 0) C flX8_26 hq0 rfl dX8_findFrom_16 ?_
      refine aj_iload_n C dX8_findFrom_19 rfl ?_
      refine aj_iload_n C dX8_findFrom_20 rfl ?_
      refine aj_callV (rest := []) C mvX8_56 (sX5_linksBetween (aj_cf (x := 5) (y := 0) (j := 3) hq0 (by decide) rfl) h) (aj_cf (x := 5) (y := 0) (j := 3) hq0 (by decide) rfl) (aj_np 2 (by decide +kernel) rfl) (Nat.le_of_ble_eq_true rfl) rfl dX8_findFrom_21 (fun r m2 h => ?_)
      obtain ⟨z1, rfl, h⟩ := h
      refine aj_istore_n (lv' := [some (vO 8 q0), some (vI v1), some (vI v2), some (vI z1)]) C dX8_findFrom_24 (by decide) rfl ?_
      refine aj_iload_n C dX8_findFrom_25 rfl ?_
      obtain ⟨r0, h1, h2⟩ := h
      refine aj_if_le (tgt := 96) C dX8_findFrom_26 (by decide) r0 (fun e => ?_) (fun e => ?_)
      · have h := h1 e
        refine aj_iinc (lv' := [some (vO 8 q0), some (vI v1), some (vI (v2 + 1)), some (vI z1)]) C dX8_findFrom_96 rfl (by decide) rfl ?_
        refine aj_goto (tgt := 4) C dX8_findFrom_99 (by decide) ?_
        refine aj_wk (lv' := [some (vO 8 q0), some (vI v1), some (vI (v2 + 1)), none]) (⟨rfl, ⟨rfl, ⟨rfl, trivial⟩⟩⟩) ?_
        exact ih q0 v1 (v2 + 1) _ hq0 h
      · have h := h2 e
        refine aj_aload_n C dX8_findFrom_29 rfl ?_
        refine aj_getA (x := 0) (y := 60) C flX8_19 hq0 rfl dX8_findFrom_30 ?_
        refine aj_iconst C dX8_findFrom_33 ?_
        refine aj_iload_n C dX8_findFrom_34 rfl ?_
        refine aj_iast C (aj_ca (e := 0) (n := 60) (j := 2) hq0 (by decide) rfl) (by decide) (by decide) dX8_findFrom_35 ?_
        refine aj_nm (fun m3 e1 => ?_)
        have h := h m3 e1
        refine aj_aload_n C dX8_findFrom_36 rfl ?_
        refine aj_getO (x := 5) (y := 0) C flX8_26 hq0 rfl dX8_findFrom_37 ?_
        refine aj_dup C aj_nR dX8_findFrom_40 ?_
        refine aj_getL C flX8_64 (aj_cf (x := 5) (y := 0) (j := 3) hq0 (by decide) rfl) rfl dX8_findFrom_41 rfl ?_
        refine aj_lconst (z := 1) C dX8_findFrom_44 rfl ?_
        refine aj_iload_n C dX8_findFrom_45 rfl ?_
        refine aj_lshl_ C dX8_findFrom_46 ?_
        refine aj_lor C dX8_findFrom_47 ?_
        refine aj_putL C fpX8_64 (aj_cf (x := 5) (y := 0) (j := 3) hq0 (by decide) rfl) rfl dX8_findFrom_48 ?_
        refine aj_nm (fun m4 e1 => ?_)
        have h := h m4 e1
        refine aj_aload_n C dX8_findFrom_51 rfl ?_
        refine aj_getI C flX8_15 hq0 (by decide) dX8_findFrom_52 rfl ?_
        refine aj_iconst C dX8_findFrom_55 ?_
        obtain ⟨r0, h1, h2⟩ := h
        refine aj_icmp_ne (tgt := 67) C dX8_findFrom_56 (by decide) r0 (by decide) (fun e => ?_) (fun e => ?_)
        · have h := h1 e
          refine aj_aload_n C dX8_findFrom_67 rfl ?_
          refine aj_iload_n C dX8_findFrom_68 rfl ?_
          refine aj_callV (rest := []) C mvX8_67 (sX8_findRest hq0 h) hq0 (aj_np 1 (by decide +kernel) rfl) (Nat.le_of_ble_eq_true rfl) rfl dX8_findFrom_69 (fun r m5 h => ?_)
          obtain ⟨z2, rfl, h⟩ := h
          obtain ⟨r0, h1, h2⟩ := h
          refine aj_if_eq (tgt := 77) C dX8_findFrom_72 (by decide) r0 (fun e => ?_) (fun e => ?_)
          · have h := h1 e
            refine aj_aload_n C dX8_findFrom_77 rfl ?_
            refine aj_getO (x := 5) (y := 0) C flX8_26 hq0 rfl dX8_findFrom_78 ?_
            refine aj_dup C aj_nR dX8_findFrom_81 ?_
            refine aj_getL C flX8_64 (aj_cf (x := 5) (y := 0) (j := 3) hq0 (by decide) rfl) rfl dX8_findFrom_82 rfl ?_
            refine aj_lconst (z := 1) C dX8_findFrom_85 rfl ?_
            refine aj_iload_n C dX8_findFrom_86 rfl ?_
            refine aj_lshl_ C dX8_findFrom_87 ?_
            refine aj_ldc2 (z := (-1)) C (wd1219) rfl dX8_findFrom_88 ?_
            refine aj_lxor C dX8_findFrom_91 ?_
            refine aj_land C dX8_findFrom_92 ?_
            refine aj_putL C fpX8_64 (aj_cf (x := 5) (y := 0) (j := 3) hq0 (by decide) rfl) rfl dX8_findFrom_93 ?_
            refine aj_nm (fun m6 e1 => ?_)
            have h := h m6 e1
            refine aj_iinc (lv' := [some (vO 8 q0), some (vI v1), some (vI (v2 + 1)), some (vI z1)]) C dX8_findFrom_96 rfl (by decide) rfl ?_
            refine aj_goto (tgt := 4) C dX8_findFrom_99 (by decide) ?_
            refine aj_wk (lv' := [some (vO 8 q0), some (vI v1), some (vI (v2 + 1)), none]) (⟨rfl, ⟨rfl, ⟨rfl, trivial⟩⟩⟩) ?_
            exact ih q0 v1 (v2 + 1) _ hq0 h
          · have h := h2 e
            refine aj_iconst C dX8_findFrom_75 ?_
            exact aj_zret C K (Or.inr rfl) dX8_findFrom_76 ⟨_, rfl, h⟩
        · have h := h2 e
          refine aj_iload_n C dX8_findFrom_59 rfl ?_
          refine aj_iconst C dX8_findFrom_60 ?_
          obtain ⟨r0, h1, h2⟩ := h
          refine aj_icmp_le (tgt := 77) C dX8_findFrom_61 (by decide) r0 (by decide) (fun e => ?_) (fun e => ?_)
          · have h := h1 e
            refine aj_aload_n C dX8_findFrom_77 rfl ?_
            refine aj_getO (x := 5) (y := 0) C flX8_26 hq0 rfl dX8_findFrom_78 ?_
            refine aj_dup C aj_nR dX8_findFrom_81 ?_
            refine aj_getL C flX8_64 (aj_cf (x := 5) (y := 0) (j := 3) hq0 (by decide) rfl) rfl dX8_findFrom_82 rfl ?_
            refine aj_lconst (z := 1) C dX8_findFrom_85 rfl ?_
            refine aj_iload_n C dX8_findFrom_86 rfl ?_
            refine aj_lshl_ C dX8_findFrom_87 ?_
            refine aj_ldc2 (z := (-1)) C (wd1219) rfl dX8_findFrom_88 ?_
            refine aj_lxor C dX8_findFrom_91 ?_
            refine aj_land C dX8_findFrom_92 ?_
            refine aj_putL C fpX8_64 (aj_cf (x := 5) (y := 0) (j := 3) hq0 (by decide) rfl) rfl dX8_findFrom_93 ?_
            refine aj_nm (fun m7 e1 => ?_)
            have h := h m7 e1
            refine aj_iinc (lv' := [some (vO 8 q0), some (vI v1), some (vI (v2 + 1)), some (vI z1)]) C dX8_findFrom_96 rfl (by decide) rfl ?_
            refine aj_goto (tgt := 4) C dX8_findFrom_99 (by decide) ?_
            refine aj_wk (lv' := [some (vO 8 q0), some (vI v1), some (vI (v2 + 1)), none]) (⟨rfl, ⟨rfl, ⟨rfl, trivial⟩⟩⟩) ?_
            exact ih q0 v1 (v2 + 1) _ hq0 h
          · have h := h2 e
            refine aj_goto (tgt := 75) C dX8_findFrom_64 (by decide) ?_
            refine aj_iconst C dX8_findFrom_75 ?_
            exact aj_zret C K (Or.inr rfl) dX8_findFrom_76 ⟨_, rfl, h⟩
def wX8_findFrom (f : Nat) (Φ : Int → aj_M → Prop) (q0 : List Nat) (v1 : Int) (m : aj_M) : Prop := hX8_findFrom_4 f Φ f q0 v1 (v1 + 1) m
set_option maxHeartbeats 4000000 in
set_option maxRecDepth 100000 in
theorem sX8_findFrom {n f : Nat} {Φ : Int → aj_M → Prop} {q0 : List Nat} {v1 : Int} {m : aj_M} (hq0 : (.inl (8, q0) : aj_R) ∈ aj_pls) (h : wX8_findFrom f Φ q0 v1 m) : aj_Ct (n + 3) yX8_findFrom cX8_findFrom 4 (some .boolean) [vO 8 q0, vI v1] m (fun r m => ∃ z, r = some (vI z) ∧ Φ z m) := by
  refine aj_met (lv := [some (vO 8 q0), some (vI v1), none, none]) (by decide +kernel) rfl (Nat.le_of_ble_eq_true rfl) (fun X C K => ?_)
  unfold wX8_findFrom at h
  refine aj_iload_n C dX8_findFrom_0 rfl ?_
  refine aj_iconst C dX8_findFrom_1 ?_
  refine aj_iadd C dX8_findFrom_2 ?_
  refine aj_istore_n (lv' := [some (vO 8 q0), some (vI v1), some (vI (v1 + 1)), none]) C dX8_findFrom_3 (by decide) rfl ?_
  exact tX8_findFrom_4 C K f q0 v1 (v1 + 1) _ hq0 h
theorem dX8_findFirst_0 : decode cX8_findFirst 0 = .ok (.aload_n 0, 1) := by decide +kernel
theorem dX8_findFirst_1 : decode cX8_findFirst 1 = .ok (.getfield 9, 3) := by decide +kernel
theorem dX8_findFirst_4 : decode cX8_findFirst 4 = .ok (.ifCond .eq 4, 3) := by decide +kernel
theorem dX8_findFirst_7 : decode cX8_findFirst 7 = .ok (.return_, 1) := by decide +kernel
theorem dX8_findFirst_8 : decode cX8_findFirst 8 = .ok (.aload_n 0, 1) := by decide +kernel
theorem dX8_findFirst_9 : decode cX8_findFirst 9 = .ok (.iconst 1, 1) := by decide +kernel
theorem dX8_findFirst_10 : decode cX8_findFirst 10 = .ok (.putfield 9, 3) := by decide +kernel
theorem dX8_findFirst_13 : decode cX8_findFirst 13 = .ok (.aload_n 0, 1) := by decide +kernel
theorem dX8_findFirst_14 : decode cX8_findFirst 14 = .ok (.getfield 26, 3) := by decide +kernel
theorem dX8_findFirst_17 : decode cX8_findFirst 17 = .ok (.invokevirtual 49, 3) := by decide +kernel
theorem dX8_findFirst_20 : decode cX8_findFirst 20 = .ok (.istore_n 1, 1) := by decide +kernel
theorem dX8_findFirst_21 : decode cX8_findFirst 21 = .ok (.aload_n 0, 1) := by decide +kernel
theorem dX8_findFirst_22 : decode cX8_findFirst 22 = .ok (.iload_n 1, 1) := by decide +kernel
theorem dX8_findFirst_23 : decode cX8_findFirst 23 = .ok (.bipush 60, 2) := by decide +kernel
theorem dX8_findFirst_25 : decode cX8_findFirst 25 = .ok (.if_icmp .gt 7, 3) := by decide +kernel
theorem dX8_findFirst_28 : decode cX8_findFirst 28 = .ok (.iload_n 1, 1) := by decide +kernel
theorem dX8_findFirst_29 : decode cX8_findFirst 29 = .ok (.goto 4, 3) := by decide +kernel
theorem dX8_findFirst_32 : decode cX8_findFirst 32 = .ok (.iconst 0, 1) := by decide +kernel
theorem dX8_findFirst_33 : decode cX8_findFirst 33 = .ok (.putfield 15, 3) := by decide +kernel
theorem dX8_findFirst_36 : decode cX8_findFirst 36 = .ok (.aload_n 0, 1) := by decide +kernel
theorem dX8_findFirst_37 : decode cX8_findFirst 37 = .ok (.getfield 15, 3) := by decide +kernel
theorem dX8_findFirst_40 : decode cX8_findFirst 40 = .ok (.ifCond .ne 7, 3) := by decide +kernel
theorem dX8_findFirst_43 : decode cX8_findFirst 43 = .ok (.iconst 1, 1) := by decide +kernel
theorem dX8_findFirst_44 : decode cX8_findFirst 44 = .ok (.goto 4, 3) := by decide +kernel
theorem dX8_findFirst_47 : decode cX8_findFirst 47 = .ok (.iconst 0, 1) := by decide +kernel
theorem dX8_findFirst_48 : decode cX8_findFirst 48 = .ok (.istore_n 2, 1) := by decide +kernel
theorem dX8_findFirst_49 : decode cX8_findFirst 49 = .ok (.iconst 0, 1) := by decide +kernel
theorem dX8_findFirst_50 : decode cX8_findFirst 50 = .ok (.istore_n 3, 1) := by decide +kernel
theorem dX8_findFirst_51 : decode cX8_findFirst 51 = .ok (.iload_n 3, 1) := by decide +kernel
theorem dX8_findFirst_52 : decode cX8_findFirst 52 = .ok (.aload_n 0, 1) := by decide +kernel
theorem dX8_findFirst_53 : decode cX8_findFirst 53 = .ok (.getfield 26, 3) := by decide +kernel
theorem dX8_findFirst_56 : decode cX8_findFirst 56 = .ok (.getfield 53, 3) := by decide +kernel
theorem dX8_findFirst_59 : decode cX8_findFirst 59 = .ok (.if_icmp .ge 54, 3) := by decide +kernel
theorem dX8_findFirst_62 : decode cX8_findFirst 62 = .ok (.iload_n 2, 1) := by decide +kernel
theorem dX8_findFirst_63 : decode cX8_findFirst 63 = .ok (.ifCond .ne 50, 3) := by decide +kernel
theorem dX8_findFirst_66 : decode cX8_findFirst 66 = .ok (.aload_n 0, 1) := by decide +kernel
theorem dX8_findFirst_67 : decode cX8_findFirst 67 = .ok (.getfield 19, 3) := by decide +kernel
theorem dX8_findFirst_70 : decode cX8_findFirst 70 = .ok (.iconst 0, 1) := by decide +kernel
theorem dX8_findFirst_71 : decode cX8_findFirst 71 = .ok (.iload_n 3, 1) := by decide +kernel
theorem dX8_findFirst_72 : decode cX8_findFirst 72 = .ok (.iastore, 1) := by decide +kernel
theorem dX8_findFirst_73 : decode cX8_findFirst 73 = .ok (.aload_n 0, 1) := by decide +kernel
theorem dX8_findFirst_74 : decode cX8_findFirst 74 = .ok (.getfield 15, 3) := by decide +kernel
theorem dX8_findFirst_77 : decode cX8_findFirst 77 = .ok (.iconst 1, 1) := by decide +kernel
theorem dX8_findFirst_78 : decode cX8_findFirst 78 = .ok (.if_icmp .ne 23, 3) := by decide +kernel
theorem dX8_findFirst_81 : decode cX8_findFirst 81 = .ok (.aload_n 0, 1) := by decide +kernel
theorem dX8_findFirst_82 : decode cX8_findFirst 82 = .ok (.getfield 26, 3) := by decide +kernel
theorem dX8_findFirst_85 : decode cX8_findFirst 85 = .ok (.iload_n 3, 1) := by decide +kernel
theorem dX8_findFirst_86 : decode cX8_findFirst 86 = .ok (.iload_n 3, 1) := by decide +kernel
theorem dX8_findFirst_87 : decode cX8_findFirst 87 = .ok (.invokevirtual 56, 3) := by decide +kernel
theorem dX8_findFirst_90 : decode cX8_findFirst 90 = .ok (.ifCond .le 7, 3) := by decide +kernel
theorem dX8_findFirst_93 : decode cX8_findFirst 93 = .ok (.iconst 1, 1) := by decide +kernel
theorem dX8_findFirst_94 : decode cX8_findFirst 94 = .ok (.goto 12, 3) := by decide +kernel
theorem dX8_findFirst_97 : decode cX8_findFirst 97 = .ok (.iconst 0, 1) := by decide +kernel
theorem dX8_findFirst_98 : decode cX8_findFirst 98 = .ok (.goto 8, 3) := by decide +kernel
theorem dX8_findFirst_101 : decode cX8_findFirst 101 = .ok (.aload_n 0, 1) := by decide +kernel
theorem dX8_findFirst_102 : decode cX8_findFirst 102 = .ok (.iload_n 3, 1) := by decide +kernel
theorem dX8_findFirst_103 : decode cX8_findFirst 103 = .ok (.invokevirtual 60, 3) := by decide +kernel
theorem dX8_findFirst_106 : decode cX8_findFirst 106 = .ok (.istore_n 2, 1) := by decide +kernel
theorem dX8_findFirst_107 : decode cX8_findFirst 107 = .ok (.iinc 3 1, 3) := by decide +kernel
theorem dX8_findFirst_110 : decode cX8_findFirst 110 = .ok (.goto (-59), 3) := by decide +kernel
theorem dX8_findFirst_113 : decode cX8_findFirst 113 = .ok (.aload_n 0, 1) := by decide +kernel
theorem dX8_findFirst_114 : decode cX8_findFirst 114 = .ok (.getfield 26, 3) := by decide +kernel
theorem dX8_findFirst_117 : decode cX8_findFirst 117 = .ok (.lconst 0, 1) := by decide +kernel
theorem dX8_findFirst_118 : decode cX8_findFirst 118 = .ok (.putfield 64, 3) := by decide +kernel
theorem dX8_findFirst_121 : decode cX8_findFirst 121 = .ok (.return_, 1) := by decide +kernel
def hX8_findFirst_51 (f : Nat) (Φ : aj_M → Prop) : Nat → List Nat → Int → Int → aj_M → Prop
  | 0, _, _, _, _ => False
  | k + 1, q0, v2, v3, m => rI v3 ∧ rI (m (3 :: q0) 0) ∧ ((m (3 :: q0) 0) ≤ v3 → ∀ m1, m1 = aj_u m (3 :: q0) 16 0 → Φ m1) ∧ (¬ ((m (3 :: q0) 0) ≤ v3) → rI v2 ∧ (¬ v2 = 0 → ∀ m2, m2 = aj_u m (3 :: q0) 16 0 → Φ m2) ∧ (v2 = 0 → ∀ m3, m3 = aj_u m (2 :: q0) (0 : Int).toNat v3 → rI (m3 q0 1) ∧ (¬ (m3 q0 1) = 1 → wX8_findFrom f (fun z1 m4 => hX8_findFirst_51 f Φ k q0 z1 (v3 + 1) m4) q0 v3 m3) ∧ ((m3 q0 1) = 1 → wX5_linksBetween f (fun z2 m5 => rI z2 ∧ (z2 ≤ 0 → hX8_findFirst_51 f Φ k q0 0 (v3 + 1) m5) ∧ (¬ (z2 ≤ 0) → hX8_findFirst_51 f Φ k q0 1 (v3 + 1) m5)) (3 :: q0) v3 v3 m3)))
set_option maxHeartbeats 4000000 in
set_option maxRecDepth 100000 in
theorem tX8_findFirst_51 {X : aj_T} {n f : Nat} {Φ : aj_M → Prop} (C : aj_Cx X cX8_findFirst RX8 4 (n + 4)) (K : aj_Rt X none (fun r m => r = none ∧ Φ m)) : ∀ (k : Nat) (q0 : List Nat) (v2 : Int) (v3 : Int) (m : aj_M) (hq0 : (.inl (8, q0) : aj_R) ∈ aj_pls), hX8_findFirst_51 f Φ k q0 v2 v3 m → aj_J X 51 [some (vO 8 q0), none, some (vI v2), some (vI v3)] [] m := by
  intro k
  induction k with
  | zero =>
    intro q0 v2 v3 m _ h
    exact h.elim
  | succ k ih =>
    intro q0 v2 v3 m hq0 h
    unfold hX8_findFirst_51 at h
    refine aj_iload_n C dX8_findFirst_51 rfl ?_
    refine aj_aload_n C dX8_findFirst_52 rfl ?_
    refine aj_getO (x := 5) (y := 0) C flX8_26 hq0 rfl dX8_findFirst_53 ?_
    refine aj_getI C flX8_53 (aj_cf (x := 5) (y := 0) (j := 3) hq0 (by decide) rfl) (by decide) dX8_findFirst_56 rfl ?_
    obtain ⟨r0, r1, h1, h2⟩ := h
    refine aj_icmp_ge (tgt := 113) C dX8_findFirst_59 (by decide) r0 r1 (fun e => ?_) (fun e => ?_)
    · have h := h1 e
      refine aj_aload_n C dX8_findFirst_113 rfl ?_
      refine aj_getO (x := 5) (y := 0) C flX8_26 hq0 rfl dX8_findFirst_114 ?_
      refine aj_lconst (z := 0) C dX8_findFirst_117 rfl ?_
      refine aj_putL C fpX8_64 (aj_cf (x := 5) (y := 0) (j := 3) hq0 (by decide) rfl) rfl dX8_findFirst_118 ?_
      refine aj_nm (fun m1 e1 => ?_)
      have h := h m1 e1
      exact aj_vret C K dX8_findFirst_121 ⟨rfl, h⟩
    · have h := h2 e
      refine aj_iload_n C dX8_findFirst_62 rfl ?_
      obtain ⟨r0, h1, h2⟩ := h
      refine aj_if_ne (tgt := 113) C dX8_findFirst_63 (by decide) r0 (fun e => ?_) (fun e => ?_)
      · have h := h1 e
        refine aj_aload_n C dX8_findFirst_113 rfl ?_
        refine aj_getO (x := 5) (y := 0) C flX8_26 hq0 rfl dX8_findFirst_114 ?_
        refine aj_lconst (z := 0) C dX8_findFirst_117 rfl ?_
        refine aj_putL C fpX8_64 (aj_cf (x := 5) (y := 0) (j := 3) hq0 (by decide) rfl) rfl dX8_findFirst_118 ?_
        refine aj_nm (fun m2 e1 => ?_)
        have h := h m2 e1
        exact aj_vret C K dX8_findFirst_121 ⟨rfl, h⟩
      · have h := h2 e
        refine aj_aload_n C dX8_findFirst_66 rfl ?_
        refine aj_getA (x := 0) (y := 60) C flX8_19 hq0 rfl dX8_findFirst_67 ?_
        refine aj_iconst C dX8_findFirst_70 ?_
        refine aj_iload_n C dX8_findFirst_71 rfl ?_
        refine aj_iast C (aj_ca (e := 0) (n := 60) (j := 2) hq0 (by decide) rfl) (by decide) (by decide) dX8_findFirst_72 ?_
        refine aj_nm (fun m3 e1 => ?_)
        have h := h m3 e1
        refine aj_aload_n C dX8_findFirst_73 rfl ?_
        refine aj_getI C flX8_15 hq0 (by decide) dX8_findFirst_74 rfl ?_
        refine aj_iconst C dX8_findFirst_77 ?_
        obtain ⟨r0, h1, h2⟩ := h
        refine aj_icmp_ne (tgt := 101) C dX8_findFirst_78 (by decide) r0 (by decide) (fun e => ?_) (fun e => ?_)
        · have h := h1 e
          refine aj_aload_n C dX8_findFirst_101 rfl ?_
          refine aj_iload_n C dX8_findFirst_102 rfl ?_
          refine aj_callV (rest := []) C mvX8_60 (sX8_findFrom hq0 h) hq0 (aj_np 1 (by decide +kernel) rfl) (Nat.le_of_ble_eq_true rfl) rfl dX8_findFirst_103 (fun r m4 h => ?_)
          obtain ⟨z1, rfl, h⟩ := h
          refine aj_istore_n (lv' := [some (vO 8 q0), none, some (vI z1), some (vI v3)]) C dX8_findFirst_106 (by decide) rfl ?_
          refine aj_iinc (lv' := [some (vO 8 q0), none, some (vI z1), some (vI (v3 + 1))]) C dX8_findFirst_107 rfl (by decide) rfl ?_
          refine aj_goto (tgt := 51) C dX8_findFirst_110 (by decide) ?_
          exact ih q0 z1 (v3 + 1) _ hq0 h
        · have h := h2 e
          refine aj_aload_n C dX8_findFirst_81 rfl ?_
          refine aj_getO (x := 5) (y := 0) C flX8_26 hq0 rfl dX8_findFirst_82 ?_
          refine aj_iload_n C dX8_findFirst_85 rfl ?_
          refine aj_iload_n C dX8_findFirst_86 rfl ?_
          refine aj_callV (rest := []) C mvX8_56 (sX5_linksBetween (aj_cf (x := 5) (y := 0) (j := 3) hq0 (by decide) rfl) h) (aj_cf (x := 5) (y := 0) (j := 3) hq0 (by decide) rfl) (aj_np 2 (by decide +kernel) rfl) (Nat.le_of_ble_eq_true rfl) rfl dX8_findFirst_87 (fun r m5 h => ?_)
          obtain ⟨z2, rfl, h⟩ := h
          obtain ⟨r0, h1, h2⟩ := h
          refine aj_if_le (tgt := 97) C dX8_findFirst_90 (by decide) r0 (fun e => ?_) (fun e => ?_)
          · have h := h1 e
            refine aj_iconst C dX8_findFirst_97 ?_
            refine aj_goto (tgt := 106) C dX8_findFirst_98 (by decide) ?_
            refine aj_istore_n (lv' := [some (vO 8 q0), none, some (vI 0), some (vI v3)]) C dX8_findFirst_106 (by decide) rfl ?_
            refine aj_iinc (lv' := [some (vO 8 q0), none, some (vI 0), some (vI (v3 + 1))]) C dX8_findFirst_107 rfl (by decide) rfl ?_
            refine aj_goto (tgt := 51) C dX8_findFirst_110 (by decide) ?_
            exact ih q0 0 (v3 + 1) _ hq0 h
          · have h := h2 e
            refine aj_iconst C dX8_findFirst_93 ?_
            refine aj_goto (tgt := 106) C dX8_findFirst_94 (by decide) ?_
            refine aj_istore_n (lv' := [some (vO 8 q0), none, some (vI 1), some (vI v3)]) C dX8_findFirst_106 (by decide) rfl ?_
            refine aj_iinc (lv' := [some (vO 8 q0), none, some (vI 1), some (vI (v3 + 1))]) C dX8_findFirst_107 rfl (by decide) rfl ?_
            refine aj_goto (tgt := 51) C dX8_findFirst_110 (by decide) ?_
            exact ih q0 1 (v3 + 1) _ hq0 h
def wX8_findFirst (f : Nat) (Φ : aj_M → Prop) (q0 : List Nat) (m : aj_M) : Prop := rI (m q0 0) ∧ ((m q0 0) = 0 → ∀ m1, m1 = aj_u m q0 0 1 → wX5_shortestRing f (fun z1 m2 => rI z1 ∧ (60 < z1 → ∀ m3, m3 = aj_u m2 q0 1 0 → rI (m3 q0 1) ∧ (¬ (m3 q0 1) = 0 → hX8_findFirst_51 f Φ f q0 0 0 m3) ∧ ((m3 q0 1) = 0 → hX8_findFirst_51 f Φ f q0 1 0 m3)) ∧ (¬ (60 < z1) → ∀ m4, m4 = aj_u m2 q0 1 z1 → rI (m4 q0 1) ∧ (¬ (m4 q0 1) = 0 → hX8_findFirst_51 f Φ f q0 0 0 m4) ∧ ((m4 q0 1) = 0 → hX8_findFirst_51 f Φ f q0 1 0 m4))) (3 :: q0) m1) ∧ (¬ ((m q0 0) = 0) → Φ m)
set_option maxHeartbeats 4000000 in
set_option maxRecDepth 100000 in
theorem sX8_findFirst {n f : Nat} {Φ : aj_M → Prop} {q0 : List Nat} {m : aj_M} (hq0 : (.inl (8, q0) : aj_R) ∈ aj_pls) (h : wX8_findFirst f Φ q0 m) : aj_Ct (n + 4) yX8_findFirst cX8_findFirst 4 none [vO 8 q0] m (fun r m => r = none ∧ Φ m) := by
  refine aj_met (lv := [some (vO 8 q0), none, none, none]) (by decide +kernel) rfl (Nat.le_of_ble_eq_true rfl) (fun X C K => ?_)
  unfold wX8_findFirst at h
  refine aj_aload_n C dX8_findFirst_0 rfl ?_
  refine aj_getI C flX8_9 hq0 (by decide) dX8_findFirst_1 rfl ?_
  obtain ⟨r0, h1, h2⟩ := h
  refine aj_if_eq (tgt := 8) C dX8_findFirst_4 (by decide) r0 (fun e => ?_) (fun e => ?_)
  · have h := h1 e
    refine aj_aload_n C dX8_findFirst_8 rfl ?_
    refine aj_iconst C dX8_findFirst_9 ?_
    refine aj_putZ C fpX8_9 hq0 (Or.inr rfl) rfl dX8_findFirst_10 ?_
    refine aj_nm (fun m1 e1 => ?_)
    have h := h m1 e1
    refine aj_aload_n C dX8_findFirst_13 rfl ?_
    refine aj_getO (x := 5) (y := 0) C flX8_26 hq0 rfl dX8_findFirst_14 ?_
    refine aj_callV (rest := []) C mvX8_49 (sX5_shortestRing (aj_cf (x := 5) (y := 0) (j := 3) hq0 (by decide) rfl) h) (aj_cf (x := 5) (y := 0) (j := 3) hq0 (by decide) rfl) (aj_np 0 (by decide +kernel) rfl) (Nat.le_of_ble_eq_true rfl) rfl dX8_findFirst_17 (fun r m2 h => ?_)
    obtain ⟨z1, rfl, h⟩ := h
    refine aj_istore_n (lv' := [some (vO 8 q0), some (vI z1), none, none]) C dX8_findFirst_20 (by decide) rfl ?_
    refine aj_aload_n C dX8_findFirst_21 rfl ?_
    refine aj_iload_n C dX8_findFirst_22 rfl ?_
    refine aj_bipush C dX8_findFirst_23 (by decide) ?_
    obtain ⟨r0, h1, h2⟩ := h
    refine aj_icmp_gt (tgt := 32) C dX8_findFirst_25 (by decide) r0 (by decide) (fun e => ?_) (fun e => ?_)
    · have h := h1 e
      refine aj_iconst C dX8_findFirst_32 ?_
      refine aj_putI C fpX8_15 hq0 rfl dX8_findFirst_33 ?_
      refine aj_nm (fun m3 e1 => ?_)
      have h := h m3 e1
      refine aj_aload_n C dX8_findFirst_36 rfl ?_
      refine aj_getI C flX8_15 hq0 (by decide) dX8_findFirst_37 rfl ?_
      obtain ⟨r0, h1, h2⟩ := h
      refine aj_if_ne (tgt := 47) C dX8_findFirst_40 (by decide) r0 (fun e => ?_) (fun e => ?_)
      · have h := h1 e
        refine aj_iconst C dX8_findFirst_47 ?_
        refine aj_istore_n (lv' := [some (vO 8 q0), some (vI z1), some (vI 0), none]) C dX8_findFirst_48 (by decide) rfl ?_
        refine aj_iconst C dX8_findFirst_49 ?_
        refine aj_istore_n (lv' := [some (vO 8 q0), some (vI z1), some (vI 0), some (vI 0)]) C dX8_findFirst_50 (by decide) rfl ?_
        refine aj_wk (lv' := [some (vO 8 q0), none, some (vI 0), some (vI 0)]) (⟨rfl, ⟨rfl, ⟨rfl, trivial⟩⟩⟩) ?_
        exact tX8_findFirst_51 C K f q0 0 0 _ hq0 h
      · have h := h2 e
        refine aj_iconst C dX8_findFirst_43 ?_
        refine aj_goto (tgt := 48) C dX8_findFirst_44 (by decide) ?_
        refine aj_istore_n (lv' := [some (vO 8 q0), some (vI z1), some (vI 1), none]) C dX8_findFirst_48 (by decide) rfl ?_
        refine aj_iconst C dX8_findFirst_49 ?_
        refine aj_istore_n (lv' := [some (vO 8 q0), some (vI z1), some (vI 1), some (vI 0)]) C dX8_findFirst_50 (by decide) rfl ?_
        refine aj_wk (lv' := [some (vO 8 q0), none, some (vI 1), some (vI 0)]) (⟨rfl, ⟨rfl, ⟨rfl, trivial⟩⟩⟩) ?_
        exact tX8_findFirst_51 C K f q0 1 0 _ hq0 h
    · have h := h2 e
      refine aj_iload_n C dX8_findFirst_28 rfl ?_
      refine aj_goto (tgt := 33) C dX8_findFirst_29 (by decide) ?_
      refine aj_putI C fpX8_15 hq0 rfl dX8_findFirst_33 ?_
      refine aj_nm (fun m4 e1 => ?_)
      have h := h m4 e1
      refine aj_aload_n C dX8_findFirst_36 rfl ?_
      refine aj_getI C flX8_15 hq0 (by decide) dX8_findFirst_37 rfl ?_
      obtain ⟨r0, h1, h2⟩ := h
      refine aj_if_ne (tgt := 47) C dX8_findFirst_40 (by decide) r0 (fun e => ?_) (fun e => ?_)
      · have h := h1 e
        refine aj_iconst C dX8_findFirst_47 ?_
        refine aj_istore_n (lv' := [some (vO 8 q0), some (vI z1), some (vI 0), none]) C dX8_findFirst_48 (by decide) rfl ?_
        refine aj_iconst C dX8_findFirst_49 ?_
        refine aj_istore_n (lv' := [some (vO 8 q0), some (vI z1), some (vI 0), some (vI 0)]) C dX8_findFirst_50 (by decide) rfl ?_
        refine aj_wk (lv' := [some (vO 8 q0), none, some (vI 0), some (vI 0)]) (⟨rfl, ⟨rfl, ⟨rfl, trivial⟩⟩⟩) ?_
        exact tX8_findFirst_51 C K f q0 0 0 _ hq0 h
      · have h := h2 e
        refine aj_iconst C dX8_findFirst_43 ?_
        refine aj_goto (tgt := 48) C dX8_findFirst_44 (by decide) ?_
        refine aj_istore_n (lv' := [some (vO 8 q0), some (vI z1), some (vI 1), none]) C dX8_findFirst_48 (by decide) rfl ?_
        refine aj_iconst C dX8_findFirst_49 ?_
        refine aj_istore_n (lv' := [some (vO 8 q0), some (vI z1), some (vI 1), some (vI 0)]) C dX8_findFirst_50 (by decide) rfl ?_
        refine aj_wk (lv' := [some (vO 8 q0), none, some (vI 1), some (vI 0)]) (⟨rfl, ⟨rfl, ⟨rfl, trivial⟩⟩⟩) ?_
        exact tX8_findFirst_51 C K f q0 1 0 _ hq0 h
  · have h := h2 e
    exact aj_vret C K dX8_findFirst_7 ⟨rfl, h⟩
theorem dX8_countSelfLinks_0 : decode cX8_countSelfLinks 0 = .ok (.iconst 0, 1) := by decide +kernel
theorem dX8_countSelfLinks_1 : decode cX8_countSelfLinks 1 = .ok (.istore_n 1, 1) := by decide +kernel
theorem dX8_countSelfLinks_2 : decode cX8_countSelfLinks 2 = .ok (.iconst 0, 1) := by decide +kernel
theorem dX8_countSelfLinks_3 : decode cX8_countSelfLinks 3 = .ok (.istore_n 2, 1) := by decide +kernel
theorem dX8_countSelfLinks_4 : decode cX8_countSelfLinks 4 = .ok (.iload_n 2, 1) := by decide +kernel
theorem dX8_countSelfLinks_5 : decode cX8_countSelfLinks 5 = .ok (.aload_n 0, 1) := by decide +kernel
theorem dX8_countSelfLinks_6 : decode cX8_countSelfLinks 6 = .ok (.getfield 26, 3) := by decide +kernel
theorem dX8_countSelfLinks_9 : decode cX8_countSelfLinks 9 = .ok (.getfield 110, 3) := by decide +kernel
theorem dX8_countSelfLinks_12 : decode cX8_countSelfLinks 12 = .ok (.if_icmp .ge 38, 3) := by decide +kernel
theorem dX8_countSelfLinks_15 : decode cX8_countSelfLinks 15 = .ok (.iload_n 1, 1) := by decide +kernel
theorem dX8_countSelfLinks_16 : decode cX8_countSelfLinks 16 = .ok (.aload_n 0, 1) := by decide +kernel
theorem dX8_countSelfLinks_17 : decode cX8_countSelfLinks 17 = .ok (.getfield 26, 3) := by decide +kernel
theorem dX8_countSelfLinks_20 : decode cX8_countSelfLinks 20 = .ok (.getfield 113, 3) := by decide +kernel
theorem dX8_countSelfLinks_23 : decode cX8_countSelfLinks 23 = .ok (.iload_n 2, 1) := by decide +kernel
theorem dX8_countSelfLinks_24 : decode cX8_countSelfLinks 24 = .ok (.iaload, 1) := by decide +kernel
theorem dX8_countSelfLinks_25 : decode cX8_countSelfLinks 25 = .ok (.aload_n 0, 1) := by decide +kernel
theorem dX8_countSelfLinks_26 : decode cX8_countSelfLinks 26 = .ok (.getfield 26, 3) := by decide +kernel
theorem dX8_countSelfLinks_29 : decode cX8_countSelfLinks 29 = .ok (.getfield 116, 3) := by decide +kernel
theorem dX8_countSelfLinks_32 : decode cX8_countSelfLinks 32 = .ok (.iload_n 2, 1) := by decide +kernel
theorem dX8_countSelfLinks_33 : decode cX8_countSelfLinks 33 = .ok (.iaload, 1) := by decide +kernel
theorem dX8_countSelfLinks_34 : decode cX8_countSelfLinks 34 = .ok (.if_icmp .ne 7, 3) := by decide +kernel
theorem dX8_countSelfLinks_37 : decode cX8_countSelfLinks 37 = .ok (.iconst 1, 1) := by decide +kernel
theorem dX8_countSelfLinks_38 : decode cX8_countSelfLinks 38 = .ok (.goto 4, 3) := by decide +kernel
theorem dX8_countSelfLinks_41 : decode cX8_countSelfLinks 41 = .ok (.iconst 0, 1) := by decide +kernel
theorem dX8_countSelfLinks_42 : decode cX8_countSelfLinks 42 = .ok (.iadd, 1) := by decide +kernel
theorem dX8_countSelfLinks_43 : decode cX8_countSelfLinks 43 = .ok (.istore_n 1, 1) := by decide +kernel
theorem dX8_countSelfLinks_44 : decode cX8_countSelfLinks 44 = .ok (.iinc 2 1, 3) := by decide +kernel
theorem dX8_countSelfLinks_47 : decode cX8_countSelfLinks 47 = .ok (.goto (-43), 3) := by decide +kernel
theorem dX8_countSelfLinks_50 : decode cX8_countSelfLinks 50 = .ok (.iload_n 1, 1) := by decide +kernel
theorem dX8_countSelfLinks_51 : decode cX8_countSelfLinks 51 = .ok (.ireturn, 1) := by decide +kernel
def hX8_countSelfLinks_4 (f : Nat) (Φ : Int → aj_M → Prop) : Nat → List Nat → Int → Int → aj_M → Prop
  | 0, _, _, _, _ => False
  | k + 1, q0, v1, v2, m => rI v2 ∧ rI (m (3 :: q0) 1) ∧ ((m (3 :: q0) 1) ≤ v2 → Φ v1 m) ∧ (¬ ((m (3 :: q0) 1) ≤ v2) → (0 ≤ v2 ∧ v2 < 144) ∧ (0 ≤ v2 ∧ v2 < 144) ∧ rI (m (2 :: (3 :: q0)) v2.toNat) ∧ rI (m (3 :: (3 :: q0)) v2.toNat) ∧ (¬ (m (2 :: (3 :: q0)) v2.toNat) = (m (3 :: (3 :: q0)) v2.toNat) → hX8_countSelfLinks_4 f Φ k q0 (v1 + 0) (v2 + 1) m) ∧ ((m (2 :: (3 :: q0)) v2.toNat) = (m (3 :: (3 :: q0)) v2.toNat) → hX8_countSelfLinks_4 f Φ k q0 (v1 + 1) (v2 + 1) m))
set_option maxHeartbeats 4000000 in
set_option maxRecDepth 100000 in
theorem tX8_countSelfLinks_4 {X : aj_T} {n f : Nat} {Φ : Int → aj_M → Prop} (C : aj_Cx X cX8_countSelfLinks RX8 3 n) (K : aj_Rt X (some .int) (fun r m => ∃ z, r = some (vI z) ∧ Φ z m)) : ∀ (k : Nat) (q0 : List Nat) (v1 : Int) (v2 : Int) (m : aj_M) (hq0 : (.inl (8, q0) : aj_R) ∈ aj_pls), hX8_countSelfLinks_4 f Φ k q0 v1 v2 m → aj_J X 4 [some (vO 8 q0), some (vI v1), some (vI v2)] [] m := by
  intro k
  induction k with
  | zero =>
    intro q0 v1 v2 m _ h
    exact h.elim
  | succ k ih =>
    intro q0 v1 v2 m hq0 h
    unfold hX8_countSelfLinks_4 at h
    refine aj_iload_n C dX8_countSelfLinks_4 rfl ?_
    refine aj_aload_n C dX8_countSelfLinks_5 rfl ?_
    refine aj_getO (x := 5) (y := 0) C flX8_26 hq0 rfl dX8_countSelfLinks_6 ?_
    refine aj_getI C flX8_110 (aj_cf (x := 5) (y := 0) (j := 3) hq0 (by decide) rfl) (by decide) dX8_countSelfLinks_9 rfl ?_
    obtain ⟨r0, r1, h1, h2⟩ := h
    refine aj_icmp_ge (tgt := 50) C dX8_countSelfLinks_12 (by decide) r0 r1 (fun e => ?_) (fun e => ?_)
    · have h := h1 e
      refine aj_iload_n C dX8_countSelfLinks_50 rfl ?_
      exact aj_iret C K dX8_countSelfLinks_51 ⟨_, rfl, h⟩
    · have h := h2 e
      refine aj_iload_n C dX8_countSelfLinks_15 rfl ?_
      refine aj_aload_n C dX8_countSelfLinks_16 rfl ?_
      refine aj_getO (x := 5) (y := 0) C flX8_26 hq0 rfl dX8_countSelfLinks_17 ?_
      refine aj_getA (x := 0) (y := 144) C flX8_113 (aj_cf (x := 5) (y := 0) (j := 3) hq0 (by decide) rfl) rfl dX8_countSelfLinks_20 ?_
      refine aj_iload_n C dX8_countSelfLinks_23 rfl ?_
      obtain ⟨r0, h⟩ := h
      refine aj_iald C (aj_ca (e := 0) (n := 144) (j := 2) (aj_cf (x := 5) (y := 0) (j := 3) hq0 (by decide) rfl) (by decide) rfl) (by decide) r0 dX8_countSelfLinks_24 rfl ?_
      refine aj_aload_n C dX8_countSelfLinks_25 rfl ?_
      refine aj_getO (x := 5) (y := 0) C flX8_26 hq0 rfl dX8_countSelfLinks_26 ?_
      refine aj_getA (x := 0) (y := 144) C flX8_116 (aj_cf (x := 5) (y := 0) (j := 3) hq0 (by decide) rfl) rfl dX8_countSelfLinks_29 ?_
      refine aj_iload_n C dX8_countSelfLinks_32 rfl ?_
      obtain ⟨r0, h⟩ := h
      refine aj_iald C (aj_ca (e := 0) (n := 144) (j := 3) (aj_cf (x := 5) (y := 0) (j := 3) hq0 (by decide) rfl) (by decide) rfl) (by decide) r0 dX8_countSelfLinks_33 rfl ?_
      obtain ⟨r0, r1, h1, h2⟩ := h
      refine aj_icmp_ne (tgt := 41) C dX8_countSelfLinks_34 (by decide) r0 r1 (fun e => ?_) (fun e => ?_)
      · have h := h1 e
        refine aj_iconst C dX8_countSelfLinks_41 ?_
        refine aj_iadd C dX8_countSelfLinks_42 ?_
        refine aj_istore_n (lv' := [some (vO 8 q0), some (vI (v1 + 0)), some (vI v2)]) C dX8_countSelfLinks_43 (by decide) rfl ?_
        refine aj_iinc (lv' := [some (vO 8 q0), some (vI (v1 + 0)), some (vI (v2 + 1))]) C dX8_countSelfLinks_44 rfl (by decide) rfl ?_
        refine aj_goto (tgt := 4) C dX8_countSelfLinks_47 (by decide) ?_
        exact ih q0 (v1 + 0) (v2 + 1) _ hq0 h
      · have h := h2 e
        refine aj_iconst C dX8_countSelfLinks_37 ?_
        refine aj_goto (tgt := 42) C dX8_countSelfLinks_38 (by decide) ?_
        refine aj_iadd C dX8_countSelfLinks_42 ?_
        refine aj_istore_n (lv' := [some (vO 8 q0), some (vI (v1 + 1)), some (vI v2)]) C dX8_countSelfLinks_43 (by decide) rfl ?_
        refine aj_iinc (lv' := [some (vO 8 q0), some (vI (v1 + 1)), some (vI (v2 + 1))]) C dX8_countSelfLinks_44 rfl (by decide) rfl ?_
        refine aj_goto (tgt := 4) C dX8_countSelfLinks_47 (by decide) ?_
        exact ih q0 (v1 + 1) (v2 + 1) _ hq0 h
def wX8_countSelfLinks (f : Nat) (Φ : Int → aj_M → Prop) (q0 : List Nat) (m : aj_M) : Prop := hX8_countSelfLinks_4 f Φ f q0 0 0 m
set_option maxHeartbeats 4000000 in
set_option maxRecDepth 100000 in
theorem sX8_countSelfLinks {n f : Nat} {Φ : Int → aj_M → Prop} {q0 : List Nat} {m : aj_M} (hq0 : (.inl (8, q0) : aj_R) ∈ aj_pls) (h : wX8_countSelfLinks f Φ q0 m) : aj_Ct n yX8_countSelfLinks cX8_countSelfLinks 3 (some .int) [vO 8 q0] m (fun r m => ∃ z, r = some (vI z) ∧ Φ z m) := by
  refine aj_met (lv := [some (vO 8 q0), none, none]) (by decide +kernel) rfl (Nat.le_of_ble_eq_true rfl) (fun X C K => ?_)
  unfold wX8_countSelfLinks at h
  refine aj_iconst C dX8_countSelfLinks_0 ?_
  refine aj_istore_n (lv' := [some (vO 8 q0), some (vI 0), none]) C dX8_countSelfLinks_1 (by decide) rfl ?_
  refine aj_iconst C dX8_countSelfLinks_2 ?_
  refine aj_istore_n (lv' := [some (vO 8 q0), some (vI 0), some (vI 0)]) C dX8_countSelfLinks_3 (by decide) rfl ?_
  exact tX8_countSelfLinks_4 C K f q0 0 0 _ hq0 h
