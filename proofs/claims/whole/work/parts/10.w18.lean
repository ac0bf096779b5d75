theorem dX12_timesUnits_0 : decode cX12_timesUnits 0 = .ok (.iload_n 0, 1) := by decide +kernel
theorem dX12_timesUnits_1 : decode cX12_timesUnits 1 = .ok (.iconst 4, 1) := by decide +kernel
theorem dX12_timesUnits_2 : decode cX12_timesUnits 2 = .ok (.irem, 1) := by decide +kernel
theorem dX12_timesUnits_3 : decode cX12_timesUnits 3 = .ok (.istore_n 2, 1) := by decide +kernel
theorem dX12_timesUnits_4 : decode cX12_timesUnits 4 = .ok (.iload_n 1, 1) := by decide +kernel
theorem dX12_timesUnits_5 : decode cX12_timesUnits 5 = .ok (.iconst 4, 1) := by decide +kernel
theorem dX12_timesUnits_6 : decode cX12_timesUnits 6 = .ok (.irem, 1) := by decide +kernel
theorem dX12_timesUnits_7 : decode cX12_timesUnits 7 = .ok (.istore_n 3, 1) := by decide +kernel
theorem dX12_timesUnits_8 : decode cX12_timesUnits 8 = .ok (.iload_n 0, 1) := by decide +kernel
theorem dX12_timesUnits_9 : decode cX12_timesUnits 9 = .ok (.iconst 4, 1) := by decide +kernel
theorem dX12_timesUnits_10 : decode cX12_timesUnits 10 = .ok (.idiv, 1) := by decide +kernel
theorem dX12_timesUnits_11 : decode cX12_timesUnits 11 = .ok (.iload_n 1, 1) := by decide +kernel
theorem dX12_timesUnits_12 : decode cX12_timesUnits 12 = .ok (.iconst 4, 1) := by decide +kernel
theorem dX12_timesUnits_13 : decode cX12_timesUnits 13 = .ok (.idiv, 1) := by decide +kernel
theorem dX12_timesUnits_14 : decode cX12_timesUnits 14 = .ok (.iadd, 1) := by decide +kernel
theorem dX12_timesUnits_15 : decode cX12_timesUnits 15 = .ok (.istore 4, 2) := by decide +kernel
theorem dX12_timesUnits_17 : decode cX12_timesUnits 17 = .ok (.iload_n 2, 1) := by decide +kernel
theorem dX12_timesUnits_18 : decode cX12_timesUnits 18 = .ok (.ifCond .ne 7, 3) := by decide +kernel
theorem dX12_timesUnits_21 : decode cX12_timesUnits 21 = .ok (.iload_n 3, 1) := by decide +kernel
theorem dX12_timesUnits_22 : decode cX12_timesUnits 22 = .ok (.goto 26, 3) := by decide +kernel
theorem dX12_timesUnits_25 : decode cX12_timesUnits 25 = .ok (.iload_n 3, 1) := by decide +kernel
theorem dX12_timesUnits_26 : decode cX12_timesUnits 26 = .ok (.ifCond .ne 7, 3) := by decide +kernel
theorem dX12_timesUnits_29 : decode cX12_timesUnits 29 = .ok (.iload_n 2, 1) := by decide +kernel
theorem dX12_timesUnits_30 : decode cX12_timesUnits 30 = .ok (.goto 18, 3) := by decide +kernel
theorem dX12_timesUnits_33 : decode cX12_timesUnits 33 = .ok (.iload_n 2, 1) := by decide +kernel
theorem dX12_timesUnits_34 : decode cX12_timesUnits 34 = .ok (.iload_n 3, 1) := by decide +kernel
theorem dX12_timesUnits_35 : decode cX12_timesUnits 35 = .ok (.if_icmp .ne 7, 3) := by decide +kernel
theorem dX12_timesUnits_38 : decode cX12_timesUnits 38 = .ok (.iconst 0, 1) := by decide +kernel
theorem dX12_timesUnits_39 : decode cX12_timesUnits 39 = .ok (.goto 9, 3) := by decide +kernel
theorem dX12_timesUnits_42 : decode cX12_timesUnits 42 = .ok (.bipush 6, 2) := by decide +kernel
theorem dX12_timesUnits_44 : decode cX12_timesUnits 44 = .ok (.iload_n 2, 1) := by decide +kernel
theorem dX12_timesUnits_45 : decode cX12_timesUnits 45 = .ok (.isub, 1) := by decide +kernel
theorem dX12_timesUnits_46 : decode cX12_timesUnits 46 = .ok (.iload_n 3, 1) := by decide +kernel
theorem dX12_timesUnits_47 : decode cX12_timesUnits 47 = .ok (.isub, 1) := by decide +kernel
theorem dX12_timesUnits_48 : decode cX12_timesUnits 48 = .ok (.istore 5, 2) := by decide +kernel
theorem dX12_timesUnits_50 : decode cX12_timesUnits 50 = .ok (.iload_n 2, 1) := by decide +kernel
theorem dX12_timesUnits_51 : decode cX12_timesUnits 51 = .ok (.ifCond .le 21, 3) := by decide +kernel
theorem dX12_timesUnits_54 : decode cX12_timesUnits 54 = .ok (.iload_n 3, 1) := by decide +kernel
theorem dX12_timesUnits_55 : decode cX12_timesUnits 55 = .ok (.ifCond .le 17, 3) := by decide +kernel
theorem dX12_timesUnits_58 : decode cX12_timesUnits 58 = .ok (.iload_n 3, 1) := by decide +kernel
theorem dX12_timesUnits_59 : decode cX12_timesUnits 59 = .ok (.iload_n 2, 1) := by decide +kernel
theorem dX12_timesUnits_60 : decode cX12_timesUnits 60 = .ok (.isub, 1) := by decide +kernel
theorem dX12_timesUnits_61 : decode cX12_timesUnits 61 = .ok (.iconst 3, 1) := by decide +kernel
theorem dX12_timesUnits_62 : decode cX12_timesUnits 62 = .ok (.invokestatic 195, 3) := by decide +kernel
theorem dX12_timesUnits_65 : decode cX12_timesUnits 65 = .ok (.iconst 1, 1) := by decide +kernel
theorem dX12_timesUnits_66 : decode cX12_timesUnits 66 = .ok (.if_icmp .eq 6, 3) := by decide +kernel
theorem dX12_timesUnits_69 : decode cX12_timesUnits 69 = .ok (.iinc 4 1, 3) := by decide +kernel
theorem dX12_timesUnits_72 : decode cX12_timesUnits 72 = .ok (.iload 5, 2) := by decide +kernel
theorem dX12_timesUnits_74 : decode cX12_timesUnits 74 = .ok (.iconst 4, 1) := by decide +kernel
theorem dX12_timesUnits_75 : decode cX12_timesUnits 75 = .ok (.iload 4, 2) := by decide +kernel
theorem dX12_timesUnits_77 : decode cX12_timesUnits 77 = .ok (.iconst 2, 1) := by decide +kernel
theorem dX12_timesUnits_78 : decode cX12_timesUnits 78 = .ok (.irem, 1) := by decide +kernel
theorem dX12_timesUnits_79 : decode cX12_timesUnits 79 = .ok (.imul, 1) := by decide +kernel
theorem dX12_timesUnits_80 : decode cX12_timesUnits 80 = .ok (.iadd, 1) := by decide +kernel
theorem dX12_timesUnits_81 : decode cX12_timesUnits 81 = .ok (.ireturn, 1) := by decide +kernel
def hX12_timesUnits_48 (f : Nat) (Φ : Int → aj_M → Prop) (v2 : Int) (v3 : Int) (v4 : Int) (vs0 : Int) (m : aj_M) : Prop := rI v2 ∧ (v2 ≤ 0 → (0 ≤ v4 ∧ v4 < 2147483648) ∧ Φ (vs0 + (4 * (v4 % 2))) m) ∧ (¬ (v2 ≤ 0) → rI v3 ∧ (v3 ≤ 0 → (0 ≤ v4 ∧ v4 < 2147483648) ∧ Φ (vs0 + (4 * (v4 % 2))) m) ∧ (¬ (v3 ≤ 0) → wX12_restOf f (fun z1 m1 => rI z1 ∧ (z1 = 1 → (0 ≤ v4 ∧ v4 < 2147483648) ∧ Φ (vs0 + (4 * (v4 % 2))) m1) ∧ (¬ (z1 = 1) → (0 ≤ (v4 + 1) ∧ (v4 + 1) < 2147483648) ∧ Φ (vs0 + (4 * ((v4 + 1) % 2))) m1)) (v3 - v2) 3 m))
set_option maxHeartbeats 4000000 in
set_option maxRecDepth 100000 in
theorem tX12_timesUnits_48 {X : aj_T} {n f : Nat} {Φ : Int → aj_M → Prop} (C : aj_Cx X cX12_timesUnits RX12 6 (n + 1)) (K : aj_Rt X (some .int) (fun r m => ∃ z, r = some (vI z) ∧ Φ z m)) (v2 : Int) (v3 : Int) (v4 : Int) (vs0 : Int) (m : aj_M)  (h : hX12_timesUnits_48 f Φ v2 v3 v4 vs0 m) : aj_J X 48 [none, none, some (vI v2), some (vI v3), some (vI v4), none] [vI vs0] m := by
  unfold hX12_timesUnits_48 at h
  refine aj_istore (lv' := [none, none, some (vI v2), some (vI v3), some (vI v4), some (vI vs0)]) C dX12_timesUnits_48 (by decide) rfl ?_
  refine aj_iload_n C dX12_timesUnits_50 rfl ?_
  obtain ⟨r0, h1, h2⟩ := h
  refine aj_if_le (tgt := 72) C dX12_timesUnits_51 (by decide) r0 (fun e => ?_) (fun e => ?_)
  · have h := h1 e
    refine aj_iload C dX12_timesUnits_72 rfl ?_
    refine aj_iconst C dX12_timesUnits_74 ?_
    refine aj_iload C dX12_timesUnits_75 rfl ?_
    refine aj_iconst C dX12_timesUnits_77 ?_
    obtain ⟨r0, h⟩ := h
    refine aj_iremN C dX12_timesUnits_78 r0 (by decide) ?_
    refine aj_imul C dX12_timesUnits_79 ?_
    refine aj_iadd C dX12_timesUnits_80 ?_
    exact aj_iret C K dX12_timesUnits_81 ⟨_, rfl, h⟩
  · have h := h2 e
    refine aj_iload_n C dX12_timesUnits_54 rfl ?_
    obtain ⟨r0, h1, h2⟩ := h
    refine aj_if_le (tgt := 72) C dX12_timesUnits_55 (by decide) r0 (fun e => ?_) (fun e => ?_)
    · have h := h1 e
      refine aj_iload C dX12_timesUnits_72 rfl ?_
      refine aj_iconst C dX12_timesUnits_74 ?_
      refine aj_iload C dX12_timesUnits_75 rfl ?_
      refine aj_iconst C dX12_timesUnits_77 ?_
      obtain ⟨r0, h⟩ := h
      refine aj_iremN C dX12_timesUnits_78 r0 (by decide) ?_
      refine aj_imul C dX12_timesUnits_79 ?_
      refine aj_iadd C dX12_timesUnits_80 ?_
      exact aj_iret C K dX12_timesUnits_81 ⟨_, rfl, h⟩
    · have h := h2 e
      refine aj_iload_n C dX12_timesUnits_58 rfl ?_
      refine aj_iload_n C dX12_timesUnits_59 rfl ?_
      refine aj_isub C dX12_timesUnits_60 ?_
      refine aj_iconst C dX12_timesUnits_61 ?_
      refine aj_callS (rest := []) C msX12_195 (sX12_restOf  h) (aj_np 2 (by decide +kernel) rfl) (Nat.le_of_ble_eq_true rfl) rfl dX12_timesUnits_62 (fun r m1 h => ?_)
      obtain ⟨z1, rfl, h⟩ := h
      refine aj_iconst C dX12_timesUnits_65 ?_
      obtain ⟨r0, h1, h2⟩ := h
      refine aj_icmp_eq (tgt := 72) C dX12_timesUnits_66 (by decide) r0 (by decide) (fun e => ?_) (fun e => ?_)
      · have h := h1 e
        refine aj_iload C dX12_timesUnits_72 rfl ?_
        refine aj_iconst C dX12_timesUnits_74 ?_
        refine aj_iload C dX12_timesUnits_75 rfl ?_
        refine aj_iconst C dX12_timesUnits_77 ?_
        obtain ⟨r0, h⟩ := h
        refine aj_iremN C dX12_timesUnits_78 r0 (by decide) ?_
        refine aj_imul C dX12_timesUnits_79 ?_
        refine aj_iadd C dX12_timesUnits_80 ?_
        exact aj_iret C K dX12_timesUnits_81 ⟨_, rfl, h⟩
      · have h := h2 e
        refine aj_iinc (lv' := [none, none, some (vI v2), some (vI v3), some (vI (v4 + 1)), some (vI vs0)]) C dX12_timesUnits_69 rfl (by decide) rfl ?_
        refine aj_iload C dX12_timesUnits_72 rfl ?_
        refine aj_iconst C dX12_timesUnits_74 ?_
        refine aj_iload C dX12_timesUnits_75 rfl ?_
        refine aj_iconst C dX12_timesUnits_77 ?_
        obtain ⟨r0, h⟩ := h
        refine aj_iremN C dX12_timesUnits_78 r0 (by decide) ?_
        refine aj_imul C dX12_timesUnits_79 ?_
        refine aj_iadd C dX12_timesUnits_80 ?_
        exact aj_iret C K dX12_timesUnits_81 ⟨_, rfl, h⟩
def wX12_timesUnits (f : Nat) (Φ : Int → aj_M → Prop) (v0 : Int) (v1 : Int) (m : aj_M) : Prop := (0 ≤ v0 ∧ v0 < 2147483648) ∧ (0 ≤ v1 ∧ v1 < 2147483648) ∧ (0 ≤ v0 ∧ v0 < 2147483648) ∧ (0 ≤ v1 ∧ v1 < 2147483648) ∧ rI (v0 % 4) ∧ (¬ (v0 % 4) = 0 → rI (v1 % 4) ∧ (¬ (v1 % 4) = 0 → rI (v0 % 4) ∧ rI (v1 % 4) ∧ (¬ (v0 % 4) = (v1 % 4) → hX12_timesUnits_48 f Φ (v0 % 4) (v1 % 4) ((v0 / 4) + (v1 / 4)) ((6 - (v0 % 4)) - (v1 % 4)) m) ∧ ((v0 % 4) = (v1 % 4) → hX12_timesUnits_48 f Φ (v0 % 4) (v1 % 4) ((v0 / 4) + (v1 / 4)) 0 m)) ∧ ((v1 % 4) = 0 → hX12_timesUnits_48 f Φ (v0 % 4) (v1 % 4) ((v0 / 4) + (v1 / 4)) (v0 % 4) m)) ∧ ((v0 % 4) = 0 → hX12_timesUnits_48 f Φ (v0 % 4) (v1 % 4) ((v0 / 4) + (v1 / 4)) (v1 % 4) m)
set_option maxHeartbeats 4000000 in
set_option maxRecDepth 100000 in
theorem sX12_timesUnits {n f : Nat} {Φ : Int → aj_M → Prop} {v0 : Int} {v1 : Int} {m : aj_M}  (h : wX12_timesUnits f Φ v0 v1 m) : aj_Ct (n + 1) yX12_timesUnits cX12_timesUnits 6 (some .int) [vI v0, vI v1] m (fun r m => ∃ z, r = some (vI z) ∧ Φ z m) := by
  refine aj_met (lv := [some (vI v0), some (vI v1), none, none, none, none]) (by decide +kernel) rfl (Nat.le_of_ble_eq_true rfl) (fun X C K => ?_)
  unfold wX12_timesUnits at h
  refine aj_iload_n C dX12_timesUnits_0 rfl ?_
  refine aj_iconst C dX12_timesUnits_1 ?_
  obtain ⟨r0, h⟩ := h
  refine aj_iremN C dX12_timesUnits_2 r0 (by decide) ?_
  refine aj_istore_n (lv' := [some (vI v0), some (vI v1), some (vI (v0 % 4)), none, none, none]) C dX12_timesUnits_3 (by decide) rfl ?_
  refine aj_iload_n C dX12_timesUnits_4 rfl ?_
  refine aj_iconst C dX12_timesUnits_5 ?_
  obtain ⟨r0, h⟩ := h
  refine aj_iremN C dX12_timesUnits_6 r0 (by decide) ?_
  refine aj_istore_n (lv' := [some (vI v0), some (vI v1), some (vI (v0 % 4)), some (vI (v1 % 4)), none, none]) C dX12_timesUnits_7 (by decide) rfl ?_
  refine aj_iload_n C dX12_timesUnits_8 rfl ?_
  refine aj_iconst C dX12_timesUnits_9 ?_
  obtain ⟨r0, h⟩ := h
  refine aj_idivN C dX12_timesUnits_10 r0 (by decide) ?_
  refine aj_iload_n C dX12_timesUnits_11 rfl ?_
  refine aj_iconst C dX12_timesUnits_12 ?_
  obtain ⟨r0, h⟩ := h
  refine aj_idivN C dX12_timesUnits_13 r0 (by decide) ?_
  refine aj_iadd C dX12_timesUnits_14 ?_
  refine aj_istore (lv' := [some (vI v0), some (vI v1), some (vI (v0 % 4)), some (vI (v1 % 4)), some (vI ((v0 / 4) + (v1 / 4))), none]) C dX12_timesUnits_15 (by decide) rfl ?_
  refine aj_iload_n C dX12_timesUnits_17 rfl ?_
  obtain ⟨r0, h1, h2⟩ := h
  refine aj_if_ne (tgt := 25) C dX12_timesUnits_18 (by decide) r0 (fun e => ?_) (fun e => ?_)
  · have h := h1 e
    refine aj_iload_n C dX12_timesUnits_25 rfl ?_
    obtain ⟨r0, h1, h2⟩ := h
    refine aj_if_ne (tgt := 33) C dX12_timesUnits_26 (by decide) r0 (fun e => ?_) (fun e => ?_)
    · have h := h1 e
      refine aj_iload_n C dX12_timesUnits_33 rfl ?_
      refine aj_iload_n C dX12_timesUnits_34 rfl ?_
      obtain ⟨r0, r1, h1, h2⟩ := h
      refine aj_icmp_ne (tgt := 42) C dX12_timesUnits_35 (by decide) r0 r1 (fun e => ?_) (fun e => ?_)
      · have h := h1 e
        refine aj_bipush C dX12_timesUnits_42 (by decide) ?_
        refine aj_iload_n C dX12_timesUnits_44 rfl ?_
        refine aj_isub C dX12_timesUnits_45 ?_
        refine aj_iload_n C dX12_timesUnits_46 rfl ?_
        refine aj_isub C dX12_timesUnits_47 ?_
        refine aj_wk (lv' := [none, none, some (vI (v0 % 4)), some (vI (v1 % 4)), some (vI ((v0 / 4) + (v1 / 4))), none]) (⟨rfl, ⟨rfl, ⟨rfl, trivial⟩⟩⟩) ?_
        exact tX12_timesUnits_48 C K (v0 % 4) (v1 % 4) ((v0 / 4) + (v1 / 4)) ((6 - (v0 % 4)) - (v1 % 4)) _  h
      · have h := h2 e
        refine aj_iconst C dX12_timesUnits_38 ?_
        refine aj_goto (tgt := 48) C dX12_timesUnits_39 (by decide) ?_
        refine aj_wk (lv' := [none, none, some (vI (v0 % 4)), some (vI (v1 % 4)), some (vI ((v0 / 4) + (v1 / 4))), none]) (⟨rfl, ⟨rfl, ⟨rfl, trivial⟩⟩⟩) ?_
        exact tX12_timesUnits_48 C K (v0 % 4) (v1 % 4) ((v0 / 4) + (v1 / 4)) 0 _  h
    · have h := h2 e
      refine aj_iload_n C dX12_timesUnits_29 rfl ?_
      refine aj_goto (tgt := 48) C dX12_timesUnits_30 (by decide) ?_
      refine aj_wk (lv' := [none, none, some (vI (v0 % 4)), some (vI (v1 % 4)), some (vI ((v0 / 4) + (v1 / 4))), none]) (⟨rfl, ⟨rfl, ⟨rfl, trivial⟩⟩⟩) ?_
      exact tX12_timesUnits_48 C K (v0 % 4) (v1 % 4) ((v0 / 4) + (v1 / 4)) (v0 % 4) _  h
  · have h := h2 e
    refine aj_iload_n C dX12_timesUnits_21 rfl ?_
    refine aj_goto (tgt := 48) C dX12_timesUnits_22 (by decide) ?_
    refine aj_wk (lv' := [none, none, some (vI (v0 % 4)), some (vI (v1 % 4)), some (vI ((v0 / 4) + (v1 / 4))), none]) (⟨rfl, ⟨rfl, ⟨rfl, trivial⟩⟩⟩) ?_
    exact tX12_timesUnits_48 C K (v0 % 4) (v1 % 4) ((v0 / 4) + (v1 / 4)) (v1 % 4) _  h
theorem dX12_times_0 : decode cX12_times 0 = .ok (.aload_n 0, 1) := by decide +kernel
theorem dX12_times_1 : decode cX12_times 1 = .ok (.iconst 2, 1) := by decide +kernel
theorem dX12_times_2 : decode cX12_times 2 = .ok (.iaload, 1) := by decide +kernel
theorem dX12_times_3 : decode cX12_times 3 = .ok (.istore_n 3, 1) := by decide +kernel
theorem dX12_times_4 : decode cX12_times 4 = .ok (.aload_n 0, 1) := by decide +kernel
theorem dX12_times_5 : decode cX12_times 5 = .ok (.iconst 3, 1) := by decide +kernel
theorem dX12_times_6 : decode cX12_times 6 = .ok (.iaload, 1) := by decide +kernel
theorem dX12_times_7 : decode cX12_times 7 = .ok (.istore 4, 2) := by decide +kernel
theorem dX12_times_9 : decode cX12_times 9 = .ok (.aload_n 0, 1) := by decide +kernel
theorem dX12_times_10 : decode cX12_times 10 = .ok (.iconst 1, 1) := by decide +kernel
theorem dX12_times_11 : decode cX12_times 11 = .ok (.iaload, 1) := by decide +kernel
theorem dX12_times_12 : decode cX12_times 12 = .ok (.tableswitch 69 1 4 #[32, 69, 38, 63], 32) := by decide +kernel
theorem dX12_times_44 : decode cX12_times 44 = .ok (.iload_n 1, 1) := by decide +kernel
theorem dX12_times_45 : decode cX12_times 45 = .ok (.iload_n 2, 1) := by decide +kernel
theorem dX12_times_46 : decode cX12_times 46 = .ok (.iadd, 1) := by decide +kernel
theorem dX12_times_47 : decode cX12_times 47 = .ok (.iload_n 3, 1) := by decide +kernel
theorem dX12_times_48 : decode cX12_times 48 = .ok (.irem, 1) := by decide +kernel
theorem dX12_times_49 : decode cX12_times 49 = .ok (.ireturn, 1) := by decide +kernel
theorem dX12_times_50 : decode cX12_times 50 = .ok (.iload_n 1, 1) := by decide +kernel
theorem dX12_times_51 : decode cX12_times 51 = .ok (.iload 4, 2) := by decide +kernel
theorem dX12_times_53 : decode cX12_times 53 = .ok (.idiv, 1) := by decide +kernel
theorem dX12_times_54 : decode cX12_times 54 = .ok (.iload_n 2, 1) := by decide +kernel
theorem dX12_times_55 : decode cX12_times 55 = .ok (.iload 4, 2) := by decide +kernel
theorem dX12_times_57 : decode cX12_times 57 = .ok (.idiv, 1) := by decide +kernel
theorem dX12_times_58 : decode cX12_times 58 = .ok (.iadd, 1) := by decide +kernel
theorem dX12_times_59 : decode cX12_times 59 = .ok (.iload_n 3, 1) := by decide +kernel
theorem dX12_times_60 : decode cX12_times 60 = .ok (.irem, 1) := by decide +kernel
theorem dX12_times_61 : decode cX12_times 61 = .ok (.iload 4, 2) := by decide +kernel
theorem dX12_times_63 : decode cX12_times 63 = .ok (.imul, 1) := by decide +kernel
theorem dX12_times_64 : decode cX12_times 64 = .ok (.iload_n 1, 1) := by decide +kernel
theorem dX12_times_65 : decode cX12_times 65 = .ok (.iload_n 2, 1) := by decide +kernel
theorem dX12_times_66 : decode cX12_times 66 = .ok (.iload 4, 2) := by decide +kernel
theorem dX12_times_68 : decode cX12_times 68 = .ok (.irem, 1) := by decide +kernel
theorem dX12_times_69 : decode cX12_times 69 = .ok (.iadd, 1) := by decide +kernel
theorem dX12_times_70 : decode cX12_times 70 = .ok (.iload 4, 2) := by decide +kernel
theorem dX12_times_72 : decode cX12_times 72 = .ok (.irem, 1) := by decide +kernel
theorem dX12_times_73 : decode cX12_times 73 = .ok (.iadd, 1) := by decide +kernel
theorem dX12_times_74 : decode cX12_times 74 = .ok (.ireturn, 1) := by decide +kernel
theorem dX12_times_75 : decode cX12_times 75 = .ok (.iload_n 1, 1) := by decide +kernel
theorem dX12_times_76 : decode cX12_times 76 = .ok (.iload_n 2, 1) := by decide +kernel
theorem dX12_times_77 : decode cX12_times 77 = .ok (.invokestatic 191, 3) := by decide +kernel
theorem dX12_times_80 : decode cX12_times 80 = .ok (.ireturn, 1) := by decide +kernel
theorem dX12_times_81 : decode cX12_times 81 = .ok (.iload_n 1, 1) := by decide +kernel
theorem dX12_times_82 : decode cX12_times 82 = .ok (.iload_n 3, 1) := by decide +kernel
theorem dX12_times_83 : decode cX12_times 83 = .ok (.if_icmp .ge 26, 3) := by decide +kernel
theorem dX12_times_86 : decode cX12_times 86 = .ok (.iload_n 1, 1) := by decide +kernel
theorem dX12_times_87 : decode cX12_times 87 = .ok (.iload_n 2, 1) := by decide +kernel
theorem dX12_times_88 : decode cX12_times 88 = .ok (.iload_n 3, 1) := by decide +kernel
theorem dX12_times_89 : decode cX12_times 89 = .ok (.irem, 1) := by decide +kernel
theorem dX12_times_90 : decode cX12_times 90 = .ok (.iadd, 1) := by decide +kernel
theorem dX12_times_91 : decode cX12_times 91 = .ok (.iload_n 3, 1) := by decide +kernel
theorem dX12_times_92 : decode cX12_times 92 = .ok (.invokestatic 195, 3) := by decide +kernel
theorem dX12_times_95 : decode cX12_times 95 = .ok (.iload_n 2, 1) := by decide +kernel
theorem dX12_times_96 : decode cX12_times 96 = .ok (.iload_n 3, 1) := by decide +kernel
theorem dX12_times_97 : decode cX12_times 97 = .ok (.if_icmp .ge 7, 3) := by decide +kernel
theorem dX12_times_100 : decode cX12_times 100 = .ok (.iconst 0, 1) := by decide +kernel
theorem dX12_times_101 : decode cX12_times 101 = .ok (.goto 4, 3) := by decide +kernel
theorem dX12_times_104 : decode cX12_times 104 = .ok (.iload_n 3, 1) := by decide +kernel
theorem dX12_times_105 : decode cX12_times 105 = .ok (.iadd, 1) := by decide +kernel
theorem dX12_times_106 : decode cX12_times 106 = .ok (.goto 25, 3) := by decide +kernel
theorem dX12_times_109 : decode cX12_times 109 = .ok (.iload_n 1, 1) := by decide +kernel
theorem dX12_times_110 : decode cX12_times 110 = .ok (.iload_n 3, 1) := by decide +kernel
theorem dX12_times_111 : decode cX12_times 111 = .ok (.isub, 1) := by decide +kernel
theorem dX12_times_112 : decode cX12_times 112 = .ok (.iload_n 2, 1) := by decide +kernel
theorem dX12_times_113 : decode cX12_times 113 = .ok (.iload_n 3, 1) := by decide +kernel
theorem dX12_times_114 : decode cX12_times 114 = .ok (.irem, 1) := by decide +kernel
theorem dX12_times_115 : decode cX12_times 115 = .ok (.isub, 1) := by decide +kernel
theorem dX12_times_116 : decode cX12_times 116 = .ok (.iload_n 3, 1) := by decide +kernel
theorem dX12_times_117 : decode cX12_times 117 = .ok (.invokestatic 195, 3) := by decide +kernel
theorem dX12_times_120 : decode cX12_times 120 = .ok (.iload_n 2, 1) := by decide +kernel
theorem dX12_times_121 : decode cX12_times 121 = .ok (.iload_n 3, 1) := by decide +kernel
theorem dX12_times_122 : decode cX12_times 122 = .ok (.if_icmp .ge 7, 3) := by decide +kernel
theorem dX12_times_125 : decode cX12_times 125 = .ok (.iload_n 3, 1) := by decide +kernel
theorem dX12_times_126 : decode cX12_times 126 = .ok (.goto 4, 3) := by decide +kernel
theorem dX12_times_129 : decode cX12_times 129 = .ok (.iconst 0, 1) := by decide +kernel
theorem dX12_times_130 : decode cX12_times 130 = .ok (.iadd, 1) := by decide +kernel
theorem dX12_times_131 : decode cX12_times 131 = .ok (.ireturn, 1) := by decide +kernel
def wX12_times (f : Nat) (Φ : Int → aj_M → Prop) (ba0 : Nat) (a0 : List Nat) (v1 : Int) (v2 : Int) (m : aj_M) : Prop := ((0 : Int) ≤ 2 ∧ 2 < (ba0 : Int)) ∧ ((0 : Int) ≤ 3 ∧ 3 < (ba0 : Int)) ∧ ((0 : Int) ≤ 1 ∧ 1 < (ba0 : Int)) ∧ rI (m a0 (1 : Int).toNat) ∧ ((m a0 (1 : Int).toNat) < 1 ∨ 4 < (m a0 (1 : Int).toNat) → rI v1 ∧ rI (m a0 (2 : Int).toNat) ∧ ((m a0 (2 : Int).toNat) ≤ v1 → (0 ≤ v2 ∧ v2 < 2147483648) ∧ (0 < (m a0 (2 : Int).toNat) ∧ (m a0 (2 : Int).toNat) < 2147483648) ∧ wX12_restOf f (fun z1 m1 => rI v2 ∧ rI (m a0 (2 : Int).toNat) ∧ ((m a0 (2 : Int).toNat) ≤ v2 → Φ (z1 + 0) m1) ∧ (¬ ((m a0 (2 : Int).toNat) ≤ v2) → Φ (z1 + (m a0 (2 : Int).toNat)) m1)) ((v1 - (m a0 (2 : Int).toNat)) - (v2 % (m a0 (2 : Int).toNat))) (m a0 (2 : Int).toNat) m) ∧ (¬ ((m a0 (2 : Int).toNat) ≤ v1) → (0 ≤ v2 ∧ v2 < 2147483648) ∧ (0 < (m a0 (2 : Int).toNat) ∧ (m a0 (2 : Int).toNat) < 2147483648) ∧ wX12_restOf f (fun z2 m2 => rI v2 ∧ rI (m a0 (2 : Int).toNat) ∧ ((m a0 (2 : Int).toNat) ≤ v2 → Φ (z2 + (m a0 (2 : Int).toNat)) m2) ∧ (¬ ((m a0 (2 : Int).toNat) ≤ v2) → Φ (z2 + 0) m2)) (v1 + (v2 % (m a0 (2 : Int).toNat))) (m a0 (2 : Int).toNat) m)) ∧ ((m a0 (1 : Int).toNat) = 1 → (0 ≤ (v1 + v2) ∧ (v1 + v2) < 2147483648) ∧ (0 < (m a0 (2 : Int).toNat) ∧ (m a0 (2 : Int).toNat) < 2147483648) ∧ Φ ((v1 + v2) % (m a0 (2 : Int).toNat)) m) ∧ ((m a0 (1 : Int).toNat) = 2 → rI v1 ∧ rI (m a0 (2 : Int).toNat) ∧ ((m a0 (2 : Int).toNat) ≤ v1 → (0 ≤ v2 ∧ v2 < 2147483648) ∧ (0 < (m a0 (2 : Int).toNat) ∧ (m a0 (2 : Int).toNat) < 2147483648) ∧ wX12_restOf f (fun z3 m3 => rI v2 ∧ rI (m a0 (2 : Int).toNat) ∧ ((m a0 (2 : Int).toNat) ≤ v2 → Φ (z3 + 0) m3) ∧ (¬ ((m a0 (2 : Int).toNat) ≤ v2) → Φ (z3 + (m a0 (2 : Int).toNat)) m3)) ((v1 - (m a0 (2 : Int).toNat)) - (v2 % (m a0 (2 : Int).toNat))) (m a0 (2 : Int).toNat) m) ∧ (¬ ((m a0 (2 : Int).toNat) ≤ v1) → (0 ≤ v2 ∧ v2 < 2147483648) ∧ (0 < (m a0 (2 : Int).toNat) ∧ (m a0 (2 : Int).toNat) < 2147483648) ∧ wX12_restOf f (fun z4 m4 => rI v2 ∧ rI (m a0 (2 : Int).toNat) ∧ ((m a0 (2 : Int).toNat) ≤ v2 → Φ (z4 + (m a0 (2 : Int).toNat)) m4) ∧ (¬ ((m a0 (2 : Int).toNat) ≤ v2) → Φ (z4 + 0) m4)) (v1 + (v2 % (m a0 (2 : Int).toNat))) (m a0 (2 : Int).toNat) m)) ∧ ((m a0 (1 : Int).toNat) = 3 → (0 ≤ v1 ∧ v1 < 2147483648) ∧ (0 < (m a0 (3 : Int).toNat) ∧ (m a0 (3 : Int).toNat) < 2147483648) ∧ (0 ≤ v2 ∧ v2 < 2147483648) ∧ (0 < (m a0 (3 : Int).toNat) ∧ (m a0 (3 : Int).toNat) < 2147483648) ∧ (0 ≤ ((v1 / (m a0 (3 : Int).toNat)) + (v2 / (m a0 (3 : Int).toNat))) ∧ ((v1 / (m a0 (3 : Int).toNat)) + (v2 / (m a0 (3 : Int).toNat))) < 2147483648) ∧ (0 < (m a0 (2 : Int).toNat) ∧ (m a0 (2 : Int).toNat) < 2147483648) ∧ (0 ≤ v2 ∧ v2 < 2147483648) ∧ (0 < (m a0 (3 : Int).toNat) ∧ (m a0 (3 : Int).toNat) < 2147483648) ∧ (0 ≤ (v1 + (v2 % (m a0 (3 : Int).toNat))) ∧ (v1 + (v2 % (m a0 (3 : Int).toNat))) < 2147483648) ∧ (0 < (m a0 (3 : Int).toNat) ∧ (m a0 (3 : Int).toNat) < 2147483648) ∧ Φ (((((v1 / (m a0 (3 : Int).toNat)) + (v2 / (m a0 (3 : Int).toNat))) % (m a0 (2 : Int).toNat)) * (m a0 (3 : Int).toNat)) + ((v1 + (v2 % (m a0 (3 : Int).toNat))) % (m a0 (3 : Int).toNat))) m) ∧ ((m a0 (1 : Int).toNat) = 4 → wX12_timesUnits f (fun z5 m5 => Φ z5 m5) v1 v2 m)
set_option maxHeartbeats 4000000 in
set_option maxRecDepth 100000 in
theorem sX12_times {n f : Nat} {Φ : Int → aj_M → Prop} {ba0 : Nat} {a0 : List Nat} {v1 : Int} {v2 : Int} {m : aj_M} (ha0 : (.inr (0, ba0, a0) : aj_R) ∈ aj_pls) (hba0 : ba0 < 2147483648) (h : wX12_times f Φ ba0 a0 v1 v2 m) : aj_Ct (n + 2) yX12_times cX12_times 5 (some .int) [vA 0 ba0 a0, vI v1, vI v2] m (fun r m => ∃ z, r = some (vI z) ∧ Φ z m) := by
  refine aj_met (lv := [some (vA 0 ba0 a0), some (vI v1), some (vI v2), none, none]) (by decide +kernel) rfl (Nat.le_of_ble_eq_true rfl) (fun X C K => ?_)
  unfold wX12_times at h
  refine aj_aload_n C dX12_times_0 rfl ?_
  refine aj_iconst C dX12_times_1 ?_
  obtain ⟨r0, h⟩ := h
  refine aj_iald C ha0 hba0 r0 dX12_times_2 rfl ?_
  refine aj_istore_n (lv' := [some (vA 0 ba0 a0), some (vI v1), some (vI v2), some (vI (m a0 (2 : Int).toNat)), none]) C dX12_times_3 (by decide) rfl ?_
  refine aj_aload_n C dX12_times_4 rfl ?_
  refine aj_iconst C dX12_times_5 ?_
  obtain ⟨r0, h⟩ := h
  refine aj_iald C ha0 hba0 r0 dX12_times_6 rfl ?_
  refine aj_istore (lv' := [some (vA 0 ba0 a0), some (vI v1), some (vI v2), some (vI (m a0 (2 : Int).toNat)), some (vI (m a0 (3 : Int).toNat))]) C dX12_times_7 (by decide) rfl ?_
  refine aj_aload_n C dX12_times_9 rfl ?_
  refine aj_iconst C dX12_times_10 ?_
  obtain ⟨r0, h⟩ := h
  refine aj_iald C ha0 hba0 r0 dX12_times_11 rfl ?_
  obtain ⟨r0, hd, hc0, hc1, hc2, hc3⟩ := h
  rcases (by omega : ((m a0 (1 : Int).toNat) < 1 ∨ 4 < (m a0 (1 : Int).toNat)) ∨ (m a0 (1 : Int).toNat) = 1 ∨ (m a0 (1 : Int).toNat) = 2 ∨ (m a0 (1 : Int).toNat) = 3 ∨ (m a0 (1 : Int).toNat) = 4) with e | e | e | e | e
  · have h := hd e
    refine aj_tout (tgt := 81) C dX12_times_12 r0 e (by decide) ?_
    refine aj_iload_n C dX12_times_81 rfl ?_
    refine aj_iload_n C dX12_times_82 rfl ?_
    obtain ⟨r0, r1, h1, h2⟩ := h
    refine aj_icmp_ge (tgt := 109) C dX12_times_83 (by decide) r0 r1 (fun e => ?_) (fun e => ?_)
    · have h := h1 e
      refine aj_iload_n C dX12_times_109 rfl ?_
      refine aj_iload_n C dX12_times_110 rfl ?_
      refine aj_isub C dX12_times_111 ?_
      refine aj_iload_n C dX12_times_112 rfl ?_
      refine aj_iload_n C dX12_times_113 rfl ?_
      obtain ⟨r0, r1, h⟩ := h
      refine aj_iremN C dX12_times_114 r0 r1 ?_
      refine aj_isub C dX12_times_115 ?_
      refine aj_iload_n C dX12_times_116 rfl ?_
      refine aj_callS (rest := []) C msX12_195 (sX12_restOf  h) (aj_np 2 (by decide +kernel) rfl) (Nat.le_of_ble_eq_true rfl) rfl dX12_times_117 (fun r m1 h => ?_)
      obtain ⟨z1, rfl, h⟩ := h
      refine aj_iload_n C dX12_times_120 rfl ?_
      refine aj_iload_n C dX12_times_121 rfl ?_
      obtain ⟨r0, r1, h1, h2⟩ := h
      refine aj_icmp_ge (tgt := 129) C dX12_times_122 (by decide) r0 r1 (fun e => ?_) (fun e => ?_)
      · have h := h1 e
        refine aj_iconst C dX12_times_129 ?_
        refine aj_iadd C dX12_times_130 ?_
        exact aj_iret C K dX12_times_131 ⟨_, rfl, h⟩
      · have h := h2 e
        refine aj_iload_n C dX12_times_125 rfl ?_
        refine aj_goto (tgt := 130) C dX12_times_126 (by decide) ?_
        refine aj_iadd C dX12_times_130 ?_
        exact aj_iret C K dX12_times_131 ⟨_, rfl, h⟩
    · have h := h2 e
      refine aj_iload_n C dX12_times_86 rfl ?_
      refine aj_iload_n C dX12_times_87 rfl ?_
      refine aj_iload_n C dX12_times_88 rfl ?_
      obtain ⟨r0, r1, h⟩ := h
      refine aj_iremN C dX12_times_89 r0 r1 ?_
      refine aj_iadd C dX12_times_90 ?_
      refine aj_iload_n C dX12_times_91 rfl ?_
      refine aj_callS (rest := []) C msX12_195 (sX12_restOf  h) (aj_np 2 (by decide +kernel) rfl) (Nat.le_of_ble_eq_true rfl) rfl dX12_times_92 (fun r m2 h => ?_)
      obtain ⟨z2, rfl, h⟩ := h
      refine aj_iload_n C dX12_times_95 rfl ?_
      refine aj_iload_n C dX12_times_96 rfl ?_
      obtain ⟨r0, r1, h1, h2⟩ := h
      refine aj_icmp_ge (tgt := 104) C dX12_times_97 (by decide) r0 r1 (fun e => ?_) (fun e => ?_)
      · have h := h1 e
        refine aj_iload_n C dX12_times_104 rfl ?_
        refine aj_iadd C dX12_times_105 ?_
        refine aj_goto (tgt := 131) C dX12_times_106 (by decide) ?_
        exact aj_iret C K dX12_times_131 ⟨_, rfl, h⟩
      · have h := h2 e
        refine aj_iconst C dX12_times_100 ?_
        refine aj_goto (tgt := 105) C dX12_times_101 (by decide) ?_
        refine aj_iadd C dX12_times_105 ?_
        refine aj_goto (tgt := 131) C dX12_times_106 (by decide) ?_
        exact aj_iret C K dX12_times_131 ⟨_, rfl, h⟩
  · have h := hc0 e
    refine aj_tin (tgt := 44) (off := 32) C dX12_times_12 r0 (by omega) (by omega) (by rw [e]; rfl) (by decide) ?_
    refine aj_iload_n C dX12_times_44 rfl ?_
    refine aj_iload_n C dX12_times_45 rfl ?_
    refine aj_iadd C dX12_times_46 ?_
    refine aj_iload_n C dX12_times_47 rfl ?_
    obtain ⟨r0, r1, h⟩ := h
    refine aj_iremN C dX12_times_48 r0 r1 ?_
    exact aj_iret C K dX12_times_49 ⟨_, rfl, h⟩
  · have h := hc1 e
    refine aj_tin (tgt := 81) (off := 69) C dX12_times_12 r0 (by omega) (by omega) (by rw [e]; rfl) (by decide) ?_
    refine aj_iload_n C dX12_times_81 rfl ?_
    refine aj_iload_n C dX12_times_82 rfl ?_
    obtain ⟨r0, r1, h1, h2⟩ := h
    refine aj_icmp_ge (tgt := 109) C dX12_times_83 (by decide) r0 r1 (fun e => ?_) (fun e => ?_)
    · have h := h1 e
      refine aj_iload_n C dX12_times_109 rfl ?_
      refine aj_iload_n C dX12_times_110 rfl ?_
      refine aj_isub C dX12_times_111 ?_
      refine aj_iload_n C dX12_times_112 rfl ?_
      refine aj_iload_n C dX12_times_113 rfl ?_
      obtain ⟨r0, r1, h⟩ := h
      refine aj_iremN C dX12_times_114 r0 r1 ?_
      refine aj_isub C dX12_times_115 ?_
      refine aj_iload_n C dX12_times_116 rfl ?_
      refine aj_callS (rest := []) C msX12_195 (sX12_restOf  h) (aj_np 2 (by decide +kernel) rfl) (Nat.le_of_ble_eq_true rfl) rfl dX12_times_117 (fun r m3 h => ?_)
      obtain ⟨z3, rfl, h⟩ := h
      refine aj_iload_n C dX12_times_120 rfl ?_
      refine aj_iload_n C dX12_times_121 rfl ?_
      obtain ⟨r0, r1, h1, h2⟩ := h
      refine aj_icmp_ge (tgt := 129) C dX12_times_122 (by decide) r0 r1 (fun e => ?_) (fun e => ?_)
      · have h := h1 e
        refine aj_iconst C dX12_times_129 ?_
        refine aj_iadd C dX12_times_130 ?_
        exact aj_iret C K dX12_times_131 ⟨_, rfl, h⟩
      · have h := h2 e
        refine aj_iload_n C dX12_times_125 rfl ?_
        refine aj_goto (tgt := 130) C dX12_times_126 (by decide) ?_
        refine aj_iadd C dX12_times_130 ?_
        exact aj_iret C K dX12_times_131 ⟨_, rfl, h⟩
    · have h := h2 e
      refine aj_iload_n C dX12_times_86 rfl ?_
      refine aj_iload_n C dX12_times_87 rfl ?_
      refine aj_iload_n C dX12_times_88 rfl ?_
      obtain ⟨r0, r1, h⟩ := h
      refine aj_iremN C dX12_times_89 r0 r1 ?_
      refine aj_iadd C dX12_times_90 ?_
      refine aj_iload_n C dX12_times_91 rfl ?_
      refine aj_callS (rest := []) C msX12_195 (sX12_restOf  h) (aj_np 2 (by decide +kernel) rfl) (Nat.le_of_ble_eq_true rfl) rfl dX12_times_92 (fun r m4 h => ?_)
      obtain ⟨z4, rfl, h⟩ := h
      refine aj_iload_n C dX12_times_95 rfl ?_
      refine aj_iload_n C dX12_times_96 rfl ?_
      obtain ⟨r0, r1, h1, h2⟩ := h
      refine aj_icmp_ge (tgt := 104) C dX12_times_97 (by decide) r0 r1 (fun e => ?_) (fun e => ?_)
      · have h := h1 e
        refine aj_iload_n C dX12_times_104 rfl ?_
        refine aj_iadd C dX12_times_105 ?_
        refine aj_goto (tgt := 131) C dX12_times_106 (by decide) ?_
        exact aj_iret C K dX12_times_131 ⟨_, rfl, h⟩
      · have h := h2 e
        refine aj_iconst C dX12_times_100 ?_
        refine aj_goto (tgt := 105) C dX12_times_101 (by decide) ?_
        refine aj_iadd C dX12_times_105 ?_
        refine aj_goto (tgt := 131) C dX12_times_106 (by decide) ?_
        exact aj_iret C K dX12_times_131 ⟨_, rfl, h⟩
  · have h := hc2 e
    refine aj_tin (tgt := 50) (off := 38) C dX12_times_12 r0 (by omega) (by omega) (by rw [e]; rfl) (by decide) ?_
    refine aj_iload_n C dX12_times_50 rfl ?_
    refine aj_iload C dX12_times_51 rfl ?_
    obtain ⟨r0, r1, h⟩ := h
    refine aj_idivN C dX12_times_53 r0 r1 ?_
    refine aj_iload_n C dX12_times_54 rfl ?_
    refine aj_iload C dX12_times_55 rfl ?_
    obtain ⟨r0, r1, h⟩ := h
    refine aj_idivN C dX12_times_57 r0 r1 ?_
    refine aj_iadd C dX12_times_58 ?_
    refine aj_iload_n C dX12_times_59 rfl ?_
    obtain ⟨r0, r1, h⟩ := h
    refine aj_iremN C dX12_times_60 r0 r1 ?_
    refine aj_iload C dX12_times_61 rfl ?_
    refine aj_imul C dX12_times_63 ?_
    refine aj_iload_n C dX12_times_64 rfl ?_
    refine aj_iload_n C dX12_times_65 rfl ?_
    refine aj_iload C dX12_times_66 rfl ?_
    obtain ⟨r0, r1, h⟩ := h
    refine aj_iremN C dX12_times_68 r0 r1 ?_
    refine aj_iadd C dX12_times_69 ?_
    refine aj_iload C dX12_times_70 rfl ?_
    obtain ⟨r0, r1, h⟩ := h
    refine aj_iremN C dX12_times_72 r0 r1 ?_
    refine aj_iadd C dX12_times_73 ?_
    exact aj_iret C K dX12_times_74 ⟨_, rfl, h⟩
  · have h := hc3 e
    refine aj_tin (tgt := 75) (off := 63) C dX12_times_12 r0 (by omega) (by omega) (by rw [e]; rfl) (by decide) ?_
    refine aj_iload_n C dX12_times_75 rfl ?_
    refine aj_iload_n C dX12_times_76 rfl ?_
    refine aj_callS (rest := []) C msX12_191 (sX12_timesUnits  h) (aj_np 2 (by decide +kernel) rfl) (Nat.le_of_ble_eq_true rfl) rfl dX12_times_77 (fun r m5 h => ?_)
    obtain ⟨z5, rfl, h⟩ := h
    exact aj_iret C K dX12_times_80 ⟨_, rfl, h⟩
theorem dX12_ordersOf_0 : decode cX12_ordersOf 0 = .ok (.iload_n 1, 1) := by decide +kernel
theorem dX12_ordersOf_1 : decode cX12_ordersOf 1 = .ok (.istore_n 2, 1) := by decide +kernel
theorem dX12_ordersOf_2 : decode cX12_ordersOf 2 = .ok (.iconst 1, 1) := by decide +kernel
theorem dX12_ordersOf_3 : decode cX12_ordersOf 3 = .ok (.istore_n 3, 1) := by decide +kernel
theorem dX12_ordersOf_4 : decode cX12_ordersOf 4 = .ok (.iload_n 2, 1) := by decide +kernel
theorem dX12_ordersOf_5 : decode cX12_ordersOf 5 = .ok (.ifCond .eq 16, 3) := by decide +kernel
theorem dX12_ordersOf_8 : decode cX12_ordersOf 8 = .ok (.aload_n 0, 1) := by decide +kernel
theorem dX12_ordersOf_9 : decode cX12_ordersOf 9 = .ok (.iload_n 2, 1) := by decide +kernel
theorem dX12_ordersOf_10 : decode cX12_ordersOf 10 = .ok (.iload_n 1, 1) := by decide +kernel
theorem dX12_ordersOf_11 : decode cX12_ordersOf 11 = .ok (.invokestatic 198, 3) := by decide +kernel
theorem dX12_ordersOf_14 : decode cX12_ordersOf 14 = .ok (.istore_n 2, 1) := by decide +kernel
theorem dX12_ordersOf_15 : decode cX12_ordersOf 15 = .ok (.iinc 3 1, 3) := by decide +kernel
theorem dX12_ordersOf_18 : decode cX12_ordersOf 18 = .ok (.goto (-14), 3) := by decide +kernel
theorem dX12_ordersOf_21 : decode cX12_ordersOf 21 = .ok (.iload_n 3, 1) := by decide +kernel
theorem dX12_ordersOf_22 : decode cX12_ordersOf 22 = .ok (.ireturn, 1) := by decide +kernel
def hX12_ordersOf_4 (f : Nat) (Φ : Int → aj_M → Prop) : Nat → Nat → List Nat → Int → Int → Int → aj_M → Prop
  | 0, _, _, _, _, _, _ => False
  | k + 1, ba0, a0, v1, v2, v3, m => rI v2 ∧ (v2 = 0 → Φ v3 m) ∧ (¬ (v2 = 0) → wX12_times f (fun z1 m1 => hX12_ordersOf_4 f Φ k ba0 a0 v1 z1 (v3 + 1) m1) ba0 a0 v2 v1 m)
set_option maxHeartbeats 4000000 in
set_option maxRecDepth 100000 in
theorem tX12_ordersOf_4 {X : aj_T} {n f : Nat} {Φ : Int → aj_M → Prop} (C : aj_Cx X cX12_ordersOf RX12 4 (n + 3)) (K : aj_Rt X (some .int) (fun r m => ∃ z, r = some (vI z) ∧ Φ z m)) : ∀ (k : Nat) (ba0 : Nat) (a0 : List Nat) (v1 : Int) (v2 : Int) (v3 : Int) (m : aj_M) (ha0 : (.inr (0, ba0, a0) : aj_R) ∈ aj_pls) (hba0 : ba0 < 2147483648), hX12_ordersOf_4 f Φ k ba0 a0 v1 v2 v3 m → aj_J X 4 [some (vA 0 ba0 a0), some (vI v1), some (vI v2), some (vI v3)] [] m := by
  intro k
  induction k with
  | zero =>
    intro ba0 a0 v1 v2 v3 m _ _ h
    exact h.elim
  | succ k ih =>
    intro ba0 a0 v1 v2 v3 m ha0 hba0 h
    unfold hX12_ordersOf_4 at h
    refine aj_iload_n C dX12_ordersOf_4 rfl ?_
    obtain ⟨r0, h1, h2⟩ := h
    refine aj_if_eq (tgt := 21) C dX12_ordersOf_5 (by decide) r0 (fun e => ?_) (fun e => ?_)
    · have h := h1 e
      refine aj_iload_n C dX12_ordersOf_21 rfl ?_
      exact aj_iret C K dX12_ordersOf_22 ⟨_, rfl, h⟩
    · have h := h2 e
      refine aj_aload_n C dX12_ordersOf_8 rfl ?_
      refine aj_iload_n C dX12_ordersOf_9 rfl ?_
      refine aj_iload_n C dX12_ordersOf_10 rfl ?_
      refine aj_callS (rest := []) C msX12_198 (sX12_times ha0 hba0 h) (aj_np 3 (by decide +kernel) rfl) (Nat.le_of_ble_eq_true rfl) rfl dX12_ordersOf_11 (fun r m1 h => ?_)
      obtain ⟨z1, rfl, h⟩ := h
      refine aj_istore_n (lv' := [some (vA 0 ba0 a0), some (vI v1), some (vI z1), some (vI v3)]) C dX12_ordersOf_14 (by decide) rfl ?_
      refine aj_iinc (lv' := [some (vA 0 ba0 a0), some (vI v1), some (vI z1), some (vI (v3 + 1))]) C dX12_ordersOf_15 rfl (by decide) rfl ?_
      refine aj_goto (tgt := 4) C dX12_ordersOf_18 (by decide) ?_
      exact ih ba0 a0 v1 z1 (v3 + 1) _ ha0 hba0 h
def wX12_ordersOf (f : Nat) (Φ : Int → aj_M → Prop) (ba0 : Nat) (a0 : List Nat) (v1 : Int) (m : aj_M) : Prop := hX12_ordersOf_4 f Φ f ba0 a0 v1 v1 1 m
set_option maxHeartbeats 4000000 in
set_option maxRecDepth 100000 in
theorem sX12_ordersOf {n f : Nat} {Φ : Int → aj_M → Prop} {ba0 : Nat} {a0 : List Nat} {v1 : Int} {m : aj_M} (ha0 : (.inr (0, ba0, a0) : aj_R) ∈ aj_pls) (hba0 : ba0 < 2147483648) (h : wX12_ordersOf f Φ ba0 a0 v1 m) : aj_Ct (n + 3) yX12_ordersOf cX12_ordersOf 4 (some .int) [vA 0 ba0 a0, vI v1] m (fun r m => ∃ z, r = some (vI z) ∧ Φ z m) := by
  refine aj_met (lv := [some (vA 0 ba0 a0), some (vI v1), none, none]) (by decide +kernel) rfl (Nat.le_of_ble_eq_true rfl) (fun X C K => ?_)
  unfold wX12_ordersOf at h
  refine aj_iload_n C dX12_ordersOf_0 rfl ?_
  refine aj_istore_n (lv' := [some (vA 0 ba0 a0), some (vI v1), some (vI v1), none]) C dX12_ordersOf_1 (by decide) rfl ?_
  refine aj_iconst C dX12_ordersOf_2 ?_
  refine aj_istore_n (lv' := [some (vA 0 ba0 a0), some (vI v1), some (vI v1), some (vI 1)]) C dX12_ordersOf_3 (by decide) rfl ?_
  exact tX12_ordersOf_4 C K f ba0 a0 v1 v1 1 _ ha0 hba0 h
theorem dX12_timesNow_0 : decode cX12_timesNow 0 = .ok (.aload_n 0, 1) := by decide +kernel
theorem dX12_timesNow_1 : decode cX12_timesNow 1 = .ok (.getfield 13, 3) := by decide +kernel
theorem dX12_timesNow_4 : decode cX12_timesNow 4 = .ok (.iload_n 1, 1) := by decide +kernel
theorem dX12_timesNow_5 : decode cX12_timesNow 5 = .ok (.iload_n 2, 1) := by decide +kernel
theorem dX12_timesNow_6 : decode cX12_timesNow 6 = .ok (.invokestatic 198, 3) := by decide +kernel
theorem dX12_timesNow_9 : decode cX12_timesNow 9 = .ok (.ireturn, 1) := by decide +kernel
def wX12_timesNow (f : Nat) (Φ : Int → aj_M → Prop) (q0 : List Nat) (v1 : Int) (v2 : Int) (m : aj_M) : Prop := wX12_times f (fun z1 m1 => Φ z1 m1) 3315 (1 :: q0) v1 v2 m
set_option maxHeartbeats 4000000 in
set_option maxRecDepth 100000 in
theorem sX12_timesNow {n f : Nat} {Φ : Int → aj_M → Prop} {q0 : List Nat} {v1 : Int} {v2 : Int} {m : aj_M} (hq0 : (.inl (12, q0) : aj_R) ∈ aj_pls) (h : wX12_timesNow f Φ q0 v1 v2 m) : aj_Ct (n + 3) yX12_timesNow cX12_timesNow 3 (some .int) [vO 12 q0, vI v1, vI v2] m (fun r m => ∃ z, r = some (vI z) ∧ Φ z m) := by
  refine aj_met (lv := [some (vO 12 q0), some (vI v1), some (vI v2)]) (by decide +kernel) rfl (Nat.le_of_ble_eq_true rfl) (fun X C K => ?_)
  unfold wX12_timesNow at h
  refine aj_aload_n C dX12_timesNow_0 rfl ?_
  refine aj_getA (x := 0) (y := 3315) C flX12_13 hq0 rfl dX12_timesNow_1 ?_
  refine aj_iload_n C dX12_timesNow_4 rfl ?_
  refine aj_iload_n C dX12_timesNow_5 rfl ?_
  refine aj_callS (rest := []) C msX12_198 (sX12_times (aj_ca (e := 0) (n := 3315) (j := 1) hq0 (by decide) rfl) (by decide) h) (aj_np 3 (by decide +kernel) rfl) (Nat.le_of_ble_eq_true rfl) rfl dX12_timesNow_6 (fun r m1 h => ?_)
  obtain ⟨z1, rfl, h⟩ := h
  exact aj_iret C K dX12_timesNow_9 ⟨_, rfl, h⟩
theorem dX12_inverseOf_0 : decode cX12_inverseOf 0 = .ok (.iconst 0, 1) := by decide +kernel
theorem dX12_inverseOf_1 : decode cX12_inverseOf 1 = .ok (.istore_n 2, 1) := by decide +kernel
theorem dX12_inverseOf_2 : decode cX12_inverseOf 2 = .ok (.aload_n 0, 1) := by decide +kernel
theorem dX12_inverseOf_3 : decode cX12_inverseOf 3 = .ok (.iload_n 1, 1) := by decide +kernel
theorem dX12_inverseOf_4 : decode cX12_inverseOf 4 = .ok (.iload_n 2, 1) := by decide +kernel
theorem dX12_inverseOf_5 : decode cX12_inverseOf 5 = .ok (.invokevirtual 202, 3) := by decide +kernel
theorem dX12_inverseOf_8 : decode cX12_inverseOf 8 = .ok (.ifCond .eq 9, 3) := by decide +kernel
theorem dX12_inverseOf_11 : decode cX12_inverseOf 11 = .ok (.iinc 2 1, 3) := by decide +kernel
theorem dX12_inverseOf_14 : decode cX12_inverseOf 14 = .ok (.goto (-12), 3) := by decide +kernel
theorem dX12_inverseOf_17 : decode cX12_inverseOf 17 = .ok (.iload_n 2, 1) := by decide +kernel
theorem dX12_inverseOf_18 : decode cX12_inverseOf 18 = .ok (.ireturn, 1) := by decide +kernel
def hX12_inverseOf_2 (f : Nat) (Φ : Int → aj_M → Prop) : Nat → List Nat → Int → Int → aj_M → Prop
  | 0, _, _, _, _ => False
  | k + 1, q0, v1, v2, m => wX12_timesNow f (fun z1 m1 => rI z1 ∧ (z1 = 0 → Φ v2 m1) ∧ (¬ (z1 = 0) → hX12_inverseOf_2 f Φ k q0 v1 (v2 + 1) m1)) q0 v1 v2 m
set_option maxHeartbeats 4000000 in
set_option maxRecDepth 100000 in
theorem tX12_inverseOf_2 {X : aj_T} {n f : Nat} {Φ : Int → aj_M → Prop} (C : aj_Cx X cX12_inverseOf RX12 3 (n + 4)) (K : aj_Rt X (some .int) (fun r m => ∃ z, r = some (vI z) ∧ Φ z m)) : ∀ (k : Nat) (q0 : List Nat) (v1 : Int) (v2 : Int) (m : aj_M) (hq0 : (.inl (12, q0) : aj_R) ∈ aj_pls), hX12_inverseOf_2 f Φ k q0 v1 v2 m → aj_J X 2 [some (vO 12 q0), some (vI v1), some (vI v2)] [] m := by
  intro k
  induction k with
  | zero =>
    intro q0 v1 v2 m _ h
    exact h.elim
  | succ k ih =>
    intro q0 v1 v2 m hq0 h
    unfold hX12_inverseOf_2 at h
    refine aj_aload_n C dX12_inverseOf_2 rfl ?_
    refine aj_iload_n C dX12_inverseOf_3 rfl ?_
    refine aj_iload_n C dX12_inverseOf_4 rfl ?_
    refine aj_callV (rest := []) C mvX12_202 (sX12_timesNow hq0 h) hq0 (aj_np 2 (by decide +kernel) rfl) (Nat.le_of_ble_eq_true rfl) rfl dX12_inverseOf_5 (fun r m1 h => ?_)
    obtain ⟨z1, rfl, h⟩ := h
    obtain ⟨r0, h1, h2⟩ := h
    refine aj_if_eq (tgt := 17) C dX12_inverseOf_8 (by decide) r0 (fun e => ?_) (fun e => ?_)
    · have h := h1 e
      refine aj_iload_n C dX12_inverseOf_17 rfl ?_
      exact aj_iret C K dX12_inverseOf_18 ⟨_, rfl, h⟩
    · have h := h2 e
      refine aj_iinc (lv' := [some (vO 12 q0), some (vI v1), some (vI (v2 + 1))]) C dX12_inverseOf_11 rfl (by decide) rfl ?_
      refine aj_goto (tgt := 2) C dX12_inverseOf_14 (by decide) ?_
      exact ih q0 v1 (v2 + 1) _ hq0 h
def wX12_inverseOf (f : Nat) (Φ : Int → aj_M → Prop) (q0 : List Nat) (v1 : Int) (m : aj_M) : Prop := hX12_inverseOf_2 f Φ f q0 v1 0 m
set_option maxHeartbeats 4000000 in
set_option maxRecDepth 100000 in
theorem sX12_inverseOf {n f : Nat} {Φ : Int → aj_M → Prop} {q0 : List Nat} {v1 : Int} {m : aj_M} (hq0 : (.inl (12, q0) : aj_R) ∈ aj_pls) (h : wX12_inverseOf f Φ q0 v1 m) : aj_Ct (n + 4) yX12_inverseOf cX12_inverseOf 3 (some .int) [vO 12 q0, vI v1] m (fun r m => ∃ z, r = some (vI z) ∧ Φ z m) := by
  refine aj_met (lv := [some (vO 12 q0), some (vI v1), none]) (by decide +kernel) rfl (Nat.le_of_ble_eq_true rfl) (fun X C K => ?_)
  unfold wX12_inverseOf at h
  refine aj_iconst C dX12_inverseOf_0 ?_
  refine aj_istore_n (lv' := [some (vO 12 q0), some (vI v1), some (vI 0)]) C dX12_inverseOf_1 (by decide) rfl ?_
  exact tX12_inverseOf_2 C K f q0 v1 0 _ hq0 h
theorem dX12_isMember_0 : decode cX12_isMember 0 = .ok (.lload_n 1, 1) := by decide +kernel
theorem dX12_isMember_1 : decode cX12_isMember 1 = .ok (.lconst 0, 1) := by decide +kernel
theorem dX12_isMember_2 : decode cX12_isMember 2 = .ok (.aload_n 0, 1) := by decide +kernel
theorem dX12_isMember_3 : decode cX12_isMember 3 = .ok (.getfield 13, 3) := by decide +kernel
theorem dX12_isMember_6 : decode cX12_isMember 6 = .ok (.iconst 4, 1) := by decide +kernel
theorem dX12_isMember_7 : decode cX12_isMember 7 = .ok (.iaload, 1) := by decide +kernel
theorem dX12_isMember_8 : decode cX12_isMember 8 = .ok (.iconst 1, 1) := by decide +kernel
theorem dX12_isMember_9 : decode cX12_isMember 9 = .ok (.isub, 1) := by decide +kernel
theorem dX12_isMember_10 : decode cX12_isMember 10 = .ok (.i2l, 1) := by decide +kernel
theorem dX12_isMember_11 : decode cX12_isMember 11 = .ok (.invokestatic 154, 3) := by decide +kernel
theorem dX12_isMember_14 : decode cX12_isMember 14 = .ok (.ireturn, 1) := by decide +kernel
def wX12_isMember (f : Nat) (Φ : Int → aj_M → Prop) (q0 : List Nat) (w1 : Int) (m : aj_M) : Prop := rI ((m (1 :: q0) (4 : Int).toNat) - 1) ∧ wX12_within f (fun z1 m1 => (z1 = 0 ∨ z1 = 1) ∧ Φ z1 m1) w1 0 ((m (1 :: q0) (4 : Int).toNat) - 1) m
set_option maxHeartbeats 4000000 in
set_option maxRecDepth 100000 in
theorem sX12_isMember {n f : Nat} {Φ : Int → aj_M → Prop} {q0 : List Nat} {w1 : Int} {m : aj_M} (hq0 : (.inl (12, q0) : aj_R) ∈ aj_pls) (h : wX12_isMember f Φ q0 w1 m) : aj_Ct (n + 1) yX12_isMember cX12_isMember 3 (some .boolean) [vO 12 q0, vL w1] m (fun r m => ∃ z, r = some (vI z) ∧ Φ z m) := by
  refine aj_met (lv := [some (vO 12 q0), some (vL w1), none]) (by decide +kernel) rfl (Nat.le_of_ble_eq_true rfl) (fun X C K => ?_)
  unfold wX12_isMember at h
  refine aj_lload_n C dX12_isMember_0 rfl ?_
  refine aj_lconst (z := 0) C dX12_isMember_1 rfl ?_
  refine aj_aload_n C dX12_isMember_2 rfl ?_
  refine aj_getA (x := 0) (y := 3315) C flX12_13 hq0 rfl dX12_isMember_3 ?_
  refine aj_iconst C dX12_isMember_6 ?_
  refine aj_iald C (aj_ca (e := 0) (n := 3315) (j := 1) hq0 (by decide) rfl) (by decide) (by decide) dX12_isMember_7 rfl ?_
  refine aj_iconst C dX12_isMember_8 ?_
  refine aj_isub C dX12_isMember_9 ?_
  obtain ⟨r0, h⟩ := h
  refine aj_i2l C dX12_isMember_10 r0 ?_
  refine aj_callS (rest := []) C msX12_154 (sX12_within  h) (aj_np 3 (by decide +kernel) rfl) (Nat.le_of_ble_eq_true rfl) rfl dX12_isMember_11 (fun r m1 h => ?_)
  obtain ⟨z1, rfl, h⟩ := h
  exact aj_zret C K h.1 dX12_isMember_14 ⟨_, rfl, h.2⟩
theorem dX12_product_0 : decode cX12_product 0 = .ok (.aload_n 0, 1) := by decide +kernel
theorem dX12_product_1 : decode cX12_product 1 = .ok (.iconst 0, 1) := by decide +kernel
theorem dX12_product_2 : decode cX12_product 2 = .ok (.putfield 1, 3) := by decide +kernel
theorem dX12_product_5 : decode cX12_product 5 = .ok (.aload_n 0, 1) := by decide +kernel
theorem dX12_product_6 : decode cX12_product 6 = .ok (.iload_n 1, 1) := by decide +kernel
theorem dX12_product_7 : decode cX12_product 7 = .ok (.i2l, 1) := by decide +kernel
theorem dX12_product_8 : decode cX12_product 8 = .ok (.invokevirtual 205, 3) := by decide +kernel
theorem dX12_product_11 : decode cX12_product 11 = .ok (.ifCond .eq 21, 3) := by decide +kernel
theorem dX12_product_14 : decode cX12_product 14 = .ok (.aload_n 0, 1) := by decide +kernel
theorem dX12_product_15 : decode cX12_product 15 = .ok (.iload_n 2, 1) := by decide +kernel
theorem dX12_product_16 : decode cX12_product 16 = .ok (.i2l, 1) := by decide +kernel
theorem dX12_product_17 : decode cX12_product 17 = .ok (.invokevirtual 205, 3) := by decide +kernel
theorem dX12_product_20 : decode cX12_product 20 = .ok (.ifCond .eq 12, 3) := by decide +kernel
theorem dX12_product_23 : decode cX12_product 23 = .ok (.aload_n 0, 1) := by decide +kernel
theorem dX12_product_24 : decode cX12_product 24 = .ok (.iload_n 1, 1) := by decide +kernel
theorem dX12_product_25 : decode cX12_product 25 = .ok (.iload_n 2, 1) := by decide +kernel
theorem dX12_product_26 : decode cX12_product 26 = .ok (.invokevirtual 202, 3) := by decide +kernel
theorem dX12_product_29 : decode cX12_product 29 = .ok (.goto 5, 3) := by decide +kernel
theorem dX12_product_32 : decode cX12_product 32 = .ok (.bipush (-2), 2) := by decide +kernel
theorem dX12_product_34 : decode cX12_product 34 = .ok (.ireturn, 1) := by decide +kernel
def wX12_product (f : Nat) (Φ : Int → aj_M → Prop) (q0 : List Nat) (v1 : Int) (v2 : Int) (m : aj_M) : Prop := ∀ m1, m1 = aj_u m q0 0 0 → rI v1 ∧ wX12_isMember f (fun z1 m2 => rI z1 ∧ (z1 = 0 → Φ (-2) m2) ∧ (¬ (z1 = 0) → rI v2 ∧ wX12_isMember f (fun z2 m3 => rI z2 ∧ (z2 = 0 → Φ (-2) m3) ∧ (¬ (z2 = 0) → wX12_timesNow f (fun z3 m4 => Φ z3 m4) q0 v1 v2 m3)) q0 v2 m2)) q0 v1 m1
set_option maxHeartbeats 4000000 in
set_option maxRecDepth 100000 in
theorem sX12_product {n f : Nat} {Φ : Int → aj_M → Prop} {q0 : List Nat} {v1 : Int} {v2 : Int} {m : aj_M} (hq0 : (.inl (12, q0) : aj_R) ∈ aj_pls) (h : wX12_product f Φ q0 v1 v2 m) : aj_Ct (n + 4) yX12_product cX12_product 3 (some .int) [vO 12 q0, vI v1, vI v2] m (fun r m => ∃ z, r = some (vI z) ∧ Φ z m) := by
  refine aj_met (lv := [some (vO 12 q0), some (vI v1), some (vI v2)]) (by decide +kernel) rfl (Nat.le_of_ble_eq_true rfl) (fun X C K => ?_)
  unfold wX12_product at h
  refine aj_aload_n C dX12_product_0 rfl ?_
  refine aj_iconst C dX12_product_1 ?_
  refine aj_putI C fpX12_1 hq0 rfl dX12_product_2 ?_
  refine aj_nm (fun m1 e1 => ?_)
  have h := h m1 e1
  refine aj_aload_n C dX12_product_5 rfl ?_
  refine aj_iload_n C dX12_product_6 rfl ?_
  obtain ⟨r0, h⟩ := h
  refine aj_i2l C dX12_product_7 r0 ?_
  refine aj_callV (rest := []) C mvX12_205 (sX12_isMember hq0 h) hq0 (aj_np 1 (by decide +kernel) rfl) (Nat.le_of_ble_eq_true rfl) rfl dX12_product_8 (fun r m2 h => ?_)
  obtain ⟨z1, rfl, h⟩ := h
  obtain ⟨r0, h1, h2⟩ := h
  refine aj_if_eq (tgt := 32) C dX12_product_11 (by decide) r0 (fun e => ?_) (fun e => ?_)
  · have h := h1 e
    refine aj_bipush C dX12_product_32 (by decide) ?_
    exact aj_iret C K dX12_product_34 ⟨_, rfl, h⟩
  · have h := h2 e
    refine aj_aload_n C dX12_product_14 rfl ?_
    refine aj_iload_n C dX12_product_15 rfl ?_
    obtain ⟨r0, h⟩ := h
    refine aj_i2l C dX12_product_16 r0 ?_
    refine aj_callV (rest := []) C mvX12_205 (sX12_isMember hq0 h) hq0 (aj_np 1 (by decide +kernel) rfl) (Nat.le_of_ble_eq_true rfl) rfl dX12_product_17 (fun r m3 h => ?_)
    obtain ⟨z2, rfl, h⟩ := h
    obtain ⟨r0, h1, h2⟩ := h
    refine aj_if_eq (tgt := 32) C dX12_product_20 (by decide) r0 (fun e => ?_) (fun e => ?_)
    · have h := h1 e
      refine aj_bipush C dX12_product_32 (by decide) ?_
      exact aj_iret C K dX12_product_34 ⟨_, rfl, h⟩
    · have h := h2 e
      refine aj_aload_n C dX12_product_23 rfl ?_
      refine aj_iload_n C dX12_product_24 rfl ?_
      refine aj_iload_n C dX12_product_25 rfl ?_
      refine aj_callV (rest := []) C mvX12_202 (sX12_timesNow hq0 h) hq0 (aj_np 2 (by decide +kernel) rfl) (Nat.le_of_ble_eq_true rfl) rfl dX12_product_26 (fun r m4 h => ?_)
      obtain ⟨z3, rfl, h⟩ := h
      refine aj_goto (tgt := 34) C dX12_product_29 (by decide) ?_
      exact aj_iret C K dX12_product_34 ⟨_, rfl, h⟩
theorem dX12_inverse_0 : decode cX12_inverse 0 = .ok (.aload_n 0, 1) := by decide +kernel
theorem dX12_inverse_1 : decode cX12_inverse 1 = .ok (.iconst 0, 1) := by decide +kernel
theorem dX12_inverse_2 : decode cX12_inverse 2 = .ok (.putfield 1, 3) := by decide +kernel
theorem dX12_inverse_5 : decode cX12_inverse 5 = .ok (.aload_n 0, 1) := by decide +kernel
theorem dX12_inverse_6 : decode cX12_inverse 6 = .ok (.iload_n 1, 1) := by decide +kernel
theorem dX12_inverse_7 : decode cX12_inverse 7 = .ok (.i2l, 1) := by decide +kernel
theorem dX12_inverse_8 : decode cX12_inverse 8 = .ok (.invokevirtual 205, 3) := by decide +kernel
theorem dX12_inverse_11 : decode cX12_inverse 11 = .ok (.ifCond .eq 11, 3) := by decide +kernel
theorem dX12_inverse_14 : decode cX12_inverse 14 = .ok (.aload_n 0, 1) := by decide +kernel
theorem dX12_inverse_15 : decode cX12_inverse 15 = .ok (.iload_n 1, 1) := by decide +kernel
theorem dX12_inverse_16 : decode cX12_inverse 16 = .ok (.invokevirtual 209, 3) := by decide +kernel
theorem dX12_inverse_19 : decode cX12_inverse 19 = .ok (.goto 5, 3) := by decide +kernel
theorem dX12_inverse_22 : decode cX12_inverse 22 = .ok (.bipush (-2), 2) := by decide +kernel
theorem dX12_inverse_24 : decode cX12_inverse 24 = .ok (.ireturn, 1) := by decide +kernel
def wX12_inverse (f : Nat) (Φ : Int → aj_M → Prop) (q0 : List Nat) (v1 : Int) (m : aj_M) : Prop := ∀ m1, m1 = aj_u m q0 0 0 → rI v1 ∧ wX12_isMember f (fun z1 m2 => rI z1 ∧ (z1 = 0 → Φ (-2) m2) ∧ (¬ (z1 = 0) → wX12_inverseOf f (fun z2 m3 => Φ z2 m3) q0 v1 m2)) q0 v1 m1
set_option maxHeartbeats 4000000 in
set_option maxRecDepth 100000 in
theorem sX12_inverse {n f : Nat} {Φ : Int → aj_M → Prop} {q0 : List Nat} {v1 : Int} {m : aj_M} (hq0 : (.inl (12, q0) : aj_R) ∈ aj_pls) (h : wX12_inverse f Φ q0 v1 m) : aj_Ct (n + 5) yX12_inverse cX12_inverse 2 (some .int) [vO 12 q0, vI v1] m (fun r m => ∃ z, r = some (vI z) ∧ Φ z m) := by
  refine aj_met (lv := [some (vO 12 q0), some (vI v1)]) (by decide +kernel) rfl (Nat.le_of_ble_eq_true rfl) (fun X C K => ?_)
  unfold wX12_inverse at h
  refine aj_aload_n C dX12_inverse_0 rfl ?_
  refine aj_iconst C dX12_inverse_1 ?_
  refine aj_putI C fpX12_1 hq0 rfl dX12_inverse_2 ?_
  refine aj_nm (fun m1 e1 => ?_)
  have h := h m1 e1
  refine aj_aload_n C dX12_inverse_5 rfl ?_
  refine aj_iload_n C dX12_inverse_6 rfl ?_
  obtain ⟨r0, h⟩ := h
  refine aj_i2l C dX12_inverse_7 r0 ?_
  refine aj_callV (rest := []) C mvX12_205 (sX12_isMember hq0 h) hq0 (aj_np 1 (by decide +kernel) rfl) (Nat.le_of_ble_eq_true rfl) rfl dX12_inverse_8 (fun r m2 h => ?_)
  obtain ⟨z1, rfl, h⟩ := h
  obtain ⟨r0, h1, h2⟩ := h
  refine aj_if_eq (tgt := 22) C dX12_inverse_11 (by decide) r0 (fun e => ?_) (fun e => ?_)
  · have h := h1 e
    refine aj_bipush C dX12_inverse_22 (by decide) ?_
    exact aj_iret C K dX12_inverse_24 ⟨_, rfl, h⟩
  · have h := h2 e
    refine aj_aload_n C dX12_inverse_14 rfl ?_
    refine aj_iload_n C dX12_inverse_15 rfl ?_
    refine aj_callV (rest := []) C mvX12_209 (sX12_inverseOf hq0 h) hq0 (aj_np 1 (by decide +kernel) rfl) (Nat.le_of_ble_eq_true rfl) rfl dX12_inverse_16 (fun r m3 h => ?_)
    obtain ⟨z2, rfl, h⟩ := h
    refine aj_goto (tgt := 24) C dX12_inverse_19 (by decide) ?_
    exact aj_iret C K dX12_inverse_24 ⟨_, rfl, h⟩
theorem dX12_orderOf_0 : decode cX12_orderOf 0 = .ok (.aload_n 0, 1) := by decide +kernel
theorem dX12_orderOf_1 : decode cX12_orderOf 1 = .ok (.iconst 0, 1) := by decide +kernel
theorem dX12_orderOf_2 : decode cX12_orderOf 2 = .ok (.putfield 1, 3) := by decide +kernel
theorem dX12_orderOf_5 : decode cX12_orderOf 5 = .ok (.aload_n 0, 1) := by decide +kernel
theorem dX12_orderOf_6 : decode cX12_orderOf 6 = .ok (.iload_n 1, 1) := by decide +kernel
theorem dX12_orderOf_7 : decode cX12_orderOf 7 = .ok (.i2l, 1) := by decide +kernel
theorem dX12_orderOf_8 : decode cX12_orderOf 8 = .ok (.invokevirtual 205, 3) := by decide +kernel
theorem dX12_orderOf_11 : decode cX12_orderOf 11 = .ok (.ifCond .eq 14, 3) := by decide +kernel
theorem dX12_orderOf_14 : decode cX12_orderOf 14 = .ok (.aload_n 0, 1) := by decide +kernel
theorem dX12_orderOf_15 : decode cX12_orderOf 15 = .ok (.getfield 13, 3) := by decide +kernel
theorem dX12_orderOf_18 : decode cX12_orderOf 18 = .ok (.iload_n 1, 1) := by decide +kernel
theorem dX12_orderOf_19 : decode cX12_orderOf 19 = .ok (.invokestatic 212, 3) := by decide +kernel
theorem dX12_orderOf_22 : decode cX12_orderOf 22 = .ok (.goto 5, 3) := by decide +kernel
theorem dX12_orderOf_25 : decode cX12_orderOf 25 = .ok (.bipush (-2), 2) := by decide +kernel
theorem dX12_orderOf_27 : decode cX12_orderOf 27 = .ok (.ireturn, 1) := by decide +kernel
def wX12_orderOf (f : Nat) (Φ : Int → aj_M → Prop) (q0 : List Nat) (v1 : Int) (m : aj_M) : Prop := ∀ m1, m1 = aj_u m q0 0 0 → rI v1 ∧ wX12_isMember f (fun z1 m2 => rI z1 ∧ (z1 = 0 → Φ (-2) m2) ∧ (¬ (z1 = 0) → wX12_ordersOf f (fun z2 m3 => Φ z2 m3) 3315 (1 :: q0) v1 m2)) q0 v1 m1
set_option maxHeartbeats 4000000 in
set_option maxRecDepth 100000 in
theorem sX12_orderOf {n f : Nat} {Φ : Int → aj_M → Prop} {q0 : List Nat} {v1 : Int} {m : aj_M} (hq0 : (.inl (12, q0) : aj_R) ∈ aj_pls) (h : wX12_orderOf f Φ q0 v1 m) : aj_Ct (n + 4) yX12_orderOf cX12_orderOf 2 (some .int) [vO 12 q0, vI v1] m (fun r m => ∃ z, r = some (vI z) ∧ Φ z m) := by
  refine aj_met (lv := [some (vO 12 q0), some (vI v1)]) (by decide +kernel) rfl (Nat.le_of_ble_eq_true rfl) (fun X C K => ?_)
  unfold wX12_orderOf at h
  refine aj_aload_n C dX12_orderOf_0 rfl ?_
  refine aj_iconst C dX12_orderOf_1 ?_
  refine aj_putI C fpX12_1 hq0 rfl dX12_orderOf_2 ?_
  refine aj_nm (fun m1 e1 => ?_)
  have h := h m1 e1
  refine aj_aload_n C dX12_orderOf_5 rfl ?_
  refine aj_iload_n C dX12_orderOf_6 rfl ?_
  obtain ⟨r0, h⟩ := h
  refine aj_i2l C dX12_orderOf_7 r0 ?_
  refine aj_callV (rest := []) C mvX12_205 (sX12_isMember hq0 h) hq0 (aj_np 1 (by decide +kernel) rfl) (Nat.le_of_ble_eq_true rfl) rfl dX12_orderOf_8 (fun r m2 h => ?_)
  obtain ⟨z1, rfl, h⟩ := h
  obtain ⟨r0, h1, h2⟩ := h
  refine aj_if_eq (tgt := 25) C dX12_orderOf_11 (by decide) r0 (fun e => ?_) (fun e => ?_)
  · have h := h1 e
    refine aj_bipush C dX12_orderOf_25 (by decide) ?_
    exact aj_iret C K dX12_orderOf_27 ⟨_, rfl, h⟩
  · have h := h2 e
    refine aj_aload_n C dX12_orderOf_14 rfl ?_
    refine aj_getA (x := 0) (y := 3315) C flX12_13 hq0 rfl dX12_orderOf_15 ?_
    refine aj_iload_n C dX12_orderOf_18 rfl ?_
    refine aj_callS (rest := []) C msX12_212 (sX12_ordersOf (aj_ca (e := 0) (n := 3315) (j := 1) hq0 (by decide) rfl) (by decide) h) (aj_np 2 (by decide +kernel) rfl) (Nat.le_of_ble_eq_true rfl) rfl dX12_orderOf_19 (fun r m3 h => ?_)
    obtain ⟨z2, rfl, h⟩ := h
    refine aj_goto (tgt := 27) C dX12_orderOf_22 (by decide) ?_
    exact aj_iret C K dX12_orderOf_27 ⟨_, rfl, h⟩
theorem dX12_centre_0 : decode cX12_centre 0 = .ok (.aload_n 0, 1) := by decide +kernel
theorem dX12_centre_1 : decode cX12_centre 1 = .ok (.iconst 0, 1) := by decide +kernel
theorem dX12_centre_2 : decode cX12_centre 2 = .ok (.putfield 1, 3) := by decide +kernel
theorem dX12_centre_5 : decode cX12_centre 5 = .ok (.iconst 0, 1) := by decide +kernel
theorem dX12_centre_6 : decode cX12_centre 6 = .ok (.istore_n 1, 1) := by decide +kernel
theorem dX12_centre_7 : decode cX12_centre 7 = .ok (.iconst 0, 1) := by decide +kernel
theorem dX12_centre_8 : decode cX12_centre 8 = .ok (.istore_n 2, 1) := by decide +kernel
theorem dX12_centre_9 : decode cX12_centre 9 = .ok (.iload_n 2, 1) := by decide +kernel
theorem dX12_centre_10 : decode cX12_centre 10 = .ok (.aload_n 0, 1) := by decide +kernel
theorem dX12_centre_11 : decode cX12_centre 11 = .ok (.getfield 13, 3) := by decide +kernel
theorem dX12_centre_14 : decode cX12_centre 14 = .ok (.iconst 4, 1) := by decide +kernel
theorem dX12_centre_15 : decode cX12_centre 15 = .ok (.iaload, 1) := by decide +kernel
theorem dX12_centre_16 : decode cX12_centre 16 = .ok (.if_icmp .ge 68, 3) := by decide +kernel
theorem dX12_centre_19 : decode cX12_centre 19 = .ok (.iconst 1, 1) := by decide +kernel
theorem dX12_centre_20 : decode cX12_centre 20 = .ok (.istore_n 3, 1) := by decide +kernel
theorem dX12_centre_21 : decode cX12_centre 21 = .ok (.iconst 0, 1) := by decide +kernel
theorem dX12_centre_22 : decode cX12_centre 22 = .ok (.istore 4, 2) := by decide +kernel
theorem dX12_centre_24 : decode cX12_centre 24 = .ok (.iload 4, 2) := by decide +kernel
theorem dX12_centre_26 : decode cX12_centre 26 = .ok (.aload_n 0, 1) := by decide +kernel
theorem dX12_centre_27 : decode cX12_centre 27 = .ok (.getfield 13, 3) := by decide +kernel
theorem dX12_centre_30 : decode cX12_centre 30 = .ok (.iconst 4, 1) := by decide +kernel
theorem dX12_centre_31 : decode cX12_centre 31 = .ok (.iaload, 1) := by decide +kernel
theorem dX12_centre_32 : decode cX12_centre 32 = .ok (.if_icmp .ge 34, 3) := by decide +kernel
theorem dX12_centre_35 : decode cX12_centre 35 = .ok (.iload_n 3, 1) := by decide +kernel
theorem dX12_centre_36 : decode cX12_centre 36 = .ok (.aload_n 0, 1) := by decide +kernel
theorem dX12_centre_37 : decode cX12_centre 37 = .ok (.iload_n 2, 1) := by decide +kernel
theorem dX12_centre_38 : decode cX12_centre 38 = .ok (.iload 4, 2) := by decide +kernel
theorem dX12_centre_40 : decode cX12_centre 40 = .ok (.invokevirtual 202, 3) := by decide +kernel
theorem dX12_centre_43 : decode cX12_centre 43 = .ok (.aload_n 0, 1) := by decide +kernel
theorem dX12_centre_44 : decode cX12_centre 44 = .ok (.iload 4, 2) := by decide +kernel
theorem dX12_centre_46 : decode cX12_centre 46 = .ok (.iload_n 2, 1) := by decide +kernel
theorem dX12_centre_47 : decode cX12_centre 47 = .ok (.invokevirtual 202, 3) := by decide +kernel
theorem dX12_centre_50 : decode cX12_centre 50 = .ok (.if_icmp .ne 7, 3) := by decide +kernel
theorem dX12_centre_53 : decode cX12_centre 53 = .ok (.iconst 1, 1) := by decide +kernel
theorem dX12_centre_54 : decode cX12_centre 54 = .ok (.goto 4, 3) := by decide +kernel
theorem dX12_centre_57 : decode cX12_centre 57 = .ok (.iconst 0, 1) := by decide +kernel
theorem dX12_centre_58 : decode cX12_centre 58 = .ok (.iand, 1) := by decide +kernel
theorem dX12_centre_59 : decode cX12_centre 59 = .ok (.istore_n 3, 1) := by decide +kernel
theorem dX12_centre_60 : decode cX12_centre 60 = .ok (.iinc 4 1, 3) := by decide +kernel
theorem dX12_centre_63 : decode cX12_centre 63 = .ok (.goto (-39), 3) := by decide +kernel
theorem dX12_centre_66 : decode cX12_centre 66 = .ok (.iload_n 1, 1) := by decide +kernel
theorem dX12_centre_67 : decode cX12_centre 67 = .ok (.iload_n 3, 1) := by decide +kernel
theorem dX12_centre_68 : decode cX12_centre 68 = .ok (.ifCond .eq 7, 3) := by decide +kernel
theorem dX12_centre_71 : decode cX12_centre 71 = .ok (.iconst 1, 1) := by decide +kernel
theorem dX12_centre_72 : decode cX12_centre 72 = .ok (.goto 4, 3) := by decide +kernel
theorem dX12_centre_75 : decode cX12_centre 75 = .ok (.iconst 0, 1) := by decide +kernel
theorem dX12_centre_76 : decode cX12_centre 76 = .ok (.iadd, 1) := by decide +kernel
theorem dX12_centre_77 : decode cX12_centre 77 = .ok (.istore_n 1, 1) := by decide +kernel
theorem dX12_centre_78 : decode cX12_centre 78 = .ok (.iinc 2 1, 3) := by decide +kernel
theorem dX12_centre_81 : decode cX12_centre 81 = .ok (.goto (-72), 3) := by decide +kernel
theorem dX12_centre_84 : decode cX12_centre 84 = .ok (.iload_n 1, 1) := by decide +kernel
theorem dX12_centre_85 : decode cX12_centre 85 = .ok (.ireturn, 1) := by decide +kernel
def hX12_centre_24 (f : Nat) (Φ : Int → aj_M → Prop) (K9 : List Nat → Int → Int → aj_M → Prop) : Nat → List Nat → Int → Int → Int → Int → aj_M → Prop
  | 0, _, _, _, _, _, _ => False
  | k + 1, q0, v1, v2, v3, v4, m => rI v4 ∧ rI (m (1 :: q0) (4 : Int).toNat) ∧ ((m (1 :: q0) (4 : Int).toNat) ≤ v4 → rI v3 ∧ (v3 = 0 → K9 q0 (v1 + 0) (v2 + 1) m) ∧ (¬ (v3 = 0) → K9 q0 (v1 + 1) (v2 + 1) m)) ∧ (¬ ((m (1 :: q0) (4 : Int).toNat) ≤ v4) → wX12_timesNow f (fun z1 m1 => wX12_timesNow f (fun z2 m2 => rI z1 ∧ rI z2 ∧ (¬ z1 = z2 → hX12_centre_24 f Φ K9 k q0 v1 v2 (aj_and v3 0) (v4 + 1) m2) ∧ (z1 = z2 → hX12_centre_24 f Φ K9 k q0 v1 v2 (aj_and v3 1) (v4 + 1) m2)) q0 v4 v2 m1) q0 v2 v4 m)
set_option maxHeartbeats 4000000 in
set_option maxRecDepth 100000 in
theorem tX12_centre_24 {X : aj_T} {n f : Nat} {Φ : Int → aj_M → Prop} (C : aj_Cx X cX12_centre RX12 5 (n + 4)) (K : aj_Rt X (some .int) (fun r m => ∃ z, r = some (vI z) ∧ Φ z m)) {K9 : List Nat → Int → Int → aj_M → Prop} (HK9 : ∀ (q0 : List Nat) (v1 : Int) (v2 : Int) (m : aj_M) (hq0 : (.inl (12, q0) : aj_R) ∈ aj_pls), K9 q0 v1 v2 m → aj_J X 9 [some (vO 12 q0), some (vI v1), some (vI v2), none, none] [] m) : ∀ (k : Nat) (q0 : List Nat) (v1 : Int) (v2 : Int) (v3 : Int) (v4 : Int) (m : aj_M) (hq0 : (.inl (12, q0) : aj_R) ∈ aj_pls), hX12_centre_24 f Φ K9 k q0 v1 v2 v3 v4 m → aj_J X 24 [some (vO 12 q0), some (vI v1), some (vI v2), some (vI v3), some (vI v4)] [] m := by
  intro k
  induction k with
  | zero =>
    intro q0 v1 v2 v3 v4 m _ h
    exact h.elim
  | succ k ih =>
    intro q0 v1 v2 v3 v4 m hq0 h
    unfold hX12_centre_24 at h
    refine aj_iload C dX12_centre_24 rfl ?_
    refine aj_aload_n C dX12_centre_26 rfl ?_
    refine aj_getA (x := 0) (y := 3315) C flX12_13 hq0 rfl dX12_centre_27 ?_
    refine aj_iconst C dX12_centre_30 ?_
    refine aj_iald C (aj_ca (e := 0) (n := 3315) (j := 1) hq0 (by decide) rfl) (by decide) (by decide) dX12_centre_31 rfl ?_
    obtain ⟨r0, r1, h1, h2⟩ := h
    refine aj_icmp_ge (tgt := 66) C dX12_centre_32 (by decide) r0 r1 (fun e => ?_) (fun e => ?_)
    · have h := h1 e
      refine aj_iload_n C dX12_centre_66 rfl ?_
      refine aj_iload_n C dX12_centre_67 rfl ?_
      obtain ⟨r0, h1, h2⟩ := h
      refine aj_if_eq (tgt := 75) C dX12_centre_68 (by decide) r0 (fun e => ?_) (fun e => ?_)
      · have h := h1 e
        refine aj_iconst C dX12_centre_75 ?_
        refine aj_iadd C dX12_centre_76 ?_
        refine aj_istore_n (lv' := [some (vO 12 q0), some (vI (v1 + 0)), some (vI v2), some (vI v3), some (vI v4)]) C dX12_centre_77 (by decide) rfl ?_
        refine aj_iinc (lv' := [some (vO 12 q0), some (vI (v1 + 0)), some (vI (v2 + 1)), some (vI v3), some (vI v4)]) C dX12_centre_78 rfl (by decide) rfl ?_
        refine aj_goto (tgt := 9) C dX12_centre_81 (by decide) ?_
        refine aj_wk (lv' := [some (vO 12 q0), some (vI (v1 + 0)), some (vI (v2 + 1)), none, none]) (⟨rfl, ⟨rfl, ⟨rfl, trivial⟩⟩⟩) ?_
        exact HK9 q0 (v1 + 0) (v2 + 1) _ hq0 h
      · have h := h2 e
        refine aj_iconst C dX12_centre_71 ?_
        refine aj_goto (tgt := 76) C dX12_centre_72 (by decide) ?_
        refine aj_iadd C dX12_centre_76 ?_
        refine aj_istore_n (lv' := [some (vO 12 q0), some (vI (v1 + 1)), some (vI v2), some (vI v3), some (vI v4)]) C dX12_centre_77 (by decide) rfl ?_
        refine aj_iinc (lv' := [some (vO 12 q0), some (vI (v1 + 1)), some (vI (v2 + 1)), some (vI v3), some (vI v4)]) C dX12_centre_78 rfl (by decide) rfl ?_
        refine aj_goto (tgt := 9) C dX12_centre_81 (by decide) ?_
        refine aj_wk (lv' := [some (vO 12 q0), some (vI (v1 + 1)), some (vI (v2 + 1)), none, none]) (⟨rfl, ⟨rfl, ⟨rfl, trivial⟩⟩⟩) ?_
        exact HK9 q0 (v1 + 1) (v2 + 1) _ hq0 h
    · have h := h2 e
      refine aj_iload_n C dX12_centre_35 rfl ?_
      refine aj_aload_n C dX12_centre_36 rfl ?_
      refine aj_iload_n C dX12_centre_37 rfl ?_
      refine aj_iload C dX12_centre_38 rfl ?_
      refine aj_callV (rest := [vI v3]) C mvX12_202 (sX12_timesNow hq0 h) hq0 (aj_np 2 (by decide +kernel) rfl) (Nat.le_of_ble_eq_true rfl) rfl dX12_centre_40 (fun r m1 h => ?_)
      obtain ⟨z1, rfl, h⟩ := h
      refine aj_aload_n C dX12_centre_43 rfl ?_
      refine aj_iload C dX12_centre_44 rfl ?_
      refine aj_iload_n C dX12_centre_46 rfl ?_
      refine aj_callV (rest := [vI z1, vI v3]) C mvX12_202 (sX12_timesNow hq0 h) hq0 (aj_np 2 (by decide +kernel) rfl) (Nat.le_of_ble_eq_true rfl) rfl dX12_centre_47 (fun r m2 h => ?_)
      obtain ⟨z2, rfl, h⟩ := h
      obtain ⟨r0, r1, h1, h2⟩ := h
      refine aj_icmp_ne (tgt := 57) C dX12_centre_50 (by decide) r0 r1 (fun e => ?_) (fun e => ?_)
      · have h := h1 e
        refine aj_iconst C dX12_centre_57 ?_
        refine aj_iand C dX12_centre_58 ?_
        refine aj_istore_n (lv' := [some (vO 12 q0), some (vI v1), some (vI v2), some (vI (aj_and v3 0)), some (vI v4)]) C dX12_centre_59 (by decide) rfl ?_
        refine aj_iinc (lv' := [some (vO 12 q0), some (vI v1), some (vI v2), some (vI (aj_and v3 0)), some (vI (v4 + 1))]) C dX12_centre_60 rfl (by decide) rfl ?_
        refine aj_goto (tgt := 24) C dX12_centre_63 (by decide) ?_
        exact ih q0 v1 v2 (aj_and v3 0) (v4 + 1) _ hq0 h
      · have h := h2 e
        refine aj_iconst C dX12_centre_53 ?_
        refine aj_goto (tgt := 58) C dX12_centre_54 (by decide) ?_
        refine aj_iand C dX12_centre_58 ?_
        refine aj_istore_n (lv' := [some (vO 12 q0), some (vI v1), some (vI v2), some (vI (aj_and v3 1)), some (vI v4)]) C dX12_centre_59 (by decide) rfl ?_
        refine aj_iinc (lv' := [some (vO 12 q0), some (vI v1), some (vI v2), some (vI (aj_and v3 1)), some (vI (v4 + 1))]) C dX12_centre_60 rfl (by decide) rfl ?_
        refine aj_goto (tgt := 24) C dX12_centre_63 (by decide) ?_
        exact ih q0 v1 v2 (aj_and v3 1) (v4 + 1) _ hq0 h
def hX12_centre_9 (f : Nat) (Φ : Int → aj_M → Prop) : Nat → List Nat → Int → Int → aj_M → Prop
  | 0, _, _, _, _ => False
  | k + 1, q0, v1, v2, m => rI v2 ∧ rI (m (1 :: q0) (4 : Int).toNat) ∧ ((m (1 :: q0) (4 : Int).toNat) ≤ v2 → Φ v1 m) ∧ (¬ ((m (1 :: q0) (4 : Int).toNat) ≤ v2) → hX12_centre_24 f Φ (fun q0 v1 v2 m => hX12_centre_9 f Φ k q0 v1 v2 m) f q0 v1 v2 1 0 m)
set_option maxHeartbeats 4000000 in
set_option maxRecDepth 100000 in
theorem tX12_centre_9 {X : aj_T} {n f : Nat} {Φ : Int → aj_M → Prop} (C : aj_Cx X cX12_centre RX12 5 (n + 4)) (K : aj_Rt X (some .int) (fun r m => ∃ z, r = some (vI z) ∧ Φ z m)) : ∀ (k : Nat) (q0 : List Nat) (v1 : Int) (v2 : Int) (m : aj_M) (hq0 : (.inl (12, q0) : aj_R) ∈ aj_pls), hX12_centre_9 f Φ k q0 v1 v2 m → aj_J X 9 [some (vO 12 q0), some (vI v1), some (vI v2), none, none] [] m := by
  intro k
  induction k with
  | zero =>
    intro q0 v1 v2 m _ h
    exact h.elim
  | succ k ih =>
    intro q0 v1 v2 m hq0 h
    unfold hX12_centre_9 at h
    refine aj_iload_n C dX12_centre_9 rfl ?_
    refine aj_aload_n C dX12_centre_10 rfl ?_
    refine aj_getA (x := 0) (y := 3315) C flX12_13 hq0 rfl dX12_centre_11 ?_
    refine aj_iconst C dX12_centre_14 ?_
    refine aj_iald C (aj_ca (e := 0) (n := 3315) (j := 1) hq0 (by decide) rfl) (by decide) (by decide) dX12_centre_15 rfl ?_
    obtain ⟨r0, r1, h1, h2⟩ := h
    refine aj_icmp_ge (tgt := 84) C dX12_centre_16 (by decide) r0 r1 (fun e => ?_) (fun e => ?_)
    · have h := h1 e
      refine aj_iload_n C dX12_centre_84 rfl ?_
      exact aj_iret C K dX12_centre_85 ⟨_, rfl, h⟩
    · have h := h2 e
      refine aj_iconst C dX12_centre_19 ?_
      refine aj_istore_n (lv' := [some (vO 12 q0), some (vI v1), some (vI v2), some (vI 1), none]) C dX12_centre_20 (by decide) rfl ?_
      refine aj_iconst C dX12_centre_21 ?_
      refine aj_istore (lv' := [some (vO 12 q0), some (vI v1), some (vI v2), some (vI 1), some (vI 0)]) C dX12_centre_22 (by decide) rfl ?_
      exact tX12_centre_24 C K (fun q0 v1 v2 m hq0 hh => ih q0 v1 v2 m hq0 hh) f q0 v1 v2 1 0 _ hq0 h
def wX12_centre (f : Nat) (Φ : Int → aj_M → Prop) (q0 : List Nat) (m : aj_M) : Prop := ∀ m1, m1 = aj_u m q0 0 0 → hX12_centre_9 f Φ f q0 0 0 m1
set_option maxHeartbeats 4000000 in
set_option maxRecDepth 100000 in
theorem sX12_centre {n f : Nat} {Φ : Int → aj_M → Prop} {q0 : List Nat} {m : aj_M} (hq0 : (.inl (12, q0) : aj_R) ∈ aj_pls) (h : wX12_centre f Φ q0 m) : aj_Ct (n + 4) yX12_centre cX12_centre 5 (some .int) [vO 12 q0] m (fun r m => ∃ z, r = some (vI z) ∧ Φ z m) := by
  refine aj_met (lv := [some (vO 12 q0), none, none, none, none]) (by decide +kernel) rfl (Nat.le_of_ble_eq_true rfl) (fun X C K => ?_)
  unfold wX12_centre at h
  refine aj_aload_n C dX12_centre_0 rfl ?_
  refine aj_iconst C dX12_centre_1 ?_
  refine aj_putI C fpX12_1 hq0 rfl dX12_centre_2 ?_
  refine aj_nm (fun m1 e1 => ?_)
  have h := h m1 e1
  refine aj_iconst C dX12_centre_5 ?_
  refine aj_istore_n (lv' := [some (vO 12 q0), some (vI 0), none, none, none]) C dX12_centre_6 (by decide) rfl ?_
  refine aj_iconst C dX12_centre_7 ?_
  refine aj_istore_n (lv' := [some (vO 12 q0), some (vI 0), some (vI 0), none, none]) C dX12_centre_8 (by decide) rfl ?_
  exact tX12_centre_9 C K f q0 0 0 _ hq0 h
theorem dX12_readGroup_0 : decode cX12_readGroup 0 = .ok (.aload_n 0, 1) := by decide +kernel
theorem dX12_readGroup_1 : decode cX12_readGroup 1 = .ok (.getfield 120, 3) := by decide +kernel
theorem dX12_readGroup_4 : decode cX12_readGroup 4 = .ok (.istore_n 1, 1) := by decide +kernel
theorem dX12_readGroup_5 : decode cX12_readGroup 5 = .ok (.iload_n 1, 1) := by decide +kernel
theorem dX12_readGroup_6 : decode cX12_readGroup 6 = .ok (.i2l, 1) := by decide +kernel
theorem dX12_readGroup_7 : decode cX12_readGroup 7 = .ok (.lconst 1, 1) := by decide +kernel
theorem dX12_readGroup_8 : decode cX12_readGroup 8 = .ok (.ldc2_w 216, 3) := by decide +kernel
theorem dX12_readGroup_11 : decode cX12_readGroup 11 = .ok (.invokestatic 154, 3) := by decide +kernel
theorem dX12_readGroup_14 : decode cX12_readGroup 14 = .ok (.ifCond .ne 8, 3) := by decide +kernel
theorem dX12_readGroup_17 : decode cX12_readGroup 17 = .ok (.aload_n 0, 1) := by decide +kernel
theorem dX12_readGroup_18 : decode cX12_readGroup 18 = .ok (.iconst 2, 1) := by decide +kernel
theorem dX12_readGroup_19 : decode cX12_readGroup 19 = .ok (.invokevirtual 150, 3) := by decide +kernel
theorem dX12_readGroup_22 : decode cX12_readGroup 22 = .ok (.aload_n 0, 1) := by decide +kernel
theorem dX12_readGroup_23 : decode cX12_readGroup 23 = .ok (.getfield 138, 3) := by decide +kernel
theorem dX12_readGroup_26 : decode cX12_readGroup 26 = .ok (.ifCond .eq 4, 3) := by decide +kernel
theorem dX12_readGroup_29 : decode cX12_readGroup 29 = .ok (.return_, 1) := by decide +kernel
theorem dX12_readGroup_30 : decode cX12_readGroup 30 = .ok (.aload_n 0, 1) := by decide +kernel
theorem dX12_readGroup_31 : decode cX12_readGroup 31 = .ok (.invokevirtual 147, 3) := by decide +kernel
theorem dX12_readGroup_34 : decode cX12_readGroup 34 = .ok (.aload_n 0, 1) := by decide +kernel
theorem dX12_readGroup_35 : decode cX12_readGroup 35 = .ok (.getfield 24, 3) := by decide +kernel
theorem dX12_readGroup_38 : decode cX12_readGroup 38 = .ok (.iconst 1, 1) := by decide +kernel
theorem dX12_readGroup_39 : decode cX12_readGroup 39 = .ok (.iload_n 1, 1) := by decide +kernel
theorem dX12_readGroup_40 : decode cX12_readGroup 40 = .ok (.iastore, 1) := by decide +kernel
theorem dX12_readGroup_41 : decode cX12_readGroup 41 = .ok (.iload_n 1, 1) := by decide +kernel
theorem dX12_readGroup_42 : decode cX12_readGroup 42 = .ok (.iconst 4, 1) := by decide +kernel
theorem dX12_readGroup_43 : decode cX12_readGroup 43 = .ok (.if_icmp .ne 12, 3) := by decide +kernel
theorem dX12_readGroup_46 : decode cX12_readGroup 46 = .ok (.aload_n 0, 1) := by decide +kernel
theorem dX12_readGroup_47 : decode cX12_readGroup 47 = .ok (.getfield 24, 3) := by decide +kernel
theorem dX12_readGroup_50 : decode cX12_readGroup 50 = .ok (.iconst 4, 1) := by decide +kernel
theorem dX12_readGroup_51 : decode cX12_readGroup 51 = .ok (.bipush 8, 2) := by decide +kernel
theorem dX12_readGroup_53 : decode cX12_readGroup 53 = .ok (.iastore, 1) := by decide +kernel
theorem dX12_readGroup_54 : decode cX12_readGroup 54 = .ok (.return_, 1) := by decide +kernel
theorem dX12_readGroup_55 : decode cX12_readGroup 55 = .ok (.aload_n 0, 1) := by decide +kernel
theorem dX12_readGroup_56 : decode cX12_readGroup 56 = .ok (.getfield 24, 3) := by decide +kernel
theorem dX12_readGroup_59 : decode cX12_readGroup 59 = .ok (.iconst 2, 1) := by decide +kernel
theorem dX12_readGroup_60 : decode cX12_readGroup 60 = .ok (.aload_n 0, 1) := by decide +kernel
theorem dX12_readGroup_61 : decode cX12_readGroup 61 = .ok (.iconst 1, 1) := by decide +kernel
theorem dX12_readGroup_62 : decode cX12_readGroup 62 = .ok (.iload_n 1, 1) := by decide +kernel
theorem dX12_readGroup_63 : decode cX12_readGroup 63 = .ok (.iconst 2, 1) := by decide +kernel
theorem dX12_readGroup_64 : decode cX12_readGroup 64 = .ok (.if_icmp .ne 8, 3) := by decide +kernel
theorem dX12_readGroup_67 : decode cX12_readGroup 67 = .ok (.bipush 6, 2) := by decide +kernel
theorem dX12_readGroup_69 : decode cX12_readGroup 69 = .ok (.goto 5, 3) := by decide +kernel
theorem dX12_readGroup_72 : decode cX12_readGroup 72 = .ok (.bipush 12, 2) := by decide +kernel
theorem dX12_readGroup_74 : decode cX12_readGroup 74 = .ok (.invokevirtual 218, 3) := by decide +kernel
theorem dX12_readGroup_77 : decode cX12_readGroup 77 = .ok (.iastore, 1) := by decide +kernel
theorem dX12_readGroup_78 : decode cX12_readGroup 78 = .ok (.aload_n 0, 1) := by decide +kernel
theorem dX12_readGroup_79 : decode cX12_readGroup 79 = .ok (.getfield 24, 3) := by decide +kernel
theorem dX12_readGroup_82 : decode cX12_readGroup 82 = .ok (.iconst 4, 1) := by decide +kernel
theorem dX12_readGroup_83 : decode cX12_readGroup 83 = .ok (.iload_n 1, 1) := by decide +kernel
theorem dX12_readGroup_84 : decode cX12_readGroup 84 = .ok (.iconst 2, 1) := by decide +kernel
theorem dX12_readGroup_85 : decode cX12_readGroup 85 = .ok (.if_icmp .ne 14, 3) := by decide +kernel
theorem dX12_readGroup_88 : decode cX12_readGroup 88 = .ok (.iconst 2, 1) := by decide +kernel
theorem dX12_readGroup_89 : decode cX12_readGroup 89 = .ok (.aload_n 0, 1) := by decide +kernel
theorem dX12_readGroup_90 : decode cX12_readGroup 90 = .ok (.getfield 24, 3) := by decide +kernel
theorem dX12_readGroup_93 : decode cX12_readGroup 93 = .ok (.iconst 2, 1) := by decide +kernel
theorem dX12_readGroup_94 : decode cX12_readGroup 94 = .ok (.iaload, 1) := by decide +kernel
theorem dX12_readGroup_95 : decode cX12_readGroup 95 = .ok (.imul, 1) := by decide +kernel
theorem dX12_readGroup_96 : decode cX12_readGroup 96 = .ok (.goto 9, 3) := by decide +kernel
theorem dX12_readGroup_99 : decode cX12_readGroup 99 = .ok (.aload_n 0, 1) := by decide +kernel
theorem dX12_readGroup_100 : decode cX12_readGroup 100 = .ok (.getfield 24, 3) := by decide +kernel
theorem dX12_readGroup_103 : decode cX12_readGroup 103 = .ok (.iconst 2, 1) := by decide +kernel
theorem dX12_readGroup_104 : decode cX12_readGroup 104 = .ok (.iaload, 1) := by decide +kernel
theorem dX12_readGroup_105 : decode cX12_readGroup 105 = .ok (.iastore, 1) := by decide +kernel
theorem dX12_readGroup_106 : decode cX12_readGroup 106 = .ok (.iload_n 1, 1) := by decide +kernel
theorem dX12_readGroup_107 : decode cX12_readGroup 107 = .ok (.iconst 3, 1) := by decide +kernel
theorem dX12_readGroup_108 : decode cX12_readGroup 108 = .ok (.if_icmp .ne 10, 3) := by decide +kernel
theorem dX12_readGroup_111 : decode cX12_readGroup 111 = .ok (.aload_n 0, 1) := by decide +kernel
theorem dX12_readGroup_112 : decode cX12_readGroup 112 = .ok (.getfield 138, 3) := by decide +kernel
theorem dX12_readGroup_115 : decode cX12_readGroup 115 = .ok (.ifCond .eq 4, 3) := by decide +kernel
theorem dX12_readGroup_118 : decode cX12_readGroup 118 = .ok (.return_, 1) := by decide +kernel
theorem dX12_readGroup_119 : decode cX12_readGroup 119 = .ok (.aload_n 0, 1) := by decide +kernel
theorem dX12_readGroup_120 : decode cX12_readGroup 120 = .ok (.getfield 24, 3) := by decide +kernel
theorem dX12_readGroup_123 : decode cX12_readGroup 123 = .ok (.iconst 3, 1) := by decide +kernel
theorem dX12_readGroup_124 : decode cX12_readGroup 124 = .ok (.aload_n 0, 1) := by decide +kernel
theorem dX12_readGroup_125 : decode cX12_readGroup 125 = .ok (.iconst 1, 1) := by decide +kernel
theorem dX12_readGroup_126 : decode cX12_readGroup 126 = .ok (.bipush 12, 2) := by decide +kernel
theorem dX12_readGroup_128 : decode cX12_readGroup 128 = .ok (.aload_n 0, 1) := by decide +kernel
theorem dX12_readGroup_129 : decode cX12_readGroup 129 = .ok (.getfield 24, 3) := by decide +kernel
theorem dX12_readGroup_132 : decode cX12_readGroup 132 = .ok (.iconst 2, 1) := by decide +kernel
theorem dX12_readGroup_133 : decode cX12_readGroup 133 = .ok (.iaload, 1) := by decide +kernel
theorem dX12_readGroup_134 : decode cX12_readGroup 134 = .ok (.idiv, 1) := by decide +kernel
theorem dX12_readGroup_135 : decode cX12_readGroup 135 = .ok (.invokevirtual 218, 3) := by decide +kernel
theorem dX12_readGroup_138 : decode cX12_readGroup 138 = .ok (.iastore, 1) := by decide +kernel
theorem dX12_readGroup_139 : decode cX12_readGroup 139 = .ok (.aload_n 0, 1) := by decide +kernel
theorem dX12_readGroup_140 : decode cX12_readGroup 140 = .ok (.getfield 24, 3) := by decide +kernel
theorem dX12_readGroup_143 : decode cX12_readGroup 143 = .ok (.iconst 4, 1) := by decide +kernel
theorem dX12_readGroup_144 : decode cX12_readGroup 144 = .ok (.aload_n 0, 1) := by decide +kernel
theorem dX12_readGroup_145 : decode cX12_readGroup 145 = .ok (.getfield 24, 3) := by decide +kernel
theorem dX12_readGroup_148 : decode cX12_readGroup 148 = .ok (.iconst 2, 1) := by decide +kernel
theorem dX12_readGroup_149 : decode cX12_readGroup 149 = .ok (.iaload, 1) := by decide +kernel
theorem dX12_readGroup_150 : decode cX12_readGroup 150 = .ok (.aload_n 0, 1) := by decide +kernel
theorem dX12_readGroup_151 : decode cX12_readGroup 151 = .ok (.getfield 24, 3) := by decide +kernel
theorem dX12_readGroup_154 : decode cX12_readGroup 154 = .ok (.iconst 3, 1) := by decide +kernel
theorem dX12_readGroup_155 : decode cX12_readGroup 155 = .ok (.iaload, 1) := by decide +kernel
theorem dX12_readGroup_156 : decode cX12_readGroup 156 = .ok (.imul, 1) := by decide +kernel
theorem dX12_readGroup_157 : decode cX12_readGroup 157 = .ok (.iastore, 1) := by decide +kernel
theorem dX12_readGroup_158 : decode cX12_readGroup 158 = .ok (.return_, 1) := by decide +kernel
def hX12_readGroup_105 (f : Nat) (Φ : aj_M → Prop) (q0 : List Nat) (v1 : Int) (as0 : List Nat) (vs1 : Int) (vs2 : Int) (m : aj_M) : Prop := (0 ≤ vs1 ∧ vs1 < 1105) ∧ ∀ m1, m1 = aj_u m as0 vs1.toNat vs2 → rI v1 ∧ (¬ v1 = 3 → Φ m1) ∧ (v1 = 3 → rI (m1 q0 11) ∧ ((m1 q0 11) = 0 → (0 < (m1 (4 :: q0) (2 : Int).toNat) ∧ (m1 (4 :: q0) (2 : Int).toNat) < 2147483648) ∧ wX12_takes f (fun z1 m2 => ∀ m3, m3 = aj_u m2 (4 :: q0) (3 : Int).toNat z1 → ∀ m4, m4 = aj_u m3 (4 :: q0) (4 : Int).toNat ((m3 (4 :: q0) (2 : Int).toNat) * (m3 (4 :: q0) (3 : Int).toNat)) → Φ m4) q0 1 (12 / (m1 (4 :: q0) (2 : Int).toNat)) m1) ∧ (¬ ((m1 q0 11) = 0) → Φ m1))
set_option maxHeartbeats 4000000 in
set_option maxRecDepth 100000 in
theorem tX12_readGroup_105 {X : aj_T} {n f : Nat} {Φ : aj_M → Prop} (C : aj_Cx X cX12_readGroup RX12 2 (n + 7)) (K : aj_Rt X none (fun r m => r = none ∧ Φ m)) (q0 : List Nat) (v1 : Int) (as0 : List Nat) (vs1 : Int) (vs2 : Int) (m : aj_M) (hq0 : (.inl (12, q0) : aj_R) ∈ aj_pls) (has0 : (.inr (0, 1105, as0) : aj_R) ∈ aj_pls) (h : hX12_readGroup_105 f Φ q0 v1 as0 vs1 vs2 m) : aj_J X 105 [some (vO 12 q0), some (vI v1)] [vI vs2, vI vs1, vA 0 1105 as0] m := by
  unfold hX12_readGroup_105 at h
  obtain ⟨r0, h⟩ := h
  refine aj_iast C has0 (by decide) r0 dX12_readGroup_105 ?_
  refine aj_nm (fun m1 e1 => ?_)
  have h := h m1 e1
  refine aj_iload_n C dX12_readGroup_106 rfl ?_
  refine aj_iconst C dX12_readGroup_107 ?_
  obtain ⟨r0, h1, h2⟩ := h
  refine aj_icmp_ne (tgt := 118) C dX12_readGroup_108 (by decide) r0 (by decide) (fun e => ?_) (fun e => ?_)
  · have h := h1 e
    exact aj_vret C K dX12_readGroup_118 ⟨rfl, h⟩
  · have h := h2 e
    refine aj_aload_n C dX12_readGroup_111 rfl ?_
    refine aj_getI C flX12_138 hq0 (by decide) dX12_readGroup_112 rfl ?_
    obtain ⟨r0, h1, h2⟩ := h
    refine aj_if_eq (tgt := 119) C dX12_readGroup_115 (by decide) r0 (fun e => ?_) (fun e => ?_)
    · have h := h1 e
      refine aj_aload_n C dX12_readGroup_119 rfl ?_
      refine aj_getA (x := 0) (y := 1105) C flX12_24 hq0 rfl dX12_readGroup_120 ?_
      refine aj_iconst C dX12_readGroup_123 ?_
      refine aj_aload_n C dX12_readGroup_124 rfl ?_
      refine aj_iconst C dX12_readGroup_125 ?_
      refine aj_bipush C dX12_readGroup_126 (by decide) ?_
      refine aj_aload_n C dX12_readGroup_128 rfl ?_
      refine aj_getA (x := 0) (y := 1105) C flX12_24 hq0 rfl dX12_readGroup_129 ?_
      refine aj_iconst C dX12_readGroup_132 ?_
      refine aj_iald C (aj_ca (e := 0) (n := 1105) (j := 4) hq0 (by decide) rfl) (by decide) (by decide) dX12_readGroup_133 rfl ?_
      obtain ⟨r1, h⟩ := h
      refine aj_idivN C dX12_readGroup_134 (by decide) r1 ?_
      refine aj_callV (rest := [vI 3, vA 0 1105 (4 :: q0)]) C mvX12_218 (sX12_takes hq0 h) hq0 (aj_np 2 (by decide +kernel) rfl) (Nat.le_of_ble_eq_true rfl) rfl dX12_readGroup_135 (fun r m2 h => ?_)
      obtain ⟨z1, rfl, h⟩ := h
      refine aj_iast C (aj_ca (e := 0) (n := 1105) (j := 4) hq0 (by decide) rfl) (by decide) (by decide) dX12_readGroup_138 ?_
      refine aj_nm (fun m3 e1 => ?_)
      have h := h m3 e1
      refine aj_aload_n C dX12_readGroup_139 rfl ?_
      refine aj_getA (x := 0) (y := 1105) C flX12_24 hq0 rfl dX12_readGroup_140 ?_
      refine aj_iconst C dX12_readGroup_143 ?_
      refine aj_aload_n C dX12_readGroup_144 rfl ?_
      refine aj_getA (x := 0) (y := 1105) C flX12_24 hq0 rfl dX12_readGroup_145 ?_
      refine aj_iconst C dX12_readGroup_148 ?_
      refine aj_iald C (aj_ca (e := 0) (n := 1105) (j := 4) hq0 (by decide) rfl) (by decide) (by decide) dX12_readGroup_149 rfl ?_
      refine aj_aload_n C dX12_readGroup_150 rfl ?_
      refine aj_getA (x := 0) (y := 1105) C flX12_24 hq0 rfl dX12_readGroup_151 ?_
      refine aj_iconst C dX12_readGroup_154 ?_
      refine aj_iald C (aj_ca (e := 0) (n := 1105) (j := 4) hq0 (by decide) rfl) (by decide) (by decide) dX12_readGroup_155 rfl ?_
      refine aj_imul C dX12_readGroup_156 ?_
      refine aj_iast C (aj_ca (e := 0) (n := 1105) (j := 4) hq0 (by decide) rfl) (by decide) (by decide) dX12_readGroup_157 ?_
      refine aj_nm (fun m4 e1 => ?_)
      have h := h m4 e1
      exact aj_vret C K dX12_readGroup_158 ⟨rfl, h⟩
    · have h := h2 e
      exact aj_vret C K dX12_readGroup_118 ⟨rfl, h⟩
def hX12_readGroup_74 (f : Nat) (Φ : aj_M → Prop) (q0 : List Nat) (v1 : Int) (as0 : List Nat) (vs1 : Int) (qs2 : List Nat) (vs3 : Int) (vs4 : Int) (m : aj_M) : Prop := wX12_takes f (fun z1 m1 => (0 ≤ vs1 ∧ vs1 < 1105) ∧ ∀ m2, m2 = aj_u m1 as0 vs1.toNat z1 → rI v1 ∧ (¬ v1 = 2 → hX12_readGroup_105 f Φ q0 v1 (4 :: q0) 4 (m2 (4 :: q0) (2 : Int).toNat) m2) ∧ (v1 = 2 → hX12_readGroup_105 f Φ q0 v1 (4 :: q0) 4 (2 * (m2 (4 :: q0) (2 : Int).toNat)) m2)) qs2 vs3 vs4 m
set_option maxHeartbeats 4000000 in
set_option maxRecDepth 100000 in
theorem tX12_readGroup_74 {X : aj_T} {n f : Nat} {Φ : aj_M → Prop} (C : aj_Cx X cX12_readGroup RX12 2 (n + 7)) (K : aj_Rt X none (fun r m => r = none ∧ Φ m)) (q0 : List Nat) (v1 : Int) (as0 : List Nat) (vs1 : Int) (qs2 : List Nat) (vs3 : Int) (vs4 : Int) (m : aj_M) (hq0 : (.inl (12, q0) : aj_R) ∈ aj_pls) (has0 : (.inr (0, 1105, as0) : aj_R) ∈ aj_pls) (hqs2 : (.inl (12, qs2) : aj_R) ∈ aj_pls) (h : hX12_readGroup_74 f Φ q0 v1 as0 vs1 qs2 vs3 vs4 m) : aj_J X 74 [some (vO 12 q0), some (vI v1)] [vI vs4, vI vs3, vO 12 qs2, vI vs1, vA 0 1105 as0] m := by
  unfold hX12_readGroup_74 at h
  refine aj_callV (rest := [vI vs1, vA 0 1105 as0]) C mvX12_218 (sX12_takes hqs2 h) hqs2 (aj_np 2 (by decide +kernel) rfl) (Nat.le_of_ble_eq_true rfl) rfl dX12_readGroup_74 (fun r m1 h => ?_)
  obtain ⟨z1, rfl, h⟩ := h
  obtain ⟨r0, h⟩ := h
  refine aj_iast C has0 (by decide) r0 dX12_readGroup_77 ?_
  refine aj_nm (fun m2 e1 => ?_)
  have h := h m2 e1
  refine aj_aload_n C dX12_readGroup_78 rfl ?_
  refine aj_getA (x := 0) (y := 1105) C flX12_24 hq0 rfl dX12_readGroup_79 ?_
  refine aj_iconst C dX12_readGroup_82 ?_
  refine aj_iload_n C dX12_readGroup_83 rfl ?_
  refine aj_iconst C dX12_readGroup_84 ?_
  obtain ⟨r0, h1, h2⟩ := h
  refine aj_icmp_ne (tgt := 99) C dX12_readGroup_85 (by decide) r0 (by decide) (fun e => ?_) (fun e => ?_)
  · have h := h1 e
    refine aj_aload_n C dX12_readGroup_99 rfl ?_
    refine aj_getA (x := 0) (y := 1105) C flX12_24 hq0 rfl dX12_readGroup_100 ?_
    refine aj_iconst C dX12_readGroup_103 ?_
    refine aj_iald C (aj_ca (e := 0) (n := 1105) (j := 4) hq0 (by decide) rfl) (by decide) (by decide) dX12_readGroup_104 rfl ?_
    exact tX12_readGroup_105 C K q0 v1 (4 :: q0) 4 (m2 (4 :: q0) (2 : Int).toNat) _ hq0 (aj_ca (e := 0) (n := 1105) (j := 4) hq0 (by decide) rfl) h
  · have h := h2 e
    refine aj_iconst C dX12_readGroup_88 ?_
    refine aj_aload_n C dX12_readGroup_89 rfl ?_
    refine aj_getA (x := 0) (y := 1105) C flX12_24 hq0 rfl dX12_readGroup_90 ?_
    refine aj_iconst C dX12_readGroup_93 ?_
    refine aj_iald C (aj_ca (e := 0) (n := 1105) (j := 4) hq0 (by decide) rfl) (by decide) (by decide) dX12_readGroup_94 rfl ?_
    refine aj_imul C dX12_readGroup_95 ?_
    refine aj_goto (tgt := 105) C dX12_readGroup_96 (by decide) ?_
    exact tX12_readGroup_105 C K q0 v1 (4 :: q0) 4 (2 * (m2 (4 :: q0) (2 : Int).toNat)) _ hq0 (aj_ca (e := 0) (n := 1105) (j := 4) hq0 (by decide) rfl) h
def hX12_readGroup_22 (f : Nat) (Φ : aj_M → Prop) (q0 : List Nat) (v1 : Int) (m : aj_M) : Prop := rI (m q0 11) ∧ ((m q0 11) = 0 → wX12_next f (fun m1 => ∀ m2, m2 = aj_u m1 (4 :: q0) (1 : Int).toNat v1 → rI v1 ∧ (¬ v1 = 4 → rI v1 ∧ (¬ v1 = 2 → hX12_readGroup_74 f Φ q0 v1 (4 :: q0) 2 q0 1 12 m2) ∧ (v1 = 2 → hX12_readGroup_74 f Φ q0 v1 (4 :: q0) 2 q0 1 6 m2)) ∧ (v1 = 4 → ∀ m3, m3 = aj_u m2 (4 :: q0) (4 : Int).toNat 8 → Φ m3)) q0 m) ∧ (¬ ((m q0 11) = 0) → Φ m)
set_option maxHeartbeats 4000000 in
set_option maxRecDepth 100000 in
theorem tX12_readGroup_22 {X : aj_T} {n f : Nat} {Φ : aj_M → Prop} (C : aj_Cx X cX12_readGroup RX12 2 (n + 7)) (K : aj_Rt X none (fun r m => r = none ∧ Φ m)) (q0 : List Nat) (v1 : Int) (m : aj_M) (hq0 : (.inl (12, q0) : aj_R) ∈ aj_pls) (h : hX12_readGroup_22 f Φ q0 v1 m) : aj_J X 22 [some (vO 12 q0), some (vI v1)] [] m := by
  unfold hX12_readGroup_22 at h
  refine aj_aload_n C dX12_readGroup_22 rfl ?_
  refine aj_getI C flX12_138 hq0 (by decide) dX12_readGroup_23 rfl ?_
  obtain ⟨r0, h1, h2⟩ := h
  refine aj_if_eq (tgt := 30) C dX12_readGroup_26 (by decide) r0 (fun e => ?_) (fun e => ?_)
  · have h := h1 e
    refine aj_aload_n C dX12_readGroup_30 rfl ?_
    refine aj_callV (rest := []) C mvX12_147 (sX12_next hq0 h) hq0 (aj_np 0 (by decide +kernel) rfl) (Nat.le_of_ble_eq_true rfl) rfl dX12_readGroup_31 (fun r m1 h => ?_)
    obtain ⟨rfl, h⟩ := h
    refine aj_aload_n C dX12_readGroup_34 rfl ?_
    refine aj_getA (x := 0) (y := 1105) C flX12_24 hq0 rfl dX12_readGroup_35 ?_
    refine aj_iconst C dX12_readGroup_38 ?_
    refine aj_iload_n C dX12_readGroup_39 rfl ?_
    refine aj_iast C (aj_ca (e := 0) (n := 1105) (j := 4) hq0 (by decide) rfl) (by decide) (by decide) dX12_readGroup_40 ?_
    refine aj_nm (fun m2 e1 => ?_)
    have h := h m2 e1
    refine aj_iload_n C dX12_readGroup_41 rfl ?_
    refine aj_iconst C dX12_readGroup_42 ?_
    obtain ⟨r0, h1, h2⟩ := h
    refine aj_icmp_ne (tgt := 55) C dX12_readGroup_43 (by decide) r0 (by decide) (fun e => ?_) (fun e => ?_)
    · have h := h1 e
      refine aj_aload_n C dX12_readGroup_55 rfl ?_
      refine aj_getA (x := 0) (y := 1105) C flX12_24 hq0 rfl dX12_readGroup_56 ?_
      refine aj_iconst C dX12_readGroup_59 ?_
      refine aj_aload_n C dX12_readGroup_60 rfl ?_
      refine aj_iconst C dX12_readGroup_61 ?_
      refine aj_iload_n C dX12_readGroup_62 rfl ?_
      refine aj_iconst C dX12_readGroup_63 ?_
      obtain ⟨r0, h1, h2⟩ := h
      refine aj_icmp_ne (tgt := 72) C dX12_readGroup_64 (by decide) r0 (by decide) (fun e => ?_) (fun e => ?_)
      · have h := h1 e
        refine aj_bipush C dX12_readGroup_72 (by decide) ?_
        exact tX12_readGroup_74 C K q0 v1 (4 :: q0) 2 q0 1 12 _ hq0 (aj_ca (e := 0) (n := 1105) (j := 4) hq0 (by decide) rfl) hq0 h
      · have h := h2 e
        refine aj_bipush C dX12_readGroup_67 (by decide) ?_
        refine aj_goto (tgt := 74) C dX12_readGroup_69 (by decide) ?_
        exact tX12_readGroup_74 C K q0 v1 (4 :: q0) 2 q0 1 6 _ hq0 (aj_ca (e := 0) (n := 1105) (j := 4) hq0 (by decide) rfl) hq0 h
    · have h := h2 e
      refine aj_aload_n C dX12_readGroup_46 rfl ?_
      refine aj_getA (x := 0) (y := 1105) C flX12_24 hq0 rfl dX12_readGroup_47 ?_
      refine aj_iconst C dX12_readGroup_50 ?_
      refine aj_bipush C dX12_readGroup_51 (by decide) ?_
      refine aj_iast C (aj_ca (e := 0) (n := 1105) (j := 4) hq0 (by decide) rfl) (by decide) (by decide) dX12_readGroup_53 ?_
      refine aj_nm (fun m3 e1 => ?_)
      have h := h m3 e1
      exact aj_vret C K dX12_readGroup_54 ⟨rfl, h⟩
  · have h := h2 e
    exact aj_vret C K dX12_readGroup_29 ⟨rfl, h⟩
def wX12_readGroup (f : Nat) (Φ : aj_M → Prop) (q0 : List Nat) (m : aj_M) : Prop := rI (m q0 9) ∧ wX12_within f (fun z1 m1 => rI z1 ∧ (¬ z1 = 0 → hX12_readGroup_22 f Φ q0 (m q0 9) m1) ∧ (z1 = 0 → wX12_fails f (fun m2 => hX12_readGroup_22 f Φ q0 (m q0 9) m2) q0 2 m1)) (m q0 9) 1 4 m
set_option maxHeartbeats 4000000 in
set_option maxRecDepth 100000 in
theorem sX12_readGroup {n f : Nat} {Φ : aj_M → Prop} {q0 : List Nat} {m : aj_M} (hq0 : (.inl (12, q0) : aj_R) ∈ aj_pls) (h : wX12_readGroup f Φ q0 m) : aj_Ct (n + 7) yX12_readGroup cX12_readGroup 2 none [vO 12 q0] m (fun r m => r = none ∧ Φ m) := by
  refine aj_met (lv := [some (vO 12 q0), none]) (by decide +kernel) rfl (Nat.le_of_ble_eq_true rfl) (fun X C K => ?_)
  unfold wX12_readGroup at h
  refine aj_aload_n C dX12_readGroup_0 rfl ?_
  refine aj_getI C flX12_120 hq0 (by decide) dX12_readGroup_1 rfl ?_
  refine aj_istore_n (lv' := [some (vO 12 q0), some (vI (m q0 9))]) C dX12_readGroup_4 (by decide) rfl ?_
  refine aj_iload_n C dX12_readGroup_5 rfl ?_
  obtain ⟨r0, h⟩ := h
  refine aj_i2l C dX12_readGroup_6 r0 ?_
  refine aj_lconst (z := 1) C dX12_readGroup_7 rfl ?_
  refine aj_ldc2 (z := 4) C (wd1728) rfl dX12_readGroup_8 ?_
  refine aj_callS (rest := []) C msX12_154 (sX12_within  h) (aj_np 3 (by decide +kernel) rfl) (Nat.le_of_ble_eq_true rfl) rfl dX12_readGroup_11 (fun r m1 h => ?_)
  obtain ⟨z1, rfl, h⟩ := h
  obtain ⟨r0, h1, h2⟩ := h
  refine aj_if_ne (tgt := 22) C dX12_readGroup_14 (by decide) r0 (fun e => ?_) (fun e => ?_)
  · have h := h1 e
    exact tX12_readGroup_22 C K q0 (m q0 9) _ hq0 h
  · have h := h2 e
    refine aj_aload_n C dX12_readGroup_17 rfl ?_
    refine aj_iconst C dX12_readGroup_18 ?_
    refine aj_callV (rest := []) C mvX12_150 (sX12_fails hq0 h) hq0 (aj_np 1 (by decide +kernel) rfl) (Nat.le_of_ble_eq_true rfl) rfl dX12_readGroup_19 (fun r m2 h => ?_)
    obtain ⟨rfl, h⟩ := h
    exact tX12_readGroup_22 C K q0 (m q0 9) _ hq0 h
theorem dX12_readPlaces_0 : decode cX12_readPlaces 0 = .ok (.aload_n 0, 1) := by decide +kernel
theorem dX12_readPlaces_1 : decode cX12_readPlaces 1 = .ok (.getfield 221, 3) := by decide +kernel
theorem dX12_readPlaces_4 : decode cX12_readPlaces 4 = .ok (.ifCond .ne 13, 3) := by decide +kernel
theorem dX12_readPlaces_7 : decode cX12_readPlaces 7 = .ok (.aload_n 0, 1) := by decide +kernel
theorem dX12_readPlaces_8 : decode cX12_readPlaces 8 = .ok (.getfield 24, 3) := by decide +kernel
theorem dX12_readPlaces_11 : decode cX12_readPlaces 11 = .ok (.bipush 6, 2) := by decide +kernel
theorem dX12_readPlaces_13 : decode cX12_readPlaces 13 = .ok (.iaload, 1) := by decide +kernel
theorem dX12_readPlaces_14 : decode cX12_readPlaces 14 = .ok (.ifCond .le 8, 3) := by decide +kernel
theorem dX12_readPlaces_17 : decode cX12_readPlaces 17 = .ok (.aload_n 0, 1) := by decide +kernel
theorem dX12_readPlaces_18 : decode cX12_readPlaces 18 = .ok (.iconst 2, 1) := by decide +kernel
theorem dX12_readPlaces_19 : decode cX12_readPlaces 19 = .ok (.invokevirtual 150, 3) := by decide +kernel
theorem dX12_readPlaces_22 : decode cX12_readPlaces 22 = .ok (.aload_n 0, 1) := by decide +kernel
theorem dX12_readPlaces_23 : decode cX12_readPlaces 23 = .ok (.getfield 138, 3) := by decide +kernel
theorem dX12_readPlaces_26 : decode cX12_readPlaces 26 = .ok (.ifCond .eq 4, 3) := by decide +kernel
theorem dX12_readPlaces_29 : decode cX12_readPlaces 29 = .ok (.return_, 1) := by decide +kernel
theorem dX12_readPlaces_30 : decode cX12_readPlaces 30 = .ok (.aload_n 0, 1) := by decide +kernel
theorem dX12_readPlaces_31 : decode cX12_readPlaces 31 = .ok (.invokevirtual 147, 3) := by decide +kernel
theorem dX12_readPlaces_34 : decode cX12_readPlaces 34 = .ok (.aload_n 0, 1) := by decide +kernel
theorem dX12_readPlaces_35 : decode cX12_readPlaces 35 = .ok (.iconst 1, 1) := by decide +kernel
theorem dX12_readPlaces_36 : decode cX12_readPlaces 36 = .ok (.putfield 221, 3) := by decide +kernel
theorem dX12_readPlaces_39 : decode cX12_readPlaces 39 = .ok (.aload_n 0, 1) := by decide +kernel
theorem dX12_readPlaces_40 : decode cX12_readPlaces 40 = .ok (.getfield 24, 3) := by decide +kernel
theorem dX12_readPlaces_43 : decode cX12_readPlaces 43 = .ok (.iconst 5, 1) := by decide +kernel
theorem dX12_readPlaces_44 : decode cX12_readPlaces 44 = .ok (.aload_n 0, 1) := by decide +kernel
theorem dX12_readPlaces_45 : decode cX12_readPlaces 45 = .ok (.iconst 1, 1) := by decide +kernel
theorem dX12_readPlaces_46 : decode cX12_readPlaces 46 = .ok (.iconst 5, 1) := by decide +kernel
theorem dX12_readPlaces_47 : decode cX12_readPlaces 47 = .ok (.invokevirtual 218, 3) := by decide +kernel
theorem dX12_readPlaces_50 : decode cX12_readPlaces 50 = .ok (.iastore, 1) := by decide +kernel
theorem dX12_readPlaces_51 : decode cX12_readPlaces 51 = .ok (.return_, 1) := by decide +kernel
def hX12_readPlaces_22 (f : Nat) (Φ : aj_M → Prop) (q0 : List Nat) (m : aj_M) : Prop := rI (m q0 11) ∧ ((m q0 11) = 0 → wX12_next f (fun m1 => ∀ m2, m2 = aj_u m1 q0 15 1 → wX12_takes f (fun z2 m3 => ∀ m4, m4 = aj_u m3 (4 :: q0) (5 : Int).toNat z2 → Φ m4) q0 1 5 m2) q0 m) ∧ (¬ ((m q0 11) = 0) → Φ m)
set_option maxHeartbeats 4000000 in
set_option maxRecDepth 100000 in
theorem tX12_readPlaces_22 {X : aj_T} {n f : Nat} {Φ : aj_M → Prop} (C : aj_Cx X cX12_readPlaces RX12 1 (n + 7)) (K : aj_Rt X none (fun r m => r = none ∧ Φ m)) (q0 : List Nat) (m : aj_M) (hq0 : (.inl (12, q0) : aj_R) ∈ aj_pls) (h : hX12_readPlaces_22 f Φ q0 m) : aj_J X 22 [some (vO 12 q0)] [] m := by
  unfold hX12_readPlaces_22 at h
  refine aj_aload_n C dX12_readPlaces_22 rfl ?_
  refine aj_getI C flX12_138 hq0 (by decide) dX12_readPlaces_23 rfl ?_
  obtain ⟨r0, h1, h2⟩ := h
  refine aj_if_eq (tgt := 30) C dX12_readPlaces_26 (by decide) r0 (fun e => ?_) (fun e => ?_)
  · have h := h1 e
    refine aj_aload_n C dX12_readPlaces_30 rfl ?_
    refine aj_callV (rest := []) C mvX12_147 (sX12_next hq0 h) hq0 (aj_np 0 (by decide +kernel) rfl) (Nat.le_of_ble_eq_true rfl) rfl dX12_readPlaces_31 (fun r m1 h => ?_)
    obtain ⟨rfl, h⟩ := h
    refine aj_aload_n C dX12_readPlaces_34 rfl ?_
    refine aj_iconst C dX12_readPlaces_35 ?_
    refine aj_putZ C fpX12_221 hq0 (Or.inr rfl) rfl dX12_readPlaces_36 ?_
    refine aj_nm (fun m2 e1 => ?_)
    have h := h m2 e1
    refine aj_aload_n C dX12_readPlaces_39 rfl ?_
    refine aj_getA (x := 0) (y := 1105) C flX12_24 hq0 rfl dX12_readPlaces_40 ?_
    refine aj_iconst C dX12_readPlaces_43 ?_
    refine aj_aload_n C dX12_readPlaces_44 rfl ?_
    refine aj_iconst C dX12_readPlaces_45 ?_
    refine aj_iconst C dX12_readPlaces_46 ?_
    refine aj_callV (rest := [vI 5, vA 0 1105 (4 :: q0)]) C mvX12_218 (sX12_takes hq0 h) hq0 (aj_np 2 (by decide +kernel) rfl) (Nat.le_of_ble_eq_true rfl) rfl dX12_readPlaces_47 (fun r m3 h => ?_)
    obtain ⟨z2, rfl, h⟩ := h
    refine aj_iast C (aj_ca (e := 0) (n := 1105) (j := 4) hq0 (by decide) rfl) (by decide) (by decide) dX12_readPlaces_50 ?_
    refine aj_nm (fun m4 e1 => ?_)
    have h := h m4 e1
    exact aj_vret C K dX12_readPlaces_51 ⟨rfl, h⟩
  · have h := h2 e
    exact aj_vret C K dX12_readPlaces_29 ⟨rfl, h⟩
def wX12_readPlaces (f : Nat) (Φ : aj_M → Prop) (q0 : List Nat) (m : aj_M) : Prop := rI (m q0 15) ∧ (¬ (m q0 15) = 0 → wX12_fails f (fun m1 => hX12_readPlaces_22 f Φ q0 m1) q0 2 m) ∧ ((m q0 15) = 0 → rI (m (4 :: q0) (6 : Int).toNat) ∧ ((m (4 :: q0) (6 : Int).toNat) ≤ 0 → hX12_readPlaces_22 f Φ q0 m) ∧ (¬ ((m (4 :: q0) (6 : Int).toNat) ≤ 0) → wX12_fails f (fun m2 => hX12_readPlaces_22 f Φ q0 m2) q0 2 m))
set_option maxHeartbeats 4000000 in
set_option maxRecDepth 100000 in
theorem sX12_readPlaces {n f : Nat} {Φ : aj_M → Prop} {q0 : List Nat} {m : aj_M} (hq0 : (.inl (12, q0) : aj_R) ∈ aj_pls) (h : wX12_readPlaces f Φ q0 m) : aj_Ct (n + 7) yX12_readPlaces cX12_readPlaces 1 none [vO 12 q0] m (fun r m => r = none ∧ Φ m) := by
  refine aj_met (lv := [some (vO 12 q0)]) (by decide +kernel) rfl (Nat.le_of_ble_eq_true rfl) (fun X C K => ?_)
  unfold wX12_readPlaces at h
  refine aj_aload_n C dX12_readPlaces_0 rfl ?_
  refine aj_getI C flX12_221 hq0 (by decide) dX12_readPlaces_1 rfl ?_
  obtain ⟨r0, h1, h2⟩ := h
  refine aj_if_ne (tgt := 17) C dX12_readPlaces_4 (by decide) r0 (fun e => ?_) (fun e => ?_)
  · have h := h1 e
    refine aj_aload_n C dX12_readPlaces_17 rfl ?_
    refine aj_iconst C dX12_readPlaces_18 ?_
    refine aj_callV (rest := []) C mvX12_150 (sX12_fails hq0 h) hq0 (aj_np 1 (by decide +kernel) rfl) (Nat.le_of_ble_eq_true rfl) rfl dX12_readPlaces_19 (fun r m1 h => ?_)
    obtain ⟨rfl, h⟩ := h
    exact tX12_readPlaces_22 C K q0 _ hq0 h
  · have h := h2 e
    refine aj_aload_n C dX12_readPlaces_7 rfl ?_
    refine aj_getA (x := 0) (y := 1105) C flX12_24 hq0 rfl dX12_readPlaces_8 ?_
    refine aj_bipush C dX12_readPlaces_11 (by decide) ?_
    refine aj_iald C (aj_ca (e := 0) (n := 1105) (j := 4) hq0 (by decide) rfl) (by decide) (by decide) dX12_readPlaces_13 rfl ?_
    obtain ⟨r0, h1, h2⟩ := h
    refine aj_if_le (tgt := 22) C dX12_readPlaces_14 (by decide) r0 (fun e => ?_) (fun e => ?_)
    · have h := h1 e
      exact tX12_readPlaces_22 C K q0 _ hq0 h
    · have h := h2 e
      refine aj_aload_n C dX12_readPlaces_17 rfl ?_
      refine aj_iconst C dX12_readPlaces_18 ?_
      refine aj_callV (rest := []) C mvX12_150 (sX12_fails hq0 h) hq0 (aj_np 1 (by decide +kernel) rfl) (Nat.le_of_ble_eq_true rfl) rfl dX12_readPlaces_19 (fun r m2 h => ?_)
      obtain ⟨rfl, h⟩ := h
      exact tX12_readPlaces_22 C K q0 _ hq0 h
