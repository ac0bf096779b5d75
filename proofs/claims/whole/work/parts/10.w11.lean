theorem dX9_tryDeed_0 : decode cX9_tryDeed 0 = .ok (.lload_n 2, 1) := by decide +kernel
theorem dX9_tryDeed_1 : decode cX9_tryDeed 1 = .ok (.ldc2_w 40, 3) := by decide +kernel
theorem dX9_tryDeed_4 : decode cX9_tryDeed 4 = .ok (.lcmp, 1) := by decide +kernel
theorem dX9_tryDeed_5 : decode cX9_tryDeed 5 = .ok (.ifCond .lt 21, 3) := by decide +kernel
theorem dX9_tryDeed_8 : decode cX9_tryDeed 8 = .ok (.lload_n 2, 1) := by decide +kernel
theorem dX9_tryDeed_9 : decode cX9_tryDeed 9 = .ok (.ldc2_w 42, 3) := by decide +kernel
theorem dX9_tryDeed_12 : decode cX9_tryDeed 12 = .ok (.lcmp, 1) := by decide +kernel
theorem dX9_tryDeed_13 : decode cX9_tryDeed 13 = .ok (.ifCond .gt 13, 3) := by decide +kernel
theorem dX9_tryDeed_16 : decode cX9_tryDeed 16 = .ok (.aload_n 0, 1) := by decide +kernel
theorem dX9_tryDeed_17 : decode cX9_tryDeed 17 = .ok (.lload_n 2, 1) := by decide +kernel
theorem dX9_tryDeed_18 : decode cX9_tryDeed 18 = .ok (.l2i, 1) := by decide +kernel
theorem dX9_tryDeed_19 : decode cX9_tryDeed 19 = .ok (.bipush 10, 2) := by decide +kernel
theorem dX9_tryDeed_21 : decode cX9_tryDeed 21 = .ok (.isub, 1) := by decide +kernel
theorem dX9_tryDeed_22 : decode cX9_tryDeed 22 = .ok (.invokevirtual 44, 3) := by decide +kernel
theorem dX9_tryDeed_25 : decode cX9_tryDeed 25 = .ok (.ireturn, 1) := by decide +kernel
theorem dX9_tryDeed_26 : decode cX9_tryDeed 26 = .ok (.lload_n 2, 1) := by decide +kernel
theorem dX9_tryDeed_27 : decode cX9_tryDeed 27 = .ok (.ldc2_w 48, 3) := by decide +kernel
theorem dX9_tryDeed_30 : decode cX9_tryDeed 30 = .ok (.lcmp, 1) := by decide +kernel
theorem dX9_tryDeed_31 : decode cX9_tryDeed 31 = .ok (.ifCond .lt 22, 3) := by decide +kernel
theorem dX9_tryDeed_34 : decode cX9_tryDeed 34 = .ok (.lload_n 2, 1) := by decide +kernel
theorem dX9_tryDeed_35 : decode cX9_tryDeed 35 = .ok (.ldc2_w 50, 3) := by decide +kernel
theorem dX9_tryDeed_38 : decode cX9_tryDeed 38 = .ok (.lcmp, 1) := by decide +kernel
theorem dX9_tryDeed_39 : decode cX9_tryDeed 39 = .ok (.ifCond .gt 14, 3) := by decide +kernel
theorem dX9_tryDeed_42 : decode cX9_tryDeed 42 = .ok (.aload_n 0, 1) := by decide +kernel
theorem dX9_tryDeed_43 : decode cX9_tryDeed 43 = .ok (.aload_n 1, 1) := by decide +kernel
theorem dX9_tryDeed_44 : decode cX9_tryDeed 44 = .ok (.lload_n 2, 1) := by decide +kernel
theorem dX9_tryDeed_45 : decode cX9_tryDeed 45 = .ok (.l2i, 1) := by decide +kernel
theorem dX9_tryDeed_46 : decode cX9_tryDeed 46 = .ok (.bipush 100, 2) := by decide +kernel
theorem dX9_tryDeed_48 : decode cX9_tryDeed 48 = .ok (.isub, 1) := by decide +kernel
theorem dX9_tryDeed_49 : decode cX9_tryDeed 49 = .ok (.invokevirtual 52, 3) := by decide +kernel
theorem dX9_tryDeed_52 : decode cX9_tryDeed 52 = .ok (.ireturn, 1) := by decide +kernel
theorem dX9_tryDeed_53 : decode cX9_tryDeed 53 = .ok (.lload_n 2, 1) := by decide +kernel
theorem dX9_tryDeed_54 : decode cX9_tryDeed 54 = .ok (.ldc2_w 56, 3) := by decide +kernel
theorem dX9_tryDeed_57 : decode cX9_tryDeed 57 = .ok (.lcmp, 1) := by decide +kernel
theorem dX9_tryDeed_58 : decode cX9_tryDeed 58 = .ok (.ifCond .lt 31, 3) := by decide +kernel
theorem dX9_tryDeed_61 : decode cX9_tryDeed 61 = .ok (.lload_n 2, 1) := by decide +kernel
theorem dX9_tryDeed_62 : decode cX9_tryDeed 62 = .ok (.ldc2_w 58, 3) := by decide +kernel
theorem dX9_tryDeed_65 : decode cX9_tryDeed 65 = .ok (.lcmp, 1) := by decide +kernel
theorem dX9_tryDeed_66 : decode cX9_tryDeed 66 = .ok (.ifCond .gt 23, 3) := by decide +kernel
theorem dX9_tryDeed_69 : decode cX9_tryDeed 69 = .ok (.aload_n 0, 1) := by decide +kernel
theorem dX9_tryDeed_70 : decode cX9_tryDeed 70 = .ok (.aload_n 1, 1) := by decide +kernel
theorem dX9_tryDeed_71 : decode cX9_tryDeed 71 = .ok (.lload_n 2, 1) := by decide +kernel
theorem dX9_tryDeed_72 : decode cX9_tryDeed 72 = .ok (.ldc2_w 56, 3) := by decide +kernel
theorem dX9_tryDeed_75 : decode cX9_tryDeed 75 = .ok (.lsub, 1) := by decide +kernel
theorem dX9_tryDeed_76 : decode cX9_tryDeed 76 = .ok (.l2i, 1) := by decide +kernel
theorem dX9_tryDeed_77 : decode cX9_tryDeed 77 = .ok (.bipush 100, 2) := by decide +kernel
theorem dX9_tryDeed_79 : decode cX9_tryDeed 79 = .ok (.idiv, 1) := by decide +kernel
theorem dX9_tryDeed_80 : decode cX9_tryDeed 80 = .ok (.lload_n 2, 1) := by decide +kernel
theorem dX9_tryDeed_81 : decode cX9_tryDeed 81 = .ok (.l2i, 1) := by decide +kernel
theorem dX9_tryDeed_82 : decode cX9_tryDeed 82 = .ok (.bipush 100, 2) := by decide +kernel
theorem dX9_tryDeed_84 : decode cX9_tryDeed 84 = .ok (.irem, 1) := by decide +kernel
theorem dX9_tryDeed_85 : decode cX9_tryDeed 85 = .ok (.invokevirtual 60, 3) := by decide +kernel
theorem dX9_tryDeed_88 : decode cX9_tryDeed 88 = .ok (.ireturn, 1) := by decide +kernel
theorem dX9_tryDeed_89 : decode cX9_tryDeed 89 = .ok (.iconst 1, 1) := by decide +kernel
theorem dX9_tryDeed_90 : decode cX9_tryDeed 90 = .ok (.ireturn, 1) := by decide +kernel
def hX9_tryDeed_53 (f : Nat) (Φ : Int → aj_M → Prop) (q0 : List Nat) (q1 : List Nat) (w2 : Int) (m : aj_M) : Prop := rL w2 ∧ (w2 < 1000 → Φ 1 m) ∧ (¬ (w2 < 1000) → rL w2 ∧ (2199 < w2 → Φ 1 m) ∧ (¬ (2199 < w2) → (0 ≤ (w2 - 1000) ∧ (w2 - 1000) < 2147483648) ∧ (0 ≤ w2 ∧ w2 < 2147483648) ∧ wX9_turnTo f (fun z1 m1 => Φ z1 m1) q0 q1 ((w2 - 1000) / 100) (w2 % 100) m))
set_option maxHeartbeats 4000000 in
set_option maxRecDepth 100000 in
theorem tX9_tryDeed_53 {X : aj_T} {n f : Nat} {Φ : Int → aj_M → Prop} (C : aj_Cx X cX9_tryDeed RX9 4 (n + 4)) (K : aj_Rt X (some .int) (fun r m => ∃ z, r = some (vI z) ∧ Φ z m)) (q0 : List Nat) (q1 : List Nat) (w2 : Int) (m : aj_M) (hq0 : (.inl (9, q0) : aj_R) ∈ aj_pls) (hq1 : (.inl (6, q1) : aj_R) ∈ aj_pls) (h : hX9_tryDeed_53 f Φ q0 q1 w2 m) : aj_J X 53 [some (vO 9 q0), some (vO 6 q1), some (vL w2), none] [] m := by
  unfold hX9_tryDeed_53 at h
  refine aj_lload_n C dX9_tryDeed_53 rfl ?_
  refine aj_ldc2 (z := 1000) C (wd1018) rfl dX9_tryDeed_54 ?_
  obtain ⟨r0, h1, h2⟩ := h
  refine aj_lcmp_lt (tgt := 89) C dX9_tryDeed_57 dX9_tryDeed_58 (by decide) r0 (by decide) (fun e => ?_) (fun e => ?_)
  · have h := h1 e
    refine aj_iconst C dX9_tryDeed_89 ?_
    exact aj_iret C K dX9_tryDeed_90 ⟨_, rfl, h⟩
  · have h := h2 e
    refine aj_lload_n C dX9_tryDeed_61 rfl ?_
    refine aj_ldc2 (z := 2199) C (wd1019) rfl dX9_tryDeed_62 ?_
    obtain ⟨r0, h1, h2⟩ := h
    refine aj_lcmp_gt (tgt := 89) C dX9_tryDeed_65 dX9_tryDeed_66 (by decide) r0 (by decide) (fun e => ?_) (fun e => ?_)
    · have h := h1 e
      refine aj_iconst C dX9_tryDeed_89 ?_
      exact aj_iret C K dX9_tryDeed_90 ⟨_, rfl, h⟩
    · have h := h2 e
      refine aj_aload_n C dX9_tryDeed_69 rfl ?_
      refine aj_aload_n C dX9_tryDeed_70 rfl ?_
      refine aj_lload_n C dX9_tryDeed_71 rfl ?_
      refine aj_ldc2 (z := 1000) C (wd1018) rfl dX9_tryDeed_72 ?_
      refine aj_lsub C dX9_tryDeed_75 ?_
      refine aj_l2i C dX9_tryDeed_76 ?_
      refine aj_bipush C dX9_tryDeed_77 (by decide) ?_
      obtain ⟨r0, h⟩ := h
      refine aj_idivN C dX9_tryDeed_79 r0 (by decide) ?_
      refine aj_lload_n C dX9_tryDeed_80 rfl ?_
      refine aj_l2i C dX9_tryDeed_81 ?_
      refine aj_bipush C dX9_tryDeed_82 (by decide) ?_
      obtain ⟨r0, h⟩ := h
      refine aj_iremN C dX9_tryDeed_84 r0 (by decide) ?_
      refine aj_callV (rest := []) C mvX9_60 (sX9_turnTo hq0 hq1 h) hq0 (aj_np 3 (by decide +kernel) rfl) (Nat.le_of_ble_eq_true rfl) rfl dX9_tryDeed_85 (fun r m1 h => ?_)
      obtain ⟨z1, rfl, h⟩ := h
      exact aj_iret C K dX9_tryDeed_88 ⟨_, rfl, h⟩
def hX9_tryDeed_26 (f : Nat) (Φ : Int → aj_M → Prop) (q0 : List Nat) (q1 : List Nat) (w2 : Int) (m : aj_M) : Prop := rL w2 ∧ (w2 < 100 → hX9_tryDeed_53 f Φ q0 q1 w2 m) ∧ (¬ (w2 < 100) → rL w2 ∧ (111 < w2 → hX9_tryDeed_53 f Φ q0 q1 w2 m) ∧ (¬ (111 < w2) → wX9_cutOrJoin f (fun z1 m1 => Φ z1 m1) q0 q1 (w2 - 100) m))
set_option maxHeartbeats 4000000 in
set_option maxRecDepth 100000 in
theorem tX9_tryDeed_26 {X : aj_T} {n f : Nat} {Φ : Int → aj_M → Prop} (C : aj_Cx X cX9_tryDeed RX9 4 (n + 4)) (K : aj_Rt X (some .int) (fun r m => ∃ z, r = some (vI z) ∧ Φ z m)) (q0 : List Nat) (q1 : List Nat) (w2 : Int) (m : aj_M) (hq0 : (.inl (9, q0) : aj_R) ∈ aj_pls) (hq1 : (.inl (6, q1) : aj_R) ∈ aj_pls) (h : hX9_tryDeed_26 f Φ q0 q1 w2 m) : aj_J X 26 [some (vO 9 q0), some (vO 6 q1), some (vL w2), none] [] m := by
  unfold hX9_tryDeed_26 at h
  refine aj_lload_n C dX9_tryDeed_26 rfl ?_
  refine aj_ldc2 (z := 100) C (wd1015) rfl dX9_tryDeed_27 ?_
  obtain ⟨r0, h1, h2⟩ := h
  refine aj_lcmp_lt (tgt := 53) C dX9_tryDeed_30 dX9_tryDeed_31 (by decide) r0 (by decide) (fun e => ?_) (fun e => ?_)
  · have h := h1 e
    exact tX9_tryDeed_53 C K q0 q1 w2 _ hq0 hq1 h
  · have h := h2 e
    refine aj_lload_n C dX9_tryDeed_34 rfl ?_
    refine aj_ldc2 (z := 111) C (wd1016) rfl dX9_tryDeed_35 ?_
    obtain ⟨r0, h1, h2⟩ := h
    refine aj_lcmp_gt (tgt := 53) C dX9_tryDeed_38 dX9_tryDeed_39 (by decide) r0 (by decide) (fun e => ?_) (fun e => ?_)
    · have h := h1 e
      exact tX9_tryDeed_53 C K q0 q1 w2 _ hq0 hq1 h
    · have h := h2 e
      refine aj_aload_n C dX9_tryDeed_42 rfl ?_
      refine aj_aload_n C dX9_tryDeed_43 rfl ?_
      refine aj_lload_n C dX9_tryDeed_44 rfl ?_
      refine aj_l2i C dX9_tryDeed_45 ?_
      refine aj_bipush C dX9_tryDeed_46 (by decide) ?_
      refine aj_isub C dX9_tryDeed_48 ?_
      refine aj_callV (rest := []) C mvX9_52 (sX9_cutOrJoin hq0 hq1 h) hq0 (aj_np 2 (by decide +kernel) rfl) (Nat.le_of_ble_eq_true rfl) rfl dX9_tryDeed_49 (fun r m1 h => ?_)
      obtain ⟨z1, rfl, h⟩ := h
      exact aj_iret C K dX9_tryDeed_52 ⟨_, rfl, h⟩
def wX9_tryDeed (f : Nat) (Φ : Int → aj_M → Prop) (q0 : List Nat) (q1 : List Nat) (w2 : Int) (m : aj_M) : Prop := rL w2 ∧ (w2 < 10 → hX9_tryDeed_26 f Φ q0 q1 w2 m) ∧ (¬ (w2 < 10) → rL w2 ∧ (19 < w2 → hX9_tryDeed_26 f Φ q0 q1 w2 m) ∧ (¬ (19 < w2) → wX9_twistTo f (fun z1 m1 => Φ z1 m1) q0 (w2 - 10) m))
set_option maxHeartbeats 4000000 in
set_option maxRecDepth 100000 in
theorem sX9_tryDeed {n f : Nat} {Φ : Int → aj_M → Prop} {q0 : List Nat} {q1 : List Nat} {w2 : Int} {m : aj_M} (hq0 : (.inl (9, q0) : aj_R) ∈ aj_pls) (hq1 : (.inl (6, q1) : aj_R) ∈ aj_pls) (h : wX9_tryDeed f Φ q0 q1 w2 m) : aj_Ct (n + 4) yX9_tryDeed cX9_tryDeed 4 (some .int) [vO 9 q0, vO 6 q1, vL w2] m (fun r m => ∃ z, r = some (vI z) ∧ Φ z m) := by
  refine aj_met (lv := [some (vO 9 q0), some (vO 6 q1), some (vL w2), none]) (by decide +kernel) rfl (Nat.le_of_ble_eq_true rfl) (fun X C K => ?_)
  unfold wX9_tryDeed at h
  refine aj_lload_n C dX9_tryDeed_0 rfl ?_
  refine aj_ldc2 (z := 10) C (wd1012) rfl dX9_tryDeed_1 ?_
  obtain ⟨r0, h1, h2⟩ := h
  refine aj_lcmp_lt (tgt := 26) C dX9_tryDeed_4 dX9_tryDeed_5 (by decide) r0 (by decide) (fun e => ?_) (fun e => ?_)
  · have h := h1 e
    exact tX9_tryDeed_26 C K q0 q1 w2 _ hq0 hq1 h
  · have h := h2 e
    refine aj_lload_n C dX9_tryDeed_8 rfl ?_
    refine aj_ldc2 (z := 19) C (wd1013) rfl dX9_tryDeed_9 ?_
    obtain ⟨r0, h1, h2⟩ := h
    refine aj_lcmp_gt (tgt := 26) C dX9_tryDeed_12 dX9_tryDeed_13 (by decide) r0 (by decide) (fun e => ?_) (fun e => ?_)
    · have h := h1 e
      exact tX9_tryDeed_26 C K q0 q1 w2 _ hq0 hq1 h
    · have h := h2 e
      refine aj_aload_n C dX9_tryDeed_16 rfl ?_
      refine aj_lload_n C dX9_tryDeed_17 rfl ?_
      refine aj_l2i C dX9_tryDeed_18 ?_
      refine aj_bipush C dX9_tryDeed_19 (by decide) ?_
      refine aj_isub C dX9_tryDeed_21 ?_
      refine aj_callV (rest := []) C mvX9_44 (sX9_twistTo hq0 h) hq0 (aj_np 1 (by decide +kernel) rfl) (Nat.le_of_ble_eq_true rfl) rfl dX9_tryDeed_22 (fun r m1 h => ?_)
      obtain ⟨z1, rfl, h⟩ := h
      exact aj_iret C K dX9_tryDeed_25 ⟨_, rfl, h⟩
theorem dX10_isMissing_0 : decode cX10_isMissing 0 = .ok (.aload_n 0, 1) := by decide +kernel
theorem dX10_isMissing_1 : decode cX10_isMissing 1 = .ok (.getfield 19, 3) := by decide +kernel
theorem dX10_isMissing_4 : decode cX10_isMissing 4 = .ok (.ifCond .ge 7, 3) := by decide +kernel
theorem dX10_isMissing_7 : decode cX10_isMissing 7 = .ok (.iconst 1, 1) := by decide +kernel
theorem dX10_isMissing_8 : decode cX10_isMissing 8 = .ok (.goto 4, 3) := by decide +kernel
theorem dX10_isMissing_11 : decode cX10_isMissing 11 = .ok (.iconst 0, 1) := by decide +kernel
theorem dX10_isMissing_12 : decode cX10_isMissing 12 = .ok (.ireturn, 1) := by decide +kernel
def wX10_isMissing (f : Nat) (Φ : Int → aj_M → Prop) (q0 : List Nat) (m : aj_M) : Prop := rI (m q0 2) ∧ (0 ≤ (m q0 2) → Φ 0 m) ∧ (¬ (0 ≤ (m q0 2)) → Φ 1 m)
set_option maxHeartbeats 4000000 in
set_option maxRecDepth 100000 in
theorem sX10_isMissing {n f : Nat} {Φ : Int → aj_M → Prop} {q0 : List Nat} {m : aj_M} (hq0 : (.inl (10, q0) : aj_R) ∈ aj_pls) (h : wX10_isMissing f Φ q0 m) : aj_Ct n yX10_isMissing cX10_isMissing 1 (some .boolean) [vO 10 q0] m (fun r m => ∃ z, r = some (vI z) ∧ Φ z m) := by
  refine aj_met (lv := [some (vO 10 q0)]) (by decide +kernel) rfl (Nat.le_of_ble_eq_true rfl) (fun X C K => ?_)
  unfold wX10_isMissing at h
  refine aj_aload_n C dX10_isMissing_0 rfl ?_
  refine aj_getI C flX10_19 hq0 (by decide) dX10_isMissing_1 rfl ?_
  obtain ⟨r0, h1, h2⟩ := h
  refine aj_if_ge (tgt := 11) C dX10_isMissing_4 (by decide) r0 (fun e => ?_) (fun e => ?_)
  · have h := h1 e
    refine aj_iconst C dX10_isMissing_11 ?_
    exact aj_zret C K (Or.inl rfl) dX10_isMissing_12 ⟨_, rfl, h⟩
  · have h := h2 e
    refine aj_iconst C dX10_isMissing_7 ?_
    refine aj_goto (tgt := 12) C dX10_isMissing_8 (by decide) ?_
    exact aj_zret C K (Or.inr rfl) dX10_isMissing_12 ⟨_, rfl, h⟩
theorem dJ7_fill_d0a16_0 : decode cJ7_fill_d0a16 0 = .ok (.iconst 0, 1) := by decide +kernel
theorem dJ7_fill_d0a16_1 : decode cJ7_fill_d0a16 1 = .ok (.istore_n 3, 1) := by decide +kernel
theorem dJ7_fill_d0a16_2 : decode cJ7_fill_d0a16 2 = .ok (.aload_n 0, 1) := by decide +kernel
theorem dJ7_fill_d0a16_3 : decode cJ7_fill_d0a16 3 = .ok (.arraylength, 1) := by decide +kernel
theorem dJ7_fill_d0a16_4 : decode cJ7_fill_d0a16 4 = .ok (.istore 4, 2) := by decide +kernel
theorem dJ7_fill_d0a16_6 : decode cJ7_fill_d0a16 6 = .ok (.iload_n 3, 1) := by decide +kernel
theorem dJ7_fill_d0a16_7 : decode cJ7_fill_d0a16 7 = .ok (.iload 4, 2) := by decide +kernel
theorem dJ7_fill_d0a16_9 : decode cJ7_fill_d0a16 9 = .ok (.if_icmp .ge 13, 3) := by decide +kernel
theorem dJ7_fill_d0a16_12 : decode cJ7_fill_d0a16 12 = .ok (.aload_n 0, 1) := by decide +kernel
theorem dJ7_fill_d0a16_13 : decode cJ7_fill_d0a16 13 = .ok (.iload_n 3, 1) := by decide +kernel
theorem dJ7_fill_d0a16_14 : decode cJ7_fill_d0a16 14 = .ok (.lload_n 1, 1) := by decide +kernel
theorem dJ7_fill_d0a16_15 : decode cJ7_fill_d0a16 15 = .ok (.lastore, 1) := by decide +kernel
theorem dJ7_fill_d0a16_16 : decode cJ7_fill_d0a16 16 = .ok (.iinc 3 1, 3) := by decide +kernel
theorem dJ7_fill_d0a16_19 : decode cJ7_fill_d0a16 19 = .ok (.goto (-13), 3) := by decide +kernel
theorem dJ7_fill_d0a16_22 : decode cJ7_fill_d0a16 22 = .ok (.return_, 1) := by decide +kernel
def hJ7_fill_d0a16_6 (f : Nat) (Φ : aj_M → Prop) : Nat → Nat → List Nat → Int → Int → Int → aj_M → Prop
  | 0, _, _, _, _, _, _ => False
  | k + 1, ba0, a0, w1, v3, v4, m => rI v3 ∧ rI v4 ∧ (v4 ≤ v3 → Φ m) ∧ (¬ (v4 ≤ v3) → (0 ≤ v3 ∧ v3 < (ba0 : Int)) ∧ ∀ m1, m1 = aj_u m a0 v3.toNat w1 → hJ7_fill_d0a16_6 f Φ k ba0 a0 w1 (v3 + 1) v4 m1)
set_option maxHeartbeats 4000000 in
set_option maxRecDepth 100000 in
theorem tJ7_fill_d0a16_6 {X : aj_T} {n f : Nat} {Φ : aj_M → Prop} (C : aj_Cx X cJ7_fill_d0a16 RJ7 5 n) (K : aj_Rt X none (fun r m => r = none ∧ Φ m)) : ∀ (k : Nat) (ba0 : Nat) (a0 : List Nat) (w1 : Int) (v3 : Int) (v4 : Int) (m : aj_M) (ha0 : (.inr (3, ba0, a0) : aj_R) ∈ aj_pls) (hba0 : ba0 < 2147483648), hJ7_fill_d0a16_6 f Φ k ba0 a0 w1 v3 v4 m → aj_J X 6 [some (vA 3 ba0 a0), some (vL w1), none, some (vI v3), some (vI v4)] [] m := by
  intro k
  induction k with
  | zero =>
    intro ba0 a0 w1 v3 v4 m _ _ h
    exact h.elim
  | succ k ih =>
    intro ba0 a0 w1 v3 v4 m ha0 hba0 h
    unfold hJ7_fill_d0a16_6 at h
    refine aj_iload_n C dJ7_fill_d0a16_6 rfl ?_
    refine aj_iload C dJ7_fill_d0a16_7 rfl ?_
    obtain ⟨r0, r1, h1, h2⟩ := h
    refine aj_icmp_ge (tgt := 22) C dJ7_fill_d0a16_9 (by decide) r0 r1 (fun e => ?_) (fun e => ?_)
    · have h := h1 e
      exact aj_vret C K dJ7_fill_d0a16_22 ⟨rfl, h⟩
    · have h := h2 e
      refine aj_aload_n C dJ7_fill_d0a16_12 rfl ?_
      refine aj_iload_n C dJ7_fill_d0a16_13 rfl ?_
      refine aj_lload_n C dJ7_fill_d0a16_14 rfl ?_
      obtain ⟨r0, h⟩ := h
      refine aj_last C ha0 hba0 r0 dJ7_fill_d0a16_15 ?_
      refine aj_nm (fun m1 e1 => ?_)
      have h := h m1 e1
      refine aj_iinc (lv' := [some (vA 3 ba0 a0), some (vL w1), none, some (vI (v3 + 1)), some (vI v4)]) C dJ7_fill_d0a16_16 rfl (by decide) rfl ?_
      refine aj_goto (tgt := 6) C dJ7_fill_d0a16_19 (by decide) ?_
      exact ih ba0 a0 w1 (v3 + 1) v4 _ ha0 hba0 h
def wJ7_fill_d0a16 (f : Nat) (Φ : aj_M → Prop) (ba0 : Nat) (a0 : List Nat) (w1 : Int) (m : aj_M) : Prop := hJ7_fill_d0a16_6 f Φ f ba0 a0 w1 0 (ba0 : Int) m
set_option maxHeartbeats 4000000 in
set_option maxRecDepth 100000 in
theorem sJ7_fill_d0a16 {n f : Nat} {Φ : aj_M → Prop} {ba0 : Nat} {a0 : List Nat} {w1 : Int} {m : aj_M} (ha0 : (.inr (3, ba0, a0) : aj_R) ∈ aj_pls) (hba0 : ba0 < 2147483648) (h : wJ7_fill_d0a16 f Φ ba0 a0 w1 m) : aj_Ct n yJ7_fill_d0a16 cJ7_fill_d0a16 5 none [vA 3 ba0 a0, vL w1] m (fun r m => r = none ∧ Φ m) := by
  refine aj_met (lv := [some (vA 3 ba0 a0), some (vL w1), none, none, none]) (by decide +kernel) rfl (Nat.le_of_ble_eq_true rfl) (fun X C K => ?_)
  unfold wJ7_fill_d0a16 at h
  refine aj_iconst C dJ7_fill_d0a16_0 ?_
  refine aj_istore_n (lv' := [some (vA 3 ba0 a0), some (vL w1), none, some (vI 0), none]) C dJ7_fill_d0a16_1 (by decide) rfl ?_
  refine aj_aload_n C dJ7_fill_d0a16_2 rfl ?_
  refine aj_alen C ha0 (fun _ => rfl) dJ7_fill_d0a16_3 ?_
  refine aj_istore (lv' := [some (vA 3 ba0 a0), some (vL w1), none, some (vI 0), some (vI (ba0 : Int))]) C dJ7_fill_d0a16_4 (by decide) rfl ?_
  exact tJ7_fill_d0a16_6 C K f ba0 a0 w1 0 (ba0 : Int) _ ha0 hba0 h
theorem dX10_lay_0 : decode cX10_lay 0 = .ok (.aload_n 0, 1) := by decide +kernel
theorem dX10_lay_1 : decode cX10_lay 1 = .ok (.iload_n 1, 1) := by decide +kernel
theorem dX10_lay_2 : decode cX10_lay 2 = .ok (.putfield 15, 3) := by decide +kernel
theorem dX10_lay_5 : decode cX10_lay 5 = .ok (.aload_n 0, 1) := by decide +kernel
theorem dX10_lay_6 : decode cX10_lay 6 = .ok (.iload_n 2, 1) := by decide +kernel
theorem dX10_lay_7 : decode cX10_lay 7 = .ok (.putfield 19, 3) := by decide +kernel
theorem dX10_lay_10 : decode cX10_lay 10 = .ok (.aload_n 0, 1) := by decide +kernel
theorem dX10_lay_11 : decode cX10_lay 11 = .ok (.getfield 9, 3) := by decide +kernel
theorem dX10_lay_14 : decode cX10_lay 14 = .ok (.lconst 0, 1) := by decide +kernel
theorem dX10_lay_15 : decode cX10_lay 15 = .ok (.invokestatic 22, 3) := by decide +kernel
theorem dX10_lay_18 : decode cX10_lay 18 = .ok (.return_, 1) := by decide +kernel
def wX10_lay (f : Nat) (Φ : aj_M → Prop) (q0 : List Nat) (v1 : Int) (v2 : Int) (m : aj_M) : Prop := ∀ m1, m1 = aj_u m q0 1 v1 → ∀ m2, m2 = aj_u m1 q0 2 v2 → wJ7_fill_d0a16 f (fun m3 => Φ m3) 40 (0 :: q0) 0 m2
set_option maxHeartbeats 4000000 in
set_option maxRecDepth 100000 in
theorem sX10_lay {n f : Nat} {Φ : aj_M → Prop} {q0 : List Nat} {v1 : Int} {v2 : Int} {m : aj_M} (hq0 : (.inl (10, q0) : aj_R) ∈ aj_pls) (h : wX10_lay f Φ q0 v1 v2 m) : aj_Ct (n + 1) yX10_lay cX10_lay 3 none [vO 10 q0, vI v1, vI v2] m (fun r m => r = none ∧ Φ m) := by
  refine aj_met (lv := [some (vO 10 q0), some (vI v1), some (vI v2)]) (by decide +kernel) rfl (Nat.le_of_ble_eq_true rfl) (fun X C K => ?_)
  unfold wX10_lay at h
  refine aj_aload_n C dX10_lay_0 rfl ?_
  refine aj_iload_n C dX10_lay_1 rfl ?_
  refine aj_putI C fpX10_15 hq0 rfl dX10_lay_2 ?_
  refine aj_nm (fun m1 e1 => ?_)
  have h := h m1 e1
  refine aj_aload_n C dX10_lay_5 rfl ?_
  refine aj_iload_n C dX10_lay_6 rfl ?_
  refine aj_putI C fpX10_19 hq0 rfl dX10_lay_7 ?_
  refine aj_nm (fun m2 e1 => ?_)
  have h := h m2 e1
  refine aj_aload_n C dX10_lay_10 rfl ?_
  refine aj_getA (x := 3) (y := 40) C flX10_9 hq0 rfl dX10_lay_11 ?_
  refine aj_lconst (z := 0) C dX10_lay_14 rfl ?_
  refine aj_callS (rest := []) C msX10_22 (sJ7_fill_d0a16 (aj_ca (e := 3) (n := 40) (j := 0) hq0 (by decide) rfl) (by decide) h) (aj_np 2 (by decide +kernel) rfl) (Nat.le_of_ble_eq_true rfl) rfl dX10_lay_15 (fun r m3 h => ?_)
  obtain ⟨rfl, h⟩ := h
  exact aj_vret C K dX10_lay_18 ⟨rfl, h⟩
theorem dX10_trimmed_0 : decode cX10_trimmed 0 = .ok (.aload_n 0, 1) := by decide +kernel
theorem dX10_trimmed_1 : decode cX10_trimmed 1 = .ok (.getfield 15, 3) := by decide +kernel
theorem dX10_trimmed_4 : decode cX10_trimmed 4 = .ok (.tableswitch 42 0 2 #[28, 33, 38], 28) := by decide +kernel
theorem dX10_trimmed_32 : decode cX10_trimmed 32 = .ok (.lload_n 1, 1) := by decide +kernel
theorem dX10_trimmed_33 : decode cX10_trimmed 33 = .ok (.l2i, 1) := by decide +kernel
theorem dX10_trimmed_34 : decode cX10_trimmed 34 = .ok (.i2b, 1) := by decide +kernel
theorem dX10_trimmed_35 : decode cX10_trimmed 35 = .ok (.i2l, 1) := by decide +kernel
theorem dX10_trimmed_36 : decode cX10_trimmed 36 = .ok (.lreturn, 1) := by decide +kernel
theorem dX10_trimmed_37 : decode cX10_trimmed 37 = .ok (.lload_n 1, 1) := by decide +kernel
theorem dX10_trimmed_38 : decode cX10_trimmed 38 = .ok (.l2i, 1) := by decide +kernel
theorem dX10_trimmed_39 : decode cX10_trimmed 39 = .ok (.i2s, 1) := by decide +kernel
theorem dX10_trimmed_40 : decode cX10_trimmed 40 = .ok (.i2l, 1) := by decide +kernel
theorem dX10_trimmed_41 : decode cX10_trimmed 41 = .ok (.lreturn, 1) := by decide +kernel
theorem dX10_trimmed_42 : decode cX10_trimmed 42 = .ok (.lload_n 1, 1) := by decide +kernel
theorem dX10_trimmed_43 : decode cX10_trimmed 43 = .ok (.l2i, 1) := by decide +kernel
theorem dX10_trimmed_44 : decode cX10_trimmed 44 = .ok (.i2l, 1) := by decide +kernel
theorem dX10_trimmed_45 : decode cX10_trimmed 45 = .ok (.lreturn, 1) := by decide +kernel
theorem dX10_trimmed_46 : decode cX10_trimmed 46 = .ok (.lload_n 1, 1) := by decide +kernel
theorem dX10_trimmed_47 : decode cX10_trimmed 47 = .ok (.lreturn, 1) := by decide +kernel
def wX10_trimmed (f : Nat) (Φ : Int → aj_M → Prop) (q0 : List Nat) (w1 : Int) (m : aj_M) : Prop := rI (m q0 1) ∧ ((m q0 1) < 0 ∨ 2 < (m q0 1) → Φ w1 m) ∧ ((m q0 1) = 0 → Φ (aj_w (aj_b w1)) m) ∧ ((m q0 1) = 1 → Φ (aj_w (aj_sh w1)) m) ∧ ((m q0 1) = 2 → Φ (aj_w w1) m)
set_option maxHeartbeats 4000000 in
set_option maxRecDepth 100000 in
theorem sX10_trimmed {n f : Nat} {Φ : Int → aj_M → Prop} {q0 : List Nat} {w1 : Int} {m : aj_M} (hq0 : (.inl (10, q0) : aj_R) ∈ aj_pls) (h : wX10_trimmed f Φ q0 w1 m) : aj_Ct n yX10_trimmed cX10_trimmed 3 (some .long) [vO 10 q0, vL w1] m (fun r m => ∃ z, r = some (vL z) ∧ Φ z m) := by
  refine aj_met (lv := [some (vO 10 q0), some (vL w1), none]) (by decide +kernel) rfl (Nat.le_of_ble_eq_true rfl) (fun X C K => ?_)
  unfold wX10_trimmed at h
  refine aj_aload_n C dX10_trimmed_0 rfl ?_
  refine aj_getI C flX10_15 hq0 (by decide) dX10_trimmed_1 rfl ?_
  obtain ⟨r0, hd, hc0, hc1, hc2⟩ := h
  rcases (by omega : ((m q0 1) < 0 ∨ 2 < (m q0 1)) ∨ (m q0 1) = 0 ∨ (m q0 1) = 1 ∨ (m q0 1) = 2) with e | e | e | e
  · have h := hd e
    refine aj_tout (tgt := 46) C dX10_trimmed_4 r0 e (by decide) ?_
    refine aj_lload_n C dX10_trimmed_46 rfl ?_
    exact aj_lret C K dX10_trimmed_47 ⟨_, rfl, h⟩
  · have h := hc0 e
    refine aj_tin (tgt := 32) (off := 28) C dX10_trimmed_4 r0 (by omega) (by omega) (by rw [e]; rfl) (by decide) ?_
    refine aj_lload_n C dX10_trimmed_32 rfl ?_
    refine aj_l2i C dX10_trimmed_33 ?_
    refine aj_i2b C dX10_trimmed_34 ?_
    refine aj_i2lW C dX10_trimmed_35 ?_
    exact aj_lret C K dX10_trimmed_36 ⟨_, rfl, h⟩
  · have h := hc1 e
    refine aj_tin (tgt := 37) (off := 33) C dX10_trimmed_4 r0 (by omega) (by omega) (by rw [e]; rfl) (by decide) ?_
    refine aj_lload_n C dX10_trimmed_37 rfl ?_
    refine aj_l2i C dX10_trimmed_38 ?_
    refine aj_i2s C dX10_trimmed_39 ?_
    refine aj_i2lW C dX10_trimmed_40 ?_
    exact aj_lret C K dX10_trimmed_41 ⟨_, rfl, h⟩
  · have h := hc2 e
    refine aj_tin (tgt := 42) (off := 38) C dX10_trimmed_4 r0 (by omega) (by omega) (by rw [e]; rfl) (by decide) ?_
    refine aj_lload_n C dX10_trimmed_42 rfl ?_
    refine aj_l2i C dX10_trimmed_43 ?_
    refine aj_i2lW C dX10_trimmed_44 ?_
    exact aj_lret C K dX10_trimmed_45 ⟨_, rfl, h⟩
theorem dX11_feed_0 : decode cX11_feed 0 = .ok (.aload_n 0, 1) := by decide +kernel
theorem dX11_feed_1 : decode cX11_feed 1 = .ok (.getfield 12, 3) := by decide +kernel
theorem dX11_feed_4 : decode cX11_feed 4 = .ok (.getfield 86, 3) := by decide +kernel
theorem dX11_feed_7 : decode cX11_feed 7 = .ok (.sipush 880, 3) := by decide +kernel
theorem dX11_feed_10 : decode cX11_feed 10 = .ok (.if_icmp .le 6, 3) := by decide +kernel
theorem dX11_feed_13 : decode cX11_feed 13 = .ok (.bipush (-5), 2) := by decide +kernel
theorem dX11_feed_15 : decode cX11_feed 15 = .ok (.ireturn, 1) := by decide +kernel
theorem dX11_feed_16 : decode cX11_feed 16 = .ok (.aload_n 0, 1) := by decide +kernel
theorem dX11_feed_17 : decode cX11_feed 17 = .ok (.getfield 12, 3) := by decide +kernel
theorem dX11_feed_20 : decode cX11_feed 20 = .ok (.iload_n 1, 1) := by decide +kernel
theorem dX11_feed_21 : decode cX11_feed 21 = .ok (.invokevirtual 90, 3) := by decide +kernel
theorem dX11_feed_24 : decode cX11_feed 24 = .ok (.aload_n 0, 1) := by decide +kernel
theorem dX11_feed_25 : decode cX11_feed 25 = .ok (.getfield 12, 3) := by decide +kernel
theorem dX11_feed_28 : decode cX11_feed 28 = .ok (.iload_n 2, 1) := by decide +kernel
theorem dX11_feed_29 : decode cX11_feed 29 = .ok (.invokevirtual 90, 3) := by decide +kernel
theorem dX11_feed_32 : decode cX11_feed 32 = .ok (.aload_n 0, 1) := by decide +kernel
theorem dX11_feed_33 : decode cX11_feed 33 = .ok (.getfield 12, 3) := by decide +kernel
theorem dX11_feed_36 : decode cX11_feed 36 = .ok (.iload_n 3, 1) := by decide +kernel
theorem dX11_feed_37 : decode cX11_feed 37 = .ok (.invokevirtual 90, 3) := by decide +kernel
theorem dX11_feed_40 : decode cX11_feed 40 = .ok (.aload_n 0, 1) := by decide +kernel
theorem dX11_feed_41 : decode cX11_feed 41 = .ok (.getfield 12, 3) := by decide +kernel
theorem dX11_feed_44 : decode cX11_feed 44 = .ok (.iload 4, 2) := by decide +kernel
theorem dX11_feed_46 : decode cX11_feed 46 = .ok (.invokevirtual 90, 3) := by decide +kernel
theorem dX11_feed_49 : decode cX11_feed 49 = .ok (.aload_n 0, 1) := by decide +kernel
theorem dX11_feed_50 : decode cX11_feed 50 = .ok (.getfield 12, 3) := by decide +kernel
theorem dX11_feed_53 : decode cX11_feed 53 = .ok (.iload 5, 2) := by decide +kernel
theorem dX11_feed_55 : decode cX11_feed 55 = .ok (.invokevirtual 90, 3) := by decide +kernel
theorem dX11_feed_58 : decode cX11_feed 58 = .ok (.aload_n 0, 1) := by decide +kernel
theorem dX11_feed_59 : decode cX11_feed 59 = .ok (.getfield 12, 3) := by decide +kernel
theorem dX11_feed_62 : decode cX11_feed 62 = .ok (.getfield 86, 3) := by decide +kernel
theorem dX11_feed_65 : decode cX11_feed 65 = .ok (.ireturn, 1) := by decide +kernel
def wX11_feed (f : Nat) (Φ : Int → aj_M → Prop) (q0 : List Nat) (v1 : Int) (v2 : Int) (v3 : Int) (v4 : Int) (v5 : Int) (m : aj_M) : Prop := rI (m (0 :: q0) 1) ∧ ((m (0 :: q0) 1) ≤ 880 → wX7_layFour f (fun m1 => wX7_layFour f (fun m2 => wX7_layFour f (fun m3 => wX7_layFour f (fun m4 => wX7_layFour f (fun m5 => Φ (m5 (0 :: q0) 1) m5) (0 :: q0) v5 m4) (0 :: q0) v4 m3) (0 :: q0) v3 m2) (0 :: q0) v2 m1) (0 :: q0) v1 m) ∧ (¬ ((m (0 :: q0) 1) ≤ 880) → Φ (-5) m)
set_option maxHeartbeats 4000000 in
set_option maxRecDepth 100000 in
theorem sX11_feed {n f : Nat} {Φ : Int → aj_M → Prop} {q0 : List Nat} {v1 : Int} {v2 : Int} {v3 : Int} {v4 : Int} {v5 : Int} {m : aj_M} (hq0 : (.inl (11, q0) : aj_R) ∈ aj_pls) (h : wX11_feed f Φ q0 v1 v2 v3 v4 v5 m) : aj_Ct (n + 1) yX11_feed cX11_feed 6 (some .int) [vO 11 q0, vI v1, vI v2, vI v3, vI v4, vI v5] m (fun r m => ∃ z, r = some (vI z) ∧ Φ z m) := by
  refine aj_met (lv := [some (vO 11 q0), some (vI v1), some (vI v2), some (vI v3), some (vI v4), some (vI v5)]) (by decide +kernel) rfl (Nat.le_of_ble_eq_true rfl) (fun X C K => ?_)
  unfold wX11_feed at h
  refine aj_aload_n C dX11_feed_0 rfl ?_
  refine aj_getO (x := 7) (y := 0) C flX11_12 hq0 rfl dX11_feed_1 ?_
  refine aj_getI C flX11_86 (aj_cf (x := 7) (y := 0) (j := 0) hq0 (by decide) rfl) (by decide) dX11_feed_4 rfl ?_
  refine aj_sipush C dX11_feed_7 (by decide) ?_
  obtain ⟨r0, h1, h2⟩ := h
  refine aj_icmp_le (tgt := 16) C dX11_feed_10 (by decide) r0 (by decide) (fun e => ?_) (fun e => ?_)
  · have h := h1 e
    refine aj_aload_n C dX11_feed_16 rfl ?_
    refine aj_getO (x := 7) (y := 0) C flX11_12 hq0 rfl dX11_feed_17 ?_
    refine aj_iload_n C dX11_feed_20 rfl ?_
    refine aj_callV (rest := []) C mvX11_90 (sX7_layFour (aj_cf (x := 7) (y := 0) (j := 0) hq0 (by decide) rfl) h) (aj_cf (x := 7) (y := 0) (j := 0) hq0 (by decide) rfl) (aj_np 1 (by decide +kernel) rfl) (Nat.le_of_ble_eq_true rfl) rfl dX11_feed_21 (fun r m1 h => ?_)
    obtain ⟨rfl, h⟩ := h
    refine aj_aload_n C dX11_feed_24 rfl ?_
    refine aj_getO (x := 7) (y := 0) C flX11_12 hq0 rfl dX11_feed_25 ?_
    refine aj_iload_n C dX11_feed_28 rfl ?_
    refine aj_callV (rest := []) C mvX11_90 (sX7_layFour (aj_cf (x := 7) (y := 0) (j := 0) hq0 (by decide) rfl) h) (aj_cf (x := 7) (y := 0) (j := 0) hq0 (by decide) rfl) (aj_np 1 (by decide +kernel) rfl) (Nat.le_of_ble_eq_true rfl) rfl dX11_feed_29 (fun r m2 h => ?_)
    obtain ⟨rfl, h⟩ := h
    refine aj_aload_n C dX11_feed_32 rfl ?_
    refine aj_getO (x := 7) (y := 0) C flX11_12 hq0 rfl dX11_feed_33 ?_
    refine aj_iload_n C dX11_feed_36 rfl ?_
    refine aj_callV (rest := []) C mvX11_90 (sX7_layFour (aj_cf (x := 7) (y := 0) (j := 0) hq0 (by decide) rfl) h) (aj_cf (x := 7) (y := 0) (j := 0) hq0 (by decide) rfl) (aj_np 1 (by decide +kernel) rfl) (Nat.le_of_ble_eq_true rfl) rfl dX11_feed_37 (fun r m3 h => ?_)
    obtain ⟨rfl, h⟩ := h
    refine aj_aload_n C dX11_feed_40 rfl ?_
    refine aj_getO (x := 7) (y := 0) C flX11_12 hq0 rfl dX11_feed_41 ?_
    refine aj_iload C dX11_feed_44 rfl ?_
    refine aj_callV (rest := []) C mvX11_90 (sX7_layFour (aj_cf (x := 7) (y := 0) (j := 0) hq0 (by decide) rfl) h) (aj_cf (x := 7) (y := 0) (j := 0) hq0 (by decide) rfl) (aj_np 1 (by decide +kernel) rfl) (Nat.le_of_ble_eq_true rfl) rfl dX11_feed_46 (fun r m4 h => ?_)
    obtain ⟨rfl, h⟩ := h
    refine aj_aload_n C dX11_feed_49 rfl ?_
    refine aj_getO (x := 7) (y := 0) C flX11_12 hq0 rfl dX11_feed_50 ?_
    refine aj_iload C dX11_feed_53 rfl ?_
    refine aj_callV (rest := []) C mvX11_90 (sX7_layFour (aj_cf (x := 7) (y := 0) (j := 0) hq0 (by decide) rfl) h) (aj_cf (x := 7) (y := 0) (j := 0) hq0 (by decide) rfl) (aj_np 1 (by decide +kernel) rfl) (Nat.le_of_ble_eq_true rfl) rfl dX11_feed_55 (fun r m5 h => ?_)
    obtain ⟨rfl, h⟩ := h
    refine aj_aload_n C dX11_feed_58 rfl ?_
    refine aj_getO (x := 7) (y := 0) C flX11_12 hq0 rfl dX11_feed_59 ?_
    refine aj_getI C flX11_86 (aj_cf (x := 7) (y := 0) (j := 0) hq0 (by decide) rfl) (by decide) dX11_feed_62 rfl ?_
    exact aj_iret C K dX11_feed_65 ⟨_, rfl, h⟩
  · have h := h2 e
    refine aj_bipush C dX11_feed_13 (by decide) ?_
    exact aj_iret C K dX11_feed_15 ⟨_, rfl, h⟩
theorem dX11_works_0 : decode cX11_works 0 = .ok (.iload_n 1, 1) := by decide +kernel
theorem dX11_works_1 : decode cX11_works 1 = .ok (.ifCond .lt 14, 3) := by decide +kernel
theorem dX11_works_4 : decode cX11_works 4 = .ok (.iload_n 1, 1) := by decide +kernel
theorem dX11_works_5 : decode cX11_works 5 = .ok (.aload_n 0, 1) := by decide +kernel
theorem dX11_works_6 : decode cX11_works 6 = .ok (.getfield 12, 3) := by decide +kernel
theorem dX11_works_9 : decode cX11_works 9 = .ok (.getfield 86, 3) := by decide +kernel
theorem dX11_works_12 : decode cX11_works 12 = .ok (.if_icmp .le 6, 3) := by decide +kernel
theorem dX11_works_15 : decode cX11_works 15 = .ok (.bipush (-3), 2) := by decide +kernel
theorem dX11_works_17 : decode cX11_works 17 = .ok (.ireturn, 1) := by decide +kernel
theorem dX11_works_18 : decode cX11_works 18 = .ok (.aload_n 0, 1) := by decide +kernel
theorem dX11_works_19 : decode cX11_works 19 = .ok (.getfield 12, 3) := by decide +kernel
theorem dX11_works_22 : decode cX11_works 22 = .ok (.iload_n 1, 1) := by decide +kernel
theorem dX11_works_23 : decode cX11_works 23 = .ok (.invokevirtual 94, 3) := by decide +kernel
theorem dX11_works_26 : decode cX11_works 26 = .ok (.ifCond .ne 14, 3) := by decide +kernel
theorem dX11_works_29 : decode cX11_works 29 = .ok (.bipush (-30), 2) := by decide +kernel
theorem dX11_works_31 : decode cX11_works 31 = .ok (.aload_n 0, 1) := by decide +kernel
theorem dX11_works_32 : decode cX11_works 32 = .ok (.getfield 12, 3) := by decide +kernel
theorem dX11_works_35 : decode cX11_works 35 = .ok (.getfield 98, 3) := by decide +kernel
theorem dX11_works_38 : decode cX11_works 38 = .ok (.isub, 1) := by decide +kernel
theorem dX11_works_39 : decode cX11_works 39 = .ok (.ireturn, 1) := by decide +kernel
theorem dX11_works_40 : decode cX11_works 40 = .ok (.aload_n 0, 1) := by decide +kernel
theorem dX11_works_41 : decode cX11_works 41 = .ok (.getfield 19, 3) := by decide +kernel
theorem dX11_works_44 : decode cX11_works 44 = .ok (.aload_n 0, 1) := by decide +kernel
theorem dX11_works_45 : decode cX11_works 45 = .ok (.getfield 12, 3) := by decide +kernel
theorem dX11_works_48 : decode cX11_works 48 = .ok (.getfield 101, 3) := by decide +kernel
theorem dX11_works_51 : decode cX11_works 51 = .ok (.invokevirtual 102, 3) := by decide +kernel
theorem dX11_works_54 : decode cX11_works 54 = .ok (.aload_n 0, 1) := by decide +kernel
theorem dX11_works_55 : decode cX11_works 55 = .ok (.getfield 26, 3) := by decide +kernel
theorem dX11_works_58 : decode cX11_works 58 = .ok (.aload_n 0, 1) := by decide +kernel
theorem dX11_works_59 : decode cX11_works 59 = .ok (.getfield 19, 3) := by decide +kernel
theorem dX11_works_62 : decode cX11_works 62 = .ok (.invokevirtual 106, 3) := by decide +kernel
theorem dX11_works_65 : decode cX11_works 65 = .ok (.aload_n 0, 1) := by decide +kernel
theorem dX11_works_66 : decode cX11_works 66 = .ok (.getfield 39, 3) := by decide +kernel
theorem dX11_works_69 : decode cX11_works 69 = .ok (.invokevirtual 109, 3) := by decide +kernel
theorem dX11_works_72 : decode cX11_works 72 = .ok (.aload_n 0, 1) := by decide +kernel
theorem dX11_works_73 : decode cX11_works 73 = .ok (.iconst 1, 1) := by decide +kernel
theorem dX11_works_74 : decode cX11_works 74 = .ok (.putfield 80, 3) := by decide +kernel
theorem dX11_works_77 : decode cX11_works 77 = .ok (.aload_n 0, 1) := by decide +kernel
theorem dX11_works_78 : decode cX11_works 78 = .ok (.getfield 19, 3) := by decide +kernel
theorem dX11_works_81 : decode cX11_works 81 = .ok (.getfield 112, 3) := by decide +kernel
theorem dX11_works_84 : decode cX11_works 84 = .ok (.ireturn, 1) := by decide +kernel
def wX11_works (f : Nat) (Φ : Int → aj_M → Prop) (q0 : List Nat) (v1 : Int) (m : aj_M) : Prop := rI v1 ∧ (v1 < 0 → Φ (-3) m) ∧ (¬ (v1 < 0) → rI v1 ∧ rI (m (0 :: q0) 1) ∧ (v1 ≤ (m (0 :: q0) 1) → wX7_readAll f (fun z1 m1 => rI z1 ∧ (¬ z1 = 0 → wX6_copyFrom f (fun m2 => wX9_begin f (fun m3 => wX1_forget f (fun m4 => ∀ m5, m5 = aj_u m4 q0 12 1 → Φ (m5 (1 :: q0) 5) m5) (5 :: q0) m3) (2 :: q0) (1 :: q0) m2) (1 :: q0) (3 :: (0 :: q0)) m1) ∧ (z1 = 0 → Φ ((-30) - (m1 (0 :: q0) 9)) m1)) (0 :: q0) v1 m) ∧ (¬ (v1 ≤ (m (0 :: q0) 1)) → Φ (-3) m))
set_option maxHeartbeats 4000000 in
set_option maxRecDepth 100000 in
theorem sX11_works {n f : Nat} {Φ : Int → aj_M → Prop} {q0 : List Nat} {v1 : Int} {m : aj_M} (hq0 : (.inl (11, q0) : aj_R) ∈ aj_pls) (h : wX11_works f Φ q0 v1 m) : aj_Ct (n + 80) yX11_works cX11_works 2 (some .int) [vO 11 q0, vI v1] m (fun r m => ∃ z, r = some (vI z) ∧ Φ z m) := by
  refine aj_met (lv := [some (vO 11 q0), some (vI v1)]) (by decide +kernel) rfl (Nat.le_of_ble_eq_true rfl) (fun X C K => ?_)
  unfold wX11_works at h
  refine aj_iload_n C dX11_works_0 rfl ?_
  obtain ⟨r0, h1, h2⟩ := h
  refine aj_if_lt (tgt := 15) C dX11_works_1 (by decide) r0 (fun e => ?_) (fun e => ?_)
  · have h := h1 e
    refine aj_bipush C dX11_works_15 (by decide) ?_
    exact aj_iret C K dX11_works_17 ⟨_, rfl, h⟩
  · have h := h2 e
    refine aj_iload_n C dX11_works_4 rfl ?_
    refine aj_aload_n C dX11_works_5 rfl ?_
    refine aj_getO (x := 7) (y := 0) C flX11_12 hq0 rfl dX11_works_6 ?_
    refine aj_getI C flX11_86 (aj_cf (x := 7) (y := 0) (j := 0) hq0 (by decide) rfl) (by decide) dX11_works_9 rfl ?_
    obtain ⟨r0, r1, h1, h2⟩ := h
    refine aj_icmp_le (tgt := 18) C dX11_works_12 (by decide) r0 r1 (fun e => ?_) (fun e => ?_)
    · have h := h1 e
      refine aj_aload_n C dX11_works_18 rfl ?_
      refine aj_getO (x := 7) (y := 0) C flX11_12 hq0 rfl dX11_works_19 ?_
      refine aj_iload_n C dX11_works_22 rfl ?_
      refine aj_callV (rest := []) C mvX11_94 (sX7_readAll (aj_cf (x := 7) (y := 0) (j := 0) hq0 (by decide) rfl) h) (aj_cf (x := 7) (y := 0) (j := 0) hq0 (by decide) rfl) (aj_np 1 (by decide +kernel) rfl) (Nat.le_of_ble_eq_true rfl) rfl dX11_works_23 (fun r m1 h => ?_)
      obtain ⟨z1, rfl, h⟩ := h
      obtain ⟨r0, h1, h2⟩ := h
      refine aj_if_ne (tgt := 40) C dX11_works_26 (by decide) r0 (fun e => ?_) (fun e => ?_)
      · have h := h1 e
        refine aj_aload_n C dX11_works_40 rfl ?_
        refine aj_getO (x := 6) (y := 0) C flX11_19 hq0 rfl dX11_works_41 ?_
        refine aj_aload_n C dX11_works_44 rfl ?_
        refine aj_getO (x := 7) (y := 0) C flX11_12 hq0 rfl dX11_works_45 ?_
        refine aj_getO (x := 6) (y := 0) C flX11_101 (aj_cf (x := 7) (y := 0) (j := 0) hq0 (by decide) rfl) rfl dX11_works_48 ?_
        refine aj_callV (rest := []) C mvX11_102 (sX6_copyFrom (aj_cf (x := 6) (y := 0) (j := 1) hq0 (by decide) rfl) (aj_cf (x := 6) (y := 0) (j := 3) (aj_cf (x := 7) (y := 0) (j := 0) hq0 (by decide) rfl) (by decide) rfl) h) (aj_cf (x := 6) (y := 0) (j := 1) hq0 (by decide) rfl) (aj_np 1 (by decide +kernel) rfl) (Nat.le_of_ble_eq_true rfl) rfl dX11_works_51 (fun r m2 h => ?_)
        obtain ⟨rfl, h⟩ := h
        refine aj_aload_n C dX11_works_54 rfl ?_
        refine aj_getO (x := 9) (y := 0) C flX11_26 hq0 rfl dX11_works_55 ?_
        refine aj_aload_n C dX11_works_58 rfl ?_
        refine aj_getO (x := 6) (y := 0) C flX11_19 hq0 rfl dX11_works_59 ?_
        refine aj_callV (rest := []) C mvX11_106 (sX9_begin (aj_cf (x := 9) (y := 0) (j := 2) hq0 (by decide) rfl) (aj_cf (x := 6) (y := 0) (j := 1) hq0 (by decide) rfl) h) (aj_cf (x := 9) (y := 0) (j := 2) hq0 (by decide) rfl) (aj_np 1 (by decide +kernel) rfl) (Nat.le_of_ble_eq_true rfl) rfl dX11_works_62 (fun r m3 h => ?_)
        obtain ⟨rfl, h⟩ := h
        refine aj_aload_n C dX11_works_65 rfl ?_
        refine aj_getO (x := 1) (y := 0) C flX11_39 hq0 rfl dX11_works_66 ?_
        refine aj_callV (rest := []) C mvX11_109 (sX1_forget (aj_cf (x := 1) (y := 0) (j := 5) hq0 (by decide) rfl) h) (aj_cf (x := 1) (y := 0) (j := 5) hq0 (by decide) rfl) (aj_np 0 (by decide +kernel) rfl) (Nat.le_of_ble_eq_true rfl) rfl dX11_works_69 (fun r m4 h => ?_)
        obtain ⟨rfl, h⟩ := h
        refine aj_aload_n C dX11_works_72 rfl ?_
        refine aj_iconst C dX11_works_73 ?_
        refine aj_putZ C fpX11_80 hq0 (Or.inr rfl) rfl dX11_works_74 ?_
        refine aj_nm (fun m5 e1 => ?_)
        have h := h m5 e1
        refine aj_aload_n C dX11_works_77 rfl ?_
        refine aj_getO (x := 6) (y := 0) C flX11_19 hq0 rfl dX11_works_78 ?_
        refine aj_getI C flX11_112 (aj_cf (x := 6) (y := 0) (j := 1) hq0 (by decide) rfl) (by decide) dX11_works_81 rfl ?_
        exact aj_iret C K dX11_works_84 ⟨_, rfl, h⟩
      · have h := h2 e
        refine aj_bipush C dX11_works_29 (by decide) ?_
        refine aj_aload_n C dX11_works_31 rfl ?_
        refine aj_getO (x := 7) (y := 0) C flX11_12 hq0 rfl dX11_works_32 ?_
        refine aj_getI C flX11_98 (aj_cf (x := 7) (y := 0) (j := 0) hq0 (by decide) rfl) (by decide) dX11_works_35 rfl ?_
        refine aj_isub C dX11_works_38 ?_
        exact aj_iret C K dX11_works_39 ⟨_, rfl, h⟩
    · have h := h2 e
      refine aj_bipush C dX11_works_15 (by decide) ?_
      exact aj_iret C K dX11_works_17 ⟨_, rfl, h⟩
theorem dX11_fault_0 : decode cX11_fault 0 = .ok (.iload_n 1, 1) := by decide +kernel
theorem dX11_fault_1 : decode cX11_fault 1 = .ok (.lookupswitch 43 #[(0, 27), (1, 35)], 27) := by decide +kernel
theorem dX11_fault_28 : decode cX11_fault 28 = .ok (.aload_n 0, 1) := by decide +kernel
theorem dX11_fault_29 : decode cX11_fault 29 = .ok (.getfield 12, 3) := by decide +kernel
theorem dX11_fault_32 : decode cX11_fault 32 = .ok (.getfield 98, 3) := by decide +kernel
theorem dX11_fault_35 : decode cX11_fault 35 = .ok (.ireturn, 1) := by decide +kernel
theorem dX11_fault_36 : decode cX11_fault 36 = .ok (.aload_n 0, 1) := by decide +kernel
theorem dX11_fault_37 : decode cX11_fault 37 = .ok (.getfield 12, 3) := by decide +kernel
theorem dX11_fault_40 : decode cX11_fault 40 = .ok (.getfield 115, 3) := by decide +kernel
theorem dX11_fault_43 : decode cX11_fault 43 = .ok (.ireturn, 1) := by decide +kernel
theorem dX11_fault_44 : decode cX11_fault 44 = .ok (.iconst (-1), 1) := by decide +kernel
theorem dX11_fault_45 : decode cX11_fault 45 = .ok (.ireturn, 1) := by decide +kernel
def wX11_fault (f : Nat) (Φ : Int → aj_M → Prop) (q0 : List Nat) (v1 : Int) (m : aj_M) : Prop := rI v1 ∧ (¬ v1 = 0 ∧ ¬ v1 = 1 → Φ (-1) m) ∧ (v1 = 0 → Φ (m (0 :: q0) 9) m) ∧ (v1 = 1 → Φ (m (0 :: q0) 10) m)
set_option maxHeartbeats 4000000 in
set_option maxRecDepth 100000 in
theorem sX11_fault {n f : Nat} {Φ : Int → aj_M → Prop} {q0 : List Nat} {v1 : Int} {m : aj_M} (hq0 : (.inl (11, q0) : aj_R) ∈ aj_pls) (h : wX11_fault f Φ q0 v1 m) : aj_Ct n yX11_fault cX11_fault 2 (some .int) [vO 11 q0, vI v1] m (fun r m => ∃ z, r = some (vI z) ∧ Φ z m) := by
  refine aj_met (lv := [some (vO 11 q0), some (vI v1)]) (by decide +kernel) rfl (Nat.le_of_ble_eq_true rfl) (fun X C K => ?_)
  unfold wX11_fault at h
  refine aj_iload_n C dX11_fault_0 rfl ?_
  obtain ⟨r0, hd, hc0, hc1⟩ := h
  rcases (by omega : (¬ v1 = 0 ∧ ¬ v1 = 1) ∨ v1 = 0 ∨ v1 = 1) with e | e | e
  · have h := hd e
    refine aj_look (tgt := 44) (off := 43) C dX11_fault_1 (by decide) r0 (by simp [Op.lookupswitch.offset_cons, Op.lookupswitch.offset]; omega) (by decide) ?_
    refine aj_iconst C dX11_fault_44 ?_
    exact aj_iret C K dX11_fault_45 ⟨_, rfl, h⟩
  · have h := hc0 e
    refine aj_look (tgt := 28) (off := 27) C dX11_fault_1 (by decide) r0 (by rw [e]; rfl) (by decide) ?_
    refine aj_aload_n C dX11_fault_28 rfl ?_
    refine aj_getO (x := 7) (y := 0) C flX11_12 hq0 rfl dX11_fault_29 ?_
    refine aj_getI C flX11_98 (aj_cf (x := 7) (y := 0) (j := 0) hq0 (by decide) rfl) (by decide) dX11_fault_32 rfl ?_
    exact aj_iret C K dX11_fault_35 ⟨_, rfl, h⟩
  · have h := hc1 e
    refine aj_look (tgt := 36) (off := 35) C dX11_fault_1 (by decide) r0 (by rw [e]; rfl) (by decide) ?_
    refine aj_aload_n C dX11_fault_36 rfl ?_
    refine aj_getO (x := 7) (y := 0) C flX11_12 hq0 rfl dX11_fault_37 ?_
    refine aj_getI C flX11_115 (aj_cf (x := 7) (y := 0) (j := 0) hq0 (by decide) rfl) (by decide) dX11_fault_40 rfl ?_
    exact aj_iret C K dX11_fault_43 ⟨_, rfl, h⟩
theorem dX11_arc_0 : decode cX11_arc 0 = .ok (.aload_n 0, 1) := by decide +kernel
theorem dX11_arc_1 : decode cX11_arc 1 = .ok (.getfield 19, 3) := by decide +kernel
theorem dX11_arc_4 : decode cX11_arc 4 = .ok (.iload_n 1, 1) := by decide +kernel
theorem dX11_arc_5 : decode cX11_arc 5 = .ok (.invokevirtual 118, 3) := by decide +kernel
theorem dX11_arc_8 : decode cX11_arc 8 = .ok (.ifCond .ne 6, 3) := by decide +kernel
theorem dX11_arc_11 : decode cX11_arc 11 = .ok (.bipush (-2), 2) := by decide +kernel
theorem dX11_arc_13 : decode cX11_arc 13 = .ok (.ireturn, 1) := by decide +kernel
theorem dX11_arc_14 : decode cX11_arc 14 = .ok (.iload_n 2, 1) := by decide +kernel
theorem dX11_arc_15 : decode cX11_arc 15 = .ok (.tableswitch 97 0 4 #[33, 43, 53, 63, 80], 33) := by decide +kernel
theorem dX11_arc_48 : decode cX11_arc 48 = .ok (.aload_n 0, 1) := by decide +kernel
theorem dX11_arc_49 : decode cX11_arc 49 = .ok (.getfield 19, 3) := by decide +kernel
theorem dX11_arc_52 : decode cX11_arc 52 = .ok (.getfield 121, 3) := by decide +kernel
theorem dX11_arc_55 : decode cX11_arc 55 = .ok (.iload_n 1, 1) := by decide +kernel
theorem dX11_arc_56 : decode cX11_arc 56 = .ok (.iaload, 1) := by decide +kernel
theorem dX11_arc_57 : decode cX11_arc 57 = .ok (.ireturn, 1) := by decide +kernel
theorem dX11_arc_58 : decode cX11_arc 58 = .ok (.aload_n 0, 1) := by decide +kernel
theorem dX11_arc_59 : decode cX11_arc 59 = .ok (.getfield 19, 3) := by decide +kernel
theorem dX11_arc_62 : decode cX11_arc 62 = .ok (.getfield 124, 3) := by decide +kernel
theorem dX11_arc_65 : decode cX11_arc 65 = .ok (.iload_n 1, 1) := by decide +kernel
theorem dX11_arc_66 : decode cX11_arc 66 = .ok (.iaload, 1) := by decide +kernel
theorem dX11_arc_67 : decode cX11_arc 67 = .ok (.ireturn, 1) := by decide +kernel
theorem dX11_arc_68 : decode cX11_arc 68 = .ok (.aload_n 0, 1) := by decide +kernel
theorem dX11_arc_69 : decode cX11_arc 69 = .ok (.getfield 26, 3) := by decide +kernel
theorem dX11_arc_72 : decode cX11_arc 72 = .ok (.getfield 127, 3) := by decide +kernel
theorem dX11_arc_75 : decode cX11_arc 75 = .ok (.iload_n 1, 1) := by decide +kernel
theorem dX11_arc_76 : decode cX11_arc 76 = .ok (.iaload, 1) := by decide +kernel
theorem dX11_arc_77 : decode cX11_arc 77 = .ok (.ireturn, 1) := by decide +kernel
theorem dX11_arc_78 : decode cX11_arc 78 = .ok (.aload_n 0, 1) := by decide +kernel
theorem dX11_arc_79 : decode cX11_arc 79 = .ok (.getfield 19, 3) := by decide +kernel
theorem dX11_arc_82 : decode cX11_arc 82 = .ok (.iload_n 1, 1) := by decide +kernel
theorem dX11_arc_83 : decode cX11_arc 83 = .ok (.invokevirtual 130, 3) := by decide +kernel
theorem dX11_arc_86 : decode cX11_arc 86 = .ok (.ifCond .eq 7, 3) := by decide +kernel
theorem dX11_arc_89 : decode cX11_arc 89 = .ok (.iconst 1, 1) := by decide +kernel
theorem dX11_arc_90 : decode cX11_arc 90 = .ok (.goto 4, 3) := by decide +kernel
theorem dX11_arc_93 : decode cX11_arc 93 = .ok (.iconst 0, 1) := by decide +kernel
theorem dX11_arc_94 : decode cX11_arc 94 = .ok (.ireturn, 1) := by decide +kernel
theorem dX11_arc_95 : decode cX11_arc 95 = .ok (.aload_n 0, 1) := by decide +kernel
theorem dX11_arc_96 : decode cX11_arc 96 = .ok (.getfield 26, 3) := by decide +kernel
theorem dX11_arc_99 : decode cX11_arc 99 = .ok (.iload_n 1, 1) := by decide +kernel
theorem dX11_arc_100 : decode cX11_arc 100 = .ok (.invokevirtual 133, 3) := by decide +kernel
theorem dX11_arc_103 : decode cX11_arc 103 = .ok (.ifCond .eq 7, 3) := by decide +kernel
theorem dX11_arc_106 : decode cX11_arc 106 = .ok (.iconst 1, 1) := by decide +kernel
theorem dX11_arc_107 : decode cX11_arc 107 = .ok (.goto 4, 3) := by decide +kernel
theorem dX11_arc_110 : decode cX11_arc 110 = .ok (.iconst 0, 1) := by decide +kernel
theorem dX11_arc_111 : decode cX11_arc 111 = .ok (.ireturn, 1) := by decide +kernel
theorem dX11_arc_112 : decode cX11_arc 112 = .ok (.bipush (-2), 2) := by decide +kernel
theorem dX11_arc_114 : decode cX11_arc 114 = .ok (.ireturn, 1) := by decide +kernel
def wX11_arc (f : Nat) (Φ : Int → aj_M → Prop) (q0 : List Nat) (v1 : Int) (v2 : Int) (m : aj_M) : Prop := wX6_hasArc f (fun z1 m1 => rI z1 ∧ (¬ z1 = 0 → rI v2 ∧ (v2 < 0 ∨ 4 < v2 → Φ (-2) m1) ∧ (v2 = 0 → (0 ≤ v1 ∧ v1 < 12) ∧ Φ (m1 (7 :: (1 :: q0)) v1.toNat) m1) ∧ (v2 = 1 → (0 ≤ v1 ∧ v1 < 12) ∧ Φ (m1 (8 :: (1 :: q0)) v1.toNat) m1) ∧ (v2 = 2 → (0 ≤ v1 ∧ v1 < 12) ∧ Φ (m1 (0 :: (2 :: q0)) v1.toNat) m1) ∧ (v2 = 3 → wX6_isHalf f (fun z2 m2 => rI z2 ∧ (z2 = 0 → Φ 0 m2) ∧ (¬ (z2 = 0) → Φ 1 m2)) (1 :: q0) v1 m1) ∧ (v2 = 4 → wX9_isOut f (fun z3 m3 => rI z3 ∧ (z3 = 0 → Φ 0 m3) ∧ (¬ (z3 = 0) → Φ 1 m3)) (2 :: q0) v1 m1)) ∧ (z1 = 0 → Φ (-2) m1)) (1 :: q0) v1 m
set_option maxHeartbeats 4000000 in
set_option maxRecDepth 100000 in
theorem sX11_arc {n f : Nat} {Φ : Int → aj_M → Prop} {q0 : List Nat} {v1 : Int} {v2 : Int} {m : aj_M} (hq0 : (.inl (11, q0) : aj_R) ∈ aj_pls) (h : wX11_arc f Φ q0 v1 v2 m) : aj_Ct (n + 2) yX11_arc cX11_arc 3 (some .int) [vO 11 q0, vI v1, vI v2] m (fun r m => ∃ z, r = some (vI z) ∧ Φ z m) := by
  refine aj_met (lv := [some (vO 11 q0), some (vI v1), some (vI v2)]) (by decide +kernel) rfl (Nat.le_of_ble_eq_true rfl) (fun X C K => ?_)
  unfold wX11_arc at h
  refine aj_aload_n C dX11_arc_0 rfl ?_
  refine aj_getO (x := 6) (y := 0) C flX11_19 hq0 rfl dX11_arc_1 ?_
  refine aj_iload_n C dX11_arc_4 rfl ?_
  refine aj_callV (rest := []) C mvX11_118 (sX6_hasArc (aj_cf (x := 6) (y := 0) (j := 1) hq0 (by decide) rfl) h) (aj_cf (x := 6) (y := 0) (j := 1) hq0 (by decide) rfl) (aj_np 1 (by decide +kernel) rfl) (Nat.le_of_ble_eq_true rfl) rfl dX11_arc_5 (fun r m1 h => ?_)
  obtain ⟨z1, rfl, h⟩ := h
  obtain ⟨r0, h1, h2⟩ := h
  refine aj_if_ne (tgt := 14) C dX11_arc_8 (by decide) r0 (fun e => ?_) (fun e => ?_)
  · have h := h1 e
    refine aj_iload_n C dX11_arc_14 rfl ?_
    obtain ⟨r0, hd, hc0, hc1, hc2, hc3, hc4⟩ := h
    rcases (by omega : (v2 < 0 ∨ 4 < v2) ∨ v2 = 0 ∨ v2 = 1 ∨ v2 = 2 ∨ v2 = 3 ∨ v2 = 4) with e | e | e | e | e | e
    · have h := hd e
      refine aj_tout (tgt := 112) C dX11_arc_15 r0 e (by decide) ?_
      refine aj_bipush C dX11_arc_112 (by decide) ?_
      exact aj_iret C K dX11_arc_114 ⟨_, rfl, h⟩
    · have h := hc0 e
      refine aj_tin (tgt := 48) (off := 33) C dX11_arc_15 r0 (by omega) (by omega) (by rw [e]; rfl) (by decide) ?_
      refine aj_aload_n C dX11_arc_48 rfl ?_
      refine aj_getO (x := 6) (y := 0) C flX11_19 hq0 rfl dX11_arc_49 ?_
      refine aj_getA (x := 0) (y := 12) C flX11_121 (aj_cf (x := 6) (y := 0) (j := 1) hq0 (by decide) rfl) rfl dX11_arc_52 ?_
      refine aj_iload_n C dX11_arc_55 rfl ?_
      obtain ⟨r0, h⟩ := h
      refine aj_iald C (aj_ca (e := 0) (n := 12) (j := 7) (aj_cf (x := 6) (y := 0) (j := 1) hq0 (by decide) rfl) (by decide) rfl) (by decide) r0 dX11_arc_56 rfl ?_
      exact aj_iret C K dX11_arc_57 ⟨_, rfl, h⟩
    · have h := hc1 e
      refine aj_tin (tgt := 58) (off := 43) C dX11_arc_15 r0 (by omega) (by omega) (by rw [e]; rfl) (by decide) ?_
      refine aj_aload_n C dX11_arc_58 rfl ?_
      refine aj_getO (x := 6) (y := 0) C flX11_19 hq0 rfl dX11_arc_59 ?_
      refine aj_getA (x := 0) (y := 12) C flX11_124 (aj_cf (x := 6) (y := 0) (j := 1) hq0 (by decide) rfl) rfl dX11_arc_62 ?_
      refine aj_iload_n C dX11_arc_65 rfl ?_
      obtain ⟨r0, h⟩ := h
      refine aj_iald C (aj_ca (e := 0) (n := 12) (j := 8) (aj_cf (x := 6) (y := 0) (j := 1) hq0 (by decide) rfl) (by decide) rfl) (by decide) r0 dX11_arc_66 rfl ?_
      exact aj_iret C K dX11_arc_67 ⟨_, rfl, h⟩
    · have h := hc2 e
      refine aj_tin (tgt := 68) (off := 53) C dX11_arc_15 r0 (by omega) (by omega) (by rw [e]; rfl) (by decide) ?_
      refine aj_aload_n C dX11_arc_68 rfl ?_
      refine aj_getO (x := 9) (y := 0) C flX11_26 hq0 rfl dX11_arc_69 ?_
      refine aj_getA (x := 0) (y := 12) C flX11_127 (aj_cf (x := 9) (y := 0) (j := 2) hq0 (by decide) rfl) rfl dX11_arc_72 ?_
      refine aj_iload_n C dX11_arc_75 rfl ?_
      obtain ⟨r0, h⟩ := h
      refine aj_iald C (aj_ca (e := 0) (n := 12) (j := 0) (aj_cf (x := 9) (y := 0) (j := 2) hq0 (by decide) rfl) (by decide) rfl) (by decide) r0 dX11_arc_76 rfl ?_
      exact aj_iret C K dX11_arc_77 ⟨_, rfl, h⟩
    · have h := hc3 e
      refine aj_tin (tgt := 78) (off := 63) C dX11_arc_15 r0 (by omega) (by omega) (by rw [e]; rfl) (by decide) ?_
      refine aj_aload_n C dX11_arc_78 rfl ?_
      refine aj_getO (x := 6) (y := 0) C flX11_19 hq0 rfl dX11_arc_79 ?_
      refine aj_iload_n C dX11_arc_82 rfl ?_
      refine aj_callV (rest := []) C mvX11_130 (sX6_isHalf (aj_cf (x := 6) (y := 0) (j := 1) hq0 (by decide) rfl) h) (aj_cf (x := 6) (y := 0) (j := 1) hq0 (by decide) rfl) (aj_np 1 (by decide +kernel) rfl) (Nat.le_of_ble_eq_true rfl) rfl dX11_arc_83 (fun r m2 h => ?_)
      obtain ⟨z2, rfl, h⟩ := h
      obtain ⟨r0, h1, h2⟩ := h
      refine aj_if_eq (tgt := 93) C dX11_arc_86 (by decide) r0 (fun e => ?_) (fun e => ?_)
      · have h := h1 e
        refine aj_iconst C dX11_arc_93 ?_
        exact aj_iret C K dX11_arc_94 ⟨_, rfl, h⟩
      · have h := h2 e
        refine aj_iconst C dX11_arc_89 ?_
        refine aj_goto (tgt := 94) C dX11_arc_90 (by decide) ?_
        exact aj_iret C K dX11_arc_94 ⟨_, rfl, h⟩
    · have h := hc4 e
      refine aj_tin (tgt := 95) (off := 80) C dX11_arc_15 r0 (by omega) (by omega) (by rw [e]; rfl) (by decide) ?_
      refine aj_aload_n C dX11_arc_95 rfl ?_
      refine aj_getO (x := 9) (y := 0) C flX11_26 hq0 rfl dX11_arc_96 ?_
      refine aj_iload_n C dX11_arc_99 rfl ?_
      refine aj_callV (rest := []) C mvX11_133 (sX9_isOut (aj_cf (x := 9) (y := 0) (j := 2) hq0 (by decide) rfl) h) (aj_cf (x := 9) (y := 0) (j := 2) hq0 (by decide) rfl) (aj_np 1 (by decide +kernel) rfl) (Nat.le_of_ble_eq_true rfl) rfl dX11_arc_100 (fun r m3 h => ?_)
      obtain ⟨z3, rfl, h⟩ := h
      obtain ⟨r0, h1, h2⟩ := h
      refine aj_if_eq (tgt := 110) C dX11_arc_103 (by decide) r0 (fun e => ?_) (fun e => ?_)
      · have h := h1 e
        refine aj_iconst C dX11_arc_110 ?_
        exact aj_iret C K dX11_arc_111 ⟨_, rfl, h⟩
      · have h := h2 e
        refine aj_iconst C dX11_arc_106 ?_
        refine aj_goto (tgt := 111) C dX11_arc_107 (by decide) ?_
        exact aj_iret C K dX11_arc_111 ⟨_, rfl, h⟩
  · have h := h2 e
    refine aj_bipush C dX11_arc_11 (by decide) ?_
    exact aj_iret C K dX11_arc_13 ⟨_, rfl, h⟩
theorem dX11_product_0 : decode cX11_product 0 = .ok (.aload_n 0, 1) := by decide +kernel
theorem dX11_product_1 : decode cX11_product 1 = .ok (.getfield 19, 3) := by decide +kernel
theorem dX11_product_4 : decode cX11_product 4 = .ok (.getfield 136, 3) := by decide +kernel
theorem dX11_product_7 : decode cX11_product 7 = .ok (.iload_n 1, 1) := by decide +kernel
theorem dX11_product_8 : decode cX11_product 8 = .ok (.invokevirtual 140, 3) := by decide +kernel
theorem dX11_product_11 : decode cX11_product 11 = .ok (.ifCond .eq 17, 3) := by decide +kernel
theorem dX11_product_14 : decode cX11_product 14 = .ok (.aload_n 0, 1) := by decide +kernel
theorem dX11_product_15 : decode cX11_product 15 = .ok (.getfield 19, 3) := by decide +kernel
theorem dX11_product_18 : decode cX11_product 18 = .ok (.getfield 136, 3) := by decide +kernel
theorem dX11_product_21 : decode cX11_product 21 = .ok (.iload_n 2, 1) := by decide +kernel
theorem dX11_product_22 : decode cX11_product 22 = .ok (.invokevirtual 140, 3) := by decide +kernel
theorem dX11_product_25 : decode cX11_product 25 = .ok (.ifCond .ne 6, 3) := by decide +kernel
theorem dX11_product_28 : decode cX11_product 28 = .ok (.bipush (-2), 2) := by decide +kernel
theorem dX11_product_30 : decode cX11_product 30 = .ok (.ireturn, 1) := by decide +kernel
theorem dX11_product_31 : decode cX11_product 31 = .ok (.aload_n 0, 1) := by decide +kernel
theorem dX11_product_32 : decode cX11_product 32 = .ok (.getfield 19, 3) := by decide +kernel
theorem dX11_product_35 : decode cX11_product 35 = .ok (.getfield 136, 3) := by decide +kernel
theorem dX11_product_38 : decode cX11_product 38 = .ok (.iload_n 1, 1) := by decide +kernel
theorem dX11_product_39 : decode cX11_product 39 = .ok (.iload_n 2, 1) := by decide +kernel
theorem dX11_product_40 : decode cX11_product 40 = .ok (.invokevirtual 145, 3) := by decide +kernel
theorem dX11_product_43 : decode cX11_product 43 = .ok (.ireturn, 1) := by decide +kernel
def wX11_product (f : Nat) (Φ : Int → aj_M → Prop) (q0 : List Nat) (v1 : Int) (v2 : Int) (m : aj_M) : Prop := wX0_has f (fun z1 m1 => rI z1 ∧ (z1 = 0 → Φ (-2) m1) ∧ (¬ (z1 = 0) → wX0_has f (fun z2 m2 => rI z2 ∧ (¬ z2 = 0 → wX0_times f (fun z3 m3 => Φ z3 m3) (0 :: (1 :: q0)) v1 v2 m2) ∧ (z2 = 0 → Φ (-2) m2)) (0 :: (1 :: q0)) v2 m1)) (0 :: (1 :: q0)) v1 m
set_option maxHeartbeats 4000000 in
set_option maxRecDepth 100000 in
theorem sX11_product {n f : Nat} {Φ : Int → aj_M → Prop} {q0 : List Nat} {v1 : Int} {v2 : Int} {m : aj_M} (hq0 : (.inl (11, q0) : aj_R) ∈ aj_pls) (h : wX11_product f Φ q0 v1 v2 m) : aj_Ct (n + 2) yX11_product cX11_product 3 (some .int) [vO 11 q0, vI v1, vI v2] m (fun r m => ∃ z, r = some (vI z) ∧ Φ z m) := by
  refine aj_met (lv := [some (vO 11 q0), some (vI v1), some (vI v2)]) (by decide +kernel) rfl (Nat.le_of_ble_eq_true rfl) (fun X C K => ?_)
  unfold wX11_product at h
  refine aj_aload_n C dX11_product_0 rfl ?_
  refine aj_getO (x := 6) (y := 0) C flX11_19 hq0 rfl dX11_product_1 ?_
  refine aj_getO (x := 0) (y := 0) C flX11_136 (aj_cf (x := 6) (y := 0) (j := 1) hq0 (by decide) rfl) rfl dX11_product_4 ?_
  refine aj_iload_n C dX11_product_7 rfl ?_
  refine aj_callV (rest := []) C mvX11_140 (sX0_has (aj_cf (x := 0) (y := 0) (j := 0) (aj_cf (x := 6) (y := 0) (j := 1) hq0 (by decide) rfl) (by decide) rfl) h) (aj_cf (x := 0) (y := 0) (j := 0) (aj_cf (x := 6) (y := 0) (j := 1) hq0 (by decide) rfl) (by decide) rfl) (aj_np 1 (by decide +kernel) rfl) (Nat.le_of_ble_eq_true rfl) rfl dX11_product_8 (fun r m1 h => ?_)
  obtain ⟨z1, rfl, h⟩ := h
  obtain ⟨r0, h1, h2⟩ := h
  refine aj_if_eq (tgt := 28) C dX11_product_11 (by decide) r0 (fun e => ?_) (fun e => ?_)
  · have h := h1 e
    refine aj_bipush C dX11_product_28 (by decide) ?_
    exact aj_iret C K dX11_product_30 ⟨_, rfl, h⟩
  · have h := h2 e
    refine aj_aload_n C dX11_product_14 rfl ?_
    refine aj_getO (x := 6) (y := 0) C flX11_19 hq0 rfl dX11_product_15 ?_
    refine aj_getO (x := 0) (y := 0) C flX11_136 (aj_cf (x := 6) (y := 0) (j := 1) hq0 (by decide) rfl) rfl dX11_product_18 ?_
    refine aj_iload_n C dX11_product_21 rfl ?_
    refine aj_callV (rest := []) C mvX11_140 (sX0_has (aj_cf (x := 0) (y := 0) (j := 0) (aj_cf (x := 6) (y := 0) (j := 1) hq0 (by decide) rfl) (by decide) rfl) h) (aj_cf (x := 0) (y := 0) (j := 0) (aj_cf (x := 6) (y := 0) (j := 1) hq0 (by decide) rfl) (by decide) rfl) (aj_np 1 (by decide +kernel) rfl) (Nat.le_of_ble_eq_true rfl) rfl dX11_product_22 (fun r m2 h => ?_)
    obtain ⟨z2, rfl, h⟩ := h
    obtain ⟨r0, h1, h2⟩ := h
    refine aj_if_ne (tgt := 31) C dX11_product_25 (by decide) r0 (fun e => ?_) (fun e => ?_)
    · have h := h1 e
      refine aj_aload_n C dX11_product_31 rfl ?_
      refine aj_getO (x := 6) (y := 0) C flX11_19 hq0 rfl dX11_product_32 ?_
      refine aj_getO (x := 0) (y := 0) C flX11_136 (aj_cf (x := 6) (y := 0) (j := 1) hq0 (by decide) rfl) rfl dX11_product_35 ?_
      refine aj_iload_n C dX11_product_38 rfl ?_
      refine aj_iload_n C dX11_product_39 rfl ?_
      refine aj_callV (rest := []) C mvX11_145 (sX0_times (aj_cf (x := 0) (y := 0) (j := 0) (aj_cf (x := 6) (y := 0) (j := 1) hq0 (by decide) rfl) (by decide) rfl) h) (aj_cf (x := 0) (y := 0) (j := 0) (aj_cf (x := 6) (y := 0) (j := 1) hq0 (by decide) rfl) (by decide) rfl) (aj_np 2 (by decide +kernel) rfl) (Nat.le_of_ble_eq_true rfl) rfl dX11_product_40 (fun r m3 h => ?_)
      obtain ⟨z3, rfl, h⟩ := h
      exact aj_iret C K dX11_product_43 ⟨_, rfl, h⟩
    · have h := h2 e
      refine aj_bipush C dX11_product_28 (by decide) ?_
      exact aj_iret C K dX11_product_30 ⟨_, rfl, h⟩
theorem dX11_inverse_0 : decode cX11_inverse 0 = .ok (.aload_n 0, 1) := by decide +kernel
theorem dX11_inverse_1 : decode cX11_inverse 1 = .ok (.getfield 19, 3) := by decide +kernel
theorem dX11_inverse_4 : decode cX11_inverse 4 = .ok (.getfield 136, 3) := by decide +kernel
theorem dX11_inverse_7 : decode cX11_inverse 7 = .ok (.iload_n 1, 1) := by decide +kernel
theorem dX11_inverse_8 : decode cX11_inverse 8 = .ok (.invokevirtual 140, 3) := by decide +kernel
theorem dX11_inverse_11 : decode cX11_inverse 11 = .ok (.ifCond .eq 18, 3) := by decide +kernel
theorem dX11_inverse_14 : decode cX11_inverse 14 = .ok (.aload_n 0, 1) := by decide +kernel
theorem dX11_inverse_15 : decode cX11_inverse 15 = .ok (.getfield 19, 3) := by decide +kernel
theorem dX11_inverse_18 : decode cX11_inverse 18 = .ok (.getfield 136, 3) := by decide +kernel
theorem dX11_inverse_21 : decode cX11_inverse 21 = .ok (.getfield 149, 3) := by decide +kernel
theorem dX11_inverse_24 : decode cX11_inverse 24 = .ok (.iload_n 1, 1) := by decide +kernel
theorem dX11_inverse_25 : decode cX11_inverse 25 = .ok (.iaload, 1) := by decide +kernel
theorem dX11_inverse_26 : decode cX11_inverse 26 = .ok (.goto 5, 3) := by decide +kernel
theorem dX11_inverse_29 : decode cX11_inverse 29 = .ok (.bipush (-2), 2) := by decide +kernel
theorem dX11_inverse_31 : decode cX11_inverse 31 = .ok (.ireturn, 1) := by decide +kernel
def wX11_inverse (f : Nat) (Φ : Int → aj_M → Prop) (q0 : List Nat) (v1 : Int) (m : aj_M) : Prop := wX0_has f (fun z1 m1 => rI z1 ∧ (z1 = 0 → Φ (-2) m1) ∧ (¬ (z1 = 0) → (0 ≤ v1 ∧ v1 < 12) ∧ Φ (m1 (2 :: (0 :: (1 :: q0))) v1.toNat) m1)) (0 :: (1 :: q0)) v1 m
set_option maxHeartbeats 4000000 in
set_option maxRecDepth 100000 in
theorem sX11_inverse {n f : Nat} {Φ : Int → aj_M → Prop} {q0 : List Nat} {v1 : Int} {m : aj_M} (hq0 : (.inl (11, q0) : aj_R) ∈ aj_pls) (h : wX11_inverse f Φ q0 v1 m) : aj_Ct (n + 1) yX11_inverse cX11_inverse 2 (some .int) [vO 11 q0, vI v1] m (fun r m => ∃ z, r = some (vI z) ∧ Φ z m) := by
  refine aj_met (lv := [some (vO 11 q0), some (vI v1)]) (by decide +kernel) rfl (Nat.le_of_ble_eq_true rfl) (fun X C K => ?_)
  unfold wX11_inverse at h
  refine aj_aload_n C dX11_inverse_0 rfl ?_
  refine aj_getO (x := 6) (y := 0) C flX11_19 hq0 rfl dX11_inverse_1 ?_
  refine aj_getO (x := 0) (y := 0) C flX11_136 (aj_cf (x := 6) (y := 0) (j := 1) hq0 (by decide) rfl) rfl dX11_inverse_4 ?_
  refine aj_iload_n C dX11_inverse_7 rfl ?_
  refine aj_callV (rest := []) C mvX11_140 (sX0_has (aj_cf (x := 0) (y := 0) (j := 0) (aj_cf (x := 6) (y := 0) (j := 1) hq0 (by decide) rfl) (by decide) rfl) h) (aj_cf (x := 0) (y := 0) (j := 0) (aj_cf (x := 6) (y := 0) (j := 1) hq0 (by decide) rfl) (by decide) rfl) (aj_np 1 (by decide +kernel) rfl) (Nat.le_of_ble_eq_true rfl) rfl dX11_inverse_8 (fun r m1 h => ?_)
  obtain ⟨z1, rfl, h⟩ := h
  obtain ⟨r0, h1, h2⟩ := h
  refine aj_if_eq (tgt := 29) C dX11_inverse_11 (by decide) r0 (fun e => ?_) (fun e => ?_)
  · have h := h1 e
    refine aj_bipush C dX11_inverse_29 (by decide) ?_
    exact aj_iret C K dX11_inverse_31 ⟨_, rfl, h⟩
  · have h := h2 e
    refine aj_aload_n C dX11_inverse_14 rfl ?_
    refine aj_getO (x := 6) (y := 0) C flX11_19 hq0 rfl dX11_inverse_15 ?_
    refine aj_getO (x := 0) (y := 0) C flX11_136 (aj_cf (x := 6) (y := 0) (j := 1) hq0 (by decide) rfl) rfl dX11_inverse_18 ?_
    refine aj_getA (x := 0) (y := 12) C flX11_149 (aj_cf (x := 0) (y := 0) (j := 0) (aj_cf (x := 6) (y := 0) (j := 1) hq0 (by decide) rfl) (by decide) rfl) rfl dX11_inverse_21 ?_
    refine aj_iload_n C dX11_inverse_24 rfl ?_
    obtain ⟨r0, h⟩ := h
    refine aj_iald C (aj_ca (e := 0) (n := 12) (j := 2) (aj_cf (x := 0) (y := 0) (j := 0) (aj_cf (x := 6) (y := 0) (j := 1) hq0 (by decide) rfl) (by decide) rfl) (by decide) rfl) (by decide) r0 dX11_inverse_25 rfl ?_
    refine aj_goto (tgt := 31) C dX11_inverse_26 (by decide) ?_
    exact aj_iret C K dX11_inverse_31 ⟨_, rfl, h⟩
theorem dX11_orderOf_0 : decode cX11_orderOf 0 = .ok (.aload_n 0, 1) := by decide +kernel
theorem dX11_orderOf_1 : decode cX11_orderOf 1 = .ok (.getfield 19, 3) := by decide +kernel
theorem dX11_orderOf_4 : decode cX11_orderOf 4 = .ok (.getfield 136, 3) := by decide +kernel
theorem dX11_orderOf_7 : decode cX11_orderOf 7 = .ok (.iload_n 1, 1) := by decide +kernel
theorem dX11_orderOf_8 : decode cX11_orderOf 8 = .ok (.invokevirtual 140, 3) := by decide +kernel
theorem dX11_orderOf_11 : decode cX11_orderOf 11 = .ok (.ifCond .eq 18, 3) := by decide +kernel
theorem dX11_orderOf_14 : decode cX11_orderOf 14 = .ok (.aload_n 0, 1) := by decide +kernel
theorem dX11_orderOf_15 : decode cX11_orderOf 15 = .ok (.getfield 19, 3) := by decide +kernel
theorem dX11_orderOf_18 : decode cX11_orderOf 18 = .ok (.getfield 136, 3) := by decide +kernel
theorem dX11_orderOf_21 : decode cX11_orderOf 21 = .ok (.getfield 152, 3) := by decide +kernel
theorem dX11_orderOf_24 : decode cX11_orderOf 24 = .ok (.iload_n 1, 1) := by decide +kernel
theorem dX11_orderOf_25 : decode cX11_orderOf 25 = .ok (.iaload, 1) := by decide +kernel
theorem dX11_orderOf_26 : decode cX11_orderOf 26 = .ok (.goto 5, 3) := by decide +kernel
theorem dX11_orderOf_29 : decode cX11_orderOf 29 = .ok (.bipush (-2), 2) := by decide +kernel
theorem dX11_orderOf_31 : decode cX11_orderOf 31 = .ok (.ireturn, 1) := by decide +kernel
def wX11_orderOf (f : Nat) (Φ : Int → aj_M → Prop) (q0 : List Nat) (v1 : Int) (m : aj_M) : Prop := wX0_has f (fun z1 m1 => rI z1 ∧ (z1 = 0 → Φ (-2) m1) ∧ (¬ (z1 = 0) → (0 ≤ v1 ∧ v1 < 12) ∧ Φ (m1 (3 :: (0 :: (1 :: q0))) v1.toNat) m1)) (0 :: (1 :: q0)) v1 m
set_option maxHeartbeats 4000000 in
set_option maxRecDepth 100000 in
theorem sX11_orderOf {n f : Nat} {Φ : Int → aj_M → Prop} {q0 : List Nat} {v1 : Int} {m : aj_M} (hq0 : (.inl (11, q0) : aj_R) ∈ aj_pls) (h : wX11_orderOf f Φ q0 v1 m) : aj_Ct (n + 1) yX11_orderOf cX11_orderOf 2 (some .int) [vO 11 q0, vI v1] m (fun r m => ∃ z, r = some (vI z) ∧ Φ z m) := by
  refine aj_met (lv := [some (vO 11 q0), some (vI v1)]) (by decide +kernel) rfl (Nat.le_of_ble_eq_true rfl) (fun X C K => ?_)
  unfold wX11_orderOf at h
  refine aj_aload_n C dX11_orderOf_0 rfl ?_
  refine aj_getO (x := 6) (y := 0) C flX11_19 hq0 rfl dX11_orderOf_1 ?_
  refine aj_getO (x := 0) (y := 0) C flX11_136 (aj_cf (x := 6) (y := 0) (j := 1) hq0 (by decide) rfl) rfl dX11_orderOf_4 ?_
  refine aj_iload_n C dX11_orderOf_7 rfl ?_
  refine aj_callV (rest := []) C mvX11_140 (sX0_has (aj_cf (x := 0) (y := 0) (j := 0) (aj_cf (x := 6) (y := 0) (j := 1) hq0 (by decide) rfl) (by decide) rfl) h) (aj_cf (x := 0) (y := 0) (j := 0) (aj_cf (x := 6) (y := 0) (j := 1) hq0 (by decide) rfl) (by decide) rfl) (aj_np 1 (by decide +kernel) rfl) (Nat.le_of_ble_eq_true rfl) rfl dX11_orderOf_8 (fun r m1 h => ?_)
  obtain ⟨z1, rfl, h⟩ := h
  obtain ⟨r0, h1, h2⟩ := h
  refine aj_if_eq (tgt := 29) C dX11_orderOf_11 (by decide) r0 (fun e => ?_) (fun e => ?_)
  · have h := h1 e
    refine aj_bipush C dX11_orderOf_29 (by decide) ?_
    exact aj_iret C K dX11_orderOf_31 ⟨_, rfl, h⟩
  · have h := h2 e
    refine aj_aload_n C dX11_orderOf_14 rfl ?_
    refine aj_getO (x := 6) (y := 0) C flX11_19 hq0 rfl dX11_orderOf_15 ?_
    refine aj_getO (x := 0) (y := 0) C flX11_136 (aj_cf (x := 6) (y := 0) (j := 1) hq0 (by decide) rfl) rfl dX11_orderOf_18 ?_
    refine aj_getA (x := 0) (y := 12) C flX11_152 (aj_cf (x := 0) (y := 0) (j := 0) (aj_cf (x := 6) (y := 0) (j := 1) hq0 (by decide) rfl) (by decide) rfl) rfl dX11_orderOf_21 ?_
    refine aj_iload_n C dX11_orderOf_24 rfl ?_
    obtain ⟨r0, h⟩ := h
    refine aj_iald C (aj_ca (e := 0) (n := 12) (j := 3) (aj_cf (x := 0) (y := 0) (j := 0) (aj_cf (x := 6) (y := 0) (j := 1) hq0 (by decide) rfl) (by decide) rfl) (by decide) rfl) (by decide) r0 dX11_orderOf_25 rfl ?_
    refine aj_goto (tgt := 31) C dX11_orderOf_26 (by decide) ?_
    exact aj_iret C K dX11_orderOf_31 ⟨_, rfl, h⟩
theorem dX11_centre_0 : decode cX11_centre 0 = .ok (.aload_n 0, 1) := by decide +kernel
theorem dX11_centre_1 : decode cX11_centre 1 = .ok (.getfield 19, 3) := by decide +kernel
theorem dX11_centre_4 : decode cX11_centre 4 = .ok (.getfield 136, 3) := by decide +kernel
theorem dX11_centre_7 : decode cX11_centre 7 = .ok (.invokevirtual 155, 3) := by decide +kernel
theorem dX11_centre_10 : decode cX11_centre 10 = .ok (.ireturn, 1) := by decide +kernel
def wX11_centre (f : Nat) (Φ : Int → aj_M → Prop) (q0 : List Nat) (m : aj_M) : Prop := wX0_centrals f (fun z1 m1 => Φ z1 m1) (0 :: (1 :: q0)) m
set_option maxHeartbeats 4000000 in
set_option maxRecDepth 100000 in
theorem sX11_centre {n f : Nat} {Φ : Int → aj_M → Prop} {q0 : List Nat} {m : aj_M} (hq0 : (.inl (11, q0) : aj_R) ∈ aj_pls) (h : wX11_centre f Φ q0 m) : aj_Ct (n + 3) yX11_centre cX11_centre 1 (some .int) [vO 11 q0] m (fun r m => ∃ z, r = some (vI z) ∧ Φ z m) := by
  refine aj_met (lv := [some (vO 11 q0)]) (by decide +kernel) rfl (Nat.le_of_ble_eq_true rfl) (fun X C K => ?_)
  unfold wX11_centre at h
  refine aj_aload_n C dX11_centre_0 rfl ?_
  refine aj_getO (x := 6) (y := 0) C flX11_19 hq0 rfl dX11_centre_1 ?_
  refine aj_getO (x := 0) (y := 0) C flX11_136 (aj_cf (x := 6) (y := 0) (j := 1) hq0 (by decide) rfl) rfl dX11_centre_4 ?_
  refine aj_callV (rest := []) C mvX11_155 (sX0_centrals (aj_cf (x := 0) (y := 0) (j := 0) (aj_cf (x := 6) (y := 0) (j := 1) hq0 (by decide) rfl) (by decide) rfl) h) (aj_cf (x := 0) (y := 0) (j := 0) (aj_cf (x := 6) (y := 0) (j := 1) hq0 (by decide) rfl) (by decide) rfl) (aj_np 0 (by decide +kernel) rfl) (Nat.le_of_ble_eq_true rfl) rfl dX11_centre_7 (fun r m1 h => ?_)
  obtain ⟨z1, rfl, h⟩ := h
  exact aj_iret C K dX11_centre_10 ⟨_, rfl, h⟩
theorem dX11_wasDone_0 : decode cX11_wasDone 0 = .ok (.aload_n 0, 1) := by decide +kernel
theorem dX11_wasDone_1 : decode cX11_wasDone 1 = .ok (.getfield 39, 3) := by decide +kernel
theorem dX11_wasDone_4 : decode cX11_wasDone 4 = .ok (.aload_n 0, 1) := by decide +kernel
theorem dX11_wasDone_5 : decode cX11_wasDone 5 = .ok (.getfield 30, 3) := by decide +kernel
theorem dX11_wasDone_8 : decode cX11_wasDone 8 = .ok (.invokevirtual 411, 3) := by decide +kernel
theorem dX11_wasDone_11 : decode cX11_wasDone 11 = .ok (.aload_n 0, 1) := by decide +kernel
theorem dX11_wasDone_12 : decode cX11_wasDone 12 = .ok (.iconst 1, 1) := by decide +kernel
theorem dX11_wasDone_13 : decode cX11_wasDone 13 = .ok (.putfield 80, 3) := by decide +kernel
theorem dX11_wasDone_16 : decode cX11_wasDone 16 = .ok (.return_, 1) := by decide +kernel
def wX11_wasDone (f : Nat) (Φ : aj_M → Prop) (q0 : List Nat) (m : aj_M) : Prop := wX1_keep f (fun m1 => ∀ m2, m2 = aj_u m1 q0 12 1 → Φ m2) (5 :: q0) (3 :: q0) m
set_option maxHeartbeats 4000000 in
set_option maxRecDepth 100000 in
theorem sX11_wasDone {n f : Nat} {Φ : aj_M → Prop} {q0 : List Nat} {m : aj_M} (hq0 : (.inl (11, q0) : aj_R) ∈ aj_pls) (h : wX11_wasDone f Φ q0 m) : aj_Ct (n + 3) yX11_wasDone cX11_wasDone 1 none [vO 11 q0] m (fun r m => r = none ∧ Φ m) := by
  refine aj_met (lv := [some (vO 11 q0)]) (by decide +kernel) rfl (Nat.le_of_ble_eq_true rfl) (fun X C K => ?_)
  unfold wX11_wasDone at h
  refine aj_aload_n C dX11_wasDone_0 rfl ?_
  refine aj_getO (x := 1) (y := 0) C flX11_39 hq0 rfl dX11_wasDone_1 ?_
  refine aj_aload_n C dX11_wasDone_4 rfl ?_
  refine aj_getO (x := 9) (y := 0) C flX11_30 hq0 rfl dX11_wasDone_5 ?_
  refine aj_callV (rest := []) C mvX11_411 (sX1_keep (aj_cf (x := 1) (y := 0) (j := 5) hq0 (by decide) rfl) (aj_cf (x := 9) (y := 0) (j := 3) hq0 (by decide) rfl) h) (aj_cf (x := 1) (y := 0) (j := 5) hq0 (by decide) rfl) (aj_np 1 (by decide +kernel) rfl) (Nat.le_of_ble_eq_true rfl) rfl dX11_wasDone_8 (fun r m1 h => ?_)
  obtain ⟨rfl, h⟩ := h
  refine aj_aload_n C dX11_wasDone_11 rfl ?_
  refine aj_iconst C dX11_wasDone_12 ?_
  refine aj_putZ C fpX11_80 hq0 (Or.inr rfl) rfl dX11_wasDone_13 ?_
  refine aj_nm (fun m2 e1 => ?_)
  have h := h m2 e1
  exact aj_vret C K dX11_wasDone_16 ⟨rfl, h⟩
theorem dX11_turn_0 : decode cX11_turn 0 = .ok (.aload_n 0, 1) := by decide +kernel
theorem dX11_turn_1 : decode cX11_turn 1 = .ok (.getfield 30, 3) := by decide +kernel
theorem dX11_turn_4 : decode cX11_turn 4 = .ok (.aload_n 0, 1) := by decide +kernel
theorem dX11_turn_5 : decode cX11_turn 5 = .ok (.getfield 26, 3) := by decide +kernel
theorem dX11_turn_8 : decode cX11_turn 8 = .ok (.invokevirtual 159, 3) := by decide +kernel
theorem dX11_turn_11 : decode cX11_turn 11 = .ok (.aload_n 0, 1) := by decide +kernel
theorem dX11_turn_12 : decode cX11_turn 12 = .ok (.getfield 26, 3) := by decide +kernel
theorem dX11_turn_15 : decode cX11_turn 15 = .ok (.aload_n 0, 1) := by decide +kernel
theorem dX11_turn_16 : decode cX11_turn 16 = .ok (.getfield 19, 3) := by decide +kernel
theorem dX11_turn_19 : decode cX11_turn 19 = .ok (.iload_n 1, 1) := by decide +kernel
theorem dX11_turn_20 : decode cX11_turn 20 = .ok (.iload_n 2, 1) := by decide +kernel
theorem dX11_turn_21 : decode cX11_turn 21 = .ok (.invokevirtual 162, 3) := by decide +kernel
theorem dX11_turn_24 : decode cX11_turn 24 = .ok (.istore_n 3, 1) := by decide +kernel
theorem dX11_turn_25 : decode cX11_turn 25 = .ok (.iload_n 3, 1) := by decide +kernel
theorem dX11_turn_26 : decode cX11_turn 26 = .ok (.ifCond .eq 8, 3) := by decide +kernel
theorem dX11_turn_29 : decode cX11_turn 29 = .ok (.bipush (-10), 2) := by decide +kernel
theorem dX11_turn_31 : decode cX11_turn 31 = .ok (.iload_n 3, 1) := by decide +kernel
theorem dX11_turn_32 : decode cX11_turn 32 = .ok (.isub, 1) := by decide +kernel
theorem dX11_turn_33 : decode cX11_turn 33 = .ok (.ireturn, 1) := by decide +kernel
theorem dX11_turn_34 : decode cX11_turn 34 = .ok (.aload_n 0, 1) := by decide +kernel
theorem dX11_turn_35 : decode cX11_turn 35 = .ok (.invokevirtual 166, 3) := by decide +kernel
theorem dX11_turn_38 : decode cX11_turn 38 = .ok (.aload_n 0, 1) := by decide +kernel
theorem dX11_turn_39 : decode cX11_turn 39 = .ok (.getfield 30, 3) := by decide +kernel
theorem dX11_turn_42 : decode cX11_turn 42 = .ok (.getfield 127, 3) := by decide +kernel
theorem dX11_turn_45 : decode cX11_turn 45 = .ok (.iload_n 1, 1) := by decide +kernel
theorem dX11_turn_46 : decode cX11_turn 46 = .ok (.iaload, 1) := by decide +kernel
theorem dX11_turn_47 : decode cX11_turn 47 = .ok (.ireturn, 1) := by decide +kernel
def wX11_turn (f : Nat) (Φ : Int → aj_M → Prop) (q0 : List Nat) (v1 : Int) (v2 : Int) (m : aj_M) : Prop := wX9_copyFrom f (fun m1 => wX9_turnTo f (fun z2 m2 => rI z2 ∧ (z2 = 0 → wX11_wasDone f (fun m3 => (0 ≤ v1 ∧ v1 < 12) ∧ Φ (m3 (0 :: (3 :: q0)) v1.toNat) m3) q0 m2) ∧ (¬ (z2 = 0) → Φ ((-10) - z2) m2)) (2 :: q0) (1 :: q0) v1 v2 m1) (3 :: q0) (2 :: q0) m
set_option maxHeartbeats 4000000 in
set_option maxRecDepth 100000 in
theorem sX11_turn {n f : Nat} {Φ : Int → aj_M → Prop} {q0 : List Nat} {v1 : Int} {v2 : Int} {m : aj_M} (hq0 : (.inl (11, q0) : aj_R) ∈ aj_pls) (h : wX11_turn f Φ q0 v1 v2 m) : aj_Ct (n + 4) yX11_turn cX11_turn 4 (some .int) [vO 11 q0, vI v1, vI v2] m (fun r m => ∃ z, r = some (vI z) ∧ Φ z m) := by
  refine aj_met (lv := [some (vO 11 q0), some (vI v1), some (vI v2), none]) (by decide +kernel) rfl (Nat.le_of_ble_eq_true rfl) (fun X C K => ?_)
  unfold wX11_turn at h
  refine aj_aload_n C dX11_turn_0 rfl ?_
  refine aj_getO (x := 9) (y := 0) C flX11_30 hq0 rfl dX11_turn_1 ?_
  refine aj_aload_n C dX11_turn_4 rfl ?_
  refine aj_getO (x := 9) (y := 0) C flX11_26 hq0 rfl dX11_turn_5 ?_
  refine aj_callV (rest := []) C mvX11_159 (sX9_copyFrom (aj_cf (x := 9) (y := 0) (j := 3) hq0 (by decide) rfl) (aj_cf (x := 9) (y := 0) (j := 2) hq0 (by decide) rfl) h) (aj_cf (x := 9) (y := 0) (j := 3) hq0 (by decide) rfl) (aj_np 1 (by decide +kernel) rfl) (Nat.le_of_ble_eq_true rfl) rfl dX11_turn_8 (fun r m1 h => ?_)
  obtain ⟨rfl, h⟩ := h
  refine aj_aload_n C dX11_turn_11 rfl ?_
  refine aj_getO (x := 9) (y := 0) C flX11_26 hq0 rfl dX11_turn_12 ?_
  refine aj_aload_n C dX11_turn_15 rfl ?_
  refine aj_getO (x := 6) (y := 0) C flX11_19 hq0 rfl dX11_turn_16 ?_
  refine aj_iload_n C dX11_turn_19 rfl ?_
  refine aj_iload_n C dX11_turn_20 rfl ?_
  refine aj_callV (rest := []) C mvX11_162 (sX9_turnTo (aj_cf (x := 9) (y := 0) (j := 2) hq0 (by decide) rfl) (aj_cf (x := 6) (y := 0) (j := 1) hq0 (by decide) rfl) h) (aj_cf (x := 9) (y := 0) (j := 2) hq0 (by decide) rfl) (aj_np 3 (by decide +kernel) rfl) (Nat.le_of_ble_eq_true rfl) rfl dX11_turn_21 (fun r m2 h => ?_)
  obtain ⟨z2, rfl, h⟩ := h
  refine aj_istore_n (lv' := [some (vO 11 q0), some (vI v1), some (vI v2), some (vI z2)]) C dX11_turn_24 (by decide) rfl ?_
  refine aj_iload_n C dX11_turn_25 rfl ?_
  obtain ⟨r0, h1, h2⟩ := h
  refine aj_if_eq (tgt := 34) C dX11_turn_26 (by decide) r0 (fun e => ?_) (fun e => ?_)
  · have h := h1 e
    refine aj_aload_n C dX11_turn_34 rfl ?_
    refine aj_callV (rest := []) C mvX11_166 (sX11_wasDone hq0 h) hq0 (aj_np 0 (by decide +kernel) rfl) (Nat.le_of_ble_eq_true rfl) rfl dX11_turn_35 (fun r m3 h => ?_)
    obtain ⟨rfl, h⟩ := h
    refine aj_aload_n C dX11_turn_38 rfl ?_
    refine aj_getO (x := 9) (y := 0) C flX11_30 hq0 rfl dX11_turn_39 ?_
    refine aj_getA (x := 0) (y := 12) C flX11_127 (aj_cf (x := 9) (y := 0) (j := 3) hq0 (by decide) rfl) rfl dX11_turn_42 ?_
    refine aj_iload_n C dX11_turn_45 rfl ?_
    obtain ⟨r0, h⟩ := h
    refine aj_iald C (aj_ca (e := 0) (n := 12) (j := 0) (aj_cf (x := 9) (y := 0) (j := 3) hq0 (by decide) rfl) (by decide) rfl) (by decide) r0 dX11_turn_46 rfl ?_
    exact aj_iret C K dX11_turn_47 ⟨_, rfl, h⟩
  · have h := h2 e
    refine aj_bipush C dX11_turn_29 (by decide) ?_
    refine aj_iload_n C dX11_turn_31 rfl ?_
    refine aj_isub C dX11_turn_32 ?_
    exact aj_iret C K dX11_turn_33 ⟨_, rfl, h⟩
theorem dX11_cut_0 : decode cX11_cut 0 = .ok (.aload_n 0, 1) := by decide +kernel
theorem dX11_cut_1 : decode cX11_cut 1 = .ok (.getfield 30, 3) := by decide +kernel
theorem dX11_cut_4 : decode cX11_cut 4 = .ok (.aload_n 0, 1) := by decide +kernel
theorem dX11_cut_5 : decode cX11_cut 5 = .ok (.getfield 26, 3) := by decide +kernel
theorem dX11_cut_8 : decode cX11_cut 8 = .ok (.invokevirtual 159, 3) := by decide +kernel
theorem dX11_cut_11 : decode cX11_cut 11 = .ok (.aload_n 0, 1) := by decide +kernel
theorem dX11_cut_12 : decode cX11_cut 12 = .ok (.getfield 26, 3) := by decide +kernel
theorem dX11_cut_15 : decode cX11_cut 15 = .ok (.aload_n 0, 1) := by decide +kernel
theorem dX11_cut_16 : decode cX11_cut 16 = .ok (.getfield 19, 3) := by decide +kernel
theorem dX11_cut_19 : decode cX11_cut 19 = .ok (.iload_n 1, 1) := by decide +kernel
theorem dX11_cut_20 : decode cX11_cut 20 = .ok (.invokevirtual 169, 3) := by decide +kernel
theorem dX11_cut_23 : decode cX11_cut 23 = .ok (.istore_n 2, 1) := by decide +kernel
theorem dX11_cut_24 : decode cX11_cut 24 = .ok (.iload_n 2, 1) := by decide +kernel
theorem dX11_cut_25 : decode cX11_cut 25 = .ok (.ifCond .eq 8, 3) := by decide +kernel
theorem dX11_cut_28 : decode cX11_cut 28 = .ok (.bipush (-10), 2) := by decide +kernel
theorem dX11_cut_30 : decode cX11_cut 30 = .ok (.iload_n 2, 1) := by decide +kernel
theorem dX11_cut_31 : decode cX11_cut 31 = .ok (.isub, 1) := by decide +kernel
theorem dX11_cut_32 : decode cX11_cut 32 = .ok (.ireturn, 1) := by decide +kernel
theorem dX11_cut_33 : decode cX11_cut 33 = .ok (.aload_n 0, 1) := by decide +kernel
theorem dX11_cut_34 : decode cX11_cut 34 = .ok (.invokevirtual 166, 3) := by decide +kernel
theorem dX11_cut_37 : decode cX11_cut 37 = .ok (.aload_n 0, 1) := by decide +kernel
theorem dX11_cut_38 : decode cX11_cut 38 = .ok (.getfield 26, 3) := by decide +kernel
theorem dX11_cut_41 : decode cX11_cut 41 = .ok (.iload_n 1, 1) := by decide +kernel
theorem dX11_cut_42 : decode cX11_cut 42 = .ok (.invokevirtual 133, 3) := by decide +kernel
theorem dX11_cut_45 : decode cX11_cut 45 = .ok (.ifCond .eq 7, 3) := by decide +kernel
theorem dX11_cut_48 : decode cX11_cut 48 = .ok (.iconst 1, 1) := by decide +kernel
theorem dX11_cut_49 : decode cX11_cut 49 = .ok (.goto 4, 3) := by decide +kernel
theorem dX11_cut_52 : decode cX11_cut 52 = .ok (.iconst 0, 1) := by decide +kernel
theorem dX11_cut_53 : decode cX11_cut 53 = .ok (.ireturn, 1) := by decide +kernel
def wX11_cut (f : Nat) (Φ : Int → aj_M → Prop) (q0 : List Nat) (v1 : Int) (m : aj_M) : Prop := wX9_copyFrom f (fun m1 => wX9_cutOrJoin f (fun z2 m2 => rI z2 ∧ (z2 = 0 → wX11_wasDone f (fun m3 => wX9_isOut f (fun z4 m4 => rI z4 ∧ (z4 = 0 → Φ 0 m4) ∧ (¬ (z4 = 0) → Φ 1 m4)) (2 :: q0) v1 m3) q0 m2) ∧ (¬ (z2 = 0) → Φ ((-10) - z2) m2)) (2 :: q0) (1 :: q0) v1 m1) (3 :: q0) (2 :: q0) m
set_option maxHeartbeats 4000000 in
set_option maxRecDepth 100000 in
theorem sX11_cut {n f : Nat} {Φ : Int → aj_M → Prop} {q0 : List Nat} {v1 : Int} {m : aj_M} (hq0 : (.inl (11, q0) : aj_R) ∈ aj_pls) (h : wX11_cut f Φ q0 v1 m) : aj_Ct (n + 4) yX11_cut cX11_cut 3 (some .int) [vO 11 q0, vI v1] m (fun r m => ∃ z, r = some (vI z) ∧ Φ z m) := by
  refine aj_met (lv := [some (vO 11 q0), some (vI v1), none]) (by decide +kernel) rfl (Nat.le_of_ble_eq_true rfl) (fun X C K => ?_)
  unfold wX11_cut at h
  refine aj_aload_n C dX11_cut_0 rfl ?_
  refine aj_getO (x := 9) (y := 0) C flX11_30 hq0 rfl dX11_cut_1 ?_
  refine aj_aload_n C dX11_cut_4 rfl ?_
  refine aj_getO (x := 9) (y := 0) C flX11_26 hq0 rfl dX11_cut_5 ?_
  refine aj_callV (rest := []) C mvX11_159 (sX9_copyFrom (aj_cf (x := 9) (y := 0) (j := 3) hq0 (by decide) rfl) (aj_cf (x := 9) (y := 0) (j := 2) hq0 (by decide) rfl) h) (aj_cf (x := 9) (y := 0) (j := 3) hq0 (by decide) rfl) (aj_np 1 (by decide +kernel) rfl) (Nat.le_of_ble_eq_true rfl) rfl dX11_cut_8 (fun r m1 h => ?_)
  obtain ⟨rfl, h⟩ := h
  refine aj_aload_n C dX11_cut_11 rfl ?_
  refine aj_getO (x := 9) (y := 0) C flX11_26 hq0 rfl dX11_cut_12 ?_
  refine aj_aload_n C dX11_cut_15 rfl ?_
  refine aj_getO (x := 6) (y := 0) C flX11_19 hq0 rfl dX11_cut_16 ?_
  refine aj_iload_n C dX11_cut_19 rfl ?_
  refine aj_callV (rest := []) C mvX11_169 (sX9_cutOrJoin (aj_cf (x := 9) (y := 0) (j := 2) hq0 (by decide) rfl) (aj_cf (x := 6) (y := 0) (j := 1) hq0 (by decide) rfl) h) (aj_cf (x := 9) (y := 0) (j := 2) hq0 (by decide) rfl) (aj_np 2 (by decide +kernel) rfl) (Nat.le_of_ble_eq_true rfl) rfl dX11_cut_20 (fun r m2 h => ?_)
  obtain ⟨z2, rfl, h⟩ := h
  refine aj_istore_n (lv' := [some (vO 11 q0), some (vI v1), some (vI z2)]) C dX11_cut_23 (by decide) rfl ?_
  refine aj_iload_n C dX11_cut_24 rfl ?_
  obtain ⟨r0, h1, h2⟩ := h
  refine aj_if_eq (tgt := 33) C dX11_cut_25 (by decide) r0 (fun e => ?_) (fun e => ?_)
  · have h := h1 e
    refine aj_aload_n C dX11_cut_33 rfl ?_
    refine aj_callV (rest := []) C mvX11_166 (sX11_wasDone hq0 h) hq0 (aj_np 0 (by decide +kernel) rfl) (Nat.le_of_ble_eq_true rfl) rfl dX11_cut_34 (fun r m3 h => ?_)
    obtain ⟨rfl, h⟩ := h
    refine aj_aload_n C dX11_cut_37 rfl ?_
    refine aj_getO (x := 9) (y := 0) C flX11_26 hq0 rfl dX11_cut_38 ?_
    refine aj_iload_n C dX11_cut_41 rfl ?_
    refine aj_callV (rest := []) C mvX11_133 (sX9_isOut (aj_cf (x := 9) (y := 0) (j := 2) hq0 (by decide) rfl) h) (aj_cf (x := 9) (y := 0) (j := 2) hq0 (by decide) rfl) (aj_np 1 (by decide +kernel) rfl) (Nat.le_of_ble_eq_true rfl) rfl dX11_cut_42 (fun r m4 h => ?_)
    obtain ⟨z4, rfl, h⟩ := h
    obtain ⟨r0, h1, h2⟩ := h
    refine aj_if_eq (tgt := 52) C dX11_cut_45 (by decide) r0 (fun e => ?_) (fun e => ?_)
    · have h := h1 e
      refine aj_iconst C dX11_cut_52 ?_
      exact aj_iret C K dX11_cut_53 ⟨_, rfl, h⟩
    · have h := h2 e
      refine aj_iconst C dX11_cut_48 ?_
      refine aj_goto (tgt := 53) C dX11_cut_49 (by decide) ?_
      exact aj_iret C K dX11_cut_53 ⟨_, rfl, h⟩
  · have h := h2 e
    refine aj_bipush C dX11_cut_28 (by decide) ?_
    refine aj_iload_n C dX11_cut_30 rfl ?_
    refine aj_isub C dX11_cut_31 ?_
    exact aj_iret C K dX11_cut_32 ⟨_, rfl, h⟩
theorem dX11_twist_0 : decode cX11_twist 0 = .ok (.aload_n 0, 1) := by decide +kernel
theorem dX11_twist_1 : decode cX11_twist 1 = .ok (.getfield 30, 3) := by decide +kernel
theorem dX11_twist_4 : decode cX11_twist 4 = .ok (.aload_n 0, 1) := by decide +kernel
theorem dX11_twist_5 : decode cX11_twist 5 = .ok (.getfield 26, 3) := by decide +kernel
theorem dX11_twist_8 : decode cX11_twist 8 = .ok (.invokevirtual 159, 3) := by decide +kernel
theorem dX11_twist_11 : decode cX11_twist 11 = .ok (.aload_n 0, 1) := by decide +kernel
theorem dX11_twist_12 : decode cX11_twist 12 = .ok (.getfield 26, 3) := by decide +kernel
theorem dX11_twist_15 : decode cX11_twist 15 = .ok (.iload_n 1, 1) := by decide +kernel
theorem dX11_twist_16 : decode cX11_twist 16 = .ok (.invokevirtual 173, 3) := by decide +kernel
theorem dX11_twist_19 : decode cX11_twist 19 = .ok (.istore_n 2, 1) := by decide +kernel
theorem dX11_twist_20 : decode cX11_twist 20 = .ok (.iload_n 2, 1) := by decide +kernel
theorem dX11_twist_21 : decode cX11_twist 21 = .ok (.ifCond .eq 8, 3) := by decide +kernel
theorem dX11_twist_24 : decode cX11_twist 24 = .ok (.bipush (-10), 2) := by decide +kernel
theorem dX11_twist_26 : decode cX11_twist 26 = .ok (.iload_n 2, 1) := by decide +kernel
theorem dX11_twist_27 : decode cX11_twist 27 = .ok (.isub, 1) := by decide +kernel
theorem dX11_twist_28 : decode cX11_twist 28 = .ok (.ireturn, 1) := by decide +kernel
theorem dX11_twist_29 : decode cX11_twist 29 = .ok (.aload_n 0, 1) := by decide +kernel
theorem dX11_twist_30 : decode cX11_twist 30 = .ok (.invokevirtual 166, 3) := by decide +kernel
theorem dX11_twist_33 : decode cX11_twist 33 = .ok (.aload_n 0, 1) := by decide +kernel
theorem dX11_twist_34 : decode cX11_twist 34 = .ok (.getfield 30, 3) := by decide +kernel
theorem dX11_twist_37 : decode cX11_twist 37 = .ok (.getfield 177, 3) := by decide +kernel
theorem dX11_twist_40 : decode cX11_twist 40 = .ok (.ireturn, 1) := by decide +kernel
def wX11_twist (f : Nat) (Φ : Int → aj_M → Prop) (q0 : List Nat) (v1 : Int) (m : aj_M) : Prop := wX9_copyFrom f (fun m1 => wX9_twistTo f (fun z2 m2 => rI z2 ∧ (z2 = 0 → wX11_wasDone f (fun m3 => Φ (m3 (3 :: q0) 2) m3) q0 m2) ∧ (¬ (z2 = 0) → Φ ((-10) - z2) m2)) (2 :: q0) v1 m1) (3 :: q0) (2 :: q0) m
set_option maxHeartbeats 4000000 in
set_option maxRecDepth 100000 in
theorem sX11_twist {n f : Nat} {Φ : Int → aj_M → Prop} {q0 : List Nat} {v1 : Int} {m : aj_M} (hq0 : (.inl (11, q0) : aj_R) ∈ aj_pls) (h : wX11_twist f Φ q0 v1 m) : aj_Ct (n + 4) yX11_twist cX11_twist 3 (some .int) [vO 11 q0, vI v1] m (fun r m => ∃ z, r = some (vI z) ∧ Φ z m) := by
  refine aj_met (lv := [some (vO 11 q0), some (vI v1), none]) (by decide +kernel) rfl (Nat.le_of_ble_eq_true rfl) (fun X C K => ?_)
  unfold wX11_twist at h
  refine aj_aload_n C dX11_twist_0 rfl ?_
  refine aj_getO (x := 9) (y := 0) C flX11_30 hq0 rfl dX11_twist_1 ?_
  refine aj_aload_n C dX11_twist_4 rfl ?_
  refine aj_getO (x := 9) (y := 0) C flX11_26 hq0 rfl dX11_twist_5 ?_
  refine aj_callV (rest := []) C mvX11_159 (sX9_copyFrom (aj_cf (x := 9) (y := 0) (j := 3) hq0 (by decide) rfl) (aj_cf (x := 9) (y := 0) (j := 2) hq0 (by decide) rfl) h) (aj_cf (x := 9) (y := 0) (j := 3) hq0 (by decide) rfl) (aj_np 1 (by decide +kernel) rfl) (Nat.le_of_ble_eq_true rfl) rfl dX11_twist_8 (fun r m1 h => ?_)
  obtain ⟨rfl, h⟩ := h
  refine aj_aload_n C dX11_twist_11 rfl ?_
  refine aj_getO (x := 9) (y := 0) C flX11_26 hq0 rfl dX11_twist_12 ?_
  refine aj_iload_n C dX11_twist_15 rfl ?_
  refine aj_callV (rest := []) C mvX11_173 (sX9_twistTo (aj_cf (x := 9) (y := 0) (j := 2) hq0 (by decide) rfl) h) (aj_cf (x := 9) (y := 0) (j := 2) hq0 (by decide) rfl) (aj_np 1 (by decide +kernel) rfl) (Nat.le_of_ble_eq_true rfl) rfl dX11_twist_16 (fun r m2 h => ?_)
  obtain ⟨z2, rfl, h⟩ := h
  refine aj_istore_n (lv' := [some (vO 11 q0), some (vI v1), some (vI z2)]) C dX11_twist_19 (by decide) rfl ?_
  refine aj_iload_n C dX11_twist_20 rfl ?_
  obtain ⟨r0, h1, h2⟩ := h
  refine aj_if_eq (tgt := 29) C dX11_twist_21 (by decide) r0 (fun e => ?_) (fun e => ?_)
  · have h := h1 e
    refine aj_aload_n C dX11_twist_29 rfl ?_
    refine aj_callV (rest := []) C mvX11_166 (sX11_wasDone hq0 h) hq0 (aj_np 0 (by decide +kernel) rfl) (Nat.le_of_ble_eq_true rfl) rfl dX11_twist_30 (fun r m3 h => ?_)
    obtain ⟨rfl, h⟩ := h
    refine aj_aload_n C dX11_twist_33 rfl ?_
    refine aj_getO (x := 9) (y := 0) C flX11_30 hq0 rfl dX11_twist_34 ?_
    refine aj_getI C flX11_177 (aj_cf (x := 9) (y := 0) (j := 3) hq0 (by decide) rfl) (by decide) dX11_twist_37 rfl ?_
    exact aj_iret C K dX11_twist_40 ⟨_, rfl, h⟩
  · have h := h2 e
    refine aj_bipush C dX11_twist_24 (by decide) ?_
    refine aj_iload_n C dX11_twist_26 rfl ?_
    refine aj_isub C dX11_twist_27 ?_
    exact aj_iret C K dX11_twist_28 ⟨_, rfl, h⟩
theorem dX11_undo_0 : decode cX11_undo 0 = .ok (.iload_n 1, 1) := by decide +kernel
theorem dX11_undo_1 : decode cX11_undo 1 = .ok (.iconst 1, 1) := by decide +kernel
theorem dX11_undo_2 : decode cX11_undo 2 = .ok (.if_icmp .lt 20, 3) := by decide +kernel
theorem dX11_undo_5 : decode cX11_undo 5 = .ok (.iload_n 1, 1) := by decide +kernel
theorem dX11_undo_6 : decode cX11_undo 6 = .ok (.bipush 10, 2) := by decide +kernel
theorem dX11_undo_8 : decode cX11_undo 8 = .ok (.if_icmp .gt 14, 3) := by decide +kernel
theorem dX11_undo_11 : decode cX11_undo 11 = .ok (.iload_n 1, 1) := by decide +kernel
theorem dX11_undo_12 : decode cX11_undo 12 = .ok (.aload_n 0, 1) := by decide +kernel
theorem dX11_undo_13 : decode cX11_undo 13 = .ok (.getfield 39, 3) := by decide +kernel
theorem dX11_undo_16 : decode cX11_undo 16 = .ok (.getfield 180, 3) := by decide +kernel
theorem dX11_undo_19 : decode cX11_undo 19 = .ok (.if_icmp .le 6, 3) := by decide +kernel
theorem dX11_undo_22 : decode cX11_undo 22 = .ok (.bipush (-3), 2) := by decide +kernel
theorem dX11_undo_24 : decode cX11_undo 24 = .ok (.ireturn, 1) := by decide +kernel
theorem dX11_undo_25 : decode cX11_undo 25 = .ok (.aload_n 0, 1) := by decide +kernel
theorem dX11_undo_26 : decode cX11_undo 26 = .ok (.getfield 39, 3) := by decide +kernel
theorem dX11_undo_29 : decode cX11_undo 29 = .ok (.iload_n 1, 1) := by decide +kernel
theorem dX11_undo_30 : decode cX11_undo 30 = .ok (.aload_n 0, 1) := by decide +kernel
theorem dX11_undo_31 : decode cX11_undo 31 = .ok (.getfield 26, 3) := by decide +kernel
theorem dX11_undo_34 : decode cX11_undo 34 = .ok (.invokevirtual 183, 3) := by decide +kernel
theorem dX11_undo_37 : decode cX11_undo 37 = .ok (.aload_n 0, 1) := by decide +kernel
theorem dX11_undo_38 : decode cX11_undo 38 = .ok (.iconst 1, 1) := by decide +kernel
theorem dX11_undo_39 : decode cX11_undo 39 = .ok (.putfield 80, 3) := by decide +kernel
theorem dX11_undo_42 : decode cX11_undo 42 = .ok (.aload_n 0, 1) := by decide +kernel
theorem dX11_undo_43 : decode cX11_undo 43 = .ok (.getfield 39, 3) := by decide +kernel
theorem dX11_undo_46 : decode cX11_undo 46 = .ok (.getfield 180, 3) := by decide +kernel
theorem dX11_undo_49 : decode cX11_undo 49 = .ok (.ireturn, 1) := by decide +kernel
def wX11_undo (f : Nat) (Φ : Int → aj_M → Prop) (q0 : List Nat) (v1 : Int) (m : aj_M) : Prop := rI v1 ∧ (v1 < 1 → Φ (-3) m) ∧ (¬ (v1 < 1) → rI v1 ∧ (10 < v1 → Φ (-3) m) ∧ (¬ (10 < v1) → rI v1 ∧ rI (m (5 :: q0) 2) ∧ (v1 ≤ (m (5 :: q0) 2) → wX1_takeBack f (fun m1 => ∀ m2, m2 = aj_u m1 q0 12 1 → Φ (m2 (5 :: q0) 2) m2) (5 :: q0) v1 (2 :: q0) m) ∧ (¬ (v1 ≤ (m (5 :: q0) 2)) → Φ (-3) m)))
set_option maxHeartbeats 4000000 in
set_option maxRecDepth 100000 in
theorem sX11_undo {n f : Nat} {Φ : Int → aj_M → Prop} {q0 : List Nat} {v1 : Int} {m : aj_M} (hq0 : (.inl (11, q0) : aj_R) ∈ aj_pls) (h : wX11_undo f Φ q0 v1 m) : aj_Ct (n + 3) yX11_undo cX11_undo 2 (some .int) [vO 11 q0, vI v1] m (fun r m => ∃ z, r = some (vI z) ∧ Φ z m) := by
  refine aj_met (lv := [some (vO 11 q0), some (vI v1)]) (by decide +kernel) rfl (Nat.le_of_ble_eq_true rfl) (fun X C K => ?_)
  unfold wX11_undo at h
  refine aj_iload_n C dX11_undo_0 rfl ?_
  refine aj_iconst C dX11_undo_1 ?_
  obtain ⟨r0, h1, h2⟩ := h
  refine aj_icmp_lt (tgt := 22) C dX11_undo_2 (by decide) r0 (by decide) (fun e => ?_) (fun e => ?_)
  · have h := h1 e
    refine aj_bipush C dX11_undo_22 (by decide) ?_
    exact aj_iret C K dX11_undo_24 ⟨_, rfl, h⟩
  · have h := h2 e
    refine aj_iload_n C dX11_undo_5 rfl ?_
    refine aj_bipush C dX11_undo_6 (by decide) ?_
    obtain ⟨r0, h1, h2⟩ := h
    refine aj_icmp_gt (tgt := 22) C dX11_undo_8 (by decide) r0 (by decide) (fun e => ?_) (fun e => ?_)
    · have h := h1 e
      refine aj_bipush C dX11_undo_22 (by decide) ?_
      exact aj_iret C K dX11_undo_24 ⟨_, rfl, h⟩
    · have h := h2 e
      refine aj_iload_n C dX11_undo_11 rfl ?_
      refine aj_aload_n C dX11_undo_12 rfl ?_
      refine aj_getO (x := 1) (y := 0) C flX11_39 hq0 rfl dX11_undo_13 ?_
      refine aj_getI C flX11_180 (aj_cf (x := 1) (y := 0) (j := 5) hq0 (by decide) rfl) (by decide) dX11_undo_16 rfl ?_
      obtain ⟨r0, r1, h1, h2⟩ := h
      refine aj_icmp_le (tgt := 25) C dX11_undo_19 (by decide) r0 r1 (fun e => ?_) (fun e => ?_)
      · have h := h1 e
        refine aj_aload_n C dX11_undo_25 rfl ?_
        refine aj_getO (x := 1) (y := 0) C flX11_39 hq0 rfl dX11_undo_26 ?_
        refine aj_iload_n C dX11_undo_29 rfl ?_
        refine aj_aload_n C dX11_undo_30 rfl ?_
        refine aj_getO (x := 9) (y := 0) C flX11_26 hq0 rfl dX11_undo_31 ?_
        refine aj_callV (rest := []) C mvX11_183 (sX1_takeBack (aj_cf (x := 1) (y := 0) (j := 5) hq0 (by decide) rfl) (aj_cf (x := 9) (y := 0) (j := 2) hq0 (by decide) rfl) h) (aj_cf (x := 1) (y := 0) (j := 5) hq0 (by decide) rfl) (aj_np 2 (by decide +kernel) rfl) (Nat.le_of_ble_eq_true rfl) rfl dX11_undo_34 (fun r m1 h => ?_)
        obtain ⟨rfl, h⟩ := h
        refine aj_aload_n C dX11_undo_37 rfl ?_
        refine aj_iconst C dX11_undo_38 ?_
        refine aj_putZ C fpX11_80 hq0 (Or.inr rfl) rfl dX11_undo_39 ?_
        refine aj_nm (fun m2 e1 => ?_)
        have h := h m2 e1
        refine aj_aload_n C dX11_undo_42 rfl ?_
        refine aj_getO (x := 1) (y := 0) C flX11_39 hq0 rfl dX11_undo_43 ?_
        refine aj_getI C flX11_180 (aj_cf (x := 1) (y := 0) (j := 5) hq0 (by decide) rfl) (by decide) dX11_undo_46 rfl ?_
        exact aj_iret C K dX11_undo_49 ⟨_, rfl, h⟩
      · have h := h2 e
        refine aj_bipush C dX11_undo_22 (by decide) ?_
        exact aj_iret C K dX11_undo_24 ⟨_, rfl, h⟩
theorem dX11_isTray_0 : decode cX11_isTray 0 = .ok (.iload_n 0, 1) := by decide +kernel
theorem dX11_isTray_1 : decode cX11_isTray 1 = .ok (.ifCond .lt 12, 3) := by decide +kernel
theorem dX11_isTray_4 : decode cX11_isTray 4 = .ok (.iload_n 0, 1) := by decide +kernel
theorem dX11_isTray_5 : decode cX11_isTray 5 = .ok (.iconst 4, 1) := by decide +kernel
theorem dX11_isTray_6 : decode cX11_isTray 6 = .ok (.if_icmp .ge 7, 3) := by decide +kernel
theorem dX11_isTray_9 : decode cX11_isTray 9 = .ok (.iconst 1, 1) := by decide +kernel
theorem dX11_isTray_10 : decode cX11_isTray 10 = .ok (.goto 4, 3) := by decide +kernel
theorem dX11_isTray_13 : decode cX11_isTray 13 = .ok (.iconst 0, 1) := by decide +kernel
theorem dX11_isTray_14 : decode cX11_isTray 14 = .ok (.ireturn, 1) := by decide +kernel
def wX11_isTray (f : Nat) (Φ : Int → aj_M → Prop) (v0 : Int) (m : aj_M) : Prop := rI v0 ∧ (v0 < 0 → Φ 0 m) ∧ (¬ (v0 < 0) → rI v0 ∧ (4 ≤ v0 → Φ 0 m) ∧ (¬ (4 ≤ v0) → Φ 1 m))
set_option maxHeartbeats 4000000 in
set_option maxRecDepth 100000 in
theorem sX11_isTray {n f : Nat} {Φ : Int → aj_M → Prop} {v0 : Int} {m : aj_M}  (h : wX11_isTray f Φ v0 m) : aj_Ct n yX11_isTray cX11_isTray 1 (some .boolean) [vI v0] m (fun r m => ∃ z, r = some (vI z) ∧ Φ z m) := by
  refine aj_met (lv := [some (vI v0)]) (by decide +kernel) rfl (Nat.le_of_ble_eq_true rfl) (fun X C K => ?_)
  unfold wX11_isTray at h
  refine aj_iload_n C dX11_isTray_0 rfl ?_
  obtain ⟨r0, h1, h2⟩ := h
  refine aj_if_lt (tgt := 13) C dX11_isTray_1 (by decide) r0 (fun e => ?_) (fun e => ?_)
  · have h := h1 e
    refine aj_iconst C dX11_isTray_13 ?_
    exact aj_zret C K (Or.inl rfl) dX11_isTray_14 ⟨_, rfl, h⟩
  · have h := h2 e
    refine aj_iload_n C dX11_isTray_4 rfl ?_
    refine aj_iconst C dX11_isTray_5 ?_
    obtain ⟨r0, h1, h2⟩ := h
    refine aj_icmp_ge (tgt := 13) C dX11_isTray_6 (by decide) r0 (by decide) (fun e => ?_) (fun e => ?_)
    · have h := h1 e
      refine aj_iconst C dX11_isTray_13 ?_
      exact aj_zret C K (Or.inl rfl) dX11_isTray_14 ⟨_, rfl, h⟩
    · have h := h2 e
      refine aj_iconst C dX11_isTray_9 ?_
      refine aj_goto (tgt := 14) C dX11_isTray_10 (by decide) ?_
      exact aj_zret C K (Or.inr rfl) dX11_isTray_14 ⟨_, rfl, h⟩
theorem dX11_doAll_0 : decode cX11_doAll 0 = .ok (.iconst 0, 1) := by decide +kernel
theorem dX11_doAll_1 : decode cX11_doAll 1 = .ok (.istore_n 3, 1) := by decide +kernel
theorem dX11_doAll_2 : decode cX11_doAll 2 = .ok (.iload_n 3, 1) := by decide +kernel
theorem dX11_doAll_3 : decode cX11_doAll 3 = .ok (.aload_n 1, 1) := by decide +kernel
theorem dX11_doAll_4 : decode cX11_doAll 4 = .ok (.getfield 198, 3) := by decide +kernel
theorem dX11_doAll_7 : decode cX11_doAll 7 = .ok (.if_icmp .ge 28, 3) := by decide +kernel
theorem dX11_doAll_10 : decode cX11_doAll 10 = .ok (.aload_n 2, 1) := by decide +kernel
theorem dX11_doAll_11 : decode cX11_doAll 11 = .ok (.aload_n 0, 1) := by decide +kernel
theorem dX11_doAll_12 : decode cX11_doAll 12 = .ok (.getfield 19, 3) := by decide +kernel
theorem dX11_doAll_15 : decode cX11_doAll 15 = .ok (.aload_n 1, 1) := by decide +kernel
theorem dX11_doAll_16 : decode cX11_doAll 16 = .ok (.getfield 201, 3) := by decide +kernel
theorem dX11_doAll_19 : decode cX11_doAll 19 = .ok (.iload_n 3, 1) := by decide +kernel
theorem dX11_doAll_20 : decode cX11_doAll 20 = .ok (.laload, 1) := by decide +kernel
theorem dX11_doAll_21 : decode cX11_doAll 21 = .ok (.invokevirtual 205, 3) := by decide +kernel
theorem dX11_doAll_24 : decode cX11_doAll 24 = .ok (.ifCond .eq 5, 3) := by decide +kernel
theorem dX11_doAll_27 : decode cX11_doAll 27 = .ok (.iload_n 3, 1) := by decide +kernel
theorem dX11_doAll_28 : decode cX11_doAll 28 = .ok (.ireturn, 1) := by decide +kernel
theorem dX11_doAll_29 : decode cX11_doAll 29 = .ok (.iinc 3 1, 3) := by decide +kernel
theorem dX11_doAll_32 : decode cX11_doAll 32 = .ok (.goto (-30), 3) := by decide +kernel
theorem dX11_doAll_35 : decode cX11_doAll 35 = .ok (.aload_n 1, 1) := by decide +kernel
theorem dX11_doAll_36 : decode cX11_doAll 36 = .ok (.getfield 198, 3) := by decide +kernel
theorem dX11_doAll_39 : decode cX11_doAll 39 = .ok (.ireturn, 1) := by decide +kernel
def hX11_doAll_2 (f : Nat) (Φ : Int → aj_M → Prop) : Nat → List Nat → List Nat → List Nat → Int → aj_M → Prop
  | 0, _, _, _, _, _ => False
  | k + 1, q0, q1, q2, v3, m => rI v3 ∧ rI (m q1 2) ∧ ((m q1 2) ≤ v3 → Φ (m q1 2) m) ∧ (¬ ((m q1 2) ≤ v3) → (0 ≤ v3 ∧ v3 < 40) ∧ wX9_tryDeed f (fun z1 m1 => rI z1 ∧ (z1 = 0 → hX11_doAll_2 f Φ k q0 q1 q2 (v3 + 1) m1) ∧ (¬ (z1 = 0) → Φ v3 m1)) q2 (1 :: q0) (m (0 :: q1) v3.toNat) m)
set_option maxHeartbeats 4000000 in
set_option maxRecDepth 100000 in
theorem tX11_doAll_2 {X : aj_T} {n f : Nat} {Φ : Int → aj_M → Prop} (C : aj_Cx X cX11_doAll RX11 4 (n + 5)) (K : aj_Rt X (some .int) (fun r m => ∃ z, r = some (vI z) ∧ Φ z m)) : ∀ (k : Nat) (q0 : List Nat) (q1 : List Nat) (q2 : List Nat) (v3 : Int) (m : aj_M) (hq0 : (.inl (11, q0) : aj_R) ∈ aj_pls) (hq1 : (.inl (10, q1) : aj_R) ∈ aj_pls) (hq2 : (.inl (9, q2) : aj_R) ∈ aj_pls), hX11_doAll_2 f Φ k q0 q1 q2 v3 m → aj_J X 2 [some (vO 11 q0), some (vO 10 q1), some (vO 9 q2), some (vI v3)] [] m := by
  intro k
  induction k with
  | zero =>
    intro q0 q1 q2 v3 m _ _ _ h
    exact h.elim
  | succ k ih =>
    intro q0 q1 q2 v3 m hq0 hq1 hq2 h
    unfold hX11_doAll_2 at h
    refine aj_iload_n C dX11_doAll_2 rfl ?_
    refine aj_aload_n C dX11_doAll_3 rfl ?_
    refine aj_getI C flX11_198 hq1 (by decide) dX11_doAll_4 rfl ?_
    obtain ⟨r0, r1, h1, h2⟩ := h
    refine aj_icmp_ge (tgt := 35) C dX11_doAll_7 (by decide) r0 r1 (fun e => ?_) (fun e => ?_)
    · have h := h1 e
      refine aj_aload_n C dX11_doAll_35 rfl ?_
      refine aj_getI C flX11_198 hq1 (by decide) dX11_doAll_36 rfl ?_
      exact aj_iret C K dX11_doAll_39 ⟨_, rfl, h⟩
    · have h := h2 e
      refine aj_aload_n C dX11_doAll_10 rfl ?_
      refine aj_aload_n C dX11_doAll_11 rfl ?_
      refine aj_getO (x := 6) (y := 0) C flX11_19 hq0 rfl dX11_doAll_12 ?_
      refine aj_aload_n C dX11_doAll_15 rfl ?_
      refine aj_getA (x := 3) (y := 40) C flX11_201 hq1 rfl dX11_doAll_16 ?_
      refine aj_iload_n C dX11_doAll_19 rfl ?_
      obtain ⟨r0, h⟩ := h
      refine aj_lald C (aj_ca (e := 3) (n := 40) (j := 0) hq1 (by decide) rfl) (by decide) r0 dX11_doAll_20 rfl ?_
      refine aj_callV (rest := []) C mvX11_205 (sX9_tryDeed hq2 (aj_cf (x := 6) (y := 0) (j := 1) hq0 (by decide) rfl) h) hq2 (aj_np 2 (by decide +kernel) rfl) (Nat.le_of_ble_eq_true rfl) rfl dX11_doAll_21 (fun r m1 h => ?_)
      obtain ⟨z1, rfl, h⟩ := h
      obtain ⟨r0, h1, h2⟩ := h
      refine aj_if_eq (tgt := 29) C dX11_doAll_24 (by decide) r0 (fun e => ?_) (fun e => ?_)
      · have h := h1 e
        refine aj_iinc (lv' := [some (vO 11 q0), some (vO 10 q1), some (vO 9 q2), some (vI (v3 + 1))]) C dX11_doAll_29 rfl (by decide) rfl ?_
        refine aj_goto (tgt := 2) C dX11_doAll_32 (by decide) ?_
        exact ih q0 q1 q2 (v3 + 1) _ hq0 hq1 hq2 h
      · have h := h2 e
        refine aj_iload_n C dX11_doAll_27 rfl ?_
        exact aj_iret C K dX11_doAll_28 ⟨_, rfl, h⟩
def wX11_doAll (f : Nat) (Φ : Int → aj_M → Prop) (q0 : List Nat) (q1 : List Nat) (q2 : List Nat) (m : aj_M) : Prop := hX11_doAll_2 f Φ f q0 q1 q2 0 m
set_option maxHeartbeats 4000000 in
set_option maxRecDepth 100000 in
theorem sX11_doAll {n f : Nat} {Φ : Int → aj_M → Prop} {q0 : List Nat} {q1 : List Nat} {q2 : List Nat} {m : aj_M} (hq0 : (.inl (11, q0) : aj_R) ∈ aj_pls) (hq1 : (.inl (10, q1) : aj_R) ∈ aj_pls) (hq2 : (.inl (9, q2) : aj_R) ∈ aj_pls) (h : wX11_doAll f Φ q0 q1 q2 m) : aj_Ct (n + 5) yX11_doAll cX11_doAll 4 (some .int) [vO 11 q0, vO 10 q1, vO 9 q2] m (fun r m => ∃ z, r = some (vI z) ∧ Φ z m) := by
  refine aj_met (lv := [some (vO 11 q0), some (vO 10 q1), some (vO 9 q2), none]) (by decide +kernel) rfl (Nat.le_of_ble_eq_true rfl) (fun X C K => ?_)
  unfold wX11_doAll at h
  refine aj_iconst C dX11_doAll_0 ?_
  refine aj_istore_n (lv' := [some (vO 11 q0), some (vO 10 q1), some (vO 9 q2), some (vI 0)]) C dX11_doAll_1 (by decide) rfl ?_
  exact tX11_doAll_2 C K f q0 q1 q2 0 _ hq0 hq1 hq2 h
theorem dX11_orNone_0 : decode cX11_orNone 0 = .ok (.iload_n 0, 1) := by decide +kernel
theorem dX11_orNone_1 : decode cX11_orNone 1 = .ok (.ldc_w 414, 3) := by decide +kernel
theorem dX11_orNone_4 : decode cX11_orNone 4 = .ok (.if_icmp .lt 7, 3) := by decide +kernel
theorem dX11_orNone_7 : decode cX11_orNone 7 = .ok (.iconst (-1), 1) := by decide +kernel
theorem dX11_orNone_8 : decode cX11_orNone 8 = .ok (.goto 4, 3) := by decide +kernel
theorem dX11_orNone_11 : decode cX11_orNone 11 = .ok (.iload_n 0, 1) := by decide +kernel
theorem dX11_orNone_12 : decode cX11_orNone 12 = .ok (.ireturn, 1) := by decide +kernel
def wX11_orNone (f : Nat) (Φ : Int → aj_M → Prop) (v0 : Int) (m : aj_M) : Prop := rI v0 ∧ (v0 < 1000000 → Φ v0 m) ∧ (¬ (v0 < 1000000) → Φ (-1) m)
set_option maxHeartbeats 4000000 in
set_option maxRecDepth 100000 in
theorem sX11_orNone {n f : Nat} {Φ : Int → aj_M → Prop} {v0 : Int} {m : aj_M}  (h : wX11_orNone f Φ v0 m) : aj_Ct n yX11_orNone cX11_orNone 1 (some .int) [vI v0] m (fun r m => ∃ z, r = some (vI z) ∧ Φ z m) := by
  refine aj_met (lv := [some (vI v0)]) (by decide +kernel) rfl (Nat.le_of_ble_eq_true rfl) (fun X C K => ?_)
  unfold wX11_orNone at h
  refine aj_iload_n C dX11_orNone_0 rfl ?_
  refine aj_ldcw (z := 1000000) C (wd1082) rfl dX11_orNone_1 ?_
  obtain ⟨r0, h1, h2⟩ := h
  refine aj_icmp_lt (tgt := 11) C dX11_orNone_4 (by decide) r0 (by decide) (fun e => ?_) (fun e => ?_)
  · have h := h1 e
    refine aj_iload_n C dX11_orNone_11 rfl ?_
    exact aj_iret C K dX11_orNone_12 ⟨_, rfl, h⟩
  · have h := h2 e
    refine aj_iconst C dX11_orNone_7 ?_
    refine aj_goto (tgt := 12) C dX11_orNone_8 (by decide) ?_
    exact aj_iret C K dX11_orNone_12 ⟨_, rfl, h⟩
