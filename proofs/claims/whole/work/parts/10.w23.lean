theorem dX12_day_0 : decode cX12_day 0 = .ok (.aload_n 0, 1) := by decide +kernel
theorem dX12_day_1 : decode cX12_day 1 = .ok (.iconst 0, 1) := by decide +kernel
theorem dX12_day_2 : decode cX12_day 2 = .ok (.putfield 1, 3) := by decide +kernel
theorem dX12_day_5 : decode cX12_day 5 = .ok (.iload_n 2, 1) := by decide +kernel
theorem dX12_day_6 : decode cX12_day 6 = .ok (.i2l, 1) := by decide +kernel
theorem dX12_day_7 : decode cX12_day 7 = .ok (.lconst 1, 1) := by decide +kernel
theorem dX12_day_8 : decode cX12_day 8 = .ok (.ldc2_w 355, 3) := by decide +kernel
theorem dX12_day_11 : decode cX12_day 11 = .ok (.invokestatic 154, 3) := by decide +kernel
theorem dX12_day_14 : decode cX12_day 14 = .ok (.ifCond .ne 6, 3) := by decide +kernel
theorem dX12_day_17 : decode cX12_day 17 = .ok (.bipush (-3), 2) := by decide +kernel
theorem dX12_day_19 : decode cX12_day 19 = .ok (.ireturn, 1) := by decide +kernel
theorem dX12_day_20 : decode cX12_day 20 = .ok (.aload_n 0, 1) := by decide +kernel
theorem dX12_day_21 : decode cX12_day 21 = .ok (.invokevirtual 298, 3) := by decide +kernel
theorem dX12_day_24 : decode cX12_day 24 = .ok (.aload_n 0, 1) := by decide +kernel
theorem dX12_day_25 : decode cX12_day 25 = .ok (.iload_n 1, 1) := by decide +kernel
theorem dX12_day_26 : decode cX12_day 26 = .ok (.putfield 349, 3) := by decide +kernel
theorem dX12_day_29 : decode cX12_day 29 = .ok (.iconst 0, 1) := by decide +kernel
theorem dX12_day_30 : decode cX12_day 30 = .ok (.istore_n 3, 1) := by decide +kernel
theorem dX12_day_31 : decode cX12_day 31 = .ok (.iconst 0, 1) := by decide +kernel
theorem dX12_day_32 : decode cX12_day 32 = .ok (.istore 4, 2) := by decide +kernel
theorem dX12_day_34 : decode cX12_day 34 = .ok (.iload 4, 2) := by decide +kernel
theorem dX12_day_36 : decode cX12_day 36 = .ok (.iload_n 2, 1) := by decide +kernel
theorem dX12_day_37 : decode cX12_day 37 = .ok (.if_icmp .ge 37, 3) := by decide +kernel
theorem dX12_day_40 : decode cX12_day 40 = .ok (.aload_n 0, 1) := by decide +kernel
theorem dX12_day_41 : decode cX12_day 41 = .ok (.invokevirtual 357, 3) := by decide +kernel
theorem dX12_day_44 : decode cX12_day 44 = .ok (.istore 5, 2) := by decide +kernel
theorem dX12_day_46 : decode cX12_day 46 = .ok (.aload_n 0, 1) := by decide +kernel
theorem dX12_day_47 : decode cX12_day 47 = .ok (.iload 5, 2) := by decide +kernel
theorem dX12_day_49 : decode cX12_day 49 = .ok (.i2l, 1) := by decide +kernel
theorem dX12_day_50 : decode cX12_day 50 = .ok (.invokevirtual 321, 3) := by decide +kernel
theorem dX12_day_53 : decode cX12_day 53 = .ok (.ifCond .eq 6, 3) := by decide +kernel
theorem dX12_day_56 : decode cX12_day 56 = .ok (.goto 12, 3) := by decide +kernel
theorem dX12_day_59 : decode cX12_day 59 = .ok (.aload_n 0, 1) := by decide +kernel
theorem dX12_day_60 : decode cX12_day 60 = .ok (.iload 5, 2) := by decide +kernel
theorem dX12_day_62 : decode cX12_day 62 = .ok (.invokevirtual 325, 3) := by decide +kernel
theorem dX12_day_65 : decode cX12_day 65 = .ok (.iinc 3 1, 3) := by decide +kernel
theorem dX12_day_68 : decode cX12_day 68 = .ok (.iinc 4 1, 3) := by decide +kernel
theorem dX12_day_71 : decode cX12_day 71 = .ok (.goto (-37), 3) := by decide +kernel
theorem dX12_day_74 : decode cX12_day 74 = .ok (.iload_n 3, 1) := by decide +kernel
theorem dX12_day_75 : decode cX12_day 75 = .ok (.ifCond .le 7, 3) := by decide +kernel
theorem dX12_day_78 : decode cX12_day 78 = .ok (.aload_n 0, 1) := by decide +kernel
theorem dX12_day_79 : decode cX12_day 79 = .ok (.invokevirtual 301, 3) := by decide +kernel
theorem dX12_day_82 : decode cX12_day 82 = .ok (.iload_n 3, 1) := by decide +kernel
theorem dX12_day_83 : decode cX12_day 83 = .ok (.ireturn, 1) := by decide +kernel
def hX12_day_34 (f : Nat) (Φ : Int → aj_M → Prop) : Nat → List Nat → Int → Int → Int → aj_M → Prop
  | 0, _, _, _, _, _ => False
  | k + 1, q0, v2, v3, v4, m => rI v4 ∧ rI v2 ∧ (v2 ≤ v4 → rI v3 ∧ (v3 ≤ 0 → Φ v3 m) ∧ (¬ (v3 ≤ 0) → wX12_notes f (fun m1 => Φ v3 m1) q0 m)) ∧ (¬ (v2 ≤ v4) → wX12_drawn f (fun z2 m2 => rI z2 ∧ wX12_whyNot f (fun z3 m3 => rI z3 ∧ (z3 = 0 → wX12_does f (fun m4 => hX12_day_34 f Φ k q0 v2 (v3 + 1) (v4 + 1) m4) q0 z2 m3) ∧ (¬ (z3 = 0) → hX12_day_34 f Φ k q0 v2 v3 (v4 + 1) m3)) q0 z2 m2) q0 m)
set_option maxHeartbeats 4000000 in
set_option maxRecDepth 100000 in
theorem tX12_day_34 {X : aj_T} {n f : Nat} {Φ : Int → aj_M → Prop} (C : aj_Cx X cX12_day RX12 6 (n + 6)) (K : aj_Rt X (some .int) (fun r m => ∃ z, r = some (vI z) ∧ Φ z m)) : ∀ (k : Nat) (q0 : List Nat) (v2 : Int) (v3 : Int) (v4 : Int) (m : aj_M) (hq0 : (.inl (12, q0) : aj_R) ∈ aj_pls), hX12_day_34 f Φ k q0 v2 v3 v4 m → aj_J X 34 [some (vO 12 q0), none, some (vI v2), some (vI v3), some (vI v4), none] [] m := by
  intro k
  induction k with
  | zero =>
    intro q0 v2 v3 v4 m _ h
    exact h.elim
  | succ k ih =>
    intro q0 v2 v3 v4 m hq0 h
    unfold hX12_day_34 at h
    refine aj_iload C dX12_day_34 rfl ?_
    refine aj_iload_n C dX12_day_36 rfl ?_
    obtain ⟨r0, r1, h1, h2⟩ := h
    refine aj_icmp_ge (tgt := 74) C dX12_day_37 (by decide) r0 r1 (fun e => ?_) (fun e => ?_)
    · have h := h1 e
      refine aj_iload_n C dX12_day_74 rfl ?_
      obtain ⟨r0, h1, h2⟩ := h
      refine aj_if_le (tgt := 82) C dX12_day_75 (by decide) r0 (fun e => ?_) (fun e => ?_)
      · have h := h1 e
        refine aj_iload_n C dX12_day_82 rfl ?_
        exact aj_iret C K dX12_day_83 ⟨_, rfl, h⟩
      · have h := h2 e
        refine aj_aload_n C dX12_day_78 rfl ?_
        refine aj_callV (rest := []) C mvX12_301 (sX12_notes hq0 h) hq0 (aj_np 0 (by decide +kernel) rfl) (Nat.le_of_ble_eq_true rfl) rfl dX12_day_79 (fun r m1 h => ?_)
        obtain ⟨rfl, h⟩ := h
        refine aj_iload_n C dX12_day_82 rfl ?_
        exact aj_iret C K dX12_day_83 ⟨_, rfl, h⟩
    · have h := h2 e
      refine aj_aload_n C dX12_day_40 rfl ?_
      refine aj_callV (rest := []) C mvX12_357 (sX12_drawn hq0 h) hq0 (aj_np 0 (by decide +kernel) rfl) (Nat.le_of_ble_eq_true rfl) rfl dX12_day_41 (fun r m2 h => ?_)
      obtain ⟨z2, rfl, h⟩ := h
      refine aj_istore (lv' := [some (vO 12 q0), none, some (vI v2), some (vI v3), some (vI v4), some (vI z2)]) C dX12_day_44 (by decide) rfl ?_
      refine aj_aload_n C dX12_day_46 rfl ?_
      refine aj_iload C dX12_day_47 rfl ?_
      obtain ⟨r0, h⟩ := h
      refine aj_i2l C dX12_day_49 r0 ?_
      refine aj_callV (rest := []) C mvX12_321 (sX12_whyNot hq0 h) hq0 (aj_np 1 (by decide +kernel) rfl) (Nat.le_of_ble_eq_true rfl) rfl dX12_day_50 (fun r m3 h => ?_)
      obtain ⟨z3, rfl, h⟩ := h
      obtain ⟨r0, h1, h2⟩ := h
      refine aj_if_eq (tgt := 59) C dX12_day_53 (by decide) r0 (fun e => ?_) (fun e => ?_)
      · have h := h1 e
        refine aj_aload_n C dX12_day_59 rfl ?_
        refine aj_iload C dX12_day_60 rfl ?_
        refine aj_callV (rest := []) C mvX12_325 (sX12_does hq0 h) hq0 (aj_np 1 (by decide +kernel) rfl) (Nat.le_of_ble_eq_true rfl) rfl dX12_day_62 (fun r m4 h => ?_)
        obtain ⟨rfl, h⟩ := h
        refine aj_iinc (lv' := [some (vO 12 q0), none, some (vI v2), some (vI (v3 + 1)), some (vI v4), some (vI z2)]) C dX12_day_65 rfl (by decide) rfl ?_
        refine aj_iinc (lv' := [some (vO 12 q0), none, some (vI v2), some (vI (v3 + 1)), some (vI (v4 + 1)), some (vI z2)]) C dX12_day_68 rfl (by decide) rfl ?_
        refine aj_goto (tgt := 34) C dX12_day_71 (by decide) ?_
        refine aj_wk (lv' := [some (vO 12 q0), none, some (vI v2), some (vI (v3 + 1)), some (vI (v4 + 1)), none]) (⟨rfl, ⟨rfl, ⟨rfl, ⟨rfl, trivial⟩⟩⟩⟩) ?_
        exact ih q0 v2 (v3 + 1) (v4 + 1) _ hq0 h
      · have h := h2 e
        refine aj_goto (tgt := 68) C dX12_day_56 (by decide) ?_
        refine aj_iinc (lv' := [some (vO 12 q0), none, some (vI v2), some (vI v3), some (vI (v4 + 1)), some (vI z2)]) C dX12_day_68 rfl (by decide) rfl ?_
        refine aj_goto (tgt := 34) C dX12_day_71 (by decide) ?_
        refine aj_wk (lv' := [some (vO 12 q0), none, some (vI v2), some (vI v3), some (vI (v4 + 1)), none]) (⟨rfl, ⟨rfl, ⟨rfl, ⟨rfl, trivial⟩⟩⟩⟩) ?_
        exact ih q0 v2 v3 (v4 + 1) _ hq0 h
def wX12_day (f : Nat) (Φ : Int → aj_M → Prop) (q0 : List Nat) (v1 : Int) (v2 : Int) (m : aj_M) : Prop := ∀ m1, m1 = aj_u m q0 0 0 → rI v2 ∧ wX12_within f (fun z1 m2 => rI z1 ∧ (¬ z1 = 0 → wX12_stores f (fun m3 => ∀ m4, m4 = aj_u m3 q0 29 v1 → hX12_day_34 f Φ f q0 v2 0 0 m4) q0 m2) ∧ (z1 = 0 → Φ (-3) m2)) v2 1 40 m1
set_option maxHeartbeats 4000000 in
set_option maxRecDepth 100000 in
theorem sX12_day {n f : Nat} {Φ : Int → aj_M → Prop} {q0 : List Nat} {v1 : Int} {v2 : Int} {m : aj_M} (hq0 : (.inl (12, q0) : aj_R) ∈ aj_pls) (h : wX12_day f Φ q0 v1 v2 m) : aj_Ct (n + 6) yX12_day cX12_day 6 (some .int) [vO 12 q0, vI v1, vI v2] m (fun r m => ∃ z, r = some (vI z) ∧ Φ z m) := by
  refine aj_met (lv := [some (vO 12 q0), some (vI v1), some (vI v2), none, none, none]) (by decide +kernel) rfl (Nat.le_of_ble_eq_true rfl) (fun X C K => ?_)
  unfold wX12_day at h
  refine aj_aload_n C dX12_day_0 rfl ?_
  refine aj_iconst C dX12_day_1 ?_
  refine aj_putI C fpX12_1 hq0 rfl dX12_day_2 ?_
  refine aj_nm (fun m1 e1 => ?_)
  have h := h m1 e1
  refine aj_iload_n C dX12_day_5 rfl ?_
  obtain ⟨r0, h⟩ := h
  refine aj_i2l C dX12_day_6 r0 ?_
  refine aj_lconst (z := 1) C dX12_day_7 rfl ?_
  refine aj_ldc2 (z := 40) C (wd1924) rfl dX12_day_8 ?_
  refine aj_callS (rest := []) C msX12_154 (sX12_within  h) (aj_np 3 (by decide +kernel) rfl) (Nat.le_of_ble_eq_true rfl) rfl dX12_day_11 (fun r m2 h => ?_)
  obtain ⟨z1, rfl, h⟩ := h
  obtain ⟨r0, h1, h2⟩ := h
  refine aj_if_ne (tgt := 20) C dX12_day_14 (by decide) r0 (fun e => ?_) (fun e => ?_)
  · have h := h1 e
    refine aj_aload_n C dX12_day_20 rfl ?_
    refine aj_callV (rest := []) C mvX12_298 (sX12_stores hq0 h) hq0 (aj_np 0 (by decide +kernel) rfl) (Nat.le_of_ble_eq_true rfl) rfl dX12_day_21 (fun r m3 h => ?_)
    obtain ⟨rfl, h⟩ := h
    refine aj_aload_n C dX12_day_24 rfl ?_
    refine aj_iload_n C dX12_day_25 rfl ?_
    refine aj_putI C fpX12_349 hq0 rfl dX12_day_26 ?_
    refine aj_nm (fun m4 e1 => ?_)
    have h := h m4 e1
    refine aj_iconst C dX12_day_29 ?_
    refine aj_istore_n (lv' := [some (vO 12 q0), some (vI v1), some (vI v2), some (vI 0), none, none]) C dX12_day_30 (by decide) rfl ?_
    refine aj_iconst C dX12_day_31 ?_
    refine aj_istore (lv' := [some (vO 12 q0), some (vI v1), some (vI v2), some (vI 0), some (vI 0), none]) C dX12_day_32 (by decide) rfl ?_
    refine aj_wk (lv' := [some (vO 12 q0), none, some (vI v2), some (vI 0), some (vI 0), none]) (⟨rfl, ⟨rfl, ⟨rfl, ⟨rfl, trivial⟩⟩⟩⟩) ?_
    exact tX12_day_34 C K f q0 v2 0 0 _ hq0 h
  · have h := h2 e
    refine aj_bipush C dX12_day_17 (by decide) ?_
    exact aj_iret C K dX12_day_19 ⟨_, rfl, h⟩
theorem dX12_joins_0 : decode cX12_joins 0 = .ok (.aload_n 0, 1) := by decide +kernel
theorem dX12_joins_1 : decode cX12_joins 1 = .ok (.iconst 0, 1) := by decide +kernel
theorem dX12_joins_2 : decode cX12_joins 2 = .ok (.putfield 1, 3) := by decide +kernel
theorem dX12_joins_5 : decode cX12_joins 5 = .ok (.aload_n 0, 1) := by decide +kernel
theorem dX12_joins_6 : decode cX12_joins 6 = .ok (.iload_n 1, 1) := by decide +kernel
theorem dX12_joins_7 : decode cX12_joins 7 = .ok (.i2l, 1) := by decide +kernel
theorem dX12_joins_8 : decode cX12_joins 8 = .ok (.invokevirtual 360, 3) := by decide +kernel
theorem dX12_joins_11 : decode cX12_joins 11 = .ok (.ifCond .eq 12, 3) := by decide +kernel
theorem dX12_joins_14 : decode cX12_joins 14 = .ok (.aload_n 0, 1) := by decide +kernel
theorem dX12_joins_15 : decode cX12_joins 15 = .ok (.iload_n 2, 1) := by decide +kernel
theorem dX12_joins_16 : decode cX12_joins 16 = .ok (.i2l, 1) := by decide +kernel
theorem dX12_joins_17 : decode cX12_joins 17 = .ok (.invokevirtual 360, 3) := by decide +kernel
theorem dX12_joins_20 : decode cX12_joins 20 = .ok (.ifCond .ne 6, 3) := by decide +kernel
theorem dX12_joins_23 : decode cX12_joins 23 = .ok (.bipush (-2), 2) := by decide +kernel
theorem dX12_joins_25 : decode cX12_joins 25 = .ok (.ireturn, 1) := by decide +kernel
theorem dX12_joins_26 : decode cX12_joins 26 = .ok (.aload_n 0, 1) := by decide +kernel
theorem dX12_joins_27 : decode cX12_joins 27 = .ok (.invokevirtual 336, 3) := by decide +kernel
theorem dX12_joins_30 : decode cX12_joins 30 = .ok (.aload_n 0, 1) := by decide +kernel
theorem dX12_joins_31 : decode cX12_joins 31 = .ok (.getfield 45, 3) := by decide +kernel
theorem dX12_joins_34 : decode cX12_joins 34 = .ok (.bipush 60, 2) := by decide +kernel
theorem dX12_joins_36 : decode cX12_joins 36 = .ok (.iload_n 1, 1) := by decide +kernel
theorem dX12_joins_37 : decode cX12_joins 37 = .ok (.imul, 1) := by decide +kernel
theorem dX12_joins_38 : decode cX12_joins 38 = .ok (.iload_n 2, 1) := by decide +kernel
theorem dX12_joins_39 : decode cX12_joins 39 = .ok (.iadd, 1) := by decide +kernel
theorem dX12_joins_40 : decode cX12_joins 40 = .ok (.iaload, 1) := by decide +kernel
theorem dX12_joins_41 : decode cX12_joins 41 = .ok (.ireturn, 1) := by decide +kernel
def wX12_joins (f : Nat) (Φ : Int → aj_M → Prop) (q0 : List Nat) (v1 : Int) (v2 : Int) (m : aj_M) : Prop := ∀ m1, m1 = aj_u m q0 0 0 → rI v1 ∧ wX12_isNode f (fun z1 m2 => rI z1 ∧ (z1 = 0 → Φ (-2) m2) ∧ (¬ (z1 = 0) → rI v2 ∧ wX12_isNode f (fun z2 m3 => rI z2 ∧ (¬ z2 = 0 → wX12_laysNet f (fun m4 => (0 ≤ ((60 * v1) + v2) ∧ ((60 * v1) + v2) < 3600) ∧ Φ (m4 (21 :: q0) ((60 * v1) + v2).toNat) m4) q0 m3) ∧ (z2 = 0 → Φ (-2) m3)) q0 v2 m2)) q0 v1 m1
set_option maxHeartbeats 4000000 in
set_option maxRecDepth 100000 in
theorem sX12_joins {n f : Nat} {Φ : Int → aj_M → Prop} {q0 : List Nat} {v1 : Int} {v2 : Int} {m : aj_M} (hq0 : (.inl (12, q0) : aj_R) ∈ aj_pls) (h : wX12_joins f Φ q0 v1 v2 m) : aj_Ct (n + 6) yX12_joins cX12_joins 3 (some .int) [vO 12 q0, vI v1, vI v2] m (fun r m => ∃ z, r = some (vI z) ∧ Φ z m) := by
  refine aj_met (lv := [some (vO 12 q0), some (vI v1), some (vI v2)]) (by decide +kernel) rfl (Nat.le_of_ble_eq_true rfl) (fun X C K => ?_)
  unfold wX12_joins at h
  refine aj_aload_n C dX12_joins_0 rfl ?_
  refine aj_iconst C dX12_joins_1 ?_
  refine aj_putI C fpX12_1 hq0 rfl dX12_joins_2 ?_
  refine aj_nm (fun m1 e1 => ?_)
  have h := h m1 e1
  refine aj_aload_n C dX12_joins_5 rfl ?_
  refine aj_iload_n C dX12_joins_6 rfl ?_
  obtain ⟨r0, h⟩ := h
  refine aj_i2l C dX12_joins_7 r0 ?_
  refine aj_callV (rest := []) C mvX12_360 (sX12_isNode hq0 h) hq0 (aj_np 1 (by decide +kernel) rfl) (Nat.le_of_ble_eq_true rfl) rfl dX12_joins_8 (fun r m2 h => ?_)
  obtain ⟨z1, rfl, h⟩ := h
  obtain ⟨r0, h1, h2⟩ := h
  refine aj_if_eq (tgt := 23) C dX12_joins_11 (by decide) r0 (fun e => ?_) (fun e => ?_)
  · have h := h1 e
    refine aj_bipush C dX12_joins_23 (by decide) ?_
    exact aj_iret C K dX12_joins_25 ⟨_, rfl, h⟩
  · have h := h2 e
    refine aj_aload_n C dX12_joins_14 rfl ?_
    refine aj_iload_n C dX12_joins_15 rfl ?_
    obtain ⟨r0, h⟩ := h
    refine aj_i2l C dX12_joins_16 r0 ?_
    refine aj_callV (rest := []) C mvX12_360 (sX12_isNode hq0 h) hq0 (aj_np 1 (by decide +kernel) rfl) (Nat.le_of_ble_eq_true rfl) rfl dX12_joins_17 (fun r m3 h => ?_)
    obtain ⟨z2, rfl, h⟩ := h
    obtain ⟨r0, h1, h2⟩ := h
    refine aj_if_ne (tgt := 26) C dX12_joins_20 (by decide) r0 (fun e => ?_) (fun e => ?_)
    · have h := h1 e
      refine aj_aload_n C dX12_joins_26 rfl ?_
      refine aj_callV (rest := []) C mvX12_336 (sX12_laysNet hq0 h) hq0 (aj_np 0 (by decide +kernel) rfl) (Nat.le_of_ble_eq_true rfl) rfl dX12_joins_27 (fun r m4 h => ?_)
      obtain ⟨rfl, h⟩ := h
      refine aj_aload_n C dX12_joins_30 rfl ?_
      refine aj_getA (x := 0) (y := 3600) C flX12_45 hq0 rfl dX12_joins_31 ?_
      refine aj_bipush C dX12_joins_34 (by decide) ?_
      refine aj_iload_n C dX12_joins_36 rfl ?_
      refine aj_imul C dX12_joins_37 ?_
      refine aj_iload_n C dX12_joins_38 rfl ?_
      refine aj_iadd C dX12_joins_39 ?_
      obtain ⟨r0, h⟩ := h
      refine aj_iald C (aj_ca (e := 0) (n := 3600) (j := 21) hq0 (by decide) rfl) (by decide) r0 dX12_joins_40 rfl ?_
      exact aj_iret C K dX12_joins_41 ⟨_, rfl, h⟩
    · have h := h2 e
      refine aj_bipush C dX12_joins_23 (by decide) ?_
      exact aj_iret C K dX12_joins_25 ⟨_, rfl, h⟩
theorem dX12_degree_0 : decode cX12_degree 0 = .ok (.aload_n 0, 1) := by decide +kernel
theorem dX12_degree_1 : decode cX12_degree 1 = .ok (.iconst 0, 1) := by decide +kernel
theorem dX12_degree_2 : decode cX12_degree 2 = .ok (.putfield 1, 3) := by decide +kernel
theorem dX12_degree_5 : decode cX12_degree 5 = .ok (.aload_n 0, 1) := by decide +kernel
theorem dX12_degree_6 : decode cX12_degree 6 = .ok (.iload_n 1, 1) := by decide +kernel
theorem dX12_degree_7 : decode cX12_degree 7 = .ok (.i2l, 1) := by decide +kernel
theorem dX12_degree_8 : decode cX12_degree 8 = .ok (.invokevirtual 360, 3) := by decide +kernel
theorem dX12_degree_11 : decode cX12_degree 11 = .ok (.ifCond .ne 6, 3) := by decide +kernel
theorem dX12_degree_14 : decode cX12_degree 14 = .ok (.bipush (-2), 2) := by decide +kernel
theorem dX12_degree_16 : decode cX12_degree 16 = .ok (.ireturn, 1) := by decide +kernel
theorem dX12_degree_17 : decode cX12_degree 17 = .ok (.aload_n 0, 1) := by decide +kernel
theorem dX12_degree_18 : decode cX12_degree 18 = .ok (.invokevirtual 336, 3) := by decide +kernel
theorem dX12_degree_21 : decode cX12_degree 21 = .ok (.aload_n 0, 1) := by decide +kernel
theorem dX12_degree_22 : decode cX12_degree 22 = .ok (.iload_n 1, 1) := by decide +kernel
theorem dX12_degree_23 : decode cX12_degree 23 = .ok (.invokevirtual 363, 3) := by decide +kernel
theorem dX12_degree_26 : decode cX12_degree 26 = .ok (.ireturn, 1) := by decide +kernel
def wX12_degree (f : Nat) (Φ : Int → aj_M → Prop) (q0 : List Nat) (v1 : Int) (m : aj_M) : Prop := ∀ m1, m1 = aj_u m q0 0 0 → rI v1 ∧ wX12_isNode f (fun z1 m2 => rI z1 ∧ (¬ z1 = 0 → wX12_laysNet f (fun m3 => wX12_degreeOf f (fun z3 m4 => Φ z3 m4) q0 v1 m3) q0 m2) ∧ (z1 = 0 → Φ (-2) m2)) q0 v1 m1
set_option maxHeartbeats 4000000 in
set_option maxRecDepth 100000 in
theorem sX12_degree {n f : Nat} {Φ : Int → aj_M → Prop} {q0 : List Nat} {v1 : Int} {m : aj_M} (hq0 : (.inl (12, q0) : aj_R) ∈ aj_pls) (h : wX12_degree f Φ q0 v1 m) : aj_Ct (n + 6) yX12_degree cX12_degree 2 (some .int) [vO 12 q0, vI v1] m (fun r m => ∃ z, r = some (vI z) ∧ Φ z m) := by
  refine aj_met (lv := [some (vO 12 q0), some (vI v1)]) (by decide +kernel) rfl (Nat.le_of_ble_eq_true rfl) (fun X C K => ?_)
  unfold wX12_degree at h
  refine aj_aload_n C dX12_degree_0 rfl ?_
  refine aj_iconst C dX12_degree_1 ?_
  refine aj_putI C fpX12_1 hq0 rfl dX12_degree_2 ?_
  refine aj_nm (fun m1 e1 => ?_)
  have h := h m1 e1
  refine aj_aload_n C dX12_degree_5 rfl ?_
  refine aj_iload_n C dX12_degree_6 rfl ?_
  obtain ⟨r0, h⟩ := h
  refine aj_i2l C dX12_degree_7 r0 ?_
  refine aj_callV (rest := []) C mvX12_360 (sX12_isNode hq0 h) hq0 (aj_np 1 (by decide +kernel) rfl) (Nat.le_of_ble_eq_true rfl) rfl dX12_degree_8 (fun r m2 h => ?_)
  obtain ⟨z1, rfl, h⟩ := h
  obtain ⟨r0, h1, h2⟩ := h
  refine aj_if_ne (tgt := 17) C dX12_degree_11 (by decide) r0 (fun e => ?_) (fun e => ?_)
  · have h := h1 e
    refine aj_aload_n C dX12_degree_17 rfl ?_
    refine aj_callV (rest := []) C mvX12_336 (sX12_laysNet hq0 h) hq0 (aj_np 0 (by decide +kernel) rfl) (Nat.le_of_ble_eq_true rfl) rfl dX12_degree_18 (fun r m3 h => ?_)
    obtain ⟨rfl, h⟩ := h
    refine aj_aload_n C dX12_degree_21 rfl ?_
    refine aj_iload_n C dX12_degree_22 rfl ?_
    refine aj_callV (rest := []) C mvX12_363 (sX12_degreeOf hq0 h) hq0 (aj_np 1 (by decide +kernel) rfl) (Nat.le_of_ble_eq_true rfl) rfl dX12_degree_23 (fun r m4 h => ?_)
    obtain ⟨z3, rfl, h⟩ := h
    exact aj_iret C K dX12_degree_26 ⟨_, rfl, h⟩
  · have h := h2 e
    refine aj_bipush C dX12_degree_14 (by decide) ?_
    exact aj_iret C K dX12_degree_16 ⟨_, rfl, h⟩
theorem dX12_neighbour_0 : decode cX12_neighbour 0 = .ok (.aload_n 0, 1) := by decide +kernel
theorem dX12_neighbour_1 : decode cX12_neighbour 1 = .ok (.iconst 0, 1) := by decide +kernel
theorem dX12_neighbour_2 : decode cX12_neighbour 2 = .ok (.putfield 1, 3) := by decide +kernel
theorem dX12_neighbour_5 : decode cX12_neighbour 5 = .ok (.aload_n 0, 1) := by decide +kernel
theorem dX12_neighbour_6 : decode cX12_neighbour 6 = .ok (.iload_n 1, 1) := by decide +kernel
theorem dX12_neighbour_7 : decode cX12_neighbour 7 = .ok (.i2l, 1) := by decide +kernel
theorem dX12_neighbour_8 : decode cX12_neighbour 8 = .ok (.invokevirtual 360, 3) := by decide +kernel
theorem dX12_neighbour_11 : decode cX12_neighbour 11 = .ok (.ifCond .ne 6, 3) := by decide +kernel
theorem dX12_neighbour_14 : decode cX12_neighbour 14 = .ok (.bipush (-2), 2) := by decide +kernel
theorem dX12_neighbour_16 : decode cX12_neighbour 16 = .ok (.ireturn, 1) := by decide +kernel
theorem dX12_neighbour_17 : decode cX12_neighbour 17 = .ok (.iload_n 2, 1) := by decide +kernel
theorem dX12_neighbour_18 : decode cX12_neighbour 18 = .ok (.ifCond .ge 6, 3) := by decide +kernel
theorem dX12_neighbour_21 : decode cX12_neighbour 21 = .ok (.bipush (-3), 2) := by decide +kernel
theorem dX12_neighbour_23 : decode cX12_neighbour 23 = .ok (.ireturn, 1) := by decide +kernel
theorem dX12_neighbour_24 : decode cX12_neighbour 24 = .ok (.aload_n 0, 1) := by decide +kernel
theorem dX12_neighbour_25 : decode cX12_neighbour 25 = .ok (.invokevirtual 336, 3) := by decide +kernel
theorem dX12_neighbour_28 : decode cX12_neighbour 28 = .ok (.iconst 0, 1) := by decide +kernel
theorem dX12_neighbour_29 : decode cX12_neighbour 29 = .ok (.istore_n 3, 1) := by decide +kernel
theorem dX12_neighbour_30 : decode cX12_neighbour 30 = .ok (.iconst 0, 1) := by decide +kernel
theorem dX12_neighbour_31 : decode cX12_neighbour 31 = .ok (.istore 4, 2) := by decide +kernel
theorem dX12_neighbour_33 : decode cX12_neighbour 33 = .ok (.iload 4, 2) := by decide +kernel
theorem dX12_neighbour_35 : decode cX12_neighbour 35 = .ok (.aload_n 0, 1) := by decide +kernel
theorem dX12_neighbour_36 : decode cX12_neighbour 36 = .ok (.getfield 271, 3) := by decide +kernel
theorem dX12_neighbour_39 : decode cX12_neighbour 39 = .ok (.if_icmp .ge 44, 3) := by decide +kernel
theorem dX12_neighbour_42 : decode cX12_neighbour 42 = .ok (.iload 4, 2) := by decide +kernel
theorem dX12_neighbour_44 : decode cX12_neighbour 44 = .ok (.iload_n 1, 1) := by decide +kernel
theorem dX12_neighbour_45 : decode cX12_neighbour 45 = .ok (.if_icmp .eq 32, 3) := by decide +kernel
theorem dX12_neighbour_48 : decode cX12_neighbour 48 = .ok (.aload_n 0, 1) := by decide +kernel
theorem dX12_neighbour_49 : decode cX12_neighbour 49 = .ok (.getfield 45, 3) := by decide +kernel
theorem dX12_neighbour_52 : decode cX12_neighbour 52 = .ok (.bipush 60, 2) := by decide +kernel
theorem dX12_neighbour_54 : decode cX12_neighbour 54 = .ok (.iload_n 1, 1) := by decide +kernel
theorem dX12_neighbour_55 : decode cX12_neighbour 55 = .ok (.imul, 1) := by decide +kernel
theorem dX12_neighbour_56 : decode cX12_neighbour 56 = .ok (.iload 4, 2) := by decide +kernel
theorem dX12_neighbour_58 : decode cX12_neighbour 58 = .ok (.iadd, 1) := by decide +kernel
theorem dX12_neighbour_59 : decode cX12_neighbour 59 = .ok (.iaload, 1) := by decide +kernel
theorem dX12_neighbour_60 : decode cX12_neighbour 60 = .ok (.ifCond .ne 6, 3) := by decide +kernel
theorem dX12_neighbour_63 : decode cX12_neighbour 63 = .ok (.goto 14, 3) := by decide +kernel
theorem dX12_neighbour_66 : decode cX12_neighbour 66 = .ok (.iload_n 3, 1) := by decide +kernel
theorem dX12_neighbour_67 : decode cX12_neighbour 67 = .ok (.iload_n 2, 1) := by decide +kernel
theorem dX12_neighbour_68 : decode cX12_neighbour 68 = .ok (.if_icmp .ne 6, 3) := by decide +kernel
theorem dX12_neighbour_71 : decode cX12_neighbour 71 = .ok (.iload 4, 2) := by decide +kernel
theorem dX12_neighbour_73 : decode cX12_neighbour 73 = .ok (.ireturn, 1) := by decide +kernel
theorem dX12_neighbour_74 : decode cX12_neighbour 74 = .ok (.iinc 3 1, 3) := by decide +kernel
theorem dX12_neighbour_77 : decode cX12_neighbour 77 = .ok (.iinc 4 1, 3) := by decide +kernel
theorem dX12_neighbour_80 : decode cX12_neighbour 80 = .ok (.goto (-47), 3) := by decide +kernel
theorem dX12_neighbour_83 : decode cX12_neighbour 83 = .ok (.iconst (-1), 1) := by decide +kernel
theorem dX12_neighbour_84 : decode cX12_neighbour 84 = .ok (.ireturn, 1) := by decide +kernel
def hX12_neighbour_33 (f : Nat) (Φ : Int → aj_M → Prop) : Nat → List Nat → Int → Int → Int → Int → aj_M → Prop
  | 0, _, _, _, _, _, _ => False
  | k + 1, q0, v1, v2, v3, v4, m => rI v4 ∧ rI (m q0 23) ∧ ((m q0 23) ≤ v4 → Φ (-1) m) ∧ (¬ ((m q0 23) ≤ v4) → rI v4 ∧ rI v1 ∧ (v4 = v1 → hX12_neighbour_33 f Φ k q0 v1 v2 v3 (v4 + 1) m) ∧ (¬ (v4 = v1) → (0 ≤ ((60 * v1) + v4) ∧ ((60 * v1) + v4) < 3600) ∧ rI (m (21 :: q0) ((60 * v1) + v4).toNat) ∧ (¬ (m (21 :: q0) ((60 * v1) + v4).toNat) = 0 → rI v3 ∧ rI v2 ∧ (¬ v3 = v2 → hX12_neighbour_33 f Φ k q0 v1 v2 (v3 + 1) (v4 + 1) m) ∧ (v3 = v2 → Φ v4 m)) ∧ ((m (21 :: q0) ((60 * v1) + v4).toNat) = 0 → hX12_neighbour_33 f Φ k q0 v1 v2 v3 (v4 + 1) m)))
set_option maxHeartbeats 4000000 in
set_option maxRecDepth 100000 in
theorem tX12_neighbour_33 {X : aj_T} {n f : Nat} {Φ : Int → aj_M → Prop} (C : aj_Cx X cX12_neighbour RX12 5 (n + 6)) (K : aj_Rt X (some .int) (fun r m => ∃ z, r = some (vI z) ∧ Φ z m)) : ∀ (k : Nat) (q0 : List Nat) (v1 : Int) (v2 : Int) (v3 : Int) (v4 : Int) (m : aj_M) (hq0 : (.inl (12, q0) : aj_R) ∈ aj_pls), hX12_neighbour_33 f Φ k q0 v1 v2 v3 v4 m → aj_J X 33 [some (vO 12 q0), some (vI v1), some (vI v2), some (vI v3), some (vI v4)] [] m := by
  intro k
  induction k with
  | zero =>
    intro q0 v1 v2 v3 v4 m _ h
    exact h.elim
  | succ k ih =>
    intro q0 v1 v2 v3 v4 m hq0 h
    unfold hX12_neighbour_33 at h
    refine aj_iload C dX12_neighbour_33 rfl ?_
    refine aj_aload_n C dX12_neighbour_35 rfl ?_
    refine aj_getI C flX12_271 hq0 (by decide) dX12_neighbour_36 rfl ?_
    obtain ⟨r0, r1, h1, h2⟩ := h
    refine aj_icmp_ge (tgt := 83) C dX12_neighbour_39 (by decide) r0 r1 (fun e => ?_) (fun e => ?_)
    · have h := h1 e
      refine aj_iconst C dX12_neighbour_83 ?_
      exact aj_iret C K dX12_neighbour_84 ⟨_, rfl, h⟩
    · have h := h2 e
      refine aj_iload C dX12_neighbour_42 rfl ?_
      refine aj_iload_n C dX12_neighbour_44 rfl ?_
      obtain ⟨r0, r1, h1, h2⟩ := h
      refine aj_icmp_eq (tgt := 77) C dX12_neighbour_45 (by decide) r0 r1 (fun e => ?_) (fun e => ?_)
      · have h := h1 e
        refine aj_iinc (lv' := [some (vO 12 q0), some (vI v1), some (vI v2), some (vI v3), some (vI (v4 + 1))]) C dX12_neighbour_77 rfl (by decide) rfl ?_
        refine aj_goto (tgt := 33) C dX12_neighbour_80 (by decide) ?_
        exact ih q0 v1 v2 v3 (v4 + 1) _ hq0 h
      · have h := h2 e
        refine aj_aload_n C dX12_neighbour_48 rfl ?_
        refine aj_getA (x := 0) (y := 3600) C flX12_45 hq0 rfl dX12_neighbour_49 ?_
        refine aj_bipush C dX12_neighbour_52 (by decide) ?_
        refine aj_iload_n C dX12_neighbour_54 rfl ?_
        refine aj_imul C dX12_neighbour_55 ?_
        refine aj_iload C dX12_neighbour_56 rfl ?_
        refine aj_iadd C dX12_neighbour_58 ?_
        obtain ⟨r0, h⟩ := h
        refine aj_iald C (aj_ca (e := 0) (n := 3600) (j := 21) hq0 (by decide) rfl) (by decide) r0 dX12_neighbour_59 rfl ?_
        obtain ⟨r0, h1, h2⟩ := h
        refine aj_if_ne (tgt := 66) C dX12_neighbour_60 (by decide) r0 (fun e => ?_) (fun e => ?_)
        · have h := h1 e
          refine aj_iload_n C dX12_neighbour_66 rfl ?_
          refine aj_iload_n C dX12_neighbour_67 rfl ?_
          obtain ⟨r0, r1, h1, h2⟩ := h
          refine aj_icmp_ne (tgt := 74) C dX12_neighbour_68 (by decide) r0 r1 (fun e => ?_) (fun e => ?_)
          · have h := h1 e
            refine aj_iinc (lv' := [some (vO 12 q0), some (vI v1), some (vI v2), some (vI (v3 + 1)), some (vI v4)]) C dX12_neighbour_74 rfl (by decide) rfl ?_
            refine aj_iinc (lv' := [some (vO 12 q0), some (vI v1), some (vI v2), some (vI (v3 + 1)), some (vI (v4 + 1))]) C dX12_neighbour_77 rfl (by decide) rfl ?_
            refine aj_goto (tgt := 33) C dX12_neighbour_80 (by decide) ?_
            exact ih q0 v1 v2 (v3 + 1) (v4 + 1) _ hq0 h
          · have h := h2 e
            refine aj_iload C dX12_neighbour_71 rfl ?_
            exact aj_iret C K dX12_neighbour_73 ⟨_, rfl, h⟩
        · have h := h2 e
          refine aj_goto (tgt := 77) C dX12_neighbour_63 (by decide) ?_
          refine aj_iinc (lv' := [some (vO 12 q0), some (vI v1), some (vI v2), some (vI v3), some (vI (v4 + 1))]) C dX12_neighbour_77 rfl (by decide) rfl ?_
          refine aj_goto (tgt := 33) C dX12_neighbour_80 (by decide) ?_
          exact ih q0 v1 v2 v3 (v4 + 1) _ hq0 h
def wX12_neighbour (f : Nat) (Φ : Int → aj_M → Prop) (q0 : List Nat) (v1 : Int) (v2 : Int) (m : aj_M) : Prop := ∀ m1, m1 = aj_u m q0 0 0 → rI v1 ∧ wX12_isNode f (fun z1 m2 => rI z1 ∧ (¬ z1 = 0 → rI v2 ∧ (0 ≤ v2 → wX12_laysNet f (fun m3 => hX12_neighbour_33 f Φ f q0 v1 v2 0 0 m3) q0 m2) ∧ (¬ (0 ≤ v2) → Φ (-3) m2)) ∧ (z1 = 0 → Φ (-2) m2)) q0 v1 m1
set_option maxHeartbeats 4000000 in
set_option maxRecDepth 100000 in
theorem sX12_neighbour {n f : Nat} {Φ : Int → aj_M → Prop} {q0 : List Nat} {v1 : Int} {v2 : Int} {m : aj_M} (hq0 : (.inl (12, q0) : aj_R) ∈ aj_pls) (h : wX12_neighbour f Φ q0 v1 v2 m) : aj_Ct (n + 6) yX12_neighbour cX12_neighbour 5 (some .int) [vO 12 q0, vI v1, vI v2] m (fun r m => ∃ z, r = some (vI z) ∧ Φ z m) := by
  refine aj_met (lv := [some (vO 12 q0), some (vI v1), some (vI v2), none, none]) (by decide +kernel) rfl (Nat.le_of_ble_eq_true rfl) (fun X C K => ?_)
  unfold wX12_neighbour at h
  refine aj_aload_n C dX12_neighbour_0 rfl ?_
  refine aj_iconst C dX12_neighbour_1 ?_
  refine aj_putI C fpX12_1 hq0 rfl dX12_neighbour_2 ?_
  refine aj_nm (fun m1 e1 => ?_)
  have h := h m1 e1
  refine aj_aload_n C dX12_neighbour_5 rfl ?_
  refine aj_iload_n C dX12_neighbour_6 rfl ?_
  obtain ⟨r0, h⟩ := h
  refine aj_i2l C dX12_neighbour_7 r0 ?_
  refine aj_callV (rest := []) C mvX12_360 (sX12_isNode hq0 h) hq0 (aj_np 1 (by decide +kernel) rfl) (Nat.le_of_ble_eq_true rfl) rfl dX12_neighbour_8 (fun r m2 h => ?_)
  obtain ⟨z1, rfl, h⟩ := h
  obtain ⟨r0, h1, h2⟩ := h
  refine aj_if_ne (tgt := 17) C dX12_neighbour_11 (by decide) r0 (fun e => ?_) (fun e => ?_)
  · have h := h1 e
    refine aj_iload_n C dX12_neighbour_17 rfl ?_
    obtain ⟨r0, h1, h2⟩ := h
    refine aj_if_ge (tgt := 24) C dX12_neighbour_18 (by decide) r0 (fun e => ?_) (fun e => ?_)
    · have h := h1 e
      refine aj_aload_n C dX12_neighbour_24 rfl ?_
      refine aj_callV (rest := []) C mvX12_336 (sX12_laysNet hq0 h) hq0 (aj_np 0 (by decide +kernel) rfl) (Nat.le_of_ble_eq_true rfl) rfl dX12_neighbour_25 (fun r m3 h => ?_)
      obtain ⟨rfl, h⟩ := h
      refine aj_iconst C dX12_neighbour_28 ?_
      refine aj_istore_n (lv' := [some (vO 12 q0), some (vI v1), some (vI v2), some (vI 0), none]) C dX12_neighbour_29 (by decide) rfl ?_
      refine aj_iconst C dX12_neighbour_30 ?_
      refine aj_istore (lv' := [some (vO 12 q0), some (vI v1), some (vI v2), some (vI 0), some (vI 0)]) C dX12_neighbour_31 (by decide) rfl ?_
      exact tX12_neighbour_33 C K f q0 v1 v2 0 0 _ hq0 h
    · have h := h2 e
      refine aj_bipush C dX12_neighbour_21 (by decide) ?_
      exact aj_iret C K dX12_neighbour_23 ⟨_, rfl, h⟩
  · have h := h2 e
    refine aj_bipush C dX12_neighbour_14 (by decide) ?_
    exact aj_iret C K dX12_neighbour_16 ⟨_, rfl, h⟩
theorem dX12_regularNow_0 : decode cX12_regularNow 0 = .ok (.aload_n 0, 1) := by decide +kernel
theorem dX12_regularNow_1 : decode cX12_regularNow 1 = .ok (.iconst 0, 1) := by decide +kernel
theorem dX12_regularNow_2 : decode cX12_regularNow 2 = .ok (.invokevirtual 363, 3) := by decide +kernel
theorem dX12_regularNow_5 : decode cX12_regularNow 5 = .ok (.istore_n 1, 1) := by decide +kernel
theorem dX12_regularNow_6 : decode cX12_regularNow 6 = .ok (.iconst 1, 1) := by decide +kernel
theorem dX12_regularNow_7 : decode cX12_regularNow 7 = .ok (.istore_n 2, 1) := by decide +kernel
theorem dX12_regularNow_8 : decode cX12_regularNow 8 = .ok (.iload_n 2, 1) := by decide +kernel
theorem dX12_regularNow_9 : decode cX12_regularNow 9 = .ok (.aload_n 0, 1) := by decide +kernel
theorem dX12_regularNow_10 : decode cX12_regularNow 10 = .ok (.getfield 271, 3) := by decide +kernel
theorem dX12_regularNow_13 : decode cX12_regularNow 13 = .ok (.if_icmp .ge 20, 3) := by decide +kernel
theorem dX12_regularNow_16 : decode cX12_regularNow 16 = .ok (.aload_n 0, 1) := by decide +kernel
theorem dX12_regularNow_17 : decode cX12_regularNow 17 = .ok (.iload_n 2, 1) := by decide +kernel
theorem dX12_regularNow_18 : decode cX12_regularNow 18 = .ok (.invokevirtual 363, 3) := by decide +kernel
theorem dX12_regularNow_21 : decode cX12_regularNow 21 = .ok (.iload_n 1, 1) := by decide +kernel
theorem dX12_regularNow_22 : decode cX12_regularNow 22 = .ok (.if_icmp .eq 5, 3) := by decide +kernel
theorem dX12_regularNow_25 : decode cX12_regularNow 25 = .ok (.iconst (-1), 1) := by decide +kernel
theorem dX12_regularNow_26 : decode cX12_regularNow 26 = .ok (.ireturn, 1) := by decide +kernel
theorem dX12_regularNow_27 : decode cX12_regularNow 27 = .ok (.iinc 2 1, 3) := by decide +kernel
theorem dX12_regularNow_30 : decode cX12_regularNow 30 = .ok (.goto (-22), 3) := by decide +kernel
theorem dX12_regularNow_33 : decode cX12_regularNow 33 = .ok (.iload_n 1, 1) := by decide +kernel
theorem dX12_regularNow_34 : decode cX12_regularNow 34 = .ok (.ireturn, 1) := by decide +kernel
def hX12_regularNow_8 (f : Nat) (Φ : Int → aj_M → Prop) : Nat → List Nat → Int → Int → aj_M → Prop
  | 0, _, _, _, _ => False
  | k + 1, q0, v1, v2, m => rI v2 ∧ rI (m q0 23) ∧ ((m q0 23) ≤ v2 → Φ v1 m) ∧ (¬ ((m q0 23) ≤ v2) → wX12_degreeOf f (fun z1 m1 => rI z1 ∧ rI v1 ∧ (z1 = v1 → hX12_regularNow_8 f Φ k q0 v1 (v2 + 1) m1) ∧ (¬ (z1 = v1) → Φ (-1) m1)) q0 v2 m)
set_option maxHeartbeats 4000000 in
set_option maxRecDepth 100000 in
theorem tX12_regularNow_8 {X : aj_T} {n f : Nat} {Φ : Int → aj_M → Prop} (C : aj_Cx X cX12_regularNow RX12 3 (n + 1)) (K : aj_Rt X (some .int) (fun r m => ∃ z, r = some (vI z) ∧ Φ z m)) : ∀ (k : Nat) (q0 : List Nat) (v1 : Int) (v2 : Int) (m : aj_M) (hq0 : (.inl (12, q0) : aj_R) ∈ aj_pls), hX12_regularNow_8 f Φ k q0 v1 v2 m → aj_J X 8 [some (vO 12 q0), some (vI v1), some (vI v2)] [] m := by
  intro k
  induction k with
  | zero =>
    intro q0 v1 v2 m _ h
    exact h.elim
  | succ k ih =>
    intro q0 v1 v2 m hq0 h
    unfold hX12_regularNow_8 at h
    refine aj_iload_n C dX12_regularNow_8 rfl ?_
    refine aj_aload_n C dX12_regularNow_9 rfl ?_
    refine aj_getI C flX12_271 hq0 (by decide) dX12_regularNow_10 rfl ?_
    obtain ⟨r0, r1, h1, h2⟩ := h
    refine aj_icmp_ge (tgt := 33) C dX12_regularNow_13 (by decide) r0 r1 (fun e => ?_) (fun e => ?_)
    · have h := h1 e
      refine aj_iload_n C dX12_regularNow_33 rfl ?_
      exact aj_iret C K dX12_regularNow_34 ⟨_, rfl, h⟩
    · have h := h2 e
      refine aj_aload_n C dX12_regularNow_16 rfl ?_
      refine aj_iload_n C dX12_regularNow_17 rfl ?_
      refine aj_callV (rest := []) C mvX12_363 (sX12_degreeOf hq0 h) hq0 (aj_np 1 (by decide +kernel) rfl) (Nat.le_of_ble_eq_true rfl) rfl dX12_regularNow_18 (fun r m1 h => ?_)
      obtain ⟨z1, rfl, h⟩ := h
      refine aj_iload_n C dX12_regularNow_21 rfl ?_
      obtain ⟨r0, r1, h1, h2⟩ := h
      refine aj_icmp_eq (tgt := 27) C dX12_regularNow_22 (by decide) r0 r1 (fun e => ?_) (fun e => ?_)
      · have h := h1 e
        refine aj_iinc (lv' := [some (vO 12 q0), some (vI v1), some (vI (v2 + 1))]) C dX12_regularNow_27 rfl (by decide) rfl ?_
        refine aj_goto (tgt := 8) C dX12_regularNow_30 (by decide) ?_
        exact ih q0 v1 (v2 + 1) _ hq0 h
      · have h := h2 e
        refine aj_iconst C dX12_regularNow_25 ?_
        exact aj_iret C K dX12_regularNow_26 ⟨_, rfl, h⟩
def wX12_regularNow (f : Nat) (Φ : Int → aj_M → Prop) (q0 : List Nat) (m : aj_M) : Prop := wX12_degreeOf f (fun z1 m1 => hX12_regularNow_8 f Φ f q0 z1 1 m1) q0 0 m
set_option maxHeartbeats 4000000 in
set_option maxRecDepth 100000 in
theorem sX12_regularNow {n f : Nat} {Φ : Int → aj_M → Prop} {q0 : List Nat} {m : aj_M} (hq0 : (.inl (12, q0) : aj_R) ∈ aj_pls) (h : wX12_regularNow f Φ q0 m) : aj_Ct (n + 1) yX12_regularNow cX12_regularNow 3 (some .int) [vO 12 q0] m (fun r m => ∃ z, r = some (vI z) ∧ Φ z m) := by
  refine aj_met (lv := [some (vO 12 q0), none, none]) (by decide +kernel) rfl (Nat.le_of_ble_eq_true rfl) (fun X C K => ?_)
  unfold wX12_regularNow at h
  refine aj_aload_n C dX12_regularNow_0 rfl ?_
  refine aj_iconst C dX12_regularNow_1 ?_
  refine aj_callV (rest := []) C mvX12_363 (sX12_degreeOf hq0 h) hq0 (aj_np 1 (by decide +kernel) rfl) (Nat.le_of_ble_eq_true rfl) rfl dX12_regularNow_2 (fun r m1 h => ?_)
  obtain ⟨z1, rfl, h⟩ := h
  refine aj_istore_n (lv' := [some (vO 12 q0), some (vI z1), none]) C dX12_regularNow_5 (by decide) rfl ?_
  refine aj_iconst C dX12_regularNow_6 ?_
  refine aj_istore_n (lv' := [some (vO 12 q0), some (vI z1), some (vI 1)]) C dX12_regularNow_7 (by decide) rfl ?_
  exact tX12_regularNow_8 C K f q0 z1 1 _ hq0 h
theorem dX12_regular_0 : decode cX12_regular 0 = .ok (.aload_n 0, 1) := by decide +kernel
theorem dX12_regular_1 : decode cX12_regular 1 = .ok (.iconst 0, 1) := by decide +kernel
theorem dX12_regular_2 : decode cX12_regular 2 = .ok (.putfield 1, 3) := by decide +kernel
theorem dX12_regular_5 : decode cX12_regular 5 = .ok (.aload_n 0, 1) := by decide +kernel
theorem dX12_regular_6 : decode cX12_regular 6 = .ok (.invokevirtual 336, 3) := by decide +kernel
theorem dX12_regular_9 : decode cX12_regular 9 = .ok (.aload_n 0, 1) := by decide +kernel
theorem dX12_regular_10 : decode cX12_regular 10 = .ok (.invokevirtual 366, 3) := by decide +kernel
theorem dX12_regular_13 : decode cX12_regular 13 = .ok (.ireturn, 1) := by decide +kernel
def wX12_regular (f : Nat) (Φ : Int → aj_M → Prop) (q0 : List Nat) (m : aj_M) : Prop := ∀ m1, m1 = aj_u m q0 0 0 → wX12_laysNet f (fun m2 => wX12_regularNow f (fun z2 m3 => Φ z2 m3) q0 m2) q0 m1
set_option maxHeartbeats 4000000 in
set_option maxRecDepth 100000 in
theorem sX12_regular {n f : Nat} {Φ : Int → aj_M → Prop} {q0 : List Nat} {m : aj_M} (hq0 : (.inl (12, q0) : aj_R) ∈ aj_pls) (h : wX12_regular f Φ q0 m) : aj_Ct (n + 6) yX12_regular cX12_regular 1 (some .int) [vO 12 q0] m (fun r m => ∃ z, r = some (vI z) ∧ Φ z m) := by
  refine aj_met (lv := [some (vO 12 q0)]) (by decide +kernel) rfl (Nat.le_of_ble_eq_true rfl) (fun X C K => ?_)
  unfold wX12_regular at h
  refine aj_aload_n C dX12_regular_0 rfl ?_
  refine aj_iconst C dX12_regular_1 ?_
  refine aj_putI C fpX12_1 hq0 rfl dX12_regular_2 ?_
  refine aj_nm (fun m1 e1 => ?_)
  have h := h m1 e1
  refine aj_aload_n C dX12_regular_5 rfl ?_
  refine aj_callV (rest := []) C mvX12_336 (sX12_laysNet hq0 h) hq0 (aj_np 0 (by decide +kernel) rfl) (Nat.le_of_ble_eq_true rfl) rfl dX12_regular_6 (fun r m2 h => ?_)
  obtain ⟨rfl, h⟩ := h
  refine aj_aload_n C dX12_regular_9 rfl ?_
  refine aj_callV (rest := []) C mvX12_366 (sX12_regularNow hq0 h) hq0 (aj_np 0 (by decide +kernel) rfl) (Nat.le_of_ble_eq_true rfl) rfl dX12_regular_10 (fun r m3 h => ?_)
  obtain ⟨z2, rfl, h⟩ := h
  exact aj_iret C K dX12_regular_13 ⟨_, rfl, h⟩
theorem dX12_parts_0 : decode cX12_parts 0 = .ok (.aload_n 0, 1) := by decide +kernel
theorem dX12_parts_1 : decode cX12_parts 1 = .ok (.iconst 0, 1) := by decide +kernel
theorem dX12_parts_2 : decode cX12_parts 2 = .ok (.putfield 1, 3) := by decide +kernel
theorem dX12_parts_5 : decode cX12_parts 5 = .ok (.aload_n 0, 1) := by decide +kernel
theorem dX12_parts_6 : decode cX12_parts 6 = .ok (.invokevirtual 336, 3) := by decide +kernel
theorem dX12_parts_9 : decode cX12_parts 9 = .ok (.iconst 0, 1) := by decide +kernel
theorem dX12_parts_10 : decode cX12_parts 10 = .ok (.istore_n 1, 1) := by decide +kernel
theorem dX12_parts_11 : decode cX12_parts 11 = .ok (.iconst 0, 1) := by decide +kernel
theorem dX12_parts_12 : decode cX12_parts 12 = .ok (.istore_n 2, 1) := by decide +kernel
theorem dX12_parts_13 : decode cX12_parts 13 = .ok (.iload_n 2, 1) := by decide +kernel
theorem dX12_parts_14 : decode cX12_parts 14 = .ok (.aload_n 0, 1) := by decide +kernel
theorem dX12_parts_15 : decode cX12_parts 15 = .ok (.getfield 271, 3) := by decide +kernel
theorem dX12_parts_18 : decode cX12_parts 18 = .ok (.if_icmp .ge 67, 3) := by decide +kernel
theorem dX12_parts_21 : decode cX12_parts 21 = .ok (.aload_n 0, 1) := by decide +kernel
theorem dX12_parts_22 : decode cX12_parts 22 = .ok (.iload_n 2, 1) := by decide +kernel
theorem dX12_parts_23 : decode cX12_parts 23 = .ok (.invokevirtual 285, 3) := by decide +kernel
theorem dX12_parts_26 : decode cX12_parts 26 = .ok (.istore_n 3, 1) := by decide +kernel
theorem dX12_parts_27 : decode cX12_parts 27 = .ok (.iconst 1, 1) := by decide +kernel
theorem dX12_parts_28 : decode cX12_parts 28 = .ok (.istore 4, 2) := by decide +kernel
theorem dX12_parts_30 : decode cX12_parts 30 = .ok (.iconst 0, 1) := by decide +kernel
theorem dX12_parts_31 : decode cX12_parts 31 = .ok (.istore 5, 2) := by decide +kernel
theorem dX12_parts_33 : decode cX12_parts 33 = .ok (.iload 5, 2) := by decide +kernel
theorem dX12_parts_35 : decode cX12_parts 35 = .ok (.iload_n 3, 1) := by decide +kernel
theorem dX12_parts_36 : decode cX12_parts 36 = .ok (.if_icmp .ge 30, 3) := by decide +kernel
theorem dX12_parts_39 : decode cX12_parts 39 = .ok (.iload 4, 2) := by decide +kernel
theorem dX12_parts_41 : decode cX12_parts 41 = .ok (.aload_n 0, 1) := by decide +kernel
theorem dX12_parts_42 : decode cX12_parts 42 = .ok (.getfield 54, 3) := by decide +kernel
theorem dX12_parts_45 : decode cX12_parts 45 = .ok (.iload 5, 2) := by decide +kernel
theorem dX12_parts_47 : decode cX12_parts 47 = .ok (.iaload, 1) := by decide +kernel
theorem dX12_parts_48 : decode cX12_parts 48 = .ok (.iload_n 2, 1) := by decide +kernel
theorem dX12_parts_49 : decode cX12_parts 49 = .ok (.if_icmp .lt 7, 3) := by decide +kernel
theorem dX12_parts_52 : decode cX12_parts 52 = .ok (.iconst 1, 1) := by decide +kernel
theorem dX12_parts_53 : decode cX12_parts 53 = .ok (.goto 4, 3) := by decide +kernel
theorem dX12_parts_56 : decode cX12_parts 56 = .ok (.iconst 0, 1) := by decide +kernel
theorem dX12_parts_57 : decode cX12_parts 57 = .ok (.iand, 1) := by decide +kernel
theorem dX12_parts_58 : decode cX12_parts 58 = .ok (.istore 4, 2) := by decide +kernel
theorem dX12_parts_60 : decode cX12_parts 60 = .ok (.iinc 5 1, 3) := by decide +kernel
theorem dX12_parts_63 : decode cX12_parts 63 = .ok (.goto (-30), 3) := by decide +kernel
theorem dX12_parts_66 : decode cX12_parts 66 = .ok (.iload_n 1, 1) := by decide +kernel
theorem dX12_parts_67 : decode cX12_parts 67 = .ok (.iload 4, 2) := by decide +kernel
theorem dX12_parts_69 : decode cX12_parts 69 = .ok (.ifCond .eq 7, 3) := by decide +kernel
theorem dX12_parts_72 : decode cX12_parts 72 = .ok (.iconst 1, 1) := by decide +kernel
theorem dX12_parts_73 : decode cX12_parts 73 = .ok (.goto 4, 3) := by decide +kernel
theorem dX12_parts_76 : decode cX12_parts 76 = .ok (.iconst 0, 1) := by decide +kernel
theorem dX12_parts_77 : decode cX12_parts 77 = .ok (.iadd, 1) := by decide +kernel
theorem dX12_parts_78 : decode cX12_parts 78 = .ok (.istore_n 1, 1) := by decide +kernel
theorem dX12_parts_79 : decode cX12_parts 79 = .ok (.iinc 2 1, 3) := by decide +kernel
theorem dX12_parts_82 : decode cX12_parts 82 = .ok (.goto (-69), 3) := by decide +kernel
theorem dX12_parts_85 : decode cX12_parts 85 = .ok (.iload_n 1, 1) := by decide +kernel
theorem dX12_parts_86 : decode cX12_parts 86 = .ok (.ireturn, 1) := by decide +kernel
def hX12_parts_33 (f : Nat) (Φ : Int → aj_M → Prop) (K13 : List Nat → Int → Int → aj_M → Prop) : Nat → List Nat → Int → Int → Int → Int → Int → aj_M → Prop
  | 0, _, _, _, _, _, _, _ => False
  | k + 1, q0, v1, v2, v3, v4, v5, m => rI v5 ∧ rI v3 ∧ (v3 ≤ v5 → rI v4 ∧ (v4 = 0 → K13 q0 (v1 + 0) (v2 + 1) m) ∧ (¬ (v4 = 0) → K13 q0 (v1 + 1) (v2 + 1) m)) ∧ (¬ (v3 ≤ v5) → (0 ≤ v5 ∧ v5 < 60) ∧ rI (m (26 :: q0) v5.toNat) ∧ rI v2 ∧ ((m (26 :: q0) v5.toNat) < v2 → hX12_parts_33 f Φ K13 k q0 v1 v2 v3 (aj_and v4 0) (v5 + 1) m) ∧ (¬ ((m (26 :: q0) v5.toNat) < v2) → hX12_parts_33 f Φ K13 k q0 v1 v2 v3 (aj_and v4 1) (v5 + 1) m))
set_option maxHeartbeats 4000000 in
set_option maxRecDepth 100000 in
theorem tX12_parts_33 {X : aj_T} {n f : Nat} {Φ : Int → aj_M → Prop} (C : aj_Cx X cX12_parts RX12 6 (n + 6)) (K : aj_Rt X (some .int) (fun r m => ∃ z, r = some (vI z) ∧ Φ z m)) {K13 : List Nat → Int → Int → aj_M → Prop} (HK13 : ∀ (q0 : List Nat) (v1 : Int) (v2 : Int) (m : aj_M) (hq0 : (.inl (12, q0) : aj_R) ∈ aj_pls), K13 q0 v1 v2 m → aj_J X 13 [some (vO 12 q0), some (vI v1), some (vI v2), none, none, none] [] m) : ∀ (k : Nat) (q0 : List Nat) (v1 : Int) (v2 : Int) (v3 : Int) (v4 : Int) (v5 : Int) (m : aj_M) (hq0 : (.inl (12, q0) : aj_R) ∈ aj_pls), hX12_parts_33 f Φ K13 k q0 v1 v2 v3 v4 v5 m → aj_J X 33 [some (vO 12 q0), some (vI v1), some (vI v2), some (vI v3), some (vI v4), some (vI v5)] [] m := by
  intro k
  induction k with
  | zero =>
    intro q0 v1 v2 v3 v4 v5 m _ h
    exact h.elim
  | succ k ih =>
    intro q0 v1 v2 v3 v4 v5 m hq0 h
    unfold hX12_parts_33 at h
    refine aj_iload C dX12_parts_33 rfl ?_
    refine aj_iload_n C dX12_parts_35 rfl ?_
    obtain ⟨r0, r1, h1, h2⟩ := h
    refine aj_icmp_ge (tgt := 66) C dX12_parts_36 (by decide) r0 r1 (fun e => ?_) (fun e => ?_)
    · have h := h1 e
      refine aj_iload_n C dX12_parts_66 rfl ?_
      refine aj_iload C dX12_parts_67 rfl ?_
      obtain ⟨r0, h1, h2⟩ := h
      refine aj_if_eq (tgt := 76) C dX12_parts_69 (by decide) r0 (fun e => ?_) (fun e => ?_)
      · have h := h1 e
        refine aj_iconst C dX12_parts_76 ?_
        refine aj_iadd C dX12_parts_77 ?_
        refine aj_istore_n (lv' := [some (vO 12 q0), some (vI (v1 + 0)), some (vI v2), some (vI v3), some (vI v4), some (vI v5)]) C dX12_parts_78 (by decide) rfl ?_
        refine aj_iinc (lv' := [some (vO 12 q0), some (vI (v1 + 0)), some (vI (v2 + 1)), some (vI v3), some (vI v4), some (vI v5)]) C dX12_parts_79 rfl (by decide) rfl ?_
        refine aj_goto (tgt := 13) C dX12_parts_82 (by decide) ?_
        refine aj_wk (lv' := [some (vO 12 q0), some (vI (v1 + 0)), some (vI (v2 + 1)), none, none, none]) (⟨rfl, ⟨rfl, ⟨rfl, trivial⟩⟩⟩) ?_
        exact HK13 q0 (v1 + 0) (v2 + 1) _ hq0 h
      · have h := h2 e
        refine aj_iconst C dX12_parts_72 ?_
        refine aj_goto (tgt := 77) C dX12_parts_73 (by decide) ?_
        refine aj_iadd C dX12_parts_77 ?_
        refine aj_istore_n (lv' := [some (vO 12 q0), some (vI (v1 + 1)), some (vI v2), some (vI v3), some (vI v4), some (vI v5)]) C dX12_parts_78 (by decide) rfl ?_
        refine aj_iinc (lv' := [some (vO 12 q0), some (vI (v1 + 1)), some (vI (v2 + 1)), some (vI v3), some (vI v4), some (vI v5)]) C dX12_parts_79 rfl (by decide) rfl ?_
        refine aj_goto (tgt := 13) C dX12_parts_82 (by decide) ?_
        refine aj_wk (lv' := [some (vO 12 q0), some (vI (v1 + 1)), some (vI (v2 + 1)), none, none, none]) (⟨rfl, ⟨rfl, ⟨rfl, trivial⟩⟩⟩) ?_
        exact HK13 q0 (v1 + 1) (v2 + 1) _ hq0 h
    · have h := h2 e
      refine aj_iload C dX12_parts_39 rfl ?_
      refine aj_aload_n C dX12_parts_41 rfl ?_
      refine aj_getA (x := 0) (y := 60) C flX12_54 hq0 rfl dX12_parts_42 ?_
      refine aj_iload C dX12_parts_45 rfl ?_
      obtain ⟨r0, h⟩ := h
      refine aj_iald C (aj_ca (e := 0) (n := 60) (j := 26) hq0 (by decide) rfl) (by decide) r0 dX12_parts_47 rfl ?_
      refine aj_iload_n C dX12_parts_48 rfl ?_
      obtain ⟨r0, r1, h1, h2⟩ := h
      refine aj_icmp_lt (tgt := 56) C dX12_parts_49 (by decide) r0 r1 (fun e => ?_) (fun e => ?_)
      · have h := h1 e
        refine aj_iconst C dX12_parts_56 ?_
        refine aj_iand C dX12_parts_57 ?_
        refine aj_istore (lv' := [some (vO 12 q0), some (vI v1), some (vI v2), some (vI v3), some (vI (aj_and v4 0)), some (vI v5)]) C dX12_parts_58 (by decide) rfl ?_
        refine aj_iinc (lv' := [some (vO 12 q0), some (vI v1), some (vI v2), some (vI v3), some (vI (aj_and v4 0)), some (vI (v5 + 1))]) C dX12_parts_60 rfl (by decide) rfl ?_
        refine aj_goto (tgt := 33) C dX12_parts_63 (by decide) ?_
        exact ih q0 v1 v2 v3 (aj_and v4 0) (v5 + 1) _ hq0 h
      · have h := h2 e
        refine aj_iconst C dX12_parts_52 ?_
        refine aj_goto (tgt := 57) C dX12_parts_53 (by decide) ?_
        refine aj_iand C dX12_parts_57 ?_
        refine aj_istore (lv' := [some (vO 12 q0), some (vI v1), some (vI v2), some (vI v3), some (vI (aj_and v4 1)), some (vI v5)]) C dX12_parts_58 (by decide) rfl ?_
        refine aj_iinc (lv' := [some (vO 12 q0), some (vI v1), some (vI v2), some (vI v3), some (vI (aj_and v4 1)), some (vI (v5 + 1))]) C dX12_parts_60 rfl (by decide) rfl ?_
        refine aj_goto (tgt := 33) C dX12_parts_63 (by decide) ?_
        exact ih q0 v1 v2 v3 (aj_and v4 1) (v5 + 1) _ hq0 h
def hX12_parts_13 (f : Nat) (Φ : Int → aj_M → Prop) : Nat → List Nat → Int → Int → aj_M → Prop
  | 0, _, _, _, _ => False
  | k + 1, q0, v1, v2, m => rI v2 ∧ rI (m q0 23) ∧ ((m q0 23) ≤ v2 → Φ v1 m) ∧ (¬ ((m q0 23) ≤ v2) → wX12_laysFar f (fun z1 m1 => hX12_parts_33 f Φ (fun q0 v1 v2 m => hX12_parts_13 f Φ k q0 v1 v2 m) f q0 v1 v2 z1 1 0 m1) q0 v2 m)
set_option maxHeartbeats 4000000 in
set_option maxRecDepth 100000 in
theorem tX12_parts_13 {X : aj_T} {n f : Nat} {Φ : Int → aj_M → Prop} (C : aj_Cx X cX12_parts RX12 6 (n + 6)) (K : aj_Rt X (some .int) (fun r m => ∃ z, r = some (vI z) ∧ Φ z m)) : ∀ (k : Nat) (q0 : List Nat) (v1 : Int) (v2 : Int) (m : aj_M) (hq0 : (.inl (12, q0) : aj_R) ∈ aj_pls), hX12_parts_13 f Φ k q0 v1 v2 m → aj_J X 13 [some (vO 12 q0), some (vI v1), some (vI v2), none, none, none] [] m := by
  intro k
  induction k with
  | zero =>
    intro q0 v1 v2 m _ h
    exact h.elim
  | succ k ih =>
    intro q0 v1 v2 m hq0 h
    unfold hX12_parts_13 at h
    refine aj_iload_n C dX12_parts_13 rfl ?_
    refine aj_aload_n C dX12_parts_14 rfl ?_
    refine aj_getI C flX12_271 hq0 (by decide) dX12_parts_15 rfl ?_
    obtain ⟨r0, r1, h1, h2⟩ := h
    refine aj_icmp_ge (tgt := 85) C dX12_parts_18 (by decide) r0 r1 (fun e => ?_) (fun e => ?_)
    · have h := h1 e
      refine aj_iload_n C dX12_parts_85 rfl ?_
      exact aj_iret C K dX12_parts_86 ⟨_, rfl, h⟩
    · have h := h2 e
      refine aj_aload_n C dX12_parts_21 rfl ?_
      refine aj_iload_n C dX12_parts_22 rfl ?_
      refine aj_callV (rest := []) C mvX12_285 (sX12_laysFar hq0 h) hq0 (aj_np 1 (by decide +kernel) rfl) (Nat.le_of_ble_eq_true rfl) rfl dX12_parts_23 (fun r m1 h => ?_)
      obtain ⟨z1, rfl, h⟩ := h
      refine aj_istore_n (lv' := [some (vO 12 q0), some (vI v1), some (vI v2), some (vI z1), none, none]) C dX12_parts_26 (by decide) rfl ?_
      refine aj_iconst C dX12_parts_27 ?_
      refine aj_istore (lv' := [some (vO 12 q0), some (vI v1), some (vI v2), some (vI z1), some (vI 1), none]) C dX12_parts_28 (by decide) rfl ?_
      refine aj_iconst C dX12_parts_30 ?_
      refine aj_istore (lv' := [some (vO 12 q0), some (vI v1), some (vI v2), some (vI z1), some (vI 1), some (vI 0)]) C dX12_parts_31 (by decide) rfl ?_
      exact tX12_parts_33 C K (fun q0 v1 v2 m hq0 hh => ih q0 v1 v2 m hq0 hh) f q0 v1 v2 z1 1 0 _ hq0 h
def wX12_parts (f : Nat) (Φ : Int → aj_M → Prop) (q0 : List Nat) (m : aj_M) : Prop := ∀ m1, m1 = aj_u m q0 0 0 → wX12_laysNet f (fun m2 => hX12_parts_13 f Φ f q0 0 0 m2) q0 m1
set_option maxHeartbeats 4000000 in
set_option maxRecDepth 100000 in
theorem sX12_parts {n f : Nat} {Φ : Int → aj_M → Prop} {q0 : List Nat} {m : aj_M} (hq0 : (.inl (12, q0) : aj_R) ∈ aj_pls) (h : wX12_parts f Φ q0 m) : aj_Ct (n + 6) yX12_parts cX12_parts 6 (some .int) [vO 12 q0] m (fun r m => ∃ z, r = some (vI z) ∧ Φ z m) := by
  refine aj_met (lv := [some (vO 12 q0), none, none, none, none, none]) (by decide +kernel) rfl (Nat.le_of_ble_eq_true rfl) (fun X C K => ?_)
  unfold wX12_parts at h
  refine aj_aload_n C dX12_parts_0 rfl ?_
  refine aj_iconst C dX12_parts_1 ?_
  refine aj_putI C fpX12_1 hq0 rfl dX12_parts_2 ?_
  refine aj_nm (fun m1 e1 => ?_)
  have h := h m1 e1
  refine aj_aload_n C dX12_parts_5 rfl ?_
  refine aj_callV (rest := []) C mvX12_336 (sX12_laysNet hq0 h) hq0 (aj_np 0 (by decide +kernel) rfl) (Nat.le_of_ble_eq_true rfl) rfl dX12_parts_6 (fun r m2 h => ?_)
  obtain ⟨rfl, h⟩ := h
  refine aj_iconst C dX12_parts_9 ?_
  refine aj_istore_n (lv' := [some (vO 12 q0), some (vI 0), none, none, none, none]) C dX12_parts_10 (by decide) rfl ?_
  refine aj_iconst C dX12_parts_11 ?_
  refine aj_istore_n (lv' := [some (vO 12 q0), some (vI 0), some (vI 0), none, none, none]) C dX12_parts_12 (by decide) rfl ?_
  exact tX12_parts_13 C K f q0 0 0 _ hq0 h
theorem dX12_twoColours_0 : decode cX12_twoColours 0 = .ok (.aload_n 0, 1) := by decide +kernel
theorem dX12_twoColours_1 : decode cX12_twoColours 1 = .ok (.iconst 0, 1) := by decide +kernel
theorem dX12_twoColours_2 : decode cX12_twoColours 2 = .ok (.putfield 1, 3) := by decide +kernel
theorem dX12_twoColours_5 : decode cX12_twoColours 5 = .ok (.aload_n 0, 1) := by decide +kernel
theorem dX12_twoColours_6 : decode cX12_twoColours 6 = .ok (.invokevirtual 336, 3) := by decide +kernel
theorem dX12_twoColours_9 : decode cX12_twoColours 9 = .ok (.iconst 0, 1) := by decide +kernel
theorem dX12_twoColours_10 : decode cX12_twoColours 10 = .ok (.istore_n 1, 1) := by decide +kernel
theorem dX12_twoColours_11 : decode cX12_twoColours 11 = .ok (.iload_n 1, 1) := by decide +kernel
theorem dX12_twoColours_12 : decode cX12_twoColours 12 = .ok (.aload_n 0, 1) := by decide +kernel
theorem dX12_twoColours_13 : decode cX12_twoColours 13 = .ok (.getfield 271, 3) := by decide +kernel
theorem dX12_twoColours_16 : decode cX12_twoColours 16 = .ok (.if_icmp .ge 79, 3) := by decide +kernel
theorem dX12_twoColours_19 : decode cX12_twoColours 19 = .ok (.aload_n 0, 1) := by decide +kernel
theorem dX12_twoColours_20 : decode cX12_twoColours 20 = .ok (.iload_n 1, 1) := by decide +kernel
theorem dX12_twoColours_21 : decode cX12_twoColours 21 = .ok (.invokevirtual 285, 3) := by decide +kernel
theorem dX12_twoColours_24 : decode cX12_twoColours 24 = .ok (.pop, 1) := by decide +kernel
theorem dX12_twoColours_25 : decode cX12_twoColours 25 = .ok (.iconst 0, 1) := by decide +kernel
theorem dX12_twoColours_26 : decode cX12_twoColours 26 = .ok (.istore_n 2, 1) := by decide +kernel
theorem dX12_twoColours_27 : decode cX12_twoColours 27 = .ok (.iload_n 2, 1) := by decide +kernel
theorem dX12_twoColours_28 : decode cX12_twoColours 28 = .ok (.aload_n 0, 1) := by decide +kernel
theorem dX12_twoColours_29 : decode cX12_twoColours 29 = .ok (.getfield 265, 3) := by decide +kernel
theorem dX12_twoColours_32 : decode cX12_twoColours 32 = .ok (.if_icmp .ge 57, 3) := by decide +kernel
theorem dX12_twoColours_35 : decode cX12_twoColours 35 = .ok (.aload_n 0, 1) := by decide +kernel
theorem dX12_twoColours_36 : decode cX12_twoColours 36 = .ok (.getfield 48, 3) := by decide +kernel
theorem dX12_twoColours_39 : decode cX12_twoColours 39 = .ok (.aload_n 0, 1) := by decide +kernel
theorem dX12_twoColours_40 : decode cX12_twoColours 40 = .ok (.getfield 36, 3) := by decide +kernel
theorem dX12_twoColours_43 : decode cX12_twoColours 43 = .ok (.iload_n 2, 1) := by decide +kernel
theorem dX12_twoColours_44 : decode cX12_twoColours 44 = .ok (.iaload, 1) := by decide +kernel
theorem dX12_twoColours_45 : decode cX12_twoColours 45 = .ok (.iaload, 1) := by decide +kernel
theorem dX12_twoColours_46 : decode cX12_twoColours 46 = .ok (.ldc_w 281, 3) := by decide +kernel
theorem dX12_twoColours_49 : decode cX12_twoColours 49 = .ok (.if_icmp .eq 34, 3) := by decide +kernel
theorem dX12_twoColours_52 : decode cX12_twoColours 52 = .ok (.aload_n 0, 1) := by decide +kernel
theorem dX12_twoColours_53 : decode cX12_twoColours 53 = .ok (.getfield 48, 3) := by decide +kernel
theorem dX12_twoColours_56 : decode cX12_twoColours 56 = .ok (.aload_n 0, 1) := by decide +kernel
theorem dX12_twoColours_57 : decode cX12_twoColours 57 = .ok (.getfield 36, 3) := by decide +kernel
theorem dX12_twoColours_60 : decode cX12_twoColours 60 = .ok (.iload_n 2, 1) := by decide +kernel
theorem dX12_twoColours_61 : decode cX12_twoColours 61 = .ok (.iaload, 1) := by decide +kernel
theorem dX12_twoColours_62 : decode cX12_twoColours 62 = .ok (.iaload, 1) := by decide +kernel
theorem dX12_twoColours_63 : decode cX12_twoColours 63 = .ok (.iconst 2, 1) := by decide +kernel
theorem dX12_twoColours_64 : decode cX12_twoColours 64 = .ok (.irem, 1) := by decide +kernel
theorem dX12_twoColours_65 : decode cX12_twoColours 65 = .ok (.aload_n 0, 1) := by decide +kernel
theorem dX12_twoColours_66 : decode cX12_twoColours 66 = .ok (.getfield 48, 3) := by decide +kernel
theorem dX12_twoColours_69 : decode cX12_twoColours 69 = .ok (.aload_n 0, 1) := by decide +kernel
theorem dX12_twoColours_70 : decode cX12_twoColours 70 = .ok (.getfield 39, 3) := by decide +kernel
theorem dX12_twoColours_73 : decode cX12_twoColours 73 = .ok (.iload_n 2, 1) := by decide +kernel
theorem dX12_twoColours_74 : decode cX12_twoColours 74 = .ok (.iaload, 1) := by decide +kernel
theorem dX12_twoColours_75 : decode cX12_twoColours 75 = .ok (.iaload, 1) := by decide +kernel
theorem dX12_twoColours_76 : decode cX12_twoColours 76 = .ok (.iconst 2, 1) := by decide +kernel
theorem dX12_twoColours_77 : decode cX12_twoColours 77 = .ok (.irem, 1) := by decide +kernel
theorem dX12_twoColours_78 : decode cX12_twoColours 78 = .ok (.if_icmp .ne 5, 3) := by decide +kernel
theorem dX12_twoColours_81 : decode cX12_twoColours 81 = .ok (.iconst 0, 1) := by decide +kernel
theorem dX12_twoColours_82 : decode cX12_twoColours 82 = .ok (.ireturn, 1) := by decide +kernel
theorem dX12_twoColours_83 : decode cX12_twoColours 83 = .ok (.iinc 2 1, 3) := by decide +kernel
theorem dX12_twoColours_86 : decode cX12_twoColours 86 = .ok (.goto (-59), 3) := by decide +kernel
theorem dX12_twoColours_89 : decode cX12_twoColours 89 = .ok (.iinc 1 1, 3) := by decide +kernel
theorem dX12_twoColours_92 : decode cX12_twoColours 92 = .ok (.goto (-81), 3) := by decide +kernel
theorem dX12_twoColours_95 : decode cX12_twoColours 95 = .ok (.iconst 1, 1) := by decide +kernel
theorem dX12_twoColours_96 : decode cX12_twoColours 96 = .ok (.ireturn, 1) := by decide +kernel
def hX12_twoColours_27 (f : Nat) (Φ : Int → aj_M → Prop) (K11 : List Nat → Int → aj_M → Prop) : Nat → List Nat → Int → Int → aj_M → Prop
  | 0, _, _, _, _ => False
  | k + 1, q0, v1, v2, m => rI v2 ∧ rI (m q0 22) ∧ ((m q0 22) ≤ v2 → K11 q0 (v1 + 1) m) ∧ (¬ ((m q0 22) ≤ v2) → (0 ≤ v2 ∧ v2 < 144) ∧ (0 ≤ (m (18 :: q0) v2.toNat) ∧ (m (18 :: q0) v2.toNat) < 60) ∧ rI (m (24 :: q0) (m (18 :: q0) v2.toNat).toNat) ∧ ((m (24 :: q0) (m (18 :: q0) v2.toNat).toNat) = 268435456 → hX12_twoColours_27 f Φ K11 k q0 v1 (v2 + 1) m) ∧ (¬ ((m (24 :: q0) (m (18 :: q0) v2.toNat).toNat) = 268435456) → (0 ≤ v2 ∧ v2 < 144) ∧ (0 ≤ (m (18 :: q0) v2.toNat) ∧ (m (18 :: q0) v2.toNat) < 60) ∧ (0 ≤ (m (24 :: q0) (m (18 :: q0) v2.toNat).toNat) ∧ (m (24 :: q0) (m (18 :: q0) v2.toNat).toNat) < 2147483648) ∧ (0 ≤ v2 ∧ v2 < 144) ∧ (0 ≤ (m (19 :: q0) v2.toNat) ∧ (m (19 :: q0) v2.toNat) < 60) ∧ (0 ≤ (m (24 :: q0) (m (19 :: q0) v2.toNat).toNat) ∧ (m (24 :: q0) (m (19 :: q0) v2.toNat).toNat) < 2147483648) ∧ rI ((m (24 :: q0) (m (18 :: q0) v2.toNat).toNat) % 2) ∧ rI ((m (24 :: q0) (m (19 :: q0) v2.toNat).toNat) % 2) ∧ (¬ ((m (24 :: q0) (m (18 :: q0) v2.toNat).toNat) % 2) = ((m (24 :: q0) (m (19 :: q0) v2.toNat).toNat) % 2) → hX12_twoColours_27 f Φ K11 k q0 v1 (v2 + 1) m) ∧ (((m (24 :: q0) (m (18 :: q0) v2.toNat).toNat) % 2) = ((m (24 :: q0) (m (19 :: q0) v2.toNat).toNat) % 2) → Φ 0 m)))
set_option maxHeartbeats 4000000 in
set_option maxRecDepth 100000 in
theorem tX12_twoColours_27 {X : aj_T} {n f : Nat} {Φ : Int → aj_M → Prop} (C : aj_Cx X cX12_twoColours RX12 3 (n + 6)) (K : aj_Rt X (some .int) (fun r m => ∃ z, r = some (vI z) ∧ Φ z m)) {K11 : List Nat → Int → aj_M → Prop} (HK11 : ∀ (q0 : List Nat) (v1 : Int) (m : aj_M) (hq0 : (.inl (12, q0) : aj_R) ∈ aj_pls), K11 q0 v1 m → aj_J X 11 [some (vO 12 q0), some (vI v1), none] [] m) : ∀ (k : Nat) (q0 : List Nat) (v1 : Int) (v2 : Int) (m : aj_M) (hq0 : (.inl (12, q0) : aj_R) ∈ aj_pls), hX12_twoColours_27 f Φ K11 k q0 v1 v2 m → aj_J X 27 [some (vO 12 q0), some (vI v1), some (vI v2)] [] m := by
  intro k
  induction k with
  | zero =>
    intro q0 v1 v2 m _ h
    exact h.elim
  | succ k ih =>
    intro q0 v1 v2 m hq0 h
    unfold hX12_twoColours_27 at h
    refine aj_iload_n C dX12_twoColours_27 rfl ?_
    refine aj_aload_n C dX12_twoColours_28 rfl ?_
    refine aj_getI C flX12_265 hq0 (by decide) dX12_twoColours_29 rfl ?_
    obtain ⟨r0, r1, h1, h2⟩ := h
    refine aj_icmp_ge (tgt := 89) C dX12_twoColours_32 (by decide) r0 r1 (fun e => ?_) (fun e => ?_)
    · have h := h1 e
      refine aj_iinc (lv' := [some (vO 12 q0), some (vI (v1 + 1)), some (vI v2)]) C dX12_twoColours_89 rfl (by decide) rfl ?_
      refine aj_goto (tgt := 11) C dX12_twoColours_92 (by decide) ?_
      refine aj_wk (lv' := [some (vO 12 q0), some (vI (v1 + 1)), none]) (⟨rfl, ⟨rfl, trivial⟩⟩) ?_
      exact HK11 q0 (v1 + 1) _ hq0 h
    · have h := h2 e
      refine aj_aload_n C dX12_twoColours_35 rfl ?_
      refine aj_getA (x := 0) (y := 60) C flX12_48 hq0 rfl dX12_twoColours_36 ?_
      refine aj_aload_n C dX12_twoColours_39 rfl ?_
      refine aj_getA (x := 0) (y := 144) C flX12_36 hq0 rfl dX12_twoColours_40 ?_
      refine aj_iload_n C dX12_twoColours_43 rfl ?_
      obtain ⟨r0, h⟩ := h
      refine aj_iald C (aj_ca (e := 0) (n := 144) (j := 18) hq0 (by decide) rfl) (by decide) r0 dX12_twoColours_44 rfl ?_
      obtain ⟨r0, h⟩ := h
      refine aj_iald C (aj_ca (e := 0) (n := 60) (j := 24) hq0 (by decide) rfl) (by decide) r0 dX12_twoColours_45 rfl ?_
      refine aj_ldcw (z := 268435456) C (wd1900) rfl dX12_twoColours_46 ?_
      obtain ⟨r0, h1, h2⟩ := h
      refine aj_icmp_eq (tgt := 83) C dX12_twoColours_49 (by decide) r0 (by decide) (fun e => ?_) (fun e => ?_)
      · have h := h1 e
        refine aj_iinc (lv' := [some (vO 12 q0), some (vI v1), some (vI (v2 + 1))]) C dX12_twoColours_83 rfl (by decide) rfl ?_
        refine aj_goto (tgt := 27) C dX12_twoColours_86 (by decide) ?_
        exact ih q0 v1 (v2 + 1) _ hq0 h
      · have h := h2 e
        refine aj_aload_n C dX12_twoColours_52 rfl ?_
        refine aj_getA (x := 0) (y := 60) C flX12_48 hq0 rfl dX12_twoColours_53 ?_
        refine aj_aload_n C dX12_twoColours_56 rfl ?_
        refine aj_getA (x := 0) (y := 144) C flX12_36 hq0 rfl dX12_twoColours_57 ?_
        refine aj_iload_n C dX12_twoColours_60 rfl ?_
        obtain ⟨r0, h⟩ := h
        refine aj_iald C (aj_ca (e := 0) (n := 144) (j := 18) hq0 (by decide) rfl) (by decide) r0 dX12_twoColours_61 rfl ?_
        obtain ⟨r0, h⟩ := h
        refine aj_iald C (aj_ca (e := 0) (n := 60) (j := 24) hq0 (by decide) rfl) (by decide) r0 dX12_twoColours_62 rfl ?_
        refine aj_iconst C dX12_twoColours_63 ?_
        obtain ⟨r0, h⟩ := h
        refine aj_iremN C dX12_twoColours_64 r0 (by decide) ?_
        refine aj_aload_n C dX12_twoColours_65 rfl ?_
        refine aj_getA (x := 0) (y := 60) C flX12_48 hq0 rfl dX12_twoColours_66 ?_
        refine aj_aload_n C dX12_twoColours_69 rfl ?_
        refine aj_getA (x := 0) (y := 144) C flX12_39 hq0 rfl dX12_twoColours_70 ?_
        refine aj_iload_n C dX12_twoColours_73 rfl ?_
        obtain ⟨r0, h⟩ := h
        refine aj_iald C (aj_ca (e := 0) (n := 144) (j := 19) hq0 (by decide) rfl) (by decide) r0 dX12_twoColours_74 rfl ?_
        obtain ⟨r0, h⟩ := h
        refine aj_iald C (aj_ca (e := 0) (n := 60) (j := 24) hq0 (by decide) rfl) (by decide) r0 dX12_twoColours_75 rfl ?_
        refine aj_iconst C dX12_twoColours_76 ?_
        obtain ⟨r0, h⟩ := h
        refine aj_iremN C dX12_twoColours_77 r0 (by decide) ?_
        obtain ⟨r0, r1, h1, h2⟩ := h
        refine aj_icmp_ne (tgt := 83) C dX12_twoColours_78 (by decide) r0 r1 (fun e => ?_) (fun e => ?_)
        · have h := h1 e
          refine aj_iinc (lv' := [some (vO 12 q0), some (vI v1), some (vI (v2 + 1))]) C dX12_twoColours_83 rfl (by decide) rfl ?_
          refine aj_goto (tgt := 27) C dX12_twoColours_86 (by decide) ?_
          exact ih q0 v1 (v2 + 1) _ hq0 h
        · have h := h2 e
          refine aj_iconst C dX12_twoColours_81 ?_
          exact aj_iret C K dX12_twoColours_82 ⟨_, rfl, h⟩
def hX12_twoColours_11 (f : Nat) (Φ : Int → aj_M → Prop) : Nat → List Nat → Int → aj_M → Prop
  | 0, _, _, _ => False
  | k + 1, q0, v1, m => rI v1 ∧ rI (m q0 23) ∧ ((m q0 23) ≤ v1 → Φ 1 m) ∧ (¬ ((m q0 23) ≤ v1) → wX12_laysFar f (fun z1 m1 => hX12_twoColours_27 f Φ (fun q0 v1 m => hX12_twoColours_11 f Φ k q0 v1 m) f q0 v1 0 m1) q0 v1 m)
set_option maxHeartbeats 4000000 in
set_option maxRecDepth 100000 in
theorem tX12_twoColours_11 {X : aj_T} {n f : Nat} {Φ : Int → aj_M → Prop} (C : aj_Cx X cX12_twoColours RX12 3 (n + 6)) (K : aj_Rt X (some .int) (fun r m => ∃ z, r = some (vI z) ∧ Φ z m)) : ∀ (k : Nat) (q0 : List Nat) (v1 : Int) (m : aj_M) (hq0 : (.inl (12, q0) : aj_R) ∈ aj_pls), hX12_twoColours_11 f Φ k q0 v1 m → aj_J X 11 [some (vO 12 q0), some (vI v1), none] [] m := by
  intro k
  induction k with
  | zero =>
    intro q0 v1 m _ h
    exact h.elim
  | succ k ih =>
    intro q0 v1 m hq0 h
    unfold hX12_twoColours_11 at h
    refine aj_iload_n C dX12_twoColours_11 rfl ?_
    refine aj_aload_n C dX12_twoColours_12 rfl ?_
    refine aj_getI C flX12_271 hq0 (by decide) dX12_twoColours_13 rfl ?_
    obtain ⟨r0, r1, h1, h2⟩ := h
    refine aj_icmp_ge (tgt := 95) C dX12_twoColours_16 (by decide) r0 r1 (fun e => ?_) (fun e => ?_)
    · have h := h1 e
      refine aj_iconst C dX12_twoColours_95 ?_
      exact aj_iret C K dX12_twoColours_96 ⟨_, rfl, h⟩
    · have h := h2 e
      refine aj_aload_n C dX12_twoColours_19 rfl ?_
      refine aj_iload_n C dX12_twoColours_20 rfl ?_
      refine aj_callV (rest := []) C mvX12_285 (sX12_laysFar hq0 h) hq0 (aj_np 1 (by decide +kernel) rfl) (Nat.le_of_ble_eq_true rfl) rfl dX12_twoColours_21 (fun r m1 h => ?_)
      obtain ⟨z1, rfl, h⟩ := h
      refine aj_pop C aj_nI dX12_twoColours_24 ?_
      refine aj_iconst C dX12_twoColours_25 ?_
      refine aj_istore_n (lv' := [some (vO 12 q0), some (vI v1), some (vI 0)]) C dX12_twoColours_26 (by decide) rfl ?_
      exact tX12_twoColours_27 C K (fun q0 v1 m hq0 hh => ih q0 v1 m hq0 hh) f q0 v1 0 _ hq0 h
def wX12_twoColours (f : Nat) (Φ : Int → aj_M → Prop) (q0 : List Nat) (m : aj_M) : Prop := ∀ m1, m1 = aj_u m q0 0 0 → wX12_laysNet f (fun m2 => hX12_twoColours_11 f Φ f q0 0 m2) q0 m1
set_option maxHeartbeats 4000000 in
set_option maxRecDepth 100000 in
theorem sX12_twoColours {n f : Nat} {Φ : Int → aj_M → Prop} {q0 : List Nat} {m : aj_M} (hq0 : (.inl (12, q0) : aj_R) ∈ aj_pls) (h : wX12_twoColours f Φ q0 m) : aj_Ct (n + 6) yX12_twoColours cX12_twoColours 3 (some .int) [vO 12 q0] m (fun r m => ∃ z, r = some (vI z) ∧ Φ z m) := by
  refine aj_met (lv := [some (vO 12 q0), none, none]) (by decide +kernel) rfl (Nat.le_of_ble_eq_true rfl) (fun X C K => ?_)
  unfold wX12_twoColours at h
  refine aj_aload_n C dX12_twoColours_0 rfl ?_
  refine aj_iconst C dX12_twoColours_1 ?_
  refine aj_putI C fpX12_1 hq0 rfl dX12_twoColours_2 ?_
  refine aj_nm (fun m1 e1 => ?_)
  have h := h m1 e1
  refine aj_aload_n C dX12_twoColours_5 rfl ?_
  refine aj_callV (rest := []) C mvX12_336 (sX12_laysNet hq0 h) hq0 (aj_np 0 (by decide +kernel) rfl) (Nat.le_of_ble_eq_true rfl) rfl dX12_twoColours_6 (fun r m2 h => ?_)
  obtain ⟨rfl, h⟩ := h
  refine aj_iconst C dX12_twoColours_9 ?_
  refine aj_istore_n (lv' := [some (vO 12 q0), some (vI 0), none]) C dX12_twoColours_10 (by decide) rfl ?_
  exact tX12_twoColours_11 C K f q0 0 _ hq0 h
theorem dX12_far_0 : decode cX12_far 0 = .ok (.aload_n 0, 1) := by decide +kernel
theorem dX12_far_1 : decode cX12_far 1 = .ok (.iconst 0, 1) := by decide +kernel
theorem dX12_far_2 : decode cX12_far 2 = .ok (.putfield 1, 3) := by decide +kernel
theorem dX12_far_5 : decode cX12_far 5 = .ok (.aload_n 0, 1) := by decide +kernel
theorem dX12_far_6 : decode cX12_far 6 = .ok (.iload_n 1, 1) := by decide +kernel
theorem dX12_far_7 : decode cX12_far 7 = .ok (.i2l, 1) := by decide +kernel
theorem dX12_far_8 : decode cX12_far 8 = .ok (.invokevirtual 360, 3) := by decide +kernel
theorem dX12_far_11 : decode cX12_far 11 = .ok (.ifCond .eq 12, 3) := by decide +kernel
theorem dX12_far_14 : decode cX12_far 14 = .ok (.aload_n 0, 1) := by decide +kernel
theorem dX12_far_15 : decode cX12_far 15 = .ok (.iload_n 2, 1) := by decide +kernel
theorem dX12_far_16 : decode cX12_far 16 = .ok (.i2l, 1) := by decide +kernel
theorem dX12_far_17 : decode cX12_far 17 = .ok (.invokevirtual 360, 3) := by decide +kernel
theorem dX12_far_20 : decode cX12_far 20 = .ok (.ifCond .ne 6, 3) := by decide +kernel
theorem dX12_far_23 : decode cX12_far 23 = .ok (.bipush (-2), 2) := by decide +kernel
theorem dX12_far_25 : decode cX12_far 25 = .ok (.ireturn, 1) := by decide +kernel
theorem dX12_far_26 : decode cX12_far 26 = .ok (.aload_n 0, 1) := by decide +kernel
theorem dX12_far_27 : decode cX12_far 27 = .ok (.invokevirtual 336, 3) := by decide +kernel
theorem dX12_far_30 : decode cX12_far 30 = .ok (.aload_n 0, 1) := by decide +kernel
theorem dX12_far_31 : decode cX12_far 31 = .ok (.iload_n 1, 1) := by decide +kernel
theorem dX12_far_32 : decode cX12_far 32 = .ok (.invokevirtual 285, 3) := by decide +kernel
theorem dX12_far_35 : decode cX12_far 35 = .ok (.pop, 1) := by decide +kernel
theorem dX12_far_36 : decode cX12_far 36 = .ok (.aload_n 0, 1) := by decide +kernel
theorem dX12_far_37 : decode cX12_far 37 = .ok (.getfield 48, 3) := by decide +kernel
theorem dX12_far_40 : decode cX12_far 40 = .ok (.iload_n 2, 1) := by decide +kernel
theorem dX12_far_41 : decode cX12_far 41 = .ok (.iaload, 1) := by decide +kernel
theorem dX12_far_42 : decode cX12_far 42 = .ok (.invokestatic 345, 3) := by decide +kernel
theorem dX12_far_45 : decode cX12_far 45 = .ok (.ireturn, 1) := by decide +kernel
def wX12_far (f : Nat) (Φ : Int → aj_M → Prop) (q0 : List Nat) (v1 : Int) (v2 : Int) (m : aj_M) : Prop := ∀ m1, m1 = aj_u m q0 0 0 → rI v1 ∧ wX12_isNode f (fun z1 m2 => rI z1 ∧ (z1 = 0 → Φ (-2) m2) ∧ (¬ (z1 = 0) → rI v2 ∧ wX12_isNode f (fun z2 m3 => rI z2 ∧ (¬ z2 = 0 → wX12_laysNet f (fun m4 => wX12_laysFar f (fun z4 m5 => (0 ≤ v2 ∧ v2 < 60) ∧ wX12_toldFar f (fun z5 m6 => Φ z5 m6) (m5 (24 :: q0) v2.toNat) m5) q0 v1 m4) q0 m3) ∧ (z2 = 0 → Φ (-2) m3)) q0 v2 m2)) q0 v1 m1
set_option maxHeartbeats 4000000 in
set_option maxRecDepth 100000 in
theorem sX12_far {n f : Nat} {Φ : Int → aj_M → Prop} {q0 : List Nat} {v1 : Int} {v2 : Int} {m : aj_M} (hq0 : (.inl (12, q0) : aj_R) ∈ aj_pls) (h : wX12_far f Φ q0 v1 v2 m) : aj_Ct (n + 6) yX12_far cX12_far 3 (some .int) [vO 12 q0, vI v1, vI v2] m (fun r m => ∃ z, r = some (vI z) ∧ Φ z m) := by
  refine aj_met (lv := [some (vO 12 q0), some (vI v1), some (vI v2)]) (by decide +kernel) rfl (Nat.le_of_ble_eq_true rfl) (fun X C K => ?_)
  unfold wX12_far at h
  refine aj_aload_n C dX12_far_0 rfl ?_
  refine aj_iconst C dX12_far_1 ?_
  refine aj_putI C fpX12_1 hq0 rfl dX12_far_2 ?_
  refine aj_nm (fun m1 e1 => ?_)
  have h := h m1 e1
  refine aj_aload_n C dX12_far_5 rfl ?_
  refine aj_iload_n C dX12_far_6 rfl ?_
  obtain ⟨r0, h⟩ := h
  refine aj_i2l C dX12_far_7 r0 ?_
  refine aj_callV (rest := []) C mvX12_360 (sX12_isNode hq0 h) hq0 (aj_np 1 (by decide +kernel) rfl) (Nat.le_of_ble_eq_true rfl) rfl dX12_far_8 (fun r m2 h => ?_)
  obtain ⟨z1, rfl, h⟩ := h
  obtain ⟨r0, h1, h2⟩ := h
  refine aj_if_eq (tgt := 23) C dX12_far_11 (by decide) r0 (fun e => ?_) (fun e => ?_)
  · have h := h1 e
    refine aj_bipush C dX12_far_23 (by decide) ?_
    exact aj_iret C K dX12_far_25 ⟨_, rfl, h⟩
  · have h := h2 e
    refine aj_aload_n C dX12_far_14 rfl ?_
    refine aj_iload_n C dX12_far_15 rfl ?_
    obtain ⟨r0, h⟩ := h
    refine aj_i2l C dX12_far_16 r0 ?_
    refine aj_callV (rest := []) C mvX12_360 (sX12_isNode hq0 h) hq0 (aj_np 1 (by decide +kernel) rfl) (Nat.le_of_ble_eq_true rfl) rfl dX12_far_17 (fun r m3 h => ?_)
    obtain ⟨z2, rfl, h⟩ := h
    obtain ⟨r0, h1, h2⟩ := h
    refine aj_if_ne (tgt := 26) C dX12_far_20 (by decide) r0 (fun e => ?_) (fun e => ?_)
    · have h := h1 e
      refine aj_aload_n C dX12_far_26 rfl ?_
      refine aj_callV (rest := []) C mvX12_336 (sX12_laysNet hq0 h) hq0 (aj_np 0 (by decide +kernel) rfl) (Nat.le_of_ble_eq_true rfl) rfl dX12_far_27 (fun r m4 h => ?_)
      obtain ⟨rfl, h⟩ := h
      refine aj_aload_n C dX12_far_30 rfl ?_
      refine aj_iload_n C dX12_far_31 rfl ?_
      refine aj_callV (rest := []) C mvX12_285 (sX12_laysFar hq0 h) hq0 (aj_np 1 (by decide +kernel) rfl) (Nat.le_of_ble_eq_true rfl) rfl dX12_far_32 (fun r m5 h => ?_)
      obtain ⟨z4, rfl, h⟩ := h
      refine aj_pop C aj_nI dX12_far_35 ?_
      refine aj_aload_n C dX12_far_36 rfl ?_
      refine aj_getA (x := 0) (y := 60) C flX12_48 hq0 rfl dX12_far_37 ?_
      refine aj_iload_n C dX12_far_40 rfl ?_
      obtain ⟨r0, h⟩ := h
      refine aj_iald C (aj_ca (e := 0) (n := 60) (j := 24) hq0 (by decide) rfl) (by decide) r0 dX12_far_41 rfl ?_
      refine aj_callS (rest := []) C msX12_345 (sX12_toldFar  h) (aj_np 1 (by decide +kernel) rfl) (Nat.le_of_ble_eq_true rfl) rfl dX12_far_42 (fun r m6 h => ?_)
      obtain ⟨z5, rfl, h⟩ := h
      exact aj_iret C K dX12_far_45 ⟨_, rfl, h⟩
    · have h := h2 e
      refine aj_bipush C dX12_far_23 (by decide) ?_
      exact aj_iret C K dX12_far_25 ⟨_, rfl, h⟩
theorem dX12_diameter_0 : decode cX12_diameter 0 = .ok (.aload_n 0, 1) := by decide +kernel
theorem dX12_diameter_1 : decode cX12_diameter 1 = .ok (.iconst 0, 1) := by decide +kernel
theorem dX12_diameter_2 : decode cX12_diameter 2 = .ok (.putfield 1, 3) := by decide +kernel
theorem dX12_diameter_5 : decode cX12_diameter 5 = .ok (.aload_n 0, 1) := by decide +kernel
theorem dX12_diameter_6 : decode cX12_diameter 6 = .ok (.invokevirtual 336, 3) := by decide +kernel
theorem dX12_diameter_9 : decode cX12_diameter 9 = .ok (.iconst 0, 1) := by decide +kernel
theorem dX12_diameter_10 : decode cX12_diameter 10 = .ok (.istore_n 1, 1) := by decide +kernel
theorem dX12_diameter_11 : decode cX12_diameter 11 = .ok (.iconst 0, 1) := by decide +kernel
theorem dX12_diameter_12 : decode cX12_diameter 12 = .ok (.istore_n 2, 1) := by decide +kernel
theorem dX12_diameter_13 : decode cX12_diameter 13 = .ok (.iload_n 2, 1) := by decide +kernel
theorem dX12_diameter_14 : decode cX12_diameter 14 = .ok (.aload_n 0, 1) := by decide +kernel
theorem dX12_diameter_15 : decode cX12_diameter 15 = .ok (.getfield 271, 3) := by decide +kernel
theorem dX12_diameter_18 : decode cX12_diameter 18 = .ok (.if_icmp .ge 60, 3) := by decide +kernel
theorem dX12_diameter_21 : decode cX12_diameter 21 = .ok (.aload_n 0, 1) := by decide +kernel
theorem dX12_diameter_22 : decode cX12_diameter 22 = .ok (.iload_n 2, 1) := by decide +kernel
theorem dX12_diameter_23 : decode cX12_diameter 23 = .ok (.invokevirtual 285, 3) := by decide +kernel
theorem dX12_diameter_26 : decode cX12_diameter 26 = .ok (.istore_n 3, 1) := by decide +kernel
theorem dX12_diameter_27 : decode cX12_diameter 27 = .ok (.iload_n 3, 1) := by decide +kernel
theorem dX12_diameter_28 : decode cX12_diameter 28 = .ok (.aload_n 0, 1) := by decide +kernel
theorem dX12_diameter_29 : decode cX12_diameter 29 = .ok (.getfield 271, 3) := by decide +kernel
theorem dX12_diameter_32 : decode cX12_diameter 32 = .ok (.if_icmp .ge 5, 3) := by decide +kernel
theorem dX12_diameter_35 : decode cX12_diameter 35 = .ok (.iconst (-1), 1) := by decide +kernel
theorem dX12_diameter_36 : decode cX12_diameter 36 = .ok (.ireturn, 1) := by decide +kernel
theorem dX12_diameter_37 : decode cX12_diameter 37 = .ok (.aload_n 0, 1) := by decide +kernel
theorem dX12_diameter_38 : decode cX12_diameter 38 = .ok (.getfield 48, 3) := by decide +kernel
theorem dX12_diameter_41 : decode cX12_diameter 41 = .ok (.aload_n 0, 1) := by decide +kernel
theorem dX12_diameter_42 : decode cX12_diameter 42 = .ok (.getfield 54, 3) := by decide +kernel
theorem dX12_diameter_45 : decode cX12_diameter 45 = .ok (.iload_n 3, 1) := by decide +kernel
theorem dX12_diameter_46 : decode cX12_diameter 46 = .ok (.iconst 1, 1) := by decide +kernel
theorem dX12_diameter_47 : decode cX12_diameter 47 = .ok (.isub, 1) := by decide +kernel
theorem dX12_diameter_48 : decode cX12_diameter 48 = .ok (.iaload, 1) := by decide +kernel
theorem dX12_diameter_49 : decode cX12_diameter 49 = .ok (.iaload, 1) := by decide +kernel
theorem dX12_diameter_50 : decode cX12_diameter 50 = .ok (.iload_n 1, 1) := by decide +kernel
theorem dX12_diameter_51 : decode cX12_diameter 51 = .ok (.if_icmp .le 19, 3) := by decide +kernel
theorem dX12_diameter_54 : decode cX12_diameter 54 = .ok (.aload_n 0, 1) := by decide +kernel
theorem dX12_diameter_55 : decode cX12_diameter 55 = .ok (.getfield 48, 3) := by decide +kernel
theorem dX12_diameter_58 : decode cX12_diameter 58 = .ok (.aload_n 0, 1) := by decide +kernel
theorem dX12_diameter_59 : decode cX12_diameter 59 = .ok (.getfield 54, 3) := by decide +kernel
theorem dX12_diameter_62 : decode cX12_diameter 62 = .ok (.iload_n 3, 1) := by decide +kernel
theorem dX12_diameter_63 : decode cX12_diameter 63 = .ok (.iconst 1, 1) := by decide +kernel
theorem dX12_diameter_64 : decode cX12_diameter 64 = .ok (.isub, 1) := by decide +kernel
theorem dX12_diameter_65 : decode cX12_diameter 65 = .ok (.iaload, 1) := by decide +kernel
theorem dX12_diameter_66 : decode cX12_diameter 66 = .ok (.iaload, 1) := by decide +kernel
theorem dX12_diameter_67 : decode cX12_diameter 67 = .ok (.goto 4, 3) := by decide +kernel
theorem dX12_diameter_70 : decode cX12_diameter 70 = .ok (.iload_n 1, 1) := by decide +kernel
theorem dX12_diameter_71 : decode cX12_diameter 71 = .ok (.istore_n 1, 1) := by decide +kernel
theorem dX12_diameter_72 : decode cX12_diameter 72 = .ok (.iinc 2 1, 3) := by decide +kernel
theorem dX12_diameter_75 : decode cX12_diameter 75 = .ok (.goto (-62), 3) := by decide +kernel
theorem dX12_diameter_78 : decode cX12_diameter 78 = .ok (.iload_n 1, 1) := by decide +kernel
theorem dX12_diameter_79 : decode cX12_diameter 79 = .ok (.ireturn, 1) := by decide +kernel
def hX12_diameter_13 (f : Nat) (Φ : Int → aj_M → Prop) : Nat → List Nat → Int → Int → aj_M → Prop
  | 0, _, _, _, _ => False
  | k + 1, q0, v1, v2, m => rI v2 ∧ rI (m q0 23) ∧ ((m q0 23) ≤ v2 → Φ v1 m) ∧ (¬ ((m q0 23) ≤ v2) → wX12_laysFar f (fun z1 m1 => rI z1 ∧ rI (m1 q0 23) ∧ ((m1 q0 23) ≤ z1 → (0 ≤ (z1 - 1) ∧ (z1 - 1) < 60) ∧ (0 ≤ (m1 (26 :: q0) (z1 - 1).toNat) ∧ (m1 (26 :: q0) (z1 - 1).toNat) < 60) ∧ rI (m1 (24 :: q0) (m1 (26 :: q0) (z1 - 1).toNat).toNat) ∧ rI v1 ∧ ((m1 (24 :: q0) (m1 (26 :: q0) (z1 - 1).toNat).toNat) ≤ v1 → hX12_diameter_13 f Φ k q0 v1 (v2 + 1) m1) ∧ (¬ ((m1 (24 :: q0) (m1 (26 :: q0) (z1 - 1).toNat).toNat) ≤ v1) → (0 ≤ (z1 - 1) ∧ (z1 - 1) < 60) ∧ (0 ≤ (m1 (26 :: q0) (z1 - 1).toNat) ∧ (m1 (26 :: q0) (z1 - 1).toNat) < 60) ∧ hX12_diameter_13 f Φ k q0 (m1 (24 :: q0) (m1 (26 :: q0) (z1 - 1).toNat).toNat) (v2 + 1) m1)) ∧ (¬ ((m1 q0 23) ≤ z1) → Φ (-1) m1)) q0 v2 m)
set_option maxHeartbeats 4000000 in
set_option maxRecDepth 100000 in
theorem tX12_diameter_13 {X : aj_T} {n f : Nat} {Φ : Int → aj_M → Prop} (C : aj_Cx X cX12_diameter RX12 4 (n + 6)) (K : aj_Rt X (some .int) (fun r m => ∃ z, r = some (vI z) ∧ Φ z m)) : ∀ (k : Nat) (q0 : List Nat) (v1 : Int) (v2 : Int) (m : aj_M) (hq0 : (.inl (12, q0) : aj_R) ∈ aj_pls), hX12_diameter_13 f Φ k q0 v1 v2 m → aj_J X 13 [some (vO 12 q0), some (vI v1), some (vI v2), none] [] m := by
  intro k
  induction k with
  | zero =>
    intro q0 v1 v2 m _ h
    exact h.elim
  | succ k ih =>
    intro q0 v1 v2 m hq0 h
    unfold hX12_diameter_13 at h
    refine aj_iload_n C dX12_diameter_13 rfl ?_
    refine aj_aload_n C dX12_diameter_14 rfl ?_
    refine aj_getI C flX12_271 hq0 (by decide) dX12_diameter_15 rfl ?_
    obtain ⟨r0, r1, h1, h2⟩ := h
    refine aj_icmp_ge (tgt := 78) C dX12_diameter_18 (by decide) r0 r1 (fun e => ?_) (fun e => ?_)
    · have h := h1 e
      refine aj_iload_n C dX12_diameter_78 rfl ?_
      exact aj_iret C K dX12_diameter_79 ⟨_, rfl, h⟩
    · have h := h2 e
      refine aj_aload_n C dX12_diameter_21 rfl ?_
      refine aj_iload_n C dX12_diameter_22 rfl ?_
      refine aj_callV (rest := []) C mvX12_285 (sX12_laysFar hq0 h) hq0 (aj_np 1 (by decide +kernel) rfl) (Nat.le_of_ble_eq_true rfl) rfl dX12_diameter_23 (fun r m1 h => ?_)
      obtain ⟨z1, rfl, h⟩ := h
      refine aj_istore_n (lv' := [some (vO 12 q0), some (vI v1), some (vI v2), some (vI z1)]) C dX12_diameter_26 (by decide) rfl ?_
      refine aj_iload_n C dX12_diameter_27 rfl ?_
      refine aj_aload_n C dX12_diameter_28 rfl ?_
      refine aj_getI C flX12_271 hq0 (by decide) dX12_diameter_29 rfl ?_
      obtain ⟨r0, r1, h1, h2⟩ := h
      refine aj_icmp_ge (tgt := 37) C dX12_diameter_32 (by decide) r0 r1 (fun e => ?_) (fun e => ?_)
      · have h := h1 e
        refine aj_aload_n C dX12_diameter_37 rfl ?_
        refine aj_getA (x := 0) (y := 60) C flX12_48 hq0 rfl dX12_diameter_38 ?_
        refine aj_aload_n C dX12_diameter_41 rfl ?_
        refine aj_getA (x := 0) (y := 60) C flX12_54 hq0 rfl dX12_diameter_42 ?_
        refine aj_iload_n C dX12_diameter_45 rfl ?_
        refine aj_iconst C dX12_diameter_46 ?_
        refine aj_isub C dX12_diameter_47 ?_
        obtain ⟨r0, h⟩ := h
        refine aj_iald C (aj_ca (e := 0) (n := 60) (j := 26) hq0 (by decide) rfl) (by decide) r0 dX12_diameter_48 rfl ?_
        obtain ⟨r0, h⟩ := h
        refine aj_iald C (aj_ca (e := 0) (n := 60) (j := 24) hq0 (by decide) rfl) (by decide) r0 dX12_diameter_49 rfl ?_
        refine aj_iload_n C dX12_diameter_50 rfl ?_
        obtain ⟨r0, r1, h1, h2⟩ := h
        refine aj_icmp_le (tgt := 70) C dX12_diameter_51 (by decide) r0 r1 (fun e => ?_) (fun e => ?_)
        · have h := h1 e
          refine aj_iload_n C dX12_diameter_70 rfl ?_
          refine aj_istore_n (lv' := [some (vO 12 q0), some (vI v1), some (vI v2), some (vI z1)]) C dX12_diameter_71 (by decide) rfl ?_
          refine aj_iinc (lv' := [some (vO 12 q0), some (vI v1), some (vI (v2 + 1)), some (vI z1)]) C dX12_diameter_72 rfl (by decide) rfl ?_
          refine aj_goto (tgt := 13) C dX12_diameter_75 (by decide) ?_
          refine aj_wk (lv' := [some (vO 12 q0), some (vI v1), some (vI (v2 + 1)), none]) (⟨rfl, ⟨rfl, ⟨rfl, trivial⟩⟩⟩) ?_
          exact ih q0 v1 (v2 + 1) _ hq0 h
        · have h := h2 e
          refine aj_aload_n C dX12_diameter_54 rfl ?_
          refine aj_getA (x := 0) (y := 60) C flX12_48 hq0 rfl dX12_diameter_55 ?_
          refine aj_aload_n C dX12_diameter_58 rfl ?_
          refine aj_getA (x := 0) (y := 60) C flX12_54 hq0 rfl dX12_diameter_59 ?_
          refine aj_iload_n C dX12_diameter_62 rfl ?_
          refine aj_iconst C dX12_diameter_63 ?_
          refine aj_isub C dX12_diameter_64 ?_
          obtain ⟨r0, h⟩ := h
          refine aj_iald C (aj_ca (e := 0) (n := 60) (j := 26) hq0 (by decide) rfl) (by decide) r0 dX12_diameter_65 rfl ?_
          obtain ⟨r0, h⟩ := h
          refine aj_iald C (aj_ca (e := 0) (n := 60) (j := 24) hq0 (by decide) rfl) (by decide) r0 dX12_diameter_66 rfl ?_
          refine aj_goto (tgt := 71) C dX12_diameter_67 (by decide) ?_
          refine aj_istore_n (lv' := [some (vO 12 q0), some (vI (m1 (24 :: q0) (m1 (26 :: q0) (z1 - 1).toNat).toNat)), some (vI v2), some (vI z1)]) C dX12_diameter_71 (by decide) rfl ?_
          refine aj_iinc (lv' := [some (vO 12 q0), some (vI (m1 (24 :: q0) (m1 (26 :: q0) (z1 - 1).toNat).toNat)), some (vI (v2 + 1)), some (vI z1)]) C dX12_diameter_72 rfl (by decide) rfl ?_
          refine aj_goto (tgt := 13) C dX12_diameter_75 (by decide) ?_
          refine aj_wk (lv' := [some (vO 12 q0), some (vI (m1 (24 :: q0) (m1 (26 :: q0) (z1 - 1).toNat).toNat)), some (vI (v2 + 1)), none]) (⟨rfl, ⟨rfl, ⟨rfl, trivial⟩⟩⟩) ?_
          exact ih q0 (m1 (24 :: q0) (m1 (26 :: q0) (z1 - 1).toNat).toNat) (v2 + 1) _ hq0 h
      · have h := h2 e
        refine aj_iconst C dX12_diameter_35 ?_
        exact aj_iret C K dX12_diameter_36 ⟨_, rfl, h⟩
def wX12_diameter (f : Nat) (Φ : Int → aj_M → Prop) (q0 : List Nat) (m : aj_M) : Prop := ∀ m1, m1 = aj_u m q0 0 0 → wX12_laysNet f (fun m2 => hX12_diameter_13 f Φ f q0 0 0 m2) q0 m1
set_option maxHeartbeats 4000000 in
set_option maxRecDepth 100000 in
theorem sX12_diameter {n f : Nat} {Φ : Int → aj_M → Prop} {q0 : List Nat} {m : aj_M} (hq0 : (.inl (12, q0) : aj_R) ∈ aj_pls) (h : wX12_diameter f Φ q0 m) : aj_Ct (n + 6) yX12_diameter cX12_diameter 4 (some .int) [vO 12 q0] m (fun r m => ∃ z, r = some (vI z) ∧ Φ z m) := by
  refine aj_met (lv := [some (vO 12 q0), none, none, none]) (by decide +kernel) rfl (Nat.le_of_ble_eq_true rfl) (fun X C K => ?_)
  unfold wX12_diameter at h
  refine aj_aload_n C dX12_diameter_0 rfl ?_
  refine aj_iconst C dX12_diameter_1 ?_
  refine aj_putI C fpX12_1 hq0 rfl dX12_diameter_2 ?_
  refine aj_nm (fun m1 e1 => ?_)
  have h := h m1 e1
  refine aj_aload_n C dX12_diameter_5 rfl ?_
  refine aj_callV (rest := []) C mvX12_336 (sX12_laysNet hq0 h) hq0 (aj_np 0 (by decide +kernel) rfl) (Nat.le_of_ble_eq_true rfl) rfl dX12_diameter_6 (fun r m2 h => ?_)
  obtain ⟨rfl, h⟩ := h
  refine aj_iconst C dX12_diameter_9 ?_
  refine aj_istore_n (lv' := [some (vO 12 q0), some (vI 0), none, none]) C dX12_diameter_10 (by decide) rfl ?_
  refine aj_iconst C dX12_diameter_11 ?_
  refine aj_istore_n (lv' := [some (vO 12 q0), some (vI 0), some (vI 0), none]) C dX12_diameter_12 (by decide) rfl ?_
  exact tX12_diameter_13 C K f q0 0 0 _ hq0 h
theorem dX12_ball_0 : decode cX12_ball 0 = .ok (.aload_n 0, 1) := by decide +kernel
theorem dX12_ball_1 : decode cX12_ball 1 = .ok (.iconst 0, 1) := by decide +kernel
theorem dX12_ball_2 : decode cX12_ball 2 = .ok (.putfield 1, 3) := by decide +kernel
theorem dX12_ball_5 : decode cX12_ball 5 = .ok (.aload_n 0, 1) := by decide +kernel
theorem dX12_ball_6 : decode cX12_ball 6 = .ok (.iload_n 1, 1) := by decide +kernel
theorem dX12_ball_7 : decode cX12_ball 7 = .ok (.i2l, 1) := by decide +kernel
theorem dX12_ball_8 : decode cX12_ball 8 = .ok (.invokevirtual 360, 3) := by decide +kernel
theorem dX12_ball_11 : decode cX12_ball 11 = .ok (.ifCond .ne 6, 3) := by decide +kernel
theorem dX12_ball_14 : decode cX12_ball 14 = .ok (.bipush (-2), 2) := by decide +kernel
theorem dX12_ball_16 : decode cX12_ball 16 = .ok (.ireturn, 1) := by decide +kernel
theorem dX12_ball_17 : decode cX12_ball 17 = .ok (.iload_n 2, 1) := by decide +kernel
theorem dX12_ball_18 : decode cX12_ball 18 = .ok (.i2l, 1) := by decide +kernel
theorem dX12_ball_19 : decode cX12_ball 19 = .ok (.lconst 0, 1) := by decide +kernel
theorem dX12_ball_20 : decode cX12_ball 20 = .ok (.ldc2_w 369, 3) := by decide +kernel
theorem dX12_ball_23 : decode cX12_ball 23 = .ok (.invokestatic 154, 3) := by decide +kernel
theorem dX12_ball_26 : decode cX12_ball 26 = .ok (.ifCond .ne 6, 3) := by decide +kernel
theorem dX12_ball_29 : decode cX12_ball 29 = .ok (.bipush (-3), 2) := by decide +kernel
theorem dX12_ball_31 : decode cX12_ball 31 = .ok (.ireturn, 1) := by decide +kernel
theorem dX12_ball_32 : decode cX12_ball 32 = .ok (.aload_n 0, 1) := by decide +kernel
theorem dX12_ball_33 : decode cX12_ball 33 = .ok (.invokevirtual 336, 3) := by decide +kernel
theorem dX12_ball_36 : decode cX12_ball 36 = .ok (.aload_n 0, 1) := by decide +kernel
theorem dX12_ball_37 : decode cX12_ball 37 = .ok (.iload_n 1, 1) := by decide +kernel
theorem dX12_ball_38 : decode cX12_ball 38 = .ok (.invokevirtual 285, 3) := by decide +kernel
theorem dX12_ball_41 : decode cX12_ball 41 = .ok (.pop, 1) := by decide +kernel
theorem dX12_ball_42 : decode cX12_ball 42 = .ok (.iconst 0, 1) := by decide +kernel
theorem dX12_ball_43 : decode cX12_ball 43 = .ok (.istore_n 3, 1) := by decide +kernel
theorem dX12_ball_44 : decode cX12_ball 44 = .ok (.iconst 0, 1) := by decide +kernel
theorem dX12_ball_45 : decode cX12_ball 45 = .ok (.istore 4, 2) := by decide +kernel
theorem dX12_ball_47 : decode cX12_ball 47 = .ok (.iload 4, 2) := by decide +kernel
theorem dX12_ball_49 : decode cX12_ball 49 = .ok (.aload_n 0, 1) := by decide +kernel
theorem dX12_ball_50 : decode cX12_ball 50 = .ok (.getfield 271, 3) := by decide +kernel
theorem dX12_ball_53 : decode cX12_ball 53 = .ok (.if_icmp .ge 28, 3) := by decide +kernel
theorem dX12_ball_56 : decode cX12_ball 56 = .ok (.iload_n 3, 1) := by decide +kernel
theorem dX12_ball_57 : decode cX12_ball 57 = .ok (.aload_n 0, 1) := by decide +kernel
theorem dX12_ball_58 : decode cX12_ball 58 = .ok (.getfield 48, 3) := by decide +kernel
theorem dX12_ball_61 : decode cX12_ball 61 = .ok (.iload 4, 2) := by decide +kernel
theorem dX12_ball_63 : decode cX12_ball 63 = .ok (.iaload, 1) := by decide +kernel
theorem dX12_ball_64 : decode cX12_ball 64 = .ok (.iload_n 2, 1) := by decide +kernel
theorem dX12_ball_65 : decode cX12_ball 65 = .ok (.if_icmp .gt 7, 3) := by decide +kernel
theorem dX12_ball_68 : decode cX12_ball 68 = .ok (.iconst 1, 1) := by decide +kernel
theorem dX12_ball_69 : decode cX12_ball 69 = .ok (.goto 4, 3) := by decide +kernel
theorem dX12_ball_72 : decode cX12_ball 72 = .ok (.iconst 0, 1) := by decide +kernel
theorem dX12_ball_73 : decode cX12_ball 73 = .ok (.iadd, 1) := by decide +kernel
theorem dX12_ball_74 : decode cX12_ball 74 = .ok (.istore_n 3, 1) := by decide +kernel
theorem dX12_ball_75 : decode cX12_ball 75 = .ok (.iinc 4 1, 3) := by decide +kernel
theorem dX12_ball_78 : decode cX12_ball 78 = .ok (.goto (-31), 3) := by decide +kernel
theorem dX12_ball_81 : decode cX12_ball 81 = .ok (.iload_n 3, 1) := by decide +kernel
theorem dX12_ball_82 : decode cX12_ball 82 = .ok (.ireturn, 1) := by decide +kernel
def hX12_ball_47 (f : Nat) (Φ : Int → aj_M → Prop) : Nat → List Nat → Int → Int → Int → aj_M → Prop
  | 0, _, _, _, _, _ => False
  | k + 1, q0, v2, v3, v4, m => rI v4 ∧ rI (m q0 23) ∧ ((m q0 23) ≤ v4 → Φ v3 m) ∧ (¬ ((m q0 23) ≤ v4) → (0 ≤ v4 ∧ v4 < 60) ∧ rI (m (24 :: q0) v4.toNat) ∧ rI v2 ∧ (v2 < (m (24 :: q0) v4.toNat) → hX12_ball_47 f Φ k q0 v2 (v3 + 0) (v4 + 1) m) ∧ (¬ (v2 < (m (24 :: q0) v4.toNat)) → hX12_ball_47 f Φ k q0 v2 (v3 + 1) (v4 + 1) m))
set_option maxHeartbeats 4000000 in
set_option maxRecDepth 100000 in
theorem tX12_ball_47 {X : aj_T} {n f : Nat} {Φ : Int → aj_M → Prop} (C : aj_Cx X cX12_ball RX12 5 (n + 6)) (K : aj_Rt X (some .int) (fun r m => ∃ z, r = some (vI z) ∧ Φ z m)) : ∀ (k : Nat) (q0 : List Nat) (v2 : Int) (v3 : Int) (v4 : Int) (m : aj_M) (hq0 : (.inl (12, q0) : aj_R) ∈ aj_pls), hX12_ball_47 f Φ k q0 v2 v3 v4 m → aj_J X 47 [some (vO 12 q0), none, some (vI v2), some (vI v3), some (vI v4)] [] m := by
  intro k
  induction k with
  | zero =>
    intro q0 v2 v3 v4 m _ h
    exact h.elim
  | succ k ih =>
    intro q0 v2 v3 v4 m hq0 h
    unfold hX12_ball_47 at h
    refine aj_iload C dX12_ball_47 rfl ?_
    refine aj_aload_n C dX12_ball_49 rfl ?_
    refine aj_getI C flX12_271 hq0 (by decide) dX12_ball_50 rfl ?_
    obtain ⟨r0, r1, h1, h2⟩ := h
    refine aj_icmp_ge (tgt := 81) C dX12_ball_53 (by decide) r0 r1 (fun e => ?_) (fun e => ?_)
    · have h := h1 e
      refine aj_iload_n C dX12_ball_81 rfl ?_
      exact aj_iret C K dX12_ball_82 ⟨_, rfl, h⟩
    · have h := h2 e
      refine aj_iload_n C dX12_ball_56 rfl ?_
      refine aj_aload_n C dX12_ball_57 rfl ?_
      refine aj_getA (x := 0) (y := 60) C flX12_48 hq0 rfl dX12_ball_58 ?_
      refine aj_iload C dX12_ball_61 rfl ?_
      obtain ⟨r0, h⟩ := h
      refine aj_iald C (aj_ca (e := 0) (n := 60) (j := 24) hq0 (by decide) rfl) (by decide) r0 dX12_ball_63 rfl ?_
      refine aj_iload_n C dX12_ball_64 rfl ?_
      obtain ⟨r0, r1, h1, h2⟩ := h
      refine aj_icmp_gt (tgt := 72) C dX12_ball_65 (by decide) r0 r1 (fun e => ?_) (fun e => ?_)
      · have h := h1 e
        refine aj_iconst C dX12_ball_72 ?_
        refine aj_iadd C dX12_ball_73 ?_
        refine aj_istore_n (lv' := [some (vO 12 q0), none, some (vI v2), some (vI (v3 + 0)), some (vI v4)]) C dX12_ball_74 (by decide) rfl ?_
        refine aj_iinc (lv' := [some (vO 12 q0), none, some (vI v2), some (vI (v3 + 0)), some (vI (v4 + 1))]) C dX12_ball_75 rfl (by decide) rfl ?_
        refine aj_goto (tgt := 47) C dX12_ball_78 (by decide) ?_
        exact ih q0 v2 (v3 + 0) (v4 + 1) _ hq0 h
      · have h := h2 e
        refine aj_iconst C dX12_ball_68 ?_
        refine aj_goto (tgt := 73) C dX12_ball_69 (by decide) ?_
        refine aj_iadd C dX12_ball_73 ?_
        refine aj_istore_n (lv' := [some (vO 12 q0), none, some (vI v2), some (vI (v3 + 1)), some (vI v4)]) C dX12_ball_74 (by decide) rfl ?_
        refine aj_iinc (lv' := [some (vO 12 q0), none, some (vI v2), some (vI (v3 + 1)), some (vI (v4 + 1))]) C dX12_ball_75 rfl (by decide) rfl ?_
        refine aj_goto (tgt := 47) C dX12_ball_78 (by decide) ?_
        exact ih q0 v2 (v3 + 1) (v4 + 1) _ hq0 h
def wX12_ball (f : Nat) (Φ : Int → aj_M → Prop) (q0 : List Nat) (v1 : Int) (v2 : Int) (m : aj_M) : Prop := ∀ m1, m1 = aj_u m q0 0 0 → rI v1 ∧ wX12_isNode f (fun z1 m2 => rI z1 ∧ (¬ z1 = 0 → rI v2 ∧ wX12_within f (fun z2 m3 => rI z2 ∧ (¬ z2 = 0 → wX12_laysNet f (fun m4 => wX12_laysFar f (fun z4 m5 => hX12_ball_47 f Φ f q0 v2 0 0 m5) q0 v1 m4) q0 m3) ∧ (z2 = 0 → Φ (-3) m3)) v2 0 99 m2) ∧ (z1 = 0 → Φ (-2) m2)) q0 v1 m1
set_option maxHeartbeats 4000000 in
set_option maxRecDepth 100000 in
theorem sX12_ball {n f : Nat} {Φ : Int → aj_M → Prop} {q0 : List Nat} {v1 : Int} {v2 : Int} {m : aj_M} (hq0 : (.inl (12, q0) : aj_R) ∈ aj_pls) (h : wX12_ball f Φ q0 v1 v2 m) : aj_Ct (n + 6) yX12_ball cX12_ball 5 (some .int) [vO 12 q0, vI v1, vI v2] m (fun r m => ∃ z, r = some (vI z) ∧ Φ z m) := by
  refine aj_met (lv := [some (vO 12 q0), some (vI v1), some (vI v2), none, none]) (by decide +kernel) rfl (Nat.le_of_ble_eq_true rfl) (fun X C K => ?_)
  unfold wX12_ball at h
  refine aj_aload_n C dX12_ball_0 rfl ?_
  refine aj_iconst C dX12_ball_1 ?_
  refine aj_putI C fpX12_1 hq0 rfl dX12_ball_2 ?_
  refine aj_nm (fun m1 e1 => ?_)
  have h := h m1 e1
  refine aj_aload_n C dX12_ball_5 rfl ?_
  refine aj_iload_n C dX12_ball_6 rfl ?_
  obtain ⟨r0, h⟩ := h
  refine aj_i2l C dX12_ball_7 r0 ?_
  refine aj_callV (rest := []) C mvX12_360 (sX12_isNode hq0 h) hq0 (aj_np 1 (by decide +kernel) rfl) (Nat.le_of_ble_eq_true rfl) rfl dX12_ball_8 (fun r m2 h => ?_)
  obtain ⟨z1, rfl, h⟩ := h
  obtain ⟨r0, h1, h2⟩ := h
  refine aj_if_ne (tgt := 17) C dX12_ball_11 (by decide) r0 (fun e => ?_) (fun e => ?_)
  · have h := h1 e
    refine aj_iload_n C dX12_ball_17 rfl ?_
    obtain ⟨r0, h⟩ := h
    refine aj_i2l C dX12_ball_18 r0 ?_
    refine aj_lconst (z := 0) C dX12_ball_19 rfl ?_
    refine aj_ldc2 (z := 99) C (wd1982) rfl dX12_ball_20 ?_
    refine aj_callS (rest := []) C msX12_154 (sX12_within  h) (aj_np 3 (by decide +kernel) rfl) (Nat.le_of_ble_eq_true rfl) rfl dX12_ball_23 (fun r m3 h => ?_)
    obtain ⟨z2, rfl, h⟩ := h
    obtain ⟨r0, h1, h2⟩ := h
    refine aj_if_ne (tgt := 32) C dX12_ball_26 (by decide) r0 (fun e => ?_) (fun e => ?_)
    · have h := h1 e
      refine aj_aload_n C dX12_ball_32 rfl ?_
      refine aj_callV (rest := []) C mvX12_336 (sX12_laysNet hq0 h) hq0 (aj_np 0 (by decide +kernel) rfl) (Nat.le_of_ble_eq_true rfl) rfl dX12_ball_33 (fun r m4 h => ?_)
      obtain ⟨rfl, h⟩ := h
      refine aj_aload_n C dX12_ball_36 rfl ?_
      refine aj_iload_n C dX12_ball_37 rfl ?_
      refine aj_callV (rest := []) C mvX12_285 (sX12_laysFar hq0 h) hq0 (aj_np 1 (by decide +kernel) rfl) (Nat.le_of_ble_eq_true rfl) rfl dX12_ball_38 (fun r m5 h => ?_)
      obtain ⟨z4, rfl, h⟩ := h
      refine aj_pop C aj_nI dX12_ball_41 ?_
      refine aj_iconst C dX12_ball_42 ?_
      refine aj_istore_n (lv' := [some (vO 12 q0), some (vI v1), some (vI v2), some (vI 0), none]) C dX12_ball_43 (by decide) rfl ?_
      refine aj_iconst C dX12_ball_44 ?_
      refine aj_istore (lv' := [some (vO 12 q0), some (vI v1), some (vI v2), some (vI 0), some (vI 0)]) C dX12_ball_45 (by decide) rfl ?_
      refine aj_wk (lv' := [some (vO 12 q0), none, some (vI v2), some (vI 0), some (vI 0)]) (⟨rfl, ⟨rfl, ⟨rfl, ⟨rfl, trivial⟩⟩⟩⟩) ?_
      exact tX12_ball_47 C K f q0 v2 0 0 _ hq0 h
    · have h := h2 e
      refine aj_bipush C dX12_ball_29 (by decide) ?_
      exact aj_iret C K dX12_ball_31 ⟨_, rfl, h⟩
  · have h := h2 e
    refine aj_bipush C dX12_ball_14 (by decide) ?_
    exact aj_iret C K dX12_ball_16 ⟨_, rfl, h⟩
theorem dX12_girth_0 : decode cX12_girth 0 = .ok (.aload_n 0, 1) := by decide +kernel
theorem dX12_girth_1 : decode cX12_girth 1 = .ok (.iconst 0, 1) := by decide +kernel
theorem dX12_girth_2 : decode cX12_girth 2 = .ok (.putfield 1, 3) := by decide +kernel
theorem dX12_girth_5 : decode cX12_girth 5 = .ok (.aload_n 0, 1) := by decide +kernel
theorem dX12_girth_6 : decode cX12_girth 6 = .ok (.invokevirtual 336, 3) := by decide +kernel
theorem dX12_girth_9 : decode cX12_girth 9 = .ok (.aload_n 0, 1) := by decide +kernel
theorem dX12_girth_10 : decode cX12_girth 10 = .ok (.invokevirtual 342, 3) := by decide +kernel
theorem dX12_girth_13 : decode cX12_girth 13 = .ok (.invokestatic 345, 3) := by decide +kernel
theorem dX12_girth_16 : decode cX12_girth 16 = .ok (.ireturn, 1) := by decide +kernel
def wX12_girth (f : Nat) (Φ : Int → aj_M → Prop) (q0 : List Nat) (m : aj_M) : Prop := ∀ m1, m1 = aj_u m q0 0 0 → wX12_laysNet f (fun m2 => wX12_girthNow f (fun z2 m3 => wX12_toldFar f (fun z3 m4 => Φ z3 m4) z2 m3) q0 m2) q0 m1
set_option maxHeartbeats 4000000 in
set_option maxRecDepth 100000 in
theorem sX12_girth {n f : Nat} {Φ : Int → aj_M → Prop} {q0 : List Nat} {m : aj_M} (hq0 : (.inl (12, q0) : aj_R) ∈ aj_pls) (h : wX12_girth f Φ q0 m) : aj_Ct (n + 6) yX12_girth cX12_girth 1 (some .int) [vO 12 q0] m (fun r m => ∃ z, r = some (vI z) ∧ Φ z m) := by
  refine aj_met (lv := [some (vO 12 q0)]) (by decide +kernel) rfl (Nat.le_of_ble_eq_true rfl) (fun X C K => ?_)
  unfold wX12_girth at h
  refine aj_aload_n C dX12_girth_0 rfl ?_
  refine aj_iconst C dX12_girth_1 ?_
  refine aj_putI C fpX12_1 hq0 rfl dX12_girth_2 ?_
  refine aj_nm (fun m1 e1 => ?_)
  have h := h m1 e1
  refine aj_aload_n C dX12_girth_5 rfl ?_
  refine aj_callV (rest := []) C mvX12_336 (sX12_laysNet hq0 h) hq0 (aj_np 0 (by decide +kernel) rfl) (Nat.le_of_ble_eq_true rfl) rfl dX12_girth_6 (fun r m2 h => ?_)
  obtain ⟨rfl, h⟩ := h
  refine aj_aload_n C dX12_girth_9 rfl ?_
  refine aj_callV (rest := []) C mvX12_342 (sX12_girthNow hq0 h) hq0 (aj_np 0 (by decide +kernel) rfl) (Nat.le_of_ble_eq_true rfl) rfl dX12_girth_10 (fun r m3 h => ?_)
  obtain ⟨z2, rfl, h⟩ := h
  refine aj_callS (rest := []) C msX12_345 (sX12_toldFar  h) (aj_np 1 (by decide +kernel) rfl) (Nat.le_of_ble_eq_true rfl) rfl dX12_girth_13 (fun r m4 h => ?_)
  obtain ⟨z3, rfl, h⟩ := h
  exact aj_iret C K dX12_girth_16 ⟨_, rfl, h⟩
theorem dX12_isGone_0 : decode cX12_isGone 0 = .ok (.iconst 0, 1) := by decide +kernel
theorem dX12_isGone_1 : decode cX12_isGone 1 = .ok (.istore_n 3, 1) := by decide +kernel
theorem dX12_isGone_2 : decode cX12_isGone 2 = .ok (.iload_n 3, 1) := by decide +kernel
theorem dX12_isGone_3 : decode cX12_isGone 3 = .ok (.iload_n 2, 1) := by decide +kernel
theorem dX12_isGone_4 : decode cX12_isGone 4 = .ok (.if_icmp .ge 21, 3) := by decide +kernel
theorem dX12_isGone_7 : decode cX12_isGone 7 = .ok (.aload_n 0, 1) := by decide +kernel
theorem dX12_isGone_8 : decode cX12_isGone 8 = .ok (.getfield 60, 3) := by decide +kernel
theorem dX12_isGone_11 : decode cX12_isGone 11 = .ok (.iload_n 3, 1) := by decide +kernel
theorem dX12_isGone_12 : decode cX12_isGone 12 = .ok (.iaload, 1) := by decide +kernel
theorem dX12_isGone_13 : decode cX12_isGone 13 = .ok (.iload_n 1, 1) := by decide +kernel
theorem dX12_isGone_14 : decode cX12_isGone 14 = .ok (.if_icmp .ne 5, 3) := by decide +kernel
theorem dX12_isGone_17 : decode cX12_isGone 17 = .ok (.iconst 1, 1) := by decide +kernel
theorem dX12_isGone_18 : decode cX12_isGone 18 = .ok (.ireturn, 1) := by decide +kernel
theorem dX12_isGone_19 : decode cX12_isGone 19 = .ok (.iinc 3 1, 3) := by decide +kernel
theorem dX12_isGone_22 : decode cX12_isGone 22 = .ok (.goto (-20), 3) := by decide +kernel
theorem dX12_isGone_25 : decode cX12_isGone 25 = .ok (.iconst 0, 1) := by decide +kernel
theorem dX12_isGone_26 : decode cX12_isGone 26 = .ok (.ireturn, 1) := by decide +kernel
def hX12_isGone_2 (f : Nat) (Φ : Int → aj_M → Prop) : Nat → List Nat → Int → Int → Int → aj_M → Prop
  | 0, _, _, _, _, _ => False
  | k + 1, q0, v1, v2, v3, m => rI v3 ∧ rI v2 ∧ (v2 ≤ v3 → Φ 0 m) ∧ (¬ (v2 ≤ v3) → (0 ≤ v3 ∧ v3 < 60) ∧ rI (m (30 :: q0) v3.toNat) ∧ rI v1 ∧ (¬ (m (30 :: q0) v3.toNat) = v1 → hX12_isGone_2 f Φ k q0 v1 v2 (v3 + 1) m) ∧ ((m (30 :: q0) v3.toNat) = v1 → Φ 1 m))
set_option maxHeartbeats 4000000 in
set_option maxRecDepth 100000 in
theorem tX12_isGone_2 {X : aj_T} {n f : Nat} {Φ : Int → aj_M → Prop} (C : aj_Cx X cX12_isGone RX12 4 n) (K : aj_Rt X (some .boolean) (fun r m => ∃ z, r = some (vI z) ∧ Φ z m)) : ∀ (k : Nat) (q0 : List Nat) (v1 : Int) (v2 : Int) (v3 : Int) (m : aj_M) (hq0 : (.inl (12, q0) : aj_R) ∈ aj_pls), hX12_isGone_2 f Φ k q0 v1 v2 v3 m → aj_J X 2 [some (vO 12 q0), some (vI v1), some (vI v2), some (vI v3)] [] m := by
  intro k
  induction k with
  | zero =>
    intro q0 v1 v2 v3 m _ h
    exact h.elim
  | succ k ih =>
    intro q0 v1 v2 v3 m hq0 h
    unfold hX12_isGone_2 at h
    refine aj_iload_n C dX12_isGone_2 rfl ?_
    refine aj_iload_n C dX12_isGone_3 rfl ?_
    obtain ⟨r0, r1, h1, h2⟩ := h
    refine aj_icmp_ge (tgt := 25) C dX12_isGone_4 (by decide) r0 r1 (fun e => ?_) (fun e => ?_)
    · have h := h1 e
      refine aj_iconst C dX12_isGone_25 ?_
      exact aj_zret C K (Or.inl rfl) dX12_isGone_26 ⟨_, rfl, h⟩
    · have h := h2 e
      refine aj_aload_n C dX12_isGone_7 rfl ?_
      refine aj_getA (x := 0) (y := 60) C flX12_60 hq0 rfl dX12_isGone_8 ?_
      refine aj_iload_n C dX12_isGone_11 rfl ?_
      obtain ⟨r0, h⟩ := h
      refine aj_iald C (aj_ca (e := 0) (n := 60) (j := 30) hq0 (by decide) rfl) (by decide) r0 dX12_isGone_12 rfl ?_
      refine aj_iload_n C dX12_isGone_13 rfl ?_
      obtain ⟨r0, r1, h1, h2⟩ := h
      refine aj_icmp_ne (tgt := 19) C dX12_isGone_14 (by decide) r0 r1 (fun e => ?_) (fun e => ?_)
      · have h := h1 e
        refine aj_iinc (lv' := [some (vO 12 q0), some (vI v1), some (vI v2), some (vI (v3 + 1))]) C dX12_isGone_19 rfl (by decide) rfl ?_
        refine aj_goto (tgt := 2) C dX12_isGone_22 (by decide) ?_
        exact ih q0 v1 v2 (v3 + 1) _ hq0 h
      · have h := h2 e
        refine aj_iconst C dX12_isGone_17 ?_
        exact aj_zret C K (Or.inr rfl) dX12_isGone_18 ⟨_, rfl, h⟩
def wX12_isGone (f : Nat) (Φ : Int → aj_M → Prop) (q0 : List Nat) (v1 : Int) (v2 : Int) (m : aj_M) : Prop := hX12_isGone_2 f Φ f q0 v1 v2 0 m
set_option maxHeartbeats 4000000 in
set_option maxRecDepth 100000 in
theorem sX12_isGone {n f : Nat} {Φ : Int → aj_M → Prop} {q0 : List Nat} {v1 : Int} {v2 : Int} {m : aj_M} (hq0 : (.inl (12, q0) : aj_R) ∈ aj_pls) (h : wX12_isGone f Φ q0 v1 v2 m) : aj_Ct n yX12_isGone cX12_isGone 4 (some .boolean) [vO 12 q0, vI v1, vI v2] m (fun r m => ∃ z, r = some (vI z) ∧ Φ z m) := by
  refine aj_met (lv := [some (vO 12 q0), some (vI v1), some (vI v2), none]) (by decide +kernel) rfl (Nat.le_of_ble_eq_true rfl) (fun X C K => ?_)
  unfold wX12_isGone at h
  refine aj_iconst C dX12_isGone_0 ?_
  refine aj_istore_n (lv' := [some (vO 12 q0), some (vI v1), some (vI v2), some (vI 0)]) C dX12_isGone_1 (by decide) rfl ?_
  exact tX12_isGone_2 C K f q0 v1 v2 0 _ hq0 h
