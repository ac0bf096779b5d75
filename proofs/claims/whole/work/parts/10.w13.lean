theorem dX11_treeBound_0 : decode cX11_treeBound 0 = .ok (.iload_n 1, 1) := by decide +kernel
theorem dX11_treeBound_1 : decode cX11_treeBound 1 = .ok (.iconst 2, 1) := by decide +kernel
theorem dX11_treeBound_2 : decode cX11_treeBound 2 = .ok (.irem, 1) := by decide +kernel
theorem dX11_treeBound_3 : decode cX11_treeBound 3 = .ok (.iconst 1, 1) := by decide +kernel
theorem dX11_treeBound_4 : decode cX11_treeBound 4 = .ok (.if_icmp .ne 11, 3) := by decide +kernel
theorem dX11_treeBound_7 : decode cX11_treeBound 7 = .ok (.iload_n 1, 1) := by decide +kernel
theorem dX11_treeBound_8 : decode cX11_treeBound 8 = .ok (.iconst 1, 1) := by decide +kernel
theorem dX11_treeBound_9 : decode cX11_treeBound 9 = .ok (.isub, 1) := by decide +kernel
theorem dX11_treeBound_10 : decode cX11_treeBound 10 = .ok (.iconst 2, 1) := by decide +kernel
theorem dX11_treeBound_11 : decode cX11_treeBound 11 = .ok (.idiv, 1) := by decide +kernel
theorem dX11_treeBound_12 : decode cX11_treeBound 12 = .ok (.goto 6, 3) := by decide +kernel
theorem dX11_treeBound_15 : decode cX11_treeBound 15 = .ok (.iload_n 1, 1) := by decide +kernel
theorem dX11_treeBound_16 : decode cX11_treeBound 16 = .ok (.iconst 2, 1) := by decide +kernel
theorem dX11_treeBound_17 : decode cX11_treeBound 17 = .ok (.idiv, 1) := by decide +kernel
theorem dX11_treeBound_18 : decode cX11_treeBound 18 = .ok (.istore_n 2, 1) := by decide +kernel
theorem dX11_treeBound_19 : decode cX11_treeBound 19 = .ok (.lconst 0, 1) := by decide +kernel
theorem dX11_treeBound_20 : decode cX11_treeBound 20 = .ok (.lstore_n 3, 1) := by decide +kernel
theorem dX11_treeBound_21 : decode cX11_treeBound 21 = .ok (.lconst 1, 1) := by decide +kernel
theorem dX11_treeBound_22 : decode cX11_treeBound 22 = .ok (.lstore 5, 2) := by decide +kernel
theorem dX11_treeBound_24 : decode cX11_treeBound 24 = .ok (.iconst 0, 1) := by decide +kernel
theorem dX11_treeBound_25 : decode cX11_treeBound 25 = .ok (.istore 7, 2) := by decide +kernel
theorem dX11_treeBound_27 : decode cX11_treeBound 27 = .ok (.iload 7, 2) := by decide +kernel
theorem dX11_treeBound_29 : decode cX11_treeBound 29 = .ok (.iload_n 2, 1) := by decide +kernel
theorem dX11_treeBound_30 : decode cX11_treeBound 30 = .ok (.if_icmp .ge 23, 3) := by decide +kernel
theorem dX11_treeBound_33 : decode cX11_treeBound 33 = .ok (.lload_n 3, 1) := by decide +kernel
theorem dX11_treeBound_34 : decode cX11_treeBound 34 = .ok (.lload 5, 2) := by decide +kernel
theorem dX11_treeBound_36 : decode cX11_treeBound 36 = .ok (.ladd, 1) := by decide +kernel
theorem dX11_treeBound_37 : decode cX11_treeBound 37 = .ok (.lstore_n 3, 1) := by decide +kernel
theorem dX11_treeBound_38 : decode cX11_treeBound 38 = .ok (.lload 5, 2) := by decide +kernel
theorem dX11_treeBound_40 : decode cX11_treeBound 40 = .ok (.iload_n 0, 1) := by decide +kernel
theorem dX11_treeBound_41 : decode cX11_treeBound 41 = .ok (.iconst 1, 1) := by decide +kernel
theorem dX11_treeBound_42 : decode cX11_treeBound 42 = .ok (.isub, 1) := by decide +kernel
theorem dX11_treeBound_43 : decode cX11_treeBound 43 = .ok (.i2l, 1) := by decide +kernel
theorem dX11_treeBound_44 : decode cX11_treeBound 44 = .ok (.lmul, 1) := by decide +kernel
theorem dX11_treeBound_45 : decode cX11_treeBound 45 = .ok (.lstore 5, 2) := by decide +kernel
theorem dX11_treeBound_47 : decode cX11_treeBound 47 = .ok (.iinc 7 1, 3) := by decide +kernel
theorem dX11_treeBound_50 : decode cX11_treeBound 50 = .ok (.goto (-23), 3) := by decide +kernel
theorem dX11_treeBound_53 : decode cX11_treeBound 53 = .ok (.iload_n 1, 1) := by decide +kernel
theorem dX11_treeBound_54 : decode cX11_treeBound 54 = .ok (.iconst 2, 1) := by decide +kernel
theorem dX11_treeBound_55 : decode cX11_treeBound 55 = .ok (.irem, 1) := by decide +kernel
theorem dX11_treeBound_56 : decode cX11_treeBound 56 = .ok (.iconst 1, 1) := by decide +kernel
theorem dX11_treeBound_57 : decode cX11_treeBound 57 = .ok (.if_icmp .ne 12, 3) := by decide +kernel
theorem dX11_treeBound_60 : decode cX11_treeBound 60 = .ok (.lconst 1, 1) := by decide +kernel
theorem dX11_treeBound_61 : decode cX11_treeBound 61 = .ok (.iload_n 0, 1) := by decide +kernel
theorem dX11_treeBound_62 : decode cX11_treeBound 62 = .ok (.i2l, 1) := by decide +kernel
theorem dX11_treeBound_63 : decode cX11_treeBound 63 = .ok (.lload_n 3, 1) := by decide +kernel
theorem dX11_treeBound_64 : decode cX11_treeBound 64 = .ok (.lmul, 1) := by decide +kernel
theorem dX11_treeBound_65 : decode cX11_treeBound 65 = .ok (.ladd, 1) := by decide +kernel
theorem dX11_treeBound_66 : decode cX11_treeBound 66 = .ok (.goto 8, 3) := by decide +kernel
theorem dX11_treeBound_69 : decode cX11_treeBound 69 = .ok (.ldc2_w 422, 3) := by decide +kernel
theorem dX11_treeBound_72 : decode cX11_treeBound 72 = .ok (.lload_n 3, 1) := by decide +kernel
theorem dX11_treeBound_73 : decode cX11_treeBound 73 = .ok (.lmul, 1) := by decide +kernel
theorem dX11_treeBound_74 : decode cX11_treeBound 74 = .ok (.lreturn, 1) := by decide +kernel
def hX11_treeBound_27 (f : Nat) (Φ : Int → aj_M → Prop) : Nat → Int → Int → Int → Int → Int → Int → aj_M → Prop
  | 0, _, _, _, _, _, _, _ => False
  | k + 1, v0, v1, v2, w3, w5, v7, m => rI v7 ∧ rI v2 ∧ (v2 ≤ v7 → (0 ≤ v1 ∧ v1 < 2147483648) ∧ rI (v1 % 2) ∧ (¬ (v1 % 2) = 1 → Φ (2 * w3) m) ∧ ((v1 % 2) = 1 → rI v0 ∧ Φ (1 + (v0 * w3)) m)) ∧ (¬ (v2 ≤ v7) → rI (v0 - 1) ∧ hX11_treeBound_27 f Φ k v0 v1 v2 (w3 + w5) (w5 * (v0 - 1)) (v7 + 1) m)
set_option maxHeartbeats 4000000 in
set_option maxRecDepth 100000 in
theorem tX11_treeBound_27 {X : aj_T} {n f : Nat} {Φ : Int → aj_M → Prop} (C : aj_Cx X cX11_treeBound RX11 8 n) (K : aj_Rt X (some .long) (fun r m => ∃ z, r = some (vL z) ∧ Φ z m)) : ∀ (k : Nat) (v0 : Int) (v1 : Int) (v2 : Int) (w3 : Int) (w5 : Int) (v7 : Int) (m : aj_M) , hX11_treeBound_27 f Φ k v0 v1 v2 w3 w5 v7 m → aj_J X 27 [some (vI v0), some (vI v1), some (vI v2), some (vL w3), none, some (vL w5), none, some (vI v7)] [] m := by
  intro k
  induction k with
  | zero =>
    intro v0 v1 v2 w3 w5 v7 m  h
    exact h.elim
  | succ k ih =>
    intro v0 v1 v2 w3 w5 v7 m  h
    unfold hX11_treeBound_27 at h
    refine aj_iload C dX11_treeBound_27 rfl ?_
    refine aj_iload_n C dX11_treeBound_29 rfl ?_
    obtain ⟨r0, r1, h1, h2⟩ := h
    refine aj_icmp_ge (tgt := 53) C dX11_treeBound_30 (by decide) r0 r1 (fun e => ?_) (fun e => ?_)
    · have h := h1 e
      refine aj_iload_n C dX11_treeBound_53 rfl ?_
      refine aj_iconst C dX11_treeBound_54 ?_
      obtain ⟨r0, h⟩ := h
      refine aj_iremN C dX11_treeBound_55 r0 (by decide) ?_
      refine aj_iconst C dX11_treeBound_56 ?_
      obtain ⟨r0, h1, h2⟩ := h
      refine aj_icmp_ne (tgt := 69) C dX11_treeBound_57 (by decide) r0 (by decide) (fun e => ?_) (fun e => ?_)
      · have h := h1 e
        refine aj_ldc2 (z := 2) C (wd1276) rfl dX11_treeBound_69 ?_
        refine aj_lload_n C dX11_treeBound_72 rfl ?_
        refine aj_lmul C dX11_treeBound_73 ?_
        exact aj_lret C K dX11_treeBound_74 ⟨_, rfl, h⟩
      · have h := h2 e
        refine aj_lconst (z := 1) C dX11_treeBound_60 rfl ?_
        refine aj_iload_n C dX11_treeBound_61 rfl ?_
        obtain ⟨r0, h⟩ := h
        refine aj_i2l C dX11_treeBound_62 r0 ?_
        refine aj_lload_n C dX11_treeBound_63 rfl ?_
        refine aj_lmul C dX11_treeBound_64 ?_
        refine aj_ladd C dX11_treeBound_65 ?_
        refine aj_goto (tgt := 74) C dX11_treeBound_66 (by decide) ?_
        exact aj_lret C K dX11_treeBound_74 ⟨_, rfl, h⟩
    · have h := h2 e
      refine aj_lload_n C dX11_treeBound_33 rfl ?_
      refine aj_lload C dX11_treeBound_34 rfl ?_
      refine aj_ladd C dX11_treeBound_36 ?_
      refine aj_lstore_n (lv' := [some (vI v0), some (vI v1), some (vI v2), some (vL (w3 + w5)), none, some (vL w5), none, some (vI v7)]) C dX11_treeBound_37 (by decide) rfl ?_
      refine aj_lload C dX11_treeBound_38 rfl ?_
      refine aj_iload_n C dX11_treeBound_40 rfl ?_
      refine aj_iconst C dX11_treeBound_41 ?_
      refine aj_isub C dX11_treeBound_42 ?_
      obtain ⟨r0, h⟩ := h
      refine aj_i2l C dX11_treeBound_43 r0 ?_
      refine aj_lmul C dX11_treeBound_44 ?_
      refine aj_lstore (lv' := [some (vI v0), some (vI v1), some (vI v2), some (vL (w3 + w5)), none, some (vL (w5 * (v0 - 1))), none, some (vI v7)]) C dX11_treeBound_45 (by decide) rfl ?_
      refine aj_iinc (lv' := [some (vI v0), some (vI v1), some (vI v2), some (vL (w3 + w5)), none, some (vL (w5 * (v0 - 1))), none, some (vI (v7 + 1))]) C dX11_treeBound_47 rfl (by decide) rfl ?_
      refine aj_goto (tgt := 27) C dX11_treeBound_50 (by decide) ?_
      exact ih v0 v1 v2 (w3 + w5) (w5 * (v0 - 1)) (v7 + 1) _  h
def wX11_treeBound (f : Nat) (Φ : Int → aj_M → Prop) (v0 : Int) (v1 : Int) (m : aj_M) : Prop := (0 ≤ v1 ∧ v1 < 2147483648) ∧ rI (v1 % 2) ∧ (¬ (v1 % 2) = 1 → (0 ≤ v1 ∧ v1 < 2147483648) ∧ hX11_treeBound_27 f Φ f v0 v1 (v1 / 2) 0 1 0 m) ∧ ((v1 % 2) = 1 → (0 ≤ (v1 - 1) ∧ (v1 - 1) < 2147483648) ∧ hX11_treeBound_27 f Φ f v0 v1 ((v1 - 1) / 2) 0 1 0 m)
set_option maxHeartbeats 4000000 in
set_option maxRecDepth 100000 in
theorem sX11_treeBound {n f : Nat} {Φ : Int → aj_M → Prop} {v0 : Int} {v1 : Int} {m : aj_M}  (h : wX11_treeBound f Φ v0 v1 m) : aj_Ct n yX11_treeBound cX11_treeBound 8 (some .long) [vI v0, vI v1] m (fun r m => ∃ z, r = some (vL z) ∧ Φ z m) := by
  refine aj_met (lv := [some (vI v0), some (vI v1), none, none, none, none, none, none]) (by decide +kernel) rfl (Nat.le_of_ble_eq_true rfl) (fun X C K => ?_)
  unfold wX11_treeBound at h
  refine aj_iload_n C dX11_treeBound_0 rfl ?_
  refine aj_iconst C dX11_treeBound_1 ?_
  obtain ⟨r0, h⟩ := h
  refine aj_iremN C dX11_treeBound_2 r0 (by decide) ?_
  refine aj_iconst C dX11_treeBound_3 ?_
  obtain ⟨r0, h1, h2⟩ := h
  refine aj_icmp_ne (tgt := 15) C dX11_treeBound_4 (by decide) r0 (by decide) (fun e => ?_) (fun e => ?_)
  · have h := h1 e
    refine aj_iload_n C dX11_treeBound_15 rfl ?_
    refine aj_iconst C dX11_treeBound_16 ?_
    obtain ⟨r0, h⟩ := h
    refine aj_idivN C dX11_treeBound_17 r0 (by decide) ?_
    refine aj_istore_n (lv' := [some (vI v0), some (vI v1), some (vI (v1 / 2)), none, none, none, none, none]) C dX11_treeBound_18 (by decide) rfl ?_
    refine aj_lconst (z := 0) C dX11_treeBound_19 rfl ?_
    refine aj_lstore_n (lv' := [some (vI v0), some (vI v1), some (vI (v1 / 2)), some (vL 0), none, none, none, none]) C dX11_treeBound_20 (by decide) rfl ?_
    refine aj_lconst (z := 1) C dX11_treeBound_21 rfl ?_
    refine aj_lstore (lv' := [some (vI v0), some (vI v1), some (vI (v1 / 2)), some (vL 0), none, some (vL 1), none, none]) C dX11_treeBound_22 (by decide) rfl ?_
    refine aj_iconst C dX11_treeBound_24 ?_
    refine aj_istore (lv' := [some (vI v0), some (vI v1), some (vI (v1 / 2)), some (vL 0), none, some (vL 1), none, some (vI 0)]) C dX11_treeBound_25 (by decide) rfl ?_
    exact tX11_treeBound_27 C K f v0 v1 (v1 / 2) 0 1 0 _  h
  · have h := h2 e
    refine aj_iload_n C dX11_treeBound_7 rfl ?_
    refine aj_iconst C dX11_treeBound_8 ?_
    refine aj_isub C dX11_treeBound_9 ?_
    refine aj_iconst C dX11_treeBound_10 ?_
    obtain ⟨r0, h⟩ := h
    refine aj_idivN C dX11_treeBound_11 r0 (by decide) ?_
    refine aj_goto (tgt := 18) C dX11_treeBound_12 (by decide) ?_
    refine aj_istore_n (lv' := [some (vI v0), some (vI v1), some (vI ((v1 - 1) / 2)), none, none, none, none, none]) C dX11_treeBound_18 (by decide) rfl ?_
    refine aj_lconst (z := 0) C dX11_treeBound_19 rfl ?_
    refine aj_lstore_n (lv' := [some (vI v0), some (vI v1), some (vI ((v1 - 1) / 2)), some (vL 0), none, none, none, none]) C dX11_treeBound_20 (by decide) rfl ?_
    refine aj_lconst (z := 1) C dX11_treeBound_21 rfl ?_
    refine aj_lstore (lv' := [some (vI v0), some (vI v1), some (vI ((v1 - 1) / 2)), some (vL 0), none, some (vL 1), none, none]) C dX11_treeBound_22 (by decide) rfl ?_
    refine aj_iconst C dX11_treeBound_24 ?_
    refine aj_istore (lv' := [some (vI v0), some (vI v1), some (vI ((v1 - 1) / 2)), some (vL 0), none, some (vL 1), none, some (vI 0)]) C dX11_treeBound_25 (by decide) rfl ?_
    exact tX11_treeBound_27 C K f v0 v1 ((v1 - 1) / 2) 0 1 0 _  h
theorem dX11_bound_0 : decode cX11_bound 0 = .ok (.iload_n 1, 1) := by decide +kernel
theorem dX11_bound_1 : decode cX11_bound 1 = .ok (.iload_n 2, 1) := by decide +kernel
theorem dX11_bound_2 : decode cX11_bound 2 = .ok (.invokestatic 285, 3) := by decide +kernel
theorem dX11_bound_5 : decode cX11_bound 5 = .ok (.ifCond .eq 11, 3) := by decide +kernel
theorem dX11_bound_8 : decode cX11_bound 8 = .ok (.iload_n 1, 1) := by decide +kernel
theorem dX11_bound_9 : decode cX11_bound 9 = .ok (.iload_n 2, 1) := by decide +kernel
theorem dX11_bound_10 : decode cX11_bound 10 = .ok (.invokestatic 289, 3) := by decide +kernel
theorem dX11_bound_13 : decode cX11_bound 13 = .ok (.goto 6, 3) := by decide +kernel
theorem dX11_bound_16 : decode cX11_bound 16 = .ok (.ldc2_w 293, 3) := by decide +kernel
theorem dX11_bound_19 : decode cX11_bound 19 = .ok (.lreturn, 1) := by decide +kernel
def wX11_bound (f : Nat) (Φ : Int → aj_M → Prop) (q0 : List Nat) (v1 : Int) (v2 : Int) (m : aj_M) : Prop := wX11_isBounded f (fun z1 m1 => rI z1 ∧ (z1 = 0 → Φ (-3) m1) ∧ (¬ (z1 = 0) → wX11_treeBound f (fun z2 m2 => Φ z2 m2) v1 v2 m1)) v1 v2 m
set_option maxHeartbeats 4000000 in
set_option maxRecDepth 100000 in
theorem sX11_bound {n f : Nat} {Φ : Int → aj_M → Prop} {q0 : List Nat} {v1 : Int} {v2 : Int} {m : aj_M} (hq0 : (.inl (11, q0) : aj_R) ∈ aj_pls) (h : wX11_bound f Φ q0 v1 v2 m) : aj_Ct (n + 1) yX11_bound cX11_bound 3 (some .long) [vO 11 q0, vI v1, vI v2] m (fun r m => ∃ z, r = some (vL z) ∧ Φ z m) := by
  refine aj_met (lv := [some (vO 11 q0), some (vI v1), some (vI v2)]) (by decide +kernel) rfl (Nat.le_of_ble_eq_true rfl) (fun X C K => ?_)
  unfold wX11_bound at h
  refine aj_iload_n C dX11_bound_0 rfl ?_
  refine aj_iload_n C dX11_bound_1 rfl ?_
  refine aj_callS (rest := []) C msX11_285 (sX11_isBounded  h) (aj_np 2 (by decide +kernel) rfl) (Nat.le_of_ble_eq_true rfl) rfl dX11_bound_2 (fun r m1 h => ?_)
  obtain ⟨z1, rfl, h⟩ := h
  obtain ⟨r0, h1, h2⟩ := h
  refine aj_if_eq (tgt := 16) C dX11_bound_5 (by decide) r0 (fun e => ?_) (fun e => ?_)
  · have h := h1 e
    refine aj_ldc2 (z := (-3)) C (wd1277) rfl dX11_bound_16 ?_
    exact aj_lret C K dX11_bound_19 ⟨_, rfl, h⟩
  · have h := h2 e
    refine aj_iload_n C dX11_bound_8 rfl ?_
    refine aj_iload_n C dX11_bound_9 rfl ?_
    refine aj_callS (rest := []) C msX11_289 (sX11_treeBound  h) (aj_np 2 (by decide +kernel) rfl) (Nat.le_of_ble_eq_true rfl) rfl dX11_bound_10 (fun r m2 h => ?_)
    obtain ⟨z2, rfl, h⟩ := h
    refine aj_goto (tgt := 19) C dX11_bound_13 (by decide) ?_
    exact aj_lret C K dX11_bound_19 ⟨_, rfl, h⟩
theorem dX11_excess_0 : decode cX11_excess 0 = .ok (.aload_n 0, 1) := by decide +kernel
theorem dX11_excess_1 : decode cX11_excess 1 = .ok (.invokevirtual 231, 3) := by decide +kernel
theorem dX11_excess_4 : decode cX11_excess 4 = .ok (.astore_n 1, 1) := by decide +kernel
theorem dX11_excess_5 : decode cX11_excess 5 = .ok (.aload_n 1, 1) := by decide +kernel
theorem dX11_excess_6 : decode cX11_excess 6 = .ok (.invokevirtual 245, 3) := by decide +kernel
theorem dX11_excess_9 : decode cX11_excess 9 = .ok (.istore_n 2, 1) := by decide +kernel
theorem dX11_excess_10 : decode cX11_excess 10 = .ok (.aload_n 1, 1) := by decide +kernel
theorem dX11_excess_11 : decode cX11_excess 11 = .ok (.invokevirtual 213, 3) := by decide +kernel
theorem dX11_excess_14 : decode cX11_excess 14 = .ok (.invokestatic 216, 3) := by decide +kernel
theorem dX11_excess_17 : decode cX11_excess 17 = .ok (.istore_n 3, 1) := by decide +kernel
theorem dX11_excess_18 : decode cX11_excess 18 = .ok (.iload_n 2, 1) := by decide +kernel
theorem dX11_excess_19 : decode cX11_excess 19 = .ok (.iload_n 3, 1) := by decide +kernel
theorem dX11_excess_20 : decode cX11_excess 20 = .ok (.invokestatic 285, 3) := by decide +kernel
theorem dX11_excess_23 : decode cX11_excess 23 = .ok (.ifCond .eq 17, 3) := by decide +kernel
theorem dX11_excess_26 : decode cX11_excess 26 = .ok (.aload_n 1, 1) := by decide +kernel
theorem dX11_excess_27 : decode cX11_excess 27 = .ok (.getfield 295, 3) := by decide +kernel
theorem dX11_excess_30 : decode cX11_excess 30 = .ok (.i2l, 1) := by decide +kernel
theorem dX11_excess_31 : decode cX11_excess 31 = .ok (.iload_n 2, 1) := by decide +kernel
theorem dX11_excess_32 : decode cX11_excess 32 = .ok (.iload_n 3, 1) := by decide +kernel
theorem dX11_excess_33 : decode cX11_excess 33 = .ok (.invokestatic 289, 3) := by decide +kernel
theorem dX11_excess_36 : decode cX11_excess 36 = .ok (.lsub, 1) := by decide +kernel
theorem dX11_excess_37 : decode cX11_excess 37 = .ok (.goto 6, 3) := by decide +kernel
theorem dX11_excess_40 : decode cX11_excess 40 = .ok (.ldc2_w 298, 3) := by decide +kernel
theorem dX11_excess_43 : decode cX11_excess 43 = .ok (.lreturn, 1) := by decide +kernel
def wX11_excess (f : Nat) (Φ : Int → aj_M → Prop) (q0 : List Nat) (m : aj_M) : Prop := wX11_current f (fun z1 m1 => wX5_commonDegree f (fun z2 m2 => wX5_shortestRing f (fun z3 m3 => wX11_orNone f (fun z4 m4 => wX11_isBounded f (fun z5 m5 => rI z5 ∧ (z5 = 0 → Φ (-1) m5) ∧ (¬ (z5 = 0) → rI (m5 z1 0) ∧ wX11_treeBound f (fun z6 m6 => Φ ((m5 z1 0) - z6) m6) z2 z4 m5)) z2 z4 m4) z3 m3) z1 m2) z1 m1) q0 m
set_option maxHeartbeats 4000000 in
set_option maxRecDepth 100000 in
theorem sX11_excess {n f : Nat} {Φ : Int → aj_M → Prop} {q0 : List Nat} {m : aj_M} (hq0 : (.inl (11, q0) : aj_R) ∈ aj_pls) (h : wX11_excess f Φ q0 m) : aj_Ct (n + 5) yX11_excess cX11_excess 4 (some .long) [vO 11 q0] m (fun r m => ∃ z, r = some (vL z) ∧ Φ z m) := by
  refine aj_met (lv := [some (vO 11 q0), none, none, none]) (by decide +kernel) rfl (Nat.le_of_ble_eq_true rfl) (fun X C K => ?_)
  unfold wX11_excess at h
  refine aj_aload_n C dX11_excess_0 rfl ?_
  refine aj_callV (rest := []) C mvX11_231 (sX11_current hq0 h) hq0 (aj_np 0 (by decide +kernel) rfl) (Nat.le_of_ble_eq_true rfl) rfl dX11_excess_1 (fun r m1 h => ?_)
  obtain ⟨z1, rfl, hz1, h⟩ := h
  refine aj_astore_n (lv' := [some (vO 11 q0), some (vO 5 z1), none, none]) C dX11_excess_4 (by decide) rfl ?_
  refine aj_aload_n C dX11_excess_5 rfl ?_
  refine aj_callV (rest := []) C mvX11_245 (sX5_commonDegree hz1 h) hz1 (aj_np 0 (by decide +kernel) rfl) (Nat.le_of_ble_eq_true rfl) rfl dX11_excess_6 (fun r m2 h => ?_)
  obtain ⟨z2, rfl, h⟩ := h
  refine aj_istore_n (lv' := [some (vO 11 q0), some (vO 5 z1), some (vI z2), none]) C dX11_excess_9 (by decide) rfl ?_
  refine aj_aload_n C dX11_excess_10 rfl ?_
  refine aj_callV (rest := []) C mvX11_213 (sX5_shortestRing hz1 h) hz1 (aj_np 0 (by decide +kernel) rfl) (Nat.le_of_ble_eq_true rfl) rfl dX11_excess_11 (fun r m3 h => ?_)
  obtain ⟨z3, rfl, h⟩ := h
  refine aj_callS (rest := []) C msX11_216 (sX11_orNone  h) (aj_np 1 (by decide +kernel) rfl) (Nat.le_of_ble_eq_true rfl) rfl dX11_excess_14 (fun r m4 h => ?_)
  obtain ⟨z4, rfl, h⟩ := h
  refine aj_istore_n (lv' := [some (vO 11 q0), some (vO 5 z1), some (vI z2), some (vI z4)]) C dX11_excess_17 (by decide) rfl ?_
  refine aj_iload_n C dX11_excess_18 rfl ?_
  refine aj_iload_n C dX11_excess_19 rfl ?_
  refine aj_callS (rest := []) C msX11_285 (sX11_isBounded  h) (aj_np 2 (by decide +kernel) rfl) (Nat.le_of_ble_eq_true rfl) rfl dX11_excess_20 (fun r m5 h => ?_)
  obtain ⟨z5, rfl, h⟩ := h
  obtain ⟨r0, h1, h2⟩ := h
  refine aj_if_eq (tgt := 40) C dX11_excess_23 (by decide) r0 (fun e => ?_) (fun e => ?_)
  · have h := h1 e
    refine aj_ldc2 (z := (-1)) C (wd1282) rfl dX11_excess_40 ?_
    exact aj_lret C K dX11_excess_43 ⟨_, rfl, h⟩
  · have h := h2 e
    refine aj_aload_n C dX11_excess_26 rfl ?_
    refine aj_getI C flX11_295 hz1 (by decide) dX11_excess_27 rfl ?_
    obtain ⟨r0, h⟩ := h
    refine aj_i2l C dX11_excess_30 r0 ?_
    refine aj_iload_n C dX11_excess_31 rfl ?_
    refine aj_iload_n C dX11_excess_32 rfl ?_
    refine aj_callS (rest := [vL (m5 z1 0)]) C msX11_289 (sX11_treeBound  h) (aj_np 2 (by decide +kernel) rfl) (Nat.le_of_ble_eq_true rfl) rfl dX11_excess_33 (fun r m6 h => ?_)
    obtain ⟨z6, rfl, h⟩ := h
    refine aj_lsub C dX11_excess_36 ?_
    refine aj_goto (tgt := 43) C dX11_excess_37 (by decide) ?_
    exact aj_lret C K dX11_excess_43 ⟨_, rfl, h⟩
theorem dX11_light_0 : decode cX11_light 0 = .ok (.aload_n 0, 1) := by decide +kernel
theorem dX11_light_1 : decode cX11_light 1 = .ok (.invokevirtual 231, 3) := by decide +kernel
theorem dX11_light_4 : decode cX11_light 4 = .ok (.astore_n 3, 1) := by decide +kernel
theorem dX11_light_5 : decode cX11_light 5 = .ok (.aload_n 3, 1) := by decide +kernel
theorem dX11_light_6 : decode cX11_light 6 = .ok (.iload_n 1, 1) := by decide +kernel
theorem dX11_light_7 : decode cX11_light 7 = .ok (.invokevirtual 235, 3) := by decide +kernel
theorem dX11_light_10 : decode cX11_light 10 = .ok (.ifCond .eq 11, 3) := by decide +kernel
theorem dX11_light_13 : decode cX11_light 13 = .ok (.aload_n 3, 1) := by decide +kernel
theorem dX11_light_14 : decode cX11_light 14 = .ok (.iload_n 2, 1) := by decide +kernel
theorem dX11_light_15 : decode cX11_light 15 = .ok (.invokevirtual 235, 3) := by decide +kernel
theorem dX11_light_18 : decode cX11_light 18 = .ok (.ifCond .ne 6, 3) := by decide +kernel
theorem dX11_light_21 : decode cX11_light 21 = .ok (.bipush (-2), 2) := by decide +kernel
theorem dX11_light_23 : decode cX11_light 23 = .ok (.ireturn, 1) := by decide +kernel
theorem dX11_light_24 : decode cX11_light 24 = .ok (.aload_n 3, 1) := by decide +kernel
theorem dX11_light_25 : decode cX11_light 25 = .ok (.aload_n 0, 1) := by decide +kernel
theorem dX11_light_26 : decode cX11_light 26 = .ok (.getfield 19, 3) := by decide +kernel
theorem dX11_light_29 : decode cX11_light 29 = .ok (.aload_n 0, 1) := by decide +kernel
theorem dX11_light_30 : decode cX11_light 30 = .ok (.getfield 26, 3) := by decide +kernel
theorem dX11_light_33 : decode cX11_light 33 = .ok (.getfield 177, 3) := by decide +kernel
theorem dX11_light_36 : decode cX11_light 36 = .ok (.invokevirtual 300, 3) := by decide +kernel
theorem dX11_light_39 : decode cX11_light 39 = .ok (.aload_n 3, 1) := by decide +kernel
theorem dX11_light_40 : decode cX11_light 40 = .ok (.iload_n 1, 1) := by decide +kernel
theorem dX11_light_41 : decode cX11_light 41 = .ok (.invokevirtual 304, 3) := by decide +kernel
theorem dX11_light_44 : decode cX11_light 44 = .ok (.aload_n 3, 1) := by decide +kernel
theorem dX11_light_45 : decode cX11_light 45 = .ok (.getfield 307, 3) := by decide +kernel
theorem dX11_light_48 : decode cX11_light 48 = .ok (.iload_n 2, 1) := by decide +kernel
theorem dX11_light_49 : decode cX11_light 49 = .ok (.iaload, 1) := by decide +kernel
theorem dX11_light_50 : decode cX11_light 50 = .ok (.invokestatic 216, 3) := by decide +kernel
theorem dX11_light_53 : decode cX11_light 53 = .ok (.ireturn, 1) := by decide +kernel
def wX11_light (f : Nat) (Φ : Int → aj_M → Prop) (q0 : List Nat) (v1 : Int) (v2 : Int) (m : aj_M) : Prop := wX11_current f (fun z1 m1 => wX5_has f (fun z2 m2 => rI z2 ∧ (z2 = 0 → Φ (-2) m2) ∧ (¬ (z2 = 0) → wX5_has f (fun z3 m3 => rI z3 ∧ (¬ z3 = 0 → wX5_weighLinks f (fun m4 => wX5_lightFrom f (fun m5 => (0 ≤ v2 ∧ v2 < 60) ∧ wX11_orNone f (fun z6 m6 => Φ z6 m6) (m5 (11 :: z1) v2.toNat) m5) z1 v1 m4) z1 (1 :: q0) (m3 (2 :: q0) 2) m3) ∧ (z3 = 0 → Φ (-2) m3)) z1 v2 m2)) z1 v1 m1) q0 m
set_option maxHeartbeats 4000000 in
set_option maxRecDepth 100000 in
theorem sX11_light {n f : Nat} {Φ : Int → aj_M → Prop} {q0 : List Nat} {v1 : Int} {v2 : Int} {m : aj_M} (hq0 : (.inl (11, q0) : aj_R) ∈ aj_pls) (h : wX11_light f Φ q0 v1 v2 m) : aj_Ct (n + 5) yX11_light cX11_light 4 (some .int) [vO 11 q0, vI v1, vI v2] m (fun r m => ∃ z, r = some (vI z) ∧ Φ z m) := by
  refine aj_met (lv := [some (vO 11 q0), some (vI v1), some (vI v2), none]) (by decide +kernel) rfl (Nat.le_of_ble_eq_true rfl) (fun X C K => ?_)
  unfold wX11_light at h
  refine aj_aload_n C dX11_light_0 rfl ?_
  refine aj_callV (rest := []) C mvX11_231 (sX11_current hq0 h) hq0 (aj_np 0 (by decide +kernel) rfl) (Nat.le_of_ble_eq_true rfl) rfl dX11_light_1 (fun r m1 h => ?_)
  obtain ⟨z1, rfl, hz1, h⟩ := h
  refine aj_astore_n (lv' := [some (vO 11 q0), some (vI v1), some (vI v2), some (vO 5 z1)]) C dX11_light_4 (by decide) rfl ?_
  refine aj_aload_n C dX11_light_5 rfl ?_
  refine aj_iload_n C dX11_light_6 rfl ?_
  refine aj_callV (rest := []) C mvX11_235 (sX5_has hz1 h) hz1 (aj_np 1 (by decide +kernel) rfl) (Nat.le_of_ble_eq_true rfl) rfl dX11_light_7 (fun r m2 h => ?_)
  obtain ⟨z2, rfl, h⟩ := h
  obtain ⟨r0, h1, h2⟩ := h
  refine aj_if_eq (tgt := 21) C dX11_light_10 (by decide) r0 (fun e => ?_) (fun e => ?_)
  · have h := h1 e
    refine aj_bipush C dX11_light_21 (by decide) ?_
    exact aj_iret C K dX11_light_23 ⟨_, rfl, h⟩
  · have h := h2 e
    refine aj_aload_n C dX11_light_13 rfl ?_
    refine aj_iload_n C dX11_light_14 rfl ?_
    refine aj_callV (rest := []) C mvX11_235 (sX5_has hz1 h) hz1 (aj_np 1 (by decide +kernel) rfl) (Nat.le_of_ble_eq_true rfl) rfl dX11_light_15 (fun r m3 h => ?_)
    obtain ⟨z3, rfl, h⟩ := h
    obtain ⟨r0, h1, h2⟩ := h
    refine aj_if_ne (tgt := 24) C dX11_light_18 (by decide) r0 (fun e => ?_) (fun e => ?_)
    · have h := h1 e
      refine aj_aload_n C dX11_light_24 rfl ?_
      refine aj_aload_n C dX11_light_25 rfl ?_
      refine aj_getO (x := 6) (y := 0) C flX11_19 hq0 rfl dX11_light_26 ?_
      refine aj_aload_n C dX11_light_29 rfl ?_
      refine aj_getO (x := 9) (y := 0) C flX11_26 hq0 rfl dX11_light_30 ?_
      refine aj_getI C flX11_177 (aj_cf (x := 9) (y := 0) (j := 2) hq0 (by decide) rfl) (by decide) dX11_light_33 rfl ?_
      refine aj_callV (rest := []) C mvX11_300 (sX5_weighLinks hz1 (aj_cf (x := 6) (y := 0) (j := 1) hq0 (by decide) rfl) h) hz1 (aj_np 2 (by decide +kernel) rfl) (Nat.le_of_ble_eq_true rfl) rfl dX11_light_36 (fun r m4 h => ?_)
      obtain ⟨rfl, h⟩ := h
      refine aj_aload_n C dX11_light_39 rfl ?_
      refine aj_iload_n C dX11_light_40 rfl ?_
      refine aj_callV (rest := []) C mvX11_304 (sX5_lightFrom hz1 h) hz1 (aj_np 1 (by decide +kernel) rfl) (Nat.le_of_ble_eq_true rfl) rfl dX11_light_41 (fun r m5 h => ?_)
      obtain ⟨rfl, h⟩ := h
      refine aj_aload_n C dX11_light_44 rfl ?_
      refine aj_getA (x := 0) (y := 60) C flX11_307 hz1 rfl dX11_light_45 ?_
      refine aj_iload_n C dX11_light_48 rfl ?_
      obtain ⟨r0, h⟩ := h
      refine aj_iald C (aj_ca (e := 0) (n := 60) (j := 11) hz1 (by decide) rfl) (by decide) r0 dX11_light_49 rfl ?_
      refine aj_callS (rest := []) C msX11_216 (sX11_orNone  h) (aj_np 1 (by decide +kernel) rfl) (Nat.le_of_ble_eq_true rfl) rfl dX11_light_50 (fun r m6 h => ?_)
      obtain ⟨z6, rfl, h⟩ := h
      exact aj_iret C K dX11_light_53 ⟨_, rfl, h⟩
    · have h := h2 e
      refine aj_bipush C dX11_light_21 (by decide) ?_
      exact aj_iret C K dX11_light_23 ⟨_, rfl, h⟩
theorem dX11_lightest_0 : decode cX11_lightest 0 = .ok (.aload_n 0, 1) := by decide +kernel
theorem dX11_lightest_1 : decode cX11_lightest 1 = .ok (.invokevirtual 231, 3) := by decide +kernel
theorem dX11_lightest_4 : decode cX11_lightest 4 = .ok (.astore_n 1, 1) := by decide +kernel
theorem dX11_lightest_5 : decode cX11_lightest 5 = .ok (.aload_n 1, 1) := by decide +kernel
theorem dX11_lightest_6 : decode cX11_lightest 6 = .ok (.aload_n 0, 1) := by decide +kernel
theorem dX11_lightest_7 : decode cX11_lightest 7 = .ok (.getfield 19, 3) := by decide +kernel
theorem dX11_lightest_10 : decode cX11_lightest 10 = .ok (.aload_n 0, 1) := by decide +kernel
theorem dX11_lightest_11 : decode cX11_lightest 11 = .ok (.getfield 26, 3) := by decide +kernel
theorem dX11_lightest_14 : decode cX11_lightest 14 = .ok (.getfield 177, 3) := by decide +kernel
theorem dX11_lightest_17 : decode cX11_lightest 17 = .ok (.invokevirtual 300, 3) := by decide +kernel
theorem dX11_lightest_20 : decode cX11_lightest 20 = .ok (.aload_n 1, 1) := by decide +kernel
theorem dX11_lightest_21 : decode cX11_lightest 21 = .ok (.invokevirtual 310, 3) := by decide +kernel
theorem dX11_lightest_24 : decode cX11_lightest 24 = .ok (.invokestatic 216, 3) := by decide +kernel
theorem dX11_lightest_27 : decode cX11_lightest 27 = .ok (.ireturn, 1) := by decide +kernel
def wX11_lightest (f : Nat) (Φ : Int → aj_M → Prop) (q0 : List Nat) (m : aj_M) : Prop := wX11_current f (fun z1 m1 => wX5_weighLinks f (fun m2 => wX5_lightestRing f (fun z3 m3 => wX11_orNone f (fun z4 m4 => Φ z4 m4) z3 m3) z1 m2) z1 (1 :: q0) (m1 (2 :: q0) 2) m1) q0 m
set_option maxHeartbeats 4000000 in
set_option maxRecDepth 100000 in
theorem sX11_lightest {n f : Nat} {Φ : Int → aj_M → Prop} {q0 : List Nat} {m : aj_M} (hq0 : (.inl (11, q0) : aj_R) ∈ aj_pls) (h : wX11_lightest f Φ q0 m) : aj_Ct (n + 5) yX11_lightest cX11_lightest 2 (some .int) [vO 11 q0] m (fun r m => ∃ z, r = some (vI z) ∧ Φ z m) := by
  refine aj_met (lv := [some (vO 11 q0), none]) (by decide +kernel) rfl (Nat.le_of_ble_eq_true rfl) (fun X C K => ?_)
  unfold wX11_lightest at h
  refine aj_aload_n C dX11_lightest_0 rfl ?_
  refine aj_callV (rest := []) C mvX11_231 (sX11_current hq0 h) hq0 (aj_np 0 (by decide +kernel) rfl) (Nat.le_of_ble_eq_true rfl) rfl dX11_lightest_1 (fun r m1 h => ?_)
  obtain ⟨z1, rfl, hz1, h⟩ := h
  refine aj_astore_n (lv' := [some (vO 11 q0), some (vO 5 z1)]) C dX11_lightest_4 (by decide) rfl ?_
  refine aj_aload_n C dX11_lightest_5 rfl ?_
  refine aj_aload_n C dX11_lightest_6 rfl ?_
  refine aj_getO (x := 6) (y := 0) C flX11_19 hq0 rfl dX11_lightest_7 ?_
  refine aj_aload_n C dX11_lightest_10 rfl ?_
  refine aj_getO (x := 9) (y := 0) C flX11_26 hq0 rfl dX11_lightest_11 ?_
  refine aj_getI C flX11_177 (aj_cf (x := 9) (y := 0) (j := 2) hq0 (by decide) rfl) (by decide) dX11_lightest_14 rfl ?_
  refine aj_callV (rest := []) C mvX11_300 (sX5_weighLinks hz1 (aj_cf (x := 6) (y := 0) (j := 1) hq0 (by decide) rfl) h) hz1 (aj_np 2 (by decide +kernel) rfl) (Nat.le_of_ble_eq_true rfl) rfl dX11_lightest_17 (fun r m2 h => ?_)
  obtain ⟨rfl, h⟩ := h
  refine aj_aload_n C dX11_lightest_20 rfl ?_
  refine aj_callV (rest := []) C mvX11_310 (sX5_lightestRing hz1 h) hz1 (aj_np 0 (by decide +kernel) rfl) (Nat.le_of_ble_eq_true rfl) rfl dX11_lightest_21 (fun r m3 h => ?_)
  obtain ⟨z3, rfl, h⟩ := h
  refine aj_callS (rest := []) C msX11_216 (sX11_orNone  h) (aj_np 1 (by decide +kernel) rfl) (Nat.le_of_ble_eq_true rfl) rfl dX11_lightest_24 (fun r m4 h => ?_)
  obtain ⟨z4, rfl, h⟩ := h
  exact aj_iret C K dX11_lightest_27 ⟨_, rfl, h⟩
theorem dX11_stepBegins_0 : decode cX11_stepBegins 0 = .ok (.lload_n 1, 1) := by decide +kernel
theorem dX11_stepBegins_1 : decode cX11_stepBegins 1 = .ok (.ldc2_w 422, 3) := by decide +kernel
theorem dX11_stepBegins_4 : decode cX11_stepBegins 4 = .ok (.lrem, 1) := by decide +kernel
theorem dX11_stepBegins_5 : decode cX11_stepBegins 5 = .ok (.lconst 0, 1) := by decide +kernel
theorem dX11_stepBegins_6 : decode cX11_stepBegins 6 = .ok (.lcmp, 1) := by decide +kernel
theorem dX11_stepBegins_7 : decode cX11_stepBegins 7 = .ok (.ifCond .ne 20, 3) := by decide +kernel
theorem dX11_stepBegins_10 : decode cX11_stepBegins 10 = .ok (.aload_n 0, 1) := by decide +kernel
theorem dX11_stepBegins_11 : decode cX11_stepBegins 11 = .ok (.getfield 19, 3) := by decide +kernel
theorem dX11_stepBegins_14 : decode cX11_stepBegins 14 = .ok (.getfield 121, 3) := by decide +kernel
theorem dX11_stepBegins_17 : decode cX11_stepBegins 17 = .ok (.lload_n 1, 1) := by decide +kernel
theorem dX11_stepBegins_18 : decode cX11_stepBegins 18 = .ok (.ldc2_w 422, 3) := by decide +kernel
theorem dX11_stepBegins_21 : decode cX11_stepBegins 21 = .ok (.ldiv, 1) := by decide +kernel
theorem dX11_stepBegins_22 : decode cX11_stepBegins 22 = .ok (.l2i, 1) := by decide +kernel
theorem dX11_stepBegins_23 : decode cX11_stepBegins 23 = .ok (.iaload, 1) := by decide +kernel
theorem dX11_stepBegins_24 : decode cX11_stepBegins 24 = .ok (.goto 17, 3) := by decide +kernel
theorem dX11_stepBegins_27 : decode cX11_stepBegins 27 = .ok (.aload_n 0, 1) := by decide +kernel
theorem dX11_stepBegins_28 : decode cX11_stepBegins 28 = .ok (.getfield 19, 3) := by decide +kernel
theorem dX11_stepBegins_31 : decode cX11_stepBegins 31 = .ok (.getfield 124, 3) := by decide +kernel
theorem dX11_stepBegins_34 : decode cX11_stepBegins 34 = .ok (.lload_n 1, 1) := by decide +kernel
theorem dX11_stepBegins_35 : decode cX11_stepBegins 35 = .ok (.ldc2_w 422, 3) := by decide +kernel
theorem dX11_stepBegins_38 : decode cX11_stepBegins 38 = .ok (.ldiv, 1) := by decide +kernel
theorem dX11_stepBegins_39 : decode cX11_stepBegins 39 = .ok (.l2i, 1) := by decide +kernel
theorem dX11_stepBegins_40 : decode cX11_stepBegins 40 = .ok (.iaload, 1) := by decide +kernel
theorem dX11_stepBegins_41 : decode cX11_stepBegins 41 = .ok (.ireturn, 1) := by decide +kernel
def wX11_stepBegins (f : Nat) (Φ : Int → aj_M → Prop) (q0 : List Nat) (w1 : Int) (m : aj_M) : Prop := (0 ≤ w1 ∧ w1 < 9223372036854775808) ∧ rL (w1 % 2) ∧ (¬ (w1 % 2) = 0 → (0 ≤ w1 ∧ w1 < 9223372036854775808) ∧ (0 ≤ (w1 / 2) ∧ (w1 / 2) < 12) ∧ Φ (m (8 :: (1 :: q0)) (w1 / 2).toNat) m) ∧ ((w1 % 2) = 0 → (0 ≤ w1 ∧ w1 < 9223372036854775808) ∧ (0 ≤ (w1 / 2) ∧ (w1 / 2) < 12) ∧ Φ (m (7 :: (1 :: q0)) (w1 / 2).toNat) m)
set_option maxHeartbeats 4000000 in
set_option maxRecDepth 100000 in
theorem sX11_stepBegins {n f : Nat} {Φ : Int → aj_M → Prop} {q0 : List Nat} {w1 : Int} {m : aj_M} (hq0 : (.inl (11, q0) : aj_R) ∈ aj_pls) (h : wX11_stepBegins f Φ q0 w1 m) : aj_Ct n yX11_stepBegins cX11_stepBegins 3 (some .int) [vO 11 q0, vL w1] m (fun r m => ∃ z, r = some (vI z) ∧ Φ z m) := by
  refine aj_met (lv := [some (vO 11 q0), some (vL w1), none]) (by decide +kernel) rfl (Nat.le_of_ble_eq_true rfl) (fun X C K => ?_)
  unfold wX11_stepBegins at h
  refine aj_lload_n C dX11_stepBegins_0 rfl ?_
  refine aj_ldc2 (z := 2) C (wd1276) rfl dX11_stepBegins_1 ?_
  obtain ⟨r0, h⟩ := h
  refine aj_lremN C dX11_stepBegins_4 r0 (by decide) ?_
  refine aj_lconst (z := 0) C dX11_stepBegins_5 rfl ?_
  obtain ⟨r0, h1, h2⟩ := h
  refine aj_lcmp_ne (tgt := 27) C dX11_stepBegins_6 dX11_stepBegins_7 (by decide) r0 (by decide) (fun e => ?_) (fun e => ?_)
  · have h := h1 e
    refine aj_aload_n C dX11_stepBegins_27 rfl ?_
    refine aj_getO (x := 6) (y := 0) C flX11_19 hq0 rfl dX11_stepBegins_28 ?_
    refine aj_getA (x := 0) (y := 12) C flX11_124 (aj_cf (x := 6) (y := 0) (j := 1) hq0 (by decide) rfl) rfl dX11_stepBegins_31 ?_
    refine aj_lload_n C dX11_stepBegins_34 rfl ?_
    refine aj_ldc2 (z := 2) C (wd1276) rfl dX11_stepBegins_35 ?_
    obtain ⟨r0, h⟩ := h
    refine aj_ldivN C dX11_stepBegins_38 r0 (by decide) ?_
    refine aj_l2i C dX11_stepBegins_39 ?_
    obtain ⟨r0, h⟩ := h
    refine aj_iald C (aj_ca (e := 0) (n := 12) (j := 8) (aj_cf (x := 6) (y := 0) (j := 1) hq0 (by decide) rfl) (by decide) rfl) (by decide) r0 dX11_stepBegins_40 rfl ?_
    exact aj_iret C K dX11_stepBegins_41 ⟨_, rfl, h⟩
  · have h := h2 e
    refine aj_aload_n C dX11_stepBegins_10 rfl ?_
    refine aj_getO (x := 6) (y := 0) C flX11_19 hq0 rfl dX11_stepBegins_11 ?_
    refine aj_getA (x := 0) (y := 12) C flX11_121 (aj_cf (x := 6) (y := 0) (j := 1) hq0 (by decide) rfl) rfl dX11_stepBegins_14 ?_
    refine aj_lload_n C dX11_stepBegins_17 rfl ?_
    refine aj_ldc2 (z := 2) C (wd1276) rfl dX11_stepBegins_18 ?_
    obtain ⟨r0, h⟩ := h
    refine aj_ldivN C dX11_stepBegins_21 r0 (by decide) ?_
    refine aj_l2i C dX11_stepBegins_22 ?_
    obtain ⟨r0, h⟩ := h
    refine aj_iald C (aj_ca (e := 0) (n := 12) (j := 7) (aj_cf (x := 6) (y := 0) (j := 1) hq0 (by decide) rfl) (by decide) rfl) (by decide) r0 dX11_stepBegins_23 rfl ?_
    refine aj_goto (tgt := 41) C dX11_stepBegins_24 (by decide) ?_
    exact aj_iret C K dX11_stepBegins_41 ⟨_, rfl, h⟩
theorem dX11_stepEnds_0 : decode cX11_stepEnds 0 = .ok (.lload_n 1, 1) := by decide +kernel
theorem dX11_stepEnds_1 : decode cX11_stepEnds 1 = .ok (.ldc2_w 422, 3) := by decide +kernel
theorem dX11_stepEnds_4 : decode cX11_stepEnds 4 = .ok (.lrem, 1) := by decide +kernel
theorem dX11_stepEnds_5 : decode cX11_stepEnds 5 = .ok (.lconst 0, 1) := by decide +kernel
theorem dX11_stepEnds_6 : decode cX11_stepEnds 6 = .ok (.lcmp, 1) := by decide +kernel
theorem dX11_stepEnds_7 : decode cX11_stepEnds 7 = .ok (.ifCond .ne 20, 3) := by decide +kernel
theorem dX11_stepEnds_10 : decode cX11_stepEnds 10 = .ok (.aload_n 0, 1) := by decide +kernel
theorem dX11_stepEnds_11 : decode cX11_stepEnds 11 = .ok (.getfield 19, 3) := by decide +kernel
theorem dX11_stepEnds_14 : decode cX11_stepEnds 14 = .ok (.getfield 124, 3) := by decide +kernel
theorem dX11_stepEnds_17 : decode cX11_stepEnds 17 = .ok (.lload_n 1, 1) := by decide +kernel
theorem dX11_stepEnds_18 : decode cX11_stepEnds 18 = .ok (.ldc2_w 422, 3) := by decide +kernel
theorem dX11_stepEnds_21 : decode cX11_stepEnds 21 = .ok (.ldiv, 1) := by decide +kernel
theorem dX11_stepEnds_22 : decode cX11_stepEnds 22 = .ok (.l2i, 1) := by decide +kernel
theorem dX11_stepEnds_23 : decode cX11_stepEnds 23 = .ok (.iaload, 1) := by decide +kernel
theorem dX11_stepEnds_24 : decode cX11_stepEnds 24 = .ok (.goto 17, 3) := by decide +kernel
theorem dX11_stepEnds_27 : decode cX11_stepEnds 27 = .ok (.aload_n 0, 1) := by decide +kernel
theorem dX11_stepEnds_28 : decode cX11_stepEnds 28 = .ok (.getfield 19, 3) := by decide +kernel
theorem dX11_stepEnds_31 : decode cX11_stepEnds 31 = .ok (.getfield 121, 3) := by decide +kernel
theorem dX11_stepEnds_34 : decode cX11_stepEnds 34 = .ok (.lload_n 1, 1) := by decide +kernel
theorem dX11_stepEnds_35 : decode cX11_stepEnds 35 = .ok (.ldc2_w 422, 3) := by decide +kernel
theorem dX11_stepEnds_38 : decode cX11_stepEnds 38 = .ok (.ldiv, 1) := by decide +kernel
theorem dX11_stepEnds_39 : decode cX11_stepEnds 39 = .ok (.l2i, 1) := by decide +kernel
theorem dX11_stepEnds_40 : decode cX11_stepEnds 40 = .ok (.iaload, 1) := by decide +kernel
theorem dX11_stepEnds_41 : decode cX11_stepEnds 41 = .ok (.ireturn, 1) := by decide +kernel
def wX11_stepEnds (f : Nat) (Φ : Int → aj_M → Prop) (q0 : List Nat) (w1 : Int) (m : aj_M) : Prop := (0 ≤ w1 ∧ w1 < 9223372036854775808) ∧ rL (w1 % 2) ∧ (¬ (w1 % 2) = 0 → (0 ≤ w1 ∧ w1 < 9223372036854775808) ∧ (0 ≤ (w1 / 2) ∧ (w1 / 2) < 12) ∧ Φ (m (7 :: (1 :: q0)) (w1 / 2).toNat) m) ∧ ((w1 % 2) = 0 → (0 ≤ w1 ∧ w1 < 9223372036854775808) ∧ (0 ≤ (w1 / 2) ∧ (w1 / 2) < 12) ∧ Φ (m (8 :: (1 :: q0)) (w1 / 2).toNat) m)
set_option maxHeartbeats 4000000 in
set_option maxRecDepth 100000 in
theorem sX11_stepEnds {n f : Nat} {Φ : Int → aj_M → Prop} {q0 : List Nat} {w1 : Int} {m : aj_M} (hq0 : (.inl (11, q0) : aj_R) ∈ aj_pls) (h : wX11_stepEnds f Φ q0 w1 m) : aj_Ct n yX11_stepEnds cX11_stepEnds 3 (some .int) [vO 11 q0, vL w1] m (fun r m => ∃ z, r = some (vI z) ∧ Φ z m) := by
  refine aj_met (lv := [some (vO 11 q0), some (vL w1), none]) (by decide +kernel) rfl (Nat.le_of_ble_eq_true rfl) (fun X C K => ?_)
  unfold wX11_stepEnds at h
  refine aj_lload_n C dX11_stepEnds_0 rfl ?_
  refine aj_ldc2 (z := 2) C (wd1276) rfl dX11_stepEnds_1 ?_
  obtain ⟨r0, h⟩ := h
  refine aj_lremN C dX11_stepEnds_4 r0 (by decide) ?_
  refine aj_lconst (z := 0) C dX11_stepEnds_5 rfl ?_
  obtain ⟨r0, h1, h2⟩ := h
  refine aj_lcmp_ne (tgt := 27) C dX11_stepEnds_6 dX11_stepEnds_7 (by decide) r0 (by decide) (fun e => ?_) (fun e => ?_)
  · have h := h1 e
    refine aj_aload_n C dX11_stepEnds_27 rfl ?_
    refine aj_getO (x := 6) (y := 0) C flX11_19 hq0 rfl dX11_stepEnds_28 ?_
    refine aj_getA (x := 0) (y := 12) C flX11_121 (aj_cf (x := 6) (y := 0) (j := 1) hq0 (by decide) rfl) rfl dX11_stepEnds_31 ?_
    refine aj_lload_n C dX11_stepEnds_34 rfl ?_
    refine aj_ldc2 (z := 2) C (wd1276) rfl dX11_stepEnds_35 ?_
    obtain ⟨r0, h⟩ := h
    refine aj_ldivN C dX11_stepEnds_38 r0 (by decide) ?_
    refine aj_l2i C dX11_stepEnds_39 ?_
    obtain ⟨r0, h⟩ := h
    refine aj_iald C (aj_ca (e := 0) (n := 12) (j := 7) (aj_cf (x := 6) (y := 0) (j := 1) hq0 (by decide) rfl) (by decide) rfl) (by decide) r0 dX11_stepEnds_40 rfl ?_
    exact aj_iret C K dX11_stepEnds_41 ⟨_, rfl, h⟩
  · have h := h2 e
    refine aj_aload_n C dX11_stepEnds_10 rfl ?_
    refine aj_getO (x := 6) (y := 0) C flX11_19 hq0 rfl dX11_stepEnds_11 ?_
    refine aj_getA (x := 0) (y := 12) C flX11_124 (aj_cf (x := 6) (y := 0) (j := 1) hq0 (by decide) rfl) rfl dX11_stepEnds_14 ?_
    refine aj_lload_n C dX11_stepEnds_17 rfl ?_
    refine aj_ldc2 (z := 2) C (wd1276) rfl dX11_stepEnds_18 ?_
    obtain ⟨r0, h⟩ := h
    refine aj_ldivN C dX11_stepEnds_21 r0 (by decide) ?_
    refine aj_l2i C dX11_stepEnds_22 ?_
    obtain ⟨r0, h⟩ := h
    refine aj_iald C (aj_ca (e := 0) (n := 12) (j := 8) (aj_cf (x := 6) (y := 0) (j := 1) hq0 (by decide) rfl) (by decide) rfl) (by decide) r0 dX11_stepEnds_23 rfl ?_
    refine aj_goto (tgt := 41) C dX11_stepEnds_24 (by decide) ?_
    exact aj_iret C K dX11_stepEnds_41 ⟨_, rfl, h⟩
theorem dX11_gathered_0 : decode cX11_gathered 0 = .ok (.aload_n 1, 1) := by decide +kernel
theorem dX11_gathered_1 : decode cX11_gathered 1 = .ok (.getfield 198, 3) := by decide +kernel
theorem dX11_gathered_4 : decode cX11_gathered 4 = .ok (.iconst 1, 1) := by decide +kernel
theorem dX11_gathered_5 : decode cX11_gathered 5 = .ok (.if_icmp .lt 12, 3) := by decide +kernel
theorem dX11_gathered_8 : decode cX11_gathered 8 = .ok (.aload_n 1, 1) := by decide +kernel
theorem dX11_gathered_9 : decode cX11_gathered 9 = .ok (.getfield 198, 3) := by decide +kernel
theorem dX11_gathered_12 : decode cX11_gathered 12 = .ok (.bipush 12, 2) := by decide +kernel
theorem dX11_gathered_14 : decode cX11_gathered 14 = .ok (.if_icmp .le 6, 3) := by decide +kernel
theorem dX11_gathered_17 : decode cX11_gathered 17 = .ok (.bipush (-4), 2) := by decide +kernel
theorem dX11_gathered_19 : decode cX11_gathered 19 = .ok (.ireturn, 1) := by decide +kernel
theorem dX11_gathered_20 : decode cX11_gathered 20 = .ok (.iconst 0, 1) := by decide +kernel
theorem dX11_gathered_21 : decode cX11_gathered 21 = .ok (.istore_n 2, 1) := by decide +kernel
theorem dX11_gathered_22 : decode cX11_gathered 22 = .ok (.iconst (-1), 1) := by decide +kernel
theorem dX11_gathered_23 : decode cX11_gathered 23 = .ok (.istore_n 3, 1) := by decide +kernel
theorem dX11_gathered_24 : decode cX11_gathered 24 = .ok (.iconst 0, 1) := by decide +kernel
theorem dX11_gathered_25 : decode cX11_gathered 25 = .ok (.istore 4, 2) := by decide +kernel
theorem dX11_gathered_27 : decode cX11_gathered 27 = .ok (.iload 4, 2) := by decide +kernel
theorem dX11_gathered_29 : decode cX11_gathered 29 = .ok (.aload_n 1, 1) := by decide +kernel
theorem dX11_gathered_30 : decode cX11_gathered 30 = .ok (.getfield 198, 3) := by decide +kernel
theorem dX11_gathered_33 : decode cX11_gathered 33 = .ok (.if_icmp .ge 126, 3) := by decide +kernel
theorem dX11_gathered_36 : decode cX11_gathered 36 = .ok (.aload_n 1, 1) := by decide +kernel
theorem dX11_gathered_37 : decode cX11_gathered 37 = .ok (.getfield 201, 3) := by decide +kernel
theorem dX11_gathered_40 : decode cX11_gathered 40 = .ok (.iload 4, 2) := by decide +kernel
theorem dX11_gathered_42 : decode cX11_gathered 42 = .ok (.laload, 1) := by decide +kernel
theorem dX11_gathered_43 : decode cX11_gathered 43 = .ok (.lstore 5, 2) := by decide +kernel
theorem dX11_gathered_45 : decode cX11_gathered 45 = .ok (.lload 5, 2) := by decide +kernel
theorem dX11_gathered_47 : decode cX11_gathered 47 = .ok (.lconst 0, 1) := by decide +kernel
theorem dX11_gathered_48 : decode cX11_gathered 48 = .ok (.lcmp, 1) := by decide +kernel
theorem dX11_gathered_49 : decode cX11_gathered 49 = .ok (.ifCond .lt 36, 3) := by decide +kernel
theorem dX11_gathered_52 : decode cX11_gathered 52 = .ok (.lload 5, 2) := by decide +kernel
theorem dX11_gathered_54 : decode cX11_gathered 54 = .ok (.ldc2_w 422, 3) := by decide +kernel
theorem dX11_gathered_57 : decode cX11_gathered 57 = .ok (.aload_n 0, 1) := by decide +kernel
theorem dX11_gathered_58 : decode cX11_gathered 58 = .ok (.getfield 19, 3) := by decide +kernel
theorem dX11_gathered_61 : decode cX11_gathered 61 = .ok (.getfield 368, 3) := by decide +kernel
theorem dX11_gathered_64 : decode cX11_gathered 64 = .ok (.i2l, 1) := by decide +kernel
theorem dX11_gathered_65 : decode cX11_gathered 65 = .ok (.lmul, 1) := by decide +kernel
theorem dX11_gathered_66 : decode cX11_gathered 66 = .ok (.lcmp, 1) := by decide +kernel
theorem dX11_gathered_67 : decode cX11_gathered 67 = .ok (.ifCond .ge 18, 3) := by decide +kernel
theorem dX11_gathered_70 : decode cX11_gathered 70 = .ok (.iload_n 3, 1) := by decide +kernel
theorem dX11_gathered_71 : decode cX11_gathered 71 = .ok (.iconst (-1), 1) := by decide +kernel
theorem dX11_gathered_72 : decode cX11_gathered 72 = .ok (.if_icmp .eq 16, 3) := by decide +kernel
theorem dX11_gathered_75 : decode cX11_gathered 75 = .ok (.iload_n 3, 1) := by decide +kernel
theorem dX11_gathered_76 : decode cX11_gathered 76 = .ok (.aload_n 0, 1) := by decide +kernel
theorem dX11_gathered_77 : decode cX11_gathered 77 = .ok (.lload 5, 2) := by decide +kernel
theorem dX11_gathered_79 : decode cX11_gathered 79 = .ok (.invokevirtual 320, 3) := by decide +kernel
theorem dX11_gathered_82 : decode cX11_gathered 82 = .ok (.if_icmp .eq 6, 3) := by decide +kernel
theorem dX11_gathered_85 : decode cX11_gathered 85 = .ok (.bipush (-3), 2) := by decide +kernel
theorem dX11_gathered_87 : decode cX11_gathered 87 = .ok (.ireturn, 1) := by decide +kernel
theorem dX11_gathered_88 : decode cX11_gathered 88 = .ok (.aload_n 0, 1) := by decide +kernel
theorem dX11_gathered_89 : decode cX11_gathered 89 = .ok (.getfield 26, 3) := by decide +kernel
theorem dX11_gathered_92 : decode cX11_gathered 92 = .ok (.getfield 127, 3) := by decide +kernel
theorem dX11_gathered_95 : decode cX11_gathered 95 = .ok (.lload 5, 2) := by decide +kernel
theorem dX11_gathered_97 : decode cX11_gathered 97 = .ok (.ldc2_w 422, 3) := by decide +kernel
theorem dX11_gathered_100 : decode cX11_gathered 100 = .ok (.ldiv, 1) := by decide +kernel
theorem dX11_gathered_101 : decode cX11_gathered 101 = .ok (.l2i, 1) := by decide +kernel
theorem dX11_gathered_102 : decode cX11_gathered 102 = .ok (.iaload, 1) := by decide +kernel
theorem dX11_gathered_103 : decode cX11_gathered 103 = .ok (.istore 7, 2) := by decide +kernel
theorem dX11_gathered_105 : decode cX11_gathered 105 = .ok (.aload_n 0, 1) := by decide +kernel
theorem dX11_gathered_106 : decode cX11_gathered 106 = .ok (.getfield 19, 3) := by decide +kernel
theorem dX11_gathered_109 : decode cX11_gathered 109 = .ok (.getfield 136, 3) := by decide +kernel
theorem dX11_gathered_112 : decode cX11_gathered 112 = .ok (.iload_n 2, 1) := by decide +kernel
theorem dX11_gathered_113 : decode cX11_gathered 113 = .ok (.lload 5, 2) := by decide +kernel
theorem dX11_gathered_115 : decode cX11_gathered 115 = .ok (.ldc2_w 422, 3) := by decide +kernel
theorem dX11_gathered_118 : decode cX11_gathered 118 = .ok (.lrem, 1) := by decide +kernel
theorem dX11_gathered_119 : decode cX11_gathered 119 = .ok (.lconst 0, 1) := by decide +kernel
theorem dX11_gathered_120 : decode cX11_gathered 120 = .ok (.lcmp, 1) := by decide +kernel
theorem dX11_gathered_121 : decode cX11_gathered 121 = .ok (.ifCond .ne 8, 3) := by decide +kernel
theorem dX11_gathered_124 : decode cX11_gathered 124 = .ok (.iload 7, 2) := by decide +kernel
theorem dX11_gathered_126 : decode cX11_gathered 126 = .ok (.goto 16, 3) := by decide +kernel
theorem dX11_gathered_129 : decode cX11_gathered 129 = .ok (.aload_n 0, 1) := by decide +kernel
theorem dX11_gathered_130 : decode cX11_gathered 130 = .ok (.getfield 19, 3) := by decide +kernel
theorem dX11_gathered_133 : decode cX11_gathered 133 = .ok (.getfield 136, 3) := by decide +kernel
theorem dX11_gathered_136 : decode cX11_gathered 136 = .ok (.getfield 149, 3) := by decide +kernel
theorem dX11_gathered_139 : decode cX11_gathered 139 = .ok (.iload 7, 2) := by decide +kernel
theorem dX11_gathered_141 : decode cX11_gathered 141 = .ok (.iaload, 1) := by decide +kernel
theorem dX11_gathered_142 : decode cX11_gathered 142 = .ok (.invokevirtual 145, 3) := by decide +kernel
theorem dX11_gathered_145 : decode cX11_gathered 145 = .ok (.istore_n 2, 1) := by decide +kernel
theorem dX11_gathered_146 : decode cX11_gathered 146 = .ok (.aload_n 0, 1) := by decide +kernel
theorem dX11_gathered_147 : decode cX11_gathered 147 = .ok (.lload 5, 2) := by decide +kernel
theorem dX11_gathered_149 : decode cX11_gathered 149 = .ok (.invokevirtual 324, 3) := by decide +kernel
theorem dX11_gathered_152 : decode cX11_gathered 152 = .ok (.istore_n 3, 1) := by decide +kernel
theorem dX11_gathered_153 : decode cX11_gathered 153 = .ok (.iinc 4 1, 3) := by decide +kernel
theorem dX11_gathered_156 : decode cX11_gathered 156 = .ok (.goto (-129), 3) := by decide +kernel
theorem dX11_gathered_159 : decode cX11_gathered 159 = .ok (.iload_n 2, 1) := by decide +kernel
theorem dX11_gathered_160 : decode cX11_gathered 160 = .ok (.ireturn, 1) := by decide +kernel
def hX11_gathered_88 (f : Nat) (Φ : Int → aj_M → Prop) (K27 : List Nat → List Nat → Int → Int → Int → aj_M → Prop) (q0 : List Nat) (q1 : List Nat) (v2 : Int) (v4 : Int) (w5 : Int) (m : aj_M) : Prop := (0 ≤ w5 ∧ w5 < 9223372036854775808) ∧ (0 ≤ (w5 / 2) ∧ (w5 / 2) < 12) ∧ (0 ≤ w5 ∧ w5 < 9223372036854775808) ∧ rL (w5 % 2) ∧ (¬ (w5 % 2) = 0 → (0 ≤ (m (0 :: (2 :: q0)) (w5 / 2).toNat) ∧ (m (0 :: (2 :: q0)) (w5 / 2).toNat) < 12) ∧ wX0_times f (fun z1 m1 => wX11_stepEnds f (fun z2 m2 => K27 q0 q1 z1 z2 (v4 + 1) m2) q0 w5 m1) (0 :: (1 :: q0)) v2 (m (2 :: (0 :: (1 :: q0))) (m (0 :: (2 :: q0)) (w5 / 2).toNat).toNat) m) ∧ ((w5 % 2) = 0 → wX0_times f (fun z3 m3 => wX11_stepEnds f (fun z4 m4 => K27 q0 q1 z3 z4 (v4 + 1) m4) q0 w5 m3) (0 :: (1 :: q0)) v2 (m (0 :: (2 :: q0)) (w5 / 2).toNat) m)
set_option maxHeartbeats 4000000 in
set_option maxRecDepth 100000 in
theorem tX11_gathered_88 {X : aj_T} {n f : Nat} {Φ : Int → aj_M → Prop} (C : aj_Cx X cX11_gathered RX11 8 (n + 2)) (K : aj_Rt X (some .int) (fun r m => ∃ z, r = some (vI z) ∧ Φ z m)) {K27 : List Nat → List Nat → Int → Int → Int → aj_M → Prop} (HK27 : ∀ (q0 : List Nat) (q1 : List Nat) (v2 : Int) (v3 : Int) (v4 : Int) (m : aj_M) (hq0 : (.inl (11, q0) : aj_R) ∈ aj_pls) (hq1 : (.inl (10, q1) : aj_R) ∈ aj_pls), K27 q0 q1 v2 v3 v4 m → aj_J X 27 [some (vO 11 q0), some (vO 10 q1), some (vI v2), some (vI v3), some (vI v4), none, none, none] [] m) (q0 : List Nat) (q1 : List Nat) (v2 : Int) (v4 : Int) (w5 : Int) (m : aj_M) (hq0 : (.inl (11, q0) : aj_R) ∈ aj_pls) (hq1 : (.inl (10, q1) : aj_R) ∈ aj_pls) (h : hX11_gathered_88 f Φ K27 q0 q1 v2 v4 w5 m) : aj_J X 88 [some (vO 11 q0), some (vO 10 q1), some (vI v2), none, some (vI v4), some (vL w5), none, none] [] m := by
  unfold hX11_gathered_88 at h
  refine aj_aload_n C dX11_gathered_88 rfl ?_
  refine aj_getO (x := 9) (y := 0) C flX11_26 hq0 rfl dX11_gathered_89 ?_
  refine aj_getA (x := 0) (y := 12) C flX11_127 (aj_cf (x := 9) (y := 0) (j := 2) hq0 (by decide) rfl) rfl dX11_gathered_92 ?_
  refine aj_lload C dX11_gathered_95 rfl ?_
  refine aj_ldc2 (z := 2) C (wd1276) rfl dX11_gathered_97 ?_
  obtain ⟨r0, h⟩ := h
  refine aj_ldivN C dX11_gathered_100 r0 (by decide) ?_
  refine aj_l2i C dX11_gathered_101 ?_
  obtain ⟨r0, h⟩ := h
  refine aj_iald C (aj_ca (e := 0) (n := 12) (j := 0) (aj_cf (x := 9) (y := 0) (j := 2) hq0 (by decide) rfl) (by decide) rfl) (by decide) r0 dX11_gathered_102 rfl ?_
  refine aj_istore (lv' := [some (vO 11 q0), some (vO 10 q1), some (vI v2), none, some (vI v4), some (vL w5), none, some (vI (m (0 :: (2 :: q0)) (w5 / 2).toNat))]) C dX11_gathered_103 (by decide) rfl ?_
  refine aj_aload_n C dX11_gathered_105 rfl ?_
  refine aj_getO (x := 6) (y := 0) C flX11_19 hq0 rfl dX11_gathered_106 ?_
  refine aj_getO (x := 0) (y := 0) C flX11_136 (aj_cf (x := 6) (y := 0) (j := 1) hq0 (by decide) rfl) rfl dX11_gathered_109 ?_
  refine aj_iload_n C dX11_gathered_112 rfl ?_
  refine aj_lload C dX11_gathered_113 rfl ?_
  refine aj_ldc2 (z := 2) C (wd1276) rfl dX11_gathered_115 ?_
  obtain ⟨r0, h⟩ := h
  refine aj_lremN C dX11_gathered_118 r0 (by decide) ?_
  refine aj_lconst (z := 0) C dX11_gathered_119 rfl ?_
  obtain ⟨r0, h1, h2⟩ := h
  refine aj_lcmp_ne (tgt := 129) C dX11_gathered_120 dX11_gathered_121 (by decide) r0 (by decide) (fun e => ?_) (fun e => ?_)
  · have h := h1 e
    refine aj_aload_n C dX11_gathered_129 rfl ?_
    refine aj_getO (x := 6) (y := 0) C flX11_19 hq0 rfl dX11_gathered_130 ?_
    refine aj_getO (x := 0) (y := 0) C flX11_136 (aj_cf (x := 6) (y := 0) (j := 1) hq0 (by decide) rfl) rfl dX11_gathered_133 ?_
    refine aj_getA (x := 0) (y := 12) C flX11_149 (aj_cf (x := 0) (y := 0) (j := 0) (aj_cf (x := 6) (y := 0) (j := 1) hq0 (by decide) rfl) (by decide) rfl) rfl dX11_gathered_136 ?_
    refine aj_iload C dX11_gathered_139 rfl ?_
    obtain ⟨r0, h⟩ := h
    refine aj_iald C (aj_ca (e := 0) (n := 12) (j := 2) (aj_cf (x := 0) (y := 0) (j := 0) (aj_cf (x := 6) (y := 0) (j := 1) hq0 (by decide) rfl) (by decide) rfl) (by decide) rfl) (by decide) r0 dX11_gathered_141 rfl ?_
    refine aj_callV (rest := []) C mvX11_145 (sX0_times (aj_cf (x := 0) (y := 0) (j := 0) (aj_cf (x := 6) (y := 0) (j := 1) hq0 (by decide) rfl) (by decide) rfl) h) (aj_cf (x := 0) (y := 0) (j := 0) (aj_cf (x := 6) (y := 0) (j := 1) hq0 (by decide) rfl) (by decide) rfl) (aj_np 2 (by decide +kernel) rfl) (Nat.le_of_ble_eq_true rfl) rfl dX11_gathered_142 (fun r m1 h => ?_)
    obtain ⟨z1, rfl, h⟩ := h
    refine aj_istore_n (lv' := [some (vO 11 q0), some (vO 10 q1), some (vI z1), none, some (vI v4), some (vL w5), none, some (vI (m (0 :: (2 :: q0)) (w5 / 2).toNat))]) C dX11_gathered_145 (by decide) rfl ?_
    refine aj_aload_n C dX11_gathered_146 rfl ?_
    refine aj_lload C dX11_gathered_147 rfl ?_
    refine aj_callV (rest := []) C mvX11_324 (sX11_stepEnds hq0 h) hq0 (aj_np 1 (by decide +kernel) rfl) (Nat.le_of_ble_eq_true rfl) rfl dX11_gathered_149 (fun r m2 h => ?_)
    obtain ⟨z2, rfl, h⟩ := h
    refine aj_istore_n (lv' := [some (vO 11 q0), some (vO 10 q1), some (vI z1), some (vI z2), some (vI v4), some (vL w5), none, some (vI (m (0 :: (2 :: q0)) (w5 / 2).toNat))]) C dX11_gathered_152 (by decide) rfl ?_
    refine aj_iinc (lv' := [some (vO 11 q0), some (vO 10 q1), some (vI z1), some (vI z2), some (vI (v4 + 1)), some (vL w5), none, some (vI (m (0 :: (2 :: q0)) (w5 / 2).toNat))]) C dX11_gathered_153 rfl (by decide) rfl ?_
    refine aj_goto (tgt := 27) C dX11_gathered_156 (by decide) ?_
    refine aj_wk (lv' := [some (vO 11 q0), some (vO 10 q1), some (vI z1), some (vI z2), some (vI (v4 + 1)), none, none, none]) (⟨rfl, ⟨rfl, ⟨rfl, ⟨rfl, ⟨rfl, trivial⟩⟩⟩⟩⟩) ?_
    exact HK27 q0 q1 z1 z2 (v4 + 1) _ hq0 hq1 h
  · have h := h2 e
    refine aj_iload C dX11_gathered_124 rfl ?_
    refine aj_goto (tgt := 142) C dX11_gathered_126 (by decide) ?_
    refine aj_callV (rest := []) C mvX11_145 (sX0_times (aj_cf (x := 0) (y := 0) (j := 0) (aj_cf (x := 6) (y := 0) (j := 1) hq0 (by decide) rfl) (by decide) rfl) h) (aj_cf (x := 0) (y := 0) (j := 0) (aj_cf (x := 6) (y := 0) (j := 1) hq0 (by decide) rfl) (by decide) rfl) (aj_np 2 (by decide +kernel) rfl) (Nat.le_of_ble_eq_true rfl) rfl dX11_gathered_142 (fun r m3 h => ?_)
    obtain ⟨z3, rfl, h⟩ := h
    refine aj_istore_n (lv' := [some (vO 11 q0), some (vO 10 q1), some (vI z3), none, some (vI v4), some (vL w5), none, some (vI (m (0 :: (2 :: q0)) (w5 / 2).toNat))]) C dX11_gathered_145 (by decide) rfl ?_
    refine aj_aload_n C dX11_gathered_146 rfl ?_
    refine aj_lload C dX11_gathered_147 rfl ?_
    refine aj_callV (rest := []) C mvX11_324 (sX11_stepEnds hq0 h) hq0 (aj_np 1 (by decide +kernel) rfl) (Nat.le_of_ble_eq_true rfl) rfl dX11_gathered_149 (fun r m4 h => ?_)
    obtain ⟨z4, rfl, h⟩ := h
    refine aj_istore_n (lv' := [some (vO 11 q0), some (vO 10 q1), some (vI z3), some (vI z4), some (vI v4), some (vL w5), none, some (vI (m (0 :: (2 :: q0)) (w5 / 2).toNat))]) C dX11_gathered_152 (by decide) rfl ?_
    refine aj_iinc (lv' := [some (vO 11 q0), some (vO 10 q1), some (vI z3), some (vI z4), some (vI (v4 + 1)), some (vL w5), none, some (vI (m (0 :: (2 :: q0)) (w5 / 2).toNat))]) C dX11_gathered_153 rfl (by decide) rfl ?_
    refine aj_goto (tgt := 27) C dX11_gathered_156 (by decide) ?_
    refine aj_wk (lv' := [some (vO 11 q0), some (vO 10 q1), some (vI z3), some (vI z4), some (vI (v4 + 1)), none, none, none]) (⟨rfl, ⟨rfl, ⟨rfl, ⟨rfl, ⟨rfl, trivial⟩⟩⟩⟩⟩) ?_
    exact HK27 q0 q1 z3 z4 (v4 + 1) _ hq0 hq1 h
def hX11_gathered_27 (f : Nat) (Φ : Int → aj_M → Prop) : Nat → List Nat → List Nat → Int → Int → Int → aj_M → Prop
  | 0, _, _, _, _, _, _ => False
  | k + 1, q0, q1, v2, v3, v4, m => rI v4 ∧ rI (m q1 2) ∧ ((m q1 2) ≤ v4 → Φ v2 m) ∧ (¬ ((m q1 2) ≤ v4) → (0 ≤ v4 ∧ v4 < 40) ∧ rL (m (0 :: q1) v4.toNat) ∧ ((m (0 :: q1) v4.toNat) < 0 → Φ (-3) m) ∧ (¬ ((m (0 :: q1) v4.toNat) < 0) → rI (m (1 :: q0) 4) ∧ rL (m (0 :: q1) v4.toNat) ∧ rL (2 * (m (1 :: q0) 4)) ∧ ((2 * (m (1 :: q0) 4)) ≤ (m (0 :: q1) v4.toNat) → Φ (-3) m) ∧ (¬ ((2 * (m (1 :: q0) 4)) ≤ (m (0 :: q1) v4.toNat)) → rI v3 ∧ (v3 = (-1) → hX11_gathered_88 f Φ (fun q0 q1 v2 v3 v4 m => hX11_gathered_27 f Φ k q0 q1 v2 v3 v4 m) q0 q1 v2 v4 (m (0 :: q1) v4.toNat) m) ∧ (¬ (v3 = (-1)) → wX11_stepBegins f (fun z1 m1 => rI v3 ∧ rI z1 ∧ (v3 = z1 → hX11_gathered_88 f Φ (fun q0 q1 v2 v3 v4 m => hX11_gathered_27 f Φ k q0 q1 v2 v3 v4 m) q0 q1 v2 v4 (m (0 :: q1) v4.toNat) m1) ∧ (¬ (v3 = z1) → Φ (-3) m1)) q0 (m (0 :: q1) v4.toNat) m))))
set_option maxHeartbeats 4000000 in
set_option maxRecDepth 100000 in
theorem tX11_gathered_27 {X : aj_T} {n f : Nat} {Φ : Int → aj_M → Prop} (C : aj_Cx X cX11_gathered RX11 8 (n + 2)) (K : aj_Rt X (some .int) (fun r m => ∃ z, r = some (vI z) ∧ Φ z m)) : ∀ (k : Nat) (q0 : List Nat) (q1 : List Nat) (v2 : Int) (v3 : Int) (v4 : Int) (m : aj_M) (hq0 : (.inl (11, q0) : aj_R) ∈ aj_pls) (hq1 : (.inl (10, q1) : aj_R) ∈ aj_pls), hX11_gathered_27 f Φ k q0 q1 v2 v3 v4 m → aj_J X 27 [some (vO 11 q0), some (vO 10 q1), some (vI v2), some (vI v3), some (vI v4), none, none, none] [] m := by
  intro k
  induction k with
  | zero =>
    intro q0 q1 v2 v3 v4 m _ _ h
    exact h.elim
  | succ k ih =>
    intro q0 q1 v2 v3 v4 m hq0 hq1 h
    unfold hX11_gathered_27 at h
    refine aj_iload C dX11_gathered_27 rfl ?_
    refine aj_aload_n C dX11_gathered_29 rfl ?_
    refine aj_getI C flX11_198 hq1 (by decide) dX11_gathered_30 rfl ?_
    obtain ⟨r0, r1, h1, h2⟩ := h
    refine aj_icmp_ge (tgt := 159) C dX11_gathered_33 (by decide) r0 r1 (fun e => ?_) (fun e => ?_)
    · have h := h1 e
      refine aj_iload_n C dX11_gathered_159 rfl ?_
      exact aj_iret C K dX11_gathered_160 ⟨_, rfl, h⟩
    · have h := h2 e
      refine aj_aload_n C dX11_gathered_36 rfl ?_
      refine aj_getA (x := 3) (y := 40) C flX11_201 hq1 rfl dX11_gathered_37 ?_
      refine aj_iload C dX11_gathered_40 rfl ?_
      obtain ⟨r0, h⟩ := h
      refine aj_lald C (aj_ca (e := 3) (n := 40) (j := 0) hq1 (by decide) rfl) (by decide) r0 dX11_gathered_42 rfl ?_
      refine aj_lstore (lv' := [some (vO 11 q0), some (vO 10 q1), some (vI v2), some (vI v3), some (vI v4), some (vL (m (0 :: q1) v4.toNat)), none, none]) C dX11_gathered_43 (by decide) rfl ?_
      refine aj_lload C dX11_gathered_45 rfl ?_
      refine aj_lconst (z := 0) C dX11_gathered_47 rfl ?_
      obtain ⟨r0, h1, h2⟩ := h
      refine aj_lcmp_lt (tgt := 85) C dX11_gathered_48 dX11_gathered_49 (by decide) r0 (by decide) (fun e => ?_) (fun e => ?_)
      · have h := h1 e
        refine aj_bipush C dX11_gathered_85 (by decide) ?_
        exact aj_iret C K dX11_gathered_87 ⟨_, rfl, h⟩
      · have h := h2 e
        refine aj_lload C dX11_gathered_52 rfl ?_
        refine aj_ldc2 (z := 2) C (wd1276) rfl dX11_gathered_54 ?_
        refine aj_aload_n C dX11_gathered_57 rfl ?_
        refine aj_getO (x := 6) (y := 0) C flX11_19 hq0 rfl dX11_gathered_58 ?_
        refine aj_getI C flX11_368 (aj_cf (x := 6) (y := 0) (j := 1) hq0 (by decide) rfl) (by decide) dX11_gathered_61 rfl ?_
        obtain ⟨r0, h⟩ := h
        refine aj_i2l C dX11_gathered_64 r0 ?_
        refine aj_lmul C dX11_gathered_65 ?_
        obtain ⟨r0, r1, h1, h2⟩ := h
        refine aj_lcmp_ge (tgt := 85) C dX11_gathered_66 dX11_gathered_67 (by decide) r0 r1 (fun e => ?_) (fun e => ?_)
        · have h := h1 e
          refine aj_bipush C dX11_gathered_85 (by decide) ?_
          exact aj_iret C K dX11_gathered_87 ⟨_, rfl, h⟩
        · have h := h2 e
          refine aj_iload_n C dX11_gathered_70 rfl ?_
          refine aj_iconst C dX11_gathered_71 ?_
          obtain ⟨r0, h1, h2⟩ := h
          refine aj_icmp_eq (tgt := 88) C dX11_gathered_72 (by decide) r0 (by decide) (fun e => ?_) (fun e => ?_)
          · have h := h1 e
            refine aj_wk (lv' := [some (vO 11 q0), some (vO 10 q1), some (vI v2), none, some (vI v4), some (vL (m (0 :: q1) v4.toNat)), none, none]) (⟨rfl, ⟨rfl, ⟨rfl, ⟨rfl, ⟨rfl, trivial⟩⟩⟩⟩⟩) ?_
            exact tX11_gathered_88 C K (fun q0 q1 v2 v3 v4 m hq0 hq1 hh => ih q0 q1 v2 v3 v4 m hq0 hq1 hh) q0 q1 v2 v4 (m (0 :: q1) v4.toNat) _ hq0 hq1 h
          · have h := h2 e
            refine aj_iload_n C dX11_gathered_75 rfl ?_
            refine aj_aload_n C dX11_gathered_76 rfl ?_
            refine aj_lload C dX11_gathered_77 rfl ?_
            refine aj_callV (rest := [vI v3]) C mvX11_320 (sX11_stepBegins hq0 h) hq0 (aj_np 1 (by decide +kernel) rfl) (Nat.le_of_ble_eq_true rfl) rfl dX11_gathered_79 (fun r m1 h => ?_)
            obtain ⟨z1, rfl, h⟩ := h
            obtain ⟨r0, r1, h1, h2⟩ := h
            refine aj_icmp_eq (tgt := 88) C dX11_gathered_82 (by decide) r0 r1 (fun e => ?_) (fun e => ?_)
            · have h := h1 e
              refine aj_wk (lv' := [some (vO 11 q0), some (vO 10 q1), some (vI v2), none, some (vI v4), some (vL (m (0 :: q1) v4.toNat)), none, none]) (⟨rfl, ⟨rfl, ⟨rfl, ⟨rfl, ⟨rfl, trivial⟩⟩⟩⟩⟩) ?_
              exact tX11_gathered_88 C K (fun q0 q1 v2 v3 v4 m hq0 hq1 hh => ih q0 q1 v2 v3 v4 m hq0 hq1 hh) q0 q1 v2 v4 (m (0 :: q1) v4.toNat) _ hq0 hq1 h
            · have h := h2 e
              refine aj_bipush C dX11_gathered_85 (by decide) ?_
              exact aj_iret C K dX11_gathered_87 ⟨_, rfl, h⟩
def wX11_gathered (f : Nat) (Φ : Int → aj_M → Prop) (q0 : List Nat) (q1 : List Nat) (m : aj_M) : Prop := rI (m q1 2) ∧ ((m q1 2) < 1 → Φ (-4) m) ∧ (¬ ((m q1 2) < 1) → rI (m q1 2) ∧ ((m q1 2) ≤ 12 → hX11_gathered_27 f Φ f q0 q1 0 (-1) 0 m) ∧ (¬ ((m q1 2) ≤ 12) → Φ (-4) m))
set_option maxHeartbeats 4000000 in
set_option maxRecDepth 100000 in
theorem sX11_gathered {n f : Nat} {Φ : Int → aj_M → Prop} {q0 : List Nat} {q1 : List Nat} {m : aj_M} (hq0 : (.inl (11, q0) : aj_R) ∈ aj_pls) (hq1 : (.inl (10, q1) : aj_R) ∈ aj_pls) (h : wX11_gathered f Φ q0 q1 m) : aj_Ct (n + 2) yX11_gathered cX11_gathered 8 (some .int) [vO 11 q0, vO 10 q1] m (fun r m => ∃ z, r = some (vI z) ∧ Φ z m) := by
  refine aj_met (lv := [some (vO 11 q0), some (vO 10 q1), none, none, none, none, none, none]) (by decide +kernel) rfl (Nat.le_of_ble_eq_true rfl) (fun X C K => ?_)
  unfold wX11_gathered at h
  refine aj_aload_n C dX11_gathered_0 rfl ?_
  refine aj_getI C flX11_198 hq1 (by decide) dX11_gathered_1 rfl ?_
  refine aj_iconst C dX11_gathered_4 ?_
  obtain ⟨r0, h1, h2⟩ := h
  refine aj_icmp_lt (tgt := 17) C dX11_gathered_5 (by decide) r0 (by decide) (fun e => ?_) (fun e => ?_)
  · have h := h1 e
    refine aj_bipush C dX11_gathered_17 (by decide) ?_
    exact aj_iret C K dX11_gathered_19 ⟨_, rfl, h⟩
  · have h := h2 e
    refine aj_aload_n C dX11_gathered_8 rfl ?_
    refine aj_getI C flX11_198 hq1 (by decide) dX11_gathered_9 rfl ?_
    refine aj_bipush C dX11_gathered_12 (by decide) ?_
    obtain ⟨r0, h1, h2⟩ := h
    refine aj_icmp_le (tgt := 20) C dX11_gathered_14 (by decide) r0 (by decide) (fun e => ?_) (fun e => ?_)
    · have h := h1 e
      refine aj_iconst C dX11_gathered_20 ?_
      refine aj_istore_n (lv' := [some (vO 11 q0), some (vO 10 q1), some (vI 0), none, none, none, none, none]) C dX11_gathered_21 (by decide) rfl ?_
      refine aj_iconst C dX11_gathered_22 ?_
      refine aj_istore_n (lv' := [some (vO 11 q0), some (vO 10 q1), some (vI 0), some (vI (-1)), none, none, none, none]) C dX11_gathered_23 (by decide) rfl ?_
      refine aj_iconst C dX11_gathered_24 ?_
      refine aj_istore (lv' := [some (vO 11 q0), some (vO 10 q1), some (vI 0), some (vI (-1)), some (vI 0), none, none, none]) C dX11_gathered_25 (by decide) rfl ?_
      exact tX11_gathered_27 C K f q0 q1 0 (-1) 0 _ hq0 hq1 h
    · have h := h2 e
      refine aj_bipush C dX11_gathered_17 (by decide) ?_
      exact aj_iret C K dX11_gathered_19 ⟨_, rfl, h⟩
theorem dX11_walk_0 : decode cX11_walk 0 = .ok (.aload_n 0, 1) := by decide +kernel
theorem dX11_walk_1 : decode cX11_walk 1 = .ok (.iload_n 1, 1) := by decide +kernel
theorem dX11_walk_2 : decode cX11_walk 2 = .ok (.invokevirtual 222, 3) := by decide +kernel
theorem dX11_walk_5 : decode cX11_walk 5 = .ok (.istore_n 2, 1) := by decide +kernel
theorem dX11_walk_6 : decode cX11_walk 6 = .ok (.iload_n 2, 1) := by decide +kernel
theorem dX11_walk_7 : decode cX11_walk 7 = .ok (.ifCond .eq 7, 3) := by decide +kernel
theorem dX11_walk_10 : decode cX11_walk 10 = .ok (.iload_n 2, 1) := by decide +kernel
theorem dX11_walk_11 : decode cX11_walk 11 = .ok (.goto 13, 3) := by decide +kernel
theorem dX11_walk_14 : decode cX11_walk 14 = .ok (.aload_n 0, 1) := by decide +kernel
theorem dX11_walk_15 : decode cX11_walk 15 = .ok (.aload_n 0, 1) := by decide +kernel
theorem dX11_walk_16 : decode cX11_walk 16 = .ok (.getfield 51, 3) := by decide +kernel
theorem dX11_walk_19 : decode cX11_walk 19 = .ok (.iload_n 1, 1) := by decide +kernel
theorem dX11_walk_20 : decode cX11_walk 20 = .ok (.aaload, 1) := by decide +kernel
theorem dX11_walk_21 : decode cX11_walk 21 = .ok (.invokevirtual 313, 3) := by decide +kernel
theorem dX11_walk_24 : decode cX11_walk 24 = .ok (.ireturn, 1) := by decide +kernel
def wX11_walk (f : Nat) (Φ : Int → aj_M → Prop) (q0 : List Nat) (v1 : Int) (m : aj_M) : Prop := wX11_trayCode f (fun z1 m1 => rI z1 ∧ (z1 = 0 → (0 ≤ v1 ∧ v1 < 4) ∧ wX11_gathered f (fun z2 m2 => Φ z2 m2) q0 (v1.toNat :: (7 :: q0)) m1) ∧ (¬ (z1 = 0) → Φ z1 m1)) q0 v1 m
set_option maxHeartbeats 4000000 in
set_option maxRecDepth 100000 in
theorem sX11_walk {n f : Nat} {Φ : Int → aj_M → Prop} {q0 : List Nat} {v1 : Int} {m : aj_M} (hq0 : (.inl (11, q0) : aj_R) ∈ aj_pls) (h : wX11_walk f Φ q0 v1 m) : aj_Ct (n + 3) yX11_walk cX11_walk 3 (some .int) [vO 11 q0, vI v1] m (fun r m => ∃ z, r = some (vI z) ∧ Φ z m) := by
  refine aj_met (lv := [some (vO 11 q0), some (vI v1), none]) (by decide +kernel) rfl (Nat.le_of_ble_eq_true rfl) (fun X C K => ?_)
  unfold wX11_walk at h
  refine aj_aload_n C dX11_walk_0 rfl ?_
  refine aj_iload_n C dX11_walk_1 rfl ?_
  refine aj_callV (rest := []) C mvX11_222 (sX11_trayCode hq0 h) hq0 (aj_np 1 (by decide +kernel) rfl) (Nat.le_of_ble_eq_true rfl) rfl dX11_walk_2 (fun r m1 h => ?_)
  obtain ⟨z1, rfl, h⟩ := h
  refine aj_istore_n (lv' := [some (vO 11 q0), some (vI v1), some (vI z1)]) C dX11_walk_5 (by decide) rfl ?_
  refine aj_iload_n C dX11_walk_6 rfl ?_
  obtain ⟨r0, h1, h2⟩ := h
  refine aj_if_eq (tgt := 14) C dX11_walk_7 (by decide) r0 (fun e => ?_) (fun e => ?_)
  · have h := h1 e
    refine aj_aload_n C dX11_walk_14 rfl ?_
    refine aj_aload_n C dX11_walk_15 rfl ?_
    refine aj_getA (x := 6) (y := 4) C flX11_51 hq0 rfl dX11_walk_16 ?_
    refine aj_iload_n C dX11_walk_19 rfl ?_
    obtain ⟨r0_1, h⟩ := h
    refine aj_aald (c1 := 10) C (aj_ca (e := 6) (n := 4) (j := 7) hq0 (by decide) rfl) (by decide) (fun _ => rfl) (by decide) r0_1 dX11_walk_20 ?_
    refine aj_callV (rest := []) C mvX11_313 (sX11_gathered hq0 (aj_ce (i := v1.toNat) (aj_ca (e := 6) (n := 4) (j := 7) hq0 (by decide) rfl) rfl (by omega)) h) hq0 (aj_np 1 (by decide +kernel) rfl) (Nat.le_of_ble_eq_true rfl) rfl dX11_walk_21 (fun r m2 h => ?_)
    obtain ⟨z2, rfl, h⟩ := h
    exact aj_iret C K dX11_walk_24 ⟨_, rfl, h⟩
  · have h := h2 e
    refine aj_iload_n C dX11_walk_10 rfl ?_
    refine aj_goto (tgt := 24) C dX11_walk_11 (by decide) ?_
    exact aj_iret C K dX11_walk_24 ⟨_, rfl, h⟩
theorem dX11_lifted_0 : decode cX11_lifted 0 = .ok (.aload_n 0, 1) := by decide +kernel
theorem dX11_lifted_1 : decode cX11_lifted 1 = .ok (.iload_n 1, 1) := by decide +kernel
theorem dX11_lifted_2 : decode cX11_lifted 2 = .ok (.invokevirtual 317, 3) := by decide +kernel
theorem dX11_lifted_5 : decode cX11_lifted 5 = .ok (.istore_n 2, 1) := by decide +kernel
theorem dX11_lifted_6 : decode cX11_lifted 6 = .ok (.aload_n 0, 1) := by decide +kernel
theorem dX11_lifted_7 : decode cX11_lifted 7 = .ok (.getfield 19, 3) := by decide +kernel
theorem dX11_lifted_10 : decode cX11_lifted 10 = .ok (.getfield 136, 3) := by decide +kernel
theorem dX11_lifted_13 : decode cX11_lifted 13 = .ok (.iload_n 2, 1) := by decide +kernel
theorem dX11_lifted_14 : decode cX11_lifted 14 = .ok (.invokevirtual 140, 3) := by decide +kernel
theorem dX11_lifted_17 : decode cX11_lifted 17 = .ok (.ifCond .ne 5, 3) := by decide +kernel
theorem dX11_lifted_20 : decode cX11_lifted 20 = .ok (.iload_n 2, 1) := by decide +kernel
theorem dX11_lifted_21 : decode cX11_lifted 21 = .ok (.ireturn, 1) := by decide +kernel
theorem dX11_lifted_22 : decode cX11_lifted 22 = .ok (.aload_n 0, 1) := by decide +kernel
theorem dX11_lifted_23 : decode cX11_lifted 23 = .ok (.getfield 51, 3) := by decide +kernel
theorem dX11_lifted_26 : decode cX11_lifted 26 = .ok (.iload_n 1, 1) := by decide +kernel
theorem dX11_lifted_27 : decode cX11_lifted 27 = .ok (.aaload, 1) := by decide +kernel
theorem dX11_lifted_28 : decode cX11_lifted 28 = .ok (.astore_n 3, 1) := by decide +kernel
theorem dX11_lifted_29 : decode cX11_lifted 29 = .ok (.aload_n 0, 1) := by decide +kernel
theorem dX11_lifted_30 : decode cX11_lifted 30 = .ok (.aload_n 3, 1) := by decide +kernel
theorem dX11_lifted_31 : decode cX11_lifted 31 = .ok (.getfield 201, 3) := by decide +kernel
theorem dX11_lifted_34 : decode cX11_lifted 34 = .ok (.iconst 0, 1) := by decide +kernel
theorem dX11_lifted_35 : decode cX11_lifted 35 = .ok (.laload, 1) := by decide +kernel
theorem dX11_lifted_36 : decode cX11_lifted 36 = .ok (.invokevirtual 320, 3) := by decide +kernel
theorem dX11_lifted_39 : decode cX11_lifted 39 = .ok (.istore 4, 2) := by decide +kernel
theorem dX11_lifted_41 : decode cX11_lifted 41 = .ok (.aload_n 0, 1) := by decide +kernel
theorem dX11_lifted_42 : decode cX11_lifted 42 = .ok (.aload_n 3, 1) := by decide +kernel
theorem dX11_lifted_43 : decode cX11_lifted 43 = .ok (.getfield 201, 3) := by decide +kernel
theorem dX11_lifted_46 : decode cX11_lifted 46 = .ok (.aload_n 3, 1) := by decide +kernel
theorem dX11_lifted_47 : decode cX11_lifted 47 = .ok (.getfield 198, 3) := by decide +kernel
theorem dX11_lifted_50 : decode cX11_lifted 50 = .ok (.iconst 1, 1) := by decide +kernel
theorem dX11_lifted_51 : decode cX11_lifted 51 = .ok (.isub, 1) := by decide +kernel
theorem dX11_lifted_52 : decode cX11_lifted 52 = .ok (.laload, 1) := by decide +kernel
theorem dX11_lifted_53 : decode cX11_lifted 53 = .ok (.invokevirtual 324, 3) := by decide +kernel
theorem dX11_lifted_56 : decode cX11_lifted 56 = .ok (.istore 5, 2) := by decide +kernel
theorem dX11_lifted_58 : decode cX11_lifted 58 = .ok (.iload 4, 2) := by decide +kernel
theorem dX11_lifted_60 : decode cX11_lifted 60 = .ok (.iload 5, 2) := by decide +kernel
theorem dX11_lifted_62 : decode cX11_lifted 62 = .ok (.if_icmp .ne 23, 3) := by decide +kernel
theorem dX11_lifted_65 : decode cX11_lifted 65 = .ok (.aload_n 3, 1) := by decide +kernel
theorem dX11_lifted_66 : decode cX11_lifted 66 = .ok (.getfield 198, 3) := by decide +kernel
theorem dX11_lifted_69 : decode cX11_lifted 69 = .ok (.aload_n 0, 1) := by decide +kernel
theorem dX11_lifted_70 : decode cX11_lifted 70 = .ok (.getfield 19, 3) := by decide +kernel
theorem dX11_lifted_73 : decode cX11_lifted 73 = .ok (.getfield 136, 3) := by decide +kernel
theorem dX11_lifted_76 : decode cX11_lifted 76 = .ok (.getfield 152, 3) := by decide +kernel
theorem dX11_lifted_79 : decode cX11_lifted 79 = .ok (.iload_n 2, 1) := by decide +kernel
theorem dX11_lifted_80 : decode cX11_lifted 80 = .ok (.iaload, 1) := by decide +kernel
theorem dX11_lifted_81 : decode cX11_lifted 81 = .ok (.imul, 1) := by decide +kernel
theorem dX11_lifted_82 : decode cX11_lifted 82 = .ok (.goto 4, 3) := by decide +kernel
theorem dX11_lifted_85 : decode cX11_lifted 85 = .ok (.iconst (-1), 1) := by decide +kernel
theorem dX11_lifted_86 : decode cX11_lifted 86 = .ok (.ireturn, 1) := by decide +kernel
def wX11_lifted (f : Nat) (Φ : Int → aj_M → Prop) (q0 : List Nat) (v1 : Int) (m : aj_M) : Prop := wX11_walk f (fun z1 m1 => wX0_has f (fun z2 m2 => rI z2 ∧ (¬ z2 = 0 → (0 ≤ v1 ∧ v1 < 4) ∧ wX11_stepBegins f (fun z3 m3 => (0 ≤ ((m3 (v1.toNat :: (7 :: q0)) 2) - 1) ∧ ((m3 (v1.toNat :: (7 :: q0)) 2) - 1) < 40) ∧ wX11_stepEnds f (fun z4 m4 => rI z3 ∧ rI z4 ∧ (¬ z3 = z4 → Φ (-1) m4) ∧ (z3 = z4 → (0 ≤ z1 ∧ z1 < 12) ∧ Φ ((m4 (v1.toNat :: (7 :: q0)) 2) * (m4 (3 :: (0 :: (1 :: q0))) z1.toNat)) m4)) q0 (m3 (0 :: (v1.toNat :: (7 :: q0))) ((m3 (v1.toNat :: (7 :: q0)) 2) - 1).toNat) m3) q0 (m2 (0 :: (v1.toNat :: (7 :: q0))) (0 : Int).toNat) m2) ∧ (z2 = 0 → Φ z1 m2)) (0 :: (1 :: q0)) z1 m1) q0 v1 m
set_option maxHeartbeats 4000000 in
set_option maxRecDepth 100000 in
theorem sX11_lifted {n f : Nat} {Φ : Int → aj_M → Prop} {q0 : List Nat} {v1 : Int} {m : aj_M} (hq0 : (.inl (11, q0) : aj_R) ∈ aj_pls) (h : wX11_lifted f Φ q0 v1 m) : aj_Ct (n + 4) yX11_lifted cX11_lifted 6 (some .int) [vO 11 q0, vI v1] m (fun r m => ∃ z, r = some (vI z) ∧ Φ z m) := by
  refine aj_met (lv := [some (vO 11 q0), some (vI v1), none, none, none, none]) (by decide +kernel) rfl (Nat.le_of_ble_eq_true rfl) (fun X C K => ?_)
  unfold wX11_lifted at h
  refine aj_aload_n C dX11_lifted_0 rfl ?_
  refine aj_iload_n C dX11_lifted_1 rfl ?_
  refine aj_callV (rest := []) C mvX11_317 (sX11_walk hq0 h) hq0 (aj_np 1 (by decide +kernel) rfl) (Nat.le_of_ble_eq_true rfl) rfl dX11_lifted_2 (fun r m1 h => ?_)
  obtain ⟨z1, rfl, h⟩ := h
  refine aj_istore_n (lv' := [some (vO 11 q0), some (vI v1), some (vI z1), none, none, none]) C dX11_lifted_5 (by decide) rfl ?_
  refine aj_aload_n C dX11_lifted_6 rfl ?_
  refine aj_getO (x := 6) (y := 0) C flX11_19 hq0 rfl dX11_lifted_7 ?_
  refine aj_getO (x := 0) (y := 0) C flX11_136 (aj_cf (x := 6) (y := 0) (j := 1) hq0 (by decide) rfl) rfl dX11_lifted_10 ?_
  refine aj_iload_n C dX11_lifted_13 rfl ?_
  refine aj_callV (rest := []) C mvX11_140 (sX0_has (aj_cf (x := 0) (y := 0) (j := 0) (aj_cf (x := 6) (y := 0) (j := 1) hq0 (by decide) rfl) (by decide) rfl) h) (aj_cf (x := 0) (y := 0) (j := 0) (aj_cf (x := 6) (y := 0) (j := 1) hq0 (by decide) rfl) (by decide) rfl) (aj_np 1 (by decide +kernel) rfl) (Nat.le_of_ble_eq_true rfl) rfl dX11_lifted_14 (fun r m2 h => ?_)
  obtain ⟨z2, rfl, h⟩ := h
  obtain ⟨r0, h1, h2⟩ := h
  refine aj_if_ne (tgt := 22) C dX11_lifted_17 (by decide) r0 (fun e => ?_) (fun e => ?_)
  · have h := h1 e
    refine aj_aload_n C dX11_lifted_22 rfl ?_
    refine aj_getA (x := 6) (y := 4) C flX11_51 hq0 rfl dX11_lifted_23 ?_
    refine aj_iload_n C dX11_lifted_26 rfl ?_
    obtain ⟨r0_1, h⟩ := h
    refine aj_aald (c1 := 10) C (aj_ca (e := 6) (n := 4) (j := 7) hq0 (by decide) rfl) (by decide) (fun _ => rfl) (by decide) r0_1 dX11_lifted_27 ?_
    refine aj_astore_n (lv' := [some (vO 11 q0), some (vI v1), some (vI z1), some (vO 10 (v1.toNat :: (7 :: q0))), none, none]) C dX11_lifted_28 (by decide) rfl ?_
    refine aj_aload_n C dX11_lifted_29 rfl ?_
    refine aj_aload_n C dX11_lifted_30 rfl ?_
    refine aj_getA (x := 3) (y := 40) C flX11_201 (aj_ce (i := v1.toNat) (aj_ca (e := 6) (n := 4) (j := 7) hq0 (by decide) rfl) rfl (by omega)) rfl dX11_lifted_31 ?_
    refine aj_iconst C dX11_lifted_34 ?_
    refine aj_lald C (aj_ca (e := 3) (n := 40) (j := 0) (aj_ce (i := v1.toNat) (aj_ca (e := 6) (n := 4) (j := 7) hq0 (by decide) rfl) rfl (by omega)) (by decide) rfl) (by decide) (by decide) dX11_lifted_35 rfl ?_
    refine aj_callV (rest := []) C mvX11_320 (sX11_stepBegins hq0 h) hq0 (aj_np 1 (by decide +kernel) rfl) (Nat.le_of_ble_eq_true rfl) rfl dX11_lifted_36 (fun r m3 h => ?_)
    obtain ⟨z3, rfl, h⟩ := h
    refine aj_istore (lv' := [some (vO 11 q0), some (vI v1), some (vI z1), some (vO 10 (v1.toNat :: (7 :: q0))), some (vI z3), none]) C dX11_lifted_39 (by decide) rfl ?_
    refine aj_aload_n C dX11_lifted_41 rfl ?_
    refine aj_aload_n C dX11_lifted_42 rfl ?_
    refine aj_getA (x := 3) (y := 40) C flX11_201 (aj_ce (i := v1.toNat) (aj_ca (e := 6) (n := 4) (j := 7) hq0 (by decide) rfl) rfl (by omega)) rfl dX11_lifted_43 ?_
    refine aj_aload_n C dX11_lifted_46 rfl ?_
    refine aj_getI C flX11_198 (aj_ce (i := v1.toNat) (aj_ca (e := 6) (n := 4) (j := 7) hq0 (by decide) rfl) rfl (by omega)) (by decide) dX11_lifted_47 rfl ?_
    refine aj_iconst C dX11_lifted_50 ?_
    refine aj_isub C dX11_lifted_51 ?_
    obtain ⟨r0, h⟩ := h
    refine aj_lald C (aj_ca (e := 3) (n := 40) (j := 0) (aj_ce (i := v1.toNat) (aj_ca (e := 6) (n := 4) (j := 7) hq0 (by decide) rfl) rfl (by omega)) (by decide) rfl) (by decide) r0 dX11_lifted_52 rfl ?_
    refine aj_callV (rest := []) C mvX11_324 (sX11_stepEnds hq0 h) hq0 (aj_np 1 (by decide +kernel) rfl) (Nat.le_of_ble_eq_true rfl) rfl dX11_lifted_53 (fun r m4 h => ?_)
    obtain ⟨z4, rfl, h⟩ := h
    refine aj_istore (lv' := [some (vO 11 q0), some (vI v1), some (vI z1), some (vO 10 (v1.toNat :: (7 :: q0))), some (vI z3), some (vI z4)]) C dX11_lifted_56 (by decide) rfl ?_
    refine aj_iload C dX11_lifted_58 rfl ?_
    refine aj_iload C dX11_lifted_60 rfl ?_
    obtain ⟨r0, r1, h1, h2⟩ := h
    refine aj_icmp_ne (tgt := 85) C dX11_lifted_62 (by decide) r0 r1 (fun e => ?_) (fun e => ?_)
    · have h := h1 e
      refine aj_iconst C dX11_lifted_85 ?_
      exact aj_iret C K dX11_lifted_86 ⟨_, rfl, h⟩
    · have h := h2 e
      refine aj_aload_n C dX11_lifted_65 rfl ?_
      refine aj_getI C flX11_198 (aj_ce (i := v1.toNat) (aj_ca (e := 6) (n := 4) (j := 7) hq0 (by decide) rfl) rfl (by omega)) (by decide) dX11_lifted_66 rfl ?_
      refine aj_aload_n C dX11_lifted_69 rfl ?_
      refine aj_getO (x := 6) (y := 0) C flX11_19 hq0 rfl dX11_lifted_70 ?_
      refine aj_getO (x := 0) (y := 0) C flX11_136 (aj_cf (x := 6) (y := 0) (j := 1) hq0 (by decide) rfl) rfl dX11_lifted_73 ?_
      refine aj_getA (x := 0) (y := 12) C flX11_152 (aj_cf (x := 0) (y := 0) (j := 0) (aj_cf (x := 6) (y := 0) (j := 1) hq0 (by decide) rfl) (by decide) rfl) rfl dX11_lifted_76 ?_
      refine aj_iload_n C dX11_lifted_79 rfl ?_
      obtain ⟨r0, h⟩ := h
      refine aj_iald C (aj_ca (e := 0) (n := 12) (j := 3) (aj_cf (x := 0) (y := 0) (j := 0) (aj_cf (x := 6) (y := 0) (j := 1) hq0 (by decide) rfl) (by decide) rfl) (by decide) rfl) (by decide) r0 dX11_lifted_80 rfl ?_
      refine aj_imul C dX11_lifted_81 ?_
      refine aj_goto (tgt := 86) C dX11_lifted_82 (by decide) ?_
      exact aj_iret C K dX11_lifted_86 ⟨_, rfl, h⟩
  · have h := h2 e
    refine aj_iload_n C dX11_lifted_20 rfl ?_
    exact aj_iret C K dX11_lifted_21 ⟨_, rfl, h⟩
theorem dX11_ringBy_0 : decode cX11_ringBy 0 = .ok (.aload_n 0, 1) := by decide +kernel
theorem dX11_ringBy_1 : decode cX11_ringBy 1 = .ok (.getfield 33, 3) := by decide +kernel
theorem dX11_ringBy_4 : decode cX11_ringBy 4 = .ok (.aload_n 0, 1) := by decide +kernel
theorem dX11_ringBy_5 : decode cX11_ringBy 5 = .ok (.getfield 26, 3) := by decide +kernel
theorem dX11_ringBy_8 : decode cX11_ringBy 8 = .ok (.invokevirtual 159, 3) := by decide +kernel
theorem dX11_ringBy_11 : decode cX11_ringBy 11 = .ok (.aload_n 0, 1) := by decide +kernel
theorem dX11_ringBy_12 : decode cX11_ringBy 12 = .ok (.getfield 33, 3) := by decide +kernel
theorem dX11_ringBy_15 : decode cX11_ringBy 15 = .ok (.getfield 127, 3) := by decide +kernel
theorem dX11_ringBy_18 : decode cX11_ringBy 18 = .ok (.iload_n 1, 1) := by decide +kernel
theorem dX11_ringBy_19 : decode cX11_ringBy 19 = .ok (.iload_n 2, 1) := by decide +kernel
theorem dX11_ringBy_20 : decode cX11_ringBy 20 = .ok (.iastore, 1) := by decide +kernel
theorem dX11_ringBy_21 : decode cX11_ringBy 21 = .ok (.aload_n 0, 1) := by decide +kernel
theorem dX11_ringBy_22 : decode cX11_ringBy 22 = .ok (.getfield 65, 3) := by decide +kernel
theorem dX11_ringBy_25 : decode cX11_ringBy 25 = .ok (.aload_n 0, 1) := by decide +kernel
theorem dX11_ringBy_26 : decode cX11_ringBy 26 = .ok (.getfield 19, 3) := by decide +kernel
theorem dX11_ringBy_29 : decode cX11_ringBy 29 = .ok (.aload_n 0, 1) := by decide +kernel
theorem dX11_ringBy_30 : decode cX11_ringBy 30 = .ok (.getfield 33, 3) := by decide +kernel
theorem dX11_ringBy_33 : decode cX11_ringBy 33 = .ok (.invokevirtual 209, 3) := by decide +kernel
theorem dX11_ringBy_36 : decode cX11_ringBy 36 = .ok (.aload_n 0, 1) := by decide +kernel
theorem dX11_ringBy_37 : decode cX11_ringBy 37 = .ok (.getfield 65, 3) := by decide +kernel
theorem dX11_ringBy_40 : decode cX11_ringBy 40 = .ok (.invokevirtual 213, 3) := by decide +kernel
theorem dX11_ringBy_43 : decode cX11_ringBy 43 = .ok (.ireturn, 1) := by decide +kernel
def wX11_ringBy (f : Nat) (Φ : Int → aj_M → Prop) (q0 : List Nat) (v1 : Int) (v2 : Int) (m : aj_M) : Prop := wX9_copyFrom f (fun m1 => (0 ≤ v1 ∧ v1 < 12) ∧ ∀ m2, m2 = aj_u m1 (0 :: (4 :: q0)) v1.toNat v2 → wX5_build f (fun m3 => wX5_shortestRing f (fun z3 m4 => Φ z3 m4) (9 :: q0) m3) (9 :: q0) (1 :: q0) (4 :: q0) m2) (4 :: q0) (2 :: q0) m
set_option maxHeartbeats 4000000 in
set_option maxRecDepth 100000 in
theorem sX11_ringBy {n f : Nat} {Φ : Int → aj_M → Prop} {q0 : List Nat} {v1 : Int} {v2 : Int} {m : aj_M} (hq0 : (.inl (11, q0) : aj_R) ∈ aj_pls) (h : wX11_ringBy f Φ q0 v1 v2 m) : aj_Ct (n + 4) yX11_ringBy cX11_ringBy 3 (some .int) [vO 11 q0, vI v1, vI v2] m (fun r m => ∃ z, r = some (vI z) ∧ Φ z m) := by
  refine aj_met (lv := [some (vO 11 q0), some (vI v1), some (vI v2)]) (by decide +kernel) rfl (Nat.le_of_ble_eq_true rfl) (fun X C K => ?_)
  unfold wX11_ringBy at h
  refine aj_aload_n C dX11_ringBy_0 rfl ?_
  refine aj_getO (x := 9) (y := 0) C flX11_33 hq0 rfl dX11_ringBy_1 ?_
  refine aj_aload_n C dX11_ringBy_4 rfl ?_
  refine aj_getO (x := 9) (y := 0) C flX11_26 hq0 rfl dX11_ringBy_5 ?_
  refine aj_callV (rest := []) C mvX11_159 (sX9_copyFrom (aj_cf (x := 9) (y := 0) (j := 4) hq0 (by decide) rfl) (aj_cf (x := 9) (y := 0) (j := 2) hq0 (by decide) rfl) h) (aj_cf (x := 9) (y := 0) (j := 4) hq0 (by decide) rfl) (aj_np 1 (by decide +kernel) rfl) (Nat.le_of_ble_eq_true rfl) rfl dX11_ringBy_8 (fun r m1 h => ?_)
  obtain ⟨rfl, h⟩ := h
  refine aj_aload_n C dX11_ringBy_11 rfl ?_
  refine aj_getO (x := 9) (y := 0) C flX11_33 hq0 rfl dX11_ringBy_12 ?_
  refine aj_getA (x := 0) (y := 12) C flX11_127 (aj_cf (x := 9) (y := 0) (j := 4) hq0 (by decide) rfl) rfl dX11_ringBy_15 ?_
  refine aj_iload_n C dX11_ringBy_18 rfl ?_
  refine aj_iload_n C dX11_ringBy_19 rfl ?_
  obtain ⟨r0, h⟩ := h
  refine aj_iast C (aj_ca (e := 0) (n := 12) (j := 0) (aj_cf (x := 9) (y := 0) (j := 4) hq0 (by decide) rfl) (by decide) rfl) (by decide) r0 dX11_ringBy_20 ?_
  refine aj_nm (fun m2 e1 => ?_)
  have h := h m2 e1
  refine aj_aload_n C dX11_ringBy_21 rfl ?_
  refine aj_getO (x := 5) (y := 0) C flX11_65 hq0 rfl dX11_ringBy_22 ?_
  refine aj_aload_n C dX11_ringBy_25 rfl ?_
  refine aj_getO (x := 6) (y := 0) C flX11_19 hq0 rfl dX11_ringBy_26 ?_
  refine aj_aload_n C dX11_ringBy_29 rfl ?_
  refine aj_getO (x := 9) (y := 0) C flX11_33 hq0 rfl dX11_ringBy_30 ?_
  refine aj_callV (rest := []) C mvX11_209 (sX5_build (aj_cf (x := 5) (y := 0) (j := 9) hq0 (by decide) rfl) (aj_cf (x := 6) (y := 0) (j := 1) hq0 (by decide) rfl) (aj_cf (x := 9) (y := 0) (j := 4) hq0 (by decide) rfl) h) (aj_cf (x := 5) (y := 0) (j := 9) hq0 (by decide) rfl) (aj_np 2 (by decide +kernel) rfl) (Nat.le_of_ble_eq_true rfl) rfl dX11_ringBy_33 (fun r m3 h => ?_)
  obtain ⟨rfl, h⟩ := h
  refine aj_aload_n C dX11_ringBy_36 rfl ?_
  refine aj_getO (x := 5) (y := 0) C flX11_65 hq0 rfl dX11_ringBy_37 ?_
  refine aj_callV (rest := []) C mvX11_213 (sX5_shortestRing (aj_cf (x := 5) (y := 0) (j := 9) hq0 (by decide) rfl) h) (aj_cf (x := 5) (y := 0) (j := 9) hq0 (by decide) rfl) (aj_np 0 (by decide +kernel) rfl) (Nat.le_of_ble_eq_true rfl) rfl dX11_ringBy_40 (fun r m4 h => ?_)
  obtain ⟨z3, rfl, h⟩ := h
  exact aj_iret C K dX11_ringBy_43 ⟨_, rfl, h⟩
theorem dX11_tune_0 : decode cX11_tune 0 = .ok (.aload_n 0, 1) := by decide +kernel
theorem dX11_tune_1 : decode cX11_tune 1 = .ok (.getfield 19, 3) := by decide +kernel
theorem dX11_tune_4 : decode cX11_tune 4 = .ok (.iload_n 1, 1) := by decide +kernel
theorem dX11_tune_5 : decode cX11_tune 5 = .ok (.invokevirtual 118, 3) := by decide +kernel
theorem dX11_tune_8 : decode cX11_tune 8 = .ok (.ifCond .ne 6, 3) := by decide +kernel
theorem dX11_tune_11 : decode cX11_tune 11 = .ok (.bipush (-2), 2) := by decide +kernel
theorem dX11_tune_13 : decode cX11_tune 13 = .ok (.ireturn, 1) := by decide +kernel
theorem dX11_tune_14 : decode cX11_tune 14 = .ok (.iconst (-1), 1) := by decide +kernel
theorem dX11_tune_15 : decode cX11_tune 15 = .ok (.istore_n 2, 1) := by decide +kernel
theorem dX11_tune_16 : decode cX11_tune 16 = .ok (.iconst 0, 1) := by decide +kernel
theorem dX11_tune_17 : decode cX11_tune 17 = .ok (.istore_n 3, 1) := by decide +kernel
theorem dX11_tune_18 : decode cX11_tune 18 = .ok (.iconst 0, 1) := by decide +kernel
theorem dX11_tune_19 : decode cX11_tune 19 = .ok (.istore 4, 2) := by decide +kernel
theorem dX11_tune_21 : decode cX11_tune 21 = .ok (.iload 4, 2) := by decide +kernel
theorem dX11_tune_23 : decode cX11_tune 23 = .ok (.aload_n 0, 1) := by decide +kernel
theorem dX11_tune_24 : decode cX11_tune 24 = .ok (.getfield 19, 3) := by decide +kernel
theorem dX11_tune_27 : decode cX11_tune 27 = .ok (.getfield 136, 3) := by decide +kernel
theorem dX11_tune_30 : decode cX11_tune 30 = .ok (.getfield 327, 3) := by decide +kernel
theorem dX11_tune_33 : decode cX11_tune 33 = .ok (.if_icmp .ge 43, 3) := by decide +kernel
theorem dX11_tune_36 : decode cX11_tune 36 = .ok (.aload_n 0, 1) := by decide +kernel
theorem dX11_tune_37 : decode cX11_tune 37 = .ok (.getfield 19, 3) := by decide +kernel
theorem dX11_tune_40 : decode cX11_tune 40 = .ok (.iload_n 1, 1) := by decide +kernel
theorem dX11_tune_41 : decode cX11_tune 41 = .ok (.iload 4, 2) := by decide +kernel
theorem dX11_tune_43 : decode cX11_tune 43 = .ok (.invokevirtual 328, 3) := by decide +kernel
theorem dX11_tune_46 : decode cX11_tune 46 = .ok (.ifCond .ne 24, 3) := by decide +kernel
theorem dX11_tune_49 : decode cX11_tune 49 = .ok (.aload_n 0, 1) := by decide +kernel
theorem dX11_tune_50 : decode cX11_tune 50 = .ok (.iload_n 1, 1) := by decide +kernel
theorem dX11_tune_51 : decode cX11_tune 51 = .ok (.iload 4, 2) := by decide +kernel
theorem dX11_tune_53 : decode cX11_tune 53 = .ok (.invokevirtual 331, 3) := by decide +kernel
theorem dX11_tune_56 : decode cX11_tune 56 = .ok (.istore 5, 2) := by decide +kernel
theorem dX11_tune_58 : decode cX11_tune 58 = .ok (.iload 5, 2) := by decide +kernel
theorem dX11_tune_60 : decode cX11_tune 60 = .ok (.iload_n 3, 1) := by decide +kernel
theorem dX11_tune_61 : decode cX11_tune 61 = .ok (.if_icmp .le 9, 3) := by decide +kernel
theorem dX11_tune_64 : decode cX11_tune 64 = .ok (.iload 4, 2) := by decide +kernel
theorem dX11_tune_66 : decode cX11_tune 66 = .ok (.istore_n 2, 1) := by decide +kernel
theorem dX11_tune_67 : decode cX11_tune 67 = .ok (.iload 5, 2) := by decide +kernel
theorem dX11_tune_69 : decode cX11_tune 69 = .ok (.istore_n 3, 1) := by decide +kernel
theorem dX11_tune_70 : decode cX11_tune 70 = .ok (.iinc 4 1, 3) := by decide +kernel
theorem dX11_tune_73 : decode cX11_tune 73 = .ok (.goto (-52), 3) := by decide +kernel
theorem dX11_tune_76 : decode cX11_tune 76 = .ok (.iload_n 2, 1) := by decide +kernel
theorem dX11_tune_77 : decode cX11_tune 77 = .ok (.ireturn, 1) := by decide +kernel
def hX11_tune_21 (f : Nat) (Φ : Int → aj_M → Prop) : Nat → List Nat → Int → Int → Int → Int → aj_M → Prop
  | 0, _, _, _, _, _, _ => False
  | k + 1, q0, v1, v2, v3, v4, m => rI v4 ∧ rI (m (0 :: (1 :: q0)) 0) ∧ ((m (0 :: (1 :: q0)) 0) ≤ v4 → Φ v2 m) ∧ (¬ ((m (0 :: (1 :: q0)) 0) ≤ v4) → wX6_whyNotBy f (fun z1 m1 => rI z1 ∧ (¬ z1 = 0 → hX11_tune_21 f Φ k q0 v1 v2 v3 (v4 + 1) m1) ∧ (z1 = 0 → wX11_ringBy f (fun z2 m2 => rI z2 ∧ rI v3 ∧ (z2 ≤ v3 → hX11_tune_21 f Φ k q0 v1 v2 v3 (v4 + 1) m2) ∧ (¬ (z2 ≤ v3) → hX11_tune_21 f Φ k q0 v1 v4 z2 (v4 + 1) m2)) q0 v1 v4 m1)) (1 :: q0) v1 v4 m)
set_option maxHeartbeats 4000000 in
set_option maxRecDepth 100000 in
theorem tX11_tune_21 {X : aj_T} {n f : Nat} {Φ : Int → aj_M → Prop} (C : aj_Cx X cX11_tune RX11 6 (n + 5)) (K : aj_Rt X (some .int) (fun r m => ∃ z, r = some (vI z) ∧ Φ z m)) : ∀ (k : Nat) (q0 : List Nat) (v1 : Int) (v2 : Int) (v3 : Int) (v4 : Int) (m : aj_M) (hq0 : (.inl (11, q0) : aj_R) ∈ aj_pls), hX11_tune_21 f Φ k q0 v1 v2 v3 v4 m → aj_J X 21 [some (vO 11 q0), some (vI v1), some (vI v2), some (vI v3), some (vI v4), none] [] m := by
  intro k
  induction k with
  | zero =>
    intro q0 v1 v2 v3 v4 m _ h
    exact h.elim
  | succ k ih =>
    intro q0 v1 v2 v3 v4 m hq0 h
    unfold hX11_tune_21 at h
    refine aj_iload C dX11_tune_21 rfl ?_
    refine aj_aload_n C dX11_tune_23 rfl ?_
    refine aj_getO (x := 6) (y := 0) C flX11_19 hq0 rfl dX11_tune_24 ?_
    refine aj_getO (x := 0) (y := 0) C flX11_136 (aj_cf (x := 6) (y := 0) (j := 1) hq0 (by decide) rfl) rfl dX11_tune_27 ?_
    refine aj_getI C flX11_327 (aj_cf (x := 0) (y := 0) (j := 0) (aj_cf (x := 6) (y := 0) (j := 1) hq0 (by decide) rfl) (by decide) rfl) (by decide) dX11_tune_30 rfl ?_
    obtain ⟨r0, r1, h1, h2⟩ := h
    refine aj_icmp_ge (tgt := 76) C dX11_tune_33 (by decide) r0 r1 (fun e => ?_) (fun e => ?_)
    · have h := h1 e
      refine aj_iload_n C dX11_tune_76 rfl ?_
      exact aj_iret C K dX11_tune_77 ⟨_, rfl, h⟩
    · have h := h2 e
      refine aj_aload_n C dX11_tune_36 rfl ?_
      refine aj_getO (x := 6) (y := 0) C flX11_19 hq0 rfl dX11_tune_37 ?_
      refine aj_iload_n C dX11_tune_40 rfl ?_
      refine aj_iload C dX11_tune_41 rfl ?_
      refine aj_callV (rest := []) C mvX11_328 (sX6_whyNotBy (aj_cf (x := 6) (y := 0) (j := 1) hq0 (by decide) rfl) h) (aj_cf (x := 6) (y := 0) (j := 1) hq0 (by decide) rfl) (aj_np 2 (by decide +kernel) rfl) (Nat.le_of_ble_eq_true rfl) rfl dX11_tune_43 (fun r m1 h => ?_)
      obtain ⟨z1, rfl, h⟩ := h
      obtain ⟨r0, h1, h2⟩ := h
      refine aj_if_ne (tgt := 70) C dX11_tune_46 (by decide) r0 (fun e => ?_) (fun e => ?_)
      · have h := h1 e
        refine aj_iinc (lv' := [some (vO 11 q0), some (vI v1), some (vI v2), some (vI v3), some (vI (v4 + 1)), none]) C dX11_tune_70 rfl (by decide) rfl ?_
        refine aj_goto (tgt := 21) C dX11_tune_73 (by decide) ?_
        exact ih q0 v1 v2 v3 (v4 + 1) _ hq0 h
      · have h := h2 e
        refine aj_aload_n C dX11_tune_49 rfl ?_
        refine aj_iload_n C dX11_tune_50 rfl ?_
        refine aj_iload C dX11_tune_51 rfl ?_
        refine aj_callV (rest := []) C mvX11_331 (sX11_ringBy hq0 h) hq0 (aj_np 2 (by decide +kernel) rfl) (Nat.le_of_ble_eq_true rfl) rfl dX11_tune_53 (fun r m2 h => ?_)
        obtain ⟨z2, rfl, h⟩ := h
        refine aj_istore (lv' := [some (vO 11 q0), some (vI v1), some (vI v2), some (vI v3), some (vI v4), some (vI z2)]) C dX11_tune_56 (by decide) rfl ?_
        refine aj_iload C dX11_tune_58 rfl ?_
        refine aj_iload_n C dX11_tune_60 rfl ?_
        obtain ⟨r0, r1, h1, h2⟩ := h
        refine aj_icmp_le (tgt := 70) C dX11_tune_61 (by decide) r0 r1 (fun e => ?_) (fun e => ?_)
        · have h := h1 e
          refine aj_iinc (lv' := [some (vO 11 q0), some (vI v1), some (vI v2), some (vI v3), some (vI (v4 + 1)), some (vI z2)]) C dX11_tune_70 rfl (by decide) rfl ?_
          refine aj_goto (tgt := 21) C dX11_tune_73 (by decide) ?_
          refine aj_wk (lv' := [some (vO 11 q0), some (vI v1), some (vI v2), some (vI v3), some (vI (v4 + 1)), none]) (⟨rfl, ⟨rfl, ⟨rfl, ⟨rfl, ⟨rfl, trivial⟩⟩⟩⟩⟩) ?_
          exact ih q0 v1 v2 v3 (v4 + 1) _ hq0 h
        · have h := h2 e
          refine aj_iload C dX11_tune_64 rfl ?_
          refine aj_istore_n (lv' := [some (vO 11 q0), some (vI v1), some (vI v4), some (vI v3), some (vI v4), some (vI z2)]) C dX11_tune_66 (by decide) rfl ?_
          refine aj_iload C dX11_tune_67 rfl ?_
          refine aj_istore_n (lv' := [some (vO 11 q0), some (vI v1), some (vI v4), some (vI z2), some (vI v4), some (vI z2)]) C dX11_tune_69 (by decide) rfl ?_
          refine aj_iinc (lv' := [some (vO 11 q0), some (vI v1), some (vI v4), some (vI z2), some (vI (v4 + 1)), some (vI z2)]) C dX11_tune_70 rfl (by decide) rfl ?_
          refine aj_goto (tgt := 21) C dX11_tune_73 (by decide) ?_
          refine aj_wk (lv' := [some (vO 11 q0), some (vI v1), some (vI v4), some (vI z2), some (vI (v4 + 1)), none]) (⟨rfl, ⟨rfl, ⟨rfl, ⟨rfl, ⟨rfl, trivial⟩⟩⟩⟩⟩) ?_
          exact ih q0 v1 v4 z2 (v4 + 1) _ hq0 h
def wX11_tune (f : Nat) (Φ : Int → aj_M → Prop) (q0 : List Nat) (v1 : Int) (m : aj_M) : Prop := wX6_hasArc f (fun z1 m1 => rI z1 ∧ (¬ z1 = 0 → hX11_tune_21 f Φ f q0 v1 (-1) 0 0 m1) ∧ (z1 = 0 → Φ (-2) m1)) (1 :: q0) v1 m
set_option maxHeartbeats 4000000 in
set_option maxRecDepth 100000 in
theorem sX11_tune {n f : Nat} {Φ : Int → aj_M → Prop} {q0 : List Nat} {v1 : Int} {m : aj_M} (hq0 : (.inl (11, q0) : aj_R) ∈ aj_pls) (h : wX11_tune f Φ q0 v1 m) : aj_Ct (n + 5) yX11_tune cX11_tune 6 (some .int) [vO 11 q0, vI v1] m (fun r m => ∃ z, r = some (vI z) ∧ Φ z m) := by
  refine aj_met (lv := [some (vO 11 q0), some (vI v1), none, none, none, none]) (by decide +kernel) rfl (Nat.le_of_ble_eq_true rfl) (fun X C K => ?_)
  unfold wX11_tune at h
  refine aj_aload_n C dX11_tune_0 rfl ?_
  refine aj_getO (x := 6) (y := 0) C flX11_19 hq0 rfl dX11_tune_1 ?_
  refine aj_iload_n C dX11_tune_4 rfl ?_
  refine aj_callV (rest := []) C mvX11_118 (sX6_hasArc (aj_cf (x := 6) (y := 0) (j := 1) hq0 (by decide) rfl) h) (aj_cf (x := 6) (y := 0) (j := 1) hq0 (by decide) rfl) (aj_np 1 (by decide +kernel) rfl) (Nat.le_of_ble_eq_true rfl) rfl dX11_tune_5 (fun r m1 h => ?_)
  obtain ⟨z1, rfl, h⟩ := h
  obtain ⟨r0, h1, h2⟩ := h
  refine aj_if_ne (tgt := 14) C dX11_tune_8 (by decide) r0 (fun e => ?_) (fun e => ?_)
  · have h := h1 e
    refine aj_iconst C dX11_tune_14 ?_
    refine aj_istore_n (lv' := [some (vO 11 q0), some (vI v1), some (vI (-1)), none, none, none]) C dX11_tune_15 (by decide) rfl ?_
    refine aj_iconst C dX11_tune_16 ?_
    refine aj_istore_n (lv' := [some (vO 11 q0), some (vI v1), some (vI (-1)), some (vI 0), none, none]) C dX11_tune_17 (by decide) rfl ?_
    refine aj_iconst C dX11_tune_18 ?_
    refine aj_istore (lv' := [some (vO 11 q0), some (vI v1), some (vI (-1)), some (vI 0), some (vI 0), none]) C dX11_tune_19 (by decide) rfl ?_
    exact tX11_tune_21 C K f q0 v1 (-1) 0 0 _ hq0 h
  · have h := h2 e
    refine aj_bipush C dX11_tune_11 (by decide) ?_
    exact aj_iret C K dX11_tune_13 ⟨_, rfl, h⟩
theorem dX11_tuned_0 : decode cX11_tuned 0 = .ok (.aload_n 0, 1) := by decide +kernel
theorem dX11_tuned_1 : decode cX11_tuned 1 = .ok (.iload_n 1, 1) := by decide +kernel
theorem dX11_tuned_2 : decode cX11_tuned 2 = .ok (.invokevirtual 334, 3) := by decide +kernel
theorem dX11_tuned_5 : decode cX11_tuned 5 = .ok (.istore_n 2, 1) := by decide +kernel
theorem dX11_tuned_6 : decode cX11_tuned 6 = .ok (.iload_n 2, 1) := by decide +kernel
theorem dX11_tuned_7 : decode cX11_tuned 7 = .ok (.ifCond .ge 7, 3) := by decide +kernel
theorem dX11_tuned_10 : decode cX11_tuned 10 = .ok (.iload_n 2, 1) := by decide +kernel
theorem dX11_tuned_11 : decode cX11_tuned 11 = .ok (.goto 12, 3) := by decide +kernel
theorem dX11_tuned_14 : decode cX11_tuned 14 = .ok (.aload_n 0, 1) := by decide +kernel
theorem dX11_tuned_15 : decode cX11_tuned 15 = .ok (.iload_n 1, 1) := by decide +kernel
theorem dX11_tuned_16 : decode cX11_tuned 16 = .ok (.iload_n 2, 1) := by decide +kernel
theorem dX11_tuned_17 : decode cX11_tuned 17 = .ok (.invokevirtual 331, 3) := by decide +kernel
theorem dX11_tuned_20 : decode cX11_tuned 20 = .ok (.invokestatic 216, 3) := by decide +kernel
theorem dX11_tuned_23 : decode cX11_tuned 23 = .ok (.ireturn, 1) := by decide +kernel
def wX11_tuned (f : Nat) (Φ : Int → aj_M → Prop) (q0 : List Nat) (v1 : Int) (m : aj_M) : Prop := wX11_tune f (fun z1 m1 => rI z1 ∧ (0 ≤ z1 → wX11_ringBy f (fun z2 m2 => wX11_orNone f (fun z3 m3 => Φ z3 m3) z2 m2) q0 v1 z1 m1) ∧ (¬ (0 ≤ z1) → Φ z1 m1)) q0 v1 m
set_option maxHeartbeats 4000000 in
set_option maxRecDepth 100000 in
theorem sX11_tuned {n f : Nat} {Φ : Int → aj_M → Prop} {q0 : List Nat} {v1 : Int} {m : aj_M} (hq0 : (.inl (11, q0) : aj_R) ∈ aj_pls) (h : wX11_tuned f Φ q0 v1 m) : aj_Ct (n + 6) yX11_tuned cX11_tuned 3 (some .int) [vO 11 q0, vI v1] m (fun r m => ∃ z, r = some (vI z) ∧ Φ z m) := by
  refine aj_met (lv := [some (vO 11 q0), some (vI v1), none]) (by decide +kernel) rfl (Nat.le_of_ble_eq_true rfl) (fun X C K => ?_)
  unfold wX11_tuned at h
  refine aj_aload_n C dX11_tuned_0 rfl ?_
  refine aj_iload_n C dX11_tuned_1 rfl ?_
  refine aj_callV (rest := []) C mvX11_334 (sX11_tune hq0 h) hq0 (aj_np 1 (by decide +kernel) rfl) (Nat.le_of_ble_eq_true rfl) rfl dX11_tuned_2 (fun r m1 h => ?_)
  obtain ⟨z1, rfl, h⟩ := h
  refine aj_istore_n (lv' := [some (vO 11 q0), some (vI v1), some (vI z1)]) C dX11_tuned_5 (by decide) rfl ?_
  refine aj_iload_n C dX11_tuned_6 rfl ?_
  obtain ⟨r0, h1, h2⟩ := h
  refine aj_if_ge (tgt := 14) C dX11_tuned_7 (by decide) r0 (fun e => ?_) (fun e => ?_)
  · have h := h1 e
    refine aj_aload_n C dX11_tuned_14 rfl ?_
    refine aj_iload_n C dX11_tuned_15 rfl ?_
    refine aj_iload_n C dX11_tuned_16 rfl ?_
    refine aj_callV (rest := []) C mvX11_331 (sX11_ringBy hq0 h) hq0 (aj_np 2 (by decide +kernel) rfl) (Nat.le_of_ble_eq_true rfl) rfl dX11_tuned_17 (fun r m2 h => ?_)
    obtain ⟨z2, rfl, h⟩ := h
    refine aj_callS (rest := []) C msX11_216 (sX11_orNone  h) (aj_np 1 (by decide +kernel) rfl) (Nat.le_of_ble_eq_true rfl) rfl dX11_tuned_20 (fun r m3 h => ?_)
    obtain ⟨z3, rfl, h⟩ := h
    exact aj_iret C K dX11_tuned_23 ⟨_, rfl, h⟩
  · have h := h2 e
    refine aj_iload_n C dX11_tuned_10 rfl ?_
    refine aj_goto (tgt := 23) C dX11_tuned_11 (by decide) ?_
    exact aj_iret C K dX11_tuned_23 ⟨_, rfl, h⟩
theorem dX11_search_0 : decode cX11_search 0 = .ok (.iload 4, 2) := by decide +kernel
theorem dX11_search_2 : decode cX11_search 2 = .ok (.ifCond .lt 9, 3) := by decide +kernel
theorem dX11_search_5 : decode cX11_search 5 = .ok (.iload 4, 2) := by decide +kernel
theorem dX11_search_7 : decode cX11_search 7 = .ok (.iconst 2, 1) := by decide +kernel
theorem dX11_search_8 : decode cX11_search 8 = .ok (.if_icmp .le 6, 3) := by decide +kernel
theorem dX11_search_11 : decode cX11_search 11 = .ok (.bipush (-2), 2) := by decide +kernel
theorem dX11_search_13 : decode cX11_search 13 = .ok (.ireturn, 1) := by decide +kernel
theorem dX11_search_14 : decode cX11_search 14 = .ok (.iload_n 1, 1) := by decide +kernel
theorem dX11_search_15 : decode cX11_search 15 = .ok (.iload_n 2, 1) := by decide +kernel
theorem dX11_search_16 : decode cX11_search 16 = .ok (.iload_n 3, 1) := by decide +kernel
theorem dX11_search_17 : decode cX11_search 17 = .ok (.invokestatic 337, 3) := by decide +kernel
theorem dX11_search_20 : decode cX11_search 20 = .ok (.ifCond .ne 6, 3) := by decide +kernel
theorem dX11_search_23 : decode cX11_search 23 = .ok (.bipush (-3), 2) := by decide +kernel
theorem dX11_search_25 : decode cX11_search 25 = .ok (.ireturn, 1) := by decide +kernel
theorem dX11_search_26 : decode cX11_search 26 = .ok (.aload_n 0, 1) := by decide +kernel
theorem dX11_search_27 : decode cX11_search 27 = .ok (.getfield 72, 3) := by decide +kernel
theorem dX11_search_30 : decode cX11_search 30 = .ok (.iload_n 1, 1) := by decide +kernel
theorem dX11_search_31 : decode cX11_search 31 = .ok (.iload_n 2, 1) := by decide +kernel
theorem dX11_search_32 : decode cX11_search 32 = .ok (.iload_n 3, 1) := by decide +kernel
theorem dX11_search_33 : decode cX11_search 33 = .ok (.invokevirtual 341, 3) := by decide +kernel
theorem dX11_search_36 : decode cX11_search 36 = .ok (.iload 4, 2) := by decide +kernel
theorem dX11_search_38 : decode cX11_search 38 = .ok (.lookupswitch 42 #[(0, 26), (1, 34)], 26) := by decide +kernel
theorem dX11_search_64 : decode cX11_search 64 = .ok (.aload_n 0, 1) := by decide +kernel
theorem dX11_search_65 : decode cX11_search 65 = .ok (.getfield 72, 3) := by decide +kernel
theorem dX11_search_68 : decode cX11_search 68 = .ok (.getfield 345, 3) := by decide +kernel
theorem dX11_search_71 : decode cX11_search 71 = .ok (.ireturn, 1) := by decide +kernel
theorem dX11_search_72 : decode cX11_search 72 = .ok (.aload_n 0, 1) := by decide +kernel
theorem dX11_search_73 : decode cX11_search 73 = .ok (.getfield 72, 3) := by decide +kernel
theorem dX11_search_76 : decode cX11_search 76 = .ok (.getfield 348, 3) := by decide +kernel
theorem dX11_search_79 : decode cX11_search 79 = .ok (.ireturn, 1) := by decide +kernel
theorem dX11_search_80 : decode cX11_search 80 = .ok (.aload_n 0, 1) := by decide +kernel
theorem dX11_search_81 : decode cX11_search 81 = .ok (.getfield 72, 3) := by decide +kernel
theorem dX11_search_84 : decode cX11_search 84 = .ok (.getfield 351, 3) := by decide +kernel
theorem dX11_search_87 : decode cX11_search 87 = .ok (.ireturn, 1) := by decide +kernel
def wX11_search (f : Nat) (Φ : Int → aj_M → Prop) (q0 : List Nat) (v1 : Int) (v2 : Int) (v3 : Int) (v4 : Int) (m : aj_M) : Prop := rI v4 ∧ (v4 < 0 → Φ (-2) m) ∧ (¬ (v4 < 0) → rI v4 ∧ (v4 ≤ 2 → wX2_canBe f (fun z1 m1 => rI z1 ∧ (¬ z1 = 0 → wX2_run f (fun m2 => rI v4 ∧ (¬ v4 = 0 ∧ ¬ v4 = 1 → Φ (m2 (10 :: q0) 5) m2) ∧ (v4 = 0 → Φ (m2 (10 :: q0) 3) m2) ∧ (v4 = 1 → Φ (m2 (10 :: q0) 4) m2)) (10 :: q0) v1 v2 v3 m1) ∧ (z1 = 0 → Φ (-3) m1)) v1 v2 v3 m) ∧ (¬ (v4 ≤ 2) → Φ (-2) m))
set_option maxHeartbeats 4000000 in
set_option maxRecDepth 100000 in
theorem sX11_search {n f : Nat} {Φ : Int → aj_M → Prop} {q0 : List Nat} {v1 : Int} {v2 : Int} {v3 : Int} {v4 : Int} {m : aj_M} (hq0 : (.inl (11, q0) : aj_R) ∈ aj_pls) (h : wX11_search f Φ q0 v1 v2 v3 v4 m) : aj_Ct (n + 36) yX11_search cX11_search 5 (some .int) [vO 11 q0, vI v1, vI v2, vI v3, vI v4] m (fun r m => ∃ z, r = some (vI z) ∧ Φ z m) := by
  refine aj_met (lv := [some (vO 11 q0), some (vI v1), some (vI v2), some (vI v3), some (vI v4)]) (by decide +kernel) rfl (Nat.le_of_ble_eq_true rfl) (fun X C K => ?_)
  unfold wX11_search at h
  refine aj_iload C dX11_search_0 rfl ?_
  obtain ⟨r0, h1, h2⟩ := h
  refine aj_if_lt (tgt := 11) C dX11_search_2 (by decide) r0 (fun e => ?_) (fun e => ?_)
  · have h := h1 e
    refine aj_bipush C dX11_search_11 (by decide) ?_
    exact aj_iret C K dX11_search_13 ⟨_, rfl, h⟩
  · have h := h2 e
    refine aj_iload C dX11_search_5 rfl ?_
    refine aj_iconst C dX11_search_7 ?_
    obtain ⟨r0, h1, h2⟩ := h
    refine aj_icmp_le (tgt := 14) C dX11_search_8 (by decide) r0 (by decide) (fun e => ?_) (fun e => ?_)
    · have h := h1 e
      refine aj_iload_n C dX11_search_14 rfl ?_
      refine aj_iload_n C dX11_search_15 rfl ?_
      refine aj_iload_n C dX11_search_16 rfl ?_
      refine aj_callS (rest := []) C msX11_337 (sX2_canBe  h) (aj_np 3 (by decide +kernel) rfl) (Nat.le_of_ble_eq_true rfl) rfl dX11_search_17 (fun r m1 h => ?_)
      obtain ⟨z1, rfl, h⟩ := h
      obtain ⟨r0, h1, h2⟩ := h
      refine aj_if_ne (tgt := 26) C dX11_search_20 (by decide) r0 (fun e => ?_) (fun e => ?_)
      · have h := h1 e
        refine aj_aload_n C dX11_search_26 rfl ?_
        refine aj_getO (x := 2) (y := 0) C flX11_72 hq0 rfl dX11_search_27 ?_
        refine aj_iload_n C dX11_search_30 rfl ?_
        refine aj_iload_n C dX11_search_31 rfl ?_
        refine aj_iload_n C dX11_search_32 rfl ?_
        refine aj_callV (rest := []) C mvX11_341 (sX2_run (aj_cf (x := 2) (y := 0) (j := 10) hq0 (by decide) rfl) h) (aj_cf (x := 2) (y := 0) (j := 10) hq0 (by decide) rfl) (aj_np 3 (by decide +kernel) rfl) (Nat.le_of_ble_eq_true rfl) rfl dX11_search_33 (fun r m2 h => ?_)
        obtain ⟨rfl, h⟩ := h
        refine aj_iload C dX11_search_36 rfl ?_
        obtain ⟨r0, hd, hc0, hc1⟩ := h
        rcases (by omega : (¬ v4 = 0 ∧ ¬ v4 = 1) ∨ v4 = 0 ∨ v4 = 1) with e | e | e
        · have h := hd e
          refine aj_look (tgt := 80) (off := 42) C dX11_search_38 (by decide) r0 (by simp [Op.lookupswitch.offset_cons, Op.lookupswitch.offset]; omega) (by decide) ?_
          refine aj_aload_n C dX11_search_80 rfl ?_
          refine aj_getO (x := 2) (y := 0) C flX11_72 hq0 rfl dX11_search_81 ?_
          refine aj_getI C flX11_351 (aj_cf (x := 2) (y := 0) (j := 10) hq0 (by decide) rfl) (by decide) dX11_search_84 rfl ?_
          exact aj_iret C K dX11_search_87 ⟨_, rfl, h⟩
        · have h := hc0 e
          refine aj_look (tgt := 64) (off := 26) C dX11_search_38 (by decide) r0 (by rw [e]; rfl) (by decide) ?_
          refine aj_aload_n C dX11_search_64 rfl ?_
          refine aj_getO (x := 2) (y := 0) C flX11_72 hq0 rfl dX11_search_65 ?_
          refine aj_getI C flX11_345 (aj_cf (x := 2) (y := 0) (j := 10) hq0 (by decide) rfl) (by decide) dX11_search_68 rfl ?_
          exact aj_iret C K dX11_search_71 ⟨_, rfl, h⟩
        · have h := hc1 e
          refine aj_look (tgt := 72) (off := 34) C dX11_search_38 (by decide) r0 (by rw [e]; rfl) (by decide) ?_
          refine aj_aload_n C dX11_search_72 rfl ?_
          refine aj_getO (x := 2) (y := 0) C flX11_72 hq0 rfl dX11_search_73 ?_
          refine aj_getI C flX11_348 (aj_cf (x := 2) (y := 0) (j := 10) hq0 (by decide) rfl) (by decide) dX11_search_76 rfl ?_
          exact aj_iret C K dX11_search_79 ⟨_, rfl, h⟩
      · have h := h2 e
        refine aj_bipush C dX11_search_23 (by decide) ?_
        exact aj_iret C K dX11_search_25 ⟨_, rfl, h⟩
    · have h := h2 e
      refine aj_bipush C dX11_search_11 (by decide) ?_
      exact aj_iret C K dX11_search_13 ⟨_, rfl, h⟩
