theorem dX7_readTruth_0 : decode cX7_readTruth 0 = .ok (.aload_n 0, 1) := by decide +kernel
theorem dX7_readTruth_1 : decode cX7_readTruth 1 = .ok (.iload_n 1, 1) := by decide +kernel
theorem dX7_readTruth_2 : decode cX7_readTruth 2 = .ok (.invokevirtual 172, 3) := by decide +kernel
theorem dX7_readTruth_5 : decode cX7_readTruth 5 = .ok (.ifCond .ne 5, 3) := by decide +kernel
theorem dX7_readTruth_8 : decode cX7_readTruth 8 = .ok (.iconst 0, 1) := by decide +kernel
theorem dX7_readTruth_9 : decode cX7_readTruth 9 = .ok (.ireturn, 1) := by decide +kernel
theorem dX7_readTruth_10 : decode cX7_readTruth 10 = .ok (.iconst 0, 1) := by decide +kernel
theorem dX7_readTruth_11 : decode cX7_readTruth 11 = .ok (.istore_n 2, 1) := by decide +kernel
theorem dX7_readTruth_12 : decode cX7_readTruth 12 = .ok (.iload_n 2, 1) := by decide +kernel
theorem dX7_readTruth_13 : decode cX7_readTruth 13 = .ok (.aload_n 0, 1) := by decide +kernel
theorem dX7_readTruth_14 : decode cX7_readTruth 14 = .ok (.getfield 19, 3) := by decide +kernel
theorem dX7_readTruth_17 : decode cX7_readTruth 17 = .ok (.if_icmp .ge 46, 3) := by decide +kernel
theorem dX7_readTruth_20 : decode cX7_readTruth 20 = .ok (.aload_n 0, 1) := by decide +kernel
theorem dX7_readTruth_21 : decode cX7_readTruth 21 = .ok (.getfield 39, 3) := by decide +kernel
theorem dX7_readTruth_24 : decode cX7_readTruth 24 = .ok (.sipush 221, 3) := by decide +kernel
theorem dX7_readTruth_27 : decode cX7_readTruth 27 = .ok (.if_icmp .ne 36, 3) := by decide +kernel
theorem dX7_readTruth_30 : decode cX7_readTruth 30 = .ok (.aload_n 0, 1) := by decide +kernel
theorem dX7_readTruth_31 : decode cX7_readTruth 31 = .ok (.invokevirtual 60, 3) := by decide +kernel
theorem dX7_readTruth_34 : decode cX7_readTruth 34 = .ok (.aload_n 0, 1) := by decide +kernel
theorem dX7_readTruth_35 : decode cX7_readTruth 35 = .ok (.iload_n 1, 1) := by decide +kernel
theorem dX7_readTruth_36 : decode cX7_readTruth 36 = .ok (.invokevirtual 172, 3) := by decide +kernel
theorem dX7_readTruth_39 : decode cX7_readTruth 39 = .ok (.ifCond .ne 5, 3) := by decide +kernel
theorem dX7_readTruth_42 : decode cX7_readTruth 42 = .ok (.iconst 0, 1) := by decide +kernel
theorem dX7_readTruth_43 : decode cX7_readTruth 43 = .ok (.ireturn, 1) := by decide +kernel
theorem dX7_readTruth_44 : decode cX7_readTruth 44 = .ok (.aload_n 0, 1) := by decide +kernel
theorem dX7_readTruth_45 : decode cX7_readTruth 45 = .ok (.getfield 25, 3) := by decide +kernel
theorem dX7_readTruth_48 : decode cX7_readTruth 48 = .ok (.getfield 147, 3) := by decide +kernel
theorem dX7_readTruth_51 : decode cX7_readTruth 51 = .ok (.bipush 14, 2) := by decide +kernel
theorem dX7_readTruth_53 : decode cX7_readTruth 53 = .ok (.iconst 0, 1) := by decide +kernel
theorem dX7_readTruth_54 : decode cX7_readTruth 54 = .ok (.invokevirtual 175, 3) := by decide +kernel
theorem dX7_readTruth_57 : decode cX7_readTruth 57 = .ok (.iinc 2 1, 3) := by decide +kernel
theorem dX7_readTruth_60 : decode cX7_readTruth 60 = .ok (.goto (-48), 3) := by decide +kernel
theorem dX7_readTruth_63 : decode cX7_readTruth 63 = .ok (.iconst 1, 1) := by decide +kernel
theorem dX7_readTruth_64 : decode cX7_readTruth 64 = .ok (.ireturn, 1) := by decide +kernel
def hX7_readTruth_12 (f : Nat) (Φ : Int → aj_M → Prop) (R : Nat → (Int → aj_M → Prop) → List Nat → Int → aj_M → Prop) : Nat → List Nat → Int → Int → aj_M → Prop
  | 0, _, _, _, _ => False
  | k + 1, q0, v1, v2, m => rI v2 ∧ rI (m q0 2) ∧ ((m q0 2) ≤ v2 → Φ 1 m) ∧ (¬ ((m q0 2) ≤ v2) → rI (m q0 7) ∧ (¬ (m q0 7) = 221 → Φ 1 m) ∧ ((m q0 7) = 221 → wX7_step f (fun m1 => R 1 (fun z2 m2 => rI z2 ∧ (¬ z2 = 0 → wX4_add f (fun m3 => hX7_readTruth_12 f Φ R k q0 v1 (v2 + 1) m3) (1 :: (3 :: q0)) 14 0 m2) ∧ (z2 = 0 → Φ 0 m2)) q0 v1 m1) q0 m))
set_option maxHeartbeats 4000000 in
set_option maxRecDepth 100000 in
theorem tX7_readTruth_12 {X : aj_T} {n f : Nat} {Φ : Int → aj_M → Prop} (C : aj_Cx X cX7_readTruth RX7 3 (n + 7)) (K : aj_Rt X (some .boolean) (fun r m => ∃ z, r = some (vI z) ∧ Φ z m)) {R : Nat → (Int → aj_M → Prop) → List Nat → Int → aj_M → Prop} (HR0 : ∀ (Φ : Int → aj_M → Prop) (q0 : List Nat) (v1 : Int) (m : aj_M) (hq0 : (.inl (7, q0) : aj_R) ∈ aj_pls), R 0 Φ q0 v1 m → aj_Ct (n + 6) yX7_readTruth cX7_readTruth 3 (some .boolean) [vO 7 q0, vI v1] m (fun r m => ∃ z, r = some (vI z) ∧ Φ z m)) (HR1 : ∀ (Φ : Int → aj_M → Prop) (q0 : List Nat) (v1 : Int) (m : aj_M) (hq0 : (.inl (7, q0) : aj_R) ∈ aj_pls), R 1 Φ q0 v1 m → aj_Ct (n + 6) yX7_readBoth cX7_readBoth 3 (some .boolean) [vO 7 q0, vI v1] m (fun r m => ∃ z, r = some (vI z) ∧ Φ z m)) (HR2 : ∀ (Φ : Int → aj_M → Prop) (q0 : List Nat) (v1 : Int) (m : aj_M) (hq0 : (.inl (7, q0) : aj_R) ∈ aj_pls), R 2 Φ q0 v1 m → aj_Ct (n + 6) yX7_readUnit cX7_readUnit 3 (some .boolean) [vO 7 q0, vI v1] m (fun r m => ∃ z, r = some (vI z) ∧ Φ z m)) (HR3 : ∀ (Φ : Int → aj_M → Prop) (q0 : List Nat) (v1 : Int) (m : aj_M) (hq0 : (.inl (7, q0) : aj_R) ∈ aj_pls), R 3 Φ q0 v1 m → aj_Ct (n + 6) yX7_readComparison cX7_readComparison 3 (some .boolean) [vO 7 q0, vI v1] m (fun r m => ∃ z, r = some (vI z) ∧ Φ z m)) (HR4 : ∀ (Φ : Int → aj_M → Prop) (q0 : List Nat) (v1 : Int) (m : aj_M) (hq0 : (.inl (7, q0) : aj_R) ∈ aj_pls), R 4 Φ q0 v1 m → aj_Ct (n + 6) yX7_readSum cX7_readSum 4 (some .boolean) [vO 7 q0, vI v1] m (fun r m => ∃ z, r = some (vI z) ∧ Φ z m)) (HR5 : ∀ (Φ : Int → aj_M → Prop) (q0 : List Nat) (v1 : Int) (m : aj_M) (hq0 : (.inl (7, q0) : aj_R) ∈ aj_pls), R 5 Φ q0 v1 m → aj_Ct (n + 6) yX7_readTerm cX7_readTerm 3 (some .boolean) [vO 7 q0, vI v1] m (fun r m => ∃ z, r = some (vI z) ∧ Φ z m)) (HR6 : ∀ (Φ : Int → aj_M → Prop) (q0 : List Nat) (v1 : Int) (m : aj_M) (hq0 : (.inl (7, q0) : aj_R) ∈ aj_pls), R 6 Φ q0 v1 m → aj_Ct (n + 6) yX7_readAtom cX7_readAtom 2 (some .boolean) [vO 7 q0, vI v1] m (fun r m => ∃ z, r = some (vI z) ∧ Φ z m)) (HR7 : ∀ (Φ : Int → aj_M → Prop) (q0 : List Nat) (v1 : Int) (m : aj_M) (hq0 : (.inl (7, q0) : aj_R) ∈ aj_pls), R 7 Φ q0 v1 m → aj_Ct (n + 6) yX7_readNested cX7_readNested 3 (some .boolean) [vO 7 q0, vI v1] m (fun r m => ∃ z, r = some (vI z) ∧ Φ z m)) : ∀ (k : Nat) (q0 : List Nat) (v1 : Int) (v2 : Int) (m : aj_M) (hq0 : (.inl (7, q0) : aj_R) ∈ aj_pls), hX7_readTruth_12 f Φ R k q0 v1 v2 m → aj_J X 12 [some (vO 7 q0), some (vI v1), some (vI v2)] [] m := by
  intro k
  induction k with
  | zero =>
    intro q0 v1 v2 m _ h
    exact h.elim
  | succ k ih =>
    intro q0 v1 v2 m hq0 h
    unfold hX7_readTruth_12 at h
    refine aj_iload_n C dX7_readTruth_12 rfl ?_
    refine aj_aload_n C dX7_readTruth_13 rfl ?_
    refine aj_getI C flX7_19 hq0 (by decide) dX7_readTruth_14 rfl ?_
    obtain ⟨r0, r1, h1, h2⟩ := h
    refine aj_icmp_ge (tgt := 63) C dX7_readTruth_17 (by decide) r0 r1 (fun e => ?_) (fun e => ?_)
    · have h := h1 e
      refine aj_iconst C dX7_readTruth_63 ?_
      exact aj_zret C K (Or.inr rfl) dX7_readTruth_64 ⟨_, rfl, h⟩
    · have h := h2 e
      refine aj_aload_n C dX7_readTruth_20 rfl ?_
      refine aj_getI C flX7_39 hq0 (by decide) dX7_readTruth_21 rfl ?_
      refine aj_sipush C dX7_readTruth_24 (by decide) ?_
      obtain ⟨r0, h1, h2⟩ := h
      refine aj_icmp_ne (tgt := 63) C dX7_readTruth_27 (by decide) r0 (by decide) (fun e => ?_) (fun e => ?_)
      · have h := h1 e
        refine aj_iconst C dX7_readTruth_63 ?_
        exact aj_zret C K (Or.inr rfl) dX7_readTruth_64 ⟨_, rfl, h⟩
      · have h := h2 e
        refine aj_aload_n C dX7_readTruth_30 rfl ?_
        refine aj_callV (rest := []) C mvX7_60 (sX7_step hq0 h) hq0 (aj_np 0 (by decide +kernel) rfl) (Nat.le_of_ble_eq_true rfl) rfl dX7_readTruth_31 (fun r m1 h => ?_)
        obtain ⟨rfl, h⟩ := h
        refine aj_aload_n C dX7_readTruth_34 rfl ?_
        refine aj_iload_n C dX7_readTruth_35 rfl ?_
        refine aj_callV (rest := []) C mvX7_172 (HR1 _ q0 v1 _ hq0 h) hq0 (aj_np 1 (by decide +kernel) rfl) (Nat.le_of_ble_eq_true rfl) rfl dX7_readTruth_36 (fun r m2 h => ?_)
        obtain ⟨z2, rfl, h⟩ := h
        obtain ⟨r0, h1, h2⟩ := h
        refine aj_if_ne (tgt := 44) C dX7_readTruth_39 (by decide) r0 (fun e => ?_) (fun e => ?_)
        · have h := h1 e
          refine aj_aload_n C dX7_readTruth_44 rfl ?_
          refine aj_getO (x := 6) (y := 0) C flX7_25 hq0 rfl dX7_readTruth_45 ?_
          refine aj_getO (x := 4) (y := 0) C flX7_147 (aj_cf (x := 6) (y := 0) (j := 3) hq0 (by decide) rfl) rfl dX7_readTruth_48 ?_
          refine aj_bipush C dX7_readTruth_51 (by decide) ?_
          refine aj_iconst C dX7_readTruth_53 ?_
          refine aj_callV (rest := []) C mvX7_175 (sX4_add (aj_cf (x := 4) (y := 0) (j := 1) (aj_cf (x := 6) (y := 0) (j := 3) hq0 (by decide) rfl) (by decide) rfl) h) (aj_cf (x := 4) (y := 0) (j := 1) (aj_cf (x := 6) (y := 0) (j := 3) hq0 (by decide) rfl) (by decide) rfl) (aj_np 2 (by decide +kernel) rfl) (Nat.le_of_ble_eq_true rfl) rfl dX7_readTruth_54 (fun r m3 h => ?_)
          obtain ⟨rfl, h⟩ := h
          refine aj_iinc (lv' := [some (vO 7 q0), some (vI v1), some (vI (v2 + 1))]) C dX7_readTruth_57 rfl (by decide) rfl ?_
          refine aj_goto (tgt := 12) C dX7_readTruth_60 (by decide) ?_
          exact ih q0 v1 (v2 + 1) _ hq0 h
        · have h := h2 e
          refine aj_iconst C dX7_readTruth_42 ?_
          exact aj_zret C K (Or.inl rfl) dX7_readTruth_43 ⟨_, rfl, h⟩
def wbX7_readTruth (f : Nat) (Φ : Int → aj_M → Prop) (R : Nat → (Int → aj_M → Prop) → List Nat → Int → aj_M → Prop) (q0 : List Nat) (v1 : Int) (m : aj_M) : Prop := R 1 (fun z1 m1 => rI z1 ∧ (¬ z1 = 0 → hX7_readTruth_12 f Φ R f q0 v1 0 m1) ∧ (z1 = 0 → Φ 0 m1)) q0 v1 m
set_option maxHeartbeats 4000000 in
set_option maxRecDepth 100000 in
theorem sbX7_readTruth {n f : Nat} {Φ : Int → aj_M → Prop} {R : Nat → (Int → aj_M → Prop) → List Nat → Int → aj_M → Prop} (HR0 : ∀ (Φ : Int → aj_M → Prop) (q0 : List Nat) (v1 : Int) (m : aj_M) (hq0 : (.inl (7, q0) : aj_R) ∈ aj_pls), R 0 Φ q0 v1 m → aj_Ct (n + 6) yX7_readTruth cX7_readTruth 3 (some .boolean) [vO 7 q0, vI v1] m (fun r m => ∃ z, r = some (vI z) ∧ Φ z m)) (HR1 : ∀ (Φ : Int → aj_M → Prop) (q0 : List Nat) (v1 : Int) (m : aj_M) (hq0 : (.inl (7, q0) : aj_R) ∈ aj_pls), R 1 Φ q0 v1 m → aj_Ct (n + 6) yX7_readBoth cX7_readBoth 3 (some .boolean) [vO 7 q0, vI v1] m (fun r m => ∃ z, r = some (vI z) ∧ Φ z m)) (HR2 : ∀ (Φ : Int → aj_M → Prop) (q0 : List Nat) (v1 : Int) (m : aj_M) (hq0 : (.inl (7, q0) : aj_R) ∈ aj_pls), R 2 Φ q0 v1 m → aj_Ct (n + 6) yX7_readUnit cX7_readUnit 3 (some .boolean) [vO 7 q0, vI v1] m (fun r m => ∃ z, r = some (vI z) ∧ Φ z m)) (HR3 : ∀ (Φ : Int → aj_M → Prop) (q0 : List Nat) (v1 : Int) (m : aj_M) (hq0 : (.inl (7, q0) : aj_R) ∈ aj_pls), R 3 Φ q0 v1 m → aj_Ct (n + 6) yX7_readComparison cX7_readComparison 3 (some .boolean) [vO 7 q0, vI v1] m (fun r m => ∃ z, r = some (vI z) ∧ Φ z m)) (HR4 : ∀ (Φ : Int → aj_M → Prop) (q0 : List Nat) (v1 : Int) (m : aj_M) (hq0 : (.inl (7, q0) : aj_R) ∈ aj_pls), R 4 Φ q0 v1 m → aj_Ct (n + 6) yX7_readSum cX7_readSum 4 (some .boolean) [vO 7 q0, vI v1] m (fun r m => ∃ z, r = some (vI z) ∧ Φ z m)) (HR5 : ∀ (Φ : Int → aj_M → Prop) (q0 : List Nat) (v1 : Int) (m : aj_M) (hq0 : (.inl (7, q0) : aj_R) ∈ aj_pls), R 5 Φ q0 v1 m → aj_Ct (n + 6) yX7_readTerm cX7_readTerm 3 (some .boolean) [vO 7 q0, vI v1] m (fun r m => ∃ z, r = some (vI z) ∧ Φ z m)) (HR6 : ∀ (Φ : Int → aj_M → Prop) (q0 : List Nat) (v1 : Int) (m : aj_M) (hq0 : (.inl (7, q0) : aj_R) ∈ aj_pls), R 6 Φ q0 v1 m → aj_Ct (n + 6) yX7_readAtom cX7_readAtom 2 (some .boolean) [vO 7 q0, vI v1] m (fun r m => ∃ z, r = some (vI z) ∧ Φ z m)) (HR7 : ∀ (Φ : Int → aj_M → Prop) (q0 : List Nat) (v1 : Int) (m : aj_M) (hq0 : (.inl (7, q0) : aj_R) ∈ aj_pls), R 7 Φ q0 v1 m → aj_Ct (n + 6) yX7_readNested cX7_readNested 3 (some .boolean) [vO 7 q0, vI v1] m (fun r m => ∃ z, r = some (vI z) ∧ Φ z m)) {q0 : List Nat} {v1 : Int} {m : aj_M} (hq0 : (.inl (7, q0) : aj_R) ∈ aj_pls) (h : wbX7_readTruth f Φ R q0 v1 m) : aj_Ct (n + 7) yX7_readTruth cX7_readTruth 3 (some .boolean) [vO 7 q0, vI v1] m (fun r m => ∃ z, r = some (vI z) ∧ Φ z m) := by
  refine aj_met (lv := [some (vO 7 q0), some (vI v1), none]) (by decide +kernel) rfl (Nat.le_of_ble_eq_true rfl) (fun X C K => ?_)
  unfold wbX7_readTruth at h
  refine aj_aload_n C dX7_readTruth_0 rfl ?_
  refine aj_iload_n C dX7_readTruth_1 rfl ?_
  refine aj_callV (rest := []) C mvX7_172 (HR1 _ q0 v1 _ hq0 h) hq0 (aj_np 1 (by decide +kernel) rfl) (Nat.le_of_ble_eq_true rfl) rfl dX7_readTruth_2 (fun r m1 h => ?_)
  obtain ⟨z1, rfl, h⟩ := h
  obtain ⟨r0, h1, h2⟩ := h
  refine aj_if_ne (tgt := 10) C dX7_readTruth_5 (by decide) r0 (fun e => ?_) (fun e => ?_)
  · have h := h1 e
    refine aj_iconst C dX7_readTruth_10 ?_
    refine aj_istore_n (lv' := [some (vO 7 q0), some (vI v1), some (vI 0)]) C dX7_readTruth_11 (by decide) rfl ?_
    exact tX7_readTruth_12 C K HR0 HR1 HR2 HR3 HR4 HR5 HR6 HR7 f q0 v1 0 _ hq0 h
  · have h := h2 e
    refine aj_iconst C dX7_readTruth_8 ?_
    exact aj_zret C K (Or.inl rfl) dX7_readTruth_9 ⟨_, rfl, h⟩
theorem dX7_readBoth_0 : decode cX7_readBoth 0 = .ok (.aload_n 0, 1) := by decide +kernel
theorem dX7_readBoth_1 : decode cX7_readBoth 1 = .ok (.iload_n 1, 1) := by decide +kernel
theorem dX7_readBoth_2 : decode cX7_readBoth 2 = .ok (.invokevirtual 178, 3) := by decide +kernel
theorem dX7_readBoth_5 : decode cX7_readBoth 5 = .ok (.ifCond .ne 5, 3) := by decide +kernel
theorem dX7_readBoth_8 : decode cX7_readBoth 8 = .ok (.iconst 0, 1) := by decide +kernel
theorem dX7_readBoth_9 : decode cX7_readBoth 9 = .ok (.ireturn, 1) := by decide +kernel
theorem dX7_readBoth_10 : decode cX7_readBoth 10 = .ok (.iconst 0, 1) := by decide +kernel
theorem dX7_readBoth_11 : decode cX7_readBoth 11 = .ok (.istore_n 2, 1) := by decide +kernel
theorem dX7_readBoth_12 : decode cX7_readBoth 12 = .ok (.iload_n 2, 1) := by decide +kernel
theorem dX7_readBoth_13 : decode cX7_readBoth 13 = .ok (.aload_n 0, 1) := by decide +kernel
theorem dX7_readBoth_14 : decode cX7_readBoth 14 = .ok (.getfield 19, 3) := by decide +kernel
theorem dX7_readBoth_17 : decode cX7_readBoth 17 = .ok (.if_icmp .ge 46, 3) := by decide +kernel
theorem dX7_readBoth_20 : decode cX7_readBoth 20 = .ok (.aload_n 0, 1) := by decide +kernel
theorem dX7_readBoth_21 : decode cX7_readBoth 21 = .ok (.getfield 39, 3) := by decide +kernel
theorem dX7_readBoth_24 : decode cX7_readBoth 24 = .ok (.sipush 220, 3) := by decide +kernel
theorem dX7_readBoth_27 : decode cX7_readBoth 27 = .ok (.if_icmp .ne 36, 3) := by decide +kernel
theorem dX7_readBoth_30 : decode cX7_readBoth 30 = .ok (.aload_n 0, 1) := by decide +kernel
theorem dX7_readBoth_31 : decode cX7_readBoth 31 = .ok (.invokevirtual 60, 3) := by decide +kernel
theorem dX7_readBoth_34 : decode cX7_readBoth 34 = .ok (.aload_n 0, 1) := by decide +kernel
theorem dX7_readBoth_35 : decode cX7_readBoth 35 = .ok (.iload_n 1, 1) := by decide +kernel
theorem dX7_readBoth_36 : decode cX7_readBoth 36 = .ok (.invokevirtual 178, 3) := by decide +kernel
theorem dX7_readBoth_39 : decode cX7_readBoth 39 = .ok (.ifCond .ne 5, 3) := by decide +kernel
theorem dX7_readBoth_42 : decode cX7_readBoth 42 = .ok (.iconst 0, 1) := by decide +kernel
theorem dX7_readBoth_43 : decode cX7_readBoth 43 = .ok (.ireturn, 1) := by decide +kernel
theorem dX7_readBoth_44 : decode cX7_readBoth 44 = .ok (.aload_n 0, 1) := by decide +kernel
theorem dX7_readBoth_45 : decode cX7_readBoth 45 = .ok (.getfield 25, 3) := by decide +kernel
theorem dX7_readBoth_48 : decode cX7_readBoth 48 = .ok (.getfield 147, 3) := by decide +kernel
theorem dX7_readBoth_51 : decode cX7_readBoth 51 = .ok (.bipush 13, 2) := by decide +kernel
theorem dX7_readBoth_53 : decode cX7_readBoth 53 = .ok (.iconst 0, 1) := by decide +kernel
theorem dX7_readBoth_54 : decode cX7_readBoth 54 = .ok (.invokevirtual 175, 3) := by decide +kernel
theorem dX7_readBoth_57 : decode cX7_readBoth 57 = .ok (.iinc 2 1, 3) := by decide +kernel
theorem dX7_readBoth_60 : decode cX7_readBoth 60 = .ok (.goto (-48), 3) := by decide +kernel
theorem dX7_readBoth_63 : decode cX7_readBoth 63 = .ok (.iconst 1, 1) := by decide +kernel
theorem dX7_readBoth_64 : decode cX7_readBoth 64 = .ok (.ireturn, 1) := by decide +kernel
def hX7_readBoth_12 (f : Nat) (Φ : Int → aj_M → Prop) (R : Nat → (Int → aj_M → Prop) → List Nat → Int → aj_M → Prop) : Nat → List Nat → Int → Int → aj_M → Prop
  | 0, _, _, _, _ => False
  | k + 1, q0, v1, v2, m => rI v2 ∧ rI (m q0 2) ∧ ((m q0 2) ≤ v2 → Φ 1 m) ∧ (¬ ((m q0 2) ≤ v2) → rI (m q0 7) ∧ (¬ (m q0 7) = 220 → Φ 1 m) ∧ ((m q0 7) = 220 → wX7_step f (fun m1 => R 2 (fun z2 m2 => rI z2 ∧ (¬ z2 = 0 → wX4_add f (fun m3 => hX7_readBoth_12 f Φ R k q0 v1 (v2 + 1) m3) (1 :: (3 :: q0)) 13 0 m2) ∧ (z2 = 0 → Φ 0 m2)) q0 v1 m1) q0 m))
set_option maxHeartbeats 4000000 in
set_option maxRecDepth 100000 in
theorem tX7_readBoth_12 {X : aj_T} {n f : Nat} {Φ : Int → aj_M → Prop} (C : aj_Cx X cX7_readBoth RX7 3 (n + 7)) (K : aj_Rt X (some .boolean) (fun r m => ∃ z, r = some (vI z) ∧ Φ z m)) {R : Nat → (Int → aj_M → Prop) → List Nat → Int → aj_M → Prop} (HR0 : ∀ (Φ : Int → aj_M → Prop) (q0 : List Nat) (v1 : Int) (m : aj_M) (hq0 : (.inl (7, q0) : aj_R) ∈ aj_pls), R 0 Φ q0 v1 m → aj_Ct (n + 6) yX7_readTruth cX7_readTruth 3 (some .boolean) [vO 7 q0, vI v1] m (fun r m => ∃ z, r = some (vI z) ∧ Φ z m)) (HR1 : ∀ (Φ : Int → aj_M → Prop) (q0 : List Nat) (v1 : Int) (m : aj_M) (hq0 : (.inl (7, q0) : aj_R) ∈ aj_pls), R 1 Φ q0 v1 m → aj_Ct (n + 6) yX7_readBoth cX7_readBoth 3 (some .boolean) [vO 7 q0, vI v1] m (fun r m => ∃ z, r = some (vI z) ∧ Φ z m)) (HR2 : ∀ (Φ : Int → aj_M → Prop) (q0 : List Nat) (v1 : Int) (m : aj_M) (hq0 : (.inl (7, q0) : aj_R) ∈ aj_pls), R 2 Φ q0 v1 m → aj_Ct (n + 6) yX7_readUnit cX7_readUnit 3 (some .boolean) [vO 7 q0, vI v1] m (fun r m => ∃ z, r = some (vI z) ∧ Φ z m)) (HR3 : ∀ (Φ : Int → aj_M → Prop) (q0 : List Nat) (v1 : Int) (m : aj_M) (hq0 : (.inl (7, q0) : aj_R) ∈ aj_pls), R 3 Φ q0 v1 m → aj_Ct (n + 6) yX7_readComparison cX7_readComparison 3 (some .boolean) [vO 7 q0, vI v1] m (fun r m => ∃ z, r = some (vI z) ∧ Φ z m)) (HR4 : ∀ (Φ : Int → aj_M → Prop) (q0 : List Nat) (v1 : Int) (m : aj_M) (hq0 : (.inl (7, q0) : aj_R) ∈ aj_pls), R 4 Φ q0 v1 m → aj_Ct (n + 6) yX7_readSum cX7_readSum 4 (some .boolean) [vO 7 q0, vI v1] m (fun r m => ∃ z, r = some (vI z) ∧ Φ z m)) (HR5 : ∀ (Φ : Int → aj_M → Prop) (q0 : List Nat) (v1 : Int) (m : aj_M) (hq0 : (.inl (7, q0) : aj_R) ∈ aj_pls), R 5 Φ q0 v1 m → aj_Ct (n + 6) yX7_readTerm cX7_readTerm 3 (some .boolean) [vO 7 q0, vI v1] m (fun r m => ∃ z, r = some (vI z) ∧ Φ z m)) (HR6 : ∀ (Φ : Int → aj_M → Prop) (q0 : List Nat) (v1 : Int) (m : aj_M) (hq0 : (.inl (7, q0) : aj_R) ∈ aj_pls), R 6 Φ q0 v1 m → aj_Ct (n + 6) yX7_readAtom cX7_readAtom 2 (some .boolean) [vO 7 q0, vI v1] m (fun r m => ∃ z, r = some (vI z) ∧ Φ z m)) (HR7 : ∀ (Φ : Int → aj_M → Prop) (q0 : List Nat) (v1 : Int) (m : aj_M) (hq0 : (.inl (7, q0) : aj_R) ∈ aj_pls), R 7 Φ q0 v1 m → aj_Ct (n + 6) yX7_readNested cX7_readNested 3 (some .boolean) [vO 7 q0, vI v1] m (fun r m => ∃ z, r = some (vI z) ∧ Φ z m)) : ∀ (k : Nat) (q0 : List Nat) (v1 : Int) (v2 : Int) (m : aj_M) (hq0 : (.inl (7, q0) : aj_R) ∈ aj_pls), hX7_readBoth_12 f Φ R k q0 v1 v2 m → aj_J X 12 [some (vO 7 q0), some (vI v1), some (vI v2)] [] m := by
  intro k
  induction k with
  | zero =>
    intro q0 v1 v2 m _ h
    exact h.elim
  | succ k ih =>
    intro q0 v1 v2 m hq0 h
    unfold hX7_readBoth_12 at h
    refine aj_iload_n C dX7_readBoth_12 rfl ?_
    refine aj_aload_n C dX7_readBoth_13 rfl ?_
    refine aj_getI C flX7_19 hq0 (by decide) dX7_readBoth_14 rfl ?_
    obtain ⟨r0, r1, h1, h2⟩ := h
    refine aj_icmp_ge (tgt := 63) C dX7_readBoth_17 (by decide) r0 r1 (fun e => ?_) (fun e => ?_)
    · have h := h1 e
      refine aj_iconst C dX7_readBoth_63 ?_
      exact aj_zret C K (Or.inr rfl) dX7_readBoth_64 ⟨_, rfl, h⟩
    · have h := h2 e
      refine aj_aload_n C dX7_readBoth_20 rfl ?_
      refine aj_getI C flX7_39 hq0 (by decide) dX7_readBoth_21 rfl ?_
      refine aj_sipush C dX7_readBoth_24 (by decide) ?_
      obtain ⟨r0, h1, h2⟩ := h
      refine aj_icmp_ne (tgt := 63) C dX7_readBoth_27 (by decide) r0 (by decide) (fun e => ?_) (fun e => ?_)
      · have h := h1 e
        refine aj_iconst C dX7_readBoth_63 ?_
        exact aj_zret C K (Or.inr rfl) dX7_readBoth_64 ⟨_, rfl, h⟩
      · have h := h2 e
        refine aj_aload_n C dX7_readBoth_30 rfl ?_
        refine aj_callV (rest := []) C mvX7_60 (sX7_step hq0 h) hq0 (aj_np 0 (by decide +kernel) rfl) (Nat.le_of_ble_eq_true rfl) rfl dX7_readBoth_31 (fun r m1 h => ?_)
        obtain ⟨rfl, h⟩ := h
        refine aj_aload_n C dX7_readBoth_34 rfl ?_
        refine aj_iload_n C dX7_readBoth_35 rfl ?_
        refine aj_callV (rest := []) C mvX7_178 (HR2 _ q0 v1 _ hq0 h) hq0 (aj_np 1 (by decide +kernel) rfl) (Nat.le_of_ble_eq_true rfl) rfl dX7_readBoth_36 (fun r m2 h => ?_)
        obtain ⟨z2, rfl, h⟩ := h
        obtain ⟨r0, h1, h2⟩ := h
        refine aj_if_ne (tgt := 44) C dX7_readBoth_39 (by decide) r0 (fun e => ?_) (fun e => ?_)
        · have h := h1 e
          refine aj_aload_n C dX7_readBoth_44 rfl ?_
          refine aj_getO (x := 6) (y := 0) C flX7_25 hq0 rfl dX7_readBoth_45 ?_
          refine aj_getO (x := 4) (y := 0) C flX7_147 (aj_cf (x := 6) (y := 0) (j := 3) hq0 (by decide) rfl) rfl dX7_readBoth_48 ?_
          refine aj_bipush C dX7_readBoth_51 (by decide) ?_
          refine aj_iconst C dX7_readBoth_53 ?_
          refine aj_callV (rest := []) C mvX7_175 (sX4_add (aj_cf (x := 4) (y := 0) (j := 1) (aj_cf (x := 6) (y := 0) (j := 3) hq0 (by decide) rfl) (by decide) rfl) h) (aj_cf (x := 4) (y := 0) (j := 1) (aj_cf (x := 6) (y := 0) (j := 3) hq0 (by decide) rfl) (by decide) rfl) (aj_np 2 (by decide +kernel) rfl) (Nat.le_of_ble_eq_true rfl) rfl dX7_readBoth_54 (fun r m3 h => ?_)
          obtain ⟨rfl, h⟩ := h
          refine aj_iinc (lv' := [some (vO 7 q0), some (vI v1), some (vI (v2 + 1))]) C dX7_readBoth_57 rfl (by decide) rfl ?_
          refine aj_goto (tgt := 12) C dX7_readBoth_60 (by decide) ?_
          exact ih q0 v1 (v2 + 1) _ hq0 h
        · have h := h2 e
          refine aj_iconst C dX7_readBoth_42 ?_
          exact aj_zret C K (Or.inl rfl) dX7_readBoth_43 ⟨_, rfl, h⟩
def wbX7_readBoth (f : Nat) (Φ : Int → aj_M → Prop) (R : Nat → (Int → aj_M → Prop) → List Nat → Int → aj_M → Prop) (q0 : List Nat) (v1 : Int) (m : aj_M) : Prop := R 2 (fun z1 m1 => rI z1 ∧ (¬ z1 = 0 → hX7_readBoth_12 f Φ R f q0 v1 0 m1) ∧ (z1 = 0 → Φ 0 m1)) q0 v1 m
set_option maxHeartbeats 4000000 in
set_option maxRecDepth 100000 in
theorem sbX7_readBoth {n f : Nat} {Φ : Int → aj_M → Prop} {R : Nat → (Int → aj_M → Prop) → List Nat → Int → aj_M → Prop} (HR0 : ∀ (Φ : Int → aj_M → Prop) (q0 : List Nat) (v1 : Int) (m : aj_M) (hq0 : (.inl (7, q0) : aj_R) ∈ aj_pls), R 0 Φ q0 v1 m → aj_Ct (n + 6) yX7_readTruth cX7_readTruth 3 (some .boolean) [vO 7 q0, vI v1] m (fun r m => ∃ z, r = some (vI z) ∧ Φ z m)) (HR1 : ∀ (Φ : Int → aj_M → Prop) (q0 : List Nat) (v1 : Int) (m : aj_M) (hq0 : (.inl (7, q0) : aj_R) ∈ aj_pls), R 1 Φ q0 v1 m → aj_Ct (n + 6) yX7_readBoth cX7_readBoth 3 (some .boolean) [vO 7 q0, vI v1] m (fun r m => ∃ z, r = some (vI z) ∧ Φ z m)) (HR2 : ∀ (Φ : Int → aj_M → Prop) (q0 : List Nat) (v1 : Int) (m : aj_M) (hq0 : (.inl (7, q0) : aj_R) ∈ aj_pls), R 2 Φ q0 v1 m → aj_Ct (n + 6) yX7_readUnit cX7_readUnit 3 (some .boolean) [vO 7 q0, vI v1] m (fun r m => ∃ z, r = some (vI z) ∧ Φ z m)) (HR3 : ∀ (Φ : Int → aj_M → Prop) (q0 : List Nat) (v1 : Int) (m : aj_M) (hq0 : (.inl (7, q0) : aj_R) ∈ aj_pls), R 3 Φ q0 v1 m → aj_Ct (n + 6) yX7_readComparison cX7_readComparison 3 (some .boolean) [vO 7 q0, vI v1] m (fun r m => ∃ z, r = some (vI z) ∧ Φ z m)) (HR4 : ∀ (Φ : Int → aj_M → Prop) (q0 : List Nat) (v1 : Int) (m : aj_M) (hq0 : (.inl (7, q0) : aj_R) ∈ aj_pls), R 4 Φ q0 v1 m → aj_Ct (n + 6) yX7_readSum cX7_readSum 4 (some .boolean) [vO 7 q0, vI v1] m (fun r m => ∃ z, r = some (vI z) ∧ Φ z m)) (HR5 : ∀ (Φ : Int → aj_M → Prop) (q0 : List Nat) (v1 : Int) (m : aj_M) (hq0 : (.inl (7, q0) : aj_R) ∈ aj_pls), R 5 Φ q0 v1 m → aj_Ct (n + 6) yX7_readTerm cX7_readTerm 3 (some .boolean) [vO 7 q0, vI v1] m (fun r m => ∃ z, r = some (vI z) ∧ Φ z m)) (HR6 : ∀ (Φ : Int → aj_M → Prop) (q0 : List Nat) (v1 : Int) (m : aj_M) (hq0 : (.inl (7, q0) : aj_R) ∈ aj_pls), R 6 Φ q0 v1 m → aj_Ct (n + 6) yX7_readAtom cX7_readAtom 2 (some .boolean) [vO 7 q0, vI v1] m (fun r m => ∃ z, r = some (vI z) ∧ Φ z m)) (HR7 : ∀ (Φ : Int → aj_M → Prop) (q0 : List Nat) (v1 : Int) (m : aj_M) (hq0 : (.inl (7, q0) : aj_R) ∈ aj_pls), R 7 Φ q0 v1 m → aj_Ct (n + 6) yX7_readNested cX7_readNested 3 (some .boolean) [vO 7 q0, vI v1] m (fun r m => ∃ z, r = some (vI z) ∧ Φ z m)) {q0 : List Nat} {v1 : Int} {m : aj_M} (hq0 : (.inl (7, q0) : aj_R) ∈ aj_pls) (h : wbX7_readBoth f Φ R q0 v1 m) : aj_Ct (n + 7) yX7_readBoth cX7_readBoth 3 (some .boolean) [vO 7 q0, vI v1] m (fun r m => ∃ z, r = some (vI z) ∧ Φ z m) := by
  refine aj_met (lv := [some (vO 7 q0), some (vI v1), none]) (by decide +kernel) rfl (Nat.le_of_ble_eq_true rfl) (fun X C K => ?_)
  unfold wbX7_readBoth at h
  refine aj_aload_n C dX7_readBoth_0 rfl ?_
  refine aj_iload_n C dX7_readBoth_1 rfl ?_
  refine aj_callV (rest := []) C mvX7_178 (HR2 _ q0 v1 _ hq0 h) hq0 (aj_np 1 (by decide +kernel) rfl) (Nat.le_of_ble_eq_true rfl) rfl dX7_readBoth_2 (fun r m1 h => ?_)
  obtain ⟨z1, rfl, h⟩ := h
  obtain ⟨r0, h1, h2⟩ := h
  refine aj_if_ne (tgt := 10) C dX7_readBoth_5 (by decide) r0 (fun e => ?_) (fun e => ?_)
  · have h := h1 e
    refine aj_iconst C dX7_readBoth_10 ?_
    refine aj_istore_n (lv' := [some (vO 7 q0), some (vI v1), some (vI 0)]) C dX7_readBoth_11 (by decide) rfl ?_
    exact tX7_readBoth_12 C K HR0 HR1 HR2 HR3 HR4 HR5 HR6 HR7 f q0 v1 0 _ hq0 h
  · have h := h2 e
    refine aj_iconst C dX7_readBoth_8 ?_
    exact aj_zret C K (Or.inl rfl) dX7_readBoth_9 ⟨_, rfl, h⟩
theorem dX7_readUnit_0 : decode cX7_readUnit 0 = .ok (.aload_n 0, 1) := by decide +kernel
theorem dX7_readUnit_1 : decode cX7_readUnit 1 = .ok (.getfield 39, 3) := by decide +kernel
theorem dX7_readUnit_4 : decode cX7_readUnit 4 = .ok (.sipush 219, 3) := by decide +kernel
theorem dX7_readUnit_7 : decode cX7_readUnit 7 = .ok (.if_icmp .eq 18, 3) := by decide +kernel
theorem dX7_readUnit_10 : decode cX7_readUnit 10 = .ok (.aload_n 0, 1) := by decide +kernel
theorem dX7_readUnit_11 : decode cX7_readUnit 11 = .ok (.getfield 39, 3) := by decide +kernel
theorem dX7_readUnit_14 : decode cX7_readUnit 14 = .ok (.bipush 91, 2) := by decide +kernel
theorem dX7_readUnit_16 : decode cX7_readUnit 16 = .ok (.if_icmp .eq 9, 3) := by decide +kernel
theorem dX7_readUnit_19 : decode cX7_readUnit 19 = .ok (.aload_n 0, 1) := by decide +kernel
theorem dX7_readUnit_20 : decode cX7_readUnit 20 = .ok (.iload_n 1, 1) := by decide +kernel
theorem dX7_readUnit_21 : decode cX7_readUnit 21 = .ok (.invokevirtual 181, 3) := by decide +kernel
theorem dX7_readUnit_24 : decode cX7_readUnit 24 = .ok (.ireturn, 1) := by decide +kernel
theorem dX7_readUnit_25 : decode cX7_readUnit 25 = .ok (.iload_n 1, 1) := by decide +kernel
theorem dX7_readUnit_26 : decode cX7_readUnit 26 = .ok (.bipush 6, 2) := by decide +kernel
theorem dX7_readUnit_28 : decode cX7_readUnit 28 = .ok (.if_icmp .lt 9, 3) := by decide +kernel
theorem dX7_readUnit_31 : decode cX7_readUnit 31 = .ok (.aload_n 0, 1) := by decide +kernel
theorem dX7_readUnit_32 : decode cX7_readUnit 32 = .ok (.iconst 4, 1) := by decide +kernel
theorem dX7_readUnit_33 : decode cX7_readUnit 33 = .ok (.invokevirtual 130, 3) := by decide +kernel
theorem dX7_readUnit_36 : decode cX7_readUnit 36 = .ok (.ireturn, 1) := by decide +kernel
theorem dX7_readUnit_37 : decode cX7_readUnit 37 = .ok (.aload_n 0, 1) := by decide +kernel
theorem dX7_readUnit_38 : decode cX7_readUnit 38 = .ok (.getfield 39, 3) := by decide +kernel
theorem dX7_readUnit_41 : decode cX7_readUnit 41 = .ok (.sipush 219, 3) := by decide +kernel
theorem dX7_readUnit_44 : decode cX7_readUnit 44 = .ok (.if_icmp .ne 7, 3) := by decide +kernel
theorem dX7_readUnit_47 : decode cX7_readUnit 47 = .ok (.iconst 1, 1) := by decide +kernel
theorem dX7_readUnit_48 : decode cX7_readUnit 48 = .ok (.goto 4, 3) := by decide +kernel
theorem dX7_readUnit_51 : decode cX7_readUnit 51 = .ok (.iconst 0, 1) := by decide +kernel
theorem dX7_readUnit_52 : decode cX7_readUnit 52 = .ok (.istore_n 2, 1) := by decide +kernel
theorem dX7_readUnit_53 : decode cX7_readUnit 53 = .ok (.aload_n 0, 1) := by decide +kernel
theorem dX7_readUnit_54 : decode cX7_readUnit 54 = .ok (.invokevirtual 60, 3) := by decide +kernel
theorem dX7_readUnit_57 : decode cX7_readUnit 57 = .ok (.iload_n 2, 1) := by decide +kernel
theorem dX7_readUnit_58 : decode cX7_readUnit 58 = .ok (.ifCond .ne 28, 3) := by decide +kernel
theorem dX7_readUnit_61 : decode cX7_readUnit 61 = .ok (.aload_n 0, 1) := by decide +kernel
theorem dX7_readUnit_62 : decode cX7_readUnit 62 = .ok (.iload_n 1, 1) := by decide +kernel
theorem dX7_readUnit_63 : decode cX7_readUnit 63 = .ok (.iconst 1, 1) := by decide +kernel
theorem dX7_readUnit_64 : decode cX7_readUnit 64 = .ok (.iadd, 1) := by decide +kernel
theorem dX7_readUnit_65 : decode cX7_readUnit 65 = .ok (.invokevirtual 154, 3) := by decide +kernel
theorem dX7_readUnit_68 : decode cX7_readUnit 68 = .ok (.ifCond .eq 16, 3) := by decide +kernel
theorem dX7_readUnit_71 : decode cX7_readUnit 71 = .ok (.aload_n 0, 1) := by decide +kernel
theorem dX7_readUnit_72 : decode cX7_readUnit 72 = .ok (.bipush 93, 2) := by decide +kernel
theorem dX7_readUnit_74 : decode cX7_readUnit 74 = .ok (.invokevirtual 70, 3) := by decide +kernel
theorem dX7_readUnit_77 : decode cX7_readUnit 77 = .ok (.ifCond .eq 7, 3) := by decide +kernel
theorem dX7_readUnit_80 : decode cX7_readUnit 80 = .ok (.iconst 1, 1) := by decide +kernel
theorem dX7_readUnit_81 : decode cX7_readUnit 81 = .ok (.goto 4, 3) := by decide +kernel
theorem dX7_readUnit_84 : decode cX7_readUnit 84 = .ok (.iconst 0, 1) := by decide +kernel
theorem dX7_readUnit_85 : decode cX7_readUnit 85 = .ok (.ireturn, 1) := by decide +kernel
theorem dX7_readUnit_86 : decode cX7_readUnit 86 = .ok (.aload_n 0, 1) := by decide +kernel
theorem dX7_readUnit_87 : decode cX7_readUnit 87 = .ok (.iload_n 1, 1) := by decide +kernel
theorem dX7_readUnit_88 : decode cX7_readUnit 88 = .ok (.iconst 1, 1) := by decide +kernel
theorem dX7_readUnit_89 : decode cX7_readUnit 89 = .ok (.iadd, 1) := by decide +kernel
theorem dX7_readUnit_90 : decode cX7_readUnit 90 = .ok (.invokevirtual 178, 3) := by decide +kernel
theorem dX7_readUnit_93 : decode cX7_readUnit 93 = .ok (.ifCond .ne 5, 3) := by decide +kernel
theorem dX7_readUnit_96 : decode cX7_readUnit 96 = .ok (.iconst 0, 1) := by decide +kernel
theorem dX7_readUnit_97 : decode cX7_readUnit 97 = .ok (.ireturn, 1) := by decide +kernel
theorem dX7_readUnit_98 : decode cX7_readUnit 98 = .ok (.aload_n 0, 1) := by decide +kernel
theorem dX7_readUnit_99 : decode cX7_readUnit 99 = .ok (.getfield 25, 3) := by decide +kernel
theorem dX7_readUnit_102 : decode cX7_readUnit 102 = .ok (.getfield 147, 3) := by decide +kernel
theorem dX7_readUnit_105 : decode cX7_readUnit 105 = .ok (.bipush 12, 2) := by decide +kernel
theorem dX7_readUnit_107 : decode cX7_readUnit 107 = .ok (.iconst 0, 1) := by decide +kernel
theorem dX7_readUnit_108 : decode cX7_readUnit 108 = .ok (.invokevirtual 175, 3) := by decide +kernel
theorem dX7_readUnit_111 : decode cX7_readUnit 111 = .ok (.iconst 1, 1) := by decide +kernel
theorem dX7_readUnit_112 : decode cX7_readUnit 112 = .ok (.ireturn, 1) := by decide +kernel
def hX7_readUnit_52 (f : Nat) (Φ : Int → aj_M → Prop) (R : Nat → (Int → aj_M → Prop) → List Nat → Int → aj_M → Prop) (q0 : List Nat) (v1 : Int) (vs0 : Int) (m : aj_M) : Prop := wX7_step f (fun m1 => rI vs0 ∧ (¬ vs0 = 0 → R 2 (fun z2 m2 => rI z2 ∧ (¬ z2 = 0 → wX4_add f (fun m3 => Φ 1 m3) (1 :: (3 :: q0)) 12 0 m2) ∧ (z2 = 0 → Φ 0 m2)) q0 (v1 + 1) m1) ∧ (vs0 = 0 → R 0 (fun z4 m4 => rI z4 ∧ (z4 = 0 → Φ 0 m4) ∧ (¬ (z4 = 0) → wX7_take f (fun z5 m5 => rI z5 ∧ (z5 = 0 → Φ 0 m5) ∧ (¬ (z5 = 0) → Φ 1 m5)) q0 93 m4)) q0 (v1 + 1) m1)) q0 m
set_option maxHeartbeats 4000000 in
set_option maxRecDepth 100000 in
theorem tX7_readUnit_52 {X : aj_T} {n f : Nat} {Φ : Int → aj_M → Prop} (C : aj_Cx X cX7_readUnit RX7 3 (n + 7)) (K : aj_Rt X (some .boolean) (fun r m => ∃ z, r = some (vI z) ∧ Φ z m)) {R : Nat → (Int → aj_M → Prop) → List Nat → Int → aj_M → Prop} (HR0 : ∀ (Φ : Int → aj_M → Prop) (q0 : List Nat) (v1 : Int) (m : aj_M) (hq0 : (.inl (7, q0) : aj_R) ∈ aj_pls), R 0 Φ q0 v1 m → aj_Ct (n + 6) yX7_readTruth cX7_readTruth 3 (some .boolean) [vO 7 q0, vI v1] m (fun r m => ∃ z, r = some (vI z) ∧ Φ z m)) (HR1 : ∀ (Φ : Int → aj_M → Prop) (q0 : List Nat) (v1 : Int) (m : aj_M) (hq0 : (.inl (7, q0) : aj_R) ∈ aj_pls), R 1 Φ q0 v1 m → aj_Ct (n + 6) yX7_readBoth cX7_readBoth 3 (some .boolean) [vO 7 q0, vI v1] m (fun r m => ∃ z, r = some (vI z) ∧ Φ z m)) (HR2 : ∀ (Φ : Int → aj_M → Prop) (q0 : List Nat) (v1 : Int) (m : aj_M) (hq0 : (.inl (7, q0) : aj_R) ∈ aj_pls), R 2 Φ q0 v1 m → aj_Ct (n + 6) yX7_readUnit cX7_readUnit 3 (some .boolean) [vO 7 q0, vI v1] m (fun r m => ∃ z, r = some (vI z) ∧ Φ z m)) (HR3 : ∀ (Φ : Int → aj_M → Prop) (q0 : List Nat) (v1 : Int) (m : aj_M) (hq0 : (.inl (7, q0) : aj_R) ∈ aj_pls), R 3 Φ q0 v1 m → aj_Ct (n + 6) yX7_readComparison cX7_readComparison 3 (some .boolean) [vO 7 q0, vI v1] m (fun r m => ∃ z, r = some (vI z) ∧ Φ z m)) (HR4 : ∀ (Φ : Int → aj_M → Prop) (q0 : List Nat) (v1 : Int) (m : aj_M) (hq0 : (.inl (7, q0) : aj_R) ∈ aj_pls), R 4 Φ q0 v1 m → aj_Ct (n + 6) yX7_readSum cX7_readSum 4 (some .boolean) [vO 7 q0, vI v1] m (fun r m => ∃ z, r = some (vI z) ∧ Φ z m)) (HR5 : ∀ (Φ : Int → aj_M → Prop) (q0 : List Nat) (v1 : Int) (m : aj_M) (hq0 : (.inl (7, q0) : aj_R) ∈ aj_pls), R 5 Φ q0 v1 m → aj_Ct (n + 6) yX7_readTerm cX7_readTerm 3 (some .boolean) [vO 7 q0, vI v1] m (fun r m => ∃ z, r = some (vI z) ∧ Φ z m)) (HR6 : ∀ (Φ : Int → aj_M → Prop) (q0 : List Nat) (v1 : Int) (m : aj_M) (hq0 : (.inl (7, q0) : aj_R) ∈ aj_pls), R 6 Φ q0 v1 m → aj_Ct (n + 6) yX7_readAtom cX7_readAtom 2 (some .boolean) [vO 7 q0, vI v1] m (fun r m => ∃ z, r = some (vI z) ∧ Φ z m)) (HR7 : ∀ (Φ : Int → aj_M → Prop) (q0 : List Nat) (v1 : Int) (m : aj_M) (hq0 : (.inl (7, q0) : aj_R) ∈ aj_pls), R 7 Φ q0 v1 m → aj_Ct (n + 6) yX7_readNested cX7_readNested 3 (some .boolean) [vO 7 q0, vI v1] m (fun r m => ∃ z, r = some (vI z) ∧ Φ z m)) (q0 : List Nat) (v1 : Int) (vs0 : Int) (m : aj_M) (hq0 : (.inl (7, q0) : aj_R) ∈ aj_pls) (h : hX7_readUnit_52 f Φ R q0 v1 vs0 m) : aj_J X 52 [some (vO 7 q0), some (vI v1), none] [vI vs0] m := by
  unfold hX7_readUnit_52 at h
  refine aj_istore_n (lv' := [some (vO 7 q0), some (vI v1), some (vI vs0)]) C dX7_readUnit_52 (by decide) rfl ?_
  refine aj_aload_n C dX7_readUnit_53 rfl ?_
  refine aj_callV (rest := []) C mvX7_60 (sX7_step hq0 h) hq0 (aj_np 0 (by decide +kernel) rfl) (Nat.le_of_ble_eq_true rfl) rfl dX7_readUnit_54 (fun r m1 h => ?_)
  obtain ⟨rfl, h⟩ := h
  refine aj_iload_n C dX7_readUnit_57 rfl ?_
  obtain ⟨r0, h1, h2⟩ := h
  refine aj_if_ne (tgt := 86) C dX7_readUnit_58 (by decide) r0 (fun e => ?_) (fun e => ?_)
  · have h := h1 e
    refine aj_aload_n C dX7_readUnit_86 rfl ?_
    refine aj_iload_n C dX7_readUnit_87 rfl ?_
    refine aj_iconst C dX7_readUnit_88 ?_
    refine aj_iadd C dX7_readUnit_89 ?_
    refine aj_callV (rest := []) C mvX7_178 (HR2 _ q0 (v1 + 1) _ hq0 h) hq0 (aj_np 1 (by decide +kernel) rfl) (Nat.le_of_ble_eq_true rfl) rfl dX7_readUnit_90 (fun r m2 h => ?_)
    obtain ⟨z2, rfl, h⟩ := h
    obtain ⟨r0, h1, h2⟩ := h
    refine aj_if_ne (tgt := 98) C dX7_readUnit_93 (by decide) r0 (fun e => ?_) (fun e => ?_)
    · have h := h1 e
      refine aj_aload_n C dX7_readUnit_98 rfl ?_
      refine aj_getO (x := 6) (y := 0) C flX7_25 hq0 rfl dX7_readUnit_99 ?_
      refine aj_getO (x := 4) (y := 0) C flX7_147 (aj_cf (x := 6) (y := 0) (j := 3) hq0 (by decide) rfl) rfl dX7_readUnit_102 ?_
      refine aj_bipush C dX7_readUnit_105 (by decide) ?_
      refine aj_iconst C dX7_readUnit_107 ?_
      refine aj_callV (rest := []) C mvX7_175 (sX4_add (aj_cf (x := 4) (y := 0) (j := 1) (aj_cf (x := 6) (y := 0) (j := 3) hq0 (by decide) rfl) (by decide) rfl) h) (aj_cf (x := 4) (y := 0) (j := 1) (aj_cf (x := 6) (y := 0) (j := 3) hq0 (by decide) rfl) (by decide) rfl) (aj_np 2 (by decide +kernel) rfl) (Nat.le_of_ble_eq_true rfl) rfl dX7_readUnit_108 (fun r m3 h => ?_)
      obtain ⟨rfl, h⟩ := h
      refine aj_iconst C dX7_readUnit_111 ?_
      exact aj_zret C K (Or.inr rfl) dX7_readUnit_112 ⟨_, rfl, h⟩
    · have h := h2 e
      refine aj_iconst C dX7_readUnit_96 ?_
      exact aj_zret C K (Or.inl rfl) dX7_readUnit_97 ⟨_, rfl, h⟩
  · have h := h2 e
    refine aj_aload_n C dX7_readUnit_61 rfl ?_
    refine aj_iload_n C dX7_readUnit_62 rfl ?_
    refine aj_iconst C dX7_readUnit_63 ?_
    refine aj_iadd C dX7_readUnit_64 ?_
    refine aj_callV (rest := []) C mvX7_154 (HR0 _ q0 (v1 + 1) _ hq0 h) hq0 (aj_np 1 (by decide +kernel) rfl) (Nat.le_of_ble_eq_true rfl) rfl dX7_readUnit_65 (fun r m4 h => ?_)
    obtain ⟨z4, rfl, h⟩ := h
    obtain ⟨r0, h1, h2⟩ := h
    refine aj_if_eq (tgt := 84) C dX7_readUnit_68 (by decide) r0 (fun e => ?_) (fun e => ?_)
    · have h := h1 e
      refine aj_iconst C dX7_readUnit_84 ?_
      exact aj_zret C K (Or.inl rfl) dX7_readUnit_85 ⟨_, rfl, h⟩
    · have h := h2 e
      refine aj_aload_n C dX7_readUnit_71 rfl ?_
      refine aj_bipush C dX7_readUnit_72 (by decide) ?_
      refine aj_callV (rest := []) C mvX7_70 (sX7_take hq0 h) hq0 (aj_np 1 (by decide +kernel) rfl) (Nat.le_of_ble_eq_true rfl) rfl dX7_readUnit_74 (fun r m5 h => ?_)
      obtain ⟨z5, rfl, h⟩ := h
      obtain ⟨r0, h1, h2⟩ := h
      refine aj_if_eq (tgt := 84) C dX7_readUnit_77 (by decide) r0 (fun e => ?_) (fun e => ?_)
      · have h := h1 e
        refine aj_iconst C dX7_readUnit_84 ?_
        exact aj_zret C K (Or.inl rfl) dX7_readUnit_85 ⟨_, rfl, h⟩
      · have h := h2 e
        refine aj_iconst C dX7_readUnit_80 ?_
        refine aj_goto (tgt := 85) C dX7_readUnit_81 (by decide) ?_
        exact aj_zret C K (Or.inr rfl) dX7_readUnit_85 ⟨_, rfl, h⟩
def wbX7_readUnit (f : Nat) (Φ : Int → aj_M → Prop) (R : Nat → (Int → aj_M → Prop) → List Nat → Int → aj_M → Prop) (q0 : List Nat) (v1 : Int) (m : aj_M) : Prop := rI (m q0 7) ∧ ((m q0 7) = 219 → rI v1 ∧ (v1 < 6 → rI (m q0 7) ∧ (¬ (m q0 7) = 219 → hX7_readUnit_52 f Φ R q0 v1 0 m) ∧ ((m q0 7) = 219 → hX7_readUnit_52 f Φ R q0 v1 1 m)) ∧ (¬ (v1 < 6) → wX7_faulty f (fun z1 m1 => (z1 = 0 ∨ z1 = 1) ∧ Φ z1 m1) q0 4 m)) ∧ (¬ ((m q0 7) = 219) → rI (m q0 7) ∧ ((m q0 7) = 91 → rI v1 ∧ (v1 < 6 → rI (m q0 7) ∧ (¬ (m q0 7) = 219 → hX7_readUnit_52 f Φ R q0 v1 0 m) ∧ ((m q0 7) = 219 → hX7_readUnit_52 f Φ R q0 v1 1 m)) ∧ (¬ (v1 < 6) → wX7_faulty f (fun z2 m2 => (z2 = 0 ∨ z2 = 1) ∧ Φ z2 m2) q0 4 m)) ∧ (¬ ((m q0 7) = 91) → R 3 (fun z3 m3 => (z3 = 0 ∨ z3 = 1) ∧ Φ z3 m3) q0 v1 m))
set_option maxHeartbeats 4000000 in
set_option maxRecDepth 100000 in
theorem sbX7_readUnit {n f : Nat} {Φ : Int → aj_M → Prop} {R : Nat → (Int → aj_M → Prop) → List Nat → Int → aj_M → Prop} (HR0 : ∀ (Φ : Int → aj_M → Prop) (q0 : List Nat) (v1 : Int) (m : aj_M) (hq0 : (.inl (7, q0) : aj_R) ∈ aj_pls), R 0 Φ q0 v1 m → aj_Ct (n + 6) yX7_readTruth cX7_readTruth 3 (some .boolean) [vO 7 q0, vI v1] m (fun r m => ∃ z, r = some (vI z) ∧ Φ z m)) (HR1 : ∀ (Φ : Int → aj_M → Prop) (q0 : List Nat) (v1 : Int) (m : aj_M) (hq0 : (.inl (7, q0) : aj_R) ∈ aj_pls), R 1 Φ q0 v1 m → aj_Ct (n + 6) yX7_readBoth cX7_readBoth 3 (some .boolean) [vO 7 q0, vI v1] m (fun r m => ∃ z, r = some (vI z) ∧ Φ z m)) (HR2 : ∀ (Φ : Int → aj_M → Prop) (q0 : List Nat) (v1 : Int) (m : aj_M) (hq0 : (.inl (7, q0) : aj_R) ∈ aj_pls), R 2 Φ q0 v1 m → aj_Ct (n + 6) yX7_readUnit cX7_readUnit 3 (some .boolean) [vO 7 q0, vI v1] m (fun r m => ∃ z, r = some (vI z) ∧ Φ z m)) (HR3 : ∀ (Φ : Int → aj_M → Prop) (q0 : List Nat) (v1 : Int) (m : aj_M) (hq0 : (.inl (7, q0) : aj_R) ∈ aj_pls), R 3 Φ q0 v1 m → aj_Ct (n + 6) yX7_readComparison cX7_readComparison 3 (some .boolean) [vO 7 q0, vI v1] m (fun r m => ∃ z, r = some (vI z) ∧ Φ z m)) (HR4 : ∀ (Φ : Int → aj_M → Prop) (q0 : List Nat) (v1 : Int) (m : aj_M) (hq0 : (.inl (7, q0) : aj_R) ∈ aj_pls), R 4 Φ q0 v1 m → aj_Ct (n + 6) yX7_readSum cX7_readSum 4 (some .boolean) [vO 7 q0, vI v1] m (fun r m => ∃ z, r = some (vI z) ∧ Φ z m)) (HR5 : ∀ (Φ : Int → aj_M → Prop) (q0 : List Nat) (v1 : Int) (m : aj_M) (hq0 : (.inl (7, q0) : aj_R) ∈ aj_pls), R 5 Φ q0 v1 m → aj_Ct (n + 6) yX7_readTerm cX7_readTerm 3 (some .boolean) [vO 7 q0, vI v1] m (fun r m => ∃ z, r = some (vI z) ∧ Φ z m)) (HR6 : ∀ (Φ : Int → aj_M → Prop) (q0 : List Nat) (v1 : Int) (m : aj_M) (hq0 : (.inl (7, q0) : aj_R) ∈ aj_pls), R 6 Φ q0 v1 m → aj_Ct (n + 6) yX7_readAtom cX7_readAtom 2 (some .boolean) [vO 7 q0, vI v1] m (fun r m => ∃ z, r = some (vI z) ∧ Φ z m)) (HR7 : ∀ (Φ : Int → aj_M → Prop) (q0 : List Nat) (v1 : Int) (m : aj_M) (hq0 : (.inl (7, q0) : aj_R) ∈ aj_pls), R 7 Φ q0 v1 m → aj_Ct (n + 6) yX7_readNested cX7_readNested 3 (some .boolean) [vO 7 q0, vI v1] m (fun r m => ∃ z, r = some (vI z) ∧ Φ z m)) {q0 : List Nat} {v1 : Int} {m : aj_M} (hq0 : (.inl (7, q0) : aj_R) ∈ aj_pls) (h : wbX7_readUnit f Φ R q0 v1 m) : aj_Ct (n + 7) yX7_readUnit cX7_readUnit 3 (some .boolean) [vO 7 q0, vI v1] m (fun r m => ∃ z, r = some (vI z) ∧ Φ z m) := by
  refine aj_met (lv := [some (vO 7 q0), some (vI v1), none]) (by decide +kernel) rfl (Nat.le_of_ble_eq_true rfl) (fun X C K => ?_)
  unfold wbX7_readUnit at h
  refine aj_aload_n C dX7_readUnit_0 rfl ?_
  refine aj_getI C flX7_39 hq0 (by decide) dX7_readUnit_1 rfl ?_
  refine aj_sipush C dX7_readUnit_4 (by decide) ?_
  obtain ⟨r0, h1, h2⟩ := h
  refine aj_icmp_eq (tgt := 25) C dX7_readUnit_7 (by decide) r0 (by decide) (fun e => ?_) (fun e => ?_)
  · have h := h1 e
    refine aj_iload_n C dX7_readUnit_25 rfl ?_
    refine aj_bipush C dX7_readUnit_26 (by decide) ?_
    obtain ⟨r0, h1, h2⟩ := h
    refine aj_icmp_lt (tgt := 37) C dX7_readUnit_28 (by decide) r0 (by decide) (fun e => ?_) (fun e => ?_)
    · have h := h1 e
      refine aj_aload_n C dX7_readUnit_37 rfl ?_
      refine aj_getI C flX7_39 hq0 (by decide) dX7_readUnit_38 rfl ?_
      refine aj_sipush C dX7_readUnit_41 (by decide) ?_
      obtain ⟨r0, h1, h2⟩ := h
      refine aj_icmp_ne (tgt := 51) C dX7_readUnit_44 (by decide) r0 (by decide) (fun e => ?_) (fun e => ?_)
      · have h := h1 e
        refine aj_iconst C dX7_readUnit_51 ?_
        exact tX7_readUnit_52 C K HR0 HR1 HR2 HR3 HR4 HR5 HR6 HR7 q0 v1 0 _ hq0 h
      · have h := h2 e
        refine aj_iconst C dX7_readUnit_47 ?_
        refine aj_goto (tgt := 52) C dX7_readUnit_48 (by decide) ?_
        exact tX7_readUnit_52 C K HR0 HR1 HR2 HR3 HR4 HR5 HR6 HR7 q0 v1 1 _ hq0 h
    · have h := h2 e
      refine aj_aload_n C dX7_readUnit_31 rfl ?_
      refine aj_iconst C dX7_readUnit_32 ?_
      refine aj_callV (rest := []) C mvX7_130 (sX7_faulty hq0 h) hq0 (aj_np 1 (by decide +kernel) rfl) (Nat.le_of_ble_eq_true rfl) rfl dX7_readUnit_33 (fun r m1 h => ?_)
      obtain ⟨z1, rfl, h⟩ := h
      exact aj_zret C K h.1 dX7_readUnit_36 ⟨_, rfl, h.2⟩
  · have h := h2 e
    refine aj_aload_n C dX7_readUnit_10 rfl ?_
    refine aj_getI C flX7_39 hq0 (by decide) dX7_readUnit_11 rfl ?_
    refine aj_bipush C dX7_readUnit_14 (by decide) ?_
    obtain ⟨r0, h1, h2⟩ := h
    refine aj_icmp_eq (tgt := 25) C dX7_readUnit_16 (by decide) r0 (by decide) (fun e => ?_) (fun e => ?_)
    · have h := h1 e
      refine aj_iload_n C dX7_readUnit_25 rfl ?_
      refine aj_bipush C dX7_readUnit_26 (by decide) ?_
      obtain ⟨r0, h1, h2⟩ := h
      refine aj_icmp_lt (tgt := 37) C dX7_readUnit_28 (by decide) r0 (by decide) (fun e => ?_) (fun e => ?_)
      · have h := h1 e
        refine aj_aload_n C dX7_readUnit_37 rfl ?_
        refine aj_getI C flX7_39 hq0 (by decide) dX7_readUnit_38 rfl ?_
        refine aj_sipush C dX7_readUnit_41 (by decide) ?_
        obtain ⟨r0, h1, h2⟩ := h
        refine aj_icmp_ne (tgt := 51) C dX7_readUnit_44 (by decide) r0 (by decide) (fun e => ?_) (fun e => ?_)
        · have h := h1 e
          refine aj_iconst C dX7_readUnit_51 ?_
          exact tX7_readUnit_52 C K HR0 HR1 HR2 HR3 HR4 HR5 HR6 HR7 q0 v1 0 _ hq0 h
        · have h := h2 e
          refine aj_iconst C dX7_readUnit_47 ?_
          refine aj_goto (tgt := 52) C dX7_readUnit_48 (by decide) ?_
          exact tX7_readUnit_52 C K HR0 HR1 HR2 HR3 HR4 HR5 HR6 HR7 q0 v1 1 _ hq0 h
      · have h := h2 e
        refine aj_aload_n C dX7_readUnit_31 rfl ?_
        refine aj_iconst C dX7_readUnit_32 ?_
        refine aj_callV (rest := []) C mvX7_130 (sX7_faulty hq0 h) hq0 (aj_np 1 (by decide +kernel) rfl) (Nat.le_of_ble_eq_true rfl) rfl dX7_readUnit_33 (fun r m2 h => ?_)
        obtain ⟨z2, rfl, h⟩ := h
        exact aj_zret C K h.1 dX7_readUnit_36 ⟨_, rfl, h.2⟩
    · have h := h2 e
      refine aj_aload_n C dX7_readUnit_19 rfl ?_
      refine aj_iload_n C dX7_readUnit_20 rfl ?_
      refine aj_callV (rest := []) C mvX7_181 (HR3 _ q0 v1 _ hq0 h) hq0 (aj_np 1 (by decide +kernel) rfl) (Nat.le_of_ble_eq_true rfl) rfl dX7_readUnit_21 (fun r m3 h => ?_)
      obtain ⟨z3, rfl, h⟩ := h
      exact aj_zret C K h.1 dX7_readUnit_24 ⟨_, rfl, h.2⟩
theorem dX7_readComparison_0 : decode cX7_readComparison 0 = .ok (.aload_n 0, 1) := by decide +kernel
theorem dX7_readComparison_1 : decode cX7_readComparison 1 = .ok (.iload_n 1, 1) := by decide +kernel
theorem dX7_readComparison_2 : decode cX7_readComparison 2 = .ok (.invokevirtual 163, 3) := by decide +kernel
theorem dX7_readComparison_5 : decode cX7_readComparison 5 = .ok (.ifCond .ne 5, 3) := by decide +kernel
theorem dX7_readComparison_8 : decode cX7_readComparison 8 = .ok (.iconst 0, 1) := by decide +kernel
theorem dX7_readComparison_9 : decode cX7_readComparison 9 = .ok (.ireturn, 1) := by decide +kernel
theorem dX7_readComparison_10 : decode cX7_readComparison 10 = .ok (.aload_n 0, 1) := by decide +kernel
theorem dX7_readComparison_11 : decode cX7_readComparison 11 = .ok (.getfield 39, 3) := by decide +kernel
theorem dX7_readComparison_14 : decode cX7_readComparison 14 = .ok (.istore_n 2, 1) := by decide +kernel
theorem dX7_readComparison_15 : decode cX7_readComparison 15 = .ok (.iload_n 2, 1) := by decide +kernel
theorem dX7_readComparison_16 : decode cX7_readComparison 16 = .ok (.bipush 61, 2) := by decide +kernel
theorem dX7_readComparison_18 : decode cX7_readComparison 18 = .ok (.if_icmp .eq 20, 3) := by decide +kernel
theorem dX7_readComparison_21 : decode cX7_readComparison 21 = .ok (.iload_n 2, 1) := by decide +kernel
theorem dX7_readComparison_22 : decode cX7_readComparison 22 = .ok (.bipush 60, 2) := by decide +kernel
theorem dX7_readComparison_24 : decode cX7_readComparison 24 = .ok (.if_icmp .eq 14, 3) := by decide +kernel
theorem dX7_readComparison_27 : decode cX7_readComparison 27 = .ok (.iload_n 2, 1) := by decide +kernel
theorem dX7_readComparison_28 : decode cX7_readComparison 28 = .ok (.bipush 62, 2) := by decide +kernel
theorem dX7_readComparison_30 : decode cX7_readComparison 30 = .ok (.if_icmp .eq 8, 3) := by decide +kernel
theorem dX7_readComparison_33 : decode cX7_readComparison 33 = .ok (.aload_n 0, 1) := by decide +kernel
theorem dX7_readComparison_34 : decode cX7_readComparison 34 = .ok (.invokevirtual 86, 3) := by decide +kernel
theorem dX7_readComparison_37 : decode cX7_readComparison 37 = .ok (.ireturn, 1) := by decide +kernel
theorem dX7_readComparison_38 : decode cX7_readComparison 38 = .ok (.aload_n 0, 1) := by decide +kernel
theorem dX7_readComparison_39 : decode cX7_readComparison 39 = .ok (.invokevirtual 60, 3) := by decide +kernel
theorem dX7_readComparison_42 : decode cX7_readComparison 42 = .ok (.aload_n 0, 1) := by decide +kernel
theorem dX7_readComparison_43 : decode cX7_readComparison 43 = .ok (.iload_n 1, 1) := by decide +kernel
theorem dX7_readComparison_44 : decode cX7_readComparison 44 = .ok (.invokevirtual 163, 3) := by decide +kernel
theorem dX7_readComparison_47 : decode cX7_readComparison 47 = .ok (.ifCond .ne 5, 3) := by decide +kernel
theorem dX7_readComparison_50 : decode cX7_readComparison 50 = .ok (.iconst 0, 1) := by decide +kernel
theorem dX7_readComparison_51 : decode cX7_readComparison 51 = .ok (.ireturn, 1) := by decide +kernel
theorem dX7_readComparison_52 : decode cX7_readComparison 52 = .ok (.aload_n 0, 1) := by decide +kernel
theorem dX7_readComparison_53 : decode cX7_readComparison 53 = .ok (.getfield 25, 3) := by decide +kernel
theorem dX7_readComparison_56 : decode cX7_readComparison 56 = .ok (.getfield 147, 3) := by decide +kernel
theorem dX7_readComparison_59 : decode cX7_readComparison 59 = .ok (.iload_n 2, 1) := by decide +kernel
theorem dX7_readComparison_60 : decode cX7_readComparison 60 = .ok (.bipush 61, 2) := by decide +kernel
theorem dX7_readComparison_62 : decode cX7_readComparison 62 = .ok (.if_icmp .ne 8, 3) := by decide +kernel
theorem dX7_readComparison_65 : decode cX7_readComparison 65 = .ok (.bipush 9, 2) := by decide +kernel
theorem dX7_readComparison_67 : decode cX7_readComparison 67 = .ok (.goto 16, 3) := by decide +kernel
theorem dX7_readComparison_70 : decode cX7_readComparison 70 = .ok (.iload_n 2, 1) := by decide +kernel
theorem dX7_readComparison_71 : decode cX7_readComparison 71 = .ok (.bipush 60, 2) := by decide +kernel
theorem dX7_readComparison_73 : decode cX7_readComparison 73 = .ok (.if_icmp .ne 8, 3) := by decide +kernel
theorem dX7_readComparison_76 : decode cX7_readComparison 76 = .ok (.bipush 10, 2) := by decide +kernel
theorem dX7_readComparison_78 : decode cX7_readComparison 78 = .ok (.goto 5, 3) := by decide +kernel
theorem dX7_readComparison_81 : decode cX7_readComparison 81 = .ok (.bipush 11, 2) := by decide +kernel
theorem dX7_readComparison_83 : decode cX7_readComparison 83 = .ok (.iconst 0, 1) := by decide +kernel
theorem dX7_readComparison_84 : decode cX7_readComparison 84 = .ok (.invokevirtual 175, 3) := by decide +kernel
theorem dX7_readComparison_87 : decode cX7_readComparison 87 = .ok (.iconst 1, 1) := by decide +kernel
theorem dX7_readComparison_88 : decode cX7_readComparison 88 = .ok (.ireturn, 1) := by decide +kernel
def hX7_readComparison_38 (f : Nat) (Φ : Int → aj_M → Prop) (R : Nat → (Int → aj_M → Prop) → List Nat → Int → aj_M → Prop) (q0 : List Nat) (v1 : Int) (v2 : Int) (m : aj_M) : Prop := wX7_step f (fun m1 => R 4 (fun z2 m2 => rI z2 ∧ (¬ z2 = 0 → rI v2 ∧ (¬ v2 = 61 → rI v2 ∧ (¬ v2 = 60 → wX4_add f (fun m3 => Φ 1 m3) (1 :: (3 :: q0)) 11 0 m2) ∧ (v2 = 60 → wX4_add f (fun m4 => Φ 1 m4) (1 :: (3 :: q0)) 10 0 m2)) ∧ (v2 = 61 → wX4_add f (fun m5 => Φ 1 m5) (1 :: (3 :: q0)) 9 0 m2)) ∧ (z2 = 0 → Φ 0 m2)) q0 v1 m1) q0 m
set_option maxHeartbeats 4000000 in
set_option maxRecDepth 100000 in
theorem tX7_readComparison_38 {X : aj_T} {n f : Nat} {Φ : Int → aj_M → Prop} (C : aj_Cx X cX7_readComparison RX7 3 (n + 7)) (K : aj_Rt X (some .boolean) (fun r m => ∃ z, r = some (vI z) ∧ Φ z m)) {R : Nat → (Int → aj_M → Prop) → List Nat → Int → aj_M → Prop} (HR0 : ∀ (Φ : Int → aj_M → Prop) (q0 : List Nat) (v1 : Int) (m : aj_M) (hq0 : (.inl (7, q0) : aj_R) ∈ aj_pls), R 0 Φ q0 v1 m → aj_Ct (n + 6) yX7_readTruth cX7_readTruth 3 (some .boolean) [vO 7 q0, vI v1] m (fun r m => ∃ z, r = some (vI z) ∧ Φ z m)) (HR1 : ∀ (Φ : Int → aj_M → Prop) (q0 : List Nat) (v1 : Int) (m : aj_M) (hq0 : (.inl (7, q0) : aj_R) ∈ aj_pls), R 1 Φ q0 v1 m → aj_Ct (n + 6) yX7_readBoth cX7_readBoth 3 (some .boolean) [vO 7 q0, vI v1] m (fun r m => ∃ z, r = some (vI z) ∧ Φ z m)) (HR2 : ∀ (Φ : Int → aj_M → Prop) (q0 : List Nat) (v1 : Int) (m : aj_M) (hq0 : (.inl (7, q0) : aj_R) ∈ aj_pls), R 2 Φ q0 v1 m → aj_Ct (n + 6) yX7_readUnit cX7_readUnit 3 (some .boolean) [vO 7 q0, vI v1] m (fun r m => ∃ z, r = some (vI z) ∧ Φ z m)) (HR3 : ∀ (Φ : Int → aj_M → Prop) (q0 : List Nat) (v1 : Int) (m : aj_M) (hq0 : (.inl (7, q0) : aj_R) ∈ aj_pls), R 3 Φ q0 v1 m → aj_Ct (n + 6) yX7_readComparison cX7_readComparison 3 (some .boolean) [vO 7 q0, vI v1] m (fun r m => ∃ z, r = some (vI z) ∧ Φ z m)) (HR4 : ∀ (Φ : Int → aj_M → Prop) (q0 : List Nat) (v1 : Int) (m : aj_M) (hq0 : (.inl (7, q0) : aj_R) ∈ aj_pls), R 4 Φ q0 v1 m → aj_Ct (n + 6) yX7_readSum cX7_readSum 4 (some .boolean) [vO 7 q0, vI v1] m (fun r m => ∃ z, r = some (vI z) ∧ Φ z m)) (HR5 : ∀ (Φ : Int → aj_M → Prop) (q0 : List Nat) (v1 : Int) (m : aj_M) (hq0 : (.inl (7, q0) : aj_R) ∈ aj_pls), R 5 Φ q0 v1 m → aj_Ct (n + 6) yX7_readTerm cX7_readTerm 3 (some .boolean) [vO 7 q0, vI v1] m (fun r m => ∃ z, r = some (vI z) ∧ Φ z m)) (HR6 : ∀ (Φ : Int → aj_M → Prop) (q0 : List Nat) (v1 : Int) (m : aj_M) (hq0 : (.inl (7, q0) : aj_R) ∈ aj_pls), R 6 Φ q0 v1 m → aj_Ct (n + 6) yX7_readAtom cX7_readAtom 2 (some .boolean) [vO 7 q0, vI v1] m (fun r m => ∃ z, r = some (vI z) ∧ Φ z m)) (HR7 : ∀ (Φ : Int → aj_M → Prop) (q0 : List Nat) (v1 : Int) (m : aj_M) (hq0 : (.inl (7, q0) : aj_R) ∈ aj_pls), R 7 Φ q0 v1 m → aj_Ct (n + 6) yX7_readNested cX7_readNested 3 (some .boolean) [vO 7 q0, vI v1] m (fun r m => ∃ z, r = some (vI z) ∧ Φ z m)) (q0 : List Nat) (v1 : Int) (v2 : Int) (m : aj_M) (hq0 : (.inl (7, q0) : aj_R) ∈ aj_pls) (h : hX7_readComparison_38 f Φ R q0 v1 v2 m) : aj_J X 38 [some (vO 7 q0), some (vI v1), some (vI v2)] [] m := by
  unfold hX7_readComparison_38 at h
  refine aj_aload_n C dX7_readComparison_38 rfl ?_
  refine aj_callV (rest := []) C mvX7_60 (sX7_step hq0 h) hq0 (aj_np 0 (by decide +kernel) rfl) (Nat.le_of_ble_eq_true rfl) rfl dX7_readComparison_39 (fun r m1 h => ?_)
  obtain ⟨rfl, h⟩ := h
  refine aj_aload_n C dX7_readComparison_42 rfl ?_
  refine aj_iload_n C dX7_readComparison_43 rfl ?_
  refine aj_callV (rest := []) C mvX7_163 (HR4 _ q0 v1 _ hq0 h) hq0 (aj_np 1 (by decide +kernel) rfl) (Nat.le_of_ble_eq_true rfl) rfl dX7_readComparison_44 (fun r m2 h => ?_)
  obtain ⟨z2, rfl, h⟩ := h
  obtain ⟨r0, h1, h2⟩ := h
  refine aj_if_ne (tgt := 52) C dX7_readComparison_47 (by decide) r0 (fun e => ?_) (fun e => ?_)
  · have h := h1 e
    refine aj_aload_n C dX7_readComparison_52 rfl ?_
    refine aj_getO (x := 6) (y := 0) C flX7_25 hq0 rfl dX7_readComparison_53 ?_
    refine aj_getO (x := 4) (y := 0) C flX7_147 (aj_cf (x := 6) (y := 0) (j := 3) hq0 (by decide) rfl) rfl dX7_readComparison_56 ?_
    refine aj_iload_n C dX7_readComparison_59 rfl ?_
    refine aj_bipush C dX7_readComparison_60 (by decide) ?_
    obtain ⟨r0, h1, h2⟩ := h
    refine aj_icmp_ne (tgt := 70) C dX7_readComparison_62 (by decide) r0 (by decide) (fun e => ?_) (fun e => ?_)
    · have h := h1 e
      refine aj_iload_n C dX7_readComparison_70 rfl ?_
      refine aj_bipush C dX7_readComparison_71 (by decide) ?_
      obtain ⟨r0, h1, h2⟩ := h
      refine aj_icmp_ne (tgt := 81) C dX7_readComparison_73 (by decide) r0 (by decide) (fun e => ?_) (fun e => ?_)
      · have h := h1 e
        refine aj_bipush C dX7_readComparison_81 (by decide) ?_
        refine aj_iconst C dX7_readComparison_83 ?_
        refine aj_callV (rest := []) C mvX7_175 (sX4_add (aj_cf (x := 4) (y := 0) (j := 1) (aj_cf (x := 6) (y := 0) (j := 3) hq0 (by decide) rfl) (by decide) rfl) h) (aj_cf (x := 4) (y := 0) (j := 1) (aj_cf (x := 6) (y := 0) (j := 3) hq0 (by decide) rfl) (by decide) rfl) (aj_np 2 (by decide +kernel) rfl) (Nat.le_of_ble_eq_true rfl) rfl dX7_readComparison_84 (fun r m3 h => ?_)
        obtain ⟨rfl, h⟩ := h
        refine aj_iconst C dX7_readComparison_87 ?_
        exact aj_zret C K (Or.inr rfl) dX7_readComparison_88 ⟨_, rfl, h⟩
      · have h := h2 e
        refine aj_bipush C dX7_readComparison_76 (by decide) ?_
        refine aj_goto (tgt := 83) C dX7_readComparison_78 (by decide) ?_
        refine aj_iconst C dX7_readComparison_83 ?_
        refine aj_callV (rest := []) C mvX7_175 (sX4_add (aj_cf (x := 4) (y := 0) (j := 1) (aj_cf (x := 6) (y := 0) (j := 3) hq0 (by decide) rfl) (by decide) rfl) h) (aj_cf (x := 4) (y := 0) (j := 1) (aj_cf (x := 6) (y := 0) (j := 3) hq0 (by decide) rfl) (by decide) rfl) (aj_np 2 (by decide +kernel) rfl) (Nat.le_of_ble_eq_true rfl) rfl dX7_readComparison_84 (fun r m4 h => ?_)
        obtain ⟨rfl, h⟩ := h
        refine aj_iconst C dX7_readComparison_87 ?_
        exact aj_zret C K (Or.inr rfl) dX7_readComparison_88 ⟨_, rfl, h⟩
    · have h := h2 e
      refine aj_bipush C dX7_readComparison_65 (by decide) ?_
      refine aj_goto (tgt := 83) C dX7_readComparison_67 (by decide) ?_
      refine aj_iconst C dX7_readComparison_83 ?_
      refine aj_callV (rest := []) C mvX7_175 (sX4_add (aj_cf (x := 4) (y := 0) (j := 1) (aj_cf (x := 6) (y := 0) (j := 3) hq0 (by decide) rfl) (by decide) rfl) h) (aj_cf (x := 4) (y := 0) (j := 1) (aj_cf (x := 6) (y := 0) (j := 3) hq0 (by decide) rfl) (by decide) rfl) (aj_np 2 (by decide +kernel) rfl) (Nat.le_of_ble_eq_true rfl) rfl dX7_readComparison_84 (fun r m5 h => ?_)
      obtain ⟨rfl, h⟩ := h
      refine aj_iconst C dX7_readComparison_87 ?_
      exact aj_zret C K (Or.inr rfl) dX7_readComparison_88 ⟨_, rfl, h⟩
  · have h := h2 e
    refine aj_iconst C dX7_readComparison_50 ?_
    exact aj_zret C K (Or.inl rfl) dX7_readComparison_51 ⟨_, rfl, h⟩
def wbX7_readComparison (f : Nat) (Φ : Int → aj_M → Prop) (R : Nat → (Int → aj_M → Prop) → List Nat → Int → aj_M → Prop) (q0 : List Nat) (v1 : Int) (m : aj_M) : Prop := R 4 (fun z1 m1 => rI z1 ∧ (¬ z1 = 0 → rI (m1 q0 7) ∧ ((m1 q0 7) = 61 → hX7_readComparison_38 f Φ R q0 v1 (m1 q0 7) m1) ∧ (¬ ((m1 q0 7) = 61) → rI (m1 q0 7) ∧ ((m1 q0 7) = 60 → hX7_readComparison_38 f Φ R q0 v1 (m1 q0 7) m1) ∧ (¬ ((m1 q0 7) = 60) → rI (m1 q0 7) ∧ ((m1 q0 7) = 62 → hX7_readComparison_38 f Φ R q0 v1 (m1 q0 7) m1) ∧ (¬ ((m1 q0 7) = 62) → wX7_cantStand f (fun z2 m2 => (z2 = 0 ∨ z2 = 1) ∧ Φ z2 m2) q0 m1)))) ∧ (z1 = 0 → Φ 0 m1)) q0 v1 m
set_option maxHeartbeats 4000000 in
set_option maxRecDepth 100000 in
theorem sbX7_readComparison {n f : Nat} {Φ : Int → aj_M → Prop} {R : Nat → (Int → aj_M → Prop) → List Nat → Int → aj_M → Prop} (HR0 : ∀ (Φ : Int → aj_M → Prop) (q0 : List Nat) (v1 : Int) (m : aj_M) (hq0 : (.inl (7, q0) : aj_R) ∈ aj_pls), R 0 Φ q0 v1 m → aj_Ct (n + 6) yX7_readTruth cX7_readTruth 3 (some .boolean) [vO 7 q0, vI v1] m (fun r m => ∃ z, r = some (vI z) ∧ Φ z m)) (HR1 : ∀ (Φ : Int → aj_M → Prop) (q0 : List Nat) (v1 : Int) (m : aj_M) (hq0 : (.inl (7, q0) : aj_R) ∈ aj_pls), R 1 Φ q0 v1 m → aj_Ct (n + 6) yX7_readBoth cX7_readBoth 3 (some .boolean) [vO 7 q0, vI v1] m (fun r m => ∃ z, r = some (vI z) ∧ Φ z m)) (HR2 : ∀ (Φ : Int → aj_M → Prop) (q0 : List Nat) (v1 : Int) (m : aj_M) (hq0 : (.inl (7, q0) : aj_R) ∈ aj_pls), R 2 Φ q0 v1 m → aj_Ct (n + 6) yX7_readUnit cX7_readUnit 3 (some .boolean) [vO 7 q0, vI v1] m (fun r m => ∃ z, r = some (vI z) ∧ Φ z m)) (HR3 : ∀ (Φ : Int → aj_M → Prop) (q0 : List Nat) (v1 : Int) (m : aj_M) (hq0 : (.inl (7, q0) : aj_R) ∈ aj_pls), R 3 Φ q0 v1 m → aj_Ct (n + 6) yX7_readComparison cX7_readComparison 3 (some .boolean) [vO 7 q0, vI v1] m (fun r m => ∃ z, r = some (vI z) ∧ Φ z m)) (HR4 : ∀ (Φ : Int → aj_M → Prop) (q0 : List Nat) (v1 : Int) (m : aj_M) (hq0 : (.inl (7, q0) : aj_R) ∈ aj_pls), R 4 Φ q0 v1 m → aj_Ct (n + 6) yX7_readSum cX7_readSum 4 (some .boolean) [vO 7 q0, vI v1] m (fun r m => ∃ z, r = some (vI z) ∧ Φ z m)) (HR5 : ∀ (Φ : Int → aj_M → Prop) (q0 : List Nat) (v1 : Int) (m : aj_M) (hq0 : (.inl (7, q0) : aj_R) ∈ aj_pls), R 5 Φ q0 v1 m → aj_Ct (n + 6) yX7_readTerm cX7_readTerm 3 (some .boolean) [vO 7 q0, vI v1] m (fun r m => ∃ z, r = some (vI z) ∧ Φ z m)) (HR6 : ∀ (Φ : Int → aj_M → Prop) (q0 : List Nat) (v1 : Int) (m : aj_M) (hq0 : (.inl (7, q0) : aj_R) ∈ aj_pls), R 6 Φ q0 v1 m → aj_Ct (n + 6) yX7_readAtom cX7_readAtom 2 (some .boolean) [vO 7 q0, vI v1] m (fun r m => ∃ z, r = some (vI z) ∧ Φ z m)) (HR7 : ∀ (Φ : Int → aj_M → Prop) (q0 : List Nat) (v1 : Int) (m : aj_M) (hq0 : (.inl (7, q0) : aj_R) ∈ aj_pls), R 7 Φ q0 v1 m → aj_Ct (n + 6) yX7_readNested cX7_readNested 3 (some .boolean) [vO 7 q0, vI v1] m (fun r m => ∃ z, r = some (vI z) ∧ Φ z m)) {q0 : List Nat} {v1 : Int} {m : aj_M} (hq0 : (.inl (7, q0) : aj_R) ∈ aj_pls) (h : wbX7_readComparison f Φ R q0 v1 m) : aj_Ct (n + 7) yX7_readComparison cX7_readComparison 3 (some .boolean) [vO 7 q0, vI v1] m (fun r m => ∃ z, r = some (vI z) ∧ Φ z m) := by
  refine aj_met (lv := [some (vO 7 q0), some (vI v1), none]) (by decide +kernel) rfl (Nat.le_of_ble_eq_true rfl) (fun X C K => ?_)
  unfold wbX7_readComparison at h
  refine aj_aload_n C dX7_readComparison_0 rfl ?_
  refine aj_iload_n C dX7_readComparison_1 rfl ?_
  refine aj_callV (rest := []) C mvX7_163 (HR4 _ q0 v1 _ hq0 h) hq0 (aj_np 1 (by decide +kernel) rfl) (Nat.le_of_ble_eq_true rfl) rfl dX7_readComparison_2 (fun r m1 h => ?_)
  obtain ⟨z1, rfl, h⟩ := h
  obtain ⟨r0, h1, h2⟩ := h
  refine aj_if_ne (tgt := 10) C dX7_readComparison_5 (by decide) r0 (fun e => ?_) (fun e => ?_)
  · have h := h1 e
    refine aj_aload_n C dX7_readComparison_10 rfl ?_
    refine aj_getI C flX7_39 hq0 (by decide) dX7_readComparison_11 rfl ?_
    refine aj_istore_n (lv' := [some (vO 7 q0), some (vI v1), some (vI (m1 q0 7))]) C dX7_readComparison_14 (by decide) rfl ?_
    refine aj_iload_n C dX7_readComparison_15 rfl ?_
    refine aj_bipush C dX7_readComparison_16 (by decide) ?_
    obtain ⟨r0, h1, h2⟩ := h
    refine aj_icmp_eq (tgt := 38) C dX7_readComparison_18 (by decide) r0 (by decide) (fun e => ?_) (fun e => ?_)
    · have h := h1 e
      exact tX7_readComparison_38 C K HR0 HR1 HR2 HR3 HR4 HR5 HR6 HR7 q0 v1 (m1 q0 7) _ hq0 h
    · have h := h2 e
      refine aj_iload_n C dX7_readComparison_21 rfl ?_
      refine aj_bipush C dX7_readComparison_22 (by decide) ?_
      obtain ⟨r0, h1, h2⟩ := h
      refine aj_icmp_eq (tgt := 38) C dX7_readComparison_24 (by decide) r0 (by decide) (fun e => ?_) (fun e => ?_)
      · have h := h1 e
        exact tX7_readComparison_38 C K HR0 HR1 HR2 HR3 HR4 HR5 HR6 HR7 q0 v1 (m1 q0 7) _ hq0 h
      · have h := h2 e
        refine aj_iload_n C dX7_readComparison_27 rfl ?_
        refine aj_bipush C dX7_readComparison_28 (by decide) ?_
        obtain ⟨r0, h1, h2⟩ := h
        refine aj_icmp_eq (tgt := 38) C dX7_readComparison_30 (by decide) r0 (by decide) (fun e => ?_) (fun e => ?_)
        · have h := h1 e
          exact tX7_readComparison_38 C K HR0 HR1 HR2 HR3 HR4 HR5 HR6 HR7 q0 v1 (m1 q0 7) _ hq0 h
        · have h := h2 e
          refine aj_aload_n C dX7_readComparison_33 rfl ?_
          refine aj_callV (rest := []) C mvX7_86 (sX7_cantStand hq0 h) hq0 (aj_np 0 (by decide +kernel) rfl) (Nat.le_of_ble_eq_true rfl) rfl dX7_readComparison_34 (fun r m2 h => ?_)
          obtain ⟨z2, rfl, h⟩ := h
          exact aj_zret C K h.1 dX7_readComparison_37 ⟨_, rfl, h.2⟩
  · have h := h2 e
    refine aj_iconst C dX7_readComparison_8 ?_
    exact aj_zret C K (Or.inl rfl) dX7_readComparison_9 ⟨_, rfl, h⟩
theorem dX7_readSum_0 : decode cX7_readSum 0 = .ok (.aload_n 0, 1) := by decide +kernel
theorem dX7_readSum_1 : decode cX7_readSum 1 = .ok (.iload_n 1, 1) := by decide +kernel
theorem dX7_readSum_2 : decode cX7_readSum 2 = .ok (.invokevirtual 184, 3) := by decide +kernel
theorem dX7_readSum_5 : decode cX7_readSum 5 = .ok (.ifCond .ne 5, 3) := by decide +kernel
theorem dX7_readSum_8 : decode cX7_readSum 8 = .ok (.iconst 0, 1) := by decide +kernel
theorem dX7_readSum_9 : decode cX7_readSum 9 = .ok (.ireturn, 1) := by decide +kernel
theorem dX7_readSum_10 : decode cX7_readSum 10 = .ok (.iconst 0, 1) := by decide +kernel
theorem dX7_readSum_11 : decode cX7_readSum 11 = .ok (.istore_n 2, 1) := by decide +kernel
theorem dX7_readSum_12 : decode cX7_readSum 12 = .ok (.iload_n 2, 1) := by decide +kernel
theorem dX7_readSum_13 : decode cX7_readSum 13 = .ok (.aload_n 0, 1) := by decide +kernel
theorem dX7_readSum_14 : decode cX7_readSum 14 = .ok (.getfield 19, 3) := by decide +kernel
theorem dX7_readSum_17 : decode cX7_readSum 17 = .ok (.if_icmp .ge 70, 3) := by decide +kernel
theorem dX7_readSum_20 : decode cX7_readSum 20 = .ok (.aload_n 0, 1) := by decide +kernel
theorem dX7_readSum_21 : decode cX7_readSum 21 = .ok (.getfield 39, 3) := by decide +kernel
theorem dX7_readSum_24 : decode cX7_readSum 24 = .ok (.bipush 43, 2) := by decide +kernel
theorem dX7_readSum_26 : decode cX7_readSum 26 = .ok (.if_icmp .eq 12, 3) := by decide +kernel
theorem dX7_readSum_29 : decode cX7_readSum 29 = .ok (.aload_n 0, 1) := by decide +kernel
theorem dX7_readSum_30 : decode cX7_readSum 30 = .ok (.getfield 39, 3) := by decide +kernel
theorem dX7_readSum_33 : decode cX7_readSum 33 = .ok (.bipush 45, 2) := by decide +kernel
theorem dX7_readSum_35 : decode cX7_readSum 35 = .ok (.if_icmp .ne 52, 3) := by decide +kernel
theorem dX7_readSum_38 : decode cX7_readSum 38 = .ok (.aload_n 0, 1) := by decide +kernel
theorem dX7_readSum_39 : decode cX7_readSum 39 = .ok (.getfield 39, 3) := by decide +kernel
theorem dX7_readSum_42 : decode cX7_readSum 42 = .ok (.bipush 43, 2) := by decide +kernel
theorem dX7_readSum_44 : decode cX7_readSum 44 = .ok (.if_icmp .ne 8, 3) := by decide +kernel
theorem dX7_readSum_47 : decode cX7_readSum 47 = .ok (.bipush 6, 2) := by decide +kernel
theorem dX7_readSum_49 : decode cX7_readSum 49 = .ok (.goto 5, 3) := by decide +kernel
theorem dX7_readSum_52 : decode cX7_readSum 52 = .ok (.bipush 7, 2) := by decide +kernel
theorem dX7_readSum_54 : decode cX7_readSum 54 = .ok (.istore_n 3, 1) := by decide +kernel
theorem dX7_readSum_55 : decode cX7_readSum 55 = .ok (.aload_n 0, 1) := by decide +kernel
theorem dX7_readSum_56 : decode cX7_readSum 56 = .ok (.invokevirtual 60, 3) := by decide +kernel
theorem dX7_readSum_59 : decode cX7_readSum 59 = .ok (.aload_n 0, 1) := by decide +kernel
theorem dX7_readSum_60 : decode cX7_readSum 60 = .ok (.iload_n 1, 1) := by decide +kernel
theorem dX7_readSum_61 : decode cX7_readSum 61 = .ok (.invokevirtual 184, 3) := by decide +kernel
theorem dX7_readSum_64 : decode cX7_readSum 64 = .ok (.ifCond .ne 5, 3) := by decide +kernel
theorem dX7_readSum_67 : decode cX7_readSum 67 = .ok (.iconst 0, 1) := by decide +kernel
theorem dX7_readSum_68 : decode cX7_readSum 68 = .ok (.ireturn, 1) := by decide +kernel
theorem dX7_readSum_69 : decode cX7_readSum 69 = .ok (.aload_n 0, 1) := by decide +kernel
theorem dX7_readSum_70 : decode cX7_readSum 70 = .ok (.getfield 25, 3) := by decide +kernel
theorem dX7_readSum_73 : decode cX7_readSum 73 = .ok (.getfield 147, 3) := by decide +kernel
theorem dX7_readSum_76 : decode cX7_readSum 76 = .ok (.iload_n 3, 1) := by decide +kernel
theorem dX7_readSum_77 : decode cX7_readSum 77 = .ok (.iconst 0, 1) := by decide +kernel
theorem dX7_readSum_78 : decode cX7_readSum 78 = .ok (.invokevirtual 175, 3) := by decide +kernel
theorem dX7_readSum_81 : decode cX7_readSum 81 = .ok (.iinc 2 1, 3) := by decide +kernel
theorem dX7_readSum_84 : decode cX7_readSum 84 = .ok (.goto (-72), 3) := by decide +kernel
theorem dX7_readSum_87 : decode cX7_readSum 87 = .ok (.iconst 1, 1) := by decide +kernel
theorem dX7_readSum_88 : decode cX7_readSum 88 = .ok (.ireturn, 1) := by decide +kernel
def hX7_readSum_54 (f : Nat) (Φ : Int → aj_M → Prop) (R : Nat → (Int → aj_M → Prop) → List Nat → Int → aj_M → Prop) (K12 : List Nat → Int → Int → aj_M → Prop) (q0 : List Nat) (v1 : Int) (v2 : Int) (vs0 : Int) (m : aj_M) : Prop := wX7_step f (fun m1 => R 5 (fun z2 m2 => rI z2 ∧ (¬ z2 = 0 → wX4_add f (fun m3 => K12 q0 v1 (v2 + 1) m3) (1 :: (3 :: q0)) vs0 0 m2) ∧ (z2 = 0 → Φ 0 m2)) q0 v1 m1) q0 m
set_option maxHeartbeats 4000000 in
set_option maxRecDepth 100000 in
theorem tX7_readSum_54 {X : aj_T} {n f : Nat} {Φ : Int → aj_M → Prop} (C : aj_Cx X cX7_readSum RX7 4 (n + 7)) (K : aj_Rt X (some .boolean) (fun r m => ∃ z, r = some (vI z) ∧ Φ z m)) {R : Nat → (Int → aj_M → Prop) → List Nat → Int → aj_M → Prop} (HR0 : ∀ (Φ : Int → aj_M → Prop) (q0 : List Nat) (v1 : Int) (m : aj_M) (hq0 : (.inl (7, q0) : aj_R) ∈ aj_pls), R 0 Φ q0 v1 m → aj_Ct (n + 6) yX7_readTruth cX7_readTruth 3 (some .boolean) [vO 7 q0, vI v1] m (fun r m => ∃ z, r = some (vI z) ∧ Φ z m)) (HR1 : ∀ (Φ : Int → aj_M → Prop) (q0 : List Nat) (v1 : Int) (m : aj_M) (hq0 : (.inl (7, q0) : aj_R) ∈ aj_pls), R 1 Φ q0 v1 m → aj_Ct (n + 6) yX7_readBoth cX7_readBoth 3 (some .boolean) [vO 7 q0, vI v1] m (fun r m => ∃ z, r = some (vI z) ∧ Φ z m)) (HR2 : ∀ (Φ : Int → aj_M → Prop) (q0 : List Nat) (v1 : Int) (m : aj_M) (hq0 : (.inl (7, q0) : aj_R) ∈ aj_pls), R 2 Φ q0 v1 m → aj_Ct (n + 6) yX7_readUnit cX7_readUnit 3 (some .boolean) [vO 7 q0, vI v1] m (fun r m => ∃ z, r = some (vI z) ∧ Φ z m)) (HR3 : ∀ (Φ : Int → aj_M → Prop) (q0 : List Nat) (v1 : Int) (m : aj_M) (hq0 : (.inl (7, q0) : aj_R) ∈ aj_pls), R 3 Φ q0 v1 m → aj_Ct (n + 6) yX7_readComparison cX7_readComparison 3 (some .boolean) [vO 7 q0, vI v1] m (fun r m => ∃ z, r = some (vI z) ∧ Φ z m)) (HR4 : ∀ (Φ : Int → aj_M → Prop) (q0 : List Nat) (v1 : Int) (m : aj_M) (hq0 : (.inl (7, q0) : aj_R) ∈ aj_pls), R 4 Φ q0 v1 m → aj_Ct (n + 6) yX7_readSum cX7_readSum 4 (some .boolean) [vO 7 q0, vI v1] m (fun r m => ∃ z, r = some (vI z) ∧ Φ z m)) (HR5 : ∀ (Φ : Int → aj_M → Prop) (q0 : List Nat) (v1 : Int) (m : aj_M) (hq0 : (.inl (7, q0) : aj_R) ∈ aj_pls), R 5 Φ q0 v1 m → aj_Ct (n + 6) yX7_readTerm cX7_readTerm 3 (some .boolean) [vO 7 q0, vI v1] m (fun r m => ∃ z, r = some (vI z) ∧ Φ z m)) (HR6 : ∀ (Φ : Int → aj_M → Prop) (q0 : List Nat) (v1 : Int) (m : aj_M) (hq0 : (.inl (7, q0) : aj_R) ∈ aj_pls), R 6 Φ q0 v1 m → aj_Ct (n + 6) yX7_readAtom cX7_readAtom 2 (some .boolean) [vO 7 q0, vI v1] m (fun r m => ∃ z, r = some (vI z) ∧ Φ z m)) (HR7 : ∀ (Φ : Int → aj_M → Prop) (q0 : List Nat) (v1 : Int) (m : aj_M) (hq0 : (.inl (7, q0) : aj_R) ∈ aj_pls), R 7 Φ q0 v1 m → aj_Ct (n + 6) yX7_readNested cX7_readNested 3 (some .boolean) [vO 7 q0, vI v1] m (fun r m => ∃ z, r = some (vI z) ∧ Φ z m)) {K12 : List Nat → Int → Int → aj_M → Prop} (HK12 : ∀ (q0 : List Nat) (v1 : Int) (v2 : Int) (m : aj_M) (hq0 : (.inl (7, q0) : aj_R) ∈ aj_pls), K12 q0 v1 v2 m → aj_J X 12 [some (vO 7 q0), some (vI v1), some (vI v2), none] [] m) (q0 : List Nat) (v1 : Int) (v2 : Int) (vs0 : Int) (m : aj_M) (hq0 : (.inl (7, q0) : aj_R) ∈ aj_pls) (h : hX7_readSum_54 f Φ R K12 q0 v1 v2 vs0 m) : aj_J X 54 [some (vO 7 q0), some (vI v1), some (vI v2), none] [vI vs0] m := by
  unfold hX7_readSum_54 at h
  refine aj_istore_n (lv' := [some (vO 7 q0), some (vI v1), some (vI v2), some (vI vs0)]) C dX7_readSum_54 (by decide) rfl ?_
  refine aj_aload_n C dX7_readSum_55 rfl ?_
  refine aj_callV (rest := []) C mvX7_60 (sX7_step hq0 h) hq0 (aj_np 0 (by decide +kernel) rfl) (Nat.le_of_ble_eq_true rfl) rfl dX7_readSum_56 (fun r m1 h => ?_)
  obtain ⟨rfl, h⟩ := h
  refine aj_aload_n C dX7_readSum_59 rfl ?_
  refine aj_iload_n C dX7_readSum_60 rfl ?_
  refine aj_callV (rest := []) C mvX7_184 (HR5 _ q0 v1 _ hq0 h) hq0 (aj_np 1 (by decide +kernel) rfl) (Nat.le_of_ble_eq_true rfl) rfl dX7_readSum_61 (fun r m2 h => ?_)
  obtain ⟨z2, rfl, h⟩ := h
  obtain ⟨r0, h1, h2⟩ := h
  refine aj_if_ne (tgt := 69) C dX7_readSum_64 (by decide) r0 (fun e => ?_) (fun e => ?_)
  · have h := h1 e
    refine aj_aload_n C dX7_readSum_69 rfl ?_
    refine aj_getO (x := 6) (y := 0) C flX7_25 hq0 rfl dX7_readSum_70 ?_
    refine aj_getO (x := 4) (y := 0) C flX7_147 (aj_cf (x := 6) (y := 0) (j := 3) hq0 (by decide) rfl) rfl dX7_readSum_73 ?_
    refine aj_iload_n C dX7_readSum_76 rfl ?_
    refine aj_iconst C dX7_readSum_77 ?_
    refine aj_callV (rest := []) C mvX7_175 (sX4_add (aj_cf (x := 4) (y := 0) (j := 1) (aj_cf (x := 6) (y := 0) (j := 3) hq0 (by decide) rfl) (by decide) rfl) h) (aj_cf (x := 4) (y := 0) (j := 1) (aj_cf (x := 6) (y := 0) (j := 3) hq0 (by decide) rfl) (by decide) rfl) (aj_np 2 (by decide +kernel) rfl) (Nat.le_of_ble_eq_true rfl) rfl dX7_readSum_78 (fun r m3 h => ?_)
    obtain ⟨rfl, h⟩ := h
    refine aj_iinc (lv' := [some (vO 7 q0), some (vI v1), some (vI (v2 + 1)), some (vI vs0)]) C dX7_readSum_81 rfl (by decide) rfl ?_
    refine aj_goto (tgt := 12) C dX7_readSum_84 (by decide) ?_
    refine aj_wk (lv' := [some (vO 7 q0), some (vI v1), some (vI (v2 + 1)), none]) (⟨rfl, ⟨rfl, ⟨rfl, trivial⟩⟩⟩) ?_
    exact HK12 q0 v1 (v2 + 1) _ hq0 h
  · have h := h2 e
    refine aj_iconst C dX7_readSum_67 ?_
    exact aj_zret C K (Or.inl rfl) dX7_readSum_68 ⟨_, rfl, h⟩
def hX7_readSum_12 (f : Nat) (Φ : Int → aj_M → Prop) (R : Nat → (Int → aj_M → Prop) → List Nat → Int → aj_M → Prop) : Nat → List Nat → Int → Int → aj_M → Prop
  | 0, _, _, _, _ => False
  | k + 1, q0, v1, v2, m => rI v2 ∧ rI (m q0 2) ∧ ((m q0 2) ≤ v2 → Φ 1 m) ∧ (¬ ((m q0 2) ≤ v2) → rI (m q0 7) ∧ ((m q0 7) = 43 → rI (m q0 7) ∧ (¬ (m q0 7) = 43 → hX7_readSum_54 f Φ R (fun q0 v1 v2 m => hX7_readSum_12 f Φ R k q0 v1 v2 m) q0 v1 v2 7 m) ∧ ((m q0 7) = 43 → hX7_readSum_54 f Φ R (fun q0 v1 v2 m => hX7_readSum_12 f Φ R k q0 v1 v2 m) q0 v1 v2 6 m)) ∧ (¬ ((m q0 7) = 43) → rI (m q0 7) ∧ (¬ (m q0 7) = 45 → Φ 1 m) ∧ ((m q0 7) = 45 → rI (m q0 7) ∧ (¬ (m q0 7) = 43 → hX7_readSum_54 f Φ R (fun q0 v1 v2 m => hX7_readSum_12 f Φ R k q0 v1 v2 m) q0 v1 v2 7 m) ∧ ((m q0 7) = 43 → hX7_readSum_54 f Φ R (fun q0 v1 v2 m => hX7_readSum_12 f Φ R k q0 v1 v2 m) q0 v1 v2 6 m))))
set_option maxHeartbeats 4000000 in
set_option maxRecDepth 100000 in
theorem tX7_readSum_12 {X : aj_T} {n f : Nat} {Φ : Int → aj_M → Prop} (C : aj_Cx X cX7_readSum RX7 4 (n + 7)) (K : aj_Rt X (some .boolean) (fun r m => ∃ z, r = some (vI z) ∧ Φ z m)) {R : Nat → (Int → aj_M → Prop) → List Nat → Int → aj_M → Prop} (HR0 : ∀ (Φ : Int → aj_M → Prop) (q0 : List Nat) (v1 : Int) (m : aj_M) (hq0 : (.inl (7, q0) : aj_R) ∈ aj_pls), R 0 Φ q0 v1 m → aj_Ct (n + 6) yX7_readTruth cX7_readTruth 3 (some .boolean) [vO 7 q0, vI v1] m (fun r m => ∃ z, r = some (vI z) ∧ Φ z m)) (HR1 : ∀ (Φ : Int → aj_M → Prop) (q0 : List Nat) (v1 : Int) (m : aj_M) (hq0 : (.inl (7, q0) : aj_R) ∈ aj_pls), R 1 Φ q0 v1 m → aj_Ct (n + 6) yX7_readBoth cX7_readBoth 3 (some .boolean) [vO 7 q0, vI v1] m (fun r m => ∃ z, r = some (vI z) ∧ Φ z m)) (HR2 : ∀ (Φ : Int → aj_M → Prop) (q0 : List Nat) (v1 : Int) (m : aj_M) (hq0 : (.inl (7, q0) : aj_R) ∈ aj_pls), R 2 Φ q0 v1 m → aj_Ct (n + 6) yX7_readUnit cX7_readUnit 3 (some .boolean) [vO 7 q0, vI v1] m (fun r m => ∃ z, r = some (vI z) ∧ Φ z m)) (HR3 : ∀ (Φ : Int → aj_M → Prop) (q0 : List Nat) (v1 : Int) (m : aj_M) (hq0 : (.inl (7, q0) : aj_R) ∈ aj_pls), R 3 Φ q0 v1 m → aj_Ct (n + 6) yX7_readComparison cX7_readComparison 3 (some .boolean) [vO 7 q0, vI v1] m (fun r m => ∃ z, r = some (vI z) ∧ Φ z m)) (HR4 : ∀ (Φ : Int → aj_M → Prop) (q0 : List Nat) (v1 : Int) (m : aj_M) (hq0 : (.inl (7, q0) : aj_R) ∈ aj_pls), R 4 Φ q0 v1 m → aj_Ct (n + 6) yX7_readSum cX7_readSum 4 (some .boolean) [vO 7 q0, vI v1] m (fun r m => ∃ z, r = some (vI z) ∧ Φ z m)) (HR5 : ∀ (Φ : Int → aj_M → Prop) (q0 : List Nat) (v1 : Int) (m : aj_M) (hq0 : (.inl (7, q0) : aj_R) ∈ aj_pls), R 5 Φ q0 v1 m → aj_Ct (n + 6) yX7_readTerm cX7_readTerm 3 (some .boolean) [vO 7 q0, vI v1] m (fun r m => ∃ z, r = some (vI z) ∧ Φ z m)) (HR6 : ∀ (Φ : Int → aj_M → Prop) (q0 : List Nat) (v1 : Int) (m : aj_M) (hq0 : (.inl (7, q0) : aj_R) ∈ aj_pls), R 6 Φ q0 v1 m → aj_Ct (n + 6) yX7_readAtom cX7_readAtom 2 (some .boolean) [vO 7 q0, vI v1] m (fun r m => ∃ z, r = some (vI z) ∧ Φ z m)) (HR7 : ∀ (Φ : Int → aj_M → Prop) (q0 : List Nat) (v1 : Int) (m : aj_M) (hq0 : (.inl (7, q0) : aj_R) ∈ aj_pls), R 7 Φ q0 v1 m → aj_Ct (n + 6) yX7_readNested cX7_readNested 3 (some .boolean) [vO 7 q0, vI v1] m (fun r m => ∃ z, r = some (vI z) ∧ Φ z m)) : ∀ (k : Nat) (q0 : List Nat) (v1 : Int) (v2 : Int) (m : aj_M) (hq0 : (.inl (7, q0) : aj_R) ∈ aj_pls), hX7_readSum_12 f Φ R k q0 v1 v2 m → aj_J X 12 [some (vO 7 q0), some (vI v1), some (vI v2), none] [] m := by
  intro k
  induction k with
  | zero =>
    intro q0 v1 v2 m _ h
    exact h.elim
  | succ k ih =>
    intro q0 v1 v2 m hq0 h
    unfold hX7_readSum_12 at h
    refine aj_iload_n C dX7_readSum_12 rfl ?_
    refine aj_aload_n C dX7_readSum_13 rfl ?_
    refine aj_getI C flX7_19 hq0 (by decide) dX7_readSum_14 rfl ?_
    obtain ⟨r0, r1, h1, h2⟩ := h
    refine aj_icmp_ge (tgt := 87) C dX7_readSum_17 (by decide) r0 r1 (fun e => ?_) (fun e => ?_)
    · have h := h1 e
      refine aj_iconst C dX7_readSum_87 ?_
      exact aj_zret C K (Or.inr rfl) dX7_readSum_88 ⟨_, rfl, h⟩
    · have h := h2 e
      refine aj_aload_n C dX7_readSum_20 rfl ?_
      refine aj_getI C flX7_39 hq0 (by decide) dX7_readSum_21 rfl ?_
      refine aj_bipush C dX7_readSum_24 (by decide) ?_
      obtain ⟨r0, h1, h2⟩ := h
      refine aj_icmp_eq (tgt := 38) C dX7_readSum_26 (by decide) r0 (by decide) (fun e => ?_) (fun e => ?_)
      · have h := h1 e
        refine aj_aload_n C dX7_readSum_38 rfl ?_
        refine aj_getI C flX7_39 hq0 (by decide) dX7_readSum_39 rfl ?_
        refine aj_bipush C dX7_readSum_42 (by decide) ?_
        obtain ⟨r0, h1, h2⟩ := h
        refine aj_icmp_ne (tgt := 52) C dX7_readSum_44 (by decide) r0 (by decide) (fun e => ?_) (fun e => ?_)
        · have h := h1 e
          refine aj_bipush C dX7_readSum_52 (by decide) ?_
          exact tX7_readSum_54 C K HR0 HR1 HR2 HR3 HR4 HR5 HR6 HR7 (fun q0 v1 v2 m hq0 hh => ih q0 v1 v2 m hq0 hh) q0 v1 v2 7 _ hq0 h
        · have h := h2 e
          refine aj_bipush C dX7_readSum_47 (by decide) ?_
          refine aj_goto (tgt := 54) C dX7_readSum_49 (by decide) ?_
          exact tX7_readSum_54 C K HR0 HR1 HR2 HR3 HR4 HR5 HR6 HR7 (fun q0 v1 v2 m hq0 hh => ih q0 v1 v2 m hq0 hh) q0 v1 v2 6 _ hq0 h
      · have h := h2 e
        refine aj_aload_n C dX7_readSum_29 rfl ?_
        refine aj_getI C flX7_39 hq0 (by decide) dX7_readSum_30 rfl ?_
        refine aj_bipush C dX7_readSum_33 (by decide) ?_
        obtain ⟨r0, h1, h2⟩ := h
        refine aj_icmp_ne (tgt := 87) C dX7_readSum_35 (by decide) r0 (by decide) (fun e => ?_) (fun e => ?_)
        · have h := h1 e
          refine aj_iconst C dX7_readSum_87 ?_
          exact aj_zret C K (Or.inr rfl) dX7_readSum_88 ⟨_, rfl, h⟩
        · have h := h2 e
          refine aj_aload_n C dX7_readSum_38 rfl ?_
          refine aj_getI C flX7_39 hq0 (by decide) dX7_readSum_39 rfl ?_
          refine aj_bipush C dX7_readSum_42 (by decide) ?_
          obtain ⟨r0, h1, h2⟩ := h
          refine aj_icmp_ne (tgt := 52) C dX7_readSum_44 (by decide) r0 (by decide) (fun e => ?_) (fun e => ?_)
          · have h := h1 e
            refine aj_bipush C dX7_readSum_52 (by decide) ?_
            exact tX7_readSum_54 C K HR0 HR1 HR2 HR3 HR4 HR5 HR6 HR7 (fun q0 v1 v2 m hq0 hh => ih q0 v1 v2 m hq0 hh) q0 v1 v2 7 _ hq0 h
          · have h := h2 e
            refine aj_bipush C dX7_readSum_47 (by decide) ?_
            refine aj_goto (tgt := 54) C dX7_readSum_49 (by decide) ?_
            exact tX7_readSum_54 C K HR0 HR1 HR2 HR3 HR4 HR5 HR6 HR7 (fun q0 v1 v2 m hq0 hh => ih q0 v1 v2 m hq0 hh) q0 v1 v2 6 _ hq0 h
def wbX7_readSum (f : Nat) (Φ : Int → aj_M → Prop) (R : Nat → (Int → aj_M → Prop) → List Nat → Int → aj_M → Prop) (q0 : List Nat) (v1 : Int) (m : aj_M) : Prop := R 5 (fun z1 m1 => rI z1 ∧ (¬ z1 = 0 → hX7_readSum_12 f Φ R f q0 v1 0 m1) ∧ (z1 = 0 → Φ 0 m1)) q0 v1 m
set_option maxHeartbeats 4000000 in
set_option maxRecDepth 100000 in
theorem sbX7_readSum {n f : Nat} {Φ : Int → aj_M → Prop} {R : Nat → (Int → aj_M → Prop) → List Nat → Int → aj_M → Prop} (HR0 : ∀ (Φ : Int → aj_M → Prop) (q0 : List Nat) (v1 : Int) (m : aj_M) (hq0 : (.inl (7, q0) : aj_R) ∈ aj_pls), R 0 Φ q0 v1 m → aj_Ct (n + 6) yX7_readTruth cX7_readTruth 3 (some .boolean) [vO 7 q0, vI v1] m (fun r m => ∃ z, r = some (vI z) ∧ Φ z m)) (HR1 : ∀ (Φ : Int → aj_M → Prop) (q0 : List Nat) (v1 : Int) (m : aj_M) (hq0 : (.inl (7, q0) : aj_R) ∈ aj_pls), R 1 Φ q0 v1 m → aj_Ct (n + 6) yX7_readBoth cX7_readBoth 3 (some .boolean) [vO 7 q0, vI v1] m (fun r m => ∃ z, r = some (vI z) ∧ Φ z m)) (HR2 : ∀ (Φ : Int → aj_M → Prop) (q0 : List Nat) (v1 : Int) (m : aj_M) (hq0 : (.inl (7, q0) : aj_R) ∈ aj_pls), R 2 Φ q0 v1 m → aj_Ct (n + 6) yX7_readUnit cX7_readUnit 3 (some .boolean) [vO 7 q0, vI v1] m (fun r m => ∃ z, r = some (vI z) ∧ Φ z m)) (HR3 : ∀ (Φ : Int → aj_M → Prop) (q0 : List Nat) (v1 : Int) (m : aj_M) (hq0 : (.inl (7, q0) : aj_R) ∈ aj_pls), R 3 Φ q0 v1 m → aj_Ct (n + 6) yX7_readComparison cX7_readComparison 3 (some .boolean) [vO 7 q0, vI v1] m (fun r m => ∃ z, r = some (vI z) ∧ Φ z m)) (HR4 : ∀ (Φ : Int → aj_M → Prop) (q0 : List Nat) (v1 : Int) (m : aj_M) (hq0 : (.inl (7, q0) : aj_R) ∈ aj_pls), R 4 Φ q0 v1 m → aj_Ct (n + 6) yX7_readSum cX7_readSum 4 (some .boolean) [vO 7 q0, vI v1] m (fun r m => ∃ z, r = some (vI z) ∧ Φ z m)) (HR5 : ∀ (Φ : Int → aj_M → Prop) (q0 : List Nat) (v1 : Int) (m : aj_M) (hq0 : (.inl (7, q0) : aj_R) ∈ aj_pls), R 5 Φ q0 v1 m → aj_Ct (n + 6) yX7_readTerm cX7_readTerm 3 (some .boolean) [vO 7 q0, vI v1] m (fun r m => ∃ z, r = some (vI z) ∧ Φ z m)) (HR6 : ∀ (Φ : Int → aj_M → Prop) (q0 : List Nat) (v1 : Int) (m : aj_M) (hq0 : (.inl (7, q0) : aj_R) ∈ aj_pls), R 6 Φ q0 v1 m → aj_Ct (n + 6) yX7_readAtom cX7_readAtom 2 (some .boolean) [vO 7 q0, vI v1] m (fun r m => ∃ z, r = some (vI z) ∧ Φ z m)) (HR7 : ∀ (Φ : Int → aj_M → Prop) (q0 : List Nat) (v1 : Int) (m : aj_M) (hq0 : (.inl (7, q0) : aj_R) ∈ aj_pls), R 7 Φ q0 v1 m → aj_Ct (n + 6) yX7_readNested cX7_readNested 3 (some .boolean) [vO 7 q0, vI v1] m (fun r m => ∃ z, r = some (vI z) ∧ Φ z m)) {q0 : List Nat} {v1 : Int} {m : aj_M} (hq0 : (.inl (7, q0) : aj_R) ∈ aj_pls) (h : wbX7_readSum f Φ R q0 v1 m) : aj_Ct (n + 7) yX7_readSum cX7_readSum 4 (some .boolean) [vO 7 q0, vI v1] m (fun r m => ∃ z, r = some (vI z) ∧ Φ z m) := by
  refine aj_met (lv := [some (vO 7 q0), some (vI v1), none, none]) (by decide +kernel) rfl (Nat.le_of_ble_eq_true rfl) (fun X C K => ?_)
  unfold wbX7_readSum at h
  refine aj_aload_n C dX7_readSum_0 rfl ?_
  refine aj_iload_n C dX7_readSum_1 rfl ?_
  refine aj_callV (rest := []) C mvX7_184 (HR5 _ q0 v1 _ hq0 h) hq0 (aj_np 1 (by decide +kernel) rfl) (Nat.le_of_ble_eq_true rfl) rfl dX7_readSum_2 (fun r m1 h => ?_)
  obtain ⟨z1, rfl, h⟩ := h
  obtain ⟨r0, h1, h2⟩ := h
  refine aj_if_ne (tgt := 10) C dX7_readSum_5 (by decide) r0 (fun e => ?_) (fun e => ?_)
  · have h := h1 e
    refine aj_iconst C dX7_readSum_10 ?_
    refine aj_istore_n (lv' := [some (vO 7 q0), some (vI v1), some (vI 0), none]) C dX7_readSum_11 (by decide) rfl ?_
    exact tX7_readSum_12 C K HR0 HR1 HR2 HR3 HR4 HR5 HR6 HR7 f q0 v1 0 _ hq0 h
  · have h := h2 e
    refine aj_iconst C dX7_readSum_8 ?_
    exact aj_zret C K (Or.inl rfl) dX7_readSum_9 ⟨_, rfl, h⟩
theorem dX7_readTerm_0 : decode cX7_readTerm 0 = .ok (.aload_n 0, 1) := by decide +kernel
theorem dX7_readTerm_1 : decode cX7_readTerm 1 = .ok (.iload_n 1, 1) := by decide +kernel
theorem dX7_readTerm_2 : decode cX7_readTerm 2 = .ok (.invokevirtual 187, 3) := by decide +kernel
theorem dX7_readTerm_5 : decode cX7_readTerm 5 = .ok (.ifCond .ne 5, 3) := by decide +kernel
theorem dX7_readTerm_8 : decode cX7_readTerm 8 = .ok (.iconst 0, 1) := by decide +kernel
theorem dX7_readTerm_9 : decode cX7_readTerm 9 = .ok (.ireturn, 1) := by decide +kernel
theorem dX7_readTerm_10 : decode cX7_readTerm 10 = .ok (.iconst 0, 1) := by decide +kernel
theorem dX7_readTerm_11 : decode cX7_readTerm 11 = .ok (.istore_n 2, 1) := by decide +kernel
theorem dX7_readTerm_12 : decode cX7_readTerm 12 = .ok (.iload_n 2, 1) := by decide +kernel
theorem dX7_readTerm_13 : decode cX7_readTerm 13 = .ok (.aload_n 0, 1) := by decide +kernel
theorem dX7_readTerm_14 : decode cX7_readTerm 14 = .ok (.getfield 19, 3) := by decide +kernel
theorem dX7_readTerm_17 : decode cX7_readTerm 17 = .ok (.if_icmp .ge 45, 3) := by decide +kernel
theorem dX7_readTerm_20 : decode cX7_readTerm 20 = .ok (.aload_n 0, 1) := by decide +kernel
theorem dX7_readTerm_21 : decode cX7_readTerm 21 = .ok (.getfield 39, 3) := by decide +kernel
theorem dX7_readTerm_24 : decode cX7_readTerm 24 = .ok (.bipush 42, 2) := by decide +kernel
theorem dX7_readTerm_26 : decode cX7_readTerm 26 = .ok (.if_icmp .ne 36, 3) := by decide +kernel
theorem dX7_readTerm_29 : decode cX7_readTerm 29 = .ok (.aload_n 0, 1) := by decide +kernel
theorem dX7_readTerm_30 : decode cX7_readTerm 30 = .ok (.invokevirtual 60, 3) := by decide +kernel
theorem dX7_readTerm_33 : decode cX7_readTerm 33 = .ok (.aload_n 0, 1) := by decide +kernel
theorem dX7_readTerm_34 : decode cX7_readTerm 34 = .ok (.iload_n 1, 1) := by decide +kernel
theorem dX7_readTerm_35 : decode cX7_readTerm 35 = .ok (.invokevirtual 187, 3) := by decide +kernel
theorem dX7_readTerm_38 : decode cX7_readTerm 38 = .ok (.ifCond .ne 5, 3) := by decide +kernel
theorem dX7_readTerm_41 : decode cX7_readTerm 41 = .ok (.iconst 0, 1) := by decide +kernel
theorem dX7_readTerm_42 : decode cX7_readTerm 42 = .ok (.ireturn, 1) := by decide +kernel
theorem dX7_readTerm_43 : decode cX7_readTerm 43 = .ok (.aload_n 0, 1) := by decide +kernel
theorem dX7_readTerm_44 : decode cX7_readTerm 44 = .ok (.getfield 25, 3) := by decide +kernel
theorem dX7_readTerm_47 : decode cX7_readTerm 47 = .ok (.getfield 147, 3) := by decide +kernel
theorem dX7_readTerm_50 : decode cX7_readTerm 50 = .ok (.bipush 8, 2) := by decide +kernel
theorem dX7_readTerm_52 : decode cX7_readTerm 52 = .ok (.iconst 0, 1) := by decide +kernel
theorem dX7_readTerm_53 : decode cX7_readTerm 53 = .ok (.invokevirtual 175, 3) := by decide +kernel
theorem dX7_readTerm_56 : decode cX7_readTerm 56 = .ok (.iinc 2 1, 3) := by decide +kernel
theorem dX7_readTerm_59 : decode cX7_readTerm 59 = .ok (.goto (-47), 3) := by decide +kernel
theorem dX7_readTerm_62 : decode cX7_readTerm 62 = .ok (.iconst 1, 1) := by decide +kernel
theorem dX7_readTerm_63 : decode cX7_readTerm 63 = .ok (.ireturn, 1) := by decide +kernel
def hX7_readTerm_12 (f : Nat) (Φ : Int → aj_M → Prop) (R : Nat → (Int → aj_M → Prop) → List Nat → Int → aj_M → Prop) : Nat → List Nat → Int → Int → aj_M → Prop
  | 0, _, _, _, _ => False
  | k + 1, q0, v1, v2, m => rI v2 ∧ rI (m q0 2) ∧ ((m q0 2) ≤ v2 → Φ 1 m) ∧ (¬ ((m q0 2) ≤ v2) → rI (m q0 7) ∧ (¬ (m q0 7) = 42 → Φ 1 m) ∧ ((m q0 7) = 42 → wX7_step f (fun m1 => R 6 (fun z2 m2 => rI z2 ∧ (¬ z2 = 0 → wX4_add f (fun m3 => hX7_readTerm_12 f Φ R k q0 v1 (v2 + 1) m3) (1 :: (3 :: q0)) 8 0 m2) ∧ (z2 = 0 → Φ 0 m2)) q0 v1 m1) q0 m))
set_option maxHeartbeats 4000000 in
set_option maxRecDepth 100000 in
theorem tX7_readTerm_12 {X : aj_T} {n f : Nat} {Φ : Int → aj_M → Prop} (C : aj_Cx X cX7_readTerm RX7 3 (n + 7)) (K : aj_Rt X (some .boolean) (fun r m => ∃ z, r = some (vI z) ∧ Φ z m)) {R : Nat → (Int → aj_M → Prop) → List Nat → Int → aj_M → Prop} (HR0 : ∀ (Φ : Int → aj_M → Prop) (q0 : List Nat) (v1 : Int) (m : aj_M) (hq0 : (.inl (7, q0) : aj_R) ∈ aj_pls), R 0 Φ q0 v1 m → aj_Ct (n + 6) yX7_readTruth cX7_readTruth 3 (some .boolean) [vO 7 q0, vI v1] m (fun r m => ∃ z, r = some (vI z) ∧ Φ z m)) (HR1 : ∀ (Φ : Int → aj_M → Prop) (q0 : List Nat) (v1 : Int) (m : aj_M) (hq0 : (.inl (7, q0) : aj_R) ∈ aj_pls), R 1 Φ q0 v1 m → aj_Ct (n + 6) yX7_readBoth cX7_readBoth 3 (some .boolean) [vO 7 q0, vI v1] m (fun r m => ∃ z, r = some (vI z) ∧ Φ z m)) (HR2 : ∀ (Φ : Int → aj_M → Prop) (q0 : List Nat) (v1 : Int) (m : aj_M) (hq0 : (.inl (7, q0) : aj_R) ∈ aj_pls), R 2 Φ q0 v1 m → aj_Ct (n + 6) yX7_readUnit cX7_readUnit 3 (some .boolean) [vO 7 q0, vI v1] m (fun r m => ∃ z, r = some (vI z) ∧ Φ z m)) (HR3 : ∀ (Φ : Int → aj_M → Prop) (q0 : List Nat) (v1 : Int) (m : aj_M) (hq0 : (.inl (7, q0) : aj_R) ∈ aj_pls), R 3 Φ q0 v1 m → aj_Ct (n + 6) yX7_readComparison cX7_readComparison 3 (some .boolean) [vO 7 q0, vI v1] m (fun r m => ∃ z, r = some (vI z) ∧ Φ z m)) (HR4 : ∀ (Φ : Int → aj_M → Prop) (q0 : List Nat) (v1 : Int) (m : aj_M) (hq0 : (.inl (7, q0) : aj_R) ∈ aj_pls), R 4 Φ q0 v1 m → aj_Ct (n + 6) yX7_readSum cX7_readSum 4 (some .boolean) [vO 7 q0, vI v1] m (fun r m => ∃ z, r = some (vI z) ∧ Φ z m)) (HR5 : ∀ (Φ : Int → aj_M → Prop) (q0 : List Nat) (v1 : Int) (m : aj_M) (hq0 : (.inl (7, q0) : aj_R) ∈ aj_pls), R 5 Φ q0 v1 m → aj_Ct (n + 6) yX7_readTerm cX7_readTerm 3 (some .boolean) [vO 7 q0, vI v1] m (fun r m => ∃ z, r = some (vI z) ∧ Φ z m)) (HR6 : ∀ (Φ : Int → aj_M → Prop) (q0 : List Nat) (v1 : Int) (m : aj_M) (hq0 : (.inl (7, q0) : aj_R) ∈ aj_pls), R 6 Φ q0 v1 m → aj_Ct (n + 6) yX7_readAtom cX7_readAtom 2 (some .boolean) [vO 7 q0, vI v1] m (fun r m => ∃ z, r = some (vI z) ∧ Φ z m)) (HR7 : ∀ (Φ : Int → aj_M → Prop) (q0 : List Nat) (v1 : Int) (m : aj_M) (hq0 : (.inl (7, q0) : aj_R) ∈ aj_pls), R 7 Φ q0 v1 m → aj_Ct (n + 6) yX7_readNested cX7_readNested 3 (some .boolean) [vO 7 q0, vI v1] m (fun r m => ∃ z, r = some (vI z) ∧ Φ z m)) : ∀ (k : Nat) (q0 : List Nat) (v1 : Int) (v2 : Int) (m : aj_M) (hq0 : (.inl (7, q0) : aj_R) ∈ aj_pls), hX7_readTerm_12 f Φ R k q0 v1 v2 m → aj_J X 12 [some (vO 7 q0), some (vI v1), some (vI v2)] [] m := by
  intro k
  induction k with
  | zero =>
    intro q0 v1 v2 m _ h
    exact h.elim
  | succ k ih =>
    intro q0 v1 v2 m hq0 h
    unfold hX7_readTerm_12 at h
    refine aj_iload_n C dX7_readTerm_12 rfl ?_
    refine aj_aload_n C dX7_readTerm_13 rfl ?_
    refine aj_getI C flX7_19 hq0 (by decide) dX7_readTerm_14 rfl ?_
    obtain ⟨r0, r1, h1, h2⟩ := h
    refine aj_icmp_ge (tgt := 62) C dX7_readTerm_17 (by decide) r0 r1 (fun e => ?_) (fun e => ?_)
    · have h := h1 e
      refine aj_iconst C dX7_readTerm_62 ?_
      exact aj_zret C K (Or.inr rfl) dX7_readTerm_63 ⟨_, rfl, h⟩
    · have h := h2 e
      refine aj_aload_n C dX7_readTerm_20 rfl ?_
      refine aj_getI C flX7_39 hq0 (by decide) dX7_readTerm_21 rfl ?_
      refine aj_bipush C dX7_readTerm_24 (by decide) ?_
      obtain ⟨r0, h1, h2⟩ := h
      refine aj_icmp_ne (tgt := 62) C dX7_readTerm_26 (by decide) r0 (by decide) (fun e => ?_) (fun e => ?_)
      · have h := h1 e
        refine aj_iconst C dX7_readTerm_62 ?_
        exact aj_zret C K (Or.inr rfl) dX7_readTerm_63 ⟨_, rfl, h⟩
      · have h := h2 e
        refine aj_aload_n C dX7_readTerm_29 rfl ?_
        refine aj_callV (rest := []) C mvX7_60 (sX7_step hq0 h) hq0 (aj_np 0 (by decide +kernel) rfl) (Nat.le_of_ble_eq_true rfl) rfl dX7_readTerm_30 (fun r m1 h => ?_)
        obtain ⟨rfl, h⟩ := h
        refine aj_aload_n C dX7_readTerm_33 rfl ?_
        refine aj_iload_n C dX7_readTerm_34 rfl ?_
        refine aj_callV (rest := []) C mvX7_187 (HR6 _ q0 v1 _ hq0 h) hq0 (aj_np 1 (by decide +kernel) rfl) (Nat.le_of_ble_eq_true rfl) rfl dX7_readTerm_35 (fun r m2 h => ?_)
        obtain ⟨z2, rfl, h⟩ := h
        obtain ⟨r0, h1, h2⟩ := h
        refine aj_if_ne (tgt := 43) C dX7_readTerm_38 (by decide) r0 (fun e => ?_) (fun e => ?_)
        · have h := h1 e
          refine aj_aload_n C dX7_readTerm_43 rfl ?_
          refine aj_getO (x := 6) (y := 0) C flX7_25 hq0 rfl dX7_readTerm_44 ?_
          refine aj_getO (x := 4) (y := 0) C flX7_147 (aj_cf (x := 6) (y := 0) (j := 3) hq0 (by decide) rfl) rfl dX7_readTerm_47 ?_
          refine aj_bipush C dX7_readTerm_50 (by decide) ?_
          refine aj_iconst C dX7_readTerm_52 ?_
          refine aj_callV (rest := []) C mvX7_175 (sX4_add (aj_cf (x := 4) (y := 0) (j := 1) (aj_cf (x := 6) (y := 0) (j := 3) hq0 (by decide) rfl) (by decide) rfl) h) (aj_cf (x := 4) (y := 0) (j := 1) (aj_cf (x := 6) (y := 0) (j := 3) hq0 (by decide) rfl) (by decide) rfl) (aj_np 2 (by decide +kernel) rfl) (Nat.le_of_ble_eq_true rfl) rfl dX7_readTerm_53 (fun r m3 h => ?_)
          obtain ⟨rfl, h⟩ := h
          refine aj_iinc (lv' := [some (vO 7 q0), some (vI v1), some (vI (v2 + 1))]) C dX7_readTerm_56 rfl (by decide) rfl ?_
          refine aj_goto (tgt := 12) C dX7_readTerm_59 (by decide) ?_
          exact ih q0 v1 (v2 + 1) _ hq0 h
        · have h := h2 e
          refine aj_iconst C dX7_readTerm_41 ?_
          exact aj_zret C K (Or.inl rfl) dX7_readTerm_42 ⟨_, rfl, h⟩
def wbX7_readTerm (f : Nat) (Φ : Int → aj_M → Prop) (R : Nat → (Int → aj_M → Prop) → List Nat → Int → aj_M → Prop) (q0 : List Nat) (v1 : Int) (m : aj_M) : Prop := R 6 (fun z1 m1 => rI z1 ∧ (¬ z1 = 0 → hX7_readTerm_12 f Φ R f q0 v1 0 m1) ∧ (z1 = 0 → Φ 0 m1)) q0 v1 m
set_option maxHeartbeats 4000000 in
set_option maxRecDepth 100000 in
theorem sbX7_readTerm {n f : Nat} {Φ : Int → aj_M → Prop} {R : Nat → (Int → aj_M → Prop) → List Nat → Int → aj_M → Prop} (HR0 : ∀ (Φ : Int → aj_M → Prop) (q0 : List Nat) (v1 : Int) (m : aj_M) (hq0 : (.inl (7, q0) : aj_R) ∈ aj_pls), R 0 Φ q0 v1 m → aj_Ct (n + 6) yX7_readTruth cX7_readTruth 3 (some .boolean) [vO 7 q0, vI v1] m (fun r m => ∃ z, r = some (vI z) ∧ Φ z m)) (HR1 : ∀ (Φ : Int → aj_M → Prop) (q0 : List Nat) (v1 : Int) (m : aj_M) (hq0 : (.inl (7, q0) : aj_R) ∈ aj_pls), R 1 Φ q0 v1 m → aj_Ct (n + 6) yX7_readBoth cX7_readBoth 3 (some .boolean) [vO 7 q0, vI v1] m (fun r m => ∃ z, r = some (vI z) ∧ Φ z m)) (HR2 : ∀ (Φ : Int → aj_M → Prop) (q0 : List Nat) (v1 : Int) (m : aj_M) (hq0 : (.inl (7, q0) : aj_R) ∈ aj_pls), R 2 Φ q0 v1 m → aj_Ct (n + 6) yX7_readUnit cX7_readUnit 3 (some .boolean) [vO 7 q0, vI v1] m (fun r m => ∃ z, r = some (vI z) ∧ Φ z m)) (HR3 : ∀ (Φ : Int → aj_M → Prop) (q0 : List Nat) (v1 : Int) (m : aj_M) (hq0 : (.inl (7, q0) : aj_R) ∈ aj_pls), R 3 Φ q0 v1 m → aj_Ct (n + 6) yX7_readComparison cX7_readComparison 3 (some .boolean) [vO 7 q0, vI v1] m (fun r m => ∃ z, r = some (vI z) ∧ Φ z m)) (HR4 : ∀ (Φ : Int → aj_M → Prop) (q0 : List Nat) (v1 : Int) (m : aj_M) (hq0 : (.inl (7, q0) : aj_R) ∈ aj_pls), R 4 Φ q0 v1 m → aj_Ct (n + 6) yX7_readSum cX7_readSum 4 (some .boolean) [vO 7 q0, vI v1] m (fun r m => ∃ z, r = some (vI z) ∧ Φ z m)) (HR5 : ∀ (Φ : Int → aj_M → Prop) (q0 : List Nat) (v1 : Int) (m : aj_M) (hq0 : (.inl (7, q0) : aj_R) ∈ aj_pls), R 5 Φ q0 v1 m → aj_Ct (n + 6) yX7_readTerm cX7_readTerm 3 (some .boolean) [vO 7 q0, vI v1] m (fun r m => ∃ z, r = some (vI z) ∧ Φ z m)) (HR6 : ∀ (Φ : Int → aj_M → Prop) (q0 : List Nat) (v1 : Int) (m : aj_M) (hq0 : (.inl (7, q0) : aj_R) ∈ aj_pls), R 6 Φ q0 v1 m → aj_Ct (n + 6) yX7_readAtom cX7_readAtom 2 (some .boolean) [vO 7 q0, vI v1] m (fun r m => ∃ z, r = some (vI z) ∧ Φ z m)) (HR7 : ∀ (Φ : Int → aj_M → Prop) (q0 : List Nat) (v1 : Int) (m : aj_M) (hq0 : (.inl (7, q0) : aj_R) ∈ aj_pls), R 7 Φ q0 v1 m → aj_Ct (n + 6) yX7_readNested cX7_readNested 3 (some .boolean) [vO 7 q0, vI v1] m (fun r m => ∃ z, r = some (vI z) ∧ Φ z m)) {q0 : List Nat} {v1 : Int} {m : aj_M} (hq0 : (.inl (7, q0) : aj_R) ∈ aj_pls) (h : wbX7_readTerm f Φ R q0 v1 m) : aj_Ct (n + 7) yX7_readTerm cX7_readTerm 3 (some .boolean) [vO 7 q0, vI v1] m (fun r m => ∃ z, r = some (vI z) ∧ Φ z m) := by
  refine aj_met (lv := [some (vO 7 q0), some (vI v1), none]) (by decide +kernel) rfl (Nat.le_of_ble_eq_true rfl) (fun X C K => ?_)
  unfold wbX7_readTerm at h
  refine aj_aload_n C dX7_readTerm_0 rfl ?_
  refine aj_iload_n C dX7_readTerm_1 rfl ?_
  refine aj_callV (rest := []) C mvX7_187 (HR6 _ q0 v1 _ hq0 h) hq0 (aj_np 1 (by decide +kernel) rfl) (Nat.le_of_ble_eq_true rfl) rfl dX7_readTerm_2 (fun r m1 h => ?_)
  obtain ⟨z1, rfl, h⟩ := h
  obtain ⟨r0, h1, h2⟩ := h
  refine aj_if_ne (tgt := 10) C dX7_readTerm_5 (by decide) r0 (fun e => ?_) (fun e => ?_)
  · have h := h1 e
    refine aj_iconst C dX7_readTerm_10 ?_
    refine aj_istore_n (lv' := [some (vO 7 q0), some (vI v1), some (vI 0)]) C dX7_readTerm_11 (by decide) rfl ?_
    exact tX7_readTerm_12 C K HR0 HR1 HR2 HR3 HR4 HR5 HR6 HR7 f q0 v1 0 _ hq0 h
  · have h := h2 e
    refine aj_iconst C dX7_readTerm_8 ?_
    exact aj_zret C K (Or.inl rfl) dX7_readTerm_9 ⟨_, rfl, h⟩
theorem dX7_readAtom_0 : decode cX7_readAtom 0 = .ok (.aload_n 0, 1) := by decide +kernel
theorem dX7_readAtom_1 : decode cX7_readAtom 1 = .ok (.getfield 39, 3) := by decide +kernel
theorem dX7_readAtom_4 : decode cX7_readAtom 4 = .ok (.lookupswitch 143 #[(2, 76), (40, 121), (205, 114), (207, 86), (212, 121), (216, 93), (217, 100), (218, 107)], 76) := by decide +kernel
theorem dX7_readAtom_80 : decode cX7_readAtom 80 = .ok (.aload_n 0, 1) := by decide +kernel
theorem dX7_readAtom_81 : decode cX7_readAtom 81 = .ok (.iconst 0, 1) := by decide +kernel
theorem dX7_readAtom_82 : decode cX7_readAtom 82 = .ok (.aload_n 0, 1) := by decide +kernel
theorem dX7_readAtom_83 : decode cX7_readAtom 83 = .ok (.getfield 42, 3) := by decide +kernel
theorem dX7_readAtom_86 : decode cX7_readAtom 86 = .ok (.invokevirtual 190, 3) := by decide +kernel
theorem dX7_readAtom_89 : decode cX7_readAtom 89 = .ok (.ireturn, 1) := by decide +kernel
theorem dX7_readAtom_90 : decode cX7_readAtom 90 = .ok (.aload_n 0, 1) := by decide +kernel
theorem dX7_readAtom_91 : decode cX7_readAtom 91 = .ok (.iconst 1, 1) := by decide +kernel
theorem dX7_readAtom_92 : decode cX7_readAtom 92 = .ok (.iconst 0, 1) := by decide +kernel
theorem dX7_readAtom_93 : decode cX7_readAtom 93 = .ok (.invokevirtual 190, 3) := by decide +kernel
theorem dX7_readAtom_96 : decode cX7_readAtom 96 = .ok (.ireturn, 1) := by decide +kernel
theorem dX7_readAtom_97 : decode cX7_readAtom 97 = .ok (.aload_n 0, 1) := by decide +kernel
theorem dX7_readAtom_98 : decode cX7_readAtom 98 = .ok (.iconst 2, 1) := by decide +kernel
theorem dX7_readAtom_99 : decode cX7_readAtom 99 = .ok (.iconst 0, 1) := by decide +kernel
theorem dX7_readAtom_100 : decode cX7_readAtom 100 = .ok (.invokevirtual 190, 3) := by decide +kernel
theorem dX7_readAtom_103 : decode cX7_readAtom 103 = .ok (.ireturn, 1) := by decide +kernel
theorem dX7_readAtom_104 : decode cX7_readAtom 104 = .ok (.aload_n 0, 1) := by decide +kernel
theorem dX7_readAtom_105 : decode cX7_readAtom 105 = .ok (.iconst 3, 1) := by decide +kernel
theorem dX7_readAtom_106 : decode cX7_readAtom 106 = .ok (.iconst 0, 1) := by decide +kernel
theorem dX7_readAtom_107 : decode cX7_readAtom 107 = .ok (.invokevirtual 190, 3) := by decide +kernel
theorem dX7_readAtom_110 : decode cX7_readAtom 110 = .ok (.ireturn, 1) := by decide +kernel
theorem dX7_readAtom_111 : decode cX7_readAtom 111 = .ok (.aload_n 0, 1) := by decide +kernel
theorem dX7_readAtom_112 : decode cX7_readAtom 112 = .ok (.iconst 4, 1) := by decide +kernel
theorem dX7_readAtom_113 : decode cX7_readAtom 113 = .ok (.iconst 0, 1) := by decide +kernel
theorem dX7_readAtom_114 : decode cX7_readAtom 114 = .ok (.invokevirtual 190, 3) := by decide +kernel
theorem dX7_readAtom_117 : decode cX7_readAtom 117 = .ok (.ireturn, 1) := by decide +kernel
theorem dX7_readAtom_118 : decode cX7_readAtom 118 = .ok (.aload_n 0, 1) := by decide +kernel
theorem dX7_readAtom_119 : decode cX7_readAtom 119 = .ok (.iconst 5, 1) := by decide +kernel
theorem dX7_readAtom_120 : decode cX7_readAtom 120 = .ok (.iconst 0, 1) := by decide +kernel
theorem dX7_readAtom_121 : decode cX7_readAtom 121 = .ok (.invokevirtual 190, 3) := by decide +kernel
theorem dX7_readAtom_124 : decode cX7_readAtom 124 = .ok (.ireturn, 1) := by decide +kernel
theorem dX7_readAtom_125 : decode cX7_readAtom 125 = .ok (.iload_n 1, 1) := by decide +kernel
theorem dX7_readAtom_126 : decode cX7_readAtom 126 = .ok (.bipush 6, 2) := by decide +kernel
theorem dX7_readAtom_128 : decode cX7_readAtom 128 = .ok (.if_icmp .lt 11, 3) := by decide +kernel
theorem dX7_readAtom_131 : decode cX7_readAtom 131 = .ok (.aload_n 0, 1) := by decide +kernel
theorem dX7_readAtom_132 : decode cX7_readAtom 132 = .ok (.iconst 4, 1) := by decide +kernel
theorem dX7_readAtom_133 : decode cX7_readAtom 133 = .ok (.invokevirtual 130, 3) := by decide +kernel
theorem dX7_readAtom_136 : decode cX7_readAtom 136 = .ok (.goto 10, 3) := by decide +kernel
theorem dX7_readAtom_139 : decode cX7_readAtom 139 = .ok (.aload_n 0, 1) := by decide +kernel
theorem dX7_readAtom_140 : decode cX7_readAtom 140 = .ok (.iload_n 1, 1) := by decide +kernel
theorem dX7_readAtom_141 : decode cX7_readAtom 141 = .ok (.iconst 1, 1) := by decide +kernel
theorem dX7_readAtom_142 : decode cX7_readAtom 142 = .ok (.iadd, 1) := by decide +kernel
theorem dX7_readAtom_143 : decode cX7_readAtom 143 = .ok (.invokevirtual 194, 3) := by decide +kernel
theorem dX7_readAtom_146 : decode cX7_readAtom 146 = .ok (.ireturn, 1) := by decide +kernel
theorem dX7_readAtom_147 : decode cX7_readAtom 147 = .ok (.aload_n 0, 1) := by decide +kernel
theorem dX7_readAtom_148 : decode cX7_readAtom 148 = .ok (.invokevirtual 86, 3) := by decide +kernel
theorem dX7_readAtom_151 : decode cX7_readAtom 151 = .ok (.ireturn, 1) := by decide +kernel
def wbX7_readAtom (f : Nat) (Φ : Int → aj_M → Prop) (R : Nat → (Int → aj_M → Prop) → List Nat → Int → aj_M → Prop) (q0 : List Nat) (v1 : Int) (m : aj_M) : Prop := rI (m q0 7) ∧ (¬ (m q0 7) = 2 ∧ ¬ (m q0 7) = 40 ∧ ¬ (m q0 7) = 205 ∧ ¬ (m q0 7) = 207 ∧ ¬ (m q0 7) = 212 ∧ ¬ (m q0 7) = 216 ∧ ¬ (m q0 7) = 217 ∧ ¬ (m q0 7) = 218 → wX7_cantStand f (fun z1 m1 => (z1 = 0 ∨ z1 = 1) ∧ Φ z1 m1) q0 m) ∧ ((m q0 7) = 2 → wX7_addAtom f (fun z2 m2 => (z2 = 0 ∨ z2 = 1) ∧ Φ z2 m2) q0 0 (m q0 8) m) ∧ ((m q0 7) = 40 → rI v1 ∧ (v1 < 6 → R 7 (fun z3 m3 => (z3 = 0 ∨ z3 = 1) ∧ Φ z3 m3) q0 (v1 + 1) m) ∧ (¬ (v1 < 6) → wX7_faulty f (fun z4 m4 => (z4 = 0 ∨ z4 = 1) ∧ Φ z4 m4) q0 4 m)) ∧ ((m q0 7) = 205 → wX7_addAtom f (fun z5 m5 => (z5 = 0 ∨ z5 = 1) ∧ Φ z5 m5) q0 5 0 m) ∧ ((m q0 7) = 207 → wX7_addAtom f (fun z6 m6 => (z6 = 0 ∨ z6 = 1) ∧ Φ z6 m6) q0 1 0 m) ∧ ((m q0 7) = 212 → rI v1 ∧ (v1 < 6 → R 7 (fun z7 m7 => (z7 = 0 ∨ z7 = 1) ∧ Φ z7 m7) q0 (v1 + 1) m) ∧ (¬ (v1 < 6) → wX7_faulty f (fun z8 m8 => (z8 = 0 ∨ z8 = 1) ∧ Φ z8 m8) q0 4 m)) ∧ ((m q0 7) = 216 → wX7_addAtom f (fun z9 m9 => (z9 = 0 ∨ z9 = 1) ∧ Φ z9 m9) q0 2 0 m) ∧ ((m q0 7) = 217 → wX7_addAtom f (fun z10 m10 => (z10 = 0 ∨ z10 = 1) ∧ Φ z10 m10) q0 3 0 m) ∧ ((m q0 7) = 218 → wX7_addAtom f (fun z11 m11 => (z11 = 0 ∨ z11 = 1) ∧ Φ z11 m11) q0 4 0 m)
set_option maxHeartbeats 4000000 in
set_option maxRecDepth 100000 in
theorem sbX7_readAtom {n f : Nat} {Φ : Int → aj_M → Prop} {R : Nat → (Int → aj_M → Prop) → List Nat → Int → aj_M → Prop} (HR0 : ∀ (Φ : Int → aj_M → Prop) (q0 : List Nat) (v1 : Int) (m : aj_M) (hq0 : (.inl (7, q0) : aj_R) ∈ aj_pls), R 0 Φ q0 v1 m → aj_Ct (n + 6) yX7_readTruth cX7_readTruth 3 (some .boolean) [vO 7 q0, vI v1] m (fun r m => ∃ z, r = some (vI z) ∧ Φ z m)) (HR1 : ∀ (Φ : Int → aj_M → Prop) (q0 : List Nat) (v1 : Int) (m : aj_M) (hq0 : (.inl (7, q0) : aj_R) ∈ aj_pls), R 1 Φ q0 v1 m → aj_Ct (n + 6) yX7_readBoth cX7_readBoth 3 (some .boolean) [vO 7 q0, vI v1] m (fun r m => ∃ z, r = some (vI z) ∧ Φ z m)) (HR2 : ∀ (Φ : Int → aj_M → Prop) (q0 : List Nat) (v1 : Int) (m : aj_M) (hq0 : (.inl (7, q0) : aj_R) ∈ aj_pls), R 2 Φ q0 v1 m → aj_Ct (n + 6) yX7_readUnit cX7_readUnit 3 (some .boolean) [vO 7 q0, vI v1] m (fun r m => ∃ z, r = some (vI z) ∧ Φ z m)) (HR3 : ∀ (Φ : Int → aj_M → Prop) (q0 : List Nat) (v1 : Int) (m : aj_M) (hq0 : (.inl (7, q0) : aj_R) ∈ aj_pls), R 3 Φ q0 v1 m → aj_Ct (n + 6) yX7_readComparison cX7_readComparison 3 (some .boolean) [vO 7 q0, vI v1] m (fun r m => ∃ z, r = some (vI z) ∧ Φ z m)) (HR4 : ∀ (Φ : Int → aj_M → Prop) (q0 : List Nat) (v1 : Int) (m : aj_M) (hq0 : (.inl (7, q0) : aj_R) ∈ aj_pls), R 4 Φ q0 v1 m → aj_Ct (n + 6) yX7_readSum cX7_readSum 4 (some .boolean) [vO 7 q0, vI v1] m (fun r m => ∃ z, r = some (vI z) ∧ Φ z m)) (HR5 : ∀ (Φ : Int → aj_M → Prop) (q0 : List Nat) (v1 : Int) (m : aj_M) (hq0 : (.inl (7, q0) : aj_R) ∈ aj_pls), R 5 Φ q0 v1 m → aj_Ct (n + 6) yX7_readTerm cX7_readTerm 3 (some .boolean) [vO 7 q0, vI v1] m (fun r m => ∃ z, r = some (vI z) ∧ Φ z m)) (HR6 : ∀ (Φ : Int → aj_M → Prop) (q0 : List Nat) (v1 : Int) (m : aj_M) (hq0 : (.inl (7, q0) : aj_R) ∈ aj_pls), R 6 Φ q0 v1 m → aj_Ct (n + 6) yX7_readAtom cX7_readAtom 2 (some .boolean) [vO 7 q0, vI v1] m (fun r m => ∃ z, r = some (vI z) ∧ Φ z m)) (HR7 : ∀ (Φ : Int → aj_M → Prop) (q0 : List Nat) (v1 : Int) (m : aj_M) (hq0 : (.inl (7, q0) : aj_R) ∈ aj_pls), R 7 Φ q0 v1 m → aj_Ct (n + 6) yX7_readNested cX7_readNested 3 (some .boolean) [vO 7 q0, vI v1] m (fun r m => ∃ z, r = some (vI z) ∧ Φ z m)) {q0 : List Nat} {v1 : Int} {m : aj_M} (hq0 : (.inl (7, q0) : aj_R) ∈ aj_pls) (h : wbX7_readAtom f Φ R q0 v1 m) : aj_Ct (n + 7) yX7_readAtom cX7_readAtom 2 (some .boolean) [vO 7 q0, vI v1] m (fun r m => ∃ z, r = some (vI z) ∧ Φ z m) := by
  refine aj_met (lv := [some (vO 7 q0), some (vI v1)]) (by decide +kernel) rfl (Nat.le_of_ble_eq_true rfl) (fun X C K => ?_)
  unfold wbX7_readAtom at h
  refine aj_aload_n C dX7_readAtom_0 rfl ?_
  refine aj_getI C flX7_39 hq0 (by decide) dX7_readAtom_1 rfl ?_
  obtain ⟨r0, hd, hc0, hc1, hc2, hc3, hc4, hc5, hc6, hc7⟩ := h
  rcases (by omega : (¬ (m q0 7) = 2 ∧ ¬ (m q0 7) = 40 ∧ ¬ (m q0 7) = 205 ∧ ¬ (m q0 7) = 207 ∧ ¬ (m q0 7) = 212 ∧ ¬ (m q0 7) = 216 ∧ ¬ (m q0 7) = 217 ∧ ¬ (m q0 7) = 218) ∨ (m q0 7) = 2 ∨ (m q0 7) = 40 ∨ (m q0 7) = 205 ∨ (m q0 7) = 207 ∨ (m q0 7) = 212 ∨ (m q0 7) = 216 ∨ (m q0 7) = 217 ∨ (m q0 7) = 218) with e | e | e | e | e | e | e | e | e
  · have h := hd e
    refine aj_look (tgt := 147) (off := 143) C dX7_readAtom_4 (by decide) r0 (by simp [Op.lookupswitch.offset_cons, Op.lookupswitch.offset]; omega) (by decide) ?_
    refine aj_aload_n C dX7_readAtom_147 rfl ?_
    refine aj_callV (rest := []) C mvX7_86 (sX7_cantStand hq0 h) hq0 (aj_np 0 (by decide +kernel) rfl) (Nat.le_of_ble_eq_true rfl) rfl dX7_readAtom_148 (fun r m1 h => ?_)
    obtain ⟨z1, rfl, h⟩ := h
    exact aj_zret C K h.1 dX7_readAtom_151 ⟨_, rfl, h.2⟩
  · have h := hc0 e
    refine aj_look (tgt := 80) (off := 76) C dX7_readAtom_4 (by decide) r0 (by rw [e]; rfl) (by decide) ?_
    refine aj_aload_n C dX7_readAtom_80 rfl ?_
    refine aj_iconst C dX7_readAtom_81 ?_
    refine aj_aload_n C dX7_readAtom_82 rfl ?_
    refine aj_getI C flX7_42 hq0 (by decide) dX7_readAtom_83 rfl ?_
    refine aj_callV (rest := []) C mvX7_190 (sX7_addAtom hq0 h) hq0 (aj_np 2 (by decide +kernel) rfl) (Nat.le_of_ble_eq_true rfl) rfl dX7_readAtom_86 (fun r m2 h => ?_)
    obtain ⟨z2, rfl, h⟩ := h
    exact aj_zret C K h.1 dX7_readAtom_89 ⟨_, rfl, h.2⟩
  · have h := hc1 e
    refine aj_look (tgt := 125) (off := 121) C dX7_readAtom_4 (by decide) r0 (by rw [e]; rfl) (by decide) ?_
    refine aj_iload_n C dX7_readAtom_125 rfl ?_
    refine aj_bipush C dX7_readAtom_126 (by decide) ?_
    obtain ⟨r0, h1, h2⟩ := h
    refine aj_icmp_lt (tgt := 139) C dX7_readAtom_128 (by decide) r0 (by decide) (fun e => ?_) (fun e => ?_)
    · have h := h1 e
      refine aj_aload_n C dX7_readAtom_139 rfl ?_
      refine aj_iload_n C dX7_readAtom_140 rfl ?_
      refine aj_iconst C dX7_readAtom_141 ?_
      refine aj_iadd C dX7_readAtom_142 ?_
      refine aj_callV (rest := []) C mvX7_194 (HR7 _ q0 (v1 + 1) _ hq0 h) hq0 (aj_np 1 (by decide +kernel) rfl) (Nat.le_of_ble_eq_true rfl) rfl dX7_readAtom_143 (fun r m3 h => ?_)
      obtain ⟨z3, rfl, h⟩ := h
      exact aj_zret C K h.1 dX7_readAtom_146 ⟨_, rfl, h.2⟩
    · have h := h2 e
      refine aj_aload_n C dX7_readAtom_131 rfl ?_
      refine aj_iconst C dX7_readAtom_132 ?_
      refine aj_callV (rest := []) C mvX7_130 (sX7_faulty hq0 h) hq0 (aj_np 1 (by decide +kernel) rfl) (Nat.le_of_ble_eq_true rfl) rfl dX7_readAtom_133 (fun r m4 h => ?_)
      obtain ⟨z4, rfl, h⟩ := h
      refine aj_goto (tgt := 146) C dX7_readAtom_136 (by decide) ?_
      exact aj_zret C K h.1 dX7_readAtom_146 ⟨_, rfl, h.2⟩
  · have h := hc2 e
    refine aj_look (tgt := 118) (off := 114) C dX7_readAtom_4 (by decide) r0 (by rw [e]; rfl) (by decide) ?_
    refine aj_aload_n C dX7_readAtom_118 rfl ?_
    refine aj_iconst C dX7_readAtom_119 ?_
    refine aj_iconst C dX7_readAtom_120 ?_
    refine aj_callV (rest := []) C mvX7_190 (sX7_addAtom hq0 h) hq0 (aj_np 2 (by decide +kernel) rfl) (Nat.le_of_ble_eq_true rfl) rfl dX7_readAtom_121 (fun r m5 h => ?_)
    obtain ⟨z5, rfl, h⟩ := h
    exact aj_zret C K h.1 dX7_readAtom_124 ⟨_, rfl, h.2⟩
  · have h := hc3 e
    refine aj_look (tgt := 90) (off := 86) C dX7_readAtom_4 (by decide) r0 (by rw [e]; rfl) (by decide) ?_
    refine aj_aload_n C dX7_readAtom_90 rfl ?_
    refine aj_iconst C dX7_readAtom_91 ?_
    refine aj_iconst C dX7_readAtom_92 ?_
    refine aj_callV (rest := []) C mvX7_190 (sX7_addAtom hq0 h) hq0 (aj_np 2 (by decide +kernel) rfl) (Nat.le_of_ble_eq_true rfl) rfl dX7_readAtom_93 (fun r m6 h => ?_)
    obtain ⟨z6, rfl, h⟩ := h
    exact aj_zret C K h.1 dX7_readAtom_96 ⟨_, rfl, h.2⟩
  · have h := hc4 e
    refine aj_look (tgt := 125) (off := 121) C dX7_readAtom_4 (by decide) r0 (by rw [e]; rfl) (by decide) ?_
    refine aj_iload_n C dX7_readAtom_125 rfl ?_
    refine aj_bipush C dX7_readAtom_126 (by decide) ?_
    obtain ⟨r0, h1, h2⟩ := h
    refine aj_icmp_lt (tgt := 139) C dX7_readAtom_128 (by decide) r0 (by decide) (fun e => ?_) (fun e => ?_)
    · have h := h1 e
      refine aj_aload_n C dX7_readAtom_139 rfl ?_
      refine aj_iload_n C dX7_readAtom_140 rfl ?_
      refine aj_iconst C dX7_readAtom_141 ?_
      refine aj_iadd C dX7_readAtom_142 ?_
      refine aj_callV (rest := []) C mvX7_194 (HR7 _ q0 (v1 + 1) _ hq0 h) hq0 (aj_np 1 (by decide +kernel) rfl) (Nat.le_of_ble_eq_true rfl) rfl dX7_readAtom_143 (fun r m7 h => ?_)
      obtain ⟨z7, rfl, h⟩ := h
      exact aj_zret C K h.1 dX7_readAtom_146 ⟨_, rfl, h.2⟩
    · have h := h2 e
      refine aj_aload_n C dX7_readAtom_131 rfl ?_
      refine aj_iconst C dX7_readAtom_132 ?_
      refine aj_callV (rest := []) C mvX7_130 (sX7_faulty hq0 h) hq0 (aj_np 1 (by decide +kernel) rfl) (Nat.le_of_ble_eq_true rfl) rfl dX7_readAtom_133 (fun r m8 h => ?_)
      obtain ⟨z8, rfl, h⟩ := h
      refine aj_goto (tgt := 146) C dX7_readAtom_136 (by decide) ?_
      exact aj_zret C K h.1 dX7_readAtom_146 ⟨_, rfl, h.2⟩
  · have h := hc5 e
    refine aj_look (tgt := 97) (off := 93) C dX7_readAtom_4 (by decide) r0 (by rw [e]; rfl) (by decide) ?_
    refine aj_aload_n C dX7_readAtom_97 rfl ?_
    refine aj_iconst C dX7_readAtom_98 ?_
    refine aj_iconst C dX7_readAtom_99 ?_
    refine aj_callV (rest := []) C mvX7_190 (sX7_addAtom hq0 h) hq0 (aj_np 2 (by decide +kernel) rfl) (Nat.le_of_ble_eq_true rfl) rfl dX7_readAtom_100 (fun r m9 h => ?_)
    obtain ⟨z9, rfl, h⟩ := h
    exact aj_zret C K h.1 dX7_readAtom_103 ⟨_, rfl, h.2⟩
  · have h := hc6 e
    refine aj_look (tgt := 104) (off := 100) C dX7_readAtom_4 (by decide) r0 (by rw [e]; rfl) (by decide) ?_
    refine aj_aload_n C dX7_readAtom_104 rfl ?_
    refine aj_iconst C dX7_readAtom_105 ?_
    refine aj_iconst C dX7_readAtom_106 ?_
    refine aj_callV (rest := []) C mvX7_190 (sX7_addAtom hq0 h) hq0 (aj_np 2 (by decide +kernel) rfl) (Nat.le_of_ble_eq_true rfl) rfl dX7_readAtom_107 (fun r m10 h => ?_)
    obtain ⟨z10, rfl, h⟩ := h
    exact aj_zret C K h.1 dX7_readAtom_110 ⟨_, rfl, h.2⟩
  · have h := hc7 e
    refine aj_look (tgt := 111) (off := 107) C dX7_readAtom_4 (by decide) r0 (by rw [e]; rfl) (by decide) ?_
    refine aj_aload_n C dX7_readAtom_111 rfl ?_
    refine aj_iconst C dX7_readAtom_112 ?_
    refine aj_iconst C dX7_readAtom_113 ?_
    refine aj_callV (rest := []) C mvX7_190 (sX7_addAtom hq0 h) hq0 (aj_np 2 (by decide +kernel) rfl) (Nat.le_of_ble_eq_true rfl) rfl dX7_readAtom_114 (fun r m11 h => ?_)
    obtain ⟨z11, rfl, h⟩ := h
    exact aj_zret C K h.1 dX7_readAtom_117 ⟨_, rfl, h.2⟩
theorem dX7_readNested_0 : decode cX7_readNested 0 = .ok (.aload_n 0, 1) := by decide +kernel
theorem dX7_readNested_1 : decode cX7_readNested 1 = .ok (.getfield 39, 3) := by decide +kernel
theorem dX7_readNested_4 : decode cX7_readNested 4 = .ok (.bipush 40, 2) := by decide +kernel
theorem dX7_readNested_6 : decode cX7_readNested 6 = .ok (.if_icmp .ne 7, 3) := by decide +kernel
theorem dX7_readNested_9 : decode cX7_readNested 9 = .ok (.iconst 1, 1) := by decide +kernel
theorem dX7_readNested_10 : decode cX7_readNested 10 = .ok (.goto 4, 3) := by decide +kernel
theorem dX7_readNested_13 : decode cX7_readNested 13 = .ok (.iconst 0, 1) := by decide +kernel
theorem dX7_readNested_14 : decode cX7_readNested 14 = .ok (.istore_n 2, 1) := by decide +kernel
theorem dX7_readNested_15 : decode cX7_readNested 15 = .ok (.aload_n 0, 1) := by decide +kernel
theorem dX7_readNested_16 : decode cX7_readNested 16 = .ok (.invokevirtual 60, 3) := by decide +kernel
theorem dX7_readNested_19 : decode cX7_readNested 19 = .ok (.iload_n 2, 1) := by decide +kernel
theorem dX7_readNested_20 : decode cX7_readNested 20 = .ok (.ifCond .eq 26, 3) := by decide +kernel
theorem dX7_readNested_23 : decode cX7_readNested 23 = .ok (.aload_n 0, 1) := by decide +kernel
theorem dX7_readNested_24 : decode cX7_readNested 24 = .ok (.iload_n 1, 1) := by decide +kernel
theorem dX7_readNested_25 : decode cX7_readNested 25 = .ok (.invokevirtual 163, 3) := by decide +kernel
theorem dX7_readNested_28 : decode cX7_readNested 28 = .ok (.ifCond .eq 16, 3) := by decide +kernel
theorem dX7_readNested_31 : decode cX7_readNested 31 = .ok (.aload_n 0, 1) := by decide +kernel
theorem dX7_readNested_32 : decode cX7_readNested 32 = .ok (.bipush 41, 2) := by decide +kernel
theorem dX7_readNested_34 : decode cX7_readNested 34 = .ok (.invokevirtual 70, 3) := by decide +kernel
theorem dX7_readNested_37 : decode cX7_readNested 37 = .ok (.ifCond .eq 7, 3) := by decide +kernel
theorem dX7_readNested_40 : decode cX7_readNested 40 = .ok (.iconst 1, 1) := by decide +kernel
theorem dX7_readNested_41 : decode cX7_readNested 41 = .ok (.goto 4, 3) := by decide +kernel
theorem dX7_readNested_44 : decode cX7_readNested 44 = .ok (.iconst 0, 1) := by decide +kernel
theorem dX7_readNested_45 : decode cX7_readNested 45 = .ok (.ireturn, 1) := by decide +kernel
theorem dX7_readNested_46 : decode cX7_readNested 46 = .ok (.aload_n 0, 1) := by decide +kernel
theorem dX7_readNested_47 : decode cX7_readNested 47 = .ok (.iload_n 1, 1) := by decide +kernel
theorem dX7_readNested_48 : decode cX7_readNested 48 = .ok (.invokevirtual 154, 3) := by decide +kernel
theorem dX7_readNested_51 : decode cX7_readNested 51 = .ok (.ifCond .eq 21, 3) := by decide +kernel
theorem dX7_readNested_54 : decode cX7_readNested 54 = .ok (.aload_n 0, 1) := by decide +kernel
theorem dX7_readNested_55 : decode cX7_readNested 55 = .ok (.sipush 213, 3) := by decide +kernel
theorem dX7_readNested_58 : decode cX7_readNested 58 = .ok (.invokevirtual 70, 3) := by decide +kernel
theorem dX7_readNested_61 : decode cX7_readNested 61 = .ok (.ifCond .eq 11, 3) := by decide +kernel
theorem dX7_readNested_64 : decode cX7_readNested 64 = .ok (.aload_n 0, 1) := by decide +kernel
theorem dX7_readNested_65 : decode cX7_readNested 65 = .ok (.iload_n 1, 1) := by decide +kernel
theorem dX7_readNested_66 : decode cX7_readNested 66 = .ok (.invokevirtual 163, 3) := by decide +kernel
theorem dX7_readNested_69 : decode cX7_readNested 69 = .ok (.ifCond .ne 5, 3) := by decide +kernel
theorem dX7_readNested_72 : decode cX7_readNested 72 = .ok (.iconst 0, 1) := by decide +kernel
theorem dX7_readNested_73 : decode cX7_readNested 73 = .ok (.ireturn, 1) := by decide +kernel
theorem dX7_readNested_74 : decode cX7_readNested 74 = .ok (.aload_n 0, 1) := by decide +kernel
theorem dX7_readNested_75 : decode cX7_readNested 75 = .ok (.sipush 214, 3) := by decide +kernel
theorem dX7_readNested_78 : decode cX7_readNested 78 = .ok (.invokevirtual 70, 3) := by decide +kernel
theorem dX7_readNested_81 : decode cX7_readNested 81 = .ok (.ifCond .eq 21, 3) := by decide +kernel
theorem dX7_readNested_84 : decode cX7_readNested 84 = .ok (.aload_n 0, 1) := by decide +kernel
theorem dX7_readNested_85 : decode cX7_readNested 85 = .ok (.iload_n 1, 1) := by decide +kernel
theorem dX7_readNested_86 : decode cX7_readNested 86 = .ok (.invokevirtual 163, 3) := by decide +kernel
theorem dX7_readNested_89 : decode cX7_readNested 89 = .ok (.ifCond .eq 13, 3) := by decide +kernel
theorem dX7_readNested_92 : decode cX7_readNested 92 = .ok (.aload_n 0, 1) := by decide +kernel
theorem dX7_readNested_93 : decode cX7_readNested 93 = .ok (.sipush 215, 3) := by decide +kernel
theorem dX7_readNested_96 : decode cX7_readNested 96 = .ok (.invokevirtual 70, 3) := by decide +kernel
theorem dX7_readNested_99 : decode cX7_readNested 99 = .ok (.ifCond .ne 5, 3) := by decide +kernel
theorem dX7_readNested_102 : decode cX7_readNested 102 = .ok (.iconst 0, 1) := by decide +kernel
theorem dX7_readNested_103 : decode cX7_readNested 103 = .ok (.ireturn, 1) := by decide +kernel
theorem dX7_readNested_104 : decode cX7_readNested 104 = .ok (.aload_n 0, 1) := by decide +kernel
theorem dX7_readNested_105 : decode cX7_readNested 105 = .ok (.getfield 25, 3) := by decide +kernel
theorem dX7_readNested_108 : decode cX7_readNested 108 = .ok (.getfield 147, 3) := by decide +kernel
theorem dX7_readNested_111 : decode cX7_readNested 111 = .ok (.bipush 15, 2) := by decide +kernel
theorem dX7_readNested_113 : decode cX7_readNested 113 = .ok (.iconst 0, 1) := by decide +kernel
theorem dX7_readNested_114 : decode cX7_readNested 114 = .ok (.invokevirtual 175, 3) := by decide +kernel
theorem dX7_readNested_117 : decode cX7_readNested 117 = .ok (.iconst 1, 1) := by decide +kernel
theorem dX7_readNested_118 : decode cX7_readNested 118 = .ok (.ireturn, 1) := by decide +kernel
def hX7_readNested_14 (f : Nat) (Φ : Int → aj_M → Prop) (R : Nat → (Int → aj_M → Prop) → List Nat → Int → aj_M → Prop) (q0 : List Nat) (v1 : Int) (vs0 : Int) (m : aj_M) : Prop := wX7_step f (fun m1 => rI vs0 ∧ (vs0 = 0 → R 0 (fun z2 m2 => rI z2 ∧ (z2 = 0 → Φ 0 m2) ∧ (¬ (z2 = 0) → wX7_take f (fun z3 m3 => rI z3 ∧ (z3 = 0 → Φ 0 m3) ∧ (¬ (z3 = 0) → R 4 (fun z4 m4 => rI z4 ∧ (¬ z4 = 0 → wX7_take f (fun z5 m5 => rI z5 ∧ (z5 = 0 → Φ 0 m5) ∧ (¬ (z5 = 0) → R 4 (fun z6 m6 => rI z6 ∧ (z6 = 0 → Φ 0 m6) ∧ (¬ (z6 = 0) → wX7_take f (fun z7 m7 => rI z7 ∧ (¬ z7 = 0 → wX4_add f (fun m8 => Φ 1 m8) (1 :: (3 :: q0)) 15 0 m7) ∧ (z7 = 0 → Φ 0 m7)) q0 215 m6)) q0 v1 m5)) q0 214 m4) ∧ (z4 = 0 → Φ 0 m4)) q0 v1 m3)) q0 213 m2)) q0 v1 m1) ∧ (¬ (vs0 = 0) → R 4 (fun z9 m9 => rI z9 ∧ (z9 = 0 → Φ 0 m9) ∧ (¬ (z9 = 0) → wX7_take f (fun z10 m10 => rI z10 ∧ (z10 = 0 → Φ 0 m10) ∧ (¬ (z10 = 0) → Φ 1 m10)) q0 41 m9)) q0 v1 m1)) q0 m
set_option maxHeartbeats 4000000 in
set_option maxRecDepth 100000 in
theorem tX7_readNested_14 {X : aj_T} {n f : Nat} {Φ : Int → aj_M → Prop} (C : aj_Cx X cX7_readNested RX7 3 (n + 7)) (K : aj_Rt X (some .boolean) (fun r m => ∃ z, r = some (vI z) ∧ Φ z m)) {R : Nat → (Int → aj_M → Prop) → List Nat → Int → aj_M → Prop} (HR0 : ∀ (Φ : Int → aj_M → Prop) (q0 : List Nat) (v1 : Int) (m : aj_M) (hq0 : (.inl (7, q0) : aj_R) ∈ aj_pls), R 0 Φ q0 v1 m → aj_Ct (n + 6) yX7_readTruth cX7_readTruth 3 (some .boolean) [vO 7 q0, vI v1] m (fun r m => ∃ z, r = some (vI z) ∧ Φ z m)) (HR1 : ∀ (Φ : Int → aj_M → Prop) (q0 : List Nat) (v1 : Int) (m : aj_M) (hq0 : (.inl (7, q0) : aj_R) ∈ aj_pls), R 1 Φ q0 v1 m → aj_Ct (n + 6) yX7_readBoth cX7_readBoth 3 (some .boolean) [vO 7 q0, vI v1] m (fun r m => ∃ z, r = some (vI z) ∧ Φ z m)) (HR2 : ∀ (Φ : Int → aj_M → Prop) (q0 : List Nat) (v1 : Int) (m : aj_M) (hq0 : (.inl (7, q0) : aj_R) ∈ aj_pls), R 2 Φ q0 v1 m → aj_Ct (n + 6) yX7_readUnit cX7_readUnit 3 (some .boolean) [vO 7 q0, vI v1] m (fun r m => ∃ z, r = some (vI z) ∧ Φ z m)) (HR3 : ∀ (Φ : Int → aj_M → Prop) (q0 : List Nat) (v1 : Int) (m : aj_M) (hq0 : (.inl (7, q0) : aj_R) ∈ aj_pls), R 3 Φ q0 v1 m → aj_Ct (n + 6) yX7_readComparison cX7_readComparison 3 (some .boolean) [vO 7 q0, vI v1] m (fun r m => ∃ z, r = some (vI z) ∧ Φ z m)) (HR4 : ∀ (Φ : Int → aj_M → Prop) (q0 : List Nat) (v1 : Int) (m : aj_M) (hq0 : (.inl (7, q0) : aj_R) ∈ aj_pls), R 4 Φ q0 v1 m → aj_Ct (n + 6) yX7_readSum cX7_readSum 4 (some .boolean) [vO 7 q0, vI v1] m (fun r m => ∃ z, r = some (vI z) ∧ Φ z m)) (HR5 : ∀ (Φ : Int → aj_M → Prop) (q0 : List Nat) (v1 : Int) (m : aj_M) (hq0 : (.inl (7, q0) : aj_R) ∈ aj_pls), R 5 Φ q0 v1 m → aj_Ct (n + 6) yX7_readTerm cX7_readTerm 3 (some .boolean) [vO 7 q0, vI v1] m (fun r m => ∃ z, r = some (vI z) ∧ Φ z m)) (HR6 : ∀ (Φ : Int → aj_M → Prop) (q0 : List Nat) (v1 : Int) (m : aj_M) (hq0 : (.inl (7, q0) : aj_R) ∈ aj_pls), R 6 Φ q0 v1 m → aj_Ct (n + 6) yX7_readAtom cX7_readAtom 2 (some .boolean) [vO 7 q0, vI v1] m (fun r m => ∃ z, r = some (vI z) ∧ Φ z m)) (HR7 : ∀ (Φ : Int → aj_M → Prop) (q0 : List Nat) (v1 : Int) (m : aj_M) (hq0 : (.inl (7, q0) : aj_R) ∈ aj_pls), R 7 Φ q0 v1 m → aj_Ct (n + 6) yX7_readNested cX7_readNested 3 (some .boolean) [vO 7 q0, vI v1] m (fun r m => ∃ z, r = some (vI z) ∧ Φ z m)) (q0 : List Nat) (v1 : Int) (vs0 : Int) (m : aj_M) (hq0 : (.inl (7, q0) : aj_R) ∈ aj_pls) (h : hX7_readNested_14 f Φ R q0 v1 vs0 m) : aj_J X 14 [some (vO 7 q0), some (vI v1), none] [vI vs0] m := by
  unfold hX7_readNested_14 at h
  refine aj_istore_n (lv' := [some (vO 7 q0), some (vI v1), some (vI vs0)]) C dX7_readNested_14 (by decide) rfl ?_
  refine aj_aload_n C dX7_readNested_15 rfl ?_
  refine aj_callV (rest := []) C mvX7_60 (sX7_step hq0 h) hq0 (aj_np 0 (by decide +kernel) rfl) (Nat.le_of_ble_eq_true rfl) rfl dX7_readNested_16 (fun r m1 h => ?_)
  obtain ⟨rfl, h⟩ := h
  refine aj_iload_n C dX7_readNested_19 rfl ?_
  obtain ⟨r0, h1, h2⟩ := h
  refine aj_if_eq (tgt := 46) C dX7_readNested_20 (by decide) r0 (fun e => ?_) (fun e => ?_)
  · have h := h1 e
    refine aj_aload_n C dX7_readNested_46 rfl ?_
    refine aj_iload_n C dX7_readNested_47 rfl ?_
    refine aj_callV (rest := []) C mvX7_154 (HR0 _ q0 v1 _ hq0 h) hq0 (aj_np 1 (by decide +kernel) rfl) (Nat.le_of_ble_eq_true rfl) rfl dX7_readNested_48 (fun r m2 h => ?_)
    obtain ⟨z2, rfl, h⟩ := h
    obtain ⟨r0, h1, h2⟩ := h
    refine aj_if_eq (tgt := 72) C dX7_readNested_51 (by decide) r0 (fun e => ?_) (fun e => ?_)
    · have h := h1 e
      refine aj_iconst C dX7_readNested_72 ?_
      exact aj_zret C K (Or.inl rfl) dX7_readNested_73 ⟨_, rfl, h⟩
    · have h := h2 e
      refine aj_aload_n C dX7_readNested_54 rfl ?_
      refine aj_sipush C dX7_readNested_55 (by decide) ?_
      refine aj_callV (rest := []) C mvX7_70 (sX7_take hq0 h) hq0 (aj_np 1 (by decide +kernel) rfl) (Nat.le_of_ble_eq_true rfl) rfl dX7_readNested_58 (fun r m3 h => ?_)
      obtain ⟨z3, rfl, h⟩ := h
      obtain ⟨r0, h1, h2⟩ := h
      refine aj_if_eq (tgt := 72) C dX7_readNested_61 (by decide) r0 (fun e => ?_) (fun e => ?_)
      · have h := h1 e
        refine aj_iconst C dX7_readNested_72 ?_
        exact aj_zret C K (Or.inl rfl) dX7_readNested_73 ⟨_, rfl, h⟩
      · have h := h2 e
        refine aj_aload_n C dX7_readNested_64 rfl ?_
        refine aj_iload_n C dX7_readNested_65 rfl ?_
        refine aj_callV (rest := []) C mvX7_163 (HR4 _ q0 v1 _ hq0 h) hq0 (aj_np 1 (by decide +kernel) rfl) (Nat.le_of_ble_eq_true rfl) rfl dX7_readNested_66 (fun r m4 h => ?_)
        obtain ⟨z4, rfl, h⟩ := h
        obtain ⟨r0, h1, h2⟩ := h
        refine aj_if_ne (tgt := 74) C dX7_readNested_69 (by decide) r0 (fun e => ?_) (fun e => ?_)
        · have h := h1 e
          refine aj_aload_n C dX7_readNested_74 rfl ?_
          refine aj_sipush C dX7_readNested_75 (by decide) ?_
          refine aj_callV (rest := []) C mvX7_70 (sX7_take hq0 h) hq0 (aj_np 1 (by decide +kernel) rfl) (Nat.le_of_ble_eq_true rfl) rfl dX7_readNested_78 (fun r m5 h => ?_)
          obtain ⟨z5, rfl, h⟩ := h
          obtain ⟨r0, h1, h2⟩ := h
          refine aj_if_eq (tgt := 102) C dX7_readNested_81 (by decide) r0 (fun e => ?_) (fun e => ?_)
          · have h := h1 e
            refine aj_iconst C dX7_readNested_102 ?_
            exact aj_zret C K (Or.inl rfl) dX7_readNested_103 ⟨_, rfl, h⟩
          · have h := h2 e
            refine aj_aload_n C dX7_readNested_84 rfl ?_
            refine aj_iload_n C dX7_readNested_85 rfl ?_
            refine aj_callV (rest := []) C mvX7_163 (HR4 _ q0 v1 _ hq0 h) hq0 (aj_np 1 (by decide +kernel) rfl) (Nat.le_of_ble_eq_true rfl) rfl dX7_readNested_86 (fun r m6 h => ?_)
            obtain ⟨z6, rfl, h⟩ := h
            obtain ⟨r0, h1, h2⟩ := h
            refine aj_if_eq (tgt := 102) C dX7_readNested_89 (by decide) r0 (fun e => ?_) (fun e => ?_)
            · have h := h1 e
              refine aj_iconst C dX7_readNested_102 ?_
              exact aj_zret C K (Or.inl rfl) dX7_readNested_103 ⟨_, rfl, h⟩
            · have h := h2 e
              refine aj_aload_n C dX7_readNested_92 rfl ?_
              refine aj_sipush C dX7_readNested_93 (by decide) ?_
              refine aj_callV (rest := []) C mvX7_70 (sX7_take hq0 h) hq0 (aj_np 1 (by decide +kernel) rfl) (Nat.le_of_ble_eq_true rfl) rfl dX7_readNested_96 (fun r m7 h => ?_)
              obtain ⟨z7, rfl, h⟩ := h
              obtain ⟨r0, h1, h2⟩ := h
              refine aj_if_ne (tgt := 104) C dX7_readNested_99 (by decide) r0 (fun e => ?_) (fun e => ?_)
              · have h := h1 e
                refine aj_aload_n C dX7_readNested_104 rfl ?_
                refine aj_getO (x := 6) (y := 0) C flX7_25 hq0 rfl dX7_readNested_105 ?_
                refine aj_getO (x := 4) (y := 0) C flX7_147 (aj_cf (x := 6) (y := 0) (j := 3) hq0 (by decide) rfl) rfl dX7_readNested_108 ?_
                refine aj_bipush C dX7_readNested_111 (by decide) ?_
                refine aj_iconst C dX7_readNested_113 ?_
                refine aj_callV (rest := []) C mvX7_175 (sX4_add (aj_cf (x := 4) (y := 0) (j := 1) (aj_cf (x := 6) (y := 0) (j := 3) hq0 (by decide) rfl) (by decide) rfl) h) (aj_cf (x := 4) (y := 0) (j := 1) (aj_cf (x := 6) (y := 0) (j := 3) hq0 (by decide) rfl) (by decide) rfl) (aj_np 2 (by decide +kernel) rfl) (Nat.le_of_ble_eq_true rfl) rfl dX7_readNested_114 (fun r m8 h => ?_)
                obtain ⟨rfl, h⟩ := h
                refine aj_iconst C dX7_readNested_117 ?_
                exact aj_zret C K (Or.inr rfl) dX7_readNested_118 ⟨_, rfl, h⟩
              · have h := h2 e
                refine aj_iconst C dX7_readNested_102 ?_
                exact aj_zret C K (Or.inl rfl) dX7_readNested_103 ⟨_, rfl, h⟩
        · have h := h2 e
          refine aj_iconst C dX7_readNested_72 ?_
          exact aj_zret C K (Or.inl rfl) dX7_readNested_73 ⟨_, rfl, h⟩
  · have h := h2 e
    refine aj_aload_n C dX7_readNested_23 rfl ?_
    refine aj_iload_n C dX7_readNested_24 rfl ?_
    refine aj_callV (rest := []) C mvX7_163 (HR4 _ q0 v1 _ hq0 h) hq0 (aj_np 1 (by decide +kernel) rfl) (Nat.le_of_ble_eq_true rfl) rfl dX7_readNested_25 (fun r m9 h => ?_)
    obtain ⟨z9, rfl, h⟩ := h
    obtain ⟨r0, h1, h2⟩ := h
    refine aj_if_eq (tgt := 44) C dX7_readNested_28 (by decide) r0 (fun e => ?_) (fun e => ?_)
    · have h := h1 e
      refine aj_iconst C dX7_readNested_44 ?_
      exact aj_zret C K (Or.inl rfl) dX7_readNested_45 ⟨_, rfl, h⟩
    · have h := h2 e
      refine aj_aload_n C dX7_readNested_31 rfl ?_
      refine aj_bipush C dX7_readNested_32 (by decide) ?_
      refine aj_callV (rest := []) C mvX7_70 (sX7_take hq0 h) hq0 (aj_np 1 (by decide +kernel) rfl) (Nat.le_of_ble_eq_true rfl) rfl dX7_readNested_34 (fun r m10 h => ?_)
      obtain ⟨z10, rfl, h⟩ := h
      obtain ⟨r0, h1, h2⟩ := h
      refine aj_if_eq (tgt := 44) C dX7_readNested_37 (by decide) r0 (fun e => ?_) (fun e => ?_)
      · have h := h1 e
        refine aj_iconst C dX7_readNested_44 ?_
        exact aj_zret C K (Or.inl rfl) dX7_readNested_45 ⟨_, rfl, h⟩
      · have h := h2 e
        refine aj_iconst C dX7_readNested_40 ?_
        refine aj_goto (tgt := 45) C dX7_readNested_41 (by decide) ?_
        exact aj_zret C K (Or.inr rfl) dX7_readNested_45 ⟨_, rfl, h⟩
def wbX7_readNested (f : Nat) (Φ : Int → aj_M → Prop) (R : Nat → (Int → aj_M → Prop) → List Nat → Int → aj_M → Prop) (q0 : List Nat) (v1 : Int) (m : aj_M) : Prop := rI (m q0 7) ∧ (¬ (m q0 7) = 40 → hX7_readNested_14 f Φ R q0 v1 0 m) ∧ ((m q0 7) = 40 → hX7_readNested_14 f Φ R q0 v1 1 m)
set_option maxHeartbeats 4000000 in
set_option maxRecDepth 100000 in
theorem sbX7_readNested {n f : Nat} {Φ : Int → aj_M → Prop} {R : Nat → (Int → aj_M → Prop) → List Nat → Int → aj_M → Prop} (HR0 : ∀ (Φ : Int → aj_M → Prop) (q0 : List Nat) (v1 : Int) (m : aj_M) (hq0 : (.inl (7, q0) : aj_R) ∈ aj_pls), R 0 Φ q0 v1 m → aj_Ct (n + 6) yX7_readTruth cX7_readTruth 3 (some .boolean) [vO 7 q0, vI v1] m (fun r m => ∃ z, r = some (vI z) ∧ Φ z m)) (HR1 : ∀ (Φ : Int → aj_M → Prop) (q0 : List Nat) (v1 : Int) (m : aj_M) (hq0 : (.inl (7, q0) : aj_R) ∈ aj_pls), R 1 Φ q0 v1 m → aj_Ct (n + 6) yX7_readBoth cX7_readBoth 3 (some .boolean) [vO 7 q0, vI v1] m (fun r m => ∃ z, r = some (vI z) ∧ Φ z m)) (HR2 : ∀ (Φ : Int → aj_M → Prop) (q0 : List Nat) (v1 : Int) (m : aj_M) (hq0 : (.inl (7, q0) : aj_R) ∈ aj_pls), R 2 Φ q0 v1 m → aj_Ct (n + 6) yX7_readUnit cX7_readUnit 3 (some .boolean) [vO 7 q0, vI v1] m (fun r m => ∃ z, r = some (vI z) ∧ Φ z m)) (HR3 : ∀ (Φ : Int → aj_M → Prop) (q0 : List Nat) (v1 : Int) (m : aj_M) (hq0 : (.inl (7, q0) : aj_R) ∈ aj_pls), R 3 Φ q0 v1 m → aj_Ct (n + 6) yX7_readComparison cX7_readComparison 3 (some .boolean) [vO 7 q0, vI v1] m (fun r m => ∃ z, r = some (vI z) ∧ Φ z m)) (HR4 : ∀ (Φ : Int → aj_M → Prop) (q0 : List Nat) (v1 : Int) (m : aj_M) (hq0 : (.inl (7, q0) : aj_R) ∈ aj_pls), R 4 Φ q0 v1 m → aj_Ct (n + 6) yX7_readSum cX7_readSum 4 (some .boolean) [vO 7 q0, vI v1] m (fun r m => ∃ z, r = some (vI z) ∧ Φ z m)) (HR5 : ∀ (Φ : Int → aj_M → Prop) (q0 : List Nat) (v1 : Int) (m : aj_M) (hq0 : (.inl (7, q0) : aj_R) ∈ aj_pls), R 5 Φ q0 v1 m → aj_Ct (n + 6) yX7_readTerm cX7_readTerm 3 (some .boolean) [vO 7 q0, vI v1] m (fun r m => ∃ z, r = some (vI z) ∧ Φ z m)) (HR6 : ∀ (Φ : Int → aj_M → Prop) (q0 : List Nat) (v1 : Int) (m : aj_M) (hq0 : (.inl (7, q0) : aj_R) ∈ aj_pls), R 6 Φ q0 v1 m → aj_Ct (n + 6) yX7_readAtom cX7_readAtom 2 (some .boolean) [vO 7 q0, vI v1] m (fun r m => ∃ z, r = some (vI z) ∧ Φ z m)) (HR7 : ∀ (Φ : Int → aj_M → Prop) (q0 : List Nat) (v1 : Int) (m : aj_M) (hq0 : (.inl (7, q0) : aj_R) ∈ aj_pls), R 7 Φ q0 v1 m → aj_Ct (n + 6) yX7_readNested cX7_readNested 3 (some .boolean) [vO 7 q0, vI v1] m (fun r m => ∃ z, r = some (vI z) ∧ Φ z m)) {q0 : List Nat} {v1 : Int} {m : aj_M} (hq0 : (.inl (7, q0) : aj_R) ∈ aj_pls) (h : wbX7_readNested f Φ R q0 v1 m) : aj_Ct (n + 7) yX7_readNested cX7_readNested 3 (some .boolean) [vO 7 q0, vI v1] m (fun r m => ∃ z, r = some (vI z) ∧ Φ z m) := by
  refine aj_met (lv := [some (vO 7 q0), some (vI v1), none]) (by decide +kernel) rfl (Nat.le_of_ble_eq_true rfl) (fun X C K => ?_)
  unfold wbX7_readNested at h
  refine aj_aload_n C dX7_readNested_0 rfl ?_
  refine aj_getI C flX7_39 hq0 (by decide) dX7_readNested_1 rfl ?_
  refine aj_bipush C dX7_readNested_4 (by decide) ?_
  obtain ⟨r0, h1, h2⟩ := h
  refine aj_icmp_ne (tgt := 13) C dX7_readNested_6 (by decide) r0 (by decide) (fun e => ?_) (fun e => ?_)
  · have h := h1 e
    refine aj_iconst C dX7_readNested_13 ?_
    exact tX7_readNested_14 C K HR0 HR1 HR2 HR3 HR4 HR5 HR6 HR7 q0 v1 0 _ hq0 h
  · have h := h2 e
    refine aj_iconst C dX7_readNested_9 ?_
    refine aj_goto (tgt := 14) C dX7_readNested_10 (by decide) ?_
    exact tX7_readNested_14 C K HR0 HR1 HR2 HR3 HR4 HR5 HR6 HR7 q0 v1 1 _ hq0 h
def rG7 (f : Nat) : Nat → Nat → (Int → aj_M → Prop) → List Nat → Int → aj_M → Prop
  | 0, _, _, _, _, _ => False
  | d + 1, t, Φ, q0, v1, m => if t = 0 then wbX7_readTruth f Φ (rG7 f d) q0 v1 m else if t = 1 then wbX7_readBoth f Φ (rG7 f d) q0 v1 m else if t = 2 then wbX7_readUnit f Φ (rG7 f d) q0 v1 m else if t = 3 then wbX7_readComparison f Φ (rG7 f d) q0 v1 m else if t = 4 then wbX7_readSum f Φ (rG7 f d) q0 v1 m else if t = 5 then wbX7_readTerm f Φ (rG7 f d) q0 v1 m else if t = 6 then wbX7_readAtom f Φ (rG7 f d) q0 v1 m else if t = 7 then wbX7_readNested f Φ (rG7 f d) q0 v1 m else False
set_option maxRecDepth 100000 in
theorem gG7 (f : Nat) : ∀ d : Nat, (∀ n : Nat, ∀ (Φ : Int → aj_M → Prop) (q0 : List Nat) (v1 : Int) (m : aj_M) (hq0 : (.inl (7, q0) : aj_R) ∈ aj_pls), rG7 f d 0 Φ q0 v1 m → aj_Ct (n + d + 6) yX7_readTruth cX7_readTruth 3 (some .boolean) [vO 7 q0, vI v1] m (fun r m => ∃ z, r = some (vI z) ∧ Φ z m)) ∧ (∀ n : Nat, ∀ (Φ : Int → aj_M → Prop) (q0 : List Nat) (v1 : Int) (m : aj_M) (hq0 : (.inl (7, q0) : aj_R) ∈ aj_pls), rG7 f d 1 Φ q0 v1 m → aj_Ct (n + d + 6) yX7_readBoth cX7_readBoth 3 (some .boolean) [vO 7 q0, vI v1] m (fun r m => ∃ z, r = some (vI z) ∧ Φ z m)) ∧ (∀ n : Nat, ∀ (Φ : Int → aj_M → Prop) (q0 : List Nat) (v1 : Int) (m : aj_M) (hq0 : (.inl (7, q0) : aj_R) ∈ aj_pls), rG7 f d 2 Φ q0 v1 m → aj_Ct (n + d + 6) yX7_readUnit cX7_readUnit 3 (some .boolean) [vO 7 q0, vI v1] m (fun r m => ∃ z, r = some (vI z) ∧ Φ z m)) ∧ (∀ n : Nat, ∀ (Φ : Int → aj_M → Prop) (q0 : List Nat) (v1 : Int) (m : aj_M) (hq0 : (.inl (7, q0) : aj_R) ∈ aj_pls), rG7 f d 3 Φ q0 v1 m → aj_Ct (n + d + 6) yX7_readComparison cX7_readComparison 3 (some .boolean) [vO 7 q0, vI v1] m (fun r m => ∃ z, r = some (vI z) ∧ Φ z m)) ∧ (∀ n : Nat, ∀ (Φ : Int → aj_M → Prop) (q0 : List Nat) (v1 : Int) (m : aj_M) (hq0 : (.inl (7, q0) : aj_R) ∈ aj_pls), rG7 f d 4 Φ q0 v1 m → aj_Ct (n + d + 6) yX7_readSum cX7_readSum 4 (some .boolean) [vO 7 q0, vI v1] m (fun r m => ∃ z, r = some (vI z) ∧ Φ z m)) ∧ (∀ n : Nat, ∀ (Φ : Int → aj_M → Prop) (q0 : List Nat) (v1 : Int) (m : aj_M) (hq0 : (.inl (7, q0) : aj_R) ∈ aj_pls), rG7 f d 5 Φ q0 v1 m → aj_Ct (n + d + 6) yX7_readTerm cX7_readTerm 3 (some .boolean) [vO 7 q0, vI v1] m (fun r m => ∃ z, r = some (vI z) ∧ Φ z m)) ∧ (∀ n : Nat, ∀ (Φ : Int → aj_M → Prop) (q0 : List Nat) (v1 : Int) (m : aj_M) (hq0 : (.inl (7, q0) : aj_R) ∈ aj_pls), rG7 f d 6 Φ q0 v1 m → aj_Ct (n + d + 6) yX7_readAtom cX7_readAtom 2 (some .boolean) [vO 7 q0, vI v1] m (fun r m => ∃ z, r = some (vI z) ∧ Φ z m)) ∧ (∀ n : Nat, ∀ (Φ : Int → aj_M → Prop) (q0 : List Nat) (v1 : Int) (m : aj_M) (hq0 : (.inl (7, q0) : aj_R) ∈ aj_pls), rG7 f d 7 Φ q0 v1 m → aj_Ct (n + d + 6) yX7_readNested cX7_readNested 3 (some .boolean) [vO 7 q0, vI v1] m (fun r m => ∃ z, r = some (vI z) ∧ Φ z m)) := by
  intro d
  induction d with
  | zero =>
    exact ⟨fun n Φ q0 v1 m hq0 h => h.elim, fun n Φ q0 v1 m hq0 h => h.elim, fun n Φ q0 v1 m hq0 h => h.elim, fun n Φ q0 v1 m hq0 h => h.elim, fun n Φ q0 v1 m hq0 h => h.elim, fun n Φ q0 v1 m hq0 h => h.elim, fun n Φ q0 v1 m hq0 h => h.elim, fun n Φ q0 v1 m hq0 h => h.elim⟩
  | succ d ih =>
    refine ⟨?_, ?_, ?_, ?_, ?_, ?_, ?_, ?_⟩
    · intro n Φ q0 v1 m hq0 h
      rw [show n + (d + 1) + 6 = (n + d) + 7 by omega]
      exact sbX7_readTruth (n := n + d) (f := f) (R := rG7 f d) (ih.1 n) (ih.2.1 n) (ih.2.2.1 n) (ih.2.2.2.1 n) (ih.2.2.2.2.1 n) (ih.2.2.2.2.2.1 n) (ih.2.2.2.2.2.2.1 n) (ih.2.2.2.2.2.2.2 n) hq0 h
    · intro n Φ q0 v1 m hq0 h
      rw [show n + (d + 1) + 6 = (n + d) + 7 by omega]
      exact sbX7_readBoth (n := n + d) (f := f) (R := rG7 f d) (ih.1 n) (ih.2.1 n) (ih.2.2.1 n) (ih.2.2.2.1 n) (ih.2.2.2.2.1 n) (ih.2.2.2.2.2.1 n) (ih.2.2.2.2.2.2.1 n) (ih.2.2.2.2.2.2.2 n) hq0 h
    · intro n Φ q0 v1 m hq0 h
      rw [show n + (d + 1) + 6 = (n + d) + 7 by omega]
      exact sbX7_readUnit (n := n + d) (f := f) (R := rG7 f d) (ih.1 n) (ih.2.1 n) (ih.2.2.1 n) (ih.2.2.2.1 n) (ih.2.2.2.2.1 n) (ih.2.2.2.2.2.1 n) (ih.2.2.2.2.2.2.1 n) (ih.2.2.2.2.2.2.2 n) hq0 h
    · intro n Φ q0 v1 m hq0 h
      rw [show n + (d + 1) + 6 = (n + d) + 7 by omega]
      exact sbX7_readComparison (n := n + d) (f := f) (R := rG7 f d) (ih.1 n) (ih.2.1 n) (ih.2.2.1 n) (ih.2.2.2.1 n) (ih.2.2.2.2.1 n) (ih.2.2.2.2.2.1 n) (ih.2.2.2.2.2.2.1 n) (ih.2.2.2.2.2.2.2 n) hq0 h
    · intro n Φ q0 v1 m hq0 h
      rw [show n + (d + 1) + 6 = (n + d) + 7 by omega]
      exact sbX7_readSum (n := n + d) (f := f) (R := rG7 f d) (ih.1 n) (ih.2.1 n) (ih.2.2.1 n) (ih.2.2.2.1 n) (ih.2.2.2.2.1 n) (ih.2.2.2.2.2.1 n) (ih.2.2.2.2.2.2.1 n) (ih.2.2.2.2.2.2.2 n) hq0 h
    · intro n Φ q0 v1 m hq0 h
      rw [show n + (d + 1) + 6 = (n + d) + 7 by omega]
      exact sbX7_readTerm (n := n + d) (f := f) (R := rG7 f d) (ih.1 n) (ih.2.1 n) (ih.2.2.1 n) (ih.2.2.2.1 n) (ih.2.2.2.2.1 n) (ih.2.2.2.2.2.1 n) (ih.2.2.2.2.2.2.1 n) (ih.2.2.2.2.2.2.2 n) hq0 h
    · intro n Φ q0 v1 m hq0 h
      rw [show n + (d + 1) + 6 = (n + d) + 7 by omega]
      exact sbX7_readAtom (n := n + d) (f := f) (R := rG7 f d) (ih.1 n) (ih.2.1 n) (ih.2.2.1 n) (ih.2.2.2.1 n) (ih.2.2.2.2.1 n) (ih.2.2.2.2.2.1 n) (ih.2.2.2.2.2.2.1 n) (ih.2.2.2.2.2.2.2 n) hq0 h
    · intro n Φ q0 v1 m hq0 h
      rw [show n + (d + 1) + 6 = (n + d) + 7 by omega]
      exact sbX7_readNested (n := n + d) (f := f) (R := rG7 f d) (ih.1 n) (ih.2.1 n) (ih.2.2.1 n) (ih.2.2.2.1 n) (ih.2.2.2.2.1 n) (ih.2.2.2.2.2.1 n) (ih.2.2.2.2.2.2.1 n) (ih.2.2.2.2.2.2.2 n) hq0 h
def wX7_readTruth (f : Nat) (Φ : Int → aj_M → Prop) (q0 : List Nat) (v1 : Int) (m : aj_M) : Prop := rG7 f 70 0 Φ q0 v1 m
theorem sX7_readTruth {n f : Nat} {Φ : Int → aj_M → Prop} {q0 : List Nat} {v1 : Int} {m : aj_M} (hq0 : (.inl (7, q0) : aj_R) ∈ aj_pls) (h : wX7_readTruth f Φ q0 v1 m) : aj_Ct (n + 76) yX7_readTruth cX7_readTruth 3 (some .boolean) [vO 7 q0, vI v1] m (fun r m => ∃ z, r = some (vI z) ∧ Φ z m) := by
  rw [show n + 76 = n + 70 + 6 by omega]
  exact (gG7 f 70).1 n Φ q0 v1 m hq0 h
def wX7_readBoth (f : Nat) (Φ : Int → aj_M → Prop) (q0 : List Nat) (v1 : Int) (m : aj_M) : Prop := rG7 f 70 1 Φ q0 v1 m
theorem sX7_readBoth {n f : Nat} {Φ : Int → aj_M → Prop} {q0 : List Nat} {v1 : Int} {m : aj_M} (hq0 : (.inl (7, q0) : aj_R) ∈ aj_pls) (h : wX7_readBoth f Φ q0 v1 m) : aj_Ct (n + 76) yX7_readBoth cX7_readBoth 3 (some .boolean) [vO 7 q0, vI v1] m (fun r m => ∃ z, r = some (vI z) ∧ Φ z m) := by
  rw [show n + 76 = n + 70 + 6 by omega]
  exact (gG7 f 70).2.1 n Φ q0 v1 m hq0 h
def wX7_readUnit (f : Nat) (Φ : Int → aj_M → Prop) (q0 : List Nat) (v1 : Int) (m : aj_M) : Prop := rG7 f 70 2 Φ q0 v1 m
theorem sX7_readUnit {n f : Nat} {Φ : Int → aj_M → Prop} {q0 : List Nat} {v1 : Int} {m : aj_M} (hq0 : (.inl (7, q0) : aj_R) ∈ aj_pls) (h : wX7_readUnit f Φ q0 v1 m) : aj_Ct (n + 76) yX7_readUnit cX7_readUnit 3 (some .boolean) [vO 7 q0, vI v1] m (fun r m => ∃ z, r = some (vI z) ∧ Φ z m) := by
  rw [show n + 76 = n + 70 + 6 by omega]
  exact (gG7 f 70).2.2.1 n Φ q0 v1 m hq0 h
def wX7_readComparison (f : Nat) (Φ : Int → aj_M → Prop) (q0 : List Nat) (v1 : Int) (m : aj_M) : Prop := rG7 f 70 3 Φ q0 v1 m
theorem sX7_readComparison {n f : Nat} {Φ : Int → aj_M → Prop} {q0 : List Nat} {v1 : Int} {m : aj_M} (hq0 : (.inl (7, q0) : aj_R) ∈ aj_pls) (h : wX7_readComparison f Φ q0 v1 m) : aj_Ct (n + 76) yX7_readComparison cX7_readComparison 3 (some .boolean) [vO 7 q0, vI v1] m (fun r m => ∃ z, r = some (vI z) ∧ Φ z m) := by
  rw [show n + 76 = n + 70 + 6 by omega]
  exact (gG7 f 70).2.2.2.1 n Φ q0 v1 m hq0 h
def wX7_readSum (f : Nat) (Φ : Int → aj_M → Prop) (q0 : List Nat) (v1 : Int) (m : aj_M) : Prop := rG7 f 70 4 Φ q0 v1 m
theorem sX7_readSum {n f : Nat} {Φ : Int → aj_M → Prop} {q0 : List Nat} {v1 : Int} {m : aj_M} (hq0 : (.inl (7, q0) : aj_R) ∈ aj_pls) (h : wX7_readSum f Φ q0 v1 m) : aj_Ct (n + 76) yX7_readSum cX7_readSum 4 (some .boolean) [vO 7 q0, vI v1] m (fun r m => ∃ z, r = some (vI z) ∧ Φ z m) := by
  rw [show n + 76 = n + 70 + 6 by omega]
  exact (gG7 f 70).2.2.2.2.1 n Φ q0 v1 m hq0 h
def wX7_readTerm (f : Nat) (Φ : Int → aj_M → Prop) (q0 : List Nat) (v1 : Int) (m : aj_M) : Prop := rG7 f 70 5 Φ q0 v1 m
theorem sX7_readTerm {n f : Nat} {Φ : Int → aj_M → Prop} {q0 : List Nat} {v1 : Int} {m : aj_M} (hq0 : (.inl (7, q0) : aj_R) ∈ aj_pls) (h : wX7_readTerm f Φ q0 v1 m) : aj_Ct (n + 76) yX7_readTerm cX7_readTerm 3 (some .boolean) [vO 7 q0, vI v1] m (fun r m => ∃ z, r = some (vI z) ∧ Φ z m) := by
  rw [show n + 76 = n + 70 + 6 by omega]
  exact (gG7 f 70).2.2.2.2.2.1 n Φ q0 v1 m hq0 h
def wX7_readAtom (f : Nat) (Φ : Int → aj_M → Prop) (q0 : List Nat) (v1 : Int) (m : aj_M) : Prop := rG7 f 70 6 Φ q0 v1 m
theorem sX7_readAtom {n f : Nat} {Φ : Int → aj_M → Prop} {q0 : List Nat} {v1 : Int} {m : aj_M} (hq0 : (.inl (7, q0) : aj_R) ∈ aj_pls) (h : wX7_readAtom f Φ q0 v1 m) : aj_Ct (n + 76) yX7_readAtom cX7_readAtom 2 (some .boolean) [vO 7 q0, vI v1] m (fun r m => ∃ z, r = some (vI z) ∧ Φ z m) := by
  rw [show n + 76 = n + 70 + 6 by omega]
  exact (gG7 f 70).2.2.2.2.2.2.1 n Φ q0 v1 m hq0 h
def wX7_readNested (f : Nat) (Φ : Int → aj_M → Prop) (q0 : List Nat) (v1 : Int) (m : aj_M) : Prop := rG7 f 70 7 Φ q0 v1 m
theorem sX7_readNested {n f : Nat} {Φ : Int → aj_M → Prop} {q0 : List Nat} {v1 : Int} {m : aj_M} (hq0 : (.inl (7, q0) : aj_R) ∈ aj_pls) (h : wX7_readNested f Φ q0 v1 m) : aj_Ct (n + 76) yX7_readNested cX7_readNested 3 (some .boolean) [vO 7 q0, vI v1] m (fun r m => ∃ z, r = some (vI z) ∧ Φ z m) := by
  rw [show n + 76 = n + 70 + 6 by omega]
  exact (gG7 f 70).2.2.2.2.2.2.2 n Φ q0 v1 m hq0 h
