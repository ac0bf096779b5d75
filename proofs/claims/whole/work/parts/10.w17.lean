theorem dX12_readTruth_0 : decode cX12_readTruth 0 = .ok (.aload_n 0, 1) := by decide +kernel
theorem dX12_readTruth_1 : decode cX12_readTruth 1 = .ok (.iload_n 1, 1) := by decide +kernel
theorem dX12_readTruth_2 : decode cX12_readTruth 2 = .ok (.invokevirtual 188, 3) := by decide +kernel
theorem dX12_readTruth_5 : decode cX12_readTruth 5 = .ok (.aload_n 0, 1) := by decide +kernel
theorem dX12_readTruth_6 : decode cX12_readTruth 6 = .ok (.bipush 20, 2) := by decide +kernel
theorem dX12_readTruth_8 : decode cX12_readTruth 8 = .ok (.invokevirtual 170, 3) := by decide +kernel
theorem dX12_readTruth_11 : decode cX12_readTruth 11 = .ok (.ifCond .eq 18, 3) := by decide +kernel
theorem dX12_readTruth_14 : decode cX12_readTruth 14 = .ok (.aload_n 0, 1) := by decide +kernel
theorem dX12_readTruth_15 : decode cX12_readTruth 15 = .ok (.iload_n 1, 1) := by decide +kernel
theorem dX12_readTruth_16 : decode cX12_readTruth 16 = .ok (.invokevirtual 188, 3) := by decide +kernel
theorem dX12_readTruth_19 : decode cX12_readTruth 19 = .ok (.aload_n 0, 1) := by decide +kernel
theorem dX12_readTruth_20 : decode cX12_readTruth 20 = .ok (.sipush 3008, 3) := by decide +kernel
theorem dX12_readTruth_23 : decode cX12_readTruth 23 = .ok (.invokevirtual 158, 3) := by decide +kernel
theorem dX12_readTruth_26 : decode cX12_readTruth 26 = .ok (.goto (-21), 3) := by decide +kernel
theorem dX12_readTruth_29 : decode cX12_readTruth 29 = .ok (.return_, 1) := by decide +kernel
def hX12_readTruth_5 (f : Nat) (Φ : aj_M → Prop) (R : Nat → (aj_M → Prop) → List Nat → Int → aj_M → Prop) : Nat → List Nat → Int → aj_M → Prop
  | 0, _, _, _ => False
  | k + 1, q0, v1, m => wX12_eats f (fun z1 m1 => rI z1 ∧ (z1 = 0 → Φ m1) ∧ (¬ (z1 = 0) → R 1 (fun m2 => wX12_codes f (fun m3 => hX12_readTruth_5 f Φ R k q0 v1 m3) q0 3008 m2) q0 v1 m1)) q0 20 m
set_option maxHeartbeats 4000000 in
set_option maxRecDepth 100000 in
theorem tX12_readTruth_5 {X : aj_T} {n f : Nat} {Φ : aj_M → Prop} (C : aj_Cx X cX12_readTruth RX12 2 (n + 7)) (K : aj_Rt X none (fun r m => r = none ∧ Φ m)) {R : Nat → (aj_M → Prop) → List Nat → Int → aj_M → Prop} (HR0 : ∀ (Φ : aj_M → Prop) (q0 : List Nat) (v1 : Int) (m : aj_M) (hq0 : (.inl (12, q0) : aj_R) ∈ aj_pls), R 0 Φ q0 v1 m → aj_Ct (n + 6) yX12_readTruth cX12_readTruth 2 none [vO 12 q0, vI v1] m (fun r m => r = none ∧ Φ m)) (HR1 : ∀ (Φ : aj_M → Prop) (q0 : List Nat) (v1 : Int) (m : aj_M) (hq0 : (.inl (12, q0) : aj_R) ∈ aj_pls), R 1 Φ q0 v1 m → aj_Ct (n + 6) yX12_readBoth cX12_readBoth 2 none [vO 12 q0, vI v1] m (fun r m => r = none ∧ Φ m)) (HR2 : ∀ (Φ : aj_M → Prop) (q0 : List Nat) (v1 : Int) (m : aj_M) (hq0 : (.inl (12, q0) : aj_R) ∈ aj_pls), R 2 Φ q0 v1 m → aj_Ct (n + 6) yX12_readUnit cX12_readUnit 3 none [vO 12 q0, vI v1] m (fun r m => r = none ∧ Φ m)) (HR3 : ∀ (Φ : aj_M → Prop) (q0 : List Nat) (v1 : Int) (m : aj_M) (hq0 : (.inl (12, q0) : aj_R) ∈ aj_pls), R 3 Φ q0 v1 m → aj_Ct (n + 6) yX12_readSum cX12_readSum 3 none [vO 12 q0, vI v1] m (fun r m => r = none ∧ Φ m)) (HR4 : ∀ (Φ : aj_M → Prop) (q0 : List Nat) (v1 : Int) (m : aj_M) (hq0 : (.inl (12, q0) : aj_R) ∈ aj_pls), R 4 Φ q0 v1 m → aj_Ct (n + 6) yX12_readTerm cX12_readTerm 2 none [vO 12 q0, vI v1] m (fun r m => r = none ∧ Φ m)) (HR5 : ∀ (Φ : aj_M → Prop) (q0 : List Nat) (v1 : Int) (m : aj_M) (hq0 : (.inl (12, q0) : aj_R) ∈ aj_pls), R 5 Φ q0 v1 m → aj_Ct (n + 6) yX12_readAtom cX12_readAtom 2 none [vO 12 q0, vI v1] m (fun r m => r = none ∧ Φ m)) (HR6 : ∀ (Φ : aj_M → Prop) (q0 : List Nat) (v1 : Int) (m : aj_M) (hq0 : (.inl (12, q0) : aj_R) ∈ aj_pls), R 6 Φ q0 v1 m → aj_Ct (n + 6) yX12_readIf cX12_readIf 2 none [vO 12 q0, vI v1] m (fun r m => r = none ∧ Φ m)) : ∀ (k : Nat) (q0 : List Nat) (v1 : Int) (m : aj_M) (hq0 : (.inl (12, q0) : aj_R) ∈ aj_pls), hX12_readTruth_5 f Φ R k q0 v1 m → aj_J X 5 [some (vO 12 q0), some (vI v1)] [] m := by
  intro k
  induction k with
  | zero =>
    intro q0 v1 m _ h
    exact h.elim
  | succ k ih =>
    intro q0 v1 m hq0 h
    unfold hX12_readTruth_5 at h
    refine aj_aload_n C dX12_readTruth_5 rfl ?_
    refine aj_bipush C dX12_readTruth_6 (by decide) ?_
    refine aj_callV (rest := []) C mvX12_170 (sX12_eats hq0 h) hq0 (aj_np 1 (by decide +kernel) rfl) (Nat.le_of_ble_eq_true rfl) rfl dX12_readTruth_8 (fun r m1 h => ?_)
    obtain ⟨z1, rfl, h⟩ := h
    obtain ⟨r0, h1, h2⟩ := h
    refine aj_if_eq (tgt := 29) C dX12_readTruth_11 (by decide) r0 (fun e => ?_) (fun e => ?_)
    · have h := h1 e
      exact aj_vret C K dX12_readTruth_29 ⟨rfl, h⟩
    · have h := h2 e
      refine aj_aload_n C dX12_readTruth_14 rfl ?_
      refine aj_iload_n C dX12_readTruth_15 rfl ?_
      refine aj_callV (rest := []) C mvX12_188 (HR1 _ q0 v1 _ hq0 h) hq0 (aj_np 1 (by decide +kernel) rfl) (Nat.le_of_ble_eq_true rfl) rfl dX12_readTruth_16 (fun r m2 h => ?_)
      obtain ⟨rfl, h⟩ := h
      refine aj_aload_n C dX12_readTruth_19 rfl ?_
      refine aj_sipush C dX12_readTruth_20 (by decide) ?_
      refine aj_callV (rest := []) C mvX12_158 (sX12_codes hq0 h) hq0 (aj_np 1 (by decide +kernel) rfl) (Nat.le_of_ble_eq_true rfl) rfl dX12_readTruth_23 (fun r m3 h => ?_)
      obtain ⟨rfl, h⟩ := h
      refine aj_goto (tgt := 5) C dX12_readTruth_26 (by decide) ?_
      exact ih q0 v1 _ hq0 h
def wbX12_readTruth (f : Nat) (Φ : aj_M → Prop) (R : Nat → (aj_M → Prop) → List Nat → Int → aj_M → Prop) (q0 : List Nat) (v1 : Int) (m : aj_M) : Prop := R 1 (fun m1 => hX12_readTruth_5 f Φ R f q0 v1 m1) q0 v1 m
set_option maxHeartbeats 4000000 in
set_option maxRecDepth 100000 in
theorem sbX12_readTruth {n f : Nat} {Φ : aj_M → Prop} {R : Nat → (aj_M → Prop) → List Nat → Int → aj_M → Prop} (HR0 : ∀ (Φ : aj_M → Prop) (q0 : List Nat) (v1 : Int) (m : aj_M) (hq0 : (.inl (12, q0) : aj_R) ∈ aj_pls), R 0 Φ q0 v1 m → aj_Ct (n + 6) yX12_readTruth cX12_readTruth 2 none [vO 12 q0, vI v1] m (fun r m => r = none ∧ Φ m)) (HR1 : ∀ (Φ : aj_M → Prop) (q0 : List Nat) (v1 : Int) (m : aj_M) (hq0 : (.inl (12, q0) : aj_R) ∈ aj_pls), R 1 Φ q0 v1 m → aj_Ct (n + 6) yX12_readBoth cX12_readBoth 2 none [vO 12 q0, vI v1] m (fun r m => r = none ∧ Φ m)) (HR2 : ∀ (Φ : aj_M → Prop) (q0 : List Nat) (v1 : Int) (m : aj_M) (hq0 : (.inl (12, q0) : aj_R) ∈ aj_pls), R 2 Φ q0 v1 m → aj_Ct (n + 6) yX12_readUnit cX12_readUnit 3 none [vO 12 q0, vI v1] m (fun r m => r = none ∧ Φ m)) (HR3 : ∀ (Φ : aj_M → Prop) (q0 : List Nat) (v1 : Int) (m : aj_M) (hq0 : (.inl (12, q0) : aj_R) ∈ aj_pls), R 3 Φ q0 v1 m → aj_Ct (n + 6) yX12_readSum cX12_readSum 3 none [vO 12 q0, vI v1] m (fun r m => r = none ∧ Φ m)) (HR4 : ∀ (Φ : aj_M → Prop) (q0 : List Nat) (v1 : Int) (m : aj_M) (hq0 : (.inl (12, q0) : aj_R) ∈ aj_pls), R 4 Φ q0 v1 m → aj_Ct (n + 6) yX12_readTerm cX12_readTerm 2 none [vO 12 q0, vI v1] m (fun r m => r = none ∧ Φ m)) (HR5 : ∀ (Φ : aj_M → Prop) (q0 : List Nat) (v1 : Int) (m : aj_M) (hq0 : (.inl (12, q0) : aj_R) ∈ aj_pls), R 5 Φ q0 v1 m → aj_Ct (n + 6) yX12_readAtom cX12_readAtom 2 none [vO 12 q0, vI v1] m (fun r m => r = none ∧ Φ m)) (HR6 : ∀ (Φ : aj_M → Prop) (q0 : List Nat) (v1 : Int) (m : aj_M) (hq0 : (.inl (12, q0) : aj_R) ∈ aj_pls), R 6 Φ q0 v1 m → aj_Ct (n + 6) yX12_readIf cX12_readIf 2 none [vO 12 q0, vI v1] m (fun r m => r = none ∧ Φ m)) {q0 : List Nat} {v1 : Int} {m : aj_M} (hq0 : (.inl (12, q0) : aj_R) ∈ aj_pls) (h : wbX12_readTruth f Φ R q0 v1 m) : aj_Ct (n + 7) yX12_readTruth cX12_readTruth 2 none [vO 12 q0, vI v1] m (fun r m => r = none ∧ Φ m) := by
  refine aj_met (lv := [some (vO 12 q0), some (vI v1)]) (by decide +kernel) rfl (Nat.le_of_ble_eq_true rfl) (fun X C K => ?_)
  unfold wbX12_readTruth at h
  refine aj_aload_n C dX12_readTruth_0 rfl ?_
  refine aj_iload_n C dX12_readTruth_1 rfl ?_
  refine aj_callV (rest := []) C mvX12_188 (HR1 _ q0 v1 _ hq0 h) hq0 (aj_np 1 (by decide +kernel) rfl) (Nat.le_of_ble_eq_true rfl) rfl dX12_readTruth_2 (fun r m1 h => ?_)
  obtain ⟨rfl, h⟩ := h
  exact tX12_readTruth_5 C K HR0 HR1 HR2 HR3 HR4 HR5 HR6 f q0 v1 _ hq0 h
theorem dX12_readBoth_0 : decode cX12_readBoth 0 = .ok (.aload_n 0, 1) := by decide +kernel
theorem dX12_readBoth_1 : decode cX12_readBoth 1 = .ok (.iload_n 1, 1) := by decide +kernel
theorem dX12_readBoth_2 : decode cX12_readBoth 2 = .ok (.invokevirtual 185, 3) := by decide +kernel
theorem dX12_readBoth_5 : decode cX12_readBoth 5 = .ok (.aload_n 0, 1) := by decide +kernel
theorem dX12_readBoth_6 : decode cX12_readBoth 6 = .ok (.bipush 19, 2) := by decide +kernel
theorem dX12_readBoth_8 : decode cX12_readBoth 8 = .ok (.invokevirtual 170, 3) := by decide +kernel
theorem dX12_readBoth_11 : decode cX12_readBoth 11 = .ok (.ifCond .eq 18, 3) := by decide +kernel
theorem dX12_readBoth_14 : decode cX12_readBoth 14 = .ok (.aload_n 0, 1) := by decide +kernel
theorem dX12_readBoth_15 : decode cX12_readBoth 15 = .ok (.iload_n 1, 1) := by decide +kernel
theorem dX12_readBoth_16 : decode cX12_readBoth 16 = .ok (.invokevirtual 185, 3) := by decide +kernel
theorem dX12_readBoth_19 : decode cX12_readBoth 19 = .ok (.aload_n 0, 1) := by decide +kernel
theorem dX12_readBoth_20 : decode cX12_readBoth 20 = .ok (.sipush 3007, 3) := by decide +kernel
theorem dX12_readBoth_23 : decode cX12_readBoth 23 = .ok (.invokevirtual 158, 3) := by decide +kernel
theorem dX12_readBoth_26 : decode cX12_readBoth 26 = .ok (.goto (-21), 3) := by decide +kernel
theorem dX12_readBoth_29 : decode cX12_readBoth 29 = .ok (.return_, 1) := by decide +kernel
def hX12_readBoth_5 (f : Nat) (Φ : aj_M → Prop) (R : Nat → (aj_M → Prop) → List Nat → Int → aj_M → Prop) : Nat → List Nat → Int → aj_M → Prop
  | 0, _, _, _ => False
  | k + 1, q0, v1, m => wX12_eats f (fun z1 m1 => rI z1 ∧ (z1 = 0 → Φ m1) ∧ (¬ (z1 = 0) → R 2 (fun m2 => wX12_codes f (fun m3 => hX12_readBoth_5 f Φ R k q0 v1 m3) q0 3007 m2) q0 v1 m1)) q0 19 m
set_option maxHeartbeats 4000000 in
set_option maxRecDepth 100000 in
theorem tX12_readBoth_5 {X : aj_T} {n f : Nat} {Φ : aj_M → Prop} (C : aj_Cx X cX12_readBoth RX12 2 (n + 7)) (K : aj_Rt X none (fun r m => r = none ∧ Φ m)) {R : Nat → (aj_M → Prop) → List Nat → Int → aj_M → Prop} (HR0 : ∀ (Φ : aj_M → Prop) (q0 : List Nat) (v1 : Int) (m : aj_M) (hq0 : (.inl (12, q0) : aj_R) ∈ aj_pls), R 0 Φ q0 v1 m → aj_Ct (n + 6) yX12_readTruth cX12_readTruth 2 none [vO 12 q0, vI v1] m (fun r m => r = none ∧ Φ m)) (HR1 : ∀ (Φ : aj_M → Prop) (q0 : List Nat) (v1 : Int) (m : aj_M) (hq0 : (.inl (12, q0) : aj_R) ∈ aj_pls), R 1 Φ q0 v1 m → aj_Ct (n + 6) yX12_readBoth cX12_readBoth 2 none [vO 12 q0, vI v1] m (fun r m => r = none ∧ Φ m)) (HR2 : ∀ (Φ : aj_M → Prop) (q0 : List Nat) (v1 : Int) (m : aj_M) (hq0 : (.inl (12, q0) : aj_R) ∈ aj_pls), R 2 Φ q0 v1 m → aj_Ct (n + 6) yX12_readUnit cX12_readUnit 3 none [vO 12 q0, vI v1] m (fun r m => r = none ∧ Φ m)) (HR3 : ∀ (Φ : aj_M → Prop) (q0 : List Nat) (v1 : Int) (m : aj_M) (hq0 : (.inl (12, q0) : aj_R) ∈ aj_pls), R 3 Φ q0 v1 m → aj_Ct (n + 6) yX12_readSum cX12_readSum 3 none [vO 12 q0, vI v1] m (fun r m => r = none ∧ Φ m)) (HR4 : ∀ (Φ : aj_M → Prop) (q0 : List Nat) (v1 : Int) (m : aj_M) (hq0 : (.inl (12, q0) : aj_R) ∈ aj_pls), R 4 Φ q0 v1 m → aj_Ct (n + 6) yX12_readTerm cX12_readTerm 2 none [vO 12 q0, vI v1] m (fun r m => r = none ∧ Φ m)) (HR5 : ∀ (Φ : aj_M → Prop) (q0 : List Nat) (v1 : Int) (m : aj_M) (hq0 : (.inl (12, q0) : aj_R) ∈ aj_pls), R 5 Φ q0 v1 m → aj_Ct (n + 6) yX12_readAtom cX12_readAtom 2 none [vO 12 q0, vI v1] m (fun r m => r = none ∧ Φ m)) (HR6 : ∀ (Φ : aj_M → Prop) (q0 : List Nat) (v1 : Int) (m : aj_M) (hq0 : (.inl (12, q0) : aj_R) ∈ aj_pls), R 6 Φ q0 v1 m → aj_Ct (n + 6) yX12_readIf cX12_readIf 2 none [vO 12 q0, vI v1] m (fun r m => r = none ∧ Φ m)) : ∀ (k : Nat) (q0 : List Nat) (v1 : Int) (m : aj_M) (hq0 : (.inl (12, q0) : aj_R) ∈ aj_pls), hX12_readBoth_5 f Φ R k q0 v1 m → aj_J X 5 [some (vO 12 q0), some (vI v1)] [] m := by
  intro k
  induction k with
  | zero =>
    intro q0 v1 m _ h
    exact h.elim
  | succ k ih =>
    intro q0 v1 m hq0 h
    unfold hX12_readBoth_5 at h
    refine aj_aload_n C dX12_readBoth_5 rfl ?_
    refine aj_bipush C dX12_readBoth_6 (by decide) ?_
    refine aj_callV (rest := []) C mvX12_170 (sX12_eats hq0 h) hq0 (aj_np 1 (by decide +kernel) rfl) (Nat.le_of_ble_eq_true rfl) rfl dX12_readBoth_8 (fun r m1 h => ?_)
    obtain ⟨z1, rfl, h⟩ := h
    obtain ⟨r0, h1, h2⟩ := h
    refine aj_if_eq (tgt := 29) C dX12_readBoth_11 (by decide) r0 (fun e => ?_) (fun e => ?_)
    · have h := h1 e
      exact aj_vret C K dX12_readBoth_29 ⟨rfl, h⟩
    · have h := h2 e
      refine aj_aload_n C dX12_readBoth_14 rfl ?_
      refine aj_iload_n C dX12_readBoth_15 rfl ?_
      refine aj_callV (rest := []) C mvX12_185 (HR2 _ q0 v1 _ hq0 h) hq0 (aj_np 1 (by decide +kernel) rfl) (Nat.le_of_ble_eq_true rfl) rfl dX12_readBoth_16 (fun r m2 h => ?_)
      obtain ⟨rfl, h⟩ := h
      refine aj_aload_n C dX12_readBoth_19 rfl ?_
      refine aj_sipush C dX12_readBoth_20 (by decide) ?_
      refine aj_callV (rest := []) C mvX12_158 (sX12_codes hq0 h) hq0 (aj_np 1 (by decide +kernel) rfl) (Nat.le_of_ble_eq_true rfl) rfl dX12_readBoth_23 (fun r m3 h => ?_)
      obtain ⟨rfl, h⟩ := h
      refine aj_goto (tgt := 5) C dX12_readBoth_26 (by decide) ?_
      exact ih q0 v1 _ hq0 h
def wbX12_readBoth (f : Nat) (Φ : aj_M → Prop) (R : Nat → (aj_M → Prop) → List Nat → Int → aj_M → Prop) (q0 : List Nat) (v1 : Int) (m : aj_M) : Prop := R 2 (fun m1 => hX12_readBoth_5 f Φ R f q0 v1 m1) q0 v1 m
set_option maxHeartbeats 4000000 in
set_option maxRecDepth 100000 in
theorem sbX12_readBoth {n f : Nat} {Φ : aj_M → Prop} {R : Nat → (aj_M → Prop) → List Nat → Int → aj_M → Prop} (HR0 : ∀ (Φ : aj_M → Prop) (q0 : List Nat) (v1 : Int) (m : aj_M) (hq0 : (.inl (12, q0) : aj_R) ∈ aj_pls), R 0 Φ q0 v1 m → aj_Ct (n + 6) yX12_readTruth cX12_readTruth 2 none [vO 12 q0, vI v1] m (fun r m => r = none ∧ Φ m)) (HR1 : ∀ (Φ : aj_M → Prop) (q0 : List Nat) (v1 : Int) (m : aj_M) (hq0 : (.inl (12, q0) : aj_R) ∈ aj_pls), R 1 Φ q0 v1 m → aj_Ct (n + 6) yX12_readBoth cX12_readBoth 2 none [vO 12 q0, vI v1] m (fun r m => r = none ∧ Φ m)) (HR2 : ∀ (Φ : aj_M → Prop) (q0 : List Nat) (v1 : Int) (m : aj_M) (hq0 : (.inl (12, q0) : aj_R) ∈ aj_pls), R 2 Φ q0 v1 m → aj_Ct (n + 6) yX12_readUnit cX12_readUnit 3 none [vO 12 q0, vI v1] m (fun r m => r = none ∧ Φ m)) (HR3 : ∀ (Φ : aj_M → Prop) (q0 : List Nat) (v1 : Int) (m : aj_M) (hq0 : (.inl (12, q0) : aj_R) ∈ aj_pls), R 3 Φ q0 v1 m → aj_Ct (n + 6) yX12_readSum cX12_readSum 3 none [vO 12 q0, vI v1] m (fun r m => r = none ∧ Φ m)) (HR4 : ∀ (Φ : aj_M → Prop) (q0 : List Nat) (v1 : Int) (m : aj_M) (hq0 : (.inl (12, q0) : aj_R) ∈ aj_pls), R 4 Φ q0 v1 m → aj_Ct (n + 6) yX12_readTerm cX12_readTerm 2 none [vO 12 q0, vI v1] m (fun r m => r = none ∧ Φ m)) (HR5 : ∀ (Φ : aj_M → Prop) (q0 : List Nat) (v1 : Int) (m : aj_M) (hq0 : (.inl (12, q0) : aj_R) ∈ aj_pls), R 5 Φ q0 v1 m → aj_Ct (n + 6) yX12_readAtom cX12_readAtom 2 none [vO 12 q0, vI v1] m (fun r m => r = none ∧ Φ m)) (HR6 : ∀ (Φ : aj_M → Prop) (q0 : List Nat) (v1 : Int) (m : aj_M) (hq0 : (.inl (12, q0) : aj_R) ∈ aj_pls), R 6 Φ q0 v1 m → aj_Ct (n + 6) yX12_readIf cX12_readIf 2 none [vO 12 q0, vI v1] m (fun r m => r = none ∧ Φ m)) {q0 : List Nat} {v1 : Int} {m : aj_M} (hq0 : (.inl (12, q0) : aj_R) ∈ aj_pls) (h : wbX12_readBoth f Φ R q0 v1 m) : aj_Ct (n + 7) yX12_readBoth cX12_readBoth 2 none [vO 12 q0, vI v1] m (fun r m => r = none ∧ Φ m) := by
  refine aj_met (lv := [some (vO 12 q0), some (vI v1)]) (by decide +kernel) rfl (Nat.le_of_ble_eq_true rfl) (fun X C K => ?_)
  unfold wbX12_readBoth at h
  refine aj_aload_n C dX12_readBoth_0 rfl ?_
  refine aj_iload_n C dX12_readBoth_1 rfl ?_
  refine aj_callV (rest := []) C mvX12_185 (HR2 _ q0 v1 _ hq0 h) hq0 (aj_np 1 (by decide +kernel) rfl) (Nat.le_of_ble_eq_true rfl) rfl dX12_readBoth_2 (fun r m1 h => ?_)
  obtain ⟨rfl, h⟩ := h
  exact tX12_readBoth_5 C K HR0 HR1 HR2 HR3 HR4 HR5 HR6 f q0 v1 _ hq0 h
theorem dX12_readUnit_0 : decode cX12_readUnit 0 = .ok (.aload_n 0, 1) := by decide +kernel
theorem dX12_readUnit_1 : decode cX12_readUnit 1 = .ok (.bipush 21, 2) := by decide +kernel
theorem dX12_readUnit_3 : decode cX12_readUnit 3 = .ok (.invokevirtual 144, 3) := by decide +kernel
theorem dX12_readUnit_6 : decode cX12_readUnit 6 = .ok (.ifCond .eq 27, 3) := by decide +kernel
theorem dX12_readUnit_9 : decode cX12_readUnit 9 = .ok (.aload_n 0, 1) := by decide +kernel
theorem dX12_readUnit_10 : decode cX12_readUnit 10 = .ok (.iload_n 1, 1) := by decide +kernel
theorem dX12_readUnit_11 : decode cX12_readUnit 11 = .ok (.invokevirtual 164, 3) := by decide +kernel
theorem dX12_readUnit_14 : decode cX12_readUnit 14 = .ok (.ifCond .ne 4, 3) := by decide +kernel
theorem dX12_readUnit_17 : decode cX12_readUnit 17 = .ok (.return_, 1) := by decide +kernel
theorem dX12_readUnit_18 : decode cX12_readUnit 18 = .ok (.aload_n 0, 1) := by decide +kernel
theorem dX12_readUnit_19 : decode cX12_readUnit 19 = .ok (.iload_n 1, 1) := by decide +kernel
theorem dX12_readUnit_20 : decode cX12_readUnit 20 = .ok (.iconst 1, 1) := by decide +kernel
theorem dX12_readUnit_21 : decode cX12_readUnit 21 = .ok (.iadd, 1) := by decide +kernel
theorem dX12_readUnit_22 : decode cX12_readUnit 22 = .ok (.invokevirtual 185, 3) := by decide +kernel
theorem dX12_readUnit_25 : decode cX12_readUnit 25 = .ok (.aload_n 0, 1) := by decide +kernel
theorem dX12_readUnit_26 : decode cX12_readUnit 26 = .ok (.sipush 3006, 3) := by decide +kernel
theorem dX12_readUnit_29 : decode cX12_readUnit 29 = .ok (.invokevirtual 158, 3) := by decide +kernel
theorem dX12_readUnit_32 : decode cX12_readUnit 32 = .ok (.return_, 1) := by decide +kernel
theorem dX12_readUnit_33 : decode cX12_readUnit 33 = .ok (.aload_n 0, 1) := by decide +kernel
theorem dX12_readUnit_34 : decode cX12_readUnit 34 = .ok (.bipush 37, 2) := by decide +kernel
theorem dX12_readUnit_36 : decode cX12_readUnit 36 = .ok (.invokevirtual 144, 3) := by decide +kernel
theorem dX12_readUnit_39 : decode cX12_readUnit 39 = .ok (.ifCond .eq 34, 3) := by decide +kernel
theorem dX12_readUnit_42 : decode cX12_readUnit 42 = .ok (.aload_n 0, 1) := by decide +kernel
theorem dX12_readUnit_43 : decode cX12_readUnit 43 = .ok (.iload_n 1, 1) := by decide +kernel
theorem dX12_readUnit_44 : decode cX12_readUnit 44 = .ok (.invokevirtual 164, 3) := by decide +kernel
theorem dX12_readUnit_47 : decode cX12_readUnit 47 = .ok (.ifCond .ne 4, 3) := by decide +kernel
theorem dX12_readUnit_50 : decode cX12_readUnit 50 = .ok (.return_, 1) := by decide +kernel
theorem dX12_readUnit_51 : decode cX12_readUnit 51 = .ok (.aload_n 0, 1) := by decide +kernel
theorem dX12_readUnit_52 : decode cX12_readUnit 52 = .ok (.iload_n 1, 1) := by decide +kernel
theorem dX12_readUnit_53 : decode cX12_readUnit 53 = .ok (.iconst 1, 1) := by decide +kernel
theorem dX12_readUnit_54 : decode cX12_readUnit 54 = .ok (.iadd, 1) := by decide +kernel
theorem dX12_readUnit_55 : decode cX12_readUnit 55 = .ok (.invokevirtual 176, 3) := by decide +kernel
theorem dX12_readUnit_58 : decode cX12_readUnit 58 = .ok (.aload_n 0, 1) := by decide +kernel
theorem dX12_readUnit_59 : decode cX12_readUnit 59 = .ok (.bipush 38, 2) := by decide +kernel
theorem dX12_readUnit_61 : decode cX12_readUnit 61 = .ok (.invokevirtual 170, 3) := by decide +kernel
theorem dX12_readUnit_64 : decode cX12_readUnit 64 = .ok (.ifCond .ne 8, 3) := by decide +kernel
theorem dX12_readUnit_67 : decode cX12_readUnit 67 = .ok (.aload_n 0, 1) := by decide +kernel
theorem dX12_readUnit_68 : decode cX12_readUnit 68 = .ok (.iconst 2, 1) := by decide +kernel
theorem dX12_readUnit_69 : decode cX12_readUnit 69 = .ok (.invokevirtual 150, 3) := by decide +kernel
theorem dX12_readUnit_72 : decode cX12_readUnit 72 = .ok (.return_, 1) := by decide +kernel
theorem dX12_readUnit_73 : decode cX12_readUnit 73 = .ok (.aload_n 0, 1) := by decide +kernel
theorem dX12_readUnit_74 : decode cX12_readUnit 74 = .ok (.iload_n 1, 1) := by decide +kernel
theorem dX12_readUnit_75 : decode cX12_readUnit 75 = .ok (.invokevirtual 167, 3) := by decide +kernel
theorem dX12_readUnit_78 : decode cX12_readUnit 78 = .ok (.aload_n 0, 1) := by decide +kernel
theorem dX12_readUnit_79 : decode cX12_readUnit 79 = .ok (.bipush 39, 2) := by decide +kernel
theorem dX12_readUnit_81 : decode cX12_readUnit 81 = .ok (.invokevirtual 144, 3) := by decide +kernel
theorem dX12_readUnit_84 : decode cX12_readUnit 84 = .ok (.ifCond .eq 9, 3) := by decide +kernel
theorem dX12_readUnit_87 : decode cX12_readUnit 87 = .ok (.sipush 3003, 3) := by decide +kernel
theorem dX12_readUnit_90 : decode cX12_readUnit 90 = .ok (.goto 21, 3) := by decide +kernel
theorem dX12_readUnit_93 : decode cX12_readUnit 93 = .ok (.aload_n 0, 1) := by decide +kernel
theorem dX12_readUnit_94 : decode cX12_readUnit 94 = .ok (.bipush 40, 2) := by decide +kernel
theorem dX12_readUnit_96 : decode cX12_readUnit 96 = .ok (.invokevirtual 144, 3) := by decide +kernel
theorem dX12_readUnit_99 : decode cX12_readUnit 99 = .ok (.ifCond .eq 9, 3) := by decide +kernel
theorem dX12_readUnit_102 : decode cX12_readUnit 102 = .ok (.sipush 3004, 3) := by decide +kernel
theorem dX12_readUnit_105 : decode cX12_readUnit 105 = .ok (.goto 6, 3) := by decide +kernel
theorem dX12_readUnit_108 : decode cX12_readUnit 108 = .ok (.sipush 3005, 3) := by decide +kernel
theorem dX12_readUnit_111 : decode cX12_readUnit 111 = .ok (.istore_n 2, 1) := by decide +kernel
theorem dX12_readUnit_112 : decode cX12_readUnit 112 = .ok (.aload_n 0, 1) := by decide +kernel
theorem dX12_readUnit_113 : decode cX12_readUnit 113 = .ok (.bipush 39, 2) := by decide +kernel
theorem dX12_readUnit_115 : decode cX12_readUnit 115 = .ok (.invokevirtual 144, 3) := by decide +kernel
theorem dX12_readUnit_118 : decode cX12_readUnit 118 = .ok (.ifCond .ne 21, 3) := by decide +kernel
theorem dX12_readUnit_121 : decode cX12_readUnit 121 = .ok (.aload_n 0, 1) := by decide +kernel
theorem dX12_readUnit_122 : decode cX12_readUnit 122 = .ok (.bipush 40, 2) := by decide +kernel
theorem dX12_readUnit_124 : decode cX12_readUnit 124 = .ok (.invokevirtual 144, 3) := by decide +kernel
theorem dX12_readUnit_127 : decode cX12_readUnit 127 = .ok (.ifCond .ne 12, 3) := by decide +kernel
theorem dX12_readUnit_130 : decode cX12_readUnit 130 = .ok (.aload_n 0, 1) := by decide +kernel
theorem dX12_readUnit_131 : decode cX12_readUnit 131 = .ok (.bipush 41, 2) := by decide +kernel
theorem dX12_readUnit_133 : decode cX12_readUnit 133 = .ok (.invokevirtual 144, 3) := by decide +kernel
theorem dX12_readUnit_136 : decode cX12_readUnit 136 = .ok (.ifCond .eq 10, 3) := by decide +kernel
theorem dX12_readUnit_139 : decode cX12_readUnit 139 = .ok (.aload_n 0, 1) := by decide +kernel
theorem dX12_readUnit_140 : decode cX12_readUnit 140 = .ok (.invokevirtual 147, 3) := by decide +kernel
theorem dX12_readUnit_143 : decode cX12_readUnit 143 = .ok (.goto 8, 3) := by decide +kernel
theorem dX12_readUnit_146 : decode cX12_readUnit 146 = .ok (.aload_n 0, 1) := by decide +kernel
theorem dX12_readUnit_147 : decode cX12_readUnit 147 = .ok (.iconst 2, 1) := by decide +kernel
theorem dX12_readUnit_148 : decode cX12_readUnit 148 = .ok (.invokevirtual 150, 3) := by decide +kernel
theorem dX12_readUnit_151 : decode cX12_readUnit 151 = .ok (.aload_n 0, 1) := by decide +kernel
theorem dX12_readUnit_152 : decode cX12_readUnit 152 = .ok (.iload_n 1, 1) := by decide +kernel
theorem dX12_readUnit_153 : decode cX12_readUnit 153 = .ok (.invokevirtual 167, 3) := by decide +kernel
theorem dX12_readUnit_156 : decode cX12_readUnit 156 = .ok (.aload_n 0, 1) := by decide +kernel
theorem dX12_readUnit_157 : decode cX12_readUnit 157 = .ok (.iload_n 2, 1) := by decide +kernel
theorem dX12_readUnit_158 : decode cX12_readUnit 158 = .ok (.invokevirtual 158, 3) := by decide +kernel
theorem dX12_readUnit_161 : decode cX12_readUnit 161 = .ok (.return_, 1) := by decide +kernel
def hX12_readUnit_111 (f : Nat) (Φ : aj_M → Prop) (R : Nat → (aj_M → Prop) → List Nat → Int → aj_M → Prop) (q0 : List Nat) (v1 : Int) (vs0 : Int) (m : aj_M) : Prop := wX12_is f (fun z1 m1 => rI z1 ∧ (¬ z1 = 0 → wX12_next f (fun m2 => R 3 (fun m3 => wX12_codes f (fun m4 => Φ m4) q0 vs0 m3) q0 v1 m2) q0 m1) ∧ (z1 = 0 → wX12_is f (fun z5 m5 => rI z5 ∧ (¬ z5 = 0 → wX12_next f (fun m6 => R 3 (fun m7 => wX12_codes f (fun m8 => Φ m8) q0 vs0 m7) q0 v1 m6) q0 m5) ∧ (z5 = 0 → wX12_is f (fun z9 m9 => rI z9 ∧ (z9 = 0 → wX12_fails f (fun m10 => R 3 (fun m11 => wX12_codes f (fun m12 => Φ m12) q0 vs0 m11) q0 v1 m10) q0 2 m9) ∧ (¬ (z9 = 0) → wX12_next f (fun m13 => R 3 (fun m14 => wX12_codes f (fun m15 => Φ m15) q0 vs0 m14) q0 v1 m13) q0 m9)) q0 41 m5)) q0 40 m1)) q0 39 m
set_option maxHeartbeats 4000000 in
set_option maxRecDepth 100000 in
theorem tX12_readUnit_111 {X : aj_T} {n f : Nat} {Φ : aj_M → Prop} (C : aj_Cx X cX12_readUnit RX12 3 (n + 7)) (K : aj_Rt X none (fun r m => r = none ∧ Φ m)) {R : Nat → (aj_M → Prop) → List Nat → Int → aj_M → Prop} (HR0 : ∀ (Φ : aj_M → Prop) (q0 : List Nat) (v1 : Int) (m : aj_M) (hq0 : (.inl (12, q0) : aj_R) ∈ aj_pls), R 0 Φ q0 v1 m → aj_Ct (n + 6) yX12_readTruth cX12_readTruth 2 none [vO 12 q0, vI v1] m (fun r m => r = none ∧ Φ m)) (HR1 : ∀ (Φ : aj_M → Prop) (q0 : List Nat) (v1 : Int) (m : aj_M) (hq0 : (.inl (12, q0) : aj_R) ∈ aj_pls), R 1 Φ q0 v1 m → aj_Ct (n + 6) yX12_readBoth cX12_readBoth 2 none [vO 12 q0, vI v1] m (fun r m => r = none ∧ Φ m)) (HR2 : ∀ (Φ : aj_M → Prop) (q0 : List Nat) (v1 : Int) (m : aj_M) (hq0 : (.inl (12, q0) : aj_R) ∈ aj_pls), R 2 Φ q0 v1 m → aj_Ct (n + 6) yX12_readUnit cX12_readUnit 3 none [vO 12 q0, vI v1] m (fun r m => r = none ∧ Φ m)) (HR3 : ∀ (Φ : aj_M → Prop) (q0 : List Nat) (v1 : Int) (m : aj_M) (hq0 : (.inl (12, q0) : aj_R) ∈ aj_pls), R 3 Φ q0 v1 m → aj_Ct (n + 6) yX12_readSum cX12_readSum 3 none [vO 12 q0, vI v1] m (fun r m => r = none ∧ Φ m)) (HR4 : ∀ (Φ : aj_M → Prop) (q0 : List Nat) (v1 : Int) (m : aj_M) (hq0 : (.inl (12, q0) : aj_R) ∈ aj_pls), R 4 Φ q0 v1 m → aj_Ct (n + 6) yX12_readTerm cX12_readTerm 2 none [vO 12 q0, vI v1] m (fun r m => r = none ∧ Φ m)) (HR5 : ∀ (Φ : aj_M → Prop) (q0 : List Nat) (v1 : Int) (m : aj_M) (hq0 : (.inl (12, q0) : aj_R) ∈ aj_pls), R 5 Φ q0 v1 m → aj_Ct (n + 6) yX12_readAtom cX12_readAtom 2 none [vO 12 q0, vI v1] m (fun r m => r = none ∧ Φ m)) (HR6 : ∀ (Φ : aj_M → Prop) (q0 : List Nat) (v1 : Int) (m : aj_M) (hq0 : (.inl (12, q0) : aj_R) ∈ aj_pls), R 6 Φ q0 v1 m → aj_Ct (n + 6) yX12_readIf cX12_readIf 2 none [vO 12 q0, vI v1] m (fun r m => r = none ∧ Φ m)) (q0 : List Nat) (v1 : Int) (vs0 : Int) (m : aj_M) (hq0 : (.inl (12, q0) : aj_R) ∈ aj_pls) (h : hX12_readUnit_111 f Φ R q0 v1 vs0 m) : aj_J X 111 [some (vO 12 q0), some (vI v1), none] [vI vs0] m := by
  unfold hX12_readUnit_111 at h
  refine aj_istore_n (lv' := [some (vO 12 q0), some (vI v1), some (vI vs0)]) C dX12_readUnit_111 (by decide) rfl ?_
  refine aj_aload_n C dX12_readUnit_112 rfl ?_
  refine aj_bipush C dX12_readUnit_113 (by decide) ?_
  refine aj_callV (rest := []) C mvX12_144 (sX12_is hq0 h) hq0 (aj_np 1 (by decide +kernel) rfl) (Nat.le_of_ble_eq_true rfl) rfl dX12_readUnit_115 (fun r m1 h => ?_)
  obtain ⟨z1, rfl, h⟩ := h
  obtain ⟨r0, h1, h2⟩ := h
  refine aj_if_ne (tgt := 139) C dX12_readUnit_118 (by decide) r0 (fun e => ?_) (fun e => ?_)
  · have h := h1 e
    refine aj_aload_n C dX12_readUnit_139 rfl ?_
    refine aj_callV (rest := []) C mvX12_147 (sX12_next hq0 h) hq0 (aj_np 0 (by decide +kernel) rfl) (Nat.le_of_ble_eq_true rfl) rfl dX12_readUnit_140 (fun r m2 h => ?_)
    obtain ⟨rfl, h⟩ := h
    refine aj_goto (tgt := 151) C dX12_readUnit_143 (by decide) ?_
    refine aj_aload_n C dX12_readUnit_151 rfl ?_
    refine aj_iload_n C dX12_readUnit_152 rfl ?_
    refine aj_callV (rest := []) C mvX12_167 (HR3 _ q0 v1 _ hq0 h) hq0 (aj_np 1 (by decide +kernel) rfl) (Nat.le_of_ble_eq_true rfl) rfl dX12_readUnit_153 (fun r m3 h => ?_)
    obtain ⟨rfl, h⟩ := h
    refine aj_aload_n C dX12_readUnit_156 rfl ?_
    refine aj_iload_n C dX12_readUnit_157 rfl ?_
    refine aj_callV (rest := []) C mvX12_158 (sX12_codes hq0 h) hq0 (aj_np 1 (by decide +kernel) rfl) (Nat.le_of_ble_eq_true rfl) rfl dX12_readUnit_158 (fun r m4 h => ?_)
    obtain ⟨rfl, h⟩ := h
    exact aj_vret C K dX12_readUnit_161 ⟨rfl, h⟩
  · have h := h2 e
    refine aj_aload_n C dX12_readUnit_121 rfl ?_
    refine aj_bipush C dX12_readUnit_122 (by decide) ?_
    refine aj_callV (rest := []) C mvX12_144 (sX12_is hq0 h) hq0 (aj_np 1 (by decide +kernel) rfl) (Nat.le_of_ble_eq_true rfl) rfl dX12_readUnit_124 (fun r m5 h => ?_)
    obtain ⟨z5, rfl, h⟩ := h
    obtain ⟨r0, h1, h2⟩ := h
    refine aj_if_ne (tgt := 139) C dX12_readUnit_127 (by decide) r0 (fun e => ?_) (fun e => ?_)
    · have h := h1 e
      refine aj_aload_n C dX12_readUnit_139 rfl ?_
      refine aj_callV (rest := []) C mvX12_147 (sX12_next hq0 h) hq0 (aj_np 0 (by decide +kernel) rfl) (Nat.le_of_ble_eq_true rfl) rfl dX12_readUnit_140 (fun r m6 h => ?_)
      obtain ⟨rfl, h⟩ := h
      refine aj_goto (tgt := 151) C dX12_readUnit_143 (by decide) ?_
      refine aj_aload_n C dX12_readUnit_151 rfl ?_
      refine aj_iload_n C dX12_readUnit_152 rfl ?_
      refine aj_callV (rest := []) C mvX12_167 (HR3 _ q0 v1 _ hq0 h) hq0 (aj_np 1 (by decide +kernel) rfl) (Nat.le_of_ble_eq_true rfl) rfl dX12_readUnit_153 (fun r m7 h => ?_)
      obtain ⟨rfl, h⟩ := h
      refine aj_aload_n C dX12_readUnit_156 rfl ?_
      refine aj_iload_n C dX12_readUnit_157 rfl ?_
      refine aj_callV (rest := []) C mvX12_158 (sX12_codes hq0 h) hq0 (aj_np 1 (by decide +kernel) rfl) (Nat.le_of_ble_eq_true rfl) rfl dX12_readUnit_158 (fun r m8 h => ?_)
      obtain ⟨rfl, h⟩ := h
      exact aj_vret C K dX12_readUnit_161 ⟨rfl, h⟩
    · have h := h2 e
      refine aj_aload_n C dX12_readUnit_130 rfl ?_
      refine aj_bipush C dX12_readUnit_131 (by decide) ?_
      refine aj_callV (rest := []) C mvX12_144 (sX12_is hq0 h) hq0 (aj_np 1 (by decide +kernel) rfl) (Nat.le_of_ble_eq_true rfl) rfl dX12_readUnit_133 (fun r m9 h => ?_)
      obtain ⟨z9, rfl, h⟩ := h
      obtain ⟨r0, h1, h2⟩ := h
      refine aj_if_eq (tgt := 146) C dX12_readUnit_136 (by decide) r0 (fun e => ?_) (fun e => ?_)
      · have h := h1 e
        refine aj_aload_n C dX12_readUnit_146 rfl ?_
        refine aj_iconst C dX12_readUnit_147 ?_
        refine aj_callV (rest := []) C mvX12_150 (sX12_fails hq0 h) hq0 (aj_np 1 (by decide +kernel) rfl) (Nat.le_of_ble_eq_true rfl) rfl dX12_readUnit_148 (fun r m10 h => ?_)
        obtain ⟨rfl, h⟩ := h
        refine aj_aload_n C dX12_readUnit_151 rfl ?_
        refine aj_iload_n C dX12_readUnit_152 rfl ?_
        refine aj_callV (rest := []) C mvX12_167 (HR3 _ q0 v1 _ hq0 h) hq0 (aj_np 1 (by decide +kernel) rfl) (Nat.le_of_ble_eq_true rfl) rfl dX12_readUnit_153 (fun r m11 h => ?_)
        obtain ⟨rfl, h⟩ := h
        refine aj_aload_n C dX12_readUnit_156 rfl ?_
        refine aj_iload_n C dX12_readUnit_157 rfl ?_
        refine aj_callV (rest := []) C mvX12_158 (sX12_codes hq0 h) hq0 (aj_np 1 (by decide +kernel) rfl) (Nat.le_of_ble_eq_true rfl) rfl dX12_readUnit_158 (fun r m12 h => ?_)
        obtain ⟨rfl, h⟩ := h
        exact aj_vret C K dX12_readUnit_161 ⟨rfl, h⟩
      · have h := h2 e
        refine aj_aload_n C dX12_readUnit_139 rfl ?_
        refine aj_callV (rest := []) C mvX12_147 (sX12_next hq0 h) hq0 (aj_np 0 (by decide +kernel) rfl) (Nat.le_of_ble_eq_true rfl) rfl dX12_readUnit_140 (fun r m13 h => ?_)
        obtain ⟨rfl, h⟩ := h
        refine aj_goto (tgt := 151) C dX12_readUnit_143 (by decide) ?_
        refine aj_aload_n C dX12_readUnit_151 rfl ?_
        refine aj_iload_n C dX12_readUnit_152 rfl ?_
        refine aj_callV (rest := []) C mvX12_167 (HR3 _ q0 v1 _ hq0 h) hq0 (aj_np 1 (by decide +kernel) rfl) (Nat.le_of_ble_eq_true rfl) rfl dX12_readUnit_153 (fun r m14 h => ?_)
        obtain ⟨rfl, h⟩ := h
        refine aj_aload_n C dX12_readUnit_156 rfl ?_
        refine aj_iload_n C dX12_readUnit_157 rfl ?_
        refine aj_callV (rest := []) C mvX12_158 (sX12_codes hq0 h) hq0 (aj_np 1 (by decide +kernel) rfl) (Nat.le_of_ble_eq_true rfl) rfl dX12_readUnit_158 (fun r m15 h => ?_)
        obtain ⟨rfl, h⟩ := h
        exact aj_vret C K dX12_readUnit_161 ⟨rfl, h⟩
def wbX12_readUnit (f : Nat) (Φ : aj_M → Prop) (R : Nat → (aj_M → Prop) → List Nat → Int → aj_M → Prop) (q0 : List Nat) (v1 : Int) (m : aj_M) : Prop := wX12_is f (fun z1 m1 => rI z1 ∧ (z1 = 0 → wX12_is f (fun z2 m2 => rI z2 ∧ (z2 = 0 → R 3 (fun m3 => wX12_is f (fun z4 m4 => rI z4 ∧ (z4 = 0 → wX12_is f (fun z5 m5 => rI z5 ∧ (z5 = 0 → hX12_readUnit_111 f Φ R q0 v1 3005 m5) ∧ (¬ (z5 = 0) → hX12_readUnit_111 f Φ R q0 v1 3004 m5)) q0 40 m4) ∧ (¬ (z4 = 0) → hX12_readUnit_111 f Φ R q0 v1 3003 m4)) q0 39 m3) q0 v1 m2) ∧ (¬ (z2 = 0) → wX12_goesIn f (fun z6 m6 => rI z6 ∧ (¬ z6 = 0 → R 0 (fun m7 => wX12_eats f (fun z8 m8 => rI z8 ∧ (¬ z8 = 0 → Φ m8) ∧ (z8 = 0 → wX12_fails f (fun m9 => Φ m9) q0 2 m8)) q0 38 m7) q0 (v1 + 1) m6) ∧ (z6 = 0 → Φ m6)) q0 v1 m2)) q0 37 m1) ∧ (¬ (z1 = 0) → wX12_goesIn f (fun z10 m10 => rI z10 ∧ (¬ z10 = 0 → R 2 (fun m11 => wX12_codes f (fun m12 => Φ m12) q0 3006 m11) q0 (v1 + 1) m10) ∧ (z10 = 0 → Φ m10)) q0 v1 m1)) q0 21 m
set_option maxHeartbeats 4000000 in
set_option maxRecDepth 100000 in
theorem sbX12_readUnit {n f : Nat} {Φ : aj_M → Prop} {R : Nat → (aj_M → Prop) → List Nat → Int → aj_M → Prop} (HR0 : ∀ (Φ : aj_M → Prop) (q0 : List Nat) (v1 : Int) (m : aj_M) (hq0 : (.inl (12, q0) : aj_R) ∈ aj_pls), R 0 Φ q0 v1 m → aj_Ct (n + 6) yX12_readTruth cX12_readTruth 2 none [vO 12 q0, vI v1] m (fun r m => r = none ∧ Φ m)) (HR1 : ∀ (Φ : aj_M → Prop) (q0 : List Nat) (v1 : Int) (m : aj_M) (hq0 : (.inl (12, q0) : aj_R) ∈ aj_pls), R 1 Φ q0 v1 m → aj_Ct (n + 6) yX12_readBoth cX12_readBoth 2 none [vO 12 q0, vI v1] m (fun r m => r = none ∧ Φ m)) (HR2 : ∀ (Φ : aj_M → Prop) (q0 : List Nat) (v1 : Int) (m : aj_M) (hq0 : (.inl (12, q0) : aj_R) ∈ aj_pls), R 2 Φ q0 v1 m → aj_Ct (n + 6) yX12_readUnit cX12_readUnit 3 none [vO 12 q0, vI v1] m (fun r m => r = none ∧ Φ m)) (HR3 : ∀ (Φ : aj_M → Prop) (q0 : List Nat) (v1 : Int) (m : aj_M) (hq0 : (.inl (12, q0) : aj_R) ∈ aj_pls), R 3 Φ q0 v1 m → aj_Ct (n + 6) yX12_readSum cX12_readSum 3 none [vO 12 q0, vI v1] m (fun r m => r = none ∧ Φ m)) (HR4 : ∀ (Φ : aj_M → Prop) (q0 : List Nat) (v1 : Int) (m : aj_M) (hq0 : (.inl (12, q0) : aj_R) ∈ aj_pls), R 4 Φ q0 v1 m → aj_Ct (n + 6) yX12_readTerm cX12_readTerm 2 none [vO 12 q0, vI v1] m (fun r m => r = none ∧ Φ m)) (HR5 : ∀ (Φ : aj_M → Prop) (q0 : List Nat) (v1 : Int) (m : aj_M) (hq0 : (.inl (12, q0) : aj_R) ∈ aj_pls), R 5 Φ q0 v1 m → aj_Ct (n + 6) yX12_readAtom cX12_readAtom 2 none [vO 12 q0, vI v1] m (fun r m => r = none ∧ Φ m)) (HR6 : ∀ (Φ : aj_M → Prop) (q0 : List Nat) (v1 : Int) (m : aj_M) (hq0 : (.inl (12, q0) : aj_R) ∈ aj_pls), R 6 Φ q0 v1 m → aj_Ct (n + 6) yX12_readIf cX12_readIf 2 none [vO 12 q0, vI v1] m (fun r m => r = none ∧ Φ m)) {q0 : List Nat} {v1 : Int} {m : aj_M} (hq0 : (.inl (12, q0) : aj_R) ∈ aj_pls) (h : wbX12_readUnit f Φ R q0 v1 m) : aj_Ct (n + 7) yX12_readUnit cX12_readUnit 3 none [vO 12 q0, vI v1] m (fun r m => r = none ∧ Φ m) := by
  refine aj_met (lv := [some (vO 12 q0), some (vI v1), none]) (by decide +kernel) rfl (Nat.le_of_ble_eq_true rfl) (fun X C K => ?_)
  unfold wbX12_readUnit at h
  refine aj_aload_n C dX12_readUnit_0 rfl ?_
  refine aj_bipush C dX12_readUnit_1 (by decide) ?_
  refine aj_callV (rest := []) C mvX12_144 (sX12_is hq0 h) hq0 (aj_np 1 (by decide +kernel) rfl) (Nat.le_of_ble_eq_true rfl) rfl dX12_readUnit_3 (fun r m1 h => ?_)
  obtain ⟨z1, rfl, h⟩ := h
  obtain ⟨r0, h1, h2⟩ := h
  refine aj_if_eq (tgt := 33) C dX12_readUnit_6 (by decide) r0 (fun e => ?_) (fun e => ?_)
  · have h := h1 e
    refine aj_aload_n C dX12_readUnit_33 rfl ?_
    refine aj_bipush C dX12_readUnit_34 (by decide) ?_
    refine aj_callV (rest := []) C mvX12_144 (sX12_is hq0 h) hq0 (aj_np 1 (by decide +kernel) rfl) (Nat.le_of_ble_eq_true rfl) rfl dX12_readUnit_36 (fun r m2 h => ?_)
    obtain ⟨z2, rfl, h⟩ := h
    obtain ⟨r0, h1, h2⟩ := h
    refine aj_if_eq (tgt := 73) C dX12_readUnit_39 (by decide) r0 (fun e => ?_) (fun e => ?_)
    · have h := h1 e
      refine aj_aload_n C dX12_readUnit_73 rfl ?_
      refine aj_iload_n C dX12_readUnit_74 rfl ?_
      refine aj_callV (rest := []) C mvX12_167 (HR3 _ q0 v1 _ hq0 h) hq0 (aj_np 1 (by decide +kernel) rfl) (Nat.le_of_ble_eq_true rfl) rfl dX12_readUnit_75 (fun r m3 h => ?_)
      obtain ⟨rfl, h⟩ := h
      refine aj_aload_n C dX12_readUnit_78 rfl ?_
      refine aj_bipush C dX12_readUnit_79 (by decide) ?_
      refine aj_callV (rest := []) C mvX12_144 (sX12_is hq0 h) hq0 (aj_np 1 (by decide +kernel) rfl) (Nat.le_of_ble_eq_true rfl) rfl dX12_readUnit_81 (fun r m4 h => ?_)
      obtain ⟨z4, rfl, h⟩ := h
      obtain ⟨r0, h1, h2⟩ := h
      refine aj_if_eq (tgt := 93) C dX12_readUnit_84 (by decide) r0 (fun e => ?_) (fun e => ?_)
      · have h := h1 e
        refine aj_aload_n C dX12_readUnit_93 rfl ?_
        refine aj_bipush C dX12_readUnit_94 (by decide) ?_
        refine aj_callV (rest := []) C mvX12_144 (sX12_is hq0 h) hq0 (aj_np 1 (by decide +kernel) rfl) (Nat.le_of_ble_eq_true rfl) rfl dX12_readUnit_96 (fun r m5 h => ?_)
        obtain ⟨z5, rfl, h⟩ := h
        obtain ⟨r0, h1, h2⟩ := h
        refine aj_if_eq (tgt := 108) C dX12_readUnit_99 (by decide) r0 (fun e => ?_) (fun e => ?_)
        · have h := h1 e
          refine aj_sipush C dX12_readUnit_108 (by decide) ?_
          exact tX12_readUnit_111 C K HR0 HR1 HR2 HR3 HR4 HR5 HR6 q0 v1 3005 _ hq0 h
        · have h := h2 e
          refine aj_sipush C dX12_readUnit_102 (by decide) ?_
          refine aj_goto (tgt := 111) C dX12_readUnit_105 (by decide) ?_
          exact tX12_readUnit_111 C K HR0 HR1 HR2 HR3 HR4 HR5 HR6 q0 v1 3004 _ hq0 h
      · have h := h2 e
        refine aj_sipush C dX12_readUnit_87 (by decide) ?_
        refine aj_goto (tgt := 111) C dX12_readUnit_90 (by decide) ?_
        exact tX12_readUnit_111 C K HR0 HR1 HR2 HR3 HR4 HR5 HR6 q0 v1 3003 _ hq0 h
    · have h := h2 e
      refine aj_aload_n C dX12_readUnit_42 rfl ?_
      refine aj_iload_n C dX12_readUnit_43 rfl ?_
      refine aj_callV (rest := []) C mvX12_164 (sX12_goesIn hq0 h) hq0 (aj_np 1 (by decide +kernel) rfl) (Nat.le_of_ble_eq_true rfl) rfl dX12_readUnit_44 (fun r m6 h => ?_)
      obtain ⟨z6, rfl, h⟩ := h
      obtain ⟨r0, h1, h2⟩ := h
      refine aj_if_ne (tgt := 51) C dX12_readUnit_47 (by decide) r0 (fun e => ?_) (fun e => ?_)
      · have h := h1 e
        refine aj_aload_n C dX12_readUnit_51 rfl ?_
        refine aj_iload_n C dX12_readUnit_52 rfl ?_
        refine aj_iconst C dX12_readUnit_53 ?_
        refine aj_iadd C dX12_readUnit_54 ?_
        refine aj_callV (rest := []) C mvX12_176 (HR0 _ q0 (v1 + 1) _ hq0 h) hq0 (aj_np 1 (by decide +kernel) rfl) (Nat.le_of_ble_eq_true rfl) rfl dX12_readUnit_55 (fun r m7 h => ?_)
        obtain ⟨rfl, h⟩ := h
        refine aj_aload_n C dX12_readUnit_58 rfl ?_
        refine aj_bipush C dX12_readUnit_59 (by decide) ?_
        refine aj_callV (rest := []) C mvX12_170 (sX12_eats hq0 h) hq0 (aj_np 1 (by decide +kernel) rfl) (Nat.le_of_ble_eq_true rfl) rfl dX12_readUnit_61 (fun r m8 h => ?_)
        obtain ⟨z8, rfl, h⟩ := h
        obtain ⟨r0, h1, h2⟩ := h
        refine aj_if_ne (tgt := 72) C dX12_readUnit_64 (by decide) r0 (fun e => ?_) (fun e => ?_)
        · have h := h1 e
          exact aj_vret C K dX12_readUnit_72 ⟨rfl, h⟩
        · have h := h2 e
          refine aj_aload_n C dX12_readUnit_67 rfl ?_
          refine aj_iconst C dX12_readUnit_68 ?_
          refine aj_callV (rest := []) C mvX12_150 (sX12_fails hq0 h) hq0 (aj_np 1 (by decide +kernel) rfl) (Nat.le_of_ble_eq_true rfl) rfl dX12_readUnit_69 (fun r m9 h => ?_)
          obtain ⟨rfl, h⟩ := h
          exact aj_vret C K dX12_readUnit_72 ⟨rfl, h⟩
      · have h := h2 e
        exact aj_vret C K dX12_readUnit_50 ⟨rfl, h⟩
  · have h := h2 e
    refine aj_aload_n C dX12_readUnit_9 rfl ?_
    refine aj_iload_n C dX12_readUnit_10 rfl ?_
    refine aj_callV (rest := []) C mvX12_164 (sX12_goesIn hq0 h) hq0 (aj_np 1 (by decide +kernel) rfl) (Nat.le_of_ble_eq_true rfl) rfl dX12_readUnit_11 (fun r m10 h => ?_)
    obtain ⟨z10, rfl, h⟩ := h
    obtain ⟨r0, h1, h2⟩ := h
    refine aj_if_ne (tgt := 18) C dX12_readUnit_14 (by decide) r0 (fun e => ?_) (fun e => ?_)
    · have h := h1 e
      refine aj_aload_n C dX12_readUnit_18 rfl ?_
      refine aj_iload_n C dX12_readUnit_19 rfl ?_
      refine aj_iconst C dX12_readUnit_20 ?_
      refine aj_iadd C dX12_readUnit_21 ?_
      refine aj_callV (rest := []) C mvX12_185 (HR2 _ q0 (v1 + 1) _ hq0 h) hq0 (aj_np 1 (by decide +kernel) rfl) (Nat.le_of_ble_eq_true rfl) rfl dX12_readUnit_22 (fun r m11 h => ?_)
      obtain ⟨rfl, h⟩ := h
      refine aj_aload_n C dX12_readUnit_25 rfl ?_
      refine aj_sipush C dX12_readUnit_26 (by decide) ?_
      refine aj_callV (rest := []) C mvX12_158 (sX12_codes hq0 h) hq0 (aj_np 1 (by decide +kernel) rfl) (Nat.le_of_ble_eq_true rfl) rfl dX12_readUnit_29 (fun r m12 h => ?_)
      obtain ⟨rfl, h⟩ := h
      exact aj_vret C K dX12_readUnit_32 ⟨rfl, h⟩
    · have h := h2 e
      exact aj_vret C K dX12_readUnit_17 ⟨rfl, h⟩
theorem dX12_readSum_0 : decode cX12_readSum 0 = .ok (.aload_n 0, 1) := by decide +kernel
theorem dX12_readSum_1 : decode cX12_readSum 1 = .ok (.iload_n 1, 1) := by decide +kernel
theorem dX12_readSum_2 : decode cX12_readSum 2 = .ok (.invokevirtual 182, 3) := by decide +kernel
theorem dX12_readSum_5 : decode cX12_readSum 5 = .ok (.aload_n 0, 1) := by decide +kernel
theorem dX12_readSum_6 : decode cX12_readSum 6 = .ok (.bipush 32, 2) := by decide +kernel
theorem dX12_readSum_8 : decode cX12_readSum 8 = .ok (.invokevirtual 144, 3) := by decide +kernel
theorem dX12_readSum_11 : decode cX12_readSum 11 = .ok (.ifCond .ne 12, 3) := by decide +kernel
theorem dX12_readSum_14 : decode cX12_readSum 14 = .ok (.aload_n 0, 1) := by decide +kernel
theorem dX12_readSum_15 : decode cX12_readSum 15 = .ok (.bipush 33, 2) := by decide +kernel
theorem dX12_readSum_17 : decode cX12_readSum 17 = .ok (.invokevirtual 144, 3) := by decide +kernel
theorem dX12_readSum_20 : decode cX12_readSum 20 = .ok (.ifCond .eq 39, 3) := by decide +kernel
theorem dX12_readSum_23 : decode cX12_readSum 23 = .ok (.aload_n 0, 1) := by decide +kernel
theorem dX12_readSum_24 : decode cX12_readSum 24 = .ok (.getfield 120, 3) := by decide +kernel
theorem dX12_readSum_27 : decode cX12_readSum 27 = .ok (.bipush 32, 2) := by decide +kernel
theorem dX12_readSum_29 : decode cX12_readSum 29 = .ok (.if_icmp .ne 9, 3) := by decide +kernel
theorem dX12_readSum_32 : decode cX12_readSum 32 = .ok (.sipush 3000, 3) := by decide +kernel
theorem dX12_readSum_35 : decode cX12_readSum 35 = .ok (.goto 6, 3) := by decide +kernel
theorem dX12_readSum_38 : decode cX12_readSum 38 = .ok (.sipush 3001, 3) := by decide +kernel
theorem dX12_readSum_41 : decode cX12_readSum 41 = .ok (.istore_n 2, 1) := by decide +kernel
theorem dX12_readSum_42 : decode cX12_readSum 42 = .ok (.aload_n 0, 1) := by decide +kernel
theorem dX12_readSum_43 : decode cX12_readSum 43 = .ok (.invokevirtual 147, 3) := by decide +kernel
theorem dX12_readSum_46 : decode cX12_readSum 46 = .ok (.aload_n 0, 1) := by decide +kernel
theorem dX12_readSum_47 : decode cX12_readSum 47 = .ok (.iload_n 1, 1) := by decide +kernel
theorem dX12_readSum_48 : decode cX12_readSum 48 = .ok (.invokevirtual 182, 3) := by decide +kernel
theorem dX12_readSum_51 : decode cX12_readSum 51 = .ok (.aload_n 0, 1) := by decide +kernel
theorem dX12_readSum_52 : decode cX12_readSum 52 = .ok (.iload_n 2, 1) := by decide +kernel
theorem dX12_readSum_53 : decode cX12_readSum 53 = .ok (.invokevirtual 158, 3) := by decide +kernel
theorem dX12_readSum_56 : decode cX12_readSum 56 = .ok (.goto (-51), 3) := by decide +kernel
theorem dX12_readSum_59 : decode cX12_readSum 59 = .ok (.return_, 1) := by decide +kernel
def hX12_readSum_23 (f : Nat) (Φ : aj_M → Prop) (R : Nat → (aj_M → Prop) → List Nat → Int → aj_M → Prop) (K5 : List Nat → Int → aj_M → Prop) (q0 : List Nat) (v1 : Int) (m : aj_M) : Prop := rI (m q0 9) ∧ (¬ (m q0 9) = 32 → wX12_next f (fun m1 => R 4 (fun m2 => wX12_codes f (fun m3 => K5 q0 v1 m3) q0 3001 m2) q0 v1 m1) q0 m) ∧ ((m q0 9) = 32 → wX12_next f (fun m4 => R 4 (fun m5 => wX12_codes f (fun m6 => K5 q0 v1 m6) q0 3000 m5) q0 v1 m4) q0 m)
set_option maxHeartbeats 4000000 in
set_option maxRecDepth 100000 in
theorem tX12_readSum_23 {X : aj_T} {n f : Nat} {Φ : aj_M → Prop} (C : aj_Cx X cX12_readSum RX12 3 (n + 7)) (K : aj_Rt X none (fun r m => r = none ∧ Φ m)) {R : Nat → (aj_M → Prop) → List Nat → Int → aj_M → Prop} (HR0 : ∀ (Φ : aj_M → Prop) (q0 : List Nat) (v1 : Int) (m : aj_M) (hq0 : (.inl (12, q0) : aj_R) ∈ aj_pls), R 0 Φ q0 v1 m → aj_Ct (n + 6) yX12_readTruth cX12_readTruth 2 none [vO 12 q0, vI v1] m (fun r m => r = none ∧ Φ m)) (HR1 : ∀ (Φ : aj_M → Prop) (q0 : List Nat) (v1 : Int) (m : aj_M) (hq0 : (.inl (12, q0) : aj_R) ∈ aj_pls), R 1 Φ q0 v1 m → aj_Ct (n + 6) yX12_readBoth cX12_readBoth 2 none [vO 12 q0, vI v1] m (fun r m => r = none ∧ Φ m)) (HR2 : ∀ (Φ : aj_M → Prop) (q0 : List Nat) (v1 : Int) (m : aj_M) (hq0 : (.inl (12, q0) : aj_R) ∈ aj_pls), R 2 Φ q0 v1 m → aj_Ct (n + 6) yX12_readUnit cX12_readUnit 3 none [vO 12 q0, vI v1] m (fun r m => r = none ∧ Φ m)) (HR3 : ∀ (Φ : aj_M → Prop) (q0 : List Nat) (v1 : Int) (m : aj_M) (hq0 : (.inl (12, q0) : aj_R) ∈ aj_pls), R 3 Φ q0 v1 m → aj_Ct (n + 6) yX12_readSum cX12_readSum 3 none [vO 12 q0, vI v1] m (fun r m => r = none ∧ Φ m)) (HR4 : ∀ (Φ : aj_M → Prop) (q0 : List Nat) (v1 : Int) (m : aj_M) (hq0 : (.inl (12, q0) : aj_R) ∈ aj_pls), R 4 Φ q0 v1 m → aj_Ct (n + 6) yX12_readTerm cX12_readTerm 2 none [vO 12 q0, vI v1] m (fun r m => r = none ∧ Φ m)) (HR5 : ∀ (Φ : aj_M → Prop) (q0 : List Nat) (v1 : Int) (m : aj_M) (hq0 : (.inl (12, q0) : aj_R) ∈ aj_pls), R 5 Φ q0 v1 m → aj_Ct (n + 6) yX12_readAtom cX12_readAtom 2 none [vO 12 q0, vI v1] m (fun r m => r = none ∧ Φ m)) (HR6 : ∀ (Φ : aj_M → Prop) (q0 : List Nat) (v1 : Int) (m : aj_M) (hq0 : (.inl (12, q0) : aj_R) ∈ aj_pls), R 6 Φ q0 v1 m → aj_Ct (n + 6) yX12_readIf cX12_readIf 2 none [vO 12 q0, vI v1] m (fun r m => r = none ∧ Φ m)) {K5 : List Nat → Int → aj_M → Prop} (HK5 : ∀ (q0 : List Nat) (v1 : Int) (m : aj_M) (hq0 : (.inl (12, q0) : aj_R) ∈ aj_pls), K5 q0 v1 m → aj_J X 5 [some (vO 12 q0), some (vI v1), none] [] m) (q0 : List Nat) (v1 : Int) (m : aj_M) (hq0 : (.inl (12, q0) : aj_R) ∈ aj_pls) (h : hX12_readSum_23 f Φ R K5 q0 v1 m) : aj_J X 23 [some (vO 12 q0), some (vI v1), none] [] m := by
  unfold hX12_readSum_23 at h
  refine aj_aload_n C dX12_readSum_23 rfl ?_
  refine aj_getI C flX12_120 hq0 (by decide) dX12_readSum_24 rfl ?_
  refine aj_bipush C dX12_readSum_27 (by decide) ?_
  obtain ⟨r0, h1, h2⟩ := h
  refine aj_icmp_ne (tgt := 38) C dX12_readSum_29 (by decide) r0 (by decide) (fun e => ?_) (fun e => ?_)
  · have h := h1 e
    refine aj_sipush C dX12_readSum_38 (by decide) ?_
    refine aj_istore_n (lv' := [some (vO 12 q0), some (vI v1), some (vI 3001)]) C dX12_readSum_41 (by decide) rfl ?_
    refine aj_aload_n C dX12_readSum_42 rfl ?_
    refine aj_callV (rest := []) C mvX12_147 (sX12_next hq0 h) hq0 (aj_np 0 (by decide +kernel) rfl) (Nat.le_of_ble_eq_true rfl) rfl dX12_readSum_43 (fun r m1 h => ?_)
    obtain ⟨rfl, h⟩ := h
    refine aj_aload_n C dX12_readSum_46 rfl ?_
    refine aj_iload_n C dX12_readSum_47 rfl ?_
    refine aj_callV (rest := []) C mvX12_182 (HR4 _ q0 v1 _ hq0 h) hq0 (aj_np 1 (by decide +kernel) rfl) (Nat.le_of_ble_eq_true rfl) rfl dX12_readSum_48 (fun r m2 h => ?_)
    obtain ⟨rfl, h⟩ := h
    refine aj_aload_n C dX12_readSum_51 rfl ?_
    refine aj_iload_n C dX12_readSum_52 rfl ?_
    refine aj_callV (rest := []) C mvX12_158 (sX12_codes hq0 h) hq0 (aj_np 1 (by decide +kernel) rfl) (Nat.le_of_ble_eq_true rfl) rfl dX12_readSum_53 (fun r m3 h => ?_)
    obtain ⟨rfl, h⟩ := h
    refine aj_goto (tgt := 5) C dX12_readSum_56 (by decide) ?_
    refine aj_wk (lv' := [some (vO 12 q0), some (vI v1), none]) (⟨rfl, ⟨rfl, trivial⟩⟩) ?_
    exact HK5 q0 v1 _ hq0 h
  · have h := h2 e
    refine aj_sipush C dX12_readSum_32 (by decide) ?_
    refine aj_goto (tgt := 41) C dX12_readSum_35 (by decide) ?_
    refine aj_istore_n (lv' := [some (vO 12 q0), some (vI v1), some (vI 3000)]) C dX12_readSum_41 (by decide) rfl ?_
    refine aj_aload_n C dX12_readSum_42 rfl ?_
    refine aj_callV (rest := []) C mvX12_147 (sX12_next hq0 h) hq0 (aj_np 0 (by decide +kernel) rfl) (Nat.le_of_ble_eq_true rfl) rfl dX12_readSum_43 (fun r m4 h => ?_)
    obtain ⟨rfl, h⟩ := h
    refine aj_aload_n C dX12_readSum_46 rfl ?_
    refine aj_iload_n C dX12_readSum_47 rfl ?_
    refine aj_callV (rest := []) C mvX12_182 (HR4 _ q0 v1 _ hq0 h) hq0 (aj_np 1 (by decide +kernel) rfl) (Nat.le_of_ble_eq_true rfl) rfl dX12_readSum_48 (fun r m5 h => ?_)
    obtain ⟨rfl, h⟩ := h
    refine aj_aload_n C dX12_readSum_51 rfl ?_
    refine aj_iload_n C dX12_readSum_52 rfl ?_
    refine aj_callV (rest := []) C mvX12_158 (sX12_codes hq0 h) hq0 (aj_np 1 (by decide +kernel) rfl) (Nat.le_of_ble_eq_true rfl) rfl dX12_readSum_53 (fun r m6 h => ?_)
    obtain ⟨rfl, h⟩ := h
    refine aj_goto (tgt := 5) C dX12_readSum_56 (by decide) ?_
    refine aj_wk (lv' := [some (vO 12 q0), some (vI v1), none]) (⟨rfl, ⟨rfl, trivial⟩⟩) ?_
    exact HK5 q0 v1 _ hq0 h
def hX12_readSum_5 (f : Nat) (Φ : aj_M → Prop) (R : Nat → (aj_M → Prop) → List Nat → Int → aj_M → Prop) : Nat → List Nat → Int → aj_M → Prop
  | 0, _, _, _ => False
  | k + 1, q0, v1, m => wX12_is f (fun z1 m1 => rI z1 ∧ (¬ z1 = 0 → hX12_readSum_23 f Φ R (fun q0 v1 m => hX12_readSum_5 f Φ R k q0 v1 m) q0 v1 m1) ∧ (z1 = 0 → wX12_is f (fun z2 m2 => rI z2 ∧ (z2 = 0 → Φ m2) ∧ (¬ (z2 = 0) → hX12_readSum_23 f Φ R (fun q0 v1 m => hX12_readSum_5 f Φ R k q0 v1 m) q0 v1 m2)) q0 33 m1)) q0 32 m
set_option maxHeartbeats 4000000 in
set_option maxRecDepth 100000 in
theorem tX12_readSum_5 {X : aj_T} {n f : Nat} {Φ : aj_M → Prop} (C : aj_Cx X cX12_readSum RX12 3 (n + 7)) (K : aj_Rt X none (fun r m => r = none ∧ Φ m)) {R : Nat → (aj_M → Prop) → List Nat → Int → aj_M → Prop} (HR0 : ∀ (Φ : aj_M → Prop) (q0 : List Nat) (v1 : Int) (m : aj_M) (hq0 : (.inl (12, q0) : aj_R) ∈ aj_pls), R 0 Φ q0 v1 m → aj_Ct (n + 6) yX12_readTruth cX12_readTruth 2 none [vO 12 q0, vI v1] m (fun r m => r = none ∧ Φ m)) (HR1 : ∀ (Φ : aj_M → Prop) (q0 : List Nat) (v1 : Int) (m : aj_M) (hq0 : (.inl (12, q0) : aj_R) ∈ aj_pls), R 1 Φ q0 v1 m → aj_Ct (n + 6) yX12_readBoth cX12_readBoth 2 none [vO 12 q0, vI v1] m (fun r m => r = none ∧ Φ m)) (HR2 : ∀ (Φ : aj_M → Prop) (q0 : List Nat) (v1 : Int) (m : aj_M) (hq0 : (.inl (12, q0) : aj_R) ∈ aj_pls), R 2 Φ q0 v1 m → aj_Ct (n + 6) yX12_readUnit cX12_readUnit 3 none [vO 12 q0, vI v1] m (fun r m => r = none ∧ Φ m)) (HR3 : ∀ (Φ : aj_M → Prop) (q0 : List Nat) (v1 : Int) (m : aj_M) (hq0 : (.inl (12, q0) : aj_R) ∈ aj_pls), R 3 Φ q0 v1 m → aj_Ct (n + 6) yX12_readSum cX12_readSum 3 none [vO 12 q0, vI v1] m (fun r m => r = none ∧ Φ m)) (HR4 : ∀ (Φ : aj_M → Prop) (q0 : List Nat) (v1 : Int) (m : aj_M) (hq0 : (.inl (12, q0) : aj_R) ∈ aj_pls), R 4 Φ q0 v1 m → aj_Ct (n + 6) yX12_readTerm cX12_readTerm 2 none [vO 12 q0, vI v1] m (fun r m => r = none ∧ Φ m)) (HR5 : ∀ (Φ : aj_M → Prop) (q0 : List Nat) (v1 : Int) (m : aj_M) (hq0 : (.inl (12, q0) : aj_R) ∈ aj_pls), R 5 Φ q0 v1 m → aj_Ct (n + 6) yX12_readAtom cX12_readAtom 2 none [vO 12 q0, vI v1] m (fun r m => r = none ∧ Φ m)) (HR6 : ∀ (Φ : aj_M → Prop) (q0 : List Nat) (v1 : Int) (m : aj_M) (hq0 : (.inl (12, q0) : aj_R) ∈ aj_pls), R 6 Φ q0 v1 m → aj_Ct (n + 6) yX12_readIf cX12_readIf 2 none [vO 12 q0, vI v1] m (fun r m => r = none ∧ Φ m)) : ∀ (k : Nat) (q0 : List Nat) (v1 : Int) (m : aj_M) (hq0 : (.inl (12, q0) : aj_R) ∈ aj_pls), hX12_readSum_5 f Φ R k q0 v1 m → aj_J X 5 [some (vO 12 q0), some (vI v1), none] [] m := by
  intro k
  induction k with
  | zero =>
    intro q0 v1 m _ h
    exact h.elim
  | succ k ih =>
    intro q0 v1 m hq0 h
    unfold hX12_readSum_5 at h
    refine aj_aload_n C dX12_readSum_5 rfl ?_
    refine aj_bipush C dX12_readSum_6 (by decide) ?_
    refine aj_callV (rest := []) C mvX12_144 (sX12_is hq0 h) hq0 (aj_np 1 (by decide +kernel) rfl) (Nat.le_of_ble_eq_true rfl) rfl dX12_readSum_8 (fun r m1 h => ?_)
    obtain ⟨z1, rfl, h⟩ := h
    obtain ⟨r0, h1, h2⟩ := h
    refine aj_if_ne (tgt := 23) C dX12_readSum_11 (by decide) r0 (fun e => ?_) (fun e => ?_)
    · have h := h1 e
      exact tX12_readSum_23 C K HR0 HR1 HR2 HR3 HR4 HR5 HR6 (fun q0 v1 m hq0 hh => ih q0 v1 m hq0 hh) q0 v1 _ hq0 h
    · have h := h2 e
      refine aj_aload_n C dX12_readSum_14 rfl ?_
      refine aj_bipush C dX12_readSum_15 (by decide) ?_
      refine aj_callV (rest := []) C mvX12_144 (sX12_is hq0 h) hq0 (aj_np 1 (by decide +kernel) rfl) (Nat.le_of_ble_eq_true rfl) rfl dX12_readSum_17 (fun r m2 h => ?_)
      obtain ⟨z2, rfl, h⟩ := h
      obtain ⟨r0, h1, h2⟩ := h
      refine aj_if_eq (tgt := 59) C dX12_readSum_20 (by decide) r0 (fun e => ?_) (fun e => ?_)
      · have h := h1 e
        exact aj_vret C K dX12_readSum_59 ⟨rfl, h⟩
      · have h := h2 e
        exact tX12_readSum_23 C K HR0 HR1 HR2 HR3 HR4 HR5 HR6 (fun q0 v1 m hq0 hh => ih q0 v1 m hq0 hh) q0 v1 _ hq0 h
def wbX12_readSum (f : Nat) (Φ : aj_M → Prop) (R : Nat → (aj_M → Prop) → List Nat → Int → aj_M → Prop) (q0 : List Nat) (v1 : Int) (m : aj_M) : Prop := R 4 (fun m1 => hX12_readSum_5 f Φ R f q0 v1 m1) q0 v1 m
set_option maxHeartbeats 4000000 in
set_option maxRecDepth 100000 in
theorem sbX12_readSum {n f : Nat} {Φ : aj_M → Prop} {R : Nat → (aj_M → Prop) → List Nat → Int → aj_M → Prop} (HR0 : ∀ (Φ : aj_M → Prop) (q0 : List Nat) (v1 : Int) (m : aj_M) (hq0 : (.inl (12, q0) : aj_R) ∈ aj_pls), R 0 Φ q0 v1 m → aj_Ct (n + 6) yX12_readTruth cX12_readTruth 2 none [vO 12 q0, vI v1] m (fun r m => r = none ∧ Φ m)) (HR1 : ∀ (Φ : aj_M → Prop) (q0 : List Nat) (v1 : Int) (m : aj_M) (hq0 : (.inl (12, q0) : aj_R) ∈ aj_pls), R 1 Φ q0 v1 m → aj_Ct (n + 6) yX12_readBoth cX12_readBoth 2 none [vO 12 q0, vI v1] m (fun r m => r = none ∧ Φ m)) (HR2 : ∀ (Φ : aj_M → Prop) (q0 : List Nat) (v1 : Int) (m : aj_M) (hq0 : (.inl (12, q0) : aj_R) ∈ aj_pls), R 2 Φ q0 v1 m → aj_Ct (n + 6) yX12_readUnit cX12_readUnit 3 none [vO 12 q0, vI v1] m (fun r m => r = none ∧ Φ m)) (HR3 : ∀ (Φ : aj_M → Prop) (q0 : List Nat) (v1 : Int) (m : aj_M) (hq0 : (.inl (12, q0) : aj_R) ∈ aj_pls), R 3 Φ q0 v1 m → aj_Ct (n + 6) yX12_readSum cX12_readSum 3 none [vO 12 q0, vI v1] m (fun r m => r = none ∧ Φ m)) (HR4 : ∀ (Φ : aj_M → Prop) (q0 : List Nat) (v1 : Int) (m : aj_M) (hq0 : (.inl (12, q0) : aj_R) ∈ aj_pls), R 4 Φ q0 v1 m → aj_Ct (n + 6) yX12_readTerm cX12_readTerm 2 none [vO 12 q0, vI v1] m (fun r m => r = none ∧ Φ m)) (HR5 : ∀ (Φ : aj_M → Prop) (q0 : List Nat) (v1 : Int) (m : aj_M) (hq0 : (.inl (12, q0) : aj_R) ∈ aj_pls), R 5 Φ q0 v1 m → aj_Ct (n + 6) yX12_readAtom cX12_readAtom 2 none [vO 12 q0, vI v1] m (fun r m => r = none ∧ Φ m)) (HR6 : ∀ (Φ : aj_M → Prop) (q0 : List Nat) (v1 : Int) (m : aj_M) (hq0 : (.inl (12, q0) : aj_R) ∈ aj_pls), R 6 Φ q0 v1 m → aj_Ct (n + 6) yX12_readIf cX12_readIf 2 none [vO 12 q0, vI v1] m (fun r m => r = none ∧ Φ m)) {q0 : List Nat} {v1 : Int} {m : aj_M} (hq0 : (.inl (12, q0) : aj_R) ∈ aj_pls) (h : wbX12_readSum f Φ R q0 v1 m) : aj_Ct (n + 7) yX12_readSum cX12_readSum 3 none [vO 12 q0, vI v1] m (fun r m => r = none ∧ Φ m) := by
  refine aj_met (lv := [some (vO 12 q0), some (vI v1), none]) (by decide +kernel) rfl (Nat.le_of_ble_eq_true rfl) (fun X C K => ?_)
  unfold wbX12_readSum at h
  refine aj_aload_n C dX12_readSum_0 rfl ?_
  refine aj_iload_n C dX12_readSum_1 rfl ?_
  refine aj_callV (rest := []) C mvX12_182 (HR4 _ q0 v1 _ hq0 h) hq0 (aj_np 1 (by decide +kernel) rfl) (Nat.le_of_ble_eq_true rfl) rfl dX12_readSum_2 (fun r m1 h => ?_)
  obtain ⟨rfl, h⟩ := h
  exact tX12_readSum_5 C K HR0 HR1 HR2 HR3 HR4 HR5 HR6 f q0 v1 _ hq0 h
theorem dX12_readTerm_0 : decode cX12_readTerm 0 = .ok (.aload_n 0, 1) := by decide +kernel
theorem dX12_readTerm_1 : decode cX12_readTerm 1 = .ok (.iload_n 1, 1) := by decide +kernel
theorem dX12_readTerm_2 : decode cX12_readTerm 2 = .ok (.invokevirtual 179, 3) := by decide +kernel
theorem dX12_readTerm_5 : decode cX12_readTerm 5 = .ok (.aload_n 0, 1) := by decide +kernel
theorem dX12_readTerm_6 : decode cX12_readTerm 6 = .ok (.bipush 34, 2) := by decide +kernel
theorem dX12_readTerm_8 : decode cX12_readTerm 8 = .ok (.invokevirtual 170, 3) := by decide +kernel
theorem dX12_readTerm_11 : decode cX12_readTerm 11 = .ok (.ifCond .eq 18, 3) := by decide +kernel
theorem dX12_readTerm_14 : decode cX12_readTerm 14 = .ok (.aload_n 0, 1) := by decide +kernel
theorem dX12_readTerm_15 : decode cX12_readTerm 15 = .ok (.iload_n 1, 1) := by decide +kernel
theorem dX12_readTerm_16 : decode cX12_readTerm 16 = .ok (.invokevirtual 179, 3) := by decide +kernel
theorem dX12_readTerm_19 : decode cX12_readTerm 19 = .ok (.aload_n 0, 1) := by decide +kernel
theorem dX12_readTerm_20 : decode cX12_readTerm 20 = .ok (.sipush 3002, 3) := by decide +kernel
theorem dX12_readTerm_23 : decode cX12_readTerm 23 = .ok (.invokevirtual 158, 3) := by decide +kernel
theorem dX12_readTerm_26 : decode cX12_readTerm 26 = .ok (.goto (-21), 3) := by decide +kernel
theorem dX12_readTerm_29 : decode cX12_readTerm 29 = .ok (.return_, 1) := by decide +kernel
def hX12_readTerm_5 (f : Nat) (Φ : aj_M → Prop) (R : Nat → (aj_M → Prop) → List Nat → Int → aj_M → Prop) : Nat → List Nat → Int → aj_M → Prop
  | 0, _, _, _ => False
  | k + 1, q0, v1, m => wX12_eats f (fun z1 m1 => rI z1 ∧ (z1 = 0 → Φ m1) ∧ (¬ (z1 = 0) → R 5 (fun m2 => wX12_codes f (fun m3 => hX12_readTerm_5 f Φ R k q0 v1 m3) q0 3002 m2) q0 v1 m1)) q0 34 m
set_option maxHeartbeats 4000000 in
set_option maxRecDepth 100000 in
theorem tX12_readTerm_5 {X : aj_T} {n f : Nat} {Φ : aj_M → Prop} (C : aj_Cx X cX12_readTerm RX12 2 (n + 7)) (K : aj_Rt X none (fun r m => r = none ∧ Φ m)) {R : Nat → (aj_M → Prop) → List Nat → Int → aj_M → Prop} (HR0 : ∀ (Φ : aj_M → Prop) (q0 : List Nat) (v1 : Int) (m : aj_M) (hq0 : (.inl (12, q0) : aj_R) ∈ aj_pls), R 0 Φ q0 v1 m → aj_Ct (n + 6) yX12_readTruth cX12_readTruth 2 none [vO 12 q0, vI v1] m (fun r m => r = none ∧ Φ m)) (HR1 : ∀ (Φ : aj_M → Prop) (q0 : List Nat) (v1 : Int) (m : aj_M) (hq0 : (.inl (12, q0) : aj_R) ∈ aj_pls), R 1 Φ q0 v1 m → aj_Ct (n + 6) yX12_readBoth cX12_readBoth 2 none [vO 12 q0, vI v1] m (fun r m => r = none ∧ Φ m)) (HR2 : ∀ (Φ : aj_M → Prop) (q0 : List Nat) (v1 : Int) (m : aj_M) (hq0 : (.inl (12, q0) : aj_R) ∈ aj_pls), R 2 Φ q0 v1 m → aj_Ct (n + 6) yX12_readUnit cX12_readUnit 3 none [vO 12 q0, vI v1] m (fun r m => r = none ∧ Φ m)) (HR3 : ∀ (Φ : aj_M → Prop) (q0 : List Nat) (v1 : Int) (m : aj_M) (hq0 : (.inl (12, q0) : aj_R) ∈ aj_pls), R 3 Φ q0 v1 m → aj_Ct (n + 6) yX12_readSum cX12_readSum 3 none [vO 12 q0, vI v1] m (fun r m => r = none ∧ Φ m)) (HR4 : ∀ (Φ : aj_M → Prop) (q0 : List Nat) (v1 : Int) (m : aj_M) (hq0 : (.inl (12, q0) : aj_R) ∈ aj_pls), R 4 Φ q0 v1 m → aj_Ct (n + 6) yX12_readTerm cX12_readTerm 2 none [vO 12 q0, vI v1] m (fun r m => r = none ∧ Φ m)) (HR5 : ∀ (Φ : aj_M → Prop) (q0 : List Nat) (v1 : Int) (m : aj_M) (hq0 : (.inl (12, q0) : aj_R) ∈ aj_pls), R 5 Φ q0 v1 m → aj_Ct (n + 6) yX12_readAtom cX12_readAtom 2 none [vO 12 q0, vI v1] m (fun r m => r = none ∧ Φ m)) (HR6 : ∀ (Φ : aj_M → Prop) (q0 : List Nat) (v1 : Int) (m : aj_M) (hq0 : (.inl (12, q0) : aj_R) ∈ aj_pls), R 6 Φ q0 v1 m → aj_Ct (n + 6) yX12_readIf cX12_readIf 2 none [vO 12 q0, vI v1] m (fun r m => r = none ∧ Φ m)) : ∀ (k : Nat) (q0 : List Nat) (v1 : Int) (m : aj_M) (hq0 : (.inl (12, q0) : aj_R) ∈ aj_pls), hX12_readTerm_5 f Φ R k q0 v1 m → aj_J X 5 [some (vO 12 q0), some (vI v1)] [] m := by
  intro k
  induction k with
  | zero =>
    intro q0 v1 m _ h
    exact h.elim
  | succ k ih =>
    intro q0 v1 m hq0 h
    unfold hX12_readTerm_5 at h
    refine aj_aload_n C dX12_readTerm_5 rfl ?_
    refine aj_bipush C dX12_readTerm_6 (by decide) ?_
    refine aj_callV (rest := []) C mvX12_170 (sX12_eats hq0 h) hq0 (aj_np 1 (by decide +kernel) rfl) (Nat.le_of_ble_eq_true rfl) rfl dX12_readTerm_8 (fun r m1 h => ?_)
    obtain ⟨z1, rfl, h⟩ := h
    obtain ⟨r0, h1, h2⟩ := h
    refine aj_if_eq (tgt := 29) C dX12_readTerm_11 (by decide) r0 (fun e => ?_) (fun e => ?_)
    · have h := h1 e
      exact aj_vret C K dX12_readTerm_29 ⟨rfl, h⟩
    · have h := h2 e
      refine aj_aload_n C dX12_readTerm_14 rfl ?_
      refine aj_iload_n C dX12_readTerm_15 rfl ?_
      refine aj_callV (rest := []) C mvX12_179 (HR5 _ q0 v1 _ hq0 h) hq0 (aj_np 1 (by decide +kernel) rfl) (Nat.le_of_ble_eq_true rfl) rfl dX12_readTerm_16 (fun r m2 h => ?_)
      obtain ⟨rfl, h⟩ := h
      refine aj_aload_n C dX12_readTerm_19 rfl ?_
      refine aj_sipush C dX12_readTerm_20 (by decide) ?_
      refine aj_callV (rest := []) C mvX12_158 (sX12_codes hq0 h) hq0 (aj_np 1 (by decide +kernel) rfl) (Nat.le_of_ble_eq_true rfl) rfl dX12_readTerm_23 (fun r m3 h => ?_)
      obtain ⟨rfl, h⟩ := h
      refine aj_goto (tgt := 5) C dX12_readTerm_26 (by decide) ?_
      exact ih q0 v1 _ hq0 h
def wbX12_readTerm (f : Nat) (Φ : aj_M → Prop) (R : Nat → (aj_M → Prop) → List Nat → Int → aj_M → Prop) (q0 : List Nat) (v1 : Int) (m : aj_M) : Prop := R 5 (fun m1 => hX12_readTerm_5 f Φ R f q0 v1 m1) q0 v1 m
set_option maxHeartbeats 4000000 in
set_option maxRecDepth 100000 in
theorem sbX12_readTerm {n f : Nat} {Φ : aj_M → Prop} {R : Nat → (aj_M → Prop) → List Nat → Int → aj_M → Prop} (HR0 : ∀ (Φ : aj_M → Prop) (q0 : List Nat) (v1 : Int) (m : aj_M) (hq0 : (.inl (12, q0) : aj_R) ∈ aj_pls), R 0 Φ q0 v1 m → aj_Ct (n + 6) yX12_readTruth cX12_readTruth 2 none [vO 12 q0, vI v1] m (fun r m => r = none ∧ Φ m)) (HR1 : ∀ (Φ : aj_M → Prop) (q0 : List Nat) (v1 : Int) (m : aj_M) (hq0 : (.inl (12, q0) : aj_R) ∈ aj_pls), R 1 Φ q0 v1 m → aj_Ct (n + 6) yX12_readBoth cX12_readBoth 2 none [vO 12 q0, vI v1] m (fun r m => r = none ∧ Φ m)) (HR2 : ∀ (Φ : aj_M → Prop) (q0 : List Nat) (v1 : Int) (m : aj_M) (hq0 : (.inl (12, q0) : aj_R) ∈ aj_pls), R 2 Φ q0 v1 m → aj_Ct (n + 6) yX12_readUnit cX12_readUnit 3 none [vO 12 q0, vI v1] m (fun r m => r = none ∧ Φ m)) (HR3 : ∀ (Φ : aj_M → Prop) (q0 : List Nat) (v1 : Int) (m : aj_M) (hq0 : (.inl (12, q0) : aj_R) ∈ aj_pls), R 3 Φ q0 v1 m → aj_Ct (n + 6) yX12_readSum cX12_readSum 3 none [vO 12 q0, vI v1] m (fun r m => r = none ∧ Φ m)) (HR4 : ∀ (Φ : aj_M → Prop) (q0 : List Nat) (v1 : Int) (m : aj_M) (hq0 : (.inl (12, q0) : aj_R) ∈ aj_pls), R 4 Φ q0 v1 m → aj_Ct (n + 6) yX12_readTerm cX12_readTerm 2 none [vO 12 q0, vI v1] m (fun r m => r = none ∧ Φ m)) (HR5 : ∀ (Φ : aj_M → Prop) (q0 : List Nat) (v1 : Int) (m : aj_M) (hq0 : (.inl (12, q0) : aj_R) ∈ aj_pls), R 5 Φ q0 v1 m → aj_Ct (n + 6) yX12_readAtom cX12_readAtom 2 none [vO 12 q0, vI v1] m (fun r m => r = none ∧ Φ m)) (HR6 : ∀ (Φ : aj_M → Prop) (q0 : List Nat) (v1 : Int) (m : aj_M) (hq0 : (.inl (12, q0) : aj_R) ∈ aj_pls), R 6 Φ q0 v1 m → aj_Ct (n + 6) yX12_readIf cX12_readIf 2 none [vO 12 q0, vI v1] m (fun r m => r = none ∧ Φ m)) {q0 : List Nat} {v1 : Int} {m : aj_M} (hq0 : (.inl (12, q0) : aj_R) ∈ aj_pls) (h : wbX12_readTerm f Φ R q0 v1 m) : aj_Ct (n + 7) yX12_readTerm cX12_readTerm 2 none [vO 12 q0, vI v1] m (fun r m => r = none ∧ Φ m) := by
  refine aj_met (lv := [some (vO 12 q0), some (vI v1)]) (by decide +kernel) rfl (Nat.le_of_ble_eq_true rfl) (fun X C K => ?_)
  unfold wbX12_readTerm at h
  refine aj_aload_n C dX12_readTerm_0 rfl ?_
  refine aj_iload_n C dX12_readTerm_1 rfl ?_
  refine aj_callV (rest := []) C mvX12_179 (HR5 _ q0 v1 _ hq0 h) hq0 (aj_np 1 (by decide +kernel) rfl) (Nat.le_of_ble_eq_true rfl) rfl dX12_readTerm_2 (fun r m1 h => ?_)
  obtain ⟨rfl, h⟩ := h
  exact tX12_readTerm_5 C K HR0 HR1 HR2 HR3 HR4 HR5 HR6 f q0 v1 _ hq0 h
theorem dX12_readAtom_0 : decode cX12_readAtom 0 = .ok (.aload_n 0, 1) := by decide +kernel
theorem dX12_readAtom_1 : decode cX12_readAtom 1 = .ok (.bipush 23, 2) := by decide +kernel
theorem dX12_readAtom_3 : decode cX12_readAtom 3 = .ok (.invokevirtual 144, 3) := by decide +kernel
theorem dX12_readAtom_6 : decode cX12_readAtom 6 = .ok (.ifCond .eq 18, 3) := by decide +kernel
theorem dX12_readAtom_9 : decode cX12_readAtom 9 = .ok (.aload_n 0, 1) := by decide +kernel
theorem dX12_readAtom_10 : decode cX12_readAtom 10 = .ok (.aload_n 0, 1) := by decide +kernel
theorem dX12_readAtom_11 : decode cX12_readAtom 11 = .ok (.getfield 133, 3) := by decide +kernel
theorem dX12_readAtom_14 : decode cX12_readAtom 14 = .ok (.invokevirtual 158, 3) := by decide +kernel
theorem dX12_readAtom_17 : decode cX12_readAtom 17 = .ok (.aload_n 0, 1) := by decide +kernel
theorem dX12_readAtom_18 : decode cX12_readAtom 18 = .ok (.invokevirtual 147, 3) := by decide +kernel
theorem dX12_readAtom_21 : decode cX12_readAtom 21 = .ok (.goto 107, 3) := by decide +kernel
theorem dX12_readAtom_24 : decode cX12_readAtom 24 = .ok (.aload_n 0, 1) := by decide +kernel
theorem dX12_readAtom_25 : decode cX12_readAtom 25 = .ok (.getfield 138, 3) := by decide +kernel
theorem dX12_readAtom_28 : decode cX12_readAtom 28 = .ok (.ifCond .ne 36, 3) := by decide +kernel
theorem dX12_readAtom_31 : decode cX12_readAtom 31 = .ok (.aload_n 0, 1) := by decide +kernel
theorem dX12_readAtom_32 : decode cX12_readAtom 32 = .ok (.getfield 120, 3) := by decide +kernel
theorem dX12_readAtom_35 : decode cX12_readAtom 35 = .ok (.invokestatic 161, 3) := by decide +kernel
theorem dX12_readAtom_38 : decode cX12_readAtom 38 = .ok (.iconst (-1), 1) := by decide +kernel
theorem dX12_readAtom_39 : decode cX12_readAtom 39 = .ok (.if_icmp .eq 25, 3) := by decide +kernel
theorem dX12_readAtom_42 : decode cX12_readAtom 42 = .ok (.aload_n 0, 1) := by decide +kernel
theorem dX12_readAtom_43 : decode cX12_readAtom 43 = .ok (.sipush 1000, 3) := by decide +kernel
theorem dX12_readAtom_46 : decode cX12_readAtom 46 = .ok (.aload_n 0, 1) := by decide +kernel
theorem dX12_readAtom_47 : decode cX12_readAtom 47 = .ok (.getfield 120, 3) := by decide +kernel
theorem dX12_readAtom_50 : decode cX12_readAtom 50 = .ok (.invokestatic 161, 3) := by decide +kernel
theorem dX12_readAtom_53 : decode cX12_readAtom 53 = .ok (.iadd, 1) := by decide +kernel
theorem dX12_readAtom_54 : decode cX12_readAtom 54 = .ok (.invokevirtual 158, 3) := by decide +kernel
theorem dX12_readAtom_57 : decode cX12_readAtom 57 = .ok (.aload_n 0, 1) := by decide +kernel
theorem dX12_readAtom_58 : decode cX12_readAtom 58 = .ok (.invokevirtual 147, 3) := by decide +kernel
theorem dX12_readAtom_61 : decode cX12_readAtom 61 = .ok (.goto 67, 3) := by decide +kernel
theorem dX12_readAtom_64 : decode cX12_readAtom 64 = .ok (.aload_n 0, 1) := by decide +kernel
theorem dX12_readAtom_65 : decode cX12_readAtom 65 = .ok (.bipush 35, 2) := by decide +kernel
theorem dX12_readAtom_67 : decode cX12_readAtom 67 = .ok (.invokevirtual 144, 3) := by decide +kernel
theorem dX12_readAtom_70 : decode cX12_readAtom 70 = .ok (.ifCond .eq 36, 3) := by decide +kernel
theorem dX12_readAtom_73 : decode cX12_readAtom 73 = .ok (.aload_n 0, 1) := by decide +kernel
theorem dX12_readAtom_74 : decode cX12_readAtom 74 = .ok (.iload_n 1, 1) := by decide +kernel
theorem dX12_readAtom_75 : decode cX12_readAtom 75 = .ok (.invokevirtual 164, 3) := by decide +kernel
theorem dX12_readAtom_78 : decode cX12_readAtom 78 = .ok (.ifCond .ne 4, 3) := by decide +kernel
theorem dX12_readAtom_81 : decode cX12_readAtom 81 = .ok (.return_, 1) := by decide +kernel
theorem dX12_readAtom_82 : decode cX12_readAtom 82 = .ok (.aload_n 0, 1) := by decide +kernel
theorem dX12_readAtom_83 : decode cX12_readAtom 83 = .ok (.iload_n 1, 1) := by decide +kernel
theorem dX12_readAtom_84 : decode cX12_readAtom 84 = .ok (.iconst 1, 1) := by decide +kernel
theorem dX12_readAtom_85 : decode cX12_readAtom 85 = .ok (.iadd, 1) := by decide +kernel
theorem dX12_readAtom_86 : decode cX12_readAtom 86 = .ok (.invokevirtual 167, 3) := by decide +kernel
theorem dX12_readAtom_89 : decode cX12_readAtom 89 = .ok (.aload_n 0, 1) := by decide +kernel
theorem dX12_readAtom_90 : decode cX12_readAtom 90 = .ok (.bipush 36, 2) := by decide +kernel
theorem dX12_readAtom_92 : decode cX12_readAtom 92 = .ok (.invokevirtual 170, 3) := by decide +kernel
theorem dX12_readAtom_95 : decode cX12_readAtom 95 = .ok (.ifCond .ne 33, 3) := by decide +kernel
theorem dX12_readAtom_98 : decode cX12_readAtom 98 = .ok (.aload_n 0, 1) := by decide +kernel
theorem dX12_readAtom_99 : decode cX12_readAtom 99 = .ok (.iconst 2, 1) := by decide +kernel
theorem dX12_readAtom_100 : decode cX12_readAtom 100 = .ok (.invokevirtual 150, 3) := by decide +kernel
theorem dX12_readAtom_103 : decode cX12_readAtom 103 = .ok (.goto 25, 3) := by decide +kernel
theorem dX12_readAtom_106 : decode cX12_readAtom 106 = .ok (.aload_n 0, 1) := by decide +kernel
theorem dX12_readAtom_107 : decode cX12_readAtom 107 = .ok (.bipush 12, 2) := by decide +kernel
theorem dX12_readAtom_109 : decode cX12_readAtom 109 = .ok (.invokevirtual 144, 3) := by decide +kernel
theorem dX12_readAtom_112 : decode cX12_readAtom 112 = .ok (.ifCond .eq 11, 3) := by decide +kernel
theorem dX12_readAtom_115 : decode cX12_readAtom 115 = .ok (.aload_n 0, 1) := by decide +kernel
theorem dX12_readAtom_116 : decode cX12_readAtom 116 = .ok (.iload_n 1, 1) := by decide +kernel
theorem dX12_readAtom_117 : decode cX12_readAtom 117 = .ok (.invokevirtual 173, 3) := by decide +kernel
theorem dX12_readAtom_120 : decode cX12_readAtom 120 = .ok (.goto 8, 3) := by decide +kernel
theorem dX12_readAtom_123 : decode cX12_readAtom 123 = .ok (.aload_n 0, 1) := by decide +kernel
theorem dX12_readAtom_124 : decode cX12_readAtom 124 = .ok (.iconst 2, 1) := by decide +kernel
theorem dX12_readAtom_125 : decode cX12_readAtom 125 = .ok (.invokevirtual 150, 3) := by decide +kernel
theorem dX12_readAtom_128 : decode cX12_readAtom 128 = .ok (.return_, 1) := by decide +kernel
def hX12_readAtom_64 (f : Nat) (Φ : aj_M → Prop) (R : Nat → (aj_M → Prop) → List Nat → Int → aj_M → Prop) (q0 : List Nat) (v1 : Int) (m : aj_M) : Prop := wX12_is f (fun z1 m1 => rI z1 ∧ (z1 = 0 → wX12_is f (fun z2 m2 => rI z2 ∧ (z2 = 0 → wX12_fails f (fun m3 => Φ m3) q0 2 m2) ∧ (¬ (z2 = 0) → R 6 (fun m4 => Φ m4) q0 v1 m2)) q0 12 m1) ∧ (¬ (z1 = 0) → wX12_goesIn f (fun z5 m5 => rI z5 ∧ (¬ z5 = 0 → R 3 (fun m6 => wX12_eats f (fun z7 m7 => rI z7 ∧ (¬ z7 = 0 → Φ m7) ∧ (z7 = 0 → wX12_fails f (fun m8 => Φ m8) q0 2 m7)) q0 36 m6) q0 (v1 + 1) m5) ∧ (z5 = 0 → Φ m5)) q0 v1 m1)) q0 35 m
set_option maxHeartbeats 4000000 in
set_option maxRecDepth 100000 in
theorem tX12_readAtom_64 {X : aj_T} {n f : Nat} {Φ : aj_M → Prop} (C : aj_Cx X cX12_readAtom RX12 2 (n + 7)) (K : aj_Rt X none (fun r m => r = none ∧ Φ m)) {R : Nat → (aj_M → Prop) → List Nat → Int → aj_M → Prop} (HR0 : ∀ (Φ : aj_M → Prop) (q0 : List Nat) (v1 : Int) (m : aj_M) (hq0 : (.inl (12, q0) : aj_R) ∈ aj_pls), R 0 Φ q0 v1 m → aj_Ct (n + 6) yX12_readTruth cX12_readTruth 2 none [vO 12 q0, vI v1] m (fun r m => r = none ∧ Φ m)) (HR1 : ∀ (Φ : aj_M → Prop) (q0 : List Nat) (v1 : Int) (m : aj_M) (hq0 : (.inl (12, q0) : aj_R) ∈ aj_pls), R 1 Φ q0 v1 m → aj_Ct (n + 6) yX12_readBoth cX12_readBoth 2 none [vO 12 q0, vI v1] m (fun r m => r = none ∧ Φ m)) (HR2 : ∀ (Φ : aj_M → Prop) (q0 : List Nat) (v1 : Int) (m : aj_M) (hq0 : (.inl (12, q0) : aj_R) ∈ aj_pls), R 2 Φ q0 v1 m → aj_Ct (n + 6) yX12_readUnit cX12_readUnit 3 none [vO 12 q0, vI v1] m (fun r m => r = none ∧ Φ m)) (HR3 : ∀ (Φ : aj_M → Prop) (q0 : List Nat) (v1 : Int) (m : aj_M) (hq0 : (.inl (12, q0) : aj_R) ∈ aj_pls), R 3 Φ q0 v1 m → aj_Ct (n + 6) yX12_readSum cX12_readSum 3 none [vO 12 q0, vI v1] m (fun r m => r = none ∧ Φ m)) (HR4 : ∀ (Φ : aj_M → Prop) (q0 : List Nat) (v1 : Int) (m : aj_M) (hq0 : (.inl (12, q0) : aj_R) ∈ aj_pls), R 4 Φ q0 v1 m → aj_Ct (n + 6) yX12_readTerm cX12_readTerm 2 none [vO 12 q0, vI v1] m (fun r m => r = none ∧ Φ m)) (HR5 : ∀ (Φ : aj_M → Prop) (q0 : List Nat) (v1 : Int) (m : aj_M) (hq0 : (.inl (12, q0) : aj_R) ∈ aj_pls), R 5 Φ q0 v1 m → aj_Ct (n + 6) yX12_readAtom cX12_readAtom 2 none [vO 12 q0, vI v1] m (fun r m => r = none ∧ Φ m)) (HR6 : ∀ (Φ : aj_M → Prop) (q0 : List Nat) (v1 : Int) (m : aj_M) (hq0 : (.inl (12, q0) : aj_R) ∈ aj_pls), R 6 Φ q0 v1 m → aj_Ct (n + 6) yX12_readIf cX12_readIf 2 none [vO 12 q0, vI v1] m (fun r m => r = none ∧ Φ m)) (q0 : List Nat) (v1 : Int) (m : aj_M) (hq0 : (.inl (12, q0) : aj_R) ∈ aj_pls) (h : hX12_readAtom_64 f Φ R q0 v1 m) : aj_J X 64 [some (vO 12 q0), some (vI v1)] [] m := by
  unfold hX12_readAtom_64 at h
  refine aj_aload_n C dX12_readAtom_64 rfl ?_
  refine aj_bipush C dX12_readAtom_65 (by decide) ?_
  refine aj_callV (rest := []) C mvX12_144 (sX12_is hq0 h) hq0 (aj_np 1 (by decide +kernel) rfl) (Nat.le_of_ble_eq_true rfl) rfl dX12_readAtom_67 (fun r m1 h => ?_)
  obtain ⟨z1, rfl, h⟩ := h
  obtain ⟨r0, h1, h2⟩ := h
  refine aj_if_eq (tgt := 106) C dX12_readAtom_70 (by decide) r0 (fun e => ?_) (fun e => ?_)
  · have h := h1 e
    refine aj_aload_n C dX12_readAtom_106 rfl ?_
    refine aj_bipush C dX12_readAtom_107 (by decide) ?_
    refine aj_callV (rest := []) C mvX12_144 (sX12_is hq0 h) hq0 (aj_np 1 (by decide +kernel) rfl) (Nat.le_of_ble_eq_true rfl) rfl dX12_readAtom_109 (fun r m2 h => ?_)
    obtain ⟨z2, rfl, h⟩ := h
    obtain ⟨r0, h1, h2⟩ := h
    refine aj_if_eq (tgt := 123) C dX12_readAtom_112 (by decide) r0 (fun e => ?_) (fun e => ?_)
    · have h := h1 e
      refine aj_aload_n C dX12_readAtom_123 rfl ?_
      refine aj_iconst C dX12_readAtom_124 ?_
      refine aj_callV (rest := []) C mvX12_150 (sX12_fails hq0 h) hq0 (aj_np 1 (by decide +kernel) rfl) (Nat.le_of_ble_eq_true rfl) rfl dX12_readAtom_125 (fun r m3 h => ?_)
      obtain ⟨rfl, h⟩ := h
      exact aj_vret C K dX12_readAtom_128 ⟨rfl, h⟩
    · have h := h2 e
      refine aj_aload_n C dX12_readAtom_115 rfl ?_
      refine aj_iload_n C dX12_readAtom_116 rfl ?_
      refine aj_callV (rest := []) C mvX12_173 (HR6 _ q0 v1 _ hq0 h) hq0 (aj_np 1 (by decide +kernel) rfl) (Nat.le_of_ble_eq_true rfl) rfl dX12_readAtom_117 (fun r m4 h => ?_)
      obtain ⟨rfl, h⟩ := h
      refine aj_goto (tgt := 128) C dX12_readAtom_120 (by decide) ?_
      exact aj_vret C K dX12_readAtom_128 ⟨rfl, h⟩
  · have h := h2 e
    refine aj_aload_n C dX12_readAtom_73 rfl ?_
    refine aj_iload_n C dX12_readAtom_74 rfl ?_
    refine aj_callV (rest := []) C mvX12_164 (sX12_goesIn hq0 h) hq0 (aj_np 1 (by decide +kernel) rfl) (Nat.le_of_ble_eq_true rfl) rfl dX12_readAtom_75 (fun r m5 h => ?_)
    obtain ⟨z5, rfl, h⟩ := h
    obtain ⟨r0, h1, h2⟩ := h
    refine aj_if_ne (tgt := 82) C dX12_readAtom_78 (by decide) r0 (fun e => ?_) (fun e => ?_)
    · have h := h1 e
      refine aj_aload_n C dX12_readAtom_82 rfl ?_
      refine aj_iload_n C dX12_readAtom_83 rfl ?_
      refine aj_iconst C dX12_readAtom_84 ?_
      refine aj_iadd C dX12_readAtom_85 ?_
      refine aj_callV (rest := []) C mvX12_167 (HR3 _ q0 (v1 + 1) _ hq0 h) hq0 (aj_np 1 (by decide +kernel) rfl) (Nat.le_of_ble_eq_true rfl) rfl dX12_readAtom_86 (fun r m6 h => ?_)
      obtain ⟨rfl, h⟩ := h
      refine aj_aload_n C dX12_readAtom_89 rfl ?_
      refine aj_bipush C dX12_readAtom_90 (by decide) ?_
      refine aj_callV (rest := []) C mvX12_170 (sX12_eats hq0 h) hq0 (aj_np 1 (by decide +kernel) rfl) (Nat.le_of_ble_eq_true rfl) rfl dX12_readAtom_92 (fun r m7 h => ?_)
      obtain ⟨z7, rfl, h⟩ := h
      obtain ⟨r0, h1, h2⟩ := h
      refine aj_if_ne (tgt := 128) C dX12_readAtom_95 (by decide) r0 (fun e => ?_) (fun e => ?_)
      · have h := h1 e
        exact aj_vret C K dX12_readAtom_128 ⟨rfl, h⟩
      · have h := h2 e
        refine aj_aload_n C dX12_readAtom_98 rfl ?_
        refine aj_iconst C dX12_readAtom_99 ?_
        refine aj_callV (rest := []) C mvX12_150 (sX12_fails hq0 h) hq0 (aj_np 1 (by decide +kernel) rfl) (Nat.le_of_ble_eq_true rfl) rfl dX12_readAtom_100 (fun r m8 h => ?_)
        obtain ⟨rfl, h⟩ := h
        refine aj_goto (tgt := 128) C dX12_readAtom_103 (by decide) ?_
        exact aj_vret C K dX12_readAtom_128 ⟨rfl, h⟩
    · have h := h2 e
      exact aj_vret C K dX12_readAtom_81 ⟨rfl, h⟩
def wbX12_readAtom (f : Nat) (Φ : aj_M → Prop) (R : Nat → (aj_M → Prop) → List Nat → Int → aj_M → Prop) (q0 : List Nat) (v1 : Int) (m : aj_M) : Prop := wX12_is f (fun z1 m1 => rI z1 ∧ (z1 = 0 → rI (m1 q0 11) ∧ (¬ (m1 q0 11) = 0 → hX12_readAtom_64 f Φ R q0 v1 m1) ∧ ((m1 q0 11) = 0 → wX12_wordOf f (fun z2 m2 => rI z2 ∧ (z2 = (-1) → hX12_readAtom_64 f Φ R q0 v1 m2) ∧ (¬ (z2 = (-1)) → wX12_wordOf f (fun z3 m3 => wX12_codes f (fun m4 => wX12_next f (fun m5 => Φ m5) q0 m4) q0 (1000 + z3) m3) (m2 q0 9) m2)) (m1 q0 9) m1)) ∧ (¬ (z1 = 0) → wX12_codes f (fun m6 => wX12_next f (fun m7 => Φ m7) q0 m6) q0 (m1 q0 10) m1)) q0 23 m
set_option maxHeartbeats 4000000 in
set_option maxRecDepth 100000 in
theorem sbX12_readAtom {n f : Nat} {Φ : aj_M → Prop} {R : Nat → (aj_M → Prop) → List Nat → Int → aj_M → Prop} (HR0 : ∀ (Φ : aj_M → Prop) (q0 : List Nat) (v1 : Int) (m : aj_M) (hq0 : (.inl (12, q0) : aj_R) ∈ aj_pls), R 0 Φ q0 v1 m → aj_Ct (n + 6) yX12_readTruth cX12_readTruth 2 none [vO 12 q0, vI v1] m (fun r m => r = none ∧ Φ m)) (HR1 : ∀ (Φ : aj_M → Prop) (q0 : List Nat) (v1 : Int) (m : aj_M) (hq0 : (.inl (12, q0) : aj_R) ∈ aj_pls), R 1 Φ q0 v1 m → aj_Ct (n + 6) yX12_readBoth cX12_readBoth 2 none [vO 12 q0, vI v1] m (fun r m => r = none ∧ Φ m)) (HR2 : ∀ (Φ : aj_M → Prop) (q0 : List Nat) (v1 : Int) (m : aj_M) (hq0 : (.inl (12, q0) : aj_R) ∈ aj_pls), R 2 Φ q0 v1 m → aj_Ct (n + 6) yX12_readUnit cX12_readUnit 3 none [vO 12 q0, vI v1] m (fun r m => r = none ∧ Φ m)) (HR3 : ∀ (Φ : aj_M → Prop) (q0 : List Nat) (v1 : Int) (m : aj_M) (hq0 : (.inl (12, q0) : aj_R) ∈ aj_pls), R 3 Φ q0 v1 m → aj_Ct (n + 6) yX12_readSum cX12_readSum 3 none [vO 12 q0, vI v1] m (fun r m => r = none ∧ Φ m)) (HR4 : ∀ (Φ : aj_M → Prop) (q0 : List Nat) (v1 : Int) (m : aj_M) (hq0 : (.inl (12, q0) : aj_R) ∈ aj_pls), R 4 Φ q0 v1 m → aj_Ct (n + 6) yX12_readTerm cX12_readTerm 2 none [vO 12 q0, vI v1] m (fun r m => r = none ∧ Φ m)) (HR5 : ∀ (Φ : aj_M → Prop) (q0 : List Nat) (v1 : Int) (m : aj_M) (hq0 : (.inl (12, q0) : aj_R) ∈ aj_pls), R 5 Φ q0 v1 m → aj_Ct (n + 6) yX12_readAtom cX12_readAtom 2 none [vO 12 q0, vI v1] m (fun r m => r = none ∧ Φ m)) (HR6 : ∀ (Φ : aj_M → Prop) (q0 : List Nat) (v1 : Int) (m : aj_M) (hq0 : (.inl (12, q0) : aj_R) ∈ aj_pls), R 6 Φ q0 v1 m → aj_Ct (n + 6) yX12_readIf cX12_readIf 2 none [vO 12 q0, vI v1] m (fun r m => r = none ∧ Φ m)) {q0 : List Nat} {v1 : Int} {m : aj_M} (hq0 : (.inl (12, q0) : aj_R) ∈ aj_pls) (h : wbX12_readAtom f Φ R q0 v1 m) : aj_Ct (n + 7) yX12_readAtom cX12_readAtom 2 none [vO 12 q0, vI v1] m (fun r m => r = none ∧ Φ m) := by
  refine aj_met (lv := [some (vO 12 q0), some (vI v1)]) (by decide +kernel) rfl (Nat.le_of_ble_eq_true rfl) (fun X C K => ?_)
  unfold wbX12_readAtom at h
  refine aj_aload_n C dX12_readAtom_0 rfl ?_
  refine aj_bipush C dX12_readAtom_1 (by decide) ?_
  refine aj_callV (rest := []) C mvX12_144 (sX12_is hq0 h) hq0 (aj_np 1 (by decide +kernel) rfl) (Nat.le_of_ble_eq_true rfl) rfl dX12_readAtom_3 (fun r m1 h => ?_)
  obtain ⟨z1, rfl, h⟩ := h
  obtain ⟨r0, h1, h2⟩ := h
  refine aj_if_eq (tgt := 24) C dX12_readAtom_6 (by decide) r0 (fun e => ?_) (fun e => ?_)
  · have h := h1 e
    refine aj_aload_n C dX12_readAtom_24 rfl ?_
    refine aj_getI C flX12_138 hq0 (by decide) dX12_readAtom_25 rfl ?_
    obtain ⟨r0, h1, h2⟩ := h
    refine aj_if_ne (tgt := 64) C dX12_readAtom_28 (by decide) r0 (fun e => ?_) (fun e => ?_)
    · have h := h1 e
      exact tX12_readAtom_64 C K HR0 HR1 HR2 HR3 HR4 HR5 HR6 q0 v1 _ hq0 h
    · have h := h2 e
      refine aj_aload_n C dX12_readAtom_31 rfl ?_
      refine aj_getI C flX12_120 hq0 (by decide) dX12_readAtom_32 rfl ?_
      refine aj_callS (rest := []) C msX12_161 (sX12_wordOf  h) (aj_np 1 (by decide +kernel) rfl) (Nat.le_of_ble_eq_true rfl) rfl dX12_readAtom_35 (fun r m2 h => ?_)
      obtain ⟨z2, rfl, h⟩ := h
      refine aj_iconst C dX12_readAtom_38 ?_
      obtain ⟨r0, h1, h2⟩ := h
      refine aj_icmp_eq (tgt := 64) C dX12_readAtom_39 (by decide) r0 (by decide) (fun e => ?_) (fun e => ?_)
      · have h := h1 e
        exact tX12_readAtom_64 C K HR0 HR1 HR2 HR3 HR4 HR5 HR6 q0 v1 _ hq0 h
      · have h := h2 e
        refine aj_aload_n C dX12_readAtom_42 rfl ?_
        refine aj_sipush C dX12_readAtom_43 (by decide) ?_
        refine aj_aload_n C dX12_readAtom_46 rfl ?_
        refine aj_getI C flX12_120 hq0 (by decide) dX12_readAtom_47 rfl ?_
        refine aj_callS (rest := [vI 1000, vO 12 q0]) C msX12_161 (sX12_wordOf  h) (aj_np 1 (by decide +kernel) rfl) (Nat.le_of_ble_eq_true rfl) rfl dX12_readAtom_50 (fun r m3 h => ?_)
        obtain ⟨z3, rfl, h⟩ := h
        refine aj_iadd C dX12_readAtom_53 ?_
        refine aj_callV (rest := []) C mvX12_158 (sX12_codes hq0 h) hq0 (aj_np 1 (by decide +kernel) rfl) (Nat.le_of_ble_eq_true rfl) rfl dX12_readAtom_54 (fun r m4 h => ?_)
        obtain ⟨rfl, h⟩ := h
        refine aj_aload_n C dX12_readAtom_57 rfl ?_
        refine aj_callV (rest := []) C mvX12_147 (sX12_next hq0 h) hq0 (aj_np 0 (by decide +kernel) rfl) (Nat.le_of_ble_eq_true rfl) rfl dX12_readAtom_58 (fun r m5 h => ?_)
        obtain ⟨rfl, h⟩ := h
        refine aj_goto (tgt := 128) C dX12_readAtom_61 (by decide) ?_
        exact aj_vret C K dX12_readAtom_128 ⟨rfl, h⟩
  · have h := h2 e
    refine aj_aload_n C dX12_readAtom_9 rfl ?_
    refine aj_aload_n C dX12_readAtom_10 rfl ?_
    refine aj_getI C flX12_133 hq0 (by decide) dX12_readAtom_11 rfl ?_
    refine aj_callV (rest := []) C mvX12_158 (sX12_codes hq0 h) hq0 (aj_np 1 (by decide +kernel) rfl) (Nat.le_of_ble_eq_true rfl) rfl dX12_readAtom_14 (fun r m6 h => ?_)
    obtain ⟨rfl, h⟩ := h
    refine aj_aload_n C dX12_readAtom_17 rfl ?_
    refine aj_callV (rest := []) C mvX12_147 (sX12_next hq0 h) hq0 (aj_np 0 (by decide +kernel) rfl) (Nat.le_of_ble_eq_true rfl) rfl dX12_readAtom_18 (fun r m7 h => ?_)
    obtain ⟨rfl, h⟩ := h
    refine aj_goto (tgt := 128) C dX12_readAtom_21 (by decide) ?_
    exact aj_vret C K dX12_readAtom_128 ⟨rfl, h⟩
theorem dX12_readIf_0 : decode cX12_readIf 0 = .ok (.aload_n 0, 1) := by decide +kernel
theorem dX12_readIf_1 : decode cX12_readIf 1 = .ok (.iload_n 1, 1) := by decide +kernel
theorem dX12_readIf_2 : decode cX12_readIf 2 = .ok (.invokevirtual 164, 3) := by decide +kernel
theorem dX12_readIf_5 : decode cX12_readIf 5 = .ok (.ifCond .ne 4, 3) := by decide +kernel
theorem dX12_readIf_8 : decode cX12_readIf 8 = .ok (.return_, 1) := by decide +kernel
theorem dX12_readIf_9 : decode cX12_readIf 9 = .ok (.aload_n 0, 1) := by decide +kernel
theorem dX12_readIf_10 : decode cX12_readIf 10 = .ok (.iload_n 1, 1) := by decide +kernel
theorem dX12_readIf_11 : decode cX12_readIf 11 = .ok (.iconst 1, 1) := by decide +kernel
theorem dX12_readIf_12 : decode cX12_readIf 12 = .ok (.iadd, 1) := by decide +kernel
theorem dX12_readIf_13 : decode cX12_readIf 13 = .ok (.invokevirtual 176, 3) := by decide +kernel
theorem dX12_readIf_16 : decode cX12_readIf 16 = .ok (.aload_n 0, 1) := by decide +kernel
theorem dX12_readIf_17 : decode cX12_readIf 17 = .ok (.bipush 13, 2) := by decide +kernel
theorem dX12_readIf_19 : decode cX12_readIf 19 = .ok (.invokevirtual 170, 3) := by decide +kernel
theorem dX12_readIf_22 : decode cX12_readIf 22 = .ok (.ifCond .ne 8, 3) := by decide +kernel
theorem dX12_readIf_25 : decode cX12_readIf 25 = .ok (.aload_n 0, 1) := by decide +kernel
theorem dX12_readIf_26 : decode cX12_readIf 26 = .ok (.iconst 2, 1) := by decide +kernel
theorem dX12_readIf_27 : decode cX12_readIf 27 = .ok (.invokevirtual 150, 3) := by decide +kernel
theorem dX12_readIf_30 : decode cX12_readIf 30 = .ok (.aload_n 0, 1) := by decide +kernel
theorem dX12_readIf_31 : decode cX12_readIf 31 = .ok (.iload_n 1, 1) := by decide +kernel
theorem dX12_readIf_32 : decode cX12_readIf 32 = .ok (.iconst 1, 1) := by decide +kernel
theorem dX12_readIf_33 : decode cX12_readIf 33 = .ok (.iadd, 1) := by decide +kernel
theorem dX12_readIf_34 : decode cX12_readIf 34 = .ok (.invokevirtual 167, 3) := by decide +kernel
theorem dX12_readIf_37 : decode cX12_readIf 37 = .ok (.aload_n 0, 1) := by decide +kernel
theorem dX12_readIf_38 : decode cX12_readIf 38 = .ok (.bipush 14, 2) := by decide +kernel
theorem dX12_readIf_40 : decode cX12_readIf 40 = .ok (.invokevirtual 170, 3) := by decide +kernel
theorem dX12_readIf_43 : decode cX12_readIf 43 = .ok (.ifCond .ne 8, 3) := by decide +kernel
theorem dX12_readIf_46 : decode cX12_readIf 46 = .ok (.aload_n 0, 1) := by decide +kernel
theorem dX12_readIf_47 : decode cX12_readIf 47 = .ok (.iconst 2, 1) := by decide +kernel
theorem dX12_readIf_48 : decode cX12_readIf 48 = .ok (.invokevirtual 150, 3) := by decide +kernel
theorem dX12_readIf_51 : decode cX12_readIf 51 = .ok (.aload_n 0, 1) := by decide +kernel
theorem dX12_readIf_52 : decode cX12_readIf 52 = .ok (.iload_n 1, 1) := by decide +kernel
theorem dX12_readIf_53 : decode cX12_readIf 53 = .ok (.iconst 1, 1) := by decide +kernel
theorem dX12_readIf_54 : decode cX12_readIf 54 = .ok (.iadd, 1) := by decide +kernel
theorem dX12_readIf_55 : decode cX12_readIf 55 = .ok (.invokevirtual 167, 3) := by decide +kernel
theorem dX12_readIf_58 : decode cX12_readIf 58 = .ok (.aload_n 0, 1) := by decide +kernel
theorem dX12_readIf_59 : decode cX12_readIf 59 = .ok (.bipush 15, 2) := by decide +kernel
theorem dX12_readIf_61 : decode cX12_readIf 61 = .ok (.invokevirtual 170, 3) := by decide +kernel
theorem dX12_readIf_64 : decode cX12_readIf 64 = .ok (.ifCond .ne 8, 3) := by decide +kernel
theorem dX12_readIf_67 : decode cX12_readIf 67 = .ok (.aload_n 0, 1) := by decide +kernel
theorem dX12_readIf_68 : decode cX12_readIf 68 = .ok (.iconst 2, 1) := by decide +kernel
theorem dX12_readIf_69 : decode cX12_readIf 69 = .ok (.invokevirtual 150, 3) := by decide +kernel
theorem dX12_readIf_72 : decode cX12_readIf 72 = .ok (.aload_n 0, 1) := by decide +kernel
theorem dX12_readIf_73 : decode cX12_readIf 73 = .ok (.sipush 3009, 3) := by decide +kernel
theorem dX12_readIf_76 : decode cX12_readIf 76 = .ok (.invokevirtual 158, 3) := by decide +kernel
theorem dX12_readIf_79 : decode cX12_readIf 79 = .ok (.return_, 1) := by decide +kernel
def hX12_readIf_51 (f : Nat) (Φ : aj_M → Prop) (R : Nat → (aj_M → Prop) → List Nat → Int → aj_M → Prop) (q0 : List Nat) (v1 : Int) (m : aj_M) : Prop := R 3 (fun m1 => wX12_eats f (fun z2 m2 => rI z2 ∧ (¬ z2 = 0 → wX12_codes f (fun m3 => Φ m3) q0 3009 m2) ∧ (z2 = 0 → wX12_fails f (fun m4 => wX12_codes f (fun m5 => Φ m5) q0 3009 m4) q0 2 m2)) q0 15 m1) q0 (v1 + 1) m
set_option maxHeartbeats 4000000 in
set_option maxRecDepth 100000 in
theorem tX12_readIf_51 {X : aj_T} {n f : Nat} {Φ : aj_M → Prop} (C : aj_Cx X cX12_readIf RX12 2 (n + 7)) (K : aj_Rt X none (fun r m => r = none ∧ Φ m)) {R : Nat → (aj_M → Prop) → List Nat → Int → aj_M → Prop} (HR0 : ∀ (Φ : aj_M → Prop) (q0 : List Nat) (v1 : Int) (m : aj_M) (hq0 : (.inl (12, q0) : aj_R) ∈ aj_pls), R 0 Φ q0 v1 m → aj_Ct (n + 6) yX12_readTruth cX12_readTruth 2 none [vO 12 q0, vI v1] m (fun r m => r = none ∧ Φ m)) (HR1 : ∀ (Φ : aj_M → Prop) (q0 : List Nat) (v1 : Int) (m : aj_M) (hq0 : (.inl (12, q0) : aj_R) ∈ aj_pls), R 1 Φ q0 v1 m → aj_Ct (n + 6) yX12_readBoth cX12_readBoth 2 none [vO 12 q0, vI v1] m (fun r m => r = none ∧ Φ m)) (HR2 : ∀ (Φ : aj_M → Prop) (q0 : List Nat) (v1 : Int) (m : aj_M) (hq0 : (.inl (12, q0) : aj_R) ∈ aj_pls), R 2 Φ q0 v1 m → aj_Ct (n + 6) yX12_readUnit cX12_readUnit 3 none [vO 12 q0, vI v1] m (fun r m => r = none ∧ Φ m)) (HR3 : ∀ (Φ : aj_M → Prop) (q0 : List Nat) (v1 : Int) (m : aj_M) (hq0 : (.inl (12, q0) : aj_R) ∈ aj_pls), R 3 Φ q0 v1 m → aj_Ct (n + 6) yX12_readSum cX12_readSum 3 none [vO 12 q0, vI v1] m (fun r m => r = none ∧ Φ m)) (HR4 : ∀ (Φ : aj_M → Prop) (q0 : List Nat) (v1 : Int) (m : aj_M) (hq0 : (.inl (12, q0) : aj_R) ∈ aj_pls), R 4 Φ q0 v1 m → aj_Ct (n + 6) yX12_readTerm cX12_readTerm 2 none [vO 12 q0, vI v1] m (fun r m => r = none ∧ Φ m)) (HR5 : ∀ (Φ : aj_M → Prop) (q0 : List Nat) (v1 : Int) (m : aj_M) (hq0 : (.inl (12, q0) : aj_R) ∈ aj_pls), R 5 Φ q0 v1 m → aj_Ct (n + 6) yX12_readAtom cX12_readAtom 2 none [vO 12 q0, vI v1] m (fun r m => r = none ∧ Φ m)) (HR6 : ∀ (Φ : aj_M → Prop) (q0 : List Nat) (v1 : Int) (m : aj_M) (hq0 : (.inl (12, q0) : aj_R) ∈ aj_pls), R 6 Φ q0 v1 m → aj_Ct (n + 6) yX12_readIf cX12_readIf 2 none [vO 12 q0, vI v1] m (fun r m => r = none ∧ Φ m)) (q0 : List Nat) (v1 : Int) (m : aj_M) (hq0 : (.inl (12, q0) : aj_R) ∈ aj_pls) (h : hX12_readIf_51 f Φ R q0 v1 m) : aj_J X 51 [some (vO 12 q0), some (vI v1)] [] m := by
  unfold hX12_readIf_51 at h
  refine aj_aload_n C dX12_readIf_51 rfl ?_
  refine aj_iload_n C dX12_readIf_52 rfl ?_
  refine aj_iconst C dX12_readIf_53 ?_
  refine aj_iadd C dX12_readIf_54 ?_
  refine aj_callV (rest := []) C mvX12_167 (HR3 _ q0 (v1 + 1) _ hq0 h) hq0 (aj_np 1 (by decide +kernel) rfl) (Nat.le_of_ble_eq_true rfl) rfl dX12_readIf_55 (fun r m1 h => ?_)
  obtain ⟨rfl, h⟩ := h
  refine aj_aload_n C dX12_readIf_58 rfl ?_
  refine aj_bipush C dX12_readIf_59 (by decide) ?_
  refine aj_callV (rest := []) C mvX12_170 (sX12_eats hq0 h) hq0 (aj_np 1 (by decide +kernel) rfl) (Nat.le_of_ble_eq_true rfl) rfl dX12_readIf_61 (fun r m2 h => ?_)
  obtain ⟨z2, rfl, h⟩ := h
  obtain ⟨r0, h1, h2⟩ := h
  refine aj_if_ne (tgt := 72) C dX12_readIf_64 (by decide) r0 (fun e => ?_) (fun e => ?_)
  · have h := h1 e
    refine aj_aload_n C dX12_readIf_72 rfl ?_
    refine aj_sipush C dX12_readIf_73 (by decide) ?_
    refine aj_callV (rest := []) C mvX12_158 (sX12_codes hq0 h) hq0 (aj_np 1 (by decide +kernel) rfl) (Nat.le_of_ble_eq_true rfl) rfl dX12_readIf_76 (fun r m3 h => ?_)
    obtain ⟨rfl, h⟩ := h
    exact aj_vret C K dX12_readIf_79 ⟨rfl, h⟩
  · have h := h2 e
    refine aj_aload_n C dX12_readIf_67 rfl ?_
    refine aj_iconst C dX12_readIf_68 ?_
    refine aj_callV (rest := []) C mvX12_150 (sX12_fails hq0 h) hq0 (aj_np 1 (by decide +kernel) rfl) (Nat.le_of_ble_eq_true rfl) rfl dX12_readIf_69 (fun r m4 h => ?_)
    obtain ⟨rfl, h⟩ := h
    refine aj_aload_n C dX12_readIf_72 rfl ?_
    refine aj_sipush C dX12_readIf_73 (by decide) ?_
    refine aj_callV (rest := []) C mvX12_158 (sX12_codes hq0 h) hq0 (aj_np 1 (by decide +kernel) rfl) (Nat.le_of_ble_eq_true rfl) rfl dX12_readIf_76 (fun r m5 h => ?_)
    obtain ⟨rfl, h⟩ := h
    exact aj_vret C K dX12_readIf_79 ⟨rfl, h⟩
def wbX12_readIf (f : Nat) (Φ : aj_M → Prop) (R : Nat → (aj_M → Prop) → List Nat → Int → aj_M → Prop) (q0 : List Nat) (v1 : Int) (m : aj_M) : Prop := wX12_goesIn f (fun z1 m1 => rI z1 ∧ (¬ z1 = 0 → R 0 (fun m2 => wX12_eats f (fun z3 m3 => rI z3 ∧ (¬ z3 = 0 → R 3 (fun m4 => wX12_eats f (fun z5 m5 => rI z5 ∧ (¬ z5 = 0 → hX12_readIf_51 f Φ R q0 v1 m5) ∧ (z5 = 0 → wX12_fails f (fun m6 => hX12_readIf_51 f Φ R q0 v1 m6) q0 2 m5)) q0 14 m4) q0 (v1 + 1) m3) ∧ (z3 = 0 → wX12_fails f (fun m7 => R 3 (fun m8 => wX12_eats f (fun z9 m9 => rI z9 ∧ (¬ z9 = 0 → hX12_readIf_51 f Φ R q0 v1 m9) ∧ (z9 = 0 → wX12_fails f (fun m10 => hX12_readIf_51 f Φ R q0 v1 m10) q0 2 m9)) q0 14 m8) q0 (v1 + 1) m7) q0 2 m3)) q0 13 m2) q0 (v1 + 1) m1) ∧ (z1 = 0 → Φ m1)) q0 v1 m
set_option maxHeartbeats 4000000 in
set_option maxRecDepth 100000 in
theorem sbX12_readIf {n f : Nat} {Φ : aj_M → Prop} {R : Nat → (aj_M → Prop) → List Nat → Int → aj_M → Prop} (HR0 : ∀ (Φ : aj_M → Prop) (q0 : List Nat) (v1 : Int) (m : aj_M) (hq0 : (.inl (12, q0) : aj_R) ∈ aj_pls), R 0 Φ q0 v1 m → aj_Ct (n + 6) yX12_readTruth cX12_readTruth 2 none [vO 12 q0, vI v1] m (fun r m => r = none ∧ Φ m)) (HR1 : ∀ (Φ : aj_M → Prop) (q0 : List Nat) (v1 : Int) (m : aj_M) (hq0 : (.inl (12, q0) : aj_R) ∈ aj_pls), R 1 Φ q0 v1 m → aj_Ct (n + 6) yX12_readBoth cX12_readBoth 2 none [vO 12 q0, vI v1] m (fun r m => r = none ∧ Φ m)) (HR2 : ∀ (Φ : aj_M → Prop) (q0 : List Nat) (v1 : Int) (m : aj_M) (hq0 : (.inl (12, q0) : aj_R) ∈ aj_pls), R 2 Φ q0 v1 m → aj_Ct (n + 6) yX12_readUnit cX12_readUnit 3 none [vO 12 q0, vI v1] m (fun r m => r = none ∧ Φ m)) (HR3 : ∀ (Φ : aj_M → Prop) (q0 : List Nat) (v1 : Int) (m : aj_M) (hq0 : (.inl (12, q0) : aj_R) ∈ aj_pls), R 3 Φ q0 v1 m → aj_Ct (n + 6) yX12_readSum cX12_readSum 3 none [vO 12 q0, vI v1] m (fun r m => r = none ∧ Φ m)) (HR4 : ∀ (Φ : aj_M → Prop) (q0 : List Nat) (v1 : Int) (m : aj_M) (hq0 : (.inl (12, q0) : aj_R) ∈ aj_pls), R 4 Φ q0 v1 m → aj_Ct (n + 6) yX12_readTerm cX12_readTerm 2 none [vO 12 q0, vI v1] m (fun r m => r = none ∧ Φ m)) (HR5 : ∀ (Φ : aj_M → Prop) (q0 : List Nat) (v1 : Int) (m : aj_M) (hq0 : (.inl (12, q0) : aj_R) ∈ aj_pls), R 5 Φ q0 v1 m → aj_Ct (n + 6) yX12_readAtom cX12_readAtom 2 none [vO 12 q0, vI v1] m (fun r m => r = none ∧ Φ m)) (HR6 : ∀ (Φ : aj_M → Prop) (q0 : List Nat) (v1 : Int) (m : aj_M) (hq0 : (.inl (12, q0) : aj_R) ∈ aj_pls), R 6 Φ q0 v1 m → aj_Ct (n + 6) yX12_readIf cX12_readIf 2 none [vO 12 q0, vI v1] m (fun r m => r = none ∧ Φ m)) {q0 : List Nat} {v1 : Int} {m : aj_M} (hq0 : (.inl (12, q0) : aj_R) ∈ aj_pls) (h : wbX12_readIf f Φ R q0 v1 m) : aj_Ct (n + 7) yX12_readIf cX12_readIf 2 none [vO 12 q0, vI v1] m (fun r m => r = none ∧ Φ m) := by
  refine aj_met (lv := [some (vO 12 q0), some (vI v1)]) (by decide +kernel) rfl (Nat.le_of_ble_eq_true rfl) (fun X C K => ?_)
  unfold wbX12_readIf at h
  refine aj_aload_n C dX12_readIf_0 rfl ?_
  refine aj_iload_n C dX12_readIf_1 rfl ?_
  refine aj_callV (rest := []) C mvX12_164 (sX12_goesIn hq0 h) hq0 (aj_np 1 (by decide +kernel) rfl) (Nat.le_of_ble_eq_true rfl) rfl dX12_readIf_2 (fun r m1 h => ?_)
  obtain ⟨z1, rfl, h⟩ := h
  obtain ⟨r0, h1, h2⟩ := h
  refine aj_if_ne (tgt := 9) C dX12_readIf_5 (by decide) r0 (fun e => ?_) (fun e => ?_)
  · have h := h1 e
    refine aj_aload_n C dX12_readIf_9 rfl ?_
    refine aj_iload_n C dX12_readIf_10 rfl ?_
    refine aj_iconst C dX12_readIf_11 ?_
    refine aj_iadd C dX12_readIf_12 ?_
    refine aj_callV (rest := []) C mvX12_176 (HR0 _ q0 (v1 + 1) _ hq0 h) hq0 (aj_np 1 (by decide +kernel) rfl) (Nat.le_of_ble_eq_true rfl) rfl dX12_readIf_13 (fun r m2 h => ?_)
    obtain ⟨rfl, h⟩ := h
    refine aj_aload_n C dX12_readIf_16 rfl ?_
    refine aj_bipush C dX12_readIf_17 (by decide) ?_
    refine aj_callV (rest := []) C mvX12_170 (sX12_eats hq0 h) hq0 (aj_np 1 (by decide +kernel) rfl) (Nat.le_of_ble_eq_true rfl) rfl dX12_readIf_19 (fun r m3 h => ?_)
    obtain ⟨z3, rfl, h⟩ := h
    obtain ⟨r0, h1, h2⟩ := h
    refine aj_if_ne (tgt := 30) C dX12_readIf_22 (by decide) r0 (fun e => ?_) (fun e => ?_)
    · have h := h1 e
      refine aj_aload_n C dX12_readIf_30 rfl ?_
      refine aj_iload_n C dX12_readIf_31 rfl ?_
      refine aj_iconst C dX12_readIf_32 ?_
      refine aj_iadd C dX12_readIf_33 ?_
      refine aj_callV (rest := []) C mvX12_167 (HR3 _ q0 (v1 + 1) _ hq0 h) hq0 (aj_np 1 (by decide +kernel) rfl) (Nat.le_of_ble_eq_true rfl) rfl dX12_readIf_34 (fun r m4 h => ?_)
      obtain ⟨rfl, h⟩ := h
      refine aj_aload_n C dX12_readIf_37 rfl ?_
      refine aj_bipush C dX12_readIf_38 (by decide) ?_
      refine aj_callV (rest := []) C mvX12_170 (sX12_eats hq0 h) hq0 (aj_np 1 (by decide +kernel) rfl) (Nat.le_of_ble_eq_true rfl) rfl dX12_readIf_40 (fun r m5 h => ?_)
      obtain ⟨z5, rfl, h⟩ := h
      obtain ⟨r0, h1, h2⟩ := h
      refine aj_if_ne (tgt := 51) C dX12_readIf_43 (by decide) r0 (fun e => ?_) (fun e => ?_)
      · have h := h1 e
        exact tX12_readIf_51 C K HR0 HR1 HR2 HR3 HR4 HR5 HR6 q0 v1 _ hq0 h
      · have h := h2 e
        refine aj_aload_n C dX12_readIf_46 rfl ?_
        refine aj_iconst C dX12_readIf_47 ?_
        refine aj_callV (rest := []) C mvX12_150 (sX12_fails hq0 h) hq0 (aj_np 1 (by decide +kernel) rfl) (Nat.le_of_ble_eq_true rfl) rfl dX12_readIf_48 (fun r m6 h => ?_)
        obtain ⟨rfl, h⟩ := h
        exact tX12_readIf_51 C K HR0 HR1 HR2 HR3 HR4 HR5 HR6 q0 v1 _ hq0 h
    · have h := h2 e
      refine aj_aload_n C dX12_readIf_25 rfl ?_
      refine aj_iconst C dX12_readIf_26 ?_
      refine aj_callV (rest := []) C mvX12_150 (sX12_fails hq0 h) hq0 (aj_np 1 (by decide +kernel) rfl) (Nat.le_of_ble_eq_true rfl) rfl dX12_readIf_27 (fun r m7 h => ?_)
      obtain ⟨rfl, h⟩ := h
      refine aj_aload_n C dX12_readIf_30 rfl ?_
      refine aj_iload_n C dX12_readIf_31 rfl ?_
      refine aj_iconst C dX12_readIf_32 ?_
      refine aj_iadd C dX12_readIf_33 ?_
      refine aj_callV (rest := []) C mvX12_167 (HR3 _ q0 (v1 + 1) _ hq0 h) hq0 (aj_np 1 (by decide +kernel) rfl) (Nat.le_of_ble_eq_true rfl) rfl dX12_readIf_34 (fun r m8 h => ?_)
      obtain ⟨rfl, h⟩ := h
      refine aj_aload_n C dX12_readIf_37 rfl ?_
      refine aj_bipush C dX12_readIf_38 (by decide) ?_
      refine aj_callV (rest := []) C mvX12_170 (sX12_eats hq0 h) hq0 (aj_np 1 (by decide +kernel) rfl) (Nat.le_of_ble_eq_true rfl) rfl dX12_readIf_40 (fun r m9 h => ?_)
      obtain ⟨z9, rfl, h⟩ := h
      obtain ⟨r0, h1, h2⟩ := h
      refine aj_if_ne (tgt := 51) C dX12_readIf_43 (by decide) r0 (fun e => ?_) (fun e => ?_)
      · have h := h1 e
        exact tX12_readIf_51 C K HR0 HR1 HR2 HR3 HR4 HR5 HR6 q0 v1 _ hq0 h
      · have h := h2 e
        refine aj_aload_n C dX12_readIf_46 rfl ?_
        refine aj_iconst C dX12_readIf_47 ?_
        refine aj_callV (rest := []) C mvX12_150 (sX12_fails hq0 h) hq0 (aj_np 1 (by decide +kernel) rfl) (Nat.le_of_ble_eq_true rfl) rfl dX12_readIf_48 (fun r m10 h => ?_)
        obtain ⟨rfl, h⟩ := h
        exact tX12_readIf_51 C K HR0 HR1 HR2 HR3 HR4 HR5 HR6 q0 v1 _ hq0 h
  · have h := h2 e
    exact aj_vret C K dX12_readIf_8 ⟨rfl, h⟩
def rG8 (f : Nat) : Nat → Nat → (aj_M → Prop) → List Nat → Int → aj_M → Prop
  | 0, _, _, _, _, _ => False
  | d + 1, t, Φ, q0, v1, m => if t = 0 then wbX12_readTruth f Φ (rG8 f d) q0 v1 m else if t = 1 then wbX12_readBoth f Φ (rG8 f d) q0 v1 m else if t = 2 then wbX12_readUnit f Φ (rG8 f d) q0 v1 m else if t = 3 then wbX12_readSum f Φ (rG8 f d) q0 v1 m else if t = 4 then wbX12_readTerm f Φ (rG8 f d) q0 v1 m else if t = 5 then wbX12_readAtom f Φ (rG8 f d) q0 v1 m else if t = 6 then wbX12_readIf f Φ (rG8 f d) q0 v1 m else False
set_option maxRecDepth 100000 in
theorem gG8 (f : Nat) : ∀ d : Nat, (∀ n : Nat, ∀ (Φ : aj_M → Prop) (q0 : List Nat) (v1 : Int) (m : aj_M) (hq0 : (.inl (12, q0) : aj_R) ∈ aj_pls), rG8 f d 0 Φ q0 v1 m → aj_Ct (n + d + 6) yX12_readTruth cX12_readTruth 2 none [vO 12 q0, vI v1] m (fun r m => r = none ∧ Φ m)) ∧ (∀ n : Nat, ∀ (Φ : aj_M → Prop) (q0 : List Nat) (v1 : Int) (m : aj_M) (hq0 : (.inl (12, q0) : aj_R) ∈ aj_pls), rG8 f d 1 Φ q0 v1 m → aj_Ct (n + d + 6) yX12_readBoth cX12_readBoth 2 none [vO 12 q0, vI v1] m (fun r m => r = none ∧ Φ m)) ∧ (∀ n : Nat, ∀ (Φ : aj_M → Prop) (q0 : List Nat) (v1 : Int) (m : aj_M) (hq0 : (.inl (12, q0) : aj_R) ∈ aj_pls), rG8 f d 2 Φ q0 v1 m → aj_Ct (n + d + 6) yX12_readUnit cX12_readUnit 3 none [vO 12 q0, vI v1] m (fun r m => r = none ∧ Φ m)) ∧ (∀ n : Nat, ∀ (Φ : aj_M → Prop) (q0 : List Nat) (v1 : Int) (m : aj_M) (hq0 : (.inl (12, q0) : aj_R) ∈ aj_pls), rG8 f d 3 Φ q0 v1 m → aj_Ct (n + d + 6) yX12_readSum cX12_readSum 3 none [vO 12 q0, vI v1] m (fun r m => r = none ∧ Φ m)) ∧ (∀ n : Nat, ∀ (Φ : aj_M → Prop) (q0 : List Nat) (v1 : Int) (m : aj_M) (hq0 : (.inl (12, q0) : aj_R) ∈ aj_pls), rG8 f d 4 Φ q0 v1 m → aj_Ct (n + d + 6) yX12_readTerm cX12_readTerm 2 none [vO 12 q0, vI v1] m (fun r m => r = none ∧ Φ m)) ∧ (∀ n : Nat, ∀ (Φ : aj_M → Prop) (q0 : List Nat) (v1 : Int) (m : aj_M) (hq0 : (.inl (12, q0) : aj_R) ∈ aj_pls), rG8 f d 5 Φ q0 v1 m → aj_Ct (n + d + 6) yX12_readAtom cX12_readAtom 2 none [vO 12 q0, vI v1] m (fun r m => r = none ∧ Φ m)) ∧ (∀ n : Nat, ∀ (Φ : aj_M → Prop) (q0 : List Nat) (v1 : Int) (m : aj_M) (hq0 : (.inl (12, q0) : aj_R) ∈ aj_pls), rG8 f d 6 Φ q0 v1 m → aj_Ct (n + d + 6) yX12_readIf cX12_readIf 2 none [vO 12 q0, vI v1] m (fun r m => r = none ∧ Φ m)) := by
  intro d
  induction d with
  | zero =>
    exact ⟨fun n Φ q0 v1 m hq0 h => h.elim, fun n Φ q0 v1 m hq0 h => h.elim, fun n Φ q0 v1 m hq0 h => h.elim, fun n Φ q0 v1 m hq0 h => h.elim, fun n Φ q0 v1 m hq0 h => h.elim, fun n Φ q0 v1 m hq0 h => h.elim, fun n Φ q0 v1 m hq0 h => h.elim⟩
  | succ d ih =>
    refine ⟨?_, ?_, ?_, ?_, ?_, ?_, ?_⟩
    · intro n Φ q0 v1 m hq0 h
      rw [show n + (d + 1) + 6 = (n + d) + 7 by omega]
      exact sbX12_readTruth (n := n + d) (f := f) (R := rG8 f d) (ih.1 n) (ih.2.1 n) (ih.2.2.1 n) (ih.2.2.2.1 n) (ih.2.2.2.2.1 n) (ih.2.2.2.2.2.1 n) (ih.2.2.2.2.2.2 n) hq0 h
    · intro n Φ q0 v1 m hq0 h
      rw [show n + (d + 1) + 6 = (n + d) + 7 by omega]
      exact sbX12_readBoth (n := n + d) (f := f) (R := rG8 f d) (ih.1 n) (ih.2.1 n) (ih.2.2.1 n) (ih.2.2.2.1 n) (ih.2.2.2.2.1 n) (ih.2.2.2.2.2.1 n) (ih.2.2.2.2.2.2 n) hq0 h
    · intro n Φ q0 v1 m hq0 h
      rw [show n + (d + 1) + 6 = (n + d) + 7 by omega]
      exact sbX12_readUnit (n := n + d) (f := f) (R := rG8 f d) (ih.1 n) (ih.2.1 n) (ih.2.2.1 n) (ih.2.2.2.1 n) (ih.2.2.2.2.1 n) (ih.2.2.2.2.2.1 n) (ih.2.2.2.2.2.2 n) hq0 h
    · intro n Φ q0 v1 m hq0 h
      rw [show n + (d + 1) + 6 = (n + d) + 7 by omega]
      exact sbX12_readSum (n := n + d) (f := f) (R := rG8 f d) (ih.1 n) (ih.2.1 n) (ih.2.2.1 n) (ih.2.2.2.1 n) (ih.2.2.2.2.1 n) (ih.2.2.2.2.2.1 n) (ih.2.2.2.2.2.2 n) hq0 h
    · intro n Φ q0 v1 m hq0 h
      rw [show n + (d + 1) + 6 = (n + d) + 7 by omega]
      exact sbX12_readTerm (n := n + d) (f := f) (R := rG8 f d) (ih.1 n) (ih.2.1 n) (ih.2.2.1 n) (ih.2.2.2.1 n) (ih.2.2.2.2.1 n) (ih.2.2.2.2.2.1 n) (ih.2.2.2.2.2.2 n) hq0 h
    · intro n Φ q0 v1 m hq0 h
      rw [show n + (d + 1) + 6 = (n + d) + 7 by omega]
      exact sbX12_readAtom (n := n + d) (f := f) (R := rG8 f d) (ih.1 n) (ih.2.1 n) (ih.2.2.1 n) (ih.2.2.2.1 n) (ih.2.2.2.2.1 n) (ih.2.2.2.2.2.1 n) (ih.2.2.2.2.2.2 n) hq0 h
    · intro n Φ q0 v1 m hq0 h
      rw [show n + (d + 1) + 6 = (n + d) + 7 by omega]
      exact sbX12_readIf (n := n + d) (f := f) (R := rG8 f d) (ih.1 n) (ih.2.1 n) (ih.2.2.1 n) (ih.2.2.2.1 n) (ih.2.2.2.2.1 n) (ih.2.2.2.2.2.1 n) (ih.2.2.2.2.2.2 n) hq0 h
def wX12_readTruth (f : Nat) (Φ : aj_M → Prop) (q0 : List Nat) (v1 : Int) (m : aj_M) : Prop := rG8 f 70 0 Φ q0 v1 m
theorem sX12_readTruth {n f : Nat} {Φ : aj_M → Prop} {q0 : List Nat} {v1 : Int} {m : aj_M} (hq0 : (.inl (12, q0) : aj_R) ∈ aj_pls) (h : wX12_readTruth f Φ q0 v1 m) : aj_Ct (n + 76) yX12_readTruth cX12_readTruth 2 none [vO 12 q0, vI v1] m (fun r m => r = none ∧ Φ m) := by
  rw [show n + 76 = n + 70 + 6 by omega]
  exact (gG8 f 70).1 n Φ q0 v1 m hq0 h
def wX12_readBoth (f : Nat) (Φ : aj_M → Prop) (q0 : List Nat) (v1 : Int) (m : aj_M) : Prop := rG8 f 70 1 Φ q0 v1 m
theorem sX12_readBoth {n f : Nat} {Φ : aj_M → Prop} {q0 : List Nat} {v1 : Int} {m : aj_M} (hq0 : (.inl (12, q0) : aj_R) ∈ aj_pls) (h : wX12_readBoth f Φ q0 v1 m) : aj_Ct (n + 76) yX12_readBoth cX12_readBoth 2 none [vO 12 q0, vI v1] m (fun r m => r = none ∧ Φ m) := by
  rw [show n + 76 = n + 70 + 6 by omega]
  exact (gG8 f 70).2.1 n Φ q0 v1 m hq0 h
def wX12_readUnit (f : Nat) (Φ : aj_M → Prop) (q0 : List Nat) (v1 : Int) (m : aj_M) : Prop := rG8 f 70 2 Φ q0 v1 m
theorem sX12_readUnit {n f : Nat} {Φ : aj_M → Prop} {q0 : List Nat} {v1 : Int} {m : aj_M} (hq0 : (.inl (12, q0) : aj_R) ∈ aj_pls) (h : wX12_readUnit f Φ q0 v1 m) : aj_Ct (n + 76) yX12_readUnit cX12_readUnit 3 none [vO 12 q0, vI v1] m (fun r m => r = none ∧ Φ m) := by
  rw [show n + 76 = n + 70 + 6 by omega]
  exact (gG8 f 70).2.2.1 n Φ q0 v1 m hq0 h
def wX12_readSum (f : Nat) (Φ : aj_M → Prop) (q0 : List Nat) (v1 : Int) (m : aj_M) : Prop := rG8 f 70 3 Φ q0 v1 m
theorem sX12_readSum {n f : Nat} {Φ : aj_M → Prop} {q0 : List Nat} {v1 : Int} {m : aj_M} (hq0 : (.inl (12, q0) : aj_R) ∈ aj_pls) (h : wX12_readSum f Φ q0 v1 m) : aj_Ct (n + 76) yX12_readSum cX12_readSum 3 none [vO 12 q0, vI v1] m (fun r m => r = none ∧ Φ m) := by
  rw [show n + 76 = n + 70 + 6 by omega]
  exact (gG8 f 70).2.2.2.1 n Φ q0 v1 m hq0 h
def wX12_readTerm (f : Nat) (Φ : aj_M → Prop) (q0 : List Nat) (v1 : Int) (m : aj_M) : Prop := rG8 f 70 4 Φ q0 v1 m
theorem sX12_readTerm {n f : Nat} {Φ : aj_M → Prop} {q0 : List Nat} {v1 : Int} {m : aj_M} (hq0 : (.inl (12, q0) : aj_R) ∈ aj_pls) (h : wX12_readTerm f Φ q0 v1 m) : aj_Ct (n + 76) yX12_readTerm cX12_readTerm 2 none [vO 12 q0, vI v1] m (fun r m => r = none ∧ Φ m) := by
  rw [show n + 76 = n + 70 + 6 by omega]
  exact (gG8 f 70).2.2.2.2.1 n Φ q0 v1 m hq0 h
def wX12_readAtom (f : Nat) (Φ : aj_M → Prop) (q0 : List Nat) (v1 : Int) (m : aj_M) : Prop := rG8 f 70 5 Φ q0 v1 m
theorem sX12_readAtom {n f : Nat} {Φ : aj_M → Prop} {q0 : List Nat} {v1 : Int} {m : aj_M} (hq0 : (.inl (12, q0) : aj_R) ∈ aj_pls) (h : wX12_readAtom f Φ q0 v1 m) : aj_Ct (n + 76) yX12_readAtom cX12_readAtom 2 none [vO 12 q0, vI v1] m (fun r m => r = none ∧ Φ m) := by
  rw [show n + 76 = n + 70 + 6 by omega]
  exact (gG8 f 70).2.2.2.2.2.1 n Φ q0 v1 m hq0 h
def wX12_readIf (f : Nat) (Φ : aj_M → Prop) (q0 : List Nat) (v1 : Int) (m : aj_M) : Prop := rG8 f 70 6 Φ q0 v1 m
theorem sX12_readIf {n f : Nat} {Φ : aj_M → Prop} {q0 : List Nat} {v1 : Int} {m : aj_M} (hq0 : (.inl (12, q0) : aj_R) ∈ aj_pls) (h : wX12_readIf f Φ q0 v1 m) : aj_Ct (n + 76) yX12_readIf cX12_readIf 2 none [vO 12 q0, vI v1] m (fun r m => r = none ∧ Φ m) := by
  rw [show n + 76 = n + 70 + 6 by omega]
  exact (gG8 f 70).2.2.2.2.2.2 n Φ q0 v1 m hq0 h
theorem dX12_restOf_0 : decode cX12_restOf 0 = .ok (.iload_n 0, 1) := by decide +kernel
theorem dX12_restOf_1 : decode cX12_restOf 1 = .ok (.iload_n 1, 1) := by decide +kernel
theorem dX12_restOf_2 : decode cX12_restOf 2 = .ok (.irem, 1) := by decide +kernel
theorem dX12_restOf_3 : decode cX12_restOf 3 = .ok (.istore_n 2, 1) := by decide +kernel
theorem dX12_restOf_4 : decode cX12_restOf 4 = .ok (.iload_n 2, 1) := by decide +kernel
theorem dX12_restOf_5 : decode cX12_restOf 5 = .ok (.ifCond .ge 9, 3) := by decide +kernel
theorem dX12_restOf_8 : decode cX12_restOf 8 = .ok (.iload_n 2, 1) := by decide +kernel
theorem dX12_restOf_9 : decode cX12_restOf 9 = .ok (.iload_n 1, 1) := by decide +kernel
theorem dX12_restOf_10 : decode cX12_restOf 10 = .ok (.iadd, 1) := by decide +kernel
theorem dX12_restOf_11 : decode cX12_restOf 11 = .ok (.goto 4, 3) := by decide +kernel
theorem dX12_restOf_14 : decode cX12_restOf 14 = .ok (.iload_n 2, 1) := by decide +kernel
theorem dX12_restOf_15 : decode cX12_restOf 15 = .ok (.ireturn, 1) := by decide +kernel
def wX12_restOf (f : Nat) (Φ : Int → aj_M → Prop) (v0 : Int) (v1 : Int) (m : aj_M) : Prop := rI v0 ∧ rI v1 ∧ ¬ v1 = 0 ∧ rI (Int.tmod v0 v1) ∧ (0 ≤ (Int.tmod v0 v1) → Φ (Int.tmod v0 v1) m) ∧ (¬ (0 ≤ (Int.tmod v0 v1)) → Φ ((Int.tmod v0 v1) + v1) m)
set_option maxHeartbeats 4000000 in
set_option maxRecDepth 100000 in
theorem sX12_restOf {n f : Nat} {Φ : Int → aj_M → Prop} {v0 : Int} {v1 : Int} {m : aj_M}  (h : wX12_restOf f Φ v0 v1 m) : aj_Ct n yX12_restOf cX12_restOf 3 (some .int) [vI v0, vI v1] m (fun r m => ∃ z, r = some (vI z) ∧ Φ z m) := by
  refine aj_met (lv := [some (vI v0), some (vI v1), none]) (by decide +kernel) rfl (Nat.le_of_ble_eq_true rfl) (fun X C K => ?_)
  unfold wX12_restOf at h
  refine aj_iload_n C dX12_restOf_0 rfl ?_
  refine aj_iload_n C dX12_restOf_1 rfl ?_
  obtain ⟨r0, r1, r2, h⟩ := h
  refine aj_irem C dX12_restOf_2 r0 r1 r2 ?_
  refine aj_istore_n (lv' := [some (vI v0), some (vI v1), some (vI (Int.tmod v0 v1))]) C dX12_restOf_3 (by decide) rfl ?_
  refine aj_iload_n C dX12_restOf_4 rfl ?_
  obtain ⟨r0, h1, h2⟩ := h
  refine aj_if_ge (tgt := 14) C dX12_restOf_5 (by decide) r0 (fun e => ?_) (fun e => ?_)
  · have h := h1 e
    refine aj_iload_n C dX12_restOf_14 rfl ?_
    exact aj_iret C K dX12_restOf_15 ⟨_, rfl, h⟩
  · have h := h2 e
    refine aj_iload_n C dX12_restOf_8 rfl ?_
    refine aj_iload_n C dX12_restOf_9 rfl ?_
    refine aj_iadd C dX12_restOf_10 ?_
    refine aj_goto (tgt := 15) C dX12_restOf_11 (by decide) ?_
    exact aj_iret C K dX12_restOf_15 ⟨_, rfl, h⟩
