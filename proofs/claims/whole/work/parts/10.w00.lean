theorem dX0_has_0 : decode cX0_has 0 = .ok (.iload_n 1, 1) := by decide +kernel
theorem dX0_has_1 : decode cX0_has 1 = .ok (.ifCond .lt 15, 3) := by decide +kernel
theorem dX0_has_4 : decode cX0_has 4 = .ok (.iload_n 1, 1) := by decide +kernel
theorem dX0_has_5 : decode cX0_has 5 = .ok (.aload_n 0, 1) := by decide +kernel
theorem dX0_has_6 : decode cX0_has 6 = .ok (.getfield 9, 3) := by decide +kernel
theorem dX0_has_9 : decode cX0_has 9 = .ok (.if_icmp .ge 7, 3) := by decide +kernel
theorem dX0_has_12 : decode cX0_has 12 = .ok (.iconst 1, 1) := by decide +kernel
theorem dX0_has_13 : decode cX0_has 13 = .ok (.goto 4, 3) := by decide +kernel
theorem dX0_has_16 : decode cX0_has 16 = .ok (.iconst 0, 1) := by decide +kernel
theorem dX0_has_17 : decode cX0_has 17 = .ok (.ireturn, 1) := by decide +kernel
def wX0_has (f : Nat) (Φ : Int → aj_M → Prop) (q0 : List Nat) (v1 : Int) (m : aj_M) : Prop := rI v1 ∧ (v1 < 0 → Φ 0 m) ∧ (¬ (v1 < 0) → rI v1 ∧ rI (m q0 0) ∧ ((m q0 0) ≤ v1 → Φ 0 m) ∧ (¬ ((m q0 0) ≤ v1) → Φ 1 m))
set_option maxHeartbeats 4000000 in
set_option maxRecDepth 100000 in
theorem sX0_has {n f : Nat} {Φ : Int → aj_M → Prop} {q0 : List Nat} {v1 : Int} {m : aj_M} (hq0 : (.inl (0, q0) : aj_R) ∈ aj_pls) (h : wX0_has f Φ q0 v1 m) : aj_Ct n yX0_has cX0_has 2 (some .boolean) [vO 0 q0, vI v1] m (fun r m => ∃ z, r = some (vI z) ∧ Φ z m) := by
  refine aj_met (lv := [some (vO 0 q0), some (vI v1)]) (by decide +kernel) rfl (Nat.le_of_ble_eq_true rfl) (fun X C K => ?_)
  unfold wX0_has at h
  refine aj_iload_n C dX0_has_0 rfl ?_
  obtain ⟨r0, h1, h2⟩ := h
  refine aj_if_lt (tgt := 16) C dX0_has_1 (by decide) r0 (fun e => ?_) (fun e => ?_)
  · have h := h1 e
    refine aj_iconst C dX0_has_16 ?_
    exact aj_zret C K (Or.inl rfl) dX0_has_17 ⟨_, rfl, h⟩
  · have h := h2 e
    refine aj_iload_n C dX0_has_4 rfl ?_
    refine aj_aload_n C dX0_has_5 rfl ?_
    refine aj_getI C flX0_9 hq0 (by decide) dX0_has_6 rfl ?_
    obtain ⟨r0, r1, h1, h2⟩ := h
    refine aj_icmp_ge (tgt := 16) C dX0_has_9 (by decide) r0 r1 (fun e => ?_) (fun e => ?_)
    · have h := h1 e
      refine aj_iconst C dX0_has_16 ?_
      exact aj_zret C K (Or.inl rfl) dX0_has_17 ⟨_, rfl, h⟩
    · have h := h2 e
      refine aj_iconst C dX0_has_12 ?_
      refine aj_goto (tgt := 17) C dX0_has_13 (by decide) ?_
      exact aj_zret C K (Or.inr rfl) dX0_has_17 ⟨_, rfl, h⟩
theorem dX0_times_0 : decode cX0_times 0 = .ok (.aload_n 0, 1) := by decide +kernel
theorem dX0_times_1 : decode cX0_times 1 = .ok (.iload_n 1, 1) := by decide +kernel
theorem dX0_times_2 : decode cX0_times 2 = .ok (.invokevirtual 25, 3) := by decide +kernel
theorem dX0_times_5 : decode cX0_times 5 = .ok (.ifCond .eq 25, 3) := by decide +kernel
theorem dX0_times_8 : decode cX0_times 8 = .ok (.aload_n 0, 1) := by decide +kernel
theorem dX0_times_9 : decode cX0_times 9 = .ok (.iload_n 2, 1) := by decide +kernel
theorem dX0_times_10 : decode cX0_times 10 = .ok (.invokevirtual 25, 3) := by decide +kernel
theorem dX0_times_13 : decode cX0_times 13 = .ok (.ifCond .eq 17, 3) := by decide +kernel
theorem dX0_times_16 : decode cX0_times 16 = .ok (.aload_n 0, 1) := by decide +kernel
theorem dX0_times_17 : decode cX0_times 17 = .ok (.getfield 15, 3) := by decide +kernel
theorem dX0_times_20 : decode cX0_times 20 = .ok (.iload_n 1, 1) := by decide +kernel
theorem dX0_times_21 : decode cX0_times 21 = .ok (.bipush 12, 2) := by decide +kernel
theorem dX0_times_23 : decode cX0_times 23 = .ok (.imul, 1) := by decide +kernel
theorem dX0_times_24 : decode cX0_times 24 = .ok (.iload_n 2, 1) := by decide +kernel
theorem dX0_times_25 : decode cX0_times 25 = .ok (.iadd, 1) := by decide +kernel
theorem dX0_times_26 : decode cX0_times 26 = .ok (.iaload, 1) := by decide +kernel
theorem dX0_times_27 : decode cX0_times 27 = .ok (.goto 4, 3) := by decide +kernel
theorem dX0_times_30 : decode cX0_times 30 = .ok (.iconst 0, 1) := by decide +kernel
theorem dX0_times_31 : decode cX0_times 31 = .ok (.ireturn, 1) := by decide +kernel
def wX0_times (f : Nat) (Φ : Int → aj_M → Prop) (q0 : List Nat) (v1 : Int) (v2 : Int) (m : aj_M) : Prop := wX0_has f (fun z1 m1 => rI z1 ∧ (z1 = 0 → Φ 0 m1) ∧ (¬ (z1 = 0) → wX0_has f (fun z2 m2 => rI z2 ∧ (z2 = 0 → Φ 0 m2) ∧ (¬ (z2 = 0) → (0 ≤ ((v1 * 12) + v2) ∧ ((v1 * 12) + v2) < 144) ∧ Φ (m2 (1 :: q0) ((v1 * 12) + v2).toNat) m2)) q0 v2 m1)) q0 v1 m
set_option maxHeartbeats 4000000 in
set_option maxRecDepth 100000 in
theorem sX0_times {n f : Nat} {Φ : Int → aj_M → Prop} {q0 : List Nat} {v1 : Int} {v2 : Int} {m : aj_M} (hq0 : (.inl (0, q0) : aj_R) ∈ aj_pls) (h : wX0_times f Φ q0 v1 v2 m) : aj_Ct (n + 1) yX0_times cX0_times 3 (some .int) [vO 0 q0, vI v1, vI v2] m (fun r m => ∃ z, r = some (vI z) ∧ Φ z m) := by
  refine aj_met (lv := [some (vO 0 q0), some (vI v1), some (vI v2)]) (by decide +kernel) rfl (Nat.le_of_ble_eq_true rfl) (fun X C K => ?_)
  unfold wX0_times at h
  refine aj_aload_n C dX0_times_0 rfl ?_
  refine aj_iload_n C dX0_times_1 rfl ?_
  refine aj_callV (rest := []) C mvX0_25 (sX0_has hq0 h) hq0 (aj_np 1 (by decide +kernel) rfl) (Nat.le_of_ble_eq_true rfl) rfl dX0_times_2 (fun r m1 h => ?_)
  obtain ⟨z1, rfl, h⟩ := h
  obtain ⟨r0, h1, h2⟩ := h
  refine aj_if_eq (tgt := 30) C dX0_times_5 (by decide) r0 (fun e => ?_) (fun e => ?_)
  · have h := h1 e
    refine aj_iconst C dX0_times_30 ?_
    exact aj_iret C K dX0_times_31 ⟨_, rfl, h⟩
  · have h := h2 e
    refine aj_aload_n C dX0_times_8 rfl ?_
    refine aj_iload_n C dX0_times_9 rfl ?_
    refine aj_callV (rest := []) C mvX0_25 (sX0_has hq0 h) hq0 (aj_np 1 (by decide +kernel) rfl) (Nat.le_of_ble_eq_true rfl) rfl dX0_times_10 (fun r m2 h => ?_)
    obtain ⟨z2, rfl, h⟩ := h
    obtain ⟨r0, h1, h2⟩ := h
    refine aj_if_eq (tgt := 30) C dX0_times_13 (by decide) r0 (fun e => ?_) (fun e => ?_)
    · have h := h1 e
      refine aj_iconst C dX0_times_30 ?_
      exact aj_iret C K dX0_times_31 ⟨_, rfl, h⟩
    · have h := h2 e
      refine aj_aload_n C dX0_times_16 rfl ?_
      refine aj_getA (x := 0) (y := 144) C flX0_15 hq0 rfl dX0_times_17 ?_
      refine aj_iload_n C dX0_times_20 rfl ?_
      refine aj_bipush C dX0_times_21 (by decide) ?_
      refine aj_imul C dX0_times_23 ?_
      refine aj_iload_n C dX0_times_24 rfl ?_
      refine aj_iadd C dX0_times_25 ?_
      obtain ⟨r0, h⟩ := h
      refine aj_iald C (aj_ca (e := 0) (n := 144) (j := 1) hq0 (by decide) rfl) (by decide) r0 dX0_times_26 rfl ?_
      refine aj_goto (tgt := 31) C dX0_times_27 (by decide) ?_
      exact aj_iret C K dX0_times_31 ⟨_, rfl, h⟩
theorem dX0_settle_0 : decode cX0_settle 0 = .ok (.iconst 0, 1) := by decide +kernel
theorem dX0_settle_1 : decode cX0_settle 1 = .ok (.istore_n 1, 1) := by decide +kernel
theorem dX0_settle_2 : decode cX0_settle 2 = .ok (.iload_n 1, 1) := by decide +kernel
theorem dX0_settle_3 : decode cX0_settle 3 = .ok (.aload_n 0, 1) := by decide +kernel
theorem dX0_settle_4 : decode cX0_settle 4 = .ok (.getfield 9, 3) := by decide +kernel
theorem dX0_settle_7 : decode cX0_settle 7 = .ok (.if_icmp .ge 59, 3) := by decide +kernel
theorem dX0_settle_10 : decode cX0_settle 10 = .ok (.iload_n 1, 1) := by decide +kernel
theorem dX0_settle_11 : decode cX0_settle 11 = .ok (.istore_n 2, 1) := by decide +kernel
theorem dX0_settle_12 : decode cX0_settle 12 = .ok (.iconst 0, 1) := by decide +kernel
theorem dX0_settle_13 : decode cX0_settle 13 = .ok (.istore_n 3, 1) := by decide +kernel
theorem dX0_settle_14 : decode cX0_settle 14 = .ok (.iconst 1, 1) := by decide +kernel
theorem dX0_settle_15 : decode cX0_settle 15 = .ok (.istore 4, 2) := by decide +kernel
theorem dX0_settle_17 : decode cX0_settle 17 = .ok (.iload 4, 2) := by decide +kernel
theorem dX0_settle_19 : decode cX0_settle 19 = .ok (.aload_n 0, 1) := by decide +kernel
theorem dX0_settle_20 : decode cX0_settle 20 = .ok (.getfield 9, 3) := by decide +kernel
theorem dX0_settle_23 : decode cX0_settle 23 = .ok (.if_icmp .ge 22, 3) := by decide +kernel
theorem dX0_settle_26 : decode cX0_settle 26 = .ok (.iload_n 2, 1) := by decide +kernel
theorem dX0_settle_27 : decode cX0_settle 27 = .ok (.ifCond .eq 18, 3) := by decide +kernel
theorem dX0_settle_30 : decode cX0_settle 30 = .ok (.iload_n 2, 1) := by decide +kernel
theorem dX0_settle_31 : decode cX0_settle 31 = .ok (.istore_n 3, 1) := by decide +kernel
theorem dX0_settle_32 : decode cX0_settle 32 = .ok (.aload_n 0, 1) := by decide +kernel
theorem dX0_settle_33 : decode cX0_settle 33 = .ok (.iload_n 2, 1) := by decide +kernel
theorem dX0_settle_34 : decode cX0_settle 34 = .ok (.iload_n 1, 1) := by decide +kernel
theorem dX0_settle_35 : decode cX0_settle 35 = .ok (.invokevirtual 35, 3) := by decide +kernel
theorem dX0_settle_38 : decode cX0_settle 38 = .ok (.istore_n 2, 1) := by decide +kernel
theorem dX0_settle_39 : decode cX0_settle 39 = .ok (.iinc 4 1, 3) := by decide +kernel
theorem dX0_settle_42 : decode cX0_settle 42 = .ok (.goto (-25), 3) := by decide +kernel
theorem dX0_settle_45 : decode cX0_settle 45 = .ok (.aload_n 0, 1) := by decide +kernel
theorem dX0_settle_46 : decode cX0_settle 46 = .ok (.getfield 22, 3) := by decide +kernel
theorem dX0_settle_49 : decode cX0_settle 49 = .ok (.iload_n 1, 1) := by decide +kernel
theorem dX0_settle_50 : decode cX0_settle 50 = .ok (.iload 4, 2) := by decide +kernel
theorem dX0_settle_52 : decode cX0_settle 52 = .ok (.iastore, 1) := by decide +kernel
theorem dX0_settle_53 : decode cX0_settle 53 = .ok (.aload_n 0, 1) := by decide +kernel
theorem dX0_settle_54 : decode cX0_settle 54 = .ok (.getfield 19, 3) := by decide +kernel
theorem dX0_settle_57 : decode cX0_settle 57 = .ok (.iload_n 1, 1) := by decide +kernel
theorem dX0_settle_58 : decode cX0_settle 58 = .ok (.iload_n 3, 1) := by decide +kernel
theorem dX0_settle_59 : decode cX0_settle 59 = .ok (.iastore, 1) := by decide +kernel
theorem dX0_settle_60 : decode cX0_settle 60 = .ok (.iinc 1 1, 3) := by decide +kernel
theorem dX0_settle_63 : decode cX0_settle 63 = .ok (.goto (-61), 3) := by decide +kernel
theorem dX0_settle_66 : decode cX0_settle 66 = .ok (.return_, 1) := by decide +kernel
def hX0_settle_17 (f : Nat) (Φ : aj_M → Prop) (K2 : List Nat → Int → aj_M → Prop) : Nat → List Nat → Int → Int → Int → Int → aj_M → Prop
  | 0, _, _, _, _, _, _ => False
  | k + 1, q0, v1, v2, v3, v4, m => rI v4 ∧ rI (m q0 0) ∧ ((m q0 0) ≤ v4 → (0 ≤ v1 ∧ v1 < 12) ∧ ∀ m1, m1 = aj_u m (3 :: q0) v1.toNat v4 → (0 ≤ v1 ∧ v1 < 12) ∧ ∀ m2, m2 = aj_u m1 (2 :: q0) v1.toNat v3 → K2 q0 (v1 + 1) m2) ∧ (¬ ((m q0 0) ≤ v4) → rI v2 ∧ (v2 = 0 → (0 ≤ v1 ∧ v1 < 12) ∧ ∀ m3, m3 = aj_u m (3 :: q0) v1.toNat v4 → (0 ≤ v1 ∧ v1 < 12) ∧ ∀ m4, m4 = aj_u m3 (2 :: q0) v1.toNat v3 → K2 q0 (v1 + 1) m4) ∧ (¬ (v2 = 0) → wX0_times f (fun z1 m5 => hX0_settle_17 f Φ K2 k q0 v1 z1 v2 (v4 + 1) m5) q0 v2 v1 m))
set_option maxHeartbeats 4000000 in
set_option maxRecDepth 100000 in
theorem tX0_settle_17 {X : aj_T} {n f : Nat} {Φ : aj_M → Prop} (C : aj_Cx X cX0_settle RX0 5 (n + 2)) (K : aj_Rt X none (fun r m => r = none ∧ Φ m)) {K2 : List Nat → Int → aj_M → Prop} (HK2 : ∀ (q0 : List Nat) (v1 : Int) (m : aj_M) (hq0 : (.inl (0, q0) : aj_R) ∈ aj_pls), K2 q0 v1 m → aj_J X 2 [some (vO 0 q0), some (vI v1), none, none, none] [] m) : ∀ (k : Nat) (q0 : List Nat) (v1 : Int) (v2 : Int) (v3 : Int) (v4 : Int) (m : aj_M) (hq0 : (.inl (0, q0) : aj_R) ∈ aj_pls), hX0_settle_17 f Φ K2 k q0 v1 v2 v3 v4 m → aj_J X 17 [some (vO 0 q0), some (vI v1), some (vI v2), some (vI v3), some (vI v4)] [] m := by
  intro k
  induction k with
  | zero =>
    intro q0 v1 v2 v3 v4 m _ h
    exact h.elim
  | succ k ih =>
    intro q0 v1 v2 v3 v4 m hq0 h
    unfold hX0_settle_17 at h
    refine aj_iload C dX0_settle_17 rfl ?_
    refine aj_aload_n C dX0_settle_19 rfl ?_
    refine aj_getI C flX0_9 hq0 (by decide) dX0_settle_20 rfl ?_
    obtain ⟨r0, r1, h1, h2⟩ := h
    refine aj_icmp_ge (tgt := 45) C dX0_settle_23 (by decide) r0 r1 (fun e => ?_) (fun e => ?_)
    · have h := h1 e
      refine aj_aload_n C dX0_settle_45 rfl ?_
      refine aj_getA (x := 0) (y := 12) C flX0_22 hq0 rfl dX0_settle_46 ?_
      refine aj_iload_n C dX0_settle_49 rfl ?_
      refine aj_iload C dX0_settle_50 rfl ?_
      obtain ⟨r0, h⟩ := h
      refine aj_iast C (aj_ca (e := 0) (n := 12) (j := 3) hq0 (by decide) rfl) (by decide) r0 dX0_settle_52 ?_
      refine aj_nm (fun m1 e1 => ?_)
      have h := h m1 e1
      refine aj_aload_n C dX0_settle_53 rfl ?_
      refine aj_getA (x := 0) (y := 12) C flX0_19 hq0 rfl dX0_settle_54 ?_
      refine aj_iload_n C dX0_settle_57 rfl ?_
      refine aj_iload_n C dX0_settle_58 rfl ?_
      obtain ⟨r0, h⟩ := h
      refine aj_iast C (aj_ca (e := 0) (n := 12) (j := 2) hq0 (by decide) rfl) (by decide) r0 dX0_settle_59 ?_
      refine aj_nm (fun m2 e1 => ?_)
      have h := h m2 e1
      refine aj_iinc (lv' := [some (vO 0 q0), some (vI (v1 + 1)), some (vI v2), some (vI v3), some (vI v4)]) C dX0_settle_60 rfl (by decide) rfl ?_
      refine aj_goto (tgt := 2) C dX0_settle_63 (by decide) ?_
      refine aj_wk (lv' := [some (vO 0 q0), some (vI (v1 + 1)), none, none, none]) (⟨rfl, ⟨rfl, trivial⟩⟩) ?_
      exact HK2 q0 (v1 + 1) _ hq0 h
    · have h := h2 e
      refine aj_iload_n C dX0_settle_26 rfl ?_
      obtain ⟨r0, h1, h2⟩ := h
      refine aj_if_eq (tgt := 45) C dX0_settle_27 (by decide) r0 (fun e => ?_) (fun e => ?_)
      · have h := h1 e
        refine aj_aload_n C dX0_settle_45 rfl ?_
        refine aj_getA (x := 0) (y := 12) C flX0_22 hq0 rfl dX0_settle_46 ?_
        refine aj_iload_n C dX0_settle_49 rfl ?_
        refine aj_iload C dX0_settle_50 rfl ?_
        obtain ⟨r0, h⟩ := h
        refine aj_iast C (aj_ca (e := 0) (n := 12) (j := 3) hq0 (by decide) rfl) (by decide) r0 dX0_settle_52 ?_
        refine aj_nm (fun m3 e1 => ?_)
        have h := h m3 e1
        refine aj_aload_n C dX0_settle_53 rfl ?_
        refine aj_getA (x := 0) (y := 12) C flX0_19 hq0 rfl dX0_settle_54 ?_
        refine aj_iload_n C dX0_settle_57 rfl ?_
        refine aj_iload_n C dX0_settle_58 rfl ?_
        obtain ⟨r0, h⟩ := h
        refine aj_iast C (aj_ca (e := 0) (n := 12) (j := 2) hq0 (by decide) rfl) (by decide) r0 dX0_settle_59 ?_
        refine aj_nm (fun m4 e1 => ?_)
        have h := h m4 e1
        refine aj_iinc (lv' := [some (vO 0 q0), some (vI (v1 + 1)), some (vI v2), some (vI v3), some (vI v4)]) C dX0_settle_60 rfl (by decide) rfl ?_
        refine aj_goto (tgt := 2) C dX0_settle_63 (by decide) ?_
        refine aj_wk (lv' := [some (vO 0 q0), some (vI (v1 + 1)), none, none, none]) (⟨rfl, ⟨rfl, trivial⟩⟩) ?_
        exact HK2 q0 (v1 + 1) _ hq0 h
      · have h := h2 e
        refine aj_iload_n C dX0_settle_30 rfl ?_
        refine aj_istore_n (lv' := [some (vO 0 q0), some (vI v1), some (vI v2), some (vI v2), some (vI v4)]) C dX0_settle_31 (by decide) rfl ?_
        refine aj_aload_n C dX0_settle_32 rfl ?_
        refine aj_iload_n C dX0_settle_33 rfl ?_
        refine aj_iload_n C dX0_settle_34 rfl ?_
        refine aj_callV (rest := []) C mvX0_35 (sX0_times hq0 h) hq0 (aj_np 2 (by decide +kernel) rfl) (Nat.le_of_ble_eq_true rfl) rfl dX0_settle_35 (fun r m5 h => ?_)
        obtain ⟨z1, rfl, h⟩ := h
        refine aj_istore_n (lv' := [some (vO 0 q0), some (vI v1), some (vI z1), some (vI v2), some (vI v4)]) C dX0_settle_38 (by decide) rfl ?_
        refine aj_iinc (lv' := [some (vO 0 q0), some (vI v1), some (vI z1), some (vI v2), some (vI (v4 + 1))]) C dX0_settle_39 rfl (by decide) rfl ?_
        refine aj_goto (tgt := 17) C dX0_settle_42 (by decide) ?_
        exact ih q0 v1 z1 v2 (v4 + 1) _ hq0 h
def hX0_settle_2 (f : Nat) (Φ : aj_M → Prop) : Nat → List Nat → Int → aj_M → Prop
  | 0, _, _, _ => False
  | k + 1, q0, v1, m => rI v1 ∧ rI (m q0 0) ∧ ((m q0 0) ≤ v1 → Φ m) ∧ (¬ ((m q0 0) ≤ v1) → hX0_settle_17 f Φ (fun q0 v1 m => hX0_settle_2 f Φ k q0 v1 m) f q0 v1 v1 0 1 m)
set_option maxHeartbeats 4000000 in
set_option maxRecDepth 100000 in
theorem tX0_settle_2 {X : aj_T} {n f : Nat} {Φ : aj_M → Prop} (C : aj_Cx X cX0_settle RX0 5 (n + 2)) (K : aj_Rt X none (fun r m => r = none ∧ Φ m)) : ∀ (k : Nat) (q0 : List Nat) (v1 : Int) (m : aj_M) (hq0 : (.inl (0, q0) : aj_R) ∈ aj_pls), hX0_settle_2 f Φ k q0 v1 m → aj_J X 2 [some (vO 0 q0), some (vI v1), none, none, none] [] m := by
  intro k
  induction k with
  | zero =>
    intro q0 v1 m _ h
    exact h.elim
  | succ k ih =>
    intro q0 v1 m hq0 h
    unfold hX0_settle_2 at h
    refine aj_iload_n C dX0_settle_2 rfl ?_
    refine aj_aload_n C dX0_settle_3 rfl ?_
    refine aj_getI C flX0_9 hq0 (by decide) dX0_settle_4 rfl ?_
    obtain ⟨r0, r1, h1, h2⟩ := h
    refine aj_icmp_ge (tgt := 66) C dX0_settle_7 (by decide) r0 r1 (fun e => ?_) (fun e => ?_)
    · have h := h1 e
      exact aj_vret C K dX0_settle_66 ⟨rfl, h⟩
    · have h := h2 e
      refine aj_iload_n C dX0_settle_10 rfl ?_
      refine aj_istore_n (lv' := [some (vO 0 q0), some (vI v1), some (vI v1), none, none]) C dX0_settle_11 (by decide) rfl ?_
      refine aj_iconst C dX0_settle_12 ?_
      refine aj_istore_n (lv' := [some (vO 0 q0), some (vI v1), some (vI v1), some (vI 0), none]) C dX0_settle_13 (by decide) rfl ?_
      refine aj_iconst C dX0_settle_14 ?_
      refine aj_istore (lv' := [some (vO 0 q0), some (vI v1), some (vI v1), some (vI 0), some (vI 1)]) C dX0_settle_15 (by decide) rfl ?_
      exact tX0_settle_17 C K (fun q0 v1 m hq0 hh => ih q0 v1 m hq0 hh) f q0 v1 v1 0 1 _ hq0 h
def wX0_settle (f : Nat) (Φ : aj_M → Prop) (q0 : List Nat) (m : aj_M) : Prop := hX0_settle_2 f Φ f q0 0 m
set_option maxHeartbeats 4000000 in
set_option maxRecDepth 100000 in
theorem sX0_settle {n f : Nat} {Φ : aj_M → Prop} {q0 : List Nat} {m : aj_M} (hq0 : (.inl (0, q0) : aj_R) ∈ aj_pls) (h : wX0_settle f Φ q0 m) : aj_Ct (n + 2) yX0_settle cX0_settle 5 none [vO 0 q0] m (fun r m => r = none ∧ Φ m) := by
  refine aj_met (lv := [some (vO 0 q0), none, none, none, none]) (by decide +kernel) rfl (Nat.le_of_ble_eq_true rfl) (fun X C K => ?_)
  unfold wX0_settle at h
  refine aj_iconst C dX0_settle_0 ?_
  refine aj_istore_n (lv' := [some (vO 0 q0), some (vI 0), none, none, none]) C dX0_settle_1 (by decide) rfl ?_
  exact tX0_settle_2 C K f q0 0 _ hq0 h
theorem dX0_makeProduct_0 : decode cX0_makeProduct 0 = .ok (.iload_n 1, 1) := by decide +kernel
theorem dX0_makeProduct_1 : decode cX0_makeProduct 1 = .ok (.iconst 1, 1) := by decide +kernel
theorem dX0_makeProduct_2 : decode cX0_makeProduct 2 = .ok (.if_icmp .lt 16, 3) := by decide +kernel
theorem dX0_makeProduct_5 : decode cX0_makeProduct 5 = .ok (.iload_n 2, 1) := by decide +kernel
theorem dX0_makeProduct_6 : decode cX0_makeProduct 6 = .ok (.iconst 1, 1) := by decide +kernel
theorem dX0_makeProduct_7 : decode cX0_makeProduct 7 = .ok (.if_icmp .lt 11, 3) := by decide +kernel
theorem dX0_makeProduct_10 : decode cX0_makeProduct 10 = .ok (.iload_n 1, 1) := by decide +kernel
theorem dX0_makeProduct_11 : decode cX0_makeProduct 11 = .ok (.iload_n 2, 1) := by decide +kernel
theorem dX0_makeProduct_12 : decode cX0_makeProduct 12 = .ok (.imul, 1) := by decide +kernel
theorem dX0_makeProduct_13 : decode cX0_makeProduct 13 = .ok (.bipush 12, 2) := by decide +kernel
theorem dX0_makeProduct_15 : decode cX0_makeProduct 15 = .ok (.if_icmp .le 4, 3) := by decide +kernel
theorem dX0_makeProduct_18 : decode cX0_makeProduct 18 = .ok (.return_, 1) := by decide +kernel
theorem dX0_makeProduct_19 : decode cX0_makeProduct 19 = .ok (.aload_n 0, 1) := by decide +kernel
theorem dX0_makeProduct_20 : decode cX0_makeProduct 20 = .ok (.iload_n 1, 1) := by decide +kernel
theorem dX0_makeProduct_21 : decode cX0_makeProduct 21 = .ok (.iload_n 2, 1) := by decide +kernel
theorem dX0_makeProduct_22 : decode cX0_makeProduct 22 = .ok (.imul, 1) := by decide +kernel
theorem dX0_makeProduct_23 : decode cX0_makeProduct 23 = .ok (.putfield 9, 3) := by decide +kernel
theorem dX0_makeProduct_26 : decode cX0_makeProduct 26 = .ok (.iconst 0, 1) := by decide +kernel
theorem dX0_makeProduct_27 : decode cX0_makeProduct 27 = .ok (.istore_n 3, 1) := by decide +kernel
theorem dX0_makeProduct_28 : decode cX0_makeProduct 28 = .ok (.iload_n 3, 1) := by decide +kernel
theorem dX0_makeProduct_29 : decode cX0_makeProduct 29 = .ok (.aload_n 0, 1) := by decide +kernel
theorem dX0_makeProduct_30 : decode cX0_makeProduct 30 = .ok (.getfield 9, 3) := by decide +kernel
theorem dX0_makeProduct_33 : decode cX0_makeProduct 33 = .ok (.if_icmp .ge 62, 3) := by decide +kernel
theorem dX0_makeProduct_36 : decode cX0_makeProduct 36 = .ok (.iconst 0, 1) := by decide +kernel
theorem dX0_makeProduct_37 : decode cX0_makeProduct 37 = .ok (.istore 4, 2) := by decide +kernel
theorem dX0_makeProduct_39 : decode cX0_makeProduct 39 = .ok (.iload 4, 2) := by decide +kernel
theorem dX0_makeProduct_41 : decode cX0_makeProduct 41 = .ok (.aload_n 0, 1) := by decide +kernel
theorem dX0_makeProduct_42 : decode cX0_makeProduct 42 = .ok (.getfield 9, 3) := by decide +kernel
theorem dX0_makeProduct_45 : decode cX0_makeProduct 45 = .ok (.if_icmp .ge 44, 3) := by decide +kernel
theorem dX0_makeProduct_48 : decode cX0_makeProduct 48 = .ok (.aload_n 0, 1) := by decide +kernel
theorem dX0_makeProduct_49 : decode cX0_makeProduct 49 = .ok (.getfield 15, 3) := by decide +kernel
theorem dX0_makeProduct_52 : decode cX0_makeProduct 52 = .ok (.iload_n 3, 1) := by decide +kernel
theorem dX0_makeProduct_53 : decode cX0_makeProduct 53 = .ok (.bipush 12, 2) := by decide +kernel
theorem dX0_makeProduct_55 : decode cX0_makeProduct 55 = .ok (.imul, 1) := by decide +kernel
theorem dX0_makeProduct_56 : decode cX0_makeProduct 56 = .ok (.iload 4, 2) := by decide +kernel
theorem dX0_makeProduct_58 : decode cX0_makeProduct 58 = .ok (.iadd, 1) := by decide +kernel
theorem dX0_makeProduct_59 : decode cX0_makeProduct 59 = .ok (.iload_n 3, 1) := by decide +kernel
theorem dX0_makeProduct_60 : decode cX0_makeProduct 60 = .ok (.iload_n 2, 1) := by decide +kernel
theorem dX0_makeProduct_61 : decode cX0_makeProduct 61 = .ok (.idiv, 1) := by decide +kernel
theorem dX0_makeProduct_62 : decode cX0_makeProduct 62 = .ok (.iload 4, 2) := by decide +kernel
theorem dX0_makeProduct_64 : decode cX0_makeProduct 64 = .ok (.iload_n 2, 1) := by decide +kernel
theorem dX0_makeProduct_65 : decode cX0_makeProduct 65 = .ok (.idiv, 1) := by decide +kernel
theorem dX0_makeProduct_66 : decode cX0_makeProduct 66 = .ok (.iadd, 1) := by decide +kernel
theorem dX0_makeProduct_67 : decode cX0_makeProduct 67 = .ok (.iload_n 1, 1) := by decide +kernel
theorem dX0_makeProduct_68 : decode cX0_makeProduct 68 = .ok (.irem, 1) := by decide +kernel
theorem dX0_makeProduct_69 : decode cX0_makeProduct 69 = .ok (.iload_n 2, 1) := by decide +kernel
theorem dX0_makeProduct_70 : decode cX0_makeProduct 70 = .ok (.imul, 1) := by decide +kernel
theorem dX0_makeProduct_71 : decode cX0_makeProduct 71 = .ok (.iload_n 3, 1) := by decide +kernel
theorem dX0_makeProduct_72 : decode cX0_makeProduct 72 = .ok (.iload_n 2, 1) := by decide +kernel
theorem dX0_makeProduct_73 : decode cX0_makeProduct 73 = .ok (.irem, 1) := by decide +kernel
theorem dX0_makeProduct_74 : decode cX0_makeProduct 74 = .ok (.iload 4, 2) := by decide +kernel
theorem dX0_makeProduct_76 : decode cX0_makeProduct 76 = .ok (.iload_n 2, 1) := by decide +kernel
theorem dX0_makeProduct_77 : decode cX0_makeProduct 77 = .ok (.irem, 1) := by decide +kernel
theorem dX0_makeProduct_78 : decode cX0_makeProduct 78 = .ok (.iadd, 1) := by decide +kernel
theorem dX0_makeProduct_79 : decode cX0_makeProduct 79 = .ok (.iload_n 2, 1) := by decide +kernel
theorem dX0_makeProduct_80 : decode cX0_makeProduct 80 = .ok (.irem, 1) := by decide +kernel
theorem dX0_makeProduct_81 : decode cX0_makeProduct 81 = .ok (.iadd, 1) := by decide +kernel
theorem dX0_makeProduct_82 : decode cX0_makeProduct 82 = .ok (.iastore, 1) := by decide +kernel
theorem dX0_makeProduct_83 : decode cX0_makeProduct 83 = .ok (.iinc 4 1, 3) := by decide +kernel
theorem dX0_makeProduct_86 : decode cX0_makeProduct 86 = .ok (.goto (-47), 3) := by decide +kernel
theorem dX0_makeProduct_89 : decode cX0_makeProduct 89 = .ok (.iinc 3 1, 3) := by decide +kernel
theorem dX0_makeProduct_92 : decode cX0_makeProduct 92 = .ok (.goto (-64), 3) := by decide +kernel
theorem dX0_makeProduct_95 : decode cX0_makeProduct 95 = .ok (.aload_n 0, 1) := by decide +kernel
theorem dX0_makeProduct_96 : decode cX0_makeProduct 96 = .ok (.invokevirtual 29, 3) := by decide +kernel
theorem dX0_makeProduct_99 : decode cX0_makeProduct 99 = .ok (.return_, 1) := by decide +kernel
def hX0_makeProduct_39 (f : Nat) (Φ : aj_M → Prop) (K28 : List Nat → Int → Int → Int → aj_M → Prop) : Nat → List Nat → Int → Int → Int → Int → aj_M → Prop
  | 0, _, _, _, _, _, _ => False
  | k + 1, q0, v1, v2, v3, v4, m => rI v4 ∧ rI (m q0 0) ∧ ((m q0 0) ≤ v4 → K28 q0 v1 v2 (v3 + 1) m) ∧ (¬ ((m q0 0) ≤ v4) → (0 ≤ v3 ∧ v3 < 2147483648) ∧ (0 < v2 ∧ v2 < 2147483648) ∧ (0 ≤ v4 ∧ v4 < 2147483648) ∧ (0 < v2 ∧ v2 < 2147483648) ∧ (0 ≤ ((v3 / v2) + (v4 / v2)) ∧ ((v3 / v2) + (v4 / v2)) < 2147483648) ∧ (0 < v1 ∧ v1 < 2147483648) ∧ (0 ≤ v3 ∧ v3 < 2147483648) ∧ (0 < v2 ∧ v2 < 2147483648) ∧ (0 ≤ v4 ∧ v4 < 2147483648) ∧ (0 < v2 ∧ v2 < 2147483648) ∧ (0 ≤ ((v3 % v2) + (v4 % v2)) ∧ ((v3 % v2) + (v4 % v2)) < 2147483648) ∧ (0 < v2 ∧ v2 < 2147483648) ∧ (0 ≤ ((v3 * 12) + v4) ∧ ((v3 * 12) + v4) < 144) ∧ ∀ m1, m1 = aj_u m (1 :: q0) ((v3 * 12) + v4).toNat (((((v3 / v2) + (v4 / v2)) % v1) * v2) + (((v3 % v2) + (v4 % v2)) % v2)) → hX0_makeProduct_39 f Φ K28 k q0 v1 v2 v3 (v4 + 1) m1)
set_option maxHeartbeats 4000000 in
set_option maxRecDepth 100000 in
theorem tX0_makeProduct_39 {X : aj_T} {n f : Nat} {Φ : aj_M → Prop} (C : aj_Cx X cX0_makeProduct RX0 5 (n + 3)) (K : aj_Rt X none (fun r m => r = none ∧ Φ m)) {K28 : List Nat → Int → Int → Int → aj_M → Prop} (HK28 : ∀ (q0 : List Nat) (v1 : Int) (v2 : Int) (v3 : Int) (m : aj_M) (hq0 : (.inl (0, q0) : aj_R) ∈ aj_pls), K28 q0 v1 v2 v3 m → aj_J X 28 [some (vO 0 q0), some (vI v1), some (vI v2), some (vI v3), none] [] m) : ∀ (k : Nat) (q0 : List Nat) (v1 : Int) (v2 : Int) (v3 : Int) (v4 : Int) (m : aj_M) (hq0 : (.inl (0, q0) : aj_R) ∈ aj_pls), hX0_makeProduct_39 f Φ K28 k q0 v1 v2 v3 v4 m → aj_J X 39 [some (vO 0 q0), some (vI v1), some (vI v2), some (vI v3), some (vI v4)] [] m := by
  intro k
  induction k with
  | zero =>
    intro q0 v1 v2 v3 v4 m _ h
    exact h.elim
  | succ k ih =>
    intro q0 v1 v2 v3 v4 m hq0 h
    unfold hX0_makeProduct_39 at h
    refine aj_iload C dX0_makeProduct_39 rfl ?_
    refine aj_aload_n C dX0_makeProduct_41 rfl ?_
    refine aj_getI C flX0_9 hq0 (by decide) dX0_makeProduct_42 rfl ?_
    obtain ⟨r0, r1, h1, h2⟩ := h
    refine aj_icmp_ge (tgt := 89) C dX0_makeProduct_45 (by decide) r0 r1 (fun e => ?_) (fun e => ?_)
    · have h := h1 e
      refine aj_iinc (lv' := [some (vO 0 q0), some (vI v1), some (vI v2), some (vI (v3 + 1)), some (vI v4)]) C dX0_makeProduct_89 rfl (by decide) rfl ?_
      refine aj_goto (tgt := 28) C dX0_makeProduct_92 (by decide) ?_
      refine aj_wk (lv' := [some (vO 0 q0), some (vI v1), some (vI v2), some (vI (v3 + 1)), none]) (⟨rfl, ⟨rfl, ⟨rfl, ⟨rfl, trivial⟩⟩⟩⟩) ?_
      exact HK28 q0 v1 v2 (v3 + 1) _ hq0 h
    · have h := h2 e
      refine aj_aload_n C dX0_makeProduct_48 rfl ?_
      refine aj_getA (x := 0) (y := 144) C flX0_15 hq0 rfl dX0_makeProduct_49 ?_
      refine aj_iload_n C dX0_makeProduct_52 rfl ?_
      refine aj_bipush C dX0_makeProduct_53 (by decide) ?_
      refine aj_imul C dX0_makeProduct_55 ?_
      refine aj_iload C dX0_makeProduct_56 rfl ?_
      refine aj_iadd C dX0_makeProduct_58 ?_
      refine aj_iload_n C dX0_makeProduct_59 rfl ?_
      refine aj_iload_n C dX0_makeProduct_60 rfl ?_
      obtain ⟨r0, r1, h⟩ := h
      refine aj_idivN C dX0_makeProduct_61 r0 r1 ?_
      refine aj_iload C dX0_makeProduct_62 rfl ?_
      refine aj_iload_n C dX0_makeProduct_64 rfl ?_
      obtain ⟨r0, r1, h⟩ := h
      refine aj_idivN C dX0_makeProduct_65 r0 r1 ?_
      refine aj_iadd C dX0_makeProduct_66 ?_
      refine aj_iload_n C dX0_makeProduct_67 rfl ?_
      obtain ⟨r0, r1, h⟩ := h
      refine aj_iremN C dX0_makeProduct_68 r0 r1 ?_
      refine aj_iload_n C dX0_makeProduct_69 rfl ?_
      refine aj_imul C dX0_makeProduct_70 ?_
      refine aj_iload_n C dX0_makeProduct_71 rfl ?_
      refine aj_iload_n C dX0_makeProduct_72 rfl ?_
      obtain ⟨r0, r1, h⟩ := h
      refine aj_iremN C dX0_makeProduct_73 r0 r1 ?_
      refine aj_iload C dX0_makeProduct_74 rfl ?_
      refine aj_iload_n C dX0_makeProduct_76 rfl ?_
      obtain ⟨r0, r1, h⟩ := h
      refine aj_iremN C dX0_makeProduct_77 r0 r1 ?_
      refine aj_iadd C dX0_makeProduct_78 ?_
      refine aj_iload_n C dX0_makeProduct_79 rfl ?_
      obtain ⟨r0, r1, h⟩ := h
      refine aj_iremN C dX0_makeProduct_80 r0 r1 ?_
      refine aj_iadd C dX0_makeProduct_81 ?_
      obtain ⟨r0, h⟩ := h
      refine aj_iast C (aj_ca (e := 0) (n := 144) (j := 1) hq0 (by decide) rfl) (by decide) r0 dX0_makeProduct_82 ?_
      refine aj_nm (fun m1 e1 => ?_)
      have h := h m1 e1
      refine aj_iinc (lv' := [some (vO 0 q0), some (vI v1), some (vI v2), some (vI v3), some (vI (v4 + 1))]) C dX0_makeProduct_83 rfl (by decide) rfl ?_
      refine aj_goto (tgt := 39) C dX0_makeProduct_86 (by decide) ?_
      exact ih q0 v1 v2 v3 (v4 + 1) _ hq0 h
def hX0_makeProduct_28 (f : Nat) (Φ : aj_M → Prop) : Nat → List Nat → Int → Int → Int → aj_M → Prop
  | 0, _, _, _, _, _ => False
  | k + 1, q0, v1, v2, v3, m => rI v3 ∧ rI (m q0 0) ∧ ((m q0 0) ≤ v3 → wX0_settle f (fun m1 => Φ m1) q0 m) ∧ (¬ ((m q0 0) ≤ v3) → hX0_makeProduct_39 f Φ (fun q0 v1 v2 v3 m => hX0_makeProduct_28 f Φ k q0 v1 v2 v3 m) f q0 v1 v2 v3 0 m)
set_option maxHeartbeats 4000000 in
set_option maxRecDepth 100000 in
theorem tX0_makeProduct_28 {X : aj_T} {n f : Nat} {Φ : aj_M → Prop} (C : aj_Cx X cX0_makeProduct RX0 5 (n + 3)) (K : aj_Rt X none (fun r m => r = none ∧ Φ m)) : ∀ (k : Nat) (q0 : List Nat) (v1 : Int) (v2 : Int) (v3 : Int) (m : aj_M) (hq0 : (.inl (0, q0) : aj_R) ∈ aj_pls), hX0_makeProduct_28 f Φ k q0 v1 v2 v3 m → aj_J X 28 [some (vO 0 q0), some (vI v1), some (vI v2), some (vI v3), none] [] m := by
  intro k
  induction k with
  | zero =>
    intro q0 v1 v2 v3 m _ h
    exact h.elim
  | succ k ih =>
    intro q0 v1 v2 v3 m hq0 h
    unfold hX0_makeProduct_28 at h
    refine aj_iload_n C dX0_makeProduct_28 rfl ?_
    refine aj_aload_n C dX0_makeProduct_29 rfl ?_
    refine aj_getI C flX0_9 hq0 (by decide) dX0_makeProduct_30 rfl ?_
    obtain ⟨r0, r1, h1, h2⟩ := h
    refine aj_icmp_ge (tgt := 95) C dX0_makeProduct_33 (by decide) r0 r1 (fun e => ?_) (fun e => ?_)
    · have h := h1 e
      refine aj_aload_n C dX0_makeProduct_95 rfl ?_
      refine aj_callV (rest := []) C mvX0_29 (sX0_settle hq0 h) hq0 (aj_np 0 (by decide +kernel) rfl) (Nat.le_of_ble_eq_true rfl) rfl dX0_makeProduct_96 (fun r m1 h => ?_)
      obtain ⟨rfl, h⟩ := h
      exact aj_vret C K dX0_makeProduct_99 ⟨rfl, h⟩
    · have h := h2 e
      refine aj_iconst C dX0_makeProduct_36 ?_
      refine aj_istore (lv' := [some (vO 0 q0), some (vI v1), some (vI v2), some (vI v3), some (vI 0)]) C dX0_makeProduct_37 (by decide) rfl ?_
      exact tX0_makeProduct_39 C K (fun q0 v1 v2 v3 m hq0 hh => ih q0 v1 v2 v3 m hq0 hh) f q0 v1 v2 v3 0 _ hq0 h
def wX0_makeProduct (f : Nat) (Φ : aj_M → Prop) (q0 : List Nat) (v1 : Int) (v2 : Int) (m : aj_M) : Prop := rI v1 ∧ (v1 < 1 → Φ m) ∧ (¬ (v1 < 1) → rI v2 ∧ (v2 < 1 → Φ m) ∧ (¬ (v2 < 1) → rI (v1 * v2) ∧ ((v1 * v2) ≤ 12 → ∀ m1, m1 = aj_u m q0 0 (v1 * v2) → hX0_makeProduct_28 f Φ f q0 v1 v2 0 m1) ∧ (¬ ((v1 * v2) ≤ 12) → Φ m)))
set_option maxHeartbeats 4000000 in
set_option maxRecDepth 100000 in
theorem sX0_makeProduct {n f : Nat} {Φ : aj_M → Prop} {q0 : List Nat} {v1 : Int} {v2 : Int} {m : aj_M} (hq0 : (.inl (0, q0) : aj_R) ∈ aj_pls) (h : wX0_makeProduct f Φ q0 v1 v2 m) : aj_Ct (n + 3) yX0_makeProduct cX0_makeProduct 5 none [vO 0 q0, vI v1, vI v2] m (fun r m => r = none ∧ Φ m) := by
  refine aj_met (lv := [some (vO 0 q0), some (vI v1), some (vI v2), none, none]) (by decide +kernel) rfl (Nat.le_of_ble_eq_true rfl) (fun X C K => ?_)
  unfold wX0_makeProduct at h
  refine aj_iload_n C dX0_makeProduct_0 rfl ?_
  refine aj_iconst C dX0_makeProduct_1 ?_
  obtain ⟨r0, h1, h2⟩ := h
  refine aj_icmp_lt (tgt := 18) C dX0_makeProduct_2 (by decide) r0 (by decide) (fun e => ?_) (fun e => ?_)
  · have h := h1 e
    exact aj_vret C K dX0_makeProduct_18 ⟨rfl, h⟩
  · have h := h2 e
    refine aj_iload_n C dX0_makeProduct_5 rfl ?_
    refine aj_iconst C dX0_makeProduct_6 ?_
    obtain ⟨r0, h1, h2⟩ := h
    refine aj_icmp_lt (tgt := 18) C dX0_makeProduct_7 (by decide) r0 (by decide) (fun e => ?_) (fun e => ?_)
    · have h := h1 e
      exact aj_vret C K dX0_makeProduct_18 ⟨rfl, h⟩
    · have h := h2 e
      refine aj_iload_n C dX0_makeProduct_10 rfl ?_
      refine aj_iload_n C dX0_makeProduct_11 rfl ?_
      refine aj_imul C dX0_makeProduct_12 ?_
      refine aj_bipush C dX0_makeProduct_13 (by decide) ?_
      obtain ⟨r0, h1, h2⟩ := h
      refine aj_icmp_le (tgt := 19) C dX0_makeProduct_15 (by decide) r0 (by decide) (fun e => ?_) (fun e => ?_)
      · have h := h1 e
        refine aj_aload_n C dX0_makeProduct_19 rfl ?_
        refine aj_iload_n C dX0_makeProduct_20 rfl ?_
        refine aj_iload_n C dX0_makeProduct_21 rfl ?_
        refine aj_imul C dX0_makeProduct_22 ?_
        refine aj_putI C fpX0_9 hq0 rfl dX0_makeProduct_23 ?_
        refine aj_nm (fun m1 e1 => ?_)
        have h := h m1 e1
        refine aj_iconst C dX0_makeProduct_26 ?_
        refine aj_istore_n (lv' := [some (vO 0 q0), some (vI v1), some (vI v2), some (vI 0), none]) C dX0_makeProduct_27 (by decide) rfl ?_
        exact tX0_makeProduct_28 C K f q0 v1 v2 0 _ hq0 h
      · have h := h2 e
        exact aj_vret C K dX0_makeProduct_18 ⟨rfl, h⟩
theorem dX0_makeMirrors_0 : decode cX0_makeMirrors 0 = .ok (.iload_n 1, 1) := by decide +kernel
theorem dX0_makeMirrors_1 : decode cX0_makeMirrors 1 = .ok (.iconst 1, 1) := by decide +kernel
theorem dX0_makeMirrors_2 : decode cX0_makeMirrors 2 = .ok (.if_icmp .lt 11, 3) := by decide +kernel
theorem dX0_makeMirrors_5 : decode cX0_makeMirrors 5 = .ok (.iconst 2, 1) := by decide +kernel
theorem dX0_makeMirrors_6 : decode cX0_makeMirrors 6 = .ok (.iload_n 1, 1) := by decide +kernel
theorem dX0_makeMirrors_7 : decode cX0_makeMirrors 7 = .ok (.imul, 1) := by decide +kernel
theorem dX0_makeMirrors_8 : decode cX0_makeMirrors 8 = .ok (.bipush 12, 2) := by decide +kernel
theorem dX0_makeMirrors_10 : decode cX0_makeMirrors 10 = .ok (.if_icmp .le 4, 3) := by decide +kernel
theorem dX0_makeMirrors_13 : decode cX0_makeMirrors 13 = .ok (.return_, 1) := by decide +kernel
theorem dX0_makeMirrors_14 : decode cX0_makeMirrors 14 = .ok (.aload_n 0, 1) := by decide +kernel
theorem dX0_makeMirrors_15 : decode cX0_makeMirrors 15 = .ok (.iconst 2, 1) := by decide +kernel
theorem dX0_makeMirrors_16 : decode cX0_makeMirrors 16 = .ok (.iload_n 1, 1) := by decide +kernel
theorem dX0_makeMirrors_17 : decode cX0_makeMirrors 17 = .ok (.imul, 1) := by decide +kernel
theorem dX0_makeMirrors_18 : decode cX0_makeMirrors 18 = .ok (.putfield 9, 3) := by decide +kernel
theorem dX0_makeMirrors_21 : decode cX0_makeMirrors 21 = .ok (.iconst 0, 1) := by decide +kernel
theorem dX0_makeMirrors_22 : decode cX0_makeMirrors 22 = .ok (.istore_n 2, 1) := by decide +kernel
theorem dX0_makeMirrors_23 : decode cX0_makeMirrors 23 = .ok (.iload_n 2, 1) := by decide +kernel
theorem dX0_makeMirrors_24 : decode cX0_makeMirrors 24 = .ok (.aload_n 0, 1) := by decide +kernel
theorem dX0_makeMirrors_25 : decode cX0_makeMirrors 25 = .ok (.getfield 9, 3) := by decide +kernel
theorem dX0_makeMirrors_28 : decode cX0_makeMirrors 28 = .ok (.if_icmp .ge 103, 3) := by decide +kernel
theorem dX0_makeMirrors_31 : decode cX0_makeMirrors 31 = .ok (.iconst 0, 1) := by decide +kernel
theorem dX0_makeMirrors_32 : decode cX0_makeMirrors 32 = .ok (.istore_n 3, 1) := by decide +kernel
theorem dX0_makeMirrors_33 : decode cX0_makeMirrors 33 = .ok (.iload_n 3, 1) := by decide +kernel
theorem dX0_makeMirrors_34 : decode cX0_makeMirrors 34 = .ok (.aload_n 0, 1) := by decide +kernel
theorem dX0_makeMirrors_35 : decode cX0_makeMirrors 35 = .ok (.getfield 9, 3) := by decide +kernel
theorem dX0_makeMirrors_38 : decode cX0_makeMirrors 38 = .ok (.if_icmp .ge 87, 3) := by decide +kernel
theorem dX0_makeMirrors_41 : decode cX0_makeMirrors 41 = .ok (.iload_n 2, 1) := by decide +kernel
theorem dX0_makeMirrors_42 : decode cX0_makeMirrors 42 = .ok (.iload_n 1, 1) := by decide +kernel
theorem dX0_makeMirrors_43 : decode cX0_makeMirrors 43 = .ok (.if_icmp .ge 11, 3) := by decide +kernel
theorem dX0_makeMirrors_46 : decode cX0_makeMirrors 46 = .ok (.iload_n 2, 1) := by decide +kernel
theorem dX0_makeMirrors_47 : decode cX0_makeMirrors 47 = .ok (.iload_n 3, 1) := by decide +kernel
theorem dX0_makeMirrors_48 : decode cX0_makeMirrors 48 = .ok (.iload_n 1, 1) := by decide +kernel
theorem dX0_makeMirrors_49 : decode cX0_makeMirrors 49 = .ok (.irem, 1) := by decide +kernel
theorem dX0_makeMirrors_50 : decode cX0_makeMirrors 50 = .ok (.iadd, 1) := by decide +kernel
theorem dX0_makeMirrors_51 : decode cX0_makeMirrors 51 = .ok (.goto 10, 3) := by decide +kernel
theorem dX0_makeMirrors_54 : decode cX0_makeMirrors 54 = .ok (.iload_n 2, 1) := by decide +kernel
theorem dX0_makeMirrors_55 : decode cX0_makeMirrors 55 = .ok (.iload_n 3, 1) := by decide +kernel
theorem dX0_makeMirrors_56 : decode cX0_makeMirrors 56 = .ok (.iload_n 1, 1) := by decide +kernel
theorem dX0_makeMirrors_57 : decode cX0_makeMirrors 57 = .ok (.irem, 1) := by decide +kernel
theorem dX0_makeMirrors_58 : decode cX0_makeMirrors 58 = .ok (.isub, 1) := by decide +kernel
theorem dX0_makeMirrors_59 : decode cX0_makeMirrors 59 = .ok (.iload_n 1, 1) := by decide +kernel
theorem dX0_makeMirrors_60 : decode cX0_makeMirrors 60 = .ok (.iadd, 1) := by decide +kernel
theorem dX0_makeMirrors_61 : decode cX0_makeMirrors 61 = .ok (.istore 4, 2) := by decide +kernel
theorem dX0_makeMirrors_63 : decode cX0_makeMirrors 63 = .ok (.iload_n 2, 1) := by decide +kernel
theorem dX0_makeMirrors_64 : decode cX0_makeMirrors 64 = .ok (.iload_n 1, 1) := by decide +kernel
theorem dX0_makeMirrors_65 : decode cX0_makeMirrors 65 = .ok (.if_icmp .ge 7, 3) := by decide +kernel
theorem dX0_makeMirrors_68 : decode cX0_makeMirrors 68 = .ok (.iconst 1, 1) := by decide +kernel
theorem dX0_makeMirrors_69 : decode cX0_makeMirrors 69 = .ok (.goto 4, 3) := by decide +kernel
theorem dX0_makeMirrors_72 : decode cX0_makeMirrors 72 = .ok (.iconst 0, 1) := by decide +kernel
theorem dX0_makeMirrors_73 : decode cX0_makeMirrors 73 = .ok (.iload_n 3, 1) := by decide +kernel
theorem dX0_makeMirrors_74 : decode cX0_makeMirrors 74 = .ok (.iload_n 1, 1) := by decide +kernel
theorem dX0_makeMirrors_75 : decode cX0_makeMirrors 75 = .ok (.if_icmp .ge 7, 3) := by decide +kernel
theorem dX0_makeMirrors_78 : decode cX0_makeMirrors 78 = .ok (.iconst 1, 1) := by decide +kernel
theorem dX0_makeMirrors_79 : decode cX0_makeMirrors 79 = .ok (.goto 4, 3) := by decide +kernel
theorem dX0_makeMirrors_82 : decode cX0_makeMirrors 82 = .ok (.iconst 0, 1) := by decide +kernel
theorem dX0_makeMirrors_83 : decode cX0_makeMirrors 83 = .ok (.if_icmp .eq 7, 3) := by decide +kernel
theorem dX0_makeMirrors_86 : decode cX0_makeMirrors 86 = .ok (.iconst 1, 1) := by decide +kernel
theorem dX0_makeMirrors_87 : decode cX0_makeMirrors 87 = .ok (.goto 4, 3) := by decide +kernel
theorem dX0_makeMirrors_90 : decode cX0_makeMirrors 90 = .ok (.iconst 0, 1) := by decide +kernel
theorem dX0_makeMirrors_91 : decode cX0_makeMirrors 91 = .ok (.istore 5, 2) := by decide +kernel
theorem dX0_makeMirrors_93 : decode cX0_makeMirrors 93 = .ok (.aload_n 0, 1) := by decide +kernel
theorem dX0_makeMirrors_94 : decode cX0_makeMirrors 94 = .ok (.getfield 15, 3) := by decide +kernel
theorem dX0_makeMirrors_97 : decode cX0_makeMirrors 97 = .ok (.iload_n 2, 1) := by decide +kernel
theorem dX0_makeMirrors_98 : decode cX0_makeMirrors 98 = .ok (.bipush 12, 2) := by decide +kernel
theorem dX0_makeMirrors_100 : decode cX0_makeMirrors 100 = .ok (.imul, 1) := by decide +kernel
theorem dX0_makeMirrors_101 : decode cX0_makeMirrors 101 = .ok (.iload_n 3, 1) := by decide +kernel
theorem dX0_makeMirrors_102 : decode cX0_makeMirrors 102 = .ok (.iadd, 1) := by decide +kernel
theorem dX0_makeMirrors_103 : decode cX0_makeMirrors 103 = .ok (.iload 4, 2) := by decide +kernel
theorem dX0_makeMirrors_105 : decode cX0_makeMirrors 105 = .ok (.iload_n 1, 1) := by decide +kernel
theorem dX0_makeMirrors_106 : decode cX0_makeMirrors 106 = .ok (.irem, 1) := by decide +kernel
theorem dX0_makeMirrors_107 : decode cX0_makeMirrors 107 = .ok (.iload 5, 2) := by decide +kernel
theorem dX0_makeMirrors_109 : decode cX0_makeMirrors 109 = .ok (.ifCond .eq 7, 3) := by decide +kernel
theorem dX0_makeMirrors_112 : decode cX0_makeMirrors 112 = .ok (.iload_n 1, 1) := by decide +kernel
theorem dX0_makeMirrors_113 : decode cX0_makeMirrors 113 = .ok (.goto 4, 3) := by decide +kernel
theorem dX0_makeMirrors_116 : decode cX0_makeMirrors 116 = .ok (.iconst 0, 1) := by decide +kernel
theorem dX0_makeMirrors_117 : decode cX0_makeMirrors 117 = .ok (.iadd, 1) := by decide +kernel
theorem dX0_makeMirrors_118 : decode cX0_makeMirrors 118 = .ok (.iastore, 1) := by decide +kernel
theorem dX0_makeMirrors_119 : decode cX0_makeMirrors 119 = .ok (.iinc 3 1, 3) := by decide +kernel
theorem dX0_makeMirrors_122 : decode cX0_makeMirrors 122 = .ok (.goto (-89), 3) := by decide +kernel
theorem dX0_makeMirrors_125 : decode cX0_makeMirrors 125 = .ok (.iinc 2 1, 3) := by decide +kernel
theorem dX0_makeMirrors_128 : decode cX0_makeMirrors 128 = .ok (.goto (-105), 3) := by decide +kernel
theorem dX0_makeMirrors_131 : decode cX0_makeMirrors 131 = .ok (.aload_n 0, 1) := by decide +kernel
theorem dX0_makeMirrors_132 : decode cX0_makeMirrors 132 = .ok (.invokevirtual 29, 3) := by decide +kernel
theorem dX0_makeMirrors_135 : decode cX0_makeMirrors 135 = .ok (.return_, 1) := by decide +kernel
def hX0_makeMirrors_91 (f : Nat) (Φ : aj_M → Prop) (K23 : List Nat → Int → Int → aj_M → Prop) (K33 : List Nat → Int → Int → Int → aj_M → Prop) (q0 : List Nat) (v1 : Int) (v2 : Int) (v3 : Int) (v4 : Int) (vs0 : Int) (m : aj_M) : Prop := (0 ≤ v4 ∧ v4 < 2147483648) ∧ (0 < v1 ∧ v1 < 2147483648) ∧ rI vs0 ∧ (vs0 = 0 → (0 ≤ ((v2 * 12) + v3) ∧ ((v2 * 12) + v3) < 144) ∧ ∀ m1, m1 = aj_u m (1 :: q0) ((v2 * 12) + v3).toNat ((v4 % v1) + 0) → K33 q0 v1 v2 (v3 + 1) m1) ∧ (¬ (vs0 = 0) → (0 ≤ ((v2 * 12) + v3) ∧ ((v2 * 12) + v3) < 144) ∧ ∀ m2, m2 = aj_u m (1 :: q0) ((v2 * 12) + v3).toNat ((v4 % v1) + v1) → K33 q0 v1 v2 (v3 + 1) m2)
set_option maxHeartbeats 4000000 in
set_option maxRecDepth 100000 in
theorem tX0_makeMirrors_91 {X : aj_T} {n f : Nat} {Φ : aj_M → Prop} (C : aj_Cx X cX0_makeMirrors RX0 6 (n + 3)) (K : aj_Rt X none (fun r m => r = none ∧ Φ m)) {K23 : List Nat → Int → Int → aj_M → Prop} (HK23 : ∀ (q0 : List Nat) (v1 : Int) (v2 : Int) (m : aj_M) (hq0 : (.inl (0, q0) : aj_R) ∈ aj_pls), K23 q0 v1 v2 m → aj_J X 23 [some (vO 0 q0), some (vI v1), some (vI v2), none, none, none] [] m) {K33 : List Nat → Int → Int → Int → aj_M → Prop} (HK33 : ∀ (q0 : List Nat) (v1 : Int) (v2 : Int) (v3 : Int) (m : aj_M) (hq0 : (.inl (0, q0) : aj_R) ∈ aj_pls), K33 q0 v1 v2 v3 m → aj_J X 33 [some (vO 0 q0), some (vI v1), some (vI v2), some (vI v3), none, none] [] m) (q0 : List Nat) (v1 : Int) (v2 : Int) (v3 : Int) (v4 : Int) (vs0 : Int) (m : aj_M) (hq0 : (.inl (0, q0) : aj_R) ∈ aj_pls) (h : hX0_makeMirrors_91 f Φ K23 K33 q0 v1 v2 v3 v4 vs0 m) : aj_J X 91 [some (vO 0 q0), some (vI v1), some (vI v2), some (vI v3), some (vI v4), none] [vI vs0] m := by
  unfold hX0_makeMirrors_91 at h
  refine aj_istore (lv' := [some (vO 0 q0), some (vI v1), some (vI v2), some (vI v3), some (vI v4), some (vI vs0)]) C dX0_makeMirrors_91 (by decide) rfl ?_
  refine aj_aload_n C dX0_makeMirrors_93 rfl ?_
  refine aj_getA (x := 0) (y := 144) C flX0_15 hq0 rfl dX0_makeMirrors_94 ?_
  refine aj_iload_n C dX0_makeMirrors_97 rfl ?_
  refine aj_bipush C dX0_makeMirrors_98 (by decide) ?_
  refine aj_imul C dX0_makeMirrors_100 ?_
  refine aj_iload_n C dX0_makeMirrors_101 rfl ?_
  refine aj_iadd C dX0_makeMirrors_102 ?_
  refine aj_iload C dX0_makeMirrors_103 rfl ?_
  refine aj_iload_n C dX0_makeMirrors_105 rfl ?_
  obtain ⟨r0, r1, h⟩ := h
  refine aj_iremN C dX0_makeMirrors_106 r0 r1 ?_
  refine aj_iload C dX0_makeMirrors_107 rfl ?_
  obtain ⟨r0, h1, h2⟩ := h
  refine aj_if_eq (tgt := 116) C dX0_makeMirrors_109 (by decide) r0 (fun e => ?_) (fun e => ?_)
  · have h := h1 e
    refine aj_iconst C dX0_makeMirrors_116 ?_
    refine aj_iadd C dX0_makeMirrors_117 ?_
    obtain ⟨r0, h⟩ := h
    refine aj_iast C (aj_ca (e := 0) (n := 144) (j := 1) hq0 (by decide) rfl) (by decide) r0 dX0_makeMirrors_118 ?_
    refine aj_nm (fun m1 e1 => ?_)
    have h := h m1 e1
    refine aj_iinc (lv' := [some (vO 0 q0), some (vI v1), some (vI v2), some (vI (v3 + 1)), some (vI v4), some (vI vs0)]) C dX0_makeMirrors_119 rfl (by decide) rfl ?_
    refine aj_goto (tgt := 33) C dX0_makeMirrors_122 (by decide) ?_
    refine aj_wk (lv' := [some (vO 0 q0), some (vI v1), some (vI v2), some (vI (v3 + 1)), none, none]) (⟨rfl, ⟨rfl, ⟨rfl, ⟨rfl, trivial⟩⟩⟩⟩) ?_
    exact HK33 q0 v1 v2 (v3 + 1) _ hq0 h
  · have h := h2 e
    refine aj_iload_n C dX0_makeMirrors_112 rfl ?_
    refine aj_goto (tgt := 117) C dX0_makeMirrors_113 (by decide) ?_
    refine aj_iadd C dX0_makeMirrors_117 ?_
    obtain ⟨r0, h⟩ := h
    refine aj_iast C (aj_ca (e := 0) (n := 144) (j := 1) hq0 (by decide) rfl) (by decide) r0 dX0_makeMirrors_118 ?_
    refine aj_nm (fun m2 e1 => ?_)
    have h := h m2 e1
    refine aj_iinc (lv' := [some (vO 0 q0), some (vI v1), some (vI v2), some (vI (v3 + 1)), some (vI v4), some (vI vs0)]) C dX0_makeMirrors_119 rfl (by decide) rfl ?_
    refine aj_goto (tgt := 33) C dX0_makeMirrors_122 (by decide) ?_
    refine aj_wk (lv' := [some (vO 0 q0), some (vI v1), some (vI v2), some (vI (v3 + 1)), none, none]) (⟨rfl, ⟨rfl, ⟨rfl, ⟨rfl, trivial⟩⟩⟩⟩) ?_
    exact HK33 q0 v1 v2 (v3 + 1) _ hq0 h
def hX0_makeMirrors_61 (f : Nat) (Φ : aj_M → Prop) (K23 : List Nat → Int → Int → aj_M → Prop) (K33 : List Nat → Int → Int → Int → aj_M → Prop) (q0 : List Nat) (v1 : Int) (v2 : Int) (v3 : Int) (vs0 : Int) (m : aj_M) : Prop := rI v2 ∧ rI v1 ∧ (v1 ≤ v2 → rI v3 ∧ rI v1 ∧ (v1 ≤ v3 → hX0_makeMirrors_91 f Φ K23 K33 q0 v1 v2 v3 vs0 0 m) ∧ (¬ (v1 ≤ v3) → hX0_makeMirrors_91 f Φ K23 K33 q0 v1 v2 v3 vs0 1 m)) ∧ (¬ (v1 ≤ v2) → rI v3 ∧ rI v1 ∧ (v1 ≤ v3 → hX0_makeMirrors_91 f Φ K23 K33 q0 v1 v2 v3 vs0 1 m) ∧ (¬ (v1 ≤ v3) → hX0_makeMirrors_91 f Φ K23 K33 q0 v1 v2 v3 vs0 0 m))
set_option maxHeartbeats 4000000 in
set_option maxRecDepth 100000 in
theorem tX0_makeMirrors_61 {X : aj_T} {n f : Nat} {Φ : aj_M → Prop} (C : aj_Cx X cX0_makeMirrors RX0 6 (n + 3)) (K : aj_Rt X none (fun r m => r = none ∧ Φ m)) {K23 : List Nat → Int → Int → aj_M → Prop} (HK23 : ∀ (q0 : List Nat) (v1 : Int) (v2 : Int) (m : aj_M) (hq0 : (.inl (0, q0) : aj_R) ∈ aj_pls), K23 q0 v1 v2 m → aj_J X 23 [some (vO 0 q0), some (vI v1), some (vI v2), none, none, none] [] m) {K33 : List Nat → Int → Int → Int → aj_M → Prop} (HK33 : ∀ (q0 : List Nat) (v1 : Int) (v2 : Int) (v3 : Int) (m : aj_M) (hq0 : (.inl (0, q0) : aj_R) ∈ aj_pls), K33 q0 v1 v2 v3 m → aj_J X 33 [some (vO 0 q0), some (vI v1), some (vI v2), some (vI v3), none, none] [] m) (q0 : List Nat) (v1 : Int) (v2 : Int) (v3 : Int) (vs0 : Int) (m : aj_M) (hq0 : (.inl (0, q0) : aj_R) ∈ aj_pls) (h : hX0_makeMirrors_61 f Φ K23 K33 q0 v1 v2 v3 vs0 m) : aj_J X 61 [some (vO 0 q0), some (vI v1), some (vI v2), some (vI v3), none, none] [vI vs0] m := by
  unfold hX0_makeMirrors_61 at h
  refine aj_istore (lv' := [some (vO 0 q0), some (vI v1), some (vI v2), some (vI v3), some (vI vs0), none]) C dX0_makeMirrors_61 (by decide) rfl ?_
  refine aj_iload_n C dX0_makeMirrors_63 rfl ?_
  refine aj_iload_n C dX0_makeMirrors_64 rfl ?_
  obtain ⟨r0, r1, h1, h2⟩ := h
  refine aj_icmp_ge (tgt := 72) C dX0_makeMirrors_65 (by decide) r0 r1 (fun e => ?_) (fun e => ?_)
  · have h := h1 e
    refine aj_iconst C dX0_makeMirrors_72 ?_
    refine aj_iload_n C dX0_makeMirrors_73 rfl ?_
    refine aj_iload_n C dX0_makeMirrors_74 rfl ?_
    obtain ⟨r0, r1, h1, h2⟩ := h
    refine aj_icmp_ge (tgt := 82) C dX0_makeMirrors_75 (by decide) r0 r1 (fun e => ?_) (fun e => ?_)
    · have h := h1 e
      refine aj_iconst C dX0_makeMirrors_82 ?_
      refine aj_icmp_eq (tgt := 90) C dX0_makeMirrors_83 (by decide) (by decide) (by decide) (fun _ => ?_) (fun e => absurd (by decide : (0 : Int) = 0) e)
      refine aj_iconst C dX0_makeMirrors_90 ?_
      exact tX0_makeMirrors_91 C K HK23 HK33 q0 v1 v2 v3 vs0 0 _ hq0 h
    · have h := h2 e
      refine aj_iconst C dX0_makeMirrors_78 ?_
      refine aj_goto (tgt := 83) C dX0_makeMirrors_79 (by decide) ?_
      refine aj_icmp_eq (tgt := 90) C dX0_makeMirrors_83 (by decide) (by decide) (by decide) (fun e => absurd e (by decide)) (fun _ => ?_)
      refine aj_iconst C dX0_makeMirrors_86 ?_
      refine aj_goto (tgt := 91) C dX0_makeMirrors_87 (by decide) ?_
      exact tX0_makeMirrors_91 C K HK23 HK33 q0 v1 v2 v3 vs0 1 _ hq0 h
  · have h := h2 e
    refine aj_iconst C dX0_makeMirrors_68 ?_
    refine aj_goto (tgt := 73) C dX0_makeMirrors_69 (by decide) ?_
    refine aj_iload_n C dX0_makeMirrors_73 rfl ?_
    refine aj_iload_n C dX0_makeMirrors_74 rfl ?_
    obtain ⟨r0, r1, h1, h2⟩ := h
    refine aj_icmp_ge (tgt := 82) C dX0_makeMirrors_75 (by decide) r0 r1 (fun e => ?_) (fun e => ?_)
    · have h := h1 e
      refine aj_iconst C dX0_makeMirrors_82 ?_
      refine aj_icmp_eq (tgt := 90) C dX0_makeMirrors_83 (by decide) (by decide) (by decide) (fun e => absurd e (by decide)) (fun _ => ?_)
      refine aj_iconst C dX0_makeMirrors_86 ?_
      refine aj_goto (tgt := 91) C dX0_makeMirrors_87 (by decide) ?_
      exact tX0_makeMirrors_91 C K HK23 HK33 q0 v1 v2 v3 vs0 1 _ hq0 h
    · have h := h2 e
      refine aj_iconst C dX0_makeMirrors_78 ?_
      refine aj_goto (tgt := 83) C dX0_makeMirrors_79 (by decide) ?_
      refine aj_icmp_eq (tgt := 90) C dX0_makeMirrors_83 (by decide) (by decide) (by decide) (fun _ => ?_) (fun e => absurd (by decide : (1 : Int) = 1) e)
      refine aj_iconst C dX0_makeMirrors_90 ?_
      exact tX0_makeMirrors_91 C K HK23 HK33 q0 v1 v2 v3 vs0 0 _ hq0 h
def hX0_makeMirrors_33 (f : Nat) (Φ : aj_M → Prop) (K23 : List Nat → Int → Int → aj_M → Prop) : Nat → List Nat → Int → Int → Int → aj_M → Prop
  | 0, _, _, _, _, _ => False
  | k + 1, q0, v1, v2, v3, m => rI v3 ∧ rI (m q0 0) ∧ ((m q0 0) ≤ v3 → K23 q0 v1 (v2 + 1) m) ∧ (¬ ((m q0 0) ≤ v3) → rI v2 ∧ rI v1 ∧ (v1 ≤ v2 → (0 ≤ v3 ∧ v3 < 2147483648) ∧ (0 < v1 ∧ v1 < 2147483648) ∧ hX0_makeMirrors_61 f Φ K23 (fun q0 v1 v2 v3 m => hX0_makeMirrors_33 f Φ K23 k q0 v1 v2 v3 m) q0 v1 v2 v3 ((v2 - (v3 % v1)) + v1) m) ∧ (¬ (v1 ≤ v2) → (0 ≤ v3 ∧ v3 < 2147483648) ∧ (0 < v1 ∧ v1 < 2147483648) ∧ hX0_makeMirrors_61 f Φ K23 (fun q0 v1 v2 v3 m => hX0_makeMirrors_33 f Φ K23 k q0 v1 v2 v3 m) q0 v1 v2 v3 (v2 + (v3 % v1)) m))
set_option maxHeartbeats 4000000 in
set_option maxRecDepth 100000 in
theorem tX0_makeMirrors_33 {X : aj_T} {n f : Nat} {Φ : aj_M → Prop} (C : aj_Cx X cX0_makeMirrors RX0 6 (n + 3)) (K : aj_Rt X none (fun r m => r = none ∧ Φ m)) {K23 : List Nat → Int → Int → aj_M → Prop} (HK23 : ∀ (q0 : List Nat) (v1 : Int) (v2 : Int) (m : aj_M) (hq0 : (.inl (0, q0) : aj_R) ∈ aj_pls), K23 q0 v1 v2 m → aj_J X 23 [some (vO 0 q0), some (vI v1), some (vI v2), none, none, none] [] m) : ∀ (k : Nat) (q0 : List Nat) (v1 : Int) (v2 : Int) (v3 : Int) (m : aj_M) (hq0 : (.inl (0, q0) : aj_R) ∈ aj_pls), hX0_makeMirrors_33 f Φ K23 k q0 v1 v2 v3 m → aj_J X 33 [some (vO 0 q0), some (vI v1), some (vI v2), some (vI v3), none, none] [] m := by
  intro k
  induction k with
  | zero =>
    intro q0 v1 v2 v3 m _ h
    exact h.elim
  | succ k ih =>
    intro q0 v1 v2 v3 m hq0 h
    unfold hX0_makeMirrors_33 at h
    refine aj_iload_n C dX0_makeMirrors_33 rfl ?_
    refine aj_aload_n C dX0_makeMirrors_34 rfl ?_
    refine aj_getI C flX0_9 hq0 (by decide) dX0_makeMirrors_35 rfl ?_
    obtain ⟨r0, r1, h1, h2⟩ := h
    refine aj_icmp_ge (tgt := 125) C dX0_makeMirrors_38 (by decide) r0 r1 (fun e => ?_) (fun e => ?_)
    · have h := h1 e
      refine aj_iinc (lv' := [some (vO 0 q0), some (vI v1), some (vI (v2 + 1)), some (vI v3), none, none]) C dX0_makeMirrors_125 rfl (by decide) rfl ?_
      refine aj_goto (tgt := 23) C dX0_makeMirrors_128 (by decide) ?_
      refine aj_wk (lv' := [some (vO 0 q0), some (vI v1), some (vI (v2 + 1)), none, none, none]) (⟨rfl, ⟨rfl, ⟨rfl, trivial⟩⟩⟩) ?_
      exact HK23 q0 v1 (v2 + 1) _ hq0 h
    · have h := h2 e
      refine aj_iload_n C dX0_makeMirrors_41 rfl ?_
      refine aj_iload_n C dX0_makeMirrors_42 rfl ?_
      obtain ⟨r0, r1, h1, h2⟩ := h
      refine aj_icmp_ge (tgt := 54) C dX0_makeMirrors_43 (by decide) r0 r1 (fun e => ?_) (fun e => ?_)
      · have h := h1 e
        refine aj_iload_n C dX0_makeMirrors_54 rfl ?_
        refine aj_iload_n C dX0_makeMirrors_55 rfl ?_
        refine aj_iload_n C dX0_makeMirrors_56 rfl ?_
        obtain ⟨r0, r1, h⟩ := h
        refine aj_iremN C dX0_makeMirrors_57 r0 r1 ?_
        refine aj_isub C dX0_makeMirrors_58 ?_
        refine aj_iload_n C dX0_makeMirrors_59 rfl ?_
        refine aj_iadd C dX0_makeMirrors_60 ?_
        exact tX0_makeMirrors_61 C K HK23 (fun q0 v1 v2 v3 m hq0 hh => ih q0 v1 v2 v3 m hq0 hh) q0 v1 v2 v3 ((v2 - (v3 % v1)) + v1) _ hq0 h
      · have h := h2 e
        refine aj_iload_n C dX0_makeMirrors_46 rfl ?_
        refine aj_iload_n C dX0_makeMirrors_47 rfl ?_
        refine aj_iload_n C dX0_makeMirrors_48 rfl ?_
        obtain ⟨r0, r1, h⟩ := h
        refine aj_iremN C dX0_makeMirrors_49 r0 r1 ?_
        refine aj_iadd C dX0_makeMirrors_50 ?_
        refine aj_goto (tgt := 61) C dX0_makeMirrors_51 (by decide) ?_
        exact tX0_makeMirrors_61 C K HK23 (fun q0 v1 v2 v3 m hq0 hh => ih q0 v1 v2 v3 m hq0 hh) q0 v1 v2 v3 (v2 + (v3 % v1)) _ hq0 h
def hX0_makeMirrors_23 (f : Nat) (Φ : aj_M → Prop) : Nat → List Nat → Int → Int → aj_M → Prop
  | 0, _, _, _, _ => False
  | k + 1, q0, v1, v2, m => rI v2 ∧ rI (m q0 0) ∧ ((m q0 0) ≤ v2 → wX0_settle f (fun m1 => Φ m1) q0 m) ∧ (¬ ((m q0 0) ≤ v2) → hX0_makeMirrors_33 f Φ (fun q0 v1 v2 m => hX0_makeMirrors_23 f Φ k q0 v1 v2 m) f q0 v1 v2 0 m)
set_option maxHeartbeats 4000000 in
set_option maxRecDepth 100000 in
theorem tX0_makeMirrors_23 {X : aj_T} {n f : Nat} {Φ : aj_M → Prop} (C : aj_Cx X cX0_makeMirrors RX0 6 (n + 3)) (K : aj_Rt X none (fun r m => r = none ∧ Φ m)) : ∀ (k : Nat) (q0 : List Nat) (v1 : Int) (v2 : Int) (m : aj_M) (hq0 : (.inl (0, q0) : aj_R) ∈ aj_pls), hX0_makeMirrors_23 f Φ k q0 v1 v2 m → aj_J X 23 [some (vO 0 q0), some (vI v1), some (vI v2), none, none, none] [] m := by
  intro k
  induction k with
  | zero =>
    intro q0 v1 v2 m _ h
    exact h.elim
  | succ k ih =>
    intro q0 v1 v2 m hq0 h
    unfold hX0_makeMirrors_23 at h
    refine aj_iload_n C dX0_makeMirrors_23 rfl ?_
    refine aj_aload_n C dX0_makeMirrors_24 rfl ?_
    refine aj_getI C flX0_9 hq0 (by decide) dX0_makeMirrors_25 rfl ?_
    obtain ⟨r0, r1, h1, h2⟩ := h
    refine aj_icmp_ge (tgt := 131) C dX0_makeMirrors_28 (by decide) r0 r1 (fun e => ?_) (fun e => ?_)
    · have h := h1 e
      refine aj_aload_n C dX0_makeMirrors_131 rfl ?_
      refine aj_callV (rest := []) C mvX0_29 (sX0_settle hq0 h) hq0 (aj_np 0 (by decide +kernel) rfl) (Nat.le_of_ble_eq_true rfl) rfl dX0_makeMirrors_132 (fun r m1 h => ?_)
      obtain ⟨rfl, h⟩ := h
      exact aj_vret C K dX0_makeMirrors_135 ⟨rfl, h⟩
    · have h := h2 e
      refine aj_iconst C dX0_makeMirrors_31 ?_
      refine aj_istore_n (lv' := [some (vO 0 q0), some (vI v1), some (vI v2), some (vI 0), none, none]) C dX0_makeMirrors_32 (by decide) rfl ?_
      exact tX0_makeMirrors_33 C K (fun q0 v1 v2 m hq0 hh => ih q0 v1 v2 m hq0 hh) f q0 v1 v2 0 _ hq0 h
def wX0_makeMirrors (f : Nat) (Φ : aj_M → Prop) (q0 : List Nat) (v1 : Int) (m : aj_M) : Prop := rI v1 ∧ (v1 < 1 → Φ m) ∧ (¬ (v1 < 1) → rI (2 * v1) ∧ ((2 * v1) ≤ 12 → ∀ m1, m1 = aj_u m q0 0 (2 * v1) → hX0_makeMirrors_23 f Φ f q0 v1 0 m1) ∧ (¬ ((2 * v1) ≤ 12) → Φ m))
set_option maxHeartbeats 4000000 in
set_option maxRecDepth 100000 in
theorem sX0_makeMirrors {n f : Nat} {Φ : aj_M → Prop} {q0 : List Nat} {v1 : Int} {m : aj_M} (hq0 : (.inl (0, q0) : aj_R) ∈ aj_pls) (h : wX0_makeMirrors f Φ q0 v1 m) : aj_Ct (n + 3) yX0_makeMirrors cX0_makeMirrors 6 none [vO 0 q0, vI v1] m (fun r m => r = none ∧ Φ m) := by
  refine aj_met (lv := [some (vO 0 q0), some (vI v1), none, none, none, none]) (by decide +kernel) rfl (Nat.le_of_ble_eq_true rfl) (fun X C K => ?_)
  unfold wX0_makeMirrors at h
  refine aj_iload_n C dX0_makeMirrors_0 rfl ?_
  refine aj_iconst C dX0_makeMirrors_1 ?_
  obtain ⟨r0, h1, h2⟩ := h
  refine aj_icmp_lt (tgt := 13) C dX0_makeMirrors_2 (by decide) r0 (by decide) (fun e => ?_) (fun e => ?_)
  · have h := h1 e
    exact aj_vret C K dX0_makeMirrors_13 ⟨rfl, h⟩
  · have h := h2 e
    refine aj_iconst C dX0_makeMirrors_5 ?_
    refine aj_iload_n C dX0_makeMirrors_6 rfl ?_
    refine aj_imul C dX0_makeMirrors_7 ?_
    refine aj_bipush C dX0_makeMirrors_8 (by decide) ?_
    obtain ⟨r0, h1, h2⟩ := h
    refine aj_icmp_le (tgt := 14) C dX0_makeMirrors_10 (by decide) r0 (by decide) (fun e => ?_) (fun e => ?_)
    · have h := h1 e
      refine aj_aload_n C dX0_makeMirrors_14 rfl ?_
      refine aj_iconst C dX0_makeMirrors_15 ?_
      refine aj_iload_n C dX0_makeMirrors_16 rfl ?_
      refine aj_imul C dX0_makeMirrors_17 ?_
      refine aj_putI C fpX0_9 hq0 rfl dX0_makeMirrors_18 ?_
      refine aj_nm (fun m1 e1 => ?_)
      have h := h m1 e1
      refine aj_iconst C dX0_makeMirrors_21 ?_
      refine aj_istore_n (lv' := [some (vO 0 q0), some (vI v1), some (vI 0), none, none, none]) C dX0_makeMirrors_22 (by decide) rfl ?_
      exact tX0_makeMirrors_23 C K f q0 v1 0 _ hq0 h
    · have h := h2 e
      exact aj_vret C K dX0_makeMirrors_13 ⟨rfl, h⟩
theorem dX0_makeQuaternions_0 : decode cX0_makeQuaternions 0 = .ok (.aload_n 0, 1) := by decide +kernel
theorem dX0_makeQuaternions_1 : decode cX0_makeQuaternions 1 = .ok (.bipush 8, 2) := by decide +kernel
theorem dX0_makeQuaternions_3 : decode cX0_makeQuaternions 3 = .ok (.putfield 9, 3) := by decide +kernel
theorem dX0_makeQuaternions_6 : decode cX0_makeQuaternions 6 = .ok (.iconst 0, 1) := by decide +kernel
theorem dX0_makeQuaternions_7 : decode cX0_makeQuaternions 7 = .ok (.istore_n 1, 1) := by decide +kernel
theorem dX0_makeQuaternions_8 : decode cX0_makeQuaternions 8 = .ok (.iload_n 1, 1) := by decide +kernel
theorem dX0_makeQuaternions_9 : decode cX0_makeQuaternions 9 = .ok (.aload_n 0, 1) := by decide +kernel
theorem dX0_makeQuaternions_10 : decode cX0_makeQuaternions 10 = .ok (.getfield 9, 3) := by decide +kernel
theorem dX0_makeQuaternions_13 : decode cX0_makeQuaternions 13 = .ok (.if_icmp .ge 66, 3) := by decide +kernel
theorem dX0_makeQuaternions_16 : decode cX0_makeQuaternions 16 = .ok (.iconst 0, 1) := by decide +kernel
theorem dX0_makeQuaternions_17 : decode cX0_makeQuaternions 17 = .ok (.istore_n 2, 1) := by decide +kernel
theorem dX0_makeQuaternions_18 : decode cX0_makeQuaternions 18 = .ok (.iload_n 2, 1) := by decide +kernel
theorem dX0_makeQuaternions_19 : decode cX0_makeQuaternions 19 = .ok (.aload_n 0, 1) := by decide +kernel
theorem dX0_makeQuaternions_20 : decode cX0_makeQuaternions 20 = .ok (.getfield 9, 3) := by decide +kernel
theorem dX0_makeQuaternions_23 : decode cX0_makeQuaternions 23 = .ok (.if_icmp .ge 50, 3) := by decide +kernel
theorem dX0_makeQuaternions_26 : decode cX0_makeQuaternions 26 = .ok (.getstatic 32, 3) := by decide +kernel
theorem dX0_makeQuaternions_29 : decode cX0_makeQuaternions 29 = .ok (.iload_n 1, 1) := by decide +kernel
theorem dX0_makeQuaternions_30 : decode cX0_makeQuaternions 30 = .ok (.iconst 4, 1) := by decide +kernel
theorem dX0_makeQuaternions_31 : decode cX0_makeQuaternions 31 = .ok (.irem, 1) := by decide +kernel
theorem dX0_makeQuaternions_32 : decode cX0_makeQuaternions 32 = .ok (.iconst 4, 1) := by decide +kernel
theorem dX0_makeQuaternions_33 : decode cX0_makeQuaternions 33 = .ok (.imul, 1) := by decide +kernel
theorem dX0_makeQuaternions_34 : decode cX0_makeQuaternions 34 = .ok (.iload_n 2, 1) := by decide +kernel
theorem dX0_makeQuaternions_35 : decode cX0_makeQuaternions 35 = .ok (.iconst 4, 1) := by decide +kernel
theorem dX0_makeQuaternions_36 : decode cX0_makeQuaternions 36 = .ok (.irem, 1) := by decide +kernel
theorem dX0_makeQuaternions_37 : decode cX0_makeQuaternions 37 = .ok (.iadd, 1) := by decide +kernel
theorem dX0_makeQuaternions_38 : decode cX0_makeQuaternions 38 = .ok (.iaload, 1) := by decide +kernel
theorem dX0_makeQuaternions_39 : decode cX0_makeQuaternions 39 = .ok (.istore_n 3, 1) := by decide +kernel
theorem dX0_makeQuaternions_40 : decode cX0_makeQuaternions 40 = .ok (.aload_n 0, 1) := by decide +kernel
theorem dX0_makeQuaternions_41 : decode cX0_makeQuaternions 41 = .ok (.getfield 15, 3) := by decide +kernel
theorem dX0_makeQuaternions_44 : decode cX0_makeQuaternions 44 = .ok (.iload_n 1, 1) := by decide +kernel
theorem dX0_makeQuaternions_45 : decode cX0_makeQuaternions 45 = .ok (.bipush 12, 2) := by decide +kernel
theorem dX0_makeQuaternions_47 : decode cX0_makeQuaternions 47 = .ok (.imul, 1) := by decide +kernel
theorem dX0_makeQuaternions_48 : decode cX0_makeQuaternions 48 = .ok (.iload_n 2, 1) := by decide +kernel
theorem dX0_makeQuaternions_49 : decode cX0_makeQuaternions 49 = .ok (.iadd, 1) := by decide +kernel
theorem dX0_makeQuaternions_50 : decode cX0_makeQuaternions 50 = .ok (.iload_n 3, 1) := by decide +kernel
theorem dX0_makeQuaternions_51 : decode cX0_makeQuaternions 51 = .ok (.iload_n 1, 1) := by decide +kernel
theorem dX0_makeQuaternions_52 : decode cX0_makeQuaternions 52 = .ok (.iconst 4, 1) := by decide +kernel
theorem dX0_makeQuaternions_53 : decode cX0_makeQuaternions 53 = .ok (.idiv, 1) := by decide +kernel
theorem dX0_makeQuaternions_54 : decode cX0_makeQuaternions 54 = .ok (.iconst 4, 1) := by decide +kernel
theorem dX0_makeQuaternions_55 : decode cX0_makeQuaternions 55 = .ok (.imul, 1) := by decide +kernel
theorem dX0_makeQuaternions_56 : decode cX0_makeQuaternions 56 = .ok (.iadd, 1) := by decide +kernel
theorem dX0_makeQuaternions_57 : decode cX0_makeQuaternions 57 = .ok (.iload_n 2, 1) := by decide +kernel
theorem dX0_makeQuaternions_58 : decode cX0_makeQuaternions 58 = .ok (.iconst 4, 1) := by decide +kernel
theorem dX0_makeQuaternions_59 : decode cX0_makeQuaternions 59 = .ok (.idiv, 1) := by decide +kernel
theorem dX0_makeQuaternions_60 : decode cX0_makeQuaternions 60 = .ok (.iconst 4, 1) := by decide +kernel
theorem dX0_makeQuaternions_61 : decode cX0_makeQuaternions 61 = .ok (.imul, 1) := by decide +kernel
theorem dX0_makeQuaternions_62 : decode cX0_makeQuaternions 62 = .ok (.iadd, 1) := by decide +kernel
theorem dX0_makeQuaternions_63 : decode cX0_makeQuaternions 63 = .ok (.bipush 8, 2) := by decide +kernel
theorem dX0_makeQuaternions_65 : decode cX0_makeQuaternions 65 = .ok (.irem, 1) := by decide +kernel
theorem dX0_makeQuaternions_66 : decode cX0_makeQuaternions 66 = .ok (.iastore, 1) := by decide +kernel
theorem dX0_makeQuaternions_67 : decode cX0_makeQuaternions 67 = .ok (.iinc 2 1, 3) := by decide +kernel
theorem dX0_makeQuaternions_70 : decode cX0_makeQuaternions 70 = .ok (.goto (-52), 3) := by decide +kernel
theorem dX0_makeQuaternions_73 : decode cX0_makeQuaternions 73 = .ok (.iinc 1 1, 3) := by decide +kernel
theorem dX0_makeQuaternions_76 : decode cX0_makeQuaternions 76 = .ok (.goto (-68), 3) := by decide +kernel
theorem dX0_makeQuaternions_79 : decode cX0_makeQuaternions 79 = .ok (.aload_n 0, 1) := by decide +kernel
theorem dX0_makeQuaternions_80 : decode cX0_makeQuaternions 80 = .ok (.invokevirtual 29, 3) := by decide +kernel
theorem dX0_makeQuaternions_83 : decode cX0_makeQuaternions 83 = .ok (.return_, 1) := by decide +kernel
def hX0_makeQuaternions_18 (f : Nat) (Φ : aj_M → Prop) (K8 : List Nat → Int → aj_M → Prop) : Nat → List Nat → Int → Int → aj_M → Prop
  | 0, _, _, _, _ => False
  | k + 1, q0, v1, v2, m => rI v2 ∧ rI (m q0 0) ∧ ((m q0 0) ≤ v2 → K8 q0 (v1 + 1) m) ∧ (¬ ((m q0 0) ≤ v2) → (0 ≤ v1 ∧ v1 < 2147483648) ∧ (0 ≤ v2 ∧ v2 < 2147483648) ∧ (0 ≤ (((v1 % 4) * 4) + (v2 % 4)) ∧ (((v1 % 4) * 4) + (v2 % 4)) < 16) ∧ (0 ≤ v1 ∧ v1 < 2147483648) ∧ (0 ≤ v2 ∧ v2 < 2147483648) ∧ (0 ≤ (((aj_axv (((v1 % 4) * 4) + (v2 % 4)).toNat) + ((v1 / 4) * 4)) + ((v2 / 4) * 4)) ∧ (((aj_axv (((v1 % 4) * 4) + (v2 % 4)).toNat) + ((v1 / 4) * 4)) + ((v2 / 4) * 4)) < 2147483648) ∧ (0 ≤ ((v1 * 12) + v2) ∧ ((v1 * 12) + v2) < 144) ∧ ∀ m1, m1 = aj_u m (1 :: q0) ((v1 * 12) + v2).toNat ((((aj_axv (((v1 % 4) * 4) + (v2 % 4)).toNat) + ((v1 / 4) * 4)) + ((v2 / 4) * 4)) % 8) → hX0_makeQuaternions_18 f Φ K8 k q0 v1 (v2 + 1) m1)
set_option maxHeartbeats 4000000 in
set_option maxRecDepth 100000 in
theorem tX0_makeQuaternions_18 {X : aj_T} {n f : Nat} {Φ : aj_M → Prop} (C : aj_Cx X cX0_makeQuaternions RX0 4 (n + 3)) (K : aj_Rt X none (fun r m => r = none ∧ Φ m)) {K8 : List Nat → Int → aj_M → Prop} (HK8 : ∀ (q0 : List Nat) (v1 : Int) (m : aj_M) (hq0 : (.inl (0, q0) : aj_R) ∈ aj_pls), K8 q0 v1 m → aj_J X 8 [some (vO 0 q0), some (vI v1), none, none] [] m) : ∀ (k : Nat) (q0 : List Nat) (v1 : Int) (v2 : Int) (m : aj_M) (hq0 : (.inl (0, q0) : aj_R) ∈ aj_pls), hX0_makeQuaternions_18 f Φ K8 k q0 v1 v2 m → aj_J X 18 [some (vO 0 q0), some (vI v1), some (vI v2), none] [] m := by
  intro k
  induction k with
  | zero =>
    intro q0 v1 v2 m _ h
    exact h.elim
  | succ k ih =>
    intro q0 v1 v2 m hq0 h
    unfold hX0_makeQuaternions_18 at h
    refine aj_iload_n C dX0_makeQuaternions_18 rfl ?_
    refine aj_aload_n C dX0_makeQuaternions_19 rfl ?_
    refine aj_getI C flX0_9 hq0 (by decide) dX0_makeQuaternions_20 rfl ?_
    obtain ⟨r0, r1, h1, h2⟩ := h
    refine aj_icmp_ge (tgt := 73) C dX0_makeQuaternions_23 (by decide) r0 r1 (fun e => ?_) (fun e => ?_)
    · have h := h1 e
      refine aj_iinc (lv' := [some (vO 0 q0), some (vI (v1 + 1)), some (vI v2), none]) C dX0_makeQuaternions_73 rfl (by decide) rfl ?_
      refine aj_goto (tgt := 8) C dX0_makeQuaternions_76 (by decide) ?_
      refine aj_wk (lv' := [some (vO 0 q0), some (vI (v1 + 1)), none, none]) (⟨rfl, ⟨rfl, trivial⟩⟩) ?_
      exact HK8 q0 (v1 + 1) _ hq0 h
    · have h := h2 e
      refine aj_getsX C K fsX0_32 dX0_makeQuaternions_26 ?_
      refine aj_iload_n C dX0_makeQuaternions_29 rfl ?_
      refine aj_iconst C dX0_makeQuaternions_30 ?_
      obtain ⟨r0, h⟩ := h
      refine aj_iremN C dX0_makeQuaternions_31 r0 (by decide) ?_
      refine aj_iconst C dX0_makeQuaternions_32 ?_
      refine aj_imul C dX0_makeQuaternions_33 ?_
      refine aj_iload_n C dX0_makeQuaternions_34 rfl ?_
      refine aj_iconst C dX0_makeQuaternions_35 ?_
      obtain ⟨r0, h⟩ := h
      refine aj_iremN C dX0_makeQuaternions_36 r0 (by decide) ?_
      refine aj_iadd C dX0_makeQuaternions_37 ?_
      obtain ⟨r0, h⟩ := h
      refine aj_ialdX C K r0 dX0_makeQuaternions_38 ?_
      refine aj_istore_n (lv' := [some (vO 0 q0), some (vI v1), some (vI v2), some (vI (aj_axv (((v1 % 4) * 4) + (v2 % 4)).toNat))]) C dX0_makeQuaternions_39 (by decide) rfl ?_
      refine aj_aload_n C dX0_makeQuaternions_40 rfl ?_
      refine aj_getA (x := 0) (y := 144) C flX0_15 hq0 rfl dX0_makeQuaternions_41 ?_
      refine aj_iload_n C dX0_makeQuaternions_44 rfl ?_
      refine aj_bipush C dX0_makeQuaternions_45 (by decide) ?_
      refine aj_imul C dX0_makeQuaternions_47 ?_
      refine aj_iload_n C dX0_makeQuaternions_48 rfl ?_
      refine aj_iadd C dX0_makeQuaternions_49 ?_
      refine aj_iload_n C dX0_makeQuaternions_50 rfl ?_
      refine aj_iload_n C dX0_makeQuaternions_51 rfl ?_
      refine aj_iconst C dX0_makeQuaternions_52 ?_
      obtain ⟨r0, h⟩ := h
      refine aj_idivN C dX0_makeQuaternions_53 r0 (by decide) ?_
      refine aj_iconst C dX0_makeQuaternions_54 ?_
      refine aj_imul C dX0_makeQuaternions_55 ?_
      refine aj_iadd C dX0_makeQuaternions_56 ?_
      refine aj_iload_n C dX0_makeQuaternions_57 rfl ?_
      refine aj_iconst C dX0_makeQuaternions_58 ?_
      obtain ⟨r0, h⟩ := h
      refine aj_idivN C dX0_makeQuaternions_59 r0 (by decide) ?_
      refine aj_iconst C dX0_makeQuaternions_60 ?_
      refine aj_imul C dX0_makeQuaternions_61 ?_
      refine aj_iadd C dX0_makeQuaternions_62 ?_
      refine aj_bipush C dX0_makeQuaternions_63 (by decide) ?_
      obtain ⟨r0, h⟩ := h
      refine aj_iremN C dX0_makeQuaternions_65 r0 (by decide) ?_
      obtain ⟨r0, h⟩ := h
      refine aj_iast C (aj_ca (e := 0) (n := 144) (j := 1) hq0 (by decide) rfl) (by decide) r0 dX0_makeQuaternions_66 ?_
      refine aj_nm (fun m1 e1 => ?_)
      have h := h m1 e1
      refine aj_iinc (lv' := [some (vO 0 q0), some (vI v1), some (vI (v2 + 1)), some (vI (aj_axv (((v1 % 4) * 4) + (v2 % 4)).toNat))]) C dX0_makeQuaternions_67 rfl (by decide) rfl ?_
      refine aj_goto (tgt := 18) C dX0_makeQuaternions_70 (by decide) ?_
      refine aj_wk (lv' := [some (vO 0 q0), some (vI v1), some (vI (v2 + 1)), none]) (⟨rfl, ⟨rfl, ⟨rfl, trivial⟩⟩⟩) ?_
      exact ih q0 v1 (v2 + 1) _ hq0 h
def hX0_makeQuaternions_8 (f : Nat) (Φ : aj_M → Prop) : Nat → List Nat → Int → aj_M → Prop
  | 0, _, _, _ => False
  | k + 1, q0, v1, m => rI v1 ∧ rI (m q0 0) ∧ ((m q0 0) ≤ v1 → wX0_settle f (fun m1 => Φ m1) q0 m) ∧ (¬ ((m q0 0) ≤ v1) → hX0_makeQuaternions_18 f Φ (fun q0 v1 m => hX0_makeQuaternions_8 f Φ k q0 v1 m) f q0 v1 0 m)
set_option maxHeartbeats 4000000 in
set_option maxRecDepth 100000 in
theorem tX0_makeQuaternions_8 {X : aj_T} {n f : Nat} {Φ : aj_M → Prop} (C : aj_Cx X cX0_makeQuaternions RX0 4 (n + 3)) (K : aj_Rt X none (fun r m => r = none ∧ Φ m)) : ∀ (k : Nat) (q0 : List Nat) (v1 : Int) (m : aj_M) (hq0 : (.inl (0, q0) : aj_R) ∈ aj_pls), hX0_makeQuaternions_8 f Φ k q0 v1 m → aj_J X 8 [some (vO 0 q0), some (vI v1), none, none] [] m := by
  intro k
  induction k with
  | zero =>
    intro q0 v1 m _ h
    exact h.elim
  | succ k ih =>
    intro q0 v1 m hq0 h
    unfold hX0_makeQuaternions_8 at h
    refine aj_iload_n C dX0_makeQuaternions_8 rfl ?_
    refine aj_aload_n C dX0_makeQuaternions_9 rfl ?_
    refine aj_getI C flX0_9 hq0 (by decide) dX0_makeQuaternions_10 rfl ?_
    obtain ⟨r0, r1, h1, h2⟩ := h
    refine aj_icmp_ge (tgt := 79) C dX0_makeQuaternions_13 (by decide) r0 r1 (fun e => ?_) (fun e => ?_)
    · have h := h1 e
      refine aj_aload_n C dX0_makeQuaternions_79 rfl ?_
      refine aj_callV (rest := []) C mvX0_29 (sX0_settle hq0 h) hq0 (aj_np 0 (by decide +kernel) rfl) (Nat.le_of_ble_eq_true rfl) rfl dX0_makeQuaternions_80 (fun r m1 h => ?_)
      obtain ⟨rfl, h⟩ := h
      exact aj_vret C K dX0_makeQuaternions_83 ⟨rfl, h⟩
    · have h := h2 e
      refine aj_iconst C dX0_makeQuaternions_16 ?_
      refine aj_istore_n (lv' := [some (vO 0 q0), some (vI v1), some (vI 0), none]) C dX0_makeQuaternions_17 (by decide) rfl ?_
      exact tX0_makeQuaternions_18 C K (fun q0 v1 m hq0 hh => ih q0 v1 m hq0 hh) f q0 v1 0 _ hq0 h
def wX0_makeQuaternions (f : Nat) (Φ : aj_M → Prop) (q0 : List Nat) (m : aj_M) : Prop := ∀ m1, m1 = aj_u m q0 0 8 → hX0_makeQuaternions_8 f Φ f q0 0 m1
set_option maxHeartbeats 4000000 in
set_option maxRecDepth 100000 in
theorem sX0_makeQuaternions {n f : Nat} {Φ : aj_M → Prop} {q0 : List Nat} {m : aj_M} (hq0 : (.inl (0, q0) : aj_R) ∈ aj_pls) (h : wX0_makeQuaternions f Φ q0 m) : aj_Ct (n + 3) yX0_makeQuaternions cX0_makeQuaternions 4 none [vO 0 q0] m (fun r m => r = none ∧ Φ m) := by
  refine aj_met (lv := [some (vO 0 q0), none, none, none]) (by decide +kernel) rfl (Nat.le_of_ble_eq_true rfl) (fun X C K => ?_)
  unfold wX0_makeQuaternions at h
  refine aj_aload_n C dX0_makeQuaternions_0 rfl ?_
  refine aj_bipush C dX0_makeQuaternions_1 (by decide) ?_
  refine aj_putI C fpX0_9 hq0 rfl dX0_makeQuaternions_3 ?_
  refine aj_nm (fun m1 e1 => ?_)
  have h := h m1 e1
  refine aj_iconst C dX0_makeQuaternions_6 ?_
  refine aj_istore_n (lv' := [some (vO 0 q0), some (vI 0), none, none]) C dX0_makeQuaternions_7 (by decide) rfl ?_
  exact tX0_makeQuaternions_8 C K f q0 0 _ hq0 h
theorem dX0_centrals_0 : decode cX0_centrals 0 = .ok (.iconst 0, 1) := by decide +kernel
theorem dX0_centrals_1 : decode cX0_centrals 1 = .ok (.istore_n 1, 1) := by decide +kernel
theorem dX0_centrals_2 : decode cX0_centrals 2 = .ok (.iconst 0, 1) := by decide +kernel
theorem dX0_centrals_3 : decode cX0_centrals 3 = .ok (.istore_n 2, 1) := by decide +kernel
theorem dX0_centrals_4 : decode cX0_centrals 4 = .ok (.iload_n 2, 1) := by decide +kernel
theorem dX0_centrals_5 : decode cX0_centrals 5 = .ok (.aload_n 0, 1) := by decide +kernel
theorem dX0_centrals_6 : decode cX0_centrals 6 = .ok (.getfield 9, 3) := by decide +kernel
theorem dX0_centrals_9 : decode cX0_centrals 9 = .ok (.if_icmp .ge 66, 3) := by decide +kernel
theorem dX0_centrals_12 : decode cX0_centrals 12 = .ok (.iconst 1, 1) := by decide +kernel
theorem dX0_centrals_13 : decode cX0_centrals 13 = .ok (.istore_n 3, 1) := by decide +kernel
theorem dX0_centrals_14 : decode cX0_centrals 14 = .ok (.iconst 0, 1) := by decide +kernel
theorem dX0_centrals_15 : decode cX0_centrals 15 = .ok (.istore 4, 2) := by decide +kernel
theorem dX0_centrals_17 : decode cX0_centrals 17 = .ok (.iload 4, 2) := by decide +kernel
theorem dX0_centrals_19 : decode cX0_centrals 19 = .ok (.aload_n 0, 1) := by decide +kernel
theorem dX0_centrals_20 : decode cX0_centrals 20 = .ok (.getfield 9, 3) := by decide +kernel
theorem dX0_centrals_23 : decode cX0_centrals 23 = .ok (.if_icmp .ge 34, 3) := by decide +kernel
theorem dX0_centrals_26 : decode cX0_centrals 26 = .ok (.iload_n 3, 1) := by decide +kernel
theorem dX0_centrals_27 : decode cX0_centrals 27 = .ok (.aload_n 0, 1) := by decide +kernel
theorem dX0_centrals_28 : decode cX0_centrals 28 = .ok (.iload_n 2, 1) := by decide +kernel
theorem dX0_centrals_29 : decode cX0_centrals 29 = .ok (.iload 4, 2) := by decide +kernel
theorem dX0_centrals_31 : decode cX0_centrals 31 = .ok (.invokevirtual 35, 3) := by decide +kernel
theorem dX0_centrals_34 : decode cX0_centrals 34 = .ok (.aload_n 0, 1) := by decide +kernel
theorem dX0_centrals_35 : decode cX0_centrals 35 = .ok (.iload 4, 2) := by decide +kernel
theorem dX0_centrals_37 : decode cX0_centrals 37 = .ok (.iload_n 2, 1) := by decide +kernel
theorem dX0_centrals_38 : decode cX0_centrals 38 = .ok (.invokevirtual 35, 3) := by decide +kernel
theorem dX0_centrals_41 : decode cX0_centrals 41 = .ok (.if_icmp .ne 7, 3) := by decide +kernel
theorem dX0_centrals_44 : decode cX0_centrals 44 = .ok (.iconst 1, 1) := by decide +kernel
theorem dX0_centrals_45 : decode cX0_centrals 45 = .ok (.goto 4, 3) := by decide +kernel
theorem dX0_centrals_48 : decode cX0_centrals 48 = .ok (.iconst 0, 1) := by decide +kernel
theorem dX0_centrals_49 : decode cX0_centrals 49 = .ok (.iand, 1) := by decide +kernel
theorem dX0_centrals_50 : decode cX0_centrals 50 = .ok (.istore_n 3, 1) := by decide +kernel
theorem dX0_centrals_51 : decode cX0_centrals 51 = .ok (.iinc 4 1, 3) := by decide +kernel
theorem dX0_centrals_54 : decode cX0_centrals 54 = .ok (.goto (-37), 3) := by decide +kernel
theorem dX0_centrals_57 : decode cX0_centrals 57 = .ok (.iload_n 1, 1) := by decide +kernel
theorem dX0_centrals_58 : decode cX0_centrals 58 = .ok (.iload_n 3, 1) := by decide +kernel
theorem dX0_centrals_59 : decode cX0_centrals 59 = .ok (.ifCond .eq 7, 3) := by decide +kernel
theorem dX0_centrals_62 : decode cX0_centrals 62 = .ok (.iconst 1, 1) := by decide +kernel
theorem dX0_centrals_63 : decode cX0_centrals 63 = .ok (.goto 4, 3) := by decide +kernel
theorem dX0_centrals_66 : decode cX0_centrals 66 = .ok (.iconst 0, 1) := by decide +kernel
theorem dX0_centrals_67 : decode cX0_centrals 67 = .ok (.iadd, 1) := by decide +kernel
theorem dX0_centrals_68 : decode cX0_centrals 68 = .ok (.istore_n 1, 1) := by decide +kernel
theorem dX0_centrals_69 : decode cX0_centrals 69 = .ok (.iinc 2 1, 3) := by decide +kernel
theorem dX0_centrals_72 : decode cX0_centrals 72 = .ok (.goto (-68), 3) := by decide +kernel
theorem dX0_centrals_75 : decode cX0_centrals 75 = .ok (.iload_n 1, 1) := by decide +kernel
theorem dX0_centrals_76 : decode cX0_centrals 76 = .ok (.ireturn, 1) := by decide +kernel
def hX0_centrals_17 (f : Nat) (Φ : Int → aj_M → Prop) (K4 : List Nat → Int → Int → aj_M → Prop) : Nat → List Nat → Int → Int → Int → Int → aj_M → Prop
  | 0, _, _, _, _, _, _ => False
  | k + 1, q0, v1, v2, v3, v4, m => rI v4 ∧ rI (m q0 0) ∧ ((m q0 0) ≤ v4 → rI v3 ∧ (v3 = 0 → K4 q0 (v1 + 0) (v2 + 1) m) ∧ (¬ (v3 = 0) → K4 q0 (v1 + 1) (v2 + 1) m)) ∧ (¬ ((m q0 0) ≤ v4) → wX0_times f (fun z1 m1 => wX0_times f (fun z2 m2 => rI z1 ∧ rI z2 ∧ (¬ z1 = z2 → hX0_centrals_17 f Φ K4 k q0 v1 v2 (aj_and v3 0) (v4 + 1) m2) ∧ (z1 = z2 → hX0_centrals_17 f Φ K4 k q0 v1 v2 (aj_and v3 1) (v4 + 1) m2)) q0 v4 v2 m1) q0 v2 v4 m)
set_option maxHeartbeats 4000000 in
set_option maxRecDepth 100000 in
theorem tX0_centrals_17 {X : aj_T} {n f : Nat} {Φ : Int → aj_M → Prop} (C : aj_Cx X cX0_centrals RX0 5 (n + 2)) (K : aj_Rt X (some .int) (fun r m => ∃ z, r = some (vI z) ∧ Φ z m)) {K4 : List Nat → Int → Int → aj_M → Prop} (HK4 : ∀ (q0 : List Nat) (v1 : Int) (v2 : Int) (m : aj_M) (hq0 : (.inl (0, q0) : aj_R) ∈ aj_pls), K4 q0 v1 v2 m → aj_J X 4 [some (vO 0 q0), some (vI v1), some (vI v2), none, none] [] m) : ∀ (k : Nat) (q0 : List Nat) (v1 : Int) (v2 : Int) (v3 : Int) (v4 : Int) (m : aj_M) (hq0 : (.inl (0, q0) : aj_R) ∈ aj_pls), hX0_centrals_17 f Φ K4 k q0 v1 v2 v3 v4 m → aj_J X 17 [some (vO 0 q0), some (vI v1), some (vI v2), some (vI v3), some (vI v4)] [] m := by
  intro k
  induction k with
  | zero =>
    intro q0 v1 v2 v3 v4 m _ h
    exact h.elim
  | succ k ih =>
    intro q0 v1 v2 v3 v4 m hq0 h
    unfold hX0_centrals_17 at h
    refine aj_iload C dX0_centrals_17 rfl ?_
    refine aj_aload_n C dX0_centrals_19 rfl ?_
    refine aj_getI C flX0_9 hq0 (by decide) dX0_centrals_20 rfl ?_
    obtain ⟨r0, r1, h1, h2⟩ := h
    refine aj_icmp_ge (tgt := 57) C dX0_centrals_23 (by decide) r0 r1 (fun e => ?_) (fun e => ?_)
    · have h := h1 e
      refine aj_iload_n C dX0_centrals_57 rfl ?_
      refine aj_iload_n C dX0_centrals_58 rfl ?_
      obtain ⟨r0, h1, h2⟩ := h
      refine aj_if_eq (tgt := 66) C dX0_centrals_59 (by decide) r0 (fun e => ?_) (fun e => ?_)
      · have h := h1 e
        refine aj_iconst C dX0_centrals_66 ?_
        refine aj_iadd C dX0_centrals_67 ?_
        refine aj_istore_n (lv' := [some (vO 0 q0), some (vI (v1 + 0)), some (vI v2), some (vI v3), some (vI v4)]) C dX0_centrals_68 (by decide) rfl ?_
        refine aj_iinc (lv' := [some (vO 0 q0), some (vI (v1 + 0)), some (vI (v2 + 1)), some (vI v3), some (vI v4)]) C dX0_centrals_69 rfl (by decide) rfl ?_
        refine aj_goto (tgt := 4) C dX0_centrals_72 (by decide) ?_
        refine aj_wk (lv' := [some (vO 0 q0), some (vI (v1 + 0)), some (vI (v2 + 1)), none, none]) (⟨rfl, ⟨rfl, ⟨rfl, trivial⟩⟩⟩) ?_
        exact HK4 q0 (v1 + 0) (v2 + 1) _ hq0 h
      · have h := h2 e
        refine aj_iconst C dX0_centrals_62 ?_
        refine aj_goto (tgt := 67) C dX0_centrals_63 (by decide) ?_
        refine aj_iadd C dX0_centrals_67 ?_
        refine aj_istore_n (lv' := [some (vO 0 q0), some (vI (v1 + 1)), some (vI v2), some (vI v3), some (vI v4)]) C dX0_centrals_68 (by decide) rfl ?_
        refine aj_iinc (lv' := [some (vO 0 q0), some (vI (v1 + 1)), some (vI (v2 + 1)), some (vI v3), some (vI v4)]) C dX0_centrals_69 rfl (by decide) rfl ?_
        refine aj_goto (tgt := 4) C dX0_centrals_72 (by decide) ?_
        refine aj_wk (lv' := [some (vO 0 q0), some (vI (v1 + 1)), some (vI (v2 + 1)), none, none]) (⟨rfl, ⟨rfl, ⟨rfl, trivial⟩⟩⟩) ?_
        exact HK4 q0 (v1 + 1) (v2 + 1) _ hq0 h
    · have h := h2 e
      refine aj_iload_n C dX0_centrals_26 rfl ?_
      refine aj_aload_n C dX0_centrals_27 rfl ?_
      refine aj_iload_n C dX0_centrals_28 rfl ?_
      refine aj_iload C dX0_centrals_29 rfl ?_
      refine aj_callV (rest := [vI v3]) C mvX0_35 (sX0_times hq0 h) hq0 (aj_np 2 (by decide +kernel) rfl) (Nat.le_of_ble_eq_true rfl) rfl dX0_centrals_31 (fun r m1 h => ?_)
      obtain ⟨z1, rfl, h⟩ := h
      refine aj_aload_n C dX0_centrals_34 rfl ?_
      refine aj_iload C dX0_centrals_35 rfl ?_
      refine aj_iload_n C dX0_centrals_37 rfl ?_
      refine aj_callV (rest := [vI z1, vI v3]) C mvX0_35 (sX0_times hq0 h) hq0 (aj_np 2 (by decide +kernel) rfl) (Nat.le_of_ble_eq_true rfl) rfl dX0_centrals_38 (fun r m2 h => ?_)
      obtain ⟨z2, rfl, h⟩ := h
      obtain ⟨r0, r1, h1, h2⟩ := h
      refine aj_icmp_ne (tgt := 48) C dX0_centrals_41 (by decide) r0 r1 (fun e => ?_) (fun e => ?_)
      · have h := h1 e
        refine aj_iconst C dX0_centrals_48 ?_
        refine aj_iand C dX0_centrals_49 ?_
        refine aj_istore_n (lv' := [some (vO 0 q0), some (vI v1), some (vI v2), some (vI (aj_and v3 0)), some (vI v4)]) C dX0_centrals_50 (by decide) rfl ?_
        refine aj_iinc (lv' := [some (vO 0 q0), some (vI v1), some (vI v2), some (vI (aj_and v3 0)), some (vI (v4 + 1))]) C dX0_centrals_51 rfl (by decide) rfl ?_
        refine aj_goto (tgt := 17) C dX0_centrals_54 (by decide) ?_
        exact ih q0 v1 v2 (aj_and v3 0) (v4 + 1) _ hq0 h
      · have h := h2 e
        refine aj_iconst C dX0_centrals_44 ?_
        refine aj_goto (tgt := 49) C dX0_centrals_45 (by decide) ?_
        refine aj_iand C dX0_centrals_49 ?_
        refine aj_istore_n (lv' := [some (vO 0 q0), some (vI v1), some (vI v2), some (vI (aj_and v3 1)), some (vI v4)]) C dX0_centrals_50 (by decide) rfl ?_
        refine aj_iinc (lv' := [some (vO 0 q0), some (vI v1), some (vI v2), some (vI (aj_and v3 1)), some (vI (v4 + 1))]) C dX0_centrals_51 rfl (by decide) rfl ?_
        refine aj_goto (tgt := 17) C dX0_centrals_54 (by decide) ?_
        exact ih q0 v1 v2 (aj_and v3 1) (v4 + 1) _ hq0 h
def hX0_centrals_4 (f : Nat) (Φ : Int → aj_M → Prop) : Nat → List Nat → Int → Int → aj_M → Prop
  | 0, _, _, _, _ => False
  | k + 1, q0, v1, v2, m => rI v2 ∧ rI (m q0 0) ∧ ((m q0 0) ≤ v2 → Φ v1 m) ∧ (¬ ((m q0 0) ≤ v2) → hX0_centrals_17 f Φ (fun q0 v1 v2 m => hX0_centrals_4 f Φ k q0 v1 v2 m) f q0 v1 v2 1 0 m)
set_option maxHeartbeats 4000000 in
set_option maxRecDepth 100000 in
theorem tX0_centrals_4 {X : aj_T} {n f : Nat} {Φ : Int → aj_M → Prop} (C : aj_Cx X cX0_centrals RX0 5 (n + 2)) (K : aj_Rt X (some .int) (fun r m => ∃ z, r = some (vI z) ∧ Φ z m)) : ∀ (k : Nat) (q0 : List Nat) (v1 : Int) (v2 : Int) (m : aj_M) (hq0 : (.inl (0, q0) : aj_R) ∈ aj_pls), hX0_centrals_4 f Φ k q0 v1 v2 m → aj_J X 4 [some (vO 0 q0), some (vI v1), some (vI v2), none, none] [] m := by
  intro k
  induction k with
  | zero =>
    intro q0 v1 v2 m _ h
    exact h.elim
  | succ k ih =>
    intro q0 v1 v2 m hq0 h
    unfold hX0_centrals_4 at h
    refine aj_iload_n C dX0_centrals_4 rfl ?_
    refine aj_aload_n C dX0_centrals_5 rfl ?_
    refine aj_getI C flX0_9 hq0 (by decide) dX0_centrals_6 rfl ?_
    obtain ⟨r0, r1, h1, h2⟩ := h
    refine aj_icmp_ge (tgt := 75) C dX0_centrals_9 (by decide) r0 r1 (fun e => ?_) (fun e => ?_)
    · have h := h1 e
      refine aj_iload_n C dX0_centrals_75 rfl ?_
      exact aj_iret C K dX0_centrals_76 ⟨_, rfl, h⟩
    · have h := h2 e
      refine aj_iconst C dX0_centrals_12 ?_
      refine aj_istore_n (lv' := [some (vO 0 q0), some (vI v1), some (vI v2), some (vI 1), none]) C dX0_centrals_13 (by decide) rfl ?_
      refine aj_iconst C dX0_centrals_14 ?_
      refine aj_istore (lv' := [some (vO 0 q0), some (vI v1), some (vI v2), some (vI 1), some (vI 0)]) C dX0_centrals_15 (by decide) rfl ?_
      exact tX0_centrals_17 C K (fun q0 v1 v2 m hq0 hh => ih q0 v1 v2 m hq0 hh) f q0 v1 v2 1 0 _ hq0 h
def wX0_centrals (f : Nat) (Φ : Int → aj_M → Prop) (q0 : List Nat) (m : aj_M) : Prop := hX0_centrals_4 f Φ f q0 0 0 m
set_option maxHeartbeats 4000000 in
set_option maxRecDepth 100000 in
theorem sX0_centrals {n f : Nat} {Φ : Int → aj_M → Prop} {q0 : List Nat} {m : aj_M} (hq0 : (.inl (0, q0) : aj_R) ∈ aj_pls) (h : wX0_centrals f Φ q0 m) : aj_Ct (n + 2) yX0_centrals cX0_centrals 5 (some .int) [vO 0 q0] m (fun r m => ∃ z, r = some (vI z) ∧ Φ z m) := by
  refine aj_met (lv := [some (vO 0 q0), none, none, none, none]) (by decide +kernel) rfl (Nat.le_of_ble_eq_true rfl) (fun X C K => ?_)
  unfold wX0_centrals at h
  refine aj_iconst C dX0_centrals_0 ?_
  refine aj_istore_n (lv' := [some (vO 0 q0), some (vI 0), none, none, none]) C dX0_centrals_1 (by decide) rfl ?_
  refine aj_iconst C dX0_centrals_2 ?_
  refine aj_istore_n (lv' := [some (vO 0 q0), some (vI 0), some (vI 0), none, none]) C dX0_centrals_3 (by decide) rfl ?_
  exact tX0_centrals_4 C K f q0 0 0 _ hq0 h
theorem dX0_copyFrom_0 : decode cX0_copyFrom 0 = .ok (.aload_n 0, 1) := by decide +kernel
theorem dX0_copyFrom_1 : decode cX0_copyFrom 1 = .ok (.aload_n 1, 1) := by decide +kernel
theorem dX0_copyFrom_2 : decode cX0_copyFrom 2 = .ok (.getfield 9, 3) := by decide +kernel
theorem dX0_copyFrom_5 : decode cX0_copyFrom 5 = .ok (.putfield 9, 3) := by decide +kernel
theorem dX0_copyFrom_8 : decode cX0_copyFrom 8 = .ok (.aload_n 1, 1) := by decide +kernel
theorem dX0_copyFrom_9 : decode cX0_copyFrom 9 = .ok (.getfield 15, 3) := by decide +kernel
theorem dX0_copyFrom_12 : decode cX0_copyFrom 12 = .ok (.iconst 0, 1) := by decide +kernel
theorem dX0_copyFrom_13 : decode cX0_copyFrom 13 = .ok (.aload_n 0, 1) := by decide +kernel
theorem dX0_copyFrom_14 : decode cX0_copyFrom 14 = .ok (.getfield 15, 3) := by decide +kernel
theorem dX0_copyFrom_17 : decode cX0_copyFrom 17 = .ok (.iconst 0, 1) := by decide +kernel
theorem dX0_copyFrom_18 : decode cX0_copyFrom 18 = .ok (.aload_n 0, 1) := by decide +kernel
theorem dX0_copyFrom_19 : decode cX0_copyFrom 19 = .ok (.getfield 15, 3) := by decide +kernel
theorem dX0_copyFrom_22 : decode cX0_copyFrom 22 = .ok (.arraylength, 1) := by decide +kernel
theorem dX0_copyFrom_23 : decode cX0_copyFrom 23 = .ok (.invokestatic 39, 3) := by decide +kernel
theorem dX0_copyFrom_26 : decode cX0_copyFrom 26 = .ok (.aload_n 1, 1) := by decide +kernel
theorem dX0_copyFrom_27 : decode cX0_copyFrom 27 = .ok (.getfield 19, 3) := by decide +kernel
theorem dX0_copyFrom_30 : decode cX0_copyFrom 30 = .ok (.iconst 0, 1) := by decide +kernel
theorem dX0_copyFrom_31 : decode cX0_copyFrom 31 = .ok (.aload_n 0, 1) := by decide +kernel
theorem dX0_copyFrom_32 : decode cX0_copyFrom 32 = .ok (.getfield 19, 3) := by decide +kernel
theorem dX0_copyFrom_35 : decode cX0_copyFrom 35 = .ok (.iconst 0, 1) := by decide +kernel
theorem dX0_copyFrom_36 : decode cX0_copyFrom 36 = .ok (.aload_n 0, 1) := by decide +kernel
theorem dX0_copyFrom_37 : decode cX0_copyFrom 37 = .ok (.getfield 19, 3) := by decide +kernel
theorem dX0_copyFrom_40 : decode cX0_copyFrom 40 = .ok (.arraylength, 1) := by decide +kernel
theorem dX0_copyFrom_41 : decode cX0_copyFrom 41 = .ok (.invokestatic 39, 3) := by decide +kernel
theorem dX0_copyFrom_44 : decode cX0_copyFrom 44 = .ok (.aload_n 1, 1) := by decide +kernel
theorem dX0_copyFrom_45 : decode cX0_copyFrom 45 = .ok (.getfield 22, 3) := by decide +kernel
theorem dX0_copyFrom_48 : decode cX0_copyFrom 48 = .ok (.iconst 0, 1) := by decide +kernel
theorem dX0_copyFrom_49 : decode cX0_copyFrom 49 = .ok (.aload_n 0, 1) := by decide +kernel
theorem dX0_copyFrom_50 : decode cX0_copyFrom 50 = .ok (.getfield 22, 3) := by decide +kernel
theorem dX0_copyFrom_53 : decode cX0_copyFrom 53 = .ok (.iconst 0, 1) := by decide +kernel
theorem dX0_copyFrom_54 : decode cX0_copyFrom 54 = .ok (.aload_n 0, 1) := by decide +kernel
theorem dX0_copyFrom_55 : decode cX0_copyFrom 55 = .ok (.getfield 22, 3) := by decide +kernel
theorem dX0_copyFrom_58 : decode cX0_copyFrom 58 = .ok (.arraylength, 1) := by decide +kernel
theorem dX0_copyFrom_59 : decode cX0_copyFrom 59 = .ok (.invokestatic 39, 3) := by decide +kernel
theorem dX0_copyFrom_62 : decode cX0_copyFrom 62 = .ok (.return_, 1) := by decide +kernel
def wX0_copyFrom (f : Nat) (Φ : aj_M → Prop) (q0 : List Nat) (q1 : List Nat) (m : aj_M) : Prop := ∀ m1, m1 = aj_u m q0 0 (m q1 0) → ∀ m2, m2 = aj_cp m1 (1 :: q1) (0 : Int).toNat (1 :: q0) (0 : Int).toNat (144 : Int).toNat → ∀ m3, m3 = aj_cp m2 (2 :: q1) (0 : Int).toNat (2 :: q0) (0 : Int).toNat (12 : Int).toNat → ∀ m4, m4 = aj_cp m3 (3 :: q1) (0 : Int).toNat (3 :: q0) (0 : Int).toNat (12 : Int).toNat → Φ m4
set_option maxHeartbeats 4000000 in
set_option maxRecDepth 100000 in
theorem sX0_copyFrom {n f : Nat} {Φ : aj_M → Prop} {q0 : List Nat} {q1 : List Nat} {m : aj_M} (hq0 : (.inl (0, q0) : aj_R) ∈ aj_pls) (hq1 : (.inl (0, q1) : aj_R) ∈ aj_pls) (h : wX0_copyFrom f Φ q0 q1 m) : aj_Ct (n + 1) yX0_copyFrom cX0_copyFrom 2 none [vO 0 q0, vO 0 q1] m (fun r m => r = none ∧ Φ m) := by
  refine aj_met (lv := [some (vO 0 q0), some (vO 0 q1)]) (by decide +kernel) rfl (Nat.le_of_ble_eq_true rfl) (fun X C K => ?_)
  unfold wX0_copyFrom at h
  refine aj_aload_n C dX0_copyFrom_0 rfl ?_
  refine aj_aload_n C dX0_copyFrom_1 rfl ?_
  refine aj_getI C flX0_9 hq1 (by decide) dX0_copyFrom_2 rfl ?_
  refine aj_putI C fpX0_9 hq0 rfl dX0_copyFrom_5 ?_
  refine aj_nm (fun m1 e1 => ?_)
  have h := h m1 e1
  refine aj_aload_n C dX0_copyFrom_8 rfl ?_
  refine aj_getA (x := 0) (y := 144) C flX0_15 hq1 rfl dX0_copyFrom_9 ?_
  refine aj_iconst C dX0_copyFrom_12 ?_
  refine aj_aload_n C dX0_copyFrom_13 rfl ?_
  refine aj_getA (x := 0) (y := 144) C flX0_15 hq0 rfl dX0_copyFrom_14 ?_
  refine aj_iconst C dX0_copyFrom_17 ?_
  refine aj_aload_n C dX0_copyFrom_18 rfl ?_
  refine aj_getA (x := 0) (y := 144) C flX0_15 hq0 rfl dX0_copyFrom_19 ?_
  refine aj_alen C (aj_ca (e := 0) (n := 144) (j := 1) hq0 (by decide) rfl) (fun _ => rfl) dX0_copyFrom_22 ?_
  refine aj_copy C mnX0_39 (aj_ca (e := 0) (n := 144) (j := 1) hq1 (by decide) rfl) (aj_ca (e := 0) (n := 144) (j := 1) hq0 (by decide) rfl) (by decide) (by decide) (by decide) (Nat.le_of_ble_eq_true rfl) dX0_copyFrom_23 ?_
  refine aj_nm (fun m2 e1 => ?_)
  have h := h m2 e1
  refine aj_aload_n C dX0_copyFrom_26 rfl ?_
  refine aj_getA (x := 0) (y := 12) C flX0_19 hq1 rfl dX0_copyFrom_27 ?_
  refine aj_iconst C dX0_copyFrom_30 ?_
  refine aj_aload_n C dX0_copyFrom_31 rfl ?_
  refine aj_getA (x := 0) (y := 12) C flX0_19 hq0 rfl dX0_copyFrom_32 ?_
  refine aj_iconst C dX0_copyFrom_35 ?_
  refine aj_aload_n C dX0_copyFrom_36 rfl ?_
  refine aj_getA (x := 0) (y := 12) C flX0_19 hq0 rfl dX0_copyFrom_37 ?_
  refine aj_alen C (aj_ca (e := 0) (n := 12) (j := 2) hq0 (by decide) rfl) (fun _ => rfl) dX0_copyFrom_40 ?_
  refine aj_copy C mnX0_39 (aj_ca (e := 0) (n := 12) (j := 2) hq1 (by decide) rfl) (aj_ca (e := 0) (n := 12) (j := 2) hq0 (by decide) rfl) (by decide) (by decide) (by decide) (Nat.le_of_ble_eq_true rfl) dX0_copyFrom_41 ?_
  refine aj_nm (fun m3 e1 => ?_)
  have h := h m3 e1
  refine aj_aload_n C dX0_copyFrom_44 rfl ?_
  refine aj_getA (x := 0) (y := 12) C flX0_22 hq1 rfl dX0_copyFrom_45 ?_
  refine aj_iconst C dX0_copyFrom_48 ?_
  refine aj_aload_n C dX0_copyFrom_49 rfl ?_
  refine aj_getA (x := 0) (y := 12) C flX0_22 hq0 rfl dX0_copyFrom_50 ?_
  refine aj_iconst C dX0_copyFrom_53 ?_
  refine aj_aload_n C dX0_copyFrom_54 rfl ?_
  refine aj_getA (x := 0) (y := 12) C flX0_22 hq0 rfl dX0_copyFrom_55 ?_
  refine aj_alen C (aj_ca (e := 0) (n := 12) (j := 3) hq0 (by decide) rfl) (fun _ => rfl) dX0_copyFrom_58 ?_
  refine aj_copy C mnX0_39 (aj_ca (e := 0) (n := 12) (j := 3) hq1 (by decide) rfl) (aj_ca (e := 0) (n := 12) (j := 3) hq0 (by decide) rfl) (by decide) (by decide) (by decide) (Nat.le_of_ble_eq_true rfl) dX0_copyFrom_59 ?_
  refine aj_nm (fun m4 e1 => ?_)
  have h := h m4 e1
  exact aj_vret C K dX0_copyFrom_62 ⟨rfl, h⟩
theorem dX9_copyFrom_0 : decode cX9_copyFrom 0 = .ok (.aload_n 1, 1) := by decide +kernel
theorem dX9_copyFrom_1 : decode cX9_copyFrom 1 = .ok (.getfield 9, 3) := by decide +kernel
theorem dX9_copyFrom_4 : decode cX9_copyFrom 4 = .ok (.iconst 0, 1) := by decide +kernel
theorem dX9_copyFrom_5 : decode cX9_copyFrom 5 = .ok (.aload_n 0, 1) := by decide +kernel
theorem dX9_copyFrom_6 : decode cX9_copyFrom 6 = .ok (.getfield 9, 3) := by decide +kernel
theorem dX9_copyFrom_9 : decode cX9_copyFrom 9 = .ok (.iconst 0, 1) := by decide +kernel
theorem dX9_copyFrom_10 : decode cX9_copyFrom 10 = .ok (.bipush 12, 2) := by decide +kernel
theorem dX9_copyFrom_12 : decode cX9_copyFrom 12 = .ok (.invokestatic 25, 3) := by decide +kernel
theorem dX9_copyFrom_15 : decode cX9_copyFrom 15 = .ok (.aload_n 0, 1) := by decide +kernel
theorem dX9_copyFrom_16 : decode cX9_copyFrom 16 = .ok (.aload_n 1, 1) := by decide +kernel
theorem dX9_copyFrom_17 : decode cX9_copyFrom 17 = .ok (.getfield 15, 3) := by decide +kernel
theorem dX9_copyFrom_20 : decode cX9_copyFrom 20 = .ok (.putfield 15, 3) := by decide +kernel
theorem dX9_copyFrom_23 : decode cX9_copyFrom 23 = .ok (.aload_n 0, 1) := by decide +kernel
theorem dX9_copyFrom_24 : decode cX9_copyFrom 24 = .ok (.aload_n 1, 1) := by decide +kernel
theorem dX9_copyFrom_25 : decode cX9_copyFrom 25 = .ok (.getfield 19, 3) := by decide +kernel
theorem dX9_copyFrom_28 : decode cX9_copyFrom 28 = .ok (.putfield 19, 3) := by decide +kernel
theorem dX9_copyFrom_31 : decode cX9_copyFrom 31 = .ok (.return_, 1) := by decide +kernel
def wX9_copyFrom (f : Nat) (Φ : aj_M → Prop) (q0 : List Nat) (q1 : List Nat) (m : aj_M) : Prop := ∀ m1, m1 = aj_cp m (0 :: q1) (0 : Int).toNat (0 :: q0) (0 : Int).toNat (12 : Int).toNat → ∀ m2, m2 = aj_u m1 q0 1 (m1 q1 1) → ∀ m3, m3 = aj_u m2 q0 2 (m2 q1 2) → Φ m3
set_option maxHeartbeats 4000000 in
set_option maxRecDepth 100000 in
theorem sX9_copyFrom {n f : Nat} {Φ : aj_M → Prop} {q0 : List Nat} {q1 : List Nat} {m : aj_M} (hq0 : (.inl (9, q0) : aj_R) ∈ aj_pls) (hq1 : (.inl (9, q1) : aj_R) ∈ aj_pls) (h : wX9_copyFrom f Φ q0 q1 m) : aj_Ct (n + 1) yX9_copyFrom cX9_copyFrom 2 none [vO 9 q0, vO 9 q1] m (fun r m => r = none ∧ Φ m) := by
  refine aj_met (lv := [some (vO 9 q0), some (vO 9 q1)]) (by decide +kernel) rfl (Nat.le_of_ble_eq_true rfl) (fun X C K => ?_)
  unfold wX9_copyFrom at h
  refine aj_aload_n C dX9_copyFrom_0 rfl ?_
  refine aj_getA (x := 0) (y := 12) C flX9_9 hq1 rfl dX9_copyFrom_1 ?_
  refine aj_iconst C dX9_copyFrom_4 ?_
  refine aj_aload_n C dX9_copyFrom_5 rfl ?_
  refine aj_getA (x := 0) (y := 12) C flX9_9 hq0 rfl dX9_copyFrom_6 ?_
  refine aj_iconst C dX9_copyFrom_9 ?_
  refine aj_bipush C dX9_copyFrom_10 (by decide) ?_
  refine aj_copy C mnX9_25 (aj_ca (e := 0) (n := 12) (j := 0) hq1 (by decide) rfl) (aj_ca (e := 0) (n := 12) (j := 0) hq0 (by decide) rfl) (by decide) (by decide) (by decide) (Nat.le_of_ble_eq_true rfl) dX9_copyFrom_12 ?_
  refine aj_nm (fun m1 e1 => ?_)
  have h := h m1 e1
  refine aj_aload_n C dX9_copyFrom_15 rfl ?_
  refine aj_aload_n C dX9_copyFrom_16 rfl ?_
  refine aj_getI C flX9_15 hq1 (by decide) dX9_copyFrom_17 rfl ?_
  refine aj_putI C fpX9_15 hq0 rfl dX9_copyFrom_20 ?_
  refine aj_nm (fun m2 e1 => ?_)
  have h := h m2 e1
  refine aj_aload_n C dX9_copyFrom_23 rfl ?_
  refine aj_aload_n C dX9_copyFrom_24 rfl ?_
  refine aj_getI C flX9_19 hq1 (by decide) dX9_copyFrom_25 rfl ?_
  refine aj_putI C fpX9_19 hq0 rfl dX9_copyFrom_28 ?_
  refine aj_nm (fun m3 e1 => ?_)
  have h := h m3 e1
  exact aj_vret C K dX9_copyFrom_31 ⟨rfl, h⟩
theorem dX1_keep_0 : decode cX1_keep 0 = .ok (.aload_n 0, 1) := by decide +kernel
theorem dX1_keep_1 : decode cX1_keep 1 = .ok (.getfield 11, 3) := by decide +kernel
theorem dX1_keep_4 : decode cX1_keep 4 = .ok (.aload_n 0, 1) := by decide +kernel
theorem dX1_keep_5 : decode cX1_keep 5 = .ok (.getfield 17, 3) := by decide +kernel
theorem dX1_keep_8 : decode cX1_keep 8 = .ok (.aaload, 1) := by decide +kernel
theorem dX1_keep_9 : decode cX1_keep 9 = .ok (.aload_n 1, 1) := by decide +kernel
theorem dX1_keep_10 : decode cX1_keep 10 = .ok (.invokevirtual 25, 3) := by decide +kernel
theorem dX1_keep_13 : decode cX1_keep 13 = .ok (.aload_n 0, 1) := by decide +kernel
theorem dX1_keep_14 : decode cX1_keep 14 = .ok (.aload_n 0, 1) := by decide +kernel
theorem dX1_keep_15 : decode cX1_keep 15 = .ok (.getfield 17, 3) := by decide +kernel
theorem dX1_keep_18 : decode cX1_keep 18 = .ok (.iconst 1, 1) := by decide +kernel
theorem dX1_keep_19 : decode cX1_keep 19 = .ok (.iadd, 1) := by decide +kernel
theorem dX1_keep_20 : decode cX1_keep 20 = .ok (.bipush 10, 2) := by decide +kernel
theorem dX1_keep_22 : decode cX1_keep 22 = .ok (.irem, 1) := by decide +kernel
theorem dX1_keep_23 : decode cX1_keep 23 = .ok (.putfield 17, 3) := by decide +kernel
theorem dX1_keep_26 : decode cX1_keep 26 = .ok (.aload_n 0, 1) := by decide +kernel
theorem dX1_keep_27 : decode cX1_keep 27 = .ok (.aload_n 0, 1) := by decide +kernel
theorem dX1_keep_28 : decode cX1_keep 28 = .ok (.getfield 21, 3) := by decide +kernel
theorem dX1_keep_31 : decode cX1_keep 31 = .ok (.iconst 1, 1) := by decide +kernel
theorem dX1_keep_32 : decode cX1_keep 32 = .ok (.iadd, 1) := by decide +kernel
theorem dX1_keep_33 : decode cX1_keep 33 = .ok (.bipush 10, 2) := by decide +kernel
theorem dX1_keep_35 : decode cX1_keep 35 = .ok (.invokestatic 29, 3) := by decide +kernel
theorem dX1_keep_38 : decode cX1_keep 38 = .ok (.putfield 21, 3) := by decide +kernel
theorem dX1_keep_41 : decode cX1_keep 41 = .ok (.return_, 1) := by decide +kernel
def wX1_keep (f : Nat) (Φ : aj_M → Prop) (q0 : List Nat) (q1 : List Nat) (m : aj_M) : Prop := (0 ≤ (m q0 1) ∧ (m q0 1) < 10) ∧ wX9_copyFrom f (fun m1 => (0 ≤ ((m1 q0 1) + 1) ∧ ((m1 q0 1) + 1) < 2147483648) ∧ ∀ m2, m2 = aj_u m1 q0 1 (((m1 q0 1) + 1) % 10) → rI ((m2 q0 2) + 1) ∧ ∀ m3, m3 = aj_u m2 q0 2 (min ((m2 q0 2) + 1) 10) → Φ m3) ((m q0 1).toNat :: (0 :: q0)) q1 m
set_option maxHeartbeats 4000000 in
set_option maxRecDepth 100000 in
theorem sX1_keep {n f : Nat} {Φ : aj_M → Prop} {q0 : List Nat} {q1 : List Nat} {m : aj_M} (hq0 : (.inl (1, q0) : aj_R) ∈ aj_pls) (hq1 : (.inl (9, q1) : aj_R) ∈ aj_pls) (h : wX1_keep f Φ q0 q1 m) : aj_Ct (n + 2) yX1_keep cX1_keep 2 none [vO 1 q0, vO 9 q1] m (fun r m => r = none ∧ Φ m) := by
  refine aj_met (lv := [some (vO 1 q0), some (vO 9 q1)]) (by decide +kernel) rfl (Nat.le_of_ble_eq_true rfl) (fun X C K => ?_)
  unfold wX1_keep at h
  refine aj_aload_n C dX1_keep_0 rfl ?_
  refine aj_getA (x := 4) (y := 10) C flX1_11 hq0 rfl dX1_keep_1 ?_
  refine aj_aload_n C dX1_keep_4 rfl ?_
  refine aj_getI C flX1_17 hq0 (by decide) dX1_keep_5 rfl ?_
  obtain ⟨r0_1, h⟩ := h
  refine aj_aald (c1 := 9) C (aj_ca (e := 4) (n := 10) (j := 0) hq0 (by decide) rfl) (by decide) (fun _ => rfl) (by decide) r0_1 dX1_keep_8 ?_
  refine aj_aload_n C dX1_keep_9 rfl ?_
  refine aj_callV (rest := []) C mvX1_25 (sX9_copyFrom (aj_ce (i := (m q0 1).toNat) (aj_ca (e := 4) (n := 10) (j := 0) hq0 (by decide) rfl) rfl (by omega)) hq1 h) (aj_ce (i := (m q0 1).toNat) (aj_ca (e := 4) (n := 10) (j := 0) hq0 (by decide) rfl) rfl (by omega)) (aj_np 1 (by decide +kernel) rfl) (Nat.le_of_ble_eq_true rfl) rfl dX1_keep_10 (fun r m1 h => ?_)
  obtain ⟨rfl, h⟩ := h
  refine aj_aload_n C dX1_keep_13 rfl ?_
  refine aj_aload_n C dX1_keep_14 rfl ?_
  refine aj_getI C flX1_17 hq0 (by decide) dX1_keep_15 rfl ?_
  refine aj_iconst C dX1_keep_18 ?_
  refine aj_iadd C dX1_keep_19 ?_
  refine aj_bipush C dX1_keep_20 (by decide) ?_
  obtain ⟨r0, h⟩ := h
  refine aj_iremN C dX1_keep_22 r0 (by decide) ?_
  refine aj_putI C fpX1_17 hq0 rfl dX1_keep_23 ?_
  refine aj_nm (fun m2 e1 => ?_)
  have h := h m2 e1
  refine aj_aload_n C dX1_keep_26 rfl ?_
  refine aj_aload_n C dX1_keep_27 rfl ?_
  refine aj_getI C flX1_21 hq0 (by decide) dX1_keep_28 rfl ?_
  refine aj_iconst C dX1_keep_31 ?_
  refine aj_iadd C dX1_keep_32 ?_
  refine aj_bipush C dX1_keep_33 (by decide) ?_
  obtain ⟨r0, h⟩ := h
  refine aj_mmin C msX1_29 (Nat.le_of_ble_eq_true rfl) r0 (by decide) dX1_keep_35 ?_
  refine aj_putI C fpX1_21 hq0 rfl dX1_keep_38 ?_
  refine aj_nm (fun m3 e1 => ?_)
  have h := h m3 e1
  exact aj_vret C K dX1_keep_41 ⟨rfl, h⟩
theorem dX1_takeBack_0 : decode cX1_takeBack 0 = .ok (.iload_n 1, 1) := by decide +kernel
theorem dX1_takeBack_1 : decode cX1_takeBack 1 = .ok (.iconst 1, 1) := by decide +kernel
theorem dX1_takeBack_2 : decode cX1_takeBack 2 = .ok (.if_icmp .lt 11, 3) := by decide +kernel
theorem dX1_takeBack_5 : decode cX1_takeBack 5 = .ok (.iload_n 1, 1) := by decide +kernel
theorem dX1_takeBack_6 : decode cX1_takeBack 6 = .ok (.aload_n 0, 1) := by decide +kernel
theorem dX1_takeBack_7 : decode cX1_takeBack 7 = .ok (.getfield 21, 3) := by decide +kernel
theorem dX1_takeBack_10 : decode cX1_takeBack 10 = .ok (.if_icmp .le 4, 3) := by decide +kernel
theorem dX1_takeBack_13 : decode cX1_takeBack 13 = .ok (.return_, 1) := by decide +kernel
theorem dX1_takeBack_14 : decode cX1_takeBack 14 = .ok (.aload_n 0, 1) := by decide +kernel
theorem dX1_takeBack_15 : decode cX1_takeBack 15 = .ok (.aload_n 0, 1) := by decide +kernel
theorem dX1_takeBack_16 : decode cX1_takeBack 16 = .ok (.getfield 17, 3) := by decide +kernel
theorem dX1_takeBack_19 : decode cX1_takeBack 19 = .ok (.bipush 10, 2) := by decide +kernel
theorem dX1_takeBack_21 : decode cX1_takeBack 21 = .ok (.iadd, 1) := by decide +kernel
theorem dX1_takeBack_22 : decode cX1_takeBack 22 = .ok (.iload_n 1, 1) := by decide +kernel
theorem dX1_takeBack_23 : decode cX1_takeBack 23 = .ok (.isub, 1) := by decide +kernel
theorem dX1_takeBack_24 : decode cX1_takeBack 24 = .ok (.bipush 10, 2) := by decide +kernel
theorem dX1_takeBack_26 : decode cX1_takeBack 26 = .ok (.irem, 1) := by decide +kernel
theorem dX1_takeBack_27 : decode cX1_takeBack 27 = .ok (.putfield 17, 3) := by decide +kernel
theorem dX1_takeBack_30 : decode cX1_takeBack 30 = .ok (.aload_n 0, 1) := by decide +kernel
theorem dX1_takeBack_31 : decode cX1_takeBack 31 = .ok (.dup, 1) := by decide +kernel
theorem dX1_takeBack_32 : decode cX1_takeBack 32 = .ok (.getfield 21, 3) := by decide +kernel
theorem dX1_takeBack_35 : decode cX1_takeBack 35 = .ok (.iload_n 1, 1) := by decide +kernel
theorem dX1_takeBack_36 : decode cX1_takeBack 36 = .ok (.isub, 1) := by decide +kernel
theorem dX1_takeBack_37 : decode cX1_takeBack 37 = .ok (.putfield 21, 3) := by decide +kernel
theorem dX1_takeBack_40 : decode cX1_takeBack 40 = .ok (.aload_n 2, 1) := by decide +kernel
theorem dX1_takeBack_41 : decode cX1_takeBack 41 = .ok (.aload_n 0, 1) := by decide +kernel
theorem dX1_takeBack_42 : decode cX1_takeBack 42 = .ok (.getfield 11, 3) := by decide +kernel
theorem dX1_takeBack_45 : decode cX1_takeBack 45 = .ok (.aload_n 0, 1) := by decide +kernel
theorem dX1_takeBack_46 : decode cX1_takeBack 46 = .ok (.getfield 17, 3) := by decide +kernel
theorem dX1_takeBack_49 : decode cX1_takeBack 49 = .ok (.aaload, 1) := by decide +kernel
theorem dX1_takeBack_50 : decode cX1_takeBack 50 = .ok (.invokevirtual 25, 3) := by decide +kernel
theorem dX1_takeBack_53 : decode cX1_takeBack 53 = .ok (.return_, 1) := by decide +kernel
def wX1_takeBack (f : Nat) (Φ : aj_M → Prop) (q0 : List Nat) (v1 : Int) (q2 : List Nat) (m : aj_M) : Prop := rI v1 ∧ (v1 < 1 → Φ m) ∧ (¬ (v1 < 1) → rI v1 ∧ rI (m q0 2) ∧ (v1 ≤ (m q0 2) → (0 ≤ (((m q0 1) + 10) - v1) ∧ (((m q0 1) + 10) - v1) < 2147483648) ∧ ∀ m1, m1 = aj_u m q0 1 ((((m q0 1) + 10) - v1) % 10) → ∀ m2, m2 = aj_u m1 q0 2 ((m1 q0 2) - v1) → (0 ≤ (m2 q0 1) ∧ (m2 q0 1) < 10) ∧ wX9_copyFrom f (fun m3 => Φ m3) q2 ((m2 q0 1).toNat :: (0 :: q0)) m2) ∧ (¬ (v1 ≤ (m q0 2)) → Φ m))
set_option maxHeartbeats 4000000 in
set_option maxRecDepth 100000 in
theorem sX1_takeBack {n f : Nat} {Φ : aj_M → Prop} {q0 : List Nat} {v1 : Int} {q2 : List Nat} {m : aj_M} (hq0 : (.inl (1, q0) : aj_R) ∈ aj_pls) (hq2 : (.inl (9, q2) : aj_R) ∈ aj_pls) (h : wX1_takeBack f Φ q0 v1 q2 m) : aj_Ct (n + 2) yX1_takeBack cX1_takeBack 3 none [vO 1 q0, vI v1, vO 9 q2] m (fun r m => r = none ∧ Φ m) := by
  refine aj_met (lv := [some (vO 1 q0), some (vI v1), some (vO 9 q2)]) (by decide +kernel) rfl (Nat.le_of_ble_eq_true rfl) (fun X C K => ?_)
  unfold wX1_takeBack at h
  refine aj_iload_n C dX1_takeBack_0 rfl ?_
  refine aj_iconst C dX1_takeBack_1 ?_
  obtain ⟨r0, h1, h2⟩ := h
  refine aj_icmp_lt (tgt := 13) C dX1_takeBack_2 (by decide) r0 (by decide) (fun e => ?_) (fun e => ?_)
  · have h := h1 e
    exact aj_vret C K dX1_takeBack_13 ⟨rfl, h⟩
  · have h := h2 e
    refine aj_iload_n C dX1_takeBack_5 rfl ?_
    refine aj_aload_n C dX1_takeBack_6 rfl ?_
    refine aj_getI C flX1_21 hq0 (by decide) dX1_takeBack_7 rfl ?_
    obtain ⟨r0, r1, h1, h2⟩ := h
    refine aj_icmp_le (tgt := 14) C dX1_takeBack_10 (by decide) r0 r1 (fun e => ?_) (fun e => ?_)
    · have h := h1 e
      refine aj_aload_n C dX1_takeBack_14 rfl ?_
      refine aj_aload_n C dX1_takeBack_15 rfl ?_
      refine aj_getI C flX1_17 hq0 (by decide) dX1_takeBack_16 rfl ?_
      refine aj_bipush C dX1_takeBack_19 (by decide) ?_
      refine aj_iadd C dX1_takeBack_21 ?_
      refine aj_iload_n C dX1_takeBack_22 rfl ?_
      refine aj_isub C dX1_takeBack_23 ?_
      refine aj_bipush C dX1_takeBack_24 (by decide) ?_
      obtain ⟨r0, h⟩ := h
      refine aj_iremN C dX1_takeBack_26 r0 (by decide) ?_
      refine aj_putI C fpX1_17 hq0 rfl dX1_takeBack_27 ?_
      refine aj_nm (fun m1 e1 => ?_)
      have h := h m1 e1
      refine aj_aload_n C dX1_takeBack_30 rfl ?_
      refine aj_dup C aj_nR dX1_takeBack_31 ?_
      refine aj_getI C flX1_21 hq0 (by decide) dX1_takeBack_32 rfl ?_
      refine aj_iload_n C dX1_takeBack_35 rfl ?_
      refine aj_isub C dX1_takeBack_36 ?_
      refine aj_putI C fpX1_21 hq0 rfl dX1_takeBack_37 ?_
      refine aj_nm (fun m2 e1 => ?_)
      have h := h m2 e1
      refine aj_aload_n C dX1_takeBack_40 rfl ?_
      refine aj_aload_n C dX1_takeBack_41 rfl ?_
      refine aj_getA (x := 4) (y := 10) C flX1_11 hq0 rfl dX1_takeBack_42 ?_
      refine aj_aload_n C dX1_takeBack_45 rfl ?_
      refine aj_getI C flX1_17 hq0 (by decide) dX1_takeBack_46 rfl ?_
      obtain ⟨r0_1, h⟩ := h
      refine aj_aald (c1 := 9) C (aj_ca (e := 4) (n := 10) (j := 0) hq0 (by decide) rfl) (by decide) (fun _ => rfl) (by decide) r0_1 dX1_takeBack_49 ?_
      refine aj_callV (rest := []) C mvX1_25 (sX9_copyFrom hq2 (aj_ce (i := (m2 q0 1).toNat) (aj_ca (e := 4) (n := 10) (j := 0) hq0 (by decide) rfl) rfl (by omega)) h) hq2 (aj_np 1 (by decide +kernel) rfl) (Nat.le_of_ble_eq_true rfl) rfl dX1_takeBack_50 (fun r m3 h => ?_)
      obtain ⟨rfl, h⟩ := h
      exact aj_vret C K dX1_takeBack_53 ⟨rfl, h⟩
    · have h := h2 e
      exact aj_vret C K dX1_takeBack_13 ⟨rfl, h⟩
theorem dX1_forget_0 : decode cX1_forget 0 = .ok (.aload_n 0, 1) := by decide +kernel
theorem dX1_forget_1 : decode cX1_forget 1 = .ok (.iconst 0, 1) := by decide +kernel
theorem dX1_forget_2 : decode cX1_forget 2 = .ok (.putfield 21, 3) := by decide +kernel
theorem dX1_forget_5 : decode cX1_forget 5 = .ok (.return_, 1) := by decide +kernel
def wX1_forget (f : Nat) (Φ : aj_M → Prop) (q0 : List Nat) (m : aj_M) : Prop := ∀ m1, m1 = aj_u m q0 2 0 → Φ m1
set_option maxHeartbeats 4000000 in
set_option maxRecDepth 100000 in
theorem sX1_forget {n f : Nat} {Φ : aj_M → Prop} {q0 : List Nat} {m : aj_M} (hq0 : (.inl (1, q0) : aj_R) ∈ aj_pls) (h : wX1_forget f Φ q0 m) : aj_Ct n yX1_forget cX1_forget 1 none [vO 1 q0] m (fun r m => r = none ∧ Φ m) := by
  refine aj_met (lv := [some (vO 1 q0)]) (by decide +kernel) rfl (Nat.le_of_ble_eq_true rfl) (fun X C K => ?_)
  unfold wX1_forget at h
  refine aj_aload_n C dX1_forget_0 rfl ?_
  refine aj_iconst C dX1_forget_1 ?_
  refine aj_putI C fpX1_21 hq0 rfl dX1_forget_2 ?_
  refine aj_nm (fun m1 e1 => ?_)
  have h := h m1 e1
  exact aj_vret C K dX1_forget_5 ⟨rfl, h⟩
