theorem dX12_notes_0 : decode cX12_notes 0 = .ok (.aload_n 0, 1) := by decide +kernel
theorem dX12_notes_1 : decode cX12_notes 1 = .ok (.getfield 13, 3) := by decide +kernel
theorem dX12_notes_4 : decode cX12_notes 4 = .ok (.bipush 63, 2) := by decide +kernel
theorem dX12_notes_6 : decode cX12_notes 6 = .ok (.iaload, 1) := by decide +kernel
theorem dX12_notes_7 : decode cX12_notes 7 = .ok (.bipush 10, 2) := by decide +kernel
theorem dX12_notes_9 : decode cX12_notes 9 = .ok (.if_icmp .ne 46, 3) := by decide +kernel
theorem dX12_notes_12 : decode cX12_notes 12 = .ok (.iconst 0, 1) := by decide +kernel
theorem dX12_notes_13 : decode cX12_notes 13 = .ok (.istore_n 1, 1) := by decide +kernel
theorem dX12_notes_14 : decode cX12_notes 14 = .ok (.iload_n 1, 1) := by decide +kernel
theorem dX12_notes_15 : decode cX12_notes 15 = .ok (.bipush 126, 2) := by decide +kernel
theorem dX12_notes_17 : decode cX12_notes 17 = .ok (.if_icmp .ge 27, 3) := by decide +kernel
theorem dX12_notes_20 : decode cX12_notes 20 = .ok (.aload_n 0, 1) := by decide +kernel
theorem dX12_notes_21 : decode cX12_notes 21 = .ok (.getfield 13, 3) := by decide +kernel
theorem dX12_notes_24 : decode cX12_notes 24 = .ok (.bipush 64, 2) := by decide +kernel
theorem dX12_notes_26 : decode cX12_notes 26 = .ok (.iload_n 1, 1) := by decide +kernel
theorem dX12_notes_27 : decode cX12_notes 27 = .ok (.iadd, 1) := by decide +kernel
theorem dX12_notes_28 : decode cX12_notes 28 = .ok (.aload_n 0, 1) := by decide +kernel
theorem dX12_notes_29 : decode cX12_notes 29 = .ok (.getfield 13, 3) := by decide +kernel
theorem dX12_notes_32 : decode cX12_notes 32 = .ok (.bipush 78, 2) := by decide +kernel
theorem dX12_notes_34 : decode cX12_notes 34 = .ok (.iload_n 1, 1) := by decide +kernel
theorem dX12_notes_35 : decode cX12_notes 35 = .ok (.iadd, 1) := by decide +kernel
theorem dX12_notes_36 : decode cX12_notes 36 = .ok (.iaload, 1) := by decide +kernel
theorem dX12_notes_37 : decode cX12_notes 37 = .ok (.iastore, 1) := by decide +kernel
theorem dX12_notes_38 : decode cX12_notes 38 = .ok (.iinc 1 1, 3) := by decide +kernel
theorem dX12_notes_41 : decode cX12_notes 41 = .ok (.goto (-27), 3) := by decide +kernel
theorem dX12_notes_44 : decode cX12_notes 44 = .ok (.aload_n 0, 1) := by decide +kernel
theorem dX12_notes_45 : decode cX12_notes 45 = .ok (.getfield 13, 3) := by decide +kernel
theorem dX12_notes_48 : decode cX12_notes 48 = .ok (.bipush 63, 2) := by decide +kernel
theorem dX12_notes_50 : decode cX12_notes 50 = .ok (.dup2, 1) := by decide +kernel
theorem dX12_notes_51 : decode cX12_notes 51 = .ok (.iaload, 1) := by decide +kernel
theorem dX12_notes_52 : decode cX12_notes 52 = .ok (.iconst 1, 1) := by decide +kernel
theorem dX12_notes_53 : decode cX12_notes 53 = .ok (.isub, 1) := by decide +kernel
theorem dX12_notes_54 : decode cX12_notes 54 = .ok (.iastore, 1) := by decide +kernel
theorem dX12_notes_55 : decode cX12_notes 55 = .ok (.iconst 0, 1) := by decide +kernel
theorem dX12_notes_56 : decode cX12_notes 56 = .ok (.istore_n 1, 1) := by decide +kernel
theorem dX12_notes_57 : decode cX12_notes 57 = .ok (.iload_n 1, 1) := by decide +kernel
theorem dX12_notes_58 : decode cX12_notes 58 = .ok (.bipush 14, 2) := by decide +kernel
theorem dX12_notes_60 : decode cX12_notes 60 = .ok (.if_icmp .ge 35, 3) := by decide +kernel
theorem dX12_notes_63 : decode cX12_notes 63 = .ok (.aload_n 0, 1) := by decide +kernel
theorem dX12_notes_64 : decode cX12_notes 64 = .ok (.getfield 13, 3) := by decide +kernel
theorem dX12_notes_67 : decode cX12_notes 67 = .ok (.bipush 64, 2) := by decide +kernel
theorem dX12_notes_69 : decode cX12_notes 69 = .ok (.bipush 14, 2) := by decide +kernel
theorem dX12_notes_71 : decode cX12_notes 71 = .ok (.aload_n 0, 1) := by decide +kernel
theorem dX12_notes_72 : decode cX12_notes 72 = .ok (.getfield 13, 3) := by decide +kernel
theorem dX12_notes_75 : decode cX12_notes 75 = .ok (.bipush 63, 2) := by decide +kernel
theorem dX12_notes_77 : decode cX12_notes 77 = .ok (.iaload, 1) := by decide +kernel
theorem dX12_notes_78 : decode cX12_notes 78 = .ok (.imul, 1) := by decide +kernel
theorem dX12_notes_79 : decode cX12_notes 79 = .ok (.iadd, 1) := by decide +kernel
theorem dX12_notes_80 : decode cX12_notes 80 = .ok (.iload_n 1, 1) := by decide +kernel
theorem dX12_notes_81 : decode cX12_notes 81 = .ok (.iadd, 1) := by decide +kernel
theorem dX12_notes_82 : decode cX12_notes 82 = .ok (.aload_n 0, 1) := by decide +kernel
theorem dX12_notes_83 : decode cX12_notes 83 = .ok (.getfield 57, 3) := by decide +kernel
theorem dX12_notes_86 : decode cX12_notes 86 = .ok (.iload_n 1, 1) := by decide +kernel
theorem dX12_notes_87 : decode cX12_notes 87 = .ok (.iaload, 1) := by decide +kernel
theorem dX12_notes_88 : decode cX12_notes 88 = .ok (.iastore, 1) := by decide +kernel
theorem dX12_notes_89 : decode cX12_notes 89 = .ok (.iinc 1 1, 3) := by decide +kernel
theorem dX12_notes_92 : decode cX12_notes 92 = .ok (.goto (-35), 3) := by decide +kernel
theorem dX12_notes_95 : decode cX12_notes 95 = .ok (.aload_n 0, 1) := by decide +kernel
theorem dX12_notes_96 : decode cX12_notes 96 = .ok (.getfield 13, 3) := by decide +kernel
theorem dX12_notes_99 : decode cX12_notes 99 = .ok (.bipush 63, 2) := by decide +kernel
theorem dX12_notes_101 : decode cX12_notes 101 = .ok (.dup2, 1) := by decide +kernel
theorem dX12_notes_102 : decode cX12_notes 102 = .ok (.iaload, 1) := by decide +kernel
theorem dX12_notes_103 : decode cX12_notes 103 = .ok (.iconst 1, 1) := by decide +kernel
theorem dX12_notes_104 : decode cX12_notes 104 = .ok (.iadd, 1) := by decide +kernel
theorem dX12_notes_105 : decode cX12_notes 105 = .ok (.iastore, 1) := by decide +kernel
theorem dX12_notes_106 : decode cX12_notes 106 = .ok (.return_, 1) := by decide +kernel
def hX12_notes_57 (f : Nat) (Φ : aj_M → Prop) : Nat → List Nat → Int → aj_M → Prop
  | 0, _, _, _ => False
  | k + 1, q0, v1, m => rI v1 ∧ (14 ≤ v1 → ∀ m1, m1 = aj_u m (1 :: q0) (63 : Int).toNat ((m (1 :: q0) (63 : Int).toNat) + 1) → Φ m1) ∧ (¬ (14 ≤ v1) → (0 ≤ v1 ∧ v1 < 14) ∧ (0 ≤ ((64 + (14 * (m (1 :: q0) (63 : Int).toNat))) + v1) ∧ ((64 + (14 * (m (1 :: q0) (63 : Int).toNat))) + v1) < 3315) ∧ ∀ m2, m2 = aj_u m (1 :: q0) ((64 + (14 * (m (1 :: q0) (63 : Int).toNat))) + v1).toNat (m (27 :: q0) v1.toNat) → hX12_notes_57 f Φ k q0 (v1 + 1) m2)
set_option maxHeartbeats 4000000 in
set_option maxRecDepth 100000 in
theorem tX12_notes_57 {X : aj_T} {n f : Nat} {Φ : aj_M → Prop} (C : aj_Cx X cX12_notes RX12 2 n) (K : aj_Rt X none (fun r m => r = none ∧ Φ m)) : ∀ (k : Nat) (q0 : List Nat) (v1 : Int) (m : aj_M) (hq0 : (.inl (12, q0) : aj_R) ∈ aj_pls), hX12_notes_57 f Φ k q0 v1 m → aj_J X 57 [some (vO 12 q0), some (vI v1)] [] m := by
  intro k
  induction k with
  | zero =>
    intro q0 v1 m _ h
    exact h.elim
  | succ k ih =>
    intro q0 v1 m hq0 h
    unfold hX12_notes_57 at h
    refine aj_iload_n C dX12_notes_57 rfl ?_
    refine aj_bipush C dX12_notes_58 (by decide) ?_
    obtain ⟨r0, h1, h2⟩ := h
    refine aj_icmp_ge (tgt := 95) C dX12_notes_60 (by decide) r0 (by decide) (fun e => ?_) (fun e => ?_)
    · have h := h1 e
      refine aj_aload_n C dX12_notes_95 rfl ?_
      refine aj_getA (x := 0) (y := 3315) C flX12_13 hq0 rfl dX12_notes_96 ?_
      refine aj_bipush C dX12_notes_99 (by decide) ?_
      refine aj_dup2 C aj_nI aj_nR dX12_notes_101 ?_
      refine aj_iald C (aj_ca (e := 0) (n := 3315) (j := 1) hq0 (by decide) rfl) (by decide) (by decide) dX12_notes_102 rfl ?_
      refine aj_iconst C dX12_notes_103 ?_
      refine aj_iadd C dX12_notes_104 ?_
      refine aj_iast C (aj_ca (e := 0) (n := 3315) (j := 1) hq0 (by decide) rfl) (by decide) (by decide) dX12_notes_105 ?_
      refine aj_nm (fun m1 e1 => ?_)
      have h := h m1 e1
      exact aj_vret C K dX12_notes_106 ⟨rfl, h⟩
    · have h := h2 e
      refine aj_aload_n C dX12_notes_63 rfl ?_
      refine aj_getA (x := 0) (y := 3315) C flX12_13 hq0 rfl dX12_notes_64 ?_
      refine aj_bipush C dX12_notes_67 (by decide) ?_
      refine aj_bipush C dX12_notes_69 (by decide) ?_
      refine aj_aload_n C dX12_notes_71 rfl ?_
      refine aj_getA (x := 0) (y := 3315) C flX12_13 hq0 rfl dX12_notes_72 ?_
      refine aj_bipush C dX12_notes_75 (by decide) ?_
      refine aj_iald C (aj_ca (e := 0) (n := 3315) (j := 1) hq0 (by decide) rfl) (by decide) (by decide) dX12_notes_77 rfl ?_
      refine aj_imul C dX12_notes_78 ?_
      refine aj_iadd C dX12_notes_79 ?_
      refine aj_iload_n C dX12_notes_80 rfl ?_
      refine aj_iadd C dX12_notes_81 ?_
      refine aj_aload_n C dX12_notes_82 rfl ?_
      refine aj_getA (x := 0) (y := 14) C flX12_57 hq0 rfl dX12_notes_83 ?_
      refine aj_iload_n C dX12_notes_86 rfl ?_
      obtain ⟨r0, h⟩ := h
      refine aj_iald C (aj_ca (e := 0) (n := 14) (j := 27) hq0 (by decide) rfl) (by decide) r0 dX12_notes_87 rfl ?_
      obtain ⟨r0, h⟩ := h
      refine aj_iast C (aj_ca (e := 0) (n := 3315) (j := 1) hq0 (by decide) rfl) (by decide) r0 dX12_notes_88 ?_
      refine aj_nm (fun m2 e1 => ?_)
      have h := h m2 e1
      refine aj_iinc (lv' := [some (vO 12 q0), some (vI (v1 + 1))]) C dX12_notes_89 rfl (by decide) rfl ?_
      refine aj_goto (tgt := 57) C dX12_notes_92 (by decide) ?_
      exact ih q0 (v1 + 1) _ hq0 h
def hX12_notes_14 (f : Nat) (Φ : aj_M → Prop) : Nat → List Nat → Int → aj_M → Prop
  | 0, _, _, _ => False
  | k + 1, q0, v1, m => rI v1 ∧ (126 ≤ v1 → ∀ m1, m1 = aj_u m (1 :: q0) (63 : Int).toNat ((m (1 :: q0) (63 : Int).toNat) - 1) → hX12_notes_57 f Φ f q0 0 m1) ∧ (¬ (126 ≤ v1) → (0 ≤ (78 + v1) ∧ (78 + v1) < 3315) ∧ (0 ≤ (64 + v1) ∧ (64 + v1) < 3315) ∧ ∀ m2, m2 = aj_u m (1 :: q0) (64 + v1).toNat (m (1 :: q0) (78 + v1).toNat) → hX12_notes_14 f Φ k q0 (v1 + 1) m2)
set_option maxHeartbeats 4000000 in
set_option maxRecDepth 100000 in
theorem tX12_notes_14 {X : aj_T} {n f : Nat} {Φ : aj_M → Prop} (C : aj_Cx X cX12_notes RX12 2 n) (K : aj_Rt X none (fun r m => r = none ∧ Φ m)) : ∀ (k : Nat) (q0 : List Nat) (v1 : Int) (m : aj_M) (hq0 : (.inl (12, q0) : aj_R) ∈ aj_pls), hX12_notes_14 f Φ k q0 v1 m → aj_J X 14 [some (vO 12 q0), some (vI v1)] [] m := by
  intro k
  induction k with
  | zero =>
    intro q0 v1 m _ h
    exact h.elim
  | succ k ih =>
    intro q0 v1 m hq0 h
    unfold hX12_notes_14 at h
    refine aj_iload_n C dX12_notes_14 rfl ?_
    refine aj_bipush C dX12_notes_15 (by decide) ?_
    obtain ⟨r0, h1, h2⟩ := h
    refine aj_icmp_ge (tgt := 44) C dX12_notes_17 (by decide) r0 (by decide) (fun e => ?_) (fun e => ?_)
    · have h := h1 e
      refine aj_aload_n C dX12_notes_44 rfl ?_
      refine aj_getA (x := 0) (y := 3315) C flX12_13 hq0 rfl dX12_notes_45 ?_
      refine aj_bipush C dX12_notes_48 (by decide) ?_
      refine aj_dup2 C aj_nI aj_nR dX12_notes_50 ?_
      refine aj_iald C (aj_ca (e := 0) (n := 3315) (j := 1) hq0 (by decide) rfl) (by decide) (by decide) dX12_notes_51 rfl ?_
      refine aj_iconst C dX12_notes_52 ?_
      refine aj_isub C dX12_notes_53 ?_
      refine aj_iast C (aj_ca (e := 0) (n := 3315) (j := 1) hq0 (by decide) rfl) (by decide) (by decide) dX12_notes_54 ?_
      refine aj_nm (fun m1 e1 => ?_)
      have h := h m1 e1
      refine aj_iconst C dX12_notes_55 ?_
      refine aj_istore_n (lv' := [some (vO 12 q0), some (vI 0)]) C dX12_notes_56 (by decide) rfl ?_
      exact tX12_notes_57 C K f q0 0 _ hq0 h
    · have h := h2 e
      refine aj_aload_n C dX12_notes_20 rfl ?_
      refine aj_getA (x := 0) (y := 3315) C flX12_13 hq0 rfl dX12_notes_21 ?_
      refine aj_bipush C dX12_notes_24 (by decide) ?_
      refine aj_iload_n C dX12_notes_26 rfl ?_
      refine aj_iadd C dX12_notes_27 ?_
      refine aj_aload_n C dX12_notes_28 rfl ?_
      refine aj_getA (x := 0) (y := 3315) C flX12_13 hq0 rfl dX12_notes_29 ?_
      refine aj_bipush C dX12_notes_32 (by decide) ?_
      refine aj_iload_n C dX12_notes_34 rfl ?_
      refine aj_iadd C dX12_notes_35 ?_
      obtain ⟨r0, h⟩ := h
      refine aj_iald C (aj_ca (e := 0) (n := 3315) (j := 1) hq0 (by decide) rfl) (by decide) r0 dX12_notes_36 rfl ?_
      obtain ⟨r0, h⟩ := h
      refine aj_iast C (aj_ca (e := 0) (n := 3315) (j := 1) hq0 (by decide) rfl) (by decide) r0 dX12_notes_37 ?_
      refine aj_nm (fun m2 e1 => ?_)
      have h := h m2 e1
      refine aj_iinc (lv' := [some (vO 12 q0), some (vI (v1 + 1))]) C dX12_notes_38 rfl (by decide) rfl ?_
      refine aj_goto (tgt := 14) C dX12_notes_41 (by decide) ?_
      exact ih q0 (v1 + 1) _ hq0 h
def wX12_notes (f : Nat) (Φ : aj_M → Prop) (q0 : List Nat) (m : aj_M) : Prop := rI (m (1 :: q0) (63 : Int).toNat) ∧ (¬ (m (1 :: q0) (63 : Int).toNat) = 10 → hX12_notes_57 f Φ f q0 0 m) ∧ ((m (1 :: q0) (63 : Int).toNat) = 10 → hX12_notes_14 f Φ f q0 0 m)
set_option maxHeartbeats 4000000 in
set_option maxRecDepth 100000 in
theorem sX12_notes {n f : Nat} {Φ : aj_M → Prop} {q0 : List Nat} {m : aj_M} (hq0 : (.inl (12, q0) : aj_R) ∈ aj_pls) (h : wX12_notes f Φ q0 m) : aj_Ct n yX12_notes cX12_notes 2 none [vO 12 q0] m (fun r m => r = none ∧ Φ m) := by
  refine aj_met (lv := [some (vO 12 q0), none]) (by decide +kernel) rfl (Nat.le_of_ble_eq_true rfl) (fun X C K => ?_)
  unfold wX12_notes at h
  refine aj_aload_n C dX12_notes_0 rfl ?_
  refine aj_getA (x := 0) (y := 3315) C flX12_13 hq0 rfl dX12_notes_1 ?_
  refine aj_bipush C dX12_notes_4 (by decide) ?_
  refine aj_iald C (aj_ca (e := 0) (n := 3315) (j := 1) hq0 (by decide) rfl) (by decide) (by decide) dX12_notes_6 rfl ?_
  refine aj_bipush C dX12_notes_7 (by decide) ?_
  obtain ⟨r0, h1, h2⟩ := h
  refine aj_icmp_ne (tgt := 55) C dX12_notes_9 (by decide) r0 (by decide) (fun e => ?_) (fun e => ?_)
  · have h := h1 e
    refine aj_iconst C dX12_notes_55 ?_
    refine aj_istore_n (lv' := [some (vO 12 q0), some (vI 0)]) C dX12_notes_56 (by decide) rfl ?_
    exact tX12_notes_57 C K f q0 0 _ hq0 h
  · have h := h2 e
    refine aj_iconst C dX12_notes_12 ?_
    refine aj_istore_n (lv' := [some (vO 12 q0), some (vI 0)]) C dX12_notes_13 (by decide) rfl ?_
    exact tX12_notes_14 C K f q0 0 _ hq0 h
theorem dX12_whyTurn_0 : decode cX12_whyTurn 0 = .ok (.aload_n 0, 1) := by decide +kernel
theorem dX12_whyTurn_1 : decode cX12_whyTurn 1 = .ok (.lload_n 1, 1) := by decide +kernel
theorem dX12_whyTurn_2 : decode cX12_whyTurn 2 = .ok (.invokevirtual 291, 3) := by decide +kernel
theorem dX12_whyTurn_5 : decode cX12_whyTurn 5 = .ok (.ifCond .eq 11, 3) := by decide +kernel
theorem dX12_whyTurn_8 : decode cX12_whyTurn 8 = .ok (.aload_n 0, 1) := by decide +kernel
theorem dX12_whyTurn_9 : decode cX12_whyTurn 9 = .ok (.lload_n 3, 1) := by decide +kernel
theorem dX12_whyTurn_10 : decode cX12_whyTurn 10 = .ok (.invokevirtual 205, 3) := by decide +kernel
theorem dX12_whyTurn_13 : decode cX12_whyTurn 13 = .ok (.ifCond .ne 5, 3) := by decide +kernel
theorem dX12_whyTurn_16 : decode cX12_whyTurn 16 = .ok (.iconst 1, 1) := by decide +kernel
theorem dX12_whyTurn_17 : decode cX12_whyTurn 17 = .ok (.ireturn, 1) := by decide +kernel
theorem dX12_whyTurn_18 : decode cX12_whyTurn 18 = .ok (.aload_n 0, 1) := by decide +kernel
theorem dX12_whyTurn_19 : decode cX12_whyTurn 19 = .ok (.getfield 13, 3) := by decide +kernel
theorem dX12_whyTurn_22 : decode cX12_whyTurn 22 = .ok (.bipush 37, 2) := by decide +kernel
theorem dX12_whyTurn_24 : decode cX12_whyTurn 24 = .ok (.lload_n 1, 1) := by decide +kernel
theorem dX12_whyTurn_25 : decode cX12_whyTurn 25 = .ok (.l2i, 1) := by decide +kernel
theorem dX12_whyTurn_26 : decode cX12_whyTurn 26 = .ok (.iadd, 1) := by decide +kernel
theorem dX12_whyTurn_27 : decode cX12_whyTurn 27 = .ok (.iaload, 1) := by decide +kernel
theorem dX12_whyTurn_28 : decode cX12_whyTurn 28 = .ok (.iconst 1, 1) := by decide +kernel
theorem dX12_whyTurn_29 : decode cX12_whyTurn 29 = .ok (.if_icmp .ne 20, 3) := by decide +kernel
theorem dX12_whyTurn_32 : decode cX12_whyTurn 32 = .ok (.aload_n 0, 1) := by decide +kernel
theorem dX12_whyTurn_33 : decode cX12_whyTurn 33 = .ok (.getfield 13, 3) := by decide +kernel
theorem dX12_whyTurn_36 : decode cX12_whyTurn 36 = .ok (.lload_n 3, 1) := by decide +kernel
theorem dX12_whyTurn_37 : decode cX12_whyTurn 37 = .ok (.l2i, 1) := by decide +kernel
theorem dX12_whyTurn_38 : decode cX12_whyTurn 38 = .ok (.invokestatic 212, 3) := by decide +kernel
theorem dX12_whyTurn_41 : decode cX12_whyTurn 41 = .ok (.iconst 2, 1) := by decide +kernel
theorem dX12_whyTurn_42 : decode cX12_whyTurn 42 = .ok (.if_icmp .eq 7, 3) := by decide +kernel
theorem dX12_whyTurn_45 : decode cX12_whyTurn 45 = .ok (.iconst 2, 1) := by decide +kernel
theorem dX12_whyTurn_46 : decode cX12_whyTurn 46 = .ok (.goto 4, 3) := by decide +kernel
theorem dX12_whyTurn_49 : decode cX12_whyTurn 49 = .ok (.iconst 0, 1) := by decide +kernel
theorem dX12_whyTurn_50 : decode cX12_whyTurn 50 = .ok (.ireturn, 1) := by decide +kernel
def wX12_whyTurn (f : Nat) (Φ : Int → aj_M → Prop) (q0 : List Nat) (w1 : Int) (w3 : Int) (m : aj_M) : Prop := wX12_isArc f (fun z1 m1 => rI z1 ∧ (z1 = 0 → Φ 1 m1) ∧ (¬ (z1 = 0) → wX12_isMember f (fun z2 m2 => rI z2 ∧ (¬ z2 = 0 → (0 ≤ (37 + w1) ∧ (37 + w1) < 3315) ∧ rI (m2 (1 :: q0) (37 + w1).toNat) ∧ (¬ (m2 (1 :: q0) (37 + w1).toNat) = 1 → Φ 0 m2) ∧ ((m2 (1 :: q0) (37 + w1).toNat) = 1 → wX12_ordersOf f (fun z3 m3 => rI z3 ∧ (z3 = 2 → Φ 0 m3) ∧ (¬ (z3 = 2) → Φ 2 m3)) 3315 (1 :: q0) w3 m2)) ∧ (z2 = 0 → Φ 1 m2)) q0 w3 m1)) q0 w1 m
set_option maxHeartbeats 4000000 in
set_option maxRecDepth 100000 in
theorem sX12_whyTurn {n f : Nat} {Φ : Int → aj_M → Prop} {q0 : List Nat} {w1 : Int} {w3 : Int} {m : aj_M} (hq0 : (.inl (12, q0) : aj_R) ∈ aj_pls) (h : wX12_whyTurn f Φ q0 w1 w3 m) : aj_Ct (n + 4) yX12_whyTurn cX12_whyTurn 5 (some .int) [vO 12 q0, vL w1, vL w3] m (fun r m => ∃ z, r = some (vI z) ∧ Φ z m) := by
  refine aj_met (lv := [some (vO 12 q0), some (vL w1), none, some (vL w3), none]) (by decide +kernel) rfl (Nat.le_of_ble_eq_true rfl) (fun X C K => ?_)
  unfold wX12_whyTurn at h
  refine aj_aload_n C dX12_whyTurn_0 rfl ?_
  refine aj_lload_n C dX12_whyTurn_1 rfl ?_
  refine aj_callV (rest := []) C mvX12_291 (sX12_isArc hq0 h) hq0 (aj_np 1 (by decide +kernel) rfl) (Nat.le_of_ble_eq_true rfl) rfl dX12_whyTurn_2 (fun r m1 h => ?_)
  obtain ⟨z1, rfl, h⟩ := h
  obtain ⟨r0, h1, h2⟩ := h
  refine aj_if_eq (tgt := 16) C dX12_whyTurn_5 (by decide) r0 (fun e => ?_) (fun e => ?_)
  · have h := h1 e
    refine aj_iconst C dX12_whyTurn_16 ?_
    exact aj_iret C K dX12_whyTurn_17 ⟨_, rfl, h⟩
  · have h := h2 e
    refine aj_aload_n C dX12_whyTurn_8 rfl ?_
    refine aj_lload_n C dX12_whyTurn_9 rfl ?_
    refine aj_callV (rest := []) C mvX12_205 (sX12_isMember hq0 h) hq0 (aj_np 1 (by decide +kernel) rfl) (Nat.le_of_ble_eq_true rfl) rfl dX12_whyTurn_10 (fun r m2 h => ?_)
    obtain ⟨z2, rfl, h⟩ := h
    obtain ⟨r0, h1, h2⟩ := h
    refine aj_if_ne (tgt := 18) C dX12_whyTurn_13 (by decide) r0 (fun e => ?_) (fun e => ?_)
    · have h := h1 e
      refine aj_aload_n C dX12_whyTurn_18 rfl ?_
      refine aj_getA (x := 0) (y := 3315) C flX12_13 hq0 rfl dX12_whyTurn_19 ?_
      refine aj_bipush C dX12_whyTurn_22 (by decide) ?_
      refine aj_lload_n C dX12_whyTurn_24 rfl ?_
      refine aj_l2i C dX12_whyTurn_25 ?_
      refine aj_iadd C dX12_whyTurn_26 ?_
      obtain ⟨r0, h⟩ := h
      refine aj_iald C (aj_ca (e := 0) (n := 3315) (j := 1) hq0 (by decide) rfl) (by decide) r0 dX12_whyTurn_27 rfl ?_
      refine aj_iconst C dX12_whyTurn_28 ?_
      obtain ⟨r0, h1, h2⟩ := h
      refine aj_icmp_ne (tgt := 49) C dX12_whyTurn_29 (by decide) r0 (by decide) (fun e => ?_) (fun e => ?_)
      · have h := h1 e
        refine aj_iconst C dX12_whyTurn_49 ?_
        exact aj_iret C K dX12_whyTurn_50 ⟨_, rfl, h⟩
      · have h := h2 e
        refine aj_aload_n C dX12_whyTurn_32 rfl ?_
        refine aj_getA (x := 0) (y := 3315) C flX12_13 hq0 rfl dX12_whyTurn_33 ?_
        refine aj_lload_n C dX12_whyTurn_36 rfl ?_
        refine aj_l2i C dX12_whyTurn_37 ?_
        refine aj_callS (rest := []) C msX12_212 (sX12_ordersOf (aj_ca (e := 0) (n := 3315) (j := 1) hq0 (by decide) rfl) (by decide) h) (aj_np 2 (by decide +kernel) rfl) (Nat.le_of_ble_eq_true rfl) rfl dX12_whyTurn_38 (fun r m3 h => ?_)
        obtain ⟨z3, rfl, h⟩ := h
        refine aj_iconst C dX12_whyTurn_41 ?_
        obtain ⟨r0, h1, h2⟩ := h
        refine aj_icmp_eq (tgt := 49) C dX12_whyTurn_42 (by decide) r0 (by decide) (fun e => ?_) (fun e => ?_)
        · have h := h1 e
          refine aj_iconst C dX12_whyTurn_49 ?_
          exact aj_iret C K dX12_whyTurn_50 ⟨_, rfl, h⟩
        · have h := h2 e
          refine aj_iconst C dX12_whyTurn_45 ?_
          refine aj_goto (tgt := 50) C dX12_whyTurn_46 (by decide) ?_
          exact aj_iret C K dX12_whyTurn_50 ⟨_, rfl, h⟩
    · have h := h2 e
      refine aj_iconst C dX12_whyTurn_16 ?_
      exact aj_iret C K dX12_whyTurn_17 ⟨_, rfl, h⟩
theorem dX12_turn_0 : decode cX12_turn 0 = .ok (.aload_n 0, 1) := by decide +kernel
theorem dX12_turn_1 : decode cX12_turn 1 = .ok (.iconst 0, 1) := by decide +kernel
theorem dX12_turn_2 : decode cX12_turn 2 = .ok (.putfield 1, 3) := by decide +kernel
theorem dX12_turn_5 : decode cX12_turn 5 = .ok (.aload_n 0, 1) := by decide +kernel
theorem dX12_turn_6 : decode cX12_turn 6 = .ok (.iload_n 1, 1) := by decide +kernel
theorem dX12_turn_7 : decode cX12_turn 7 = .ok (.i2l, 1) := by decide +kernel
theorem dX12_turn_8 : decode cX12_turn 8 = .ok (.iload_n 2, 1) := by decide +kernel
theorem dX12_turn_9 : decode cX12_turn 9 = .ok (.i2l, 1) := by decide +kernel
theorem dX12_turn_10 : decode cX12_turn 10 = .ok (.invokevirtual 294, 3) := by decide +kernel
theorem dX12_turn_13 : decode cX12_turn 13 = .ok (.istore_n 3, 1) := by decide +kernel
theorem dX12_turn_14 : decode cX12_turn 14 = .ok (.iload_n 3, 1) := by decide +kernel
theorem dX12_turn_15 : decode cX12_turn 15 = .ok (.ifCond .eq 8, 3) := by decide +kernel
theorem dX12_turn_18 : decode cX12_turn 18 = .ok (.bipush (-10), 2) := by decide +kernel
theorem dX12_turn_20 : decode cX12_turn 20 = .ok (.iload_n 3, 1) := by decide +kernel
theorem dX12_turn_21 : decode cX12_turn 21 = .ok (.isub, 1) := by decide +kernel
theorem dX12_turn_22 : decode cX12_turn 22 = .ok (.ireturn, 1) := by decide +kernel
theorem dX12_turn_23 : decode cX12_turn 23 = .ok (.aload_n 0, 1) := by decide +kernel
theorem dX12_turn_24 : decode cX12_turn 24 = .ok (.invokevirtual 298, 3) := by decide +kernel
theorem dX12_turn_27 : decode cX12_turn 27 = .ok (.aload_n 0, 1) := by decide +kernel
theorem dX12_turn_28 : decode cX12_turn 28 = .ok (.getfield 13, 3) := by decide +kernel
theorem dX12_turn_31 : decode cX12_turn 31 = .ok (.bipush 49, 2) := by decide +kernel
theorem dX12_turn_33 : decode cX12_turn 33 = .ok (.iload_n 1, 1) := by decide +kernel
theorem dX12_turn_34 : decode cX12_turn 34 = .ok (.iadd, 1) := by decide +kernel
theorem dX12_turn_35 : decode cX12_turn 35 = .ok (.iload_n 2, 1) := by decide +kernel
theorem dX12_turn_36 : decode cX12_turn 36 = .ok (.iastore, 1) := by decide +kernel
theorem dX12_turn_37 : decode cX12_turn 37 = .ok (.aload_n 0, 1) := by decide +kernel
theorem dX12_turn_38 : decode cX12_turn 38 = .ok (.invokevirtual 301, 3) := by decide +kernel
theorem dX12_turn_41 : decode cX12_turn 41 = .ok (.aload_n 0, 1) := by decide +kernel
theorem dX12_turn_42 : decode cX12_turn 42 = .ok (.getfield 57, 3) := by decide +kernel
theorem dX12_turn_45 : decode cX12_turn 45 = .ok (.iload_n 1, 1) := by decide +kernel
theorem dX12_turn_46 : decode cX12_turn 46 = .ok (.iaload, 1) := by decide +kernel
theorem dX12_turn_47 : decode cX12_turn 47 = .ok (.ireturn, 1) := by decide +kernel
def wX12_turn (f : Nat) (Φ : Int → aj_M → Prop) (q0 : List Nat) (v1 : Int) (v2 : Int) (m : aj_M) : Prop := ∀ m1, m1 = aj_u m q0 0 0 → rI v1 ∧ rI v2 ∧ wX12_whyTurn f (fun z1 m2 => rI z1 ∧ (z1 = 0 → wX12_stores f (fun m3 => (0 ≤ (49 + v1) ∧ (49 + v1) < 3315) ∧ ∀ m4, m4 = aj_u m3 (1 :: q0) (49 + v1).toNat v2 → wX12_notes f (fun m5 => (0 ≤ v1 ∧ v1 < 14) ∧ Φ (m5 (27 :: q0) v1.toNat) m5) q0 m4) q0 m2) ∧ (¬ (z1 = 0) → Φ ((-10) - z1) m2)) q0 v1 v2 m1
set_option maxHeartbeats 4000000 in
set_option maxRecDepth 100000 in
theorem sX12_turn {n f : Nat} {Φ : Int → aj_M → Prop} {q0 : List Nat} {v1 : Int} {v2 : Int} {m : aj_M} (hq0 : (.inl (12, q0) : aj_R) ∈ aj_pls) (h : wX12_turn f Φ q0 v1 v2 m) : aj_Ct (n + 5) yX12_turn cX12_turn 4 (some .int) [vO 12 q0, vI v1, vI v2] m (fun r m => ∃ z, r = some (vI z) ∧ Φ z m) := by
  refine aj_met (lv := [some (vO 12 q0), some (vI v1), some (vI v2), none]) (by decide +kernel) rfl (Nat.le_of_ble_eq_true rfl) (fun X C K => ?_)
  unfold wX12_turn at h
  refine aj_aload_n C dX12_turn_0 rfl ?_
  refine aj_iconst C dX12_turn_1 ?_
  refine aj_putI C fpX12_1 hq0 rfl dX12_turn_2 ?_
  refine aj_nm (fun m1 e1 => ?_)
  have h := h m1 e1
  refine aj_aload_n C dX12_turn_5 rfl ?_
  refine aj_iload_n C dX12_turn_6 rfl ?_
  obtain ⟨r0, h⟩ := h
  refine aj_i2l C dX12_turn_7 r0 ?_
  refine aj_iload_n C dX12_turn_8 rfl ?_
  obtain ⟨r0, h⟩ := h
  refine aj_i2l C dX12_turn_9 r0 ?_
  refine aj_callV (rest := []) C mvX12_294 (sX12_whyTurn hq0 h) hq0 (aj_np 2 (by decide +kernel) rfl) (Nat.le_of_ble_eq_true rfl) rfl dX12_turn_10 (fun r m2 h => ?_)
  obtain ⟨z1, rfl, h⟩ := h
  refine aj_istore_n (lv' := [some (vO 12 q0), some (vI v1), some (vI v2), some (vI z1)]) C dX12_turn_13 (by decide) rfl ?_
  refine aj_iload_n C dX12_turn_14 rfl ?_
  obtain ⟨r0, h1, h2⟩ := h
  refine aj_if_eq (tgt := 23) C dX12_turn_15 (by decide) r0 (fun e => ?_) (fun e => ?_)
  · have h := h1 e
    refine aj_aload_n C dX12_turn_23 rfl ?_
    refine aj_callV (rest := []) C mvX12_298 (sX12_stores hq0 h) hq0 (aj_np 0 (by decide +kernel) rfl) (Nat.le_of_ble_eq_true rfl) rfl dX12_turn_24 (fun r m3 h => ?_)
    obtain ⟨rfl, h⟩ := h
    refine aj_aload_n C dX12_turn_27 rfl ?_
    refine aj_getA (x := 0) (y := 3315) C flX12_13 hq0 rfl dX12_turn_28 ?_
    refine aj_bipush C dX12_turn_31 (by decide) ?_
    refine aj_iload_n C dX12_turn_33 rfl ?_
    refine aj_iadd C dX12_turn_34 ?_
    refine aj_iload_n C dX12_turn_35 rfl ?_
    obtain ⟨r0, h⟩ := h
    refine aj_iast C (aj_ca (e := 0) (n := 3315) (j := 1) hq0 (by decide) rfl) (by decide) r0 dX12_turn_36 ?_
    refine aj_nm (fun m4 e1 => ?_)
    have h := h m4 e1
    refine aj_aload_n C dX12_turn_37 rfl ?_
    refine aj_callV (rest := []) C mvX12_301 (sX12_notes hq0 h) hq0 (aj_np 0 (by decide +kernel) rfl) (Nat.le_of_ble_eq_true rfl) rfl dX12_turn_38 (fun r m5 h => ?_)
    obtain ⟨rfl, h⟩ := h
    refine aj_aload_n C dX12_turn_41 rfl ?_
    refine aj_getA (x := 0) (y := 14) C flX12_57 hq0 rfl dX12_turn_42 ?_
    refine aj_iload_n C dX12_turn_45 rfl ?_
    obtain ⟨r0, h⟩ := h
    refine aj_iald C (aj_ca (e := 0) (n := 14) (j := 27) hq0 (by decide) rfl) (by decide) r0 dX12_turn_46 rfl ?_
    exact aj_iret C K dX12_turn_47 ⟨_, rfl, h⟩
  · have h := h2 e
    refine aj_bipush C dX12_turn_18 (by decide) ?_
    refine aj_iload_n C dX12_turn_20 rfl ?_
    refine aj_isub C dX12_turn_21 ?_
    exact aj_iret C K dX12_turn_22 ⟨_, rfl, h⟩
theorem dX12_cut_0 : decode cX12_cut 0 = .ok (.aload_n 0, 1) := by decide +kernel
theorem dX12_cut_1 : decode cX12_cut 1 = .ok (.iconst 0, 1) := by decide +kernel
theorem dX12_cut_2 : decode cX12_cut 2 = .ok (.putfield 1, 3) := by decide +kernel
theorem dX12_cut_5 : decode cX12_cut 5 = .ok (.aload_n 0, 1) := by decide +kernel
theorem dX12_cut_6 : decode cX12_cut 6 = .ok (.iload_n 1, 1) := by decide +kernel
theorem dX12_cut_7 : decode cX12_cut 7 = .ok (.i2l, 1) := by decide +kernel
theorem dX12_cut_8 : decode cX12_cut 8 = .ok (.invokevirtual 291, 3) := by decide +kernel
theorem dX12_cut_11 : decode cX12_cut 11 = .ok (.ifCond .ne 6, 3) := by decide +kernel
theorem dX12_cut_14 : decode cX12_cut 14 = .ok (.bipush (-11), 2) := by decide +kernel
theorem dX12_cut_16 : decode cX12_cut 16 = .ok (.ireturn, 1) := by decide +kernel
theorem dX12_cut_17 : decode cX12_cut 17 = .ok (.aload_n 0, 1) := by decide +kernel
theorem dX12_cut_18 : decode cX12_cut 18 = .ok (.invokevirtual 298, 3) := by decide +kernel
theorem dX12_cut_21 : decode cX12_cut 21 = .ok (.aload_n 0, 1) := by decide +kernel
theorem dX12_cut_22 : decode cX12_cut 22 = .ok (.getfield 13, 3) := by decide +kernel
theorem dX12_cut_25 : decode cX12_cut 25 = .ok (.bipush 61, 2) := by decide +kernel
theorem dX12_cut_27 : decode cX12_cut 27 = .ok (.dup2, 1) := by decide +kernel
theorem dX12_cut_28 : decode cX12_cut 28 = .ok (.iaload, 1) := by decide +kernel
theorem dX12_cut_29 : decode cX12_cut 29 = .ok (.iconst 1, 1) := by decide +kernel
theorem dX12_cut_30 : decode cX12_cut 30 = .ok (.iload_n 1, 1) := by decide +kernel
theorem dX12_cut_31 : decode cX12_cut 31 = .ok (.ishl, 1) := by decide +kernel
theorem dX12_cut_32 : decode cX12_cut 32 = .ok (.ixor, 1) := by decide +kernel
theorem dX12_cut_33 : decode cX12_cut 33 = .ok (.iastore, 1) := by decide +kernel
theorem dX12_cut_34 : decode cX12_cut 34 = .ok (.aload_n 0, 1) := by decide +kernel
theorem dX12_cut_35 : decode cX12_cut 35 = .ok (.invokevirtual 301, 3) := by decide +kernel
theorem dX12_cut_38 : decode cX12_cut 38 = .ok (.aload_n 0, 1) := by decide +kernel
theorem dX12_cut_39 : decode cX12_cut 39 = .ok (.getfield 13, 3) := by decide +kernel
theorem dX12_cut_42 : decode cX12_cut 42 = .ok (.bipush 61, 2) := by decide +kernel
theorem dX12_cut_44 : decode cX12_cut 44 = .ok (.iaload, 1) := by decide +kernel
theorem dX12_cut_45 : decode cX12_cut 45 = .ok (.i2l, 1) := by decide +kernel
theorem dX12_cut_46 : decode cX12_cut 46 = .ok (.iload_n 1, 1) := by decide +kernel
theorem dX12_cut_47 : decode cX12_cut 47 = .ok (.invokestatic 274, 3) := by decide +kernel
theorem dX12_cut_50 : decode cX12_cut 50 = .ok (.ifCond .eq 7, 3) := by decide +kernel
theorem dX12_cut_53 : decode cX12_cut 53 = .ok (.iconst 1, 1) := by decide +kernel
theorem dX12_cut_54 : decode cX12_cut 54 = .ok (.goto 4, 3) := by decide +kernel
theorem dX12_cut_57 : decode cX12_cut 57 = .ok (.iconst 0, 1) := by decide +kernel
theorem dX12_cut_58 : decode cX12_cut 58 = .ok (.ireturn, 1) := by decide +kernel
def wX12_cut (f : Nat) (Φ : Int → aj_M → Prop) (q0 : List Nat) (v1 : Int) (m : aj_M) : Prop := ∀ m1, m1 = aj_u m q0 0 0 → rI v1 ∧ wX12_isArc f (fun z1 m2 => rI z1 ∧ (¬ z1 = 0 → wX12_stores f (fun m3 => ∀ m4, m4 = aj_u m3 (1 :: q0) (61 : Int).toNat (aj_xor (m3 (1 :: q0) (61 : Int).toNat) (aj_shl 1 v1)) → wX12_notes f (fun m5 => rI (m5 (1 :: q0) (61 : Int).toNat) ∧ wX12_isIn f (fun z4 m6 => rI z4 ∧ (z4 = 0 → Φ 0 m6) ∧ (¬ (z4 = 0) → Φ 1 m6)) (m5 (1 :: q0) (61 : Int).toNat) v1 m5) q0 m4) q0 m2) ∧ (z1 = 0 → Φ (-11) m2)) q0 v1 m1
set_option maxHeartbeats 4000000 in
set_option maxRecDepth 100000 in
theorem sX12_cut {n f : Nat} {Φ : Int → aj_M → Prop} {q0 : List Nat} {v1 : Int} {m : aj_M} (hq0 : (.inl (12, q0) : aj_R) ∈ aj_pls) (h : wX12_cut f Φ q0 v1 m) : aj_Ct (n + 2) yX12_cut cX12_cut 2 (some .int) [vO 12 q0, vI v1] m (fun r m => ∃ z, r = some (vI z) ∧ Φ z m) := by
  refine aj_met (lv := [some (vO 12 q0), some (vI v1)]) (by decide +kernel) rfl (Nat.le_of_ble_eq_true rfl) (fun X C K => ?_)
  unfold wX12_cut at h
  refine aj_aload_n C dX12_cut_0 rfl ?_
  refine aj_iconst C dX12_cut_1 ?_
  refine aj_putI C fpX12_1 hq0 rfl dX12_cut_2 ?_
  refine aj_nm (fun m1 e1 => ?_)
  have h := h m1 e1
  refine aj_aload_n C dX12_cut_5 rfl ?_
  refine aj_iload_n C dX12_cut_6 rfl ?_
  obtain ⟨r0, h⟩ := h
  refine aj_i2l C dX12_cut_7 r0 ?_
  refine aj_callV (rest := []) C mvX12_291 (sX12_isArc hq0 h) hq0 (aj_np 1 (by decide +kernel) rfl) (Nat.le_of_ble_eq_true rfl) rfl dX12_cut_8 (fun r m2 h => ?_)
  obtain ⟨z1, rfl, h⟩ := h
  obtain ⟨r0, h1, h2⟩ := h
  refine aj_if_ne (tgt := 17) C dX12_cut_11 (by decide) r0 (fun e => ?_) (fun e => ?_)
  · have h := h1 e
    refine aj_aload_n C dX12_cut_17 rfl ?_
    refine aj_callV (rest := []) C mvX12_298 (sX12_stores hq0 h) hq0 (aj_np 0 (by decide +kernel) rfl) (Nat.le_of_ble_eq_true rfl) rfl dX12_cut_18 (fun r m3 h => ?_)
    obtain ⟨rfl, h⟩ := h
    refine aj_aload_n C dX12_cut_21 rfl ?_
    refine aj_getA (x := 0) (y := 3315) C flX12_13 hq0 rfl dX12_cut_22 ?_
    refine aj_bipush C dX12_cut_25 (by decide) ?_
    refine aj_dup2 C aj_nI aj_nR dX12_cut_27 ?_
    refine aj_iald C (aj_ca (e := 0) (n := 3315) (j := 1) hq0 (by decide) rfl) (by decide) (by decide) dX12_cut_28 rfl ?_
    refine aj_iconst C dX12_cut_29 ?_
    refine aj_iload_n C dX12_cut_30 rfl ?_
    refine aj_ishl C dX12_cut_31 ?_
    refine aj_ixor C dX12_cut_32 ?_
    refine aj_iast C (aj_ca (e := 0) (n := 3315) (j := 1) hq0 (by decide) rfl) (by decide) (by decide) dX12_cut_33 ?_
    refine aj_nm (fun m4 e1 => ?_)
    have h := h m4 e1
    refine aj_aload_n C dX12_cut_34 rfl ?_
    refine aj_callV (rest := []) C mvX12_301 (sX12_notes hq0 h) hq0 (aj_np 0 (by decide +kernel) rfl) (Nat.le_of_ble_eq_true rfl) rfl dX12_cut_35 (fun r m5 h => ?_)
    obtain ⟨rfl, h⟩ := h
    refine aj_aload_n C dX12_cut_38 rfl ?_
    refine aj_getA (x := 0) (y := 3315) C flX12_13 hq0 rfl dX12_cut_39 ?_
    refine aj_bipush C dX12_cut_42 (by decide) ?_
    refine aj_iald C (aj_ca (e := 0) (n := 3315) (j := 1) hq0 (by decide) rfl) (by decide) (by decide) dX12_cut_44 rfl ?_
    obtain ⟨r0, h⟩ := h
    refine aj_i2l C dX12_cut_45 r0 ?_
    refine aj_iload_n C dX12_cut_46 rfl ?_
    refine aj_callS (rest := []) C msX12_274 (sX12_isIn  h) (aj_np 2 (by decide +kernel) rfl) (Nat.le_of_ble_eq_true rfl) rfl dX12_cut_47 (fun r m6 h => ?_)
    obtain ⟨z4, rfl, h⟩ := h
    obtain ⟨r0, h1, h2⟩ := h
    refine aj_if_eq (tgt := 57) C dX12_cut_50 (by decide) r0 (fun e => ?_) (fun e => ?_)
    · have h := h1 e
      refine aj_iconst C dX12_cut_57 ?_
      exact aj_iret C K dX12_cut_58 ⟨_, rfl, h⟩
    · have h := h2 e
      refine aj_iconst C dX12_cut_53 ?_
      refine aj_goto (tgt := 58) C dX12_cut_54 (by decide) ?_
      exact aj_iret C K dX12_cut_58 ⟨_, rfl, h⟩
  · have h := h2 e
    refine aj_bipush C dX12_cut_14 (by decide) ?_
    exact aj_iret C K dX12_cut_16 ⟨_, rfl, h⟩
theorem dX12_twist_0 : decode cX12_twist 0 = .ok (.aload_n 0, 1) := by decide +kernel
theorem dX12_twist_1 : decode cX12_twist 1 = .ok (.iconst 0, 1) := by decide +kernel
theorem dX12_twist_2 : decode cX12_twist 2 = .ok (.putfield 1, 3) := by decide +kernel
theorem dX12_twist_5 : decode cX12_twist 5 = .ok (.iload_n 1, 1) := by decide +kernel
theorem dX12_twist_6 : decode cX12_twist 6 = .ok (.i2l, 1) := by decide +kernel
theorem dX12_twist_7 : decode cX12_twist 7 = .ok (.lconst 0, 1) := by decide +kernel
theorem dX12_twist_8 : decode cX12_twist 8 = .ok (.ldc2_w 304, 3) := by decide +kernel
theorem dX12_twist_11 : decode cX12_twist 11 = .ok (.invokestatic 154, 3) := by decide +kernel
theorem dX12_twist_14 : decode cX12_twist 14 = .ok (.ifCond .ne 6, 3) := by decide +kernel
theorem dX12_twist_17 : decode cX12_twist 17 = .ok (.bipush (-11), 2) := by decide +kernel
theorem dX12_twist_19 : decode cX12_twist 19 = .ok (.ireturn, 1) := by decide +kernel
theorem dX12_twist_20 : decode cX12_twist 20 = .ok (.aload_n 0, 1) := by decide +kernel
theorem dX12_twist_21 : decode cX12_twist 21 = .ok (.invokevirtual 298, 3) := by decide +kernel
theorem dX12_twist_24 : decode cX12_twist 24 = .ok (.aload_n 0, 1) := by decide +kernel
theorem dX12_twist_25 : decode cX12_twist 25 = .ok (.getfield 13, 3) := by decide +kernel
theorem dX12_twist_28 : decode cX12_twist 28 = .ok (.bipush 62, 2) := by decide +kernel
theorem dX12_twist_30 : decode cX12_twist 30 = .ok (.iload_n 1, 1) := by decide +kernel
theorem dX12_twist_31 : decode cX12_twist 31 = .ok (.iastore, 1) := by decide +kernel
theorem dX12_twist_32 : decode cX12_twist 32 = .ok (.aload_n 0, 1) := by decide +kernel
theorem dX12_twist_33 : decode cX12_twist 33 = .ok (.invokevirtual 301, 3) := by decide +kernel
theorem dX12_twist_36 : decode cX12_twist 36 = .ok (.aload_n 0, 1) := by decide +kernel
theorem dX12_twist_37 : decode cX12_twist 37 = .ok (.getfield 57, 3) := by decide +kernel
theorem dX12_twist_40 : decode cX12_twist 40 = .ok (.bipush 13, 2) := by decide +kernel
theorem dX12_twist_42 : decode cX12_twist 42 = .ok (.iaload, 1) := by decide +kernel
theorem dX12_twist_43 : decode cX12_twist 43 = .ok (.ireturn, 1) := by decide +kernel
def wX12_twist (f : Nat) (Φ : Int → aj_M → Prop) (q0 : List Nat) (v1 : Int) (m : aj_M) : Prop := ∀ m1, m1 = aj_u m q0 0 0 → rI v1 ∧ wX12_within f (fun z1 m2 => rI z1 ∧ (¬ z1 = 0 → wX12_stores f (fun m3 => ∀ m4, m4 = aj_u m3 (1 :: q0) (62 : Int).toNat v1 → wX12_notes f (fun m5 => Φ (m5 (27 :: q0) (13 : Int).toNat) m5) q0 m4) q0 m2) ∧ (z1 = 0 → Φ (-11) m2)) v1 0 9 m1
set_option maxHeartbeats 4000000 in
set_option maxRecDepth 100000 in
theorem sX12_twist {n f : Nat} {Φ : Int → aj_M → Prop} {q0 : List Nat} {v1 : Int} {m : aj_M} (hq0 : (.inl (12, q0) : aj_R) ∈ aj_pls) (h : wX12_twist f Φ q0 v1 m) : aj_Ct (n + 1) yX12_twist cX12_twist 2 (some .int) [vO 12 q0, vI v1] m (fun r m => ∃ z, r = some (vI z) ∧ Φ z m) := by
  refine aj_met (lv := [some (vO 12 q0), some (vI v1)]) (by decide +kernel) rfl (Nat.le_of_ble_eq_true rfl) (fun X C K => ?_)
  unfold wX12_twist at h
  refine aj_aload_n C dX12_twist_0 rfl ?_
  refine aj_iconst C dX12_twist_1 ?_
  refine aj_putI C fpX12_1 hq0 rfl dX12_twist_2 ?_
  refine aj_nm (fun m1 e1 => ?_)
  have h := h m1 e1
  refine aj_iload_n C dX12_twist_5 rfl ?_
  obtain ⟨r0, h⟩ := h
  refine aj_i2l C dX12_twist_6 r0 ?_
  refine aj_lconst (z := 0) C dX12_twist_7 rfl ?_
  refine aj_ldc2 (z := 9) C (wd1831) rfl dX12_twist_8 ?_
  refine aj_callS (rest := []) C msX12_154 (sX12_within  h) (aj_np 3 (by decide +kernel) rfl) (Nat.le_of_ble_eq_true rfl) rfl dX12_twist_11 (fun r m2 h => ?_)
  obtain ⟨z1, rfl, h⟩ := h
  obtain ⟨r0, h1, h2⟩ := h
  refine aj_if_ne (tgt := 20) C dX12_twist_14 (by decide) r0 (fun e => ?_) (fun e => ?_)
  · have h := h1 e
    refine aj_aload_n C dX12_twist_20 rfl ?_
    refine aj_callV (rest := []) C mvX12_298 (sX12_stores hq0 h) hq0 (aj_np 0 (by decide +kernel) rfl) (Nat.le_of_ble_eq_true rfl) rfl dX12_twist_21 (fun r m3 h => ?_)
    obtain ⟨rfl, h⟩ := h
    refine aj_aload_n C dX12_twist_24 rfl ?_
    refine aj_getA (x := 0) (y := 3315) C flX12_13 hq0 rfl dX12_twist_25 ?_
    refine aj_bipush C dX12_twist_28 (by decide) ?_
    refine aj_iload_n C dX12_twist_30 rfl ?_
    refine aj_iast C (aj_ca (e := 0) (n := 3315) (j := 1) hq0 (by decide) rfl) (by decide) (by decide) dX12_twist_31 ?_
    refine aj_nm (fun m4 e1 => ?_)
    have h := h m4 e1
    refine aj_aload_n C dX12_twist_32 rfl ?_
    refine aj_callV (rest := []) C mvX12_301 (sX12_notes hq0 h) hq0 (aj_np 0 (by decide +kernel) rfl) (Nat.le_of_ble_eq_true rfl) rfl dX12_twist_33 (fun r m5 h => ?_)
    obtain ⟨rfl, h⟩ := h
    refine aj_aload_n C dX12_twist_36 rfl ?_
    refine aj_getA (x := 0) (y := 14) C flX12_57 hq0 rfl dX12_twist_37 ?_
    refine aj_bipush C dX12_twist_40 (by decide) ?_
    refine aj_iald C (aj_ca (e := 0) (n := 14) (j := 27) hq0 (by decide) rfl) (by decide) (by decide) dX12_twist_42 rfl ?_
    exact aj_iret C K dX12_twist_43 ⟨_, rfl, h⟩
  · have h := h2 e
    refine aj_bipush C dX12_twist_17 (by decide) ?_
    exact aj_iret C K dX12_twist_19 ⟨_, rfl, h⟩
theorem dX12_undo_0 : decode cX12_undo 0 = .ok (.aload_n 0, 1) := by decide +kernel
theorem dX12_undo_1 : decode cX12_undo 1 = .ok (.iconst 0, 1) := by decide +kernel
theorem dX12_undo_2 : decode cX12_undo 2 = .ok (.putfield 1, 3) := by decide +kernel
theorem dX12_undo_5 : decode cX12_undo 5 = .ok (.iload_n 1, 1) := by decide +kernel
theorem dX12_undo_6 : decode cX12_undo 6 = .ok (.i2l, 1) := by decide +kernel
theorem dX12_undo_7 : decode cX12_undo 7 = .ok (.lconst 1, 1) := by decide +kernel
theorem dX12_undo_8 : decode cX12_undo 8 = .ok (.ldc2_w 306, 3) := by decide +kernel
theorem dX12_undo_11 : decode cX12_undo 11 = .ok (.invokestatic 154, 3) := by decide +kernel
theorem dX12_undo_14 : decode cX12_undo 14 = .ok (.ifCond .eq 14, 3) := by decide +kernel
theorem dX12_undo_17 : decode cX12_undo 17 = .ok (.iload_n 1, 1) := by decide +kernel
theorem dX12_undo_18 : decode cX12_undo 18 = .ok (.aload_n 0, 1) := by decide +kernel
theorem dX12_undo_19 : decode cX12_undo 19 = .ok (.getfield 13, 3) := by decide +kernel
theorem dX12_undo_22 : decode cX12_undo 22 = .ok (.bipush 63, 2) := by decide +kernel
theorem dX12_undo_24 : decode cX12_undo 24 = .ok (.iaload, 1) := by decide +kernel
theorem dX12_undo_25 : decode cX12_undo 25 = .ok (.if_icmp .le 6, 3) := by decide +kernel
theorem dX12_undo_28 : decode cX12_undo 28 = .ok (.bipush (-3), 2) := by decide +kernel
theorem dX12_undo_30 : decode cX12_undo 30 = .ok (.ireturn, 1) := by decide +kernel
theorem dX12_undo_31 : decode cX12_undo 31 = .ok (.aload_n 0, 1) := by decide +kernel
theorem dX12_undo_32 : decode cX12_undo 32 = .ok (.getfield 13, 3) := by decide +kernel
theorem dX12_undo_35 : decode cX12_undo 35 = .ok (.bipush 63, 2) := by decide +kernel
theorem dX12_undo_37 : decode cX12_undo 37 = .ok (.dup2, 1) := by decide +kernel
theorem dX12_undo_38 : decode cX12_undo 38 = .ok (.iaload, 1) := by decide +kernel
theorem dX12_undo_39 : decode cX12_undo 39 = .ok (.iload_n 1, 1) := by decide +kernel
theorem dX12_undo_40 : decode cX12_undo 40 = .ok (.isub, 1) := by decide +kernel
theorem dX12_undo_41 : decode cX12_undo 41 = .ok (.iastore, 1) := by decide +kernel
theorem dX12_undo_42 : decode cX12_undo 42 = .ok (.iconst 0, 1) := by decide +kernel
theorem dX12_undo_43 : decode cX12_undo 43 = .ok (.istore_n 2, 1) := by decide +kernel
theorem dX12_undo_44 : decode cX12_undo 44 = .ok (.iload_n 2, 1) := by decide +kernel
theorem dX12_undo_45 : decode cX12_undo 45 = .ok (.bipush 14, 2) := by decide +kernel
theorem dX12_undo_47 : decode cX12_undo 47 = .ok (.if_icmp .ge 38, 3) := by decide +kernel
theorem dX12_undo_50 : decode cX12_undo 50 = .ok (.aload_n 0, 1) := by decide +kernel
theorem dX12_undo_51 : decode cX12_undo 51 = .ok (.getfield 13, 3) := by decide +kernel
theorem dX12_undo_54 : decode cX12_undo 54 = .ok (.bipush 49, 2) := by decide +kernel
theorem dX12_undo_56 : decode cX12_undo 56 = .ok (.iload_n 2, 1) := by decide +kernel
theorem dX12_undo_57 : decode cX12_undo 57 = .ok (.iadd, 1) := by decide +kernel
theorem dX12_undo_58 : decode cX12_undo 58 = .ok (.aload_n 0, 1) := by decide +kernel
theorem dX12_undo_59 : decode cX12_undo 59 = .ok (.getfield 13, 3) := by decide +kernel
theorem dX12_undo_62 : decode cX12_undo 62 = .ok (.bipush 64, 2) := by decide +kernel
theorem dX12_undo_64 : decode cX12_undo 64 = .ok (.bipush 14, 2) := by decide +kernel
theorem dX12_undo_66 : decode cX12_undo 66 = .ok (.aload_n 0, 1) := by decide +kernel
theorem dX12_undo_67 : decode cX12_undo 67 = .ok (.getfield 13, 3) := by decide +kernel
theorem dX12_undo_70 : decode cX12_undo 70 = .ok (.bipush 63, 2) := by decide +kernel
theorem dX12_undo_72 : decode cX12_undo 72 = .ok (.iaload, 1) := by decide +kernel
theorem dX12_undo_73 : decode cX12_undo 73 = .ok (.imul, 1) := by decide +kernel
theorem dX12_undo_74 : decode cX12_undo 74 = .ok (.iadd, 1) := by decide +kernel
theorem dX12_undo_75 : decode cX12_undo 75 = .ok (.iload_n 2, 1) := by decide +kernel
theorem dX12_undo_76 : decode cX12_undo 76 = .ok (.iadd, 1) := by decide +kernel
theorem dX12_undo_77 : decode cX12_undo 77 = .ok (.iaload, 1) := by decide +kernel
theorem dX12_undo_78 : decode cX12_undo 78 = .ok (.iastore, 1) := by decide +kernel
theorem dX12_undo_79 : decode cX12_undo 79 = .ok (.iinc 2 1, 3) := by decide +kernel
theorem dX12_undo_82 : decode cX12_undo 82 = .ok (.goto (-38), 3) := by decide +kernel
theorem dX12_undo_85 : decode cX12_undo 85 = .ok (.aload_n 0, 1) := by decide +kernel
theorem dX12_undo_86 : decode cX12_undo 86 = .ok (.getfield 13, 3) := by decide +kernel
theorem dX12_undo_89 : decode cX12_undo 89 = .ok (.bipush 63, 2) := by decide +kernel
theorem dX12_undo_91 : decode cX12_undo 91 = .ok (.iaload, 1) := by decide +kernel
theorem dX12_undo_92 : decode cX12_undo 92 = .ok (.ireturn, 1) := by decide +kernel
def hX12_undo_44 (f : Nat) (Φ : Int → aj_M → Prop) : Nat → List Nat → Int → aj_M → Prop
  | 0, _, _, _ => False
  | k + 1, q0, v2, m => rI v2 ∧ (14 ≤ v2 → Φ (m (1 :: q0) (63 : Int).toNat) m) ∧ (¬ (14 ≤ v2) → (0 ≤ ((64 + (14 * (m (1 :: q0) (63 : Int).toNat))) + v2) ∧ ((64 + (14 * (m (1 :: q0) (63 : Int).toNat))) + v2) < 3315) ∧ (0 ≤ (49 + v2) ∧ (49 + v2) < 3315) ∧ ∀ m1, m1 = aj_u m (1 :: q0) (49 + v2).toNat (m (1 :: q0) ((64 + (14 * (m (1 :: q0) (63 : Int).toNat))) + v2).toNat) → hX12_undo_44 f Φ k q0 (v2 + 1) m1)
set_option maxHeartbeats 4000000 in
set_option maxRecDepth 100000 in
theorem tX12_undo_44 {X : aj_T} {n f : Nat} {Φ : Int → aj_M → Prop} (C : aj_Cx X cX12_undo RX12 3 (n + 1)) (K : aj_Rt X (some .int) (fun r m => ∃ z, r = some (vI z) ∧ Φ z m)) : ∀ (k : Nat) (q0 : List Nat) (v2 : Int) (m : aj_M) (hq0 : (.inl (12, q0) : aj_R) ∈ aj_pls), hX12_undo_44 f Φ k q0 v2 m → aj_J X 44 [some (vO 12 q0), none, some (vI v2)] [] m := by
  intro k
  induction k with
  | zero =>
    intro q0 v2 m _ h
    exact h.elim
  | succ k ih =>
    intro q0 v2 m hq0 h
    unfold hX12_undo_44 at h
    refine aj_iload_n C dX12_undo_44 rfl ?_
    refine aj_bipush C dX12_undo_45 (by decide) ?_
    obtain ⟨r0, h1, h2⟩ := h
    refine aj_icmp_ge (tgt := 85) C dX12_undo_47 (by decide) r0 (by decide) (fun e => ?_) (fun e => ?_)
    · have h := h1 e
      refine aj_aload_n C dX12_undo_85 rfl ?_
      refine aj_getA (x := 0) (y := 3315) C flX12_13 hq0 rfl dX12_undo_86 ?_
      refine aj_bipush C dX12_undo_89 (by decide) ?_
      refine aj_iald C (aj_ca (e := 0) (n := 3315) (j := 1) hq0 (by decide) rfl) (by decide) (by decide) dX12_undo_91 rfl ?_
      exact aj_iret C K dX12_undo_92 ⟨_, rfl, h⟩
    · have h := h2 e
      refine aj_aload_n C dX12_undo_50 rfl ?_
      refine aj_getA (x := 0) (y := 3315) C flX12_13 hq0 rfl dX12_undo_51 ?_
      refine aj_bipush C dX12_undo_54 (by decide) ?_
      refine aj_iload_n C dX12_undo_56 rfl ?_
      refine aj_iadd C dX12_undo_57 ?_
      refine aj_aload_n C dX12_undo_58 rfl ?_
      refine aj_getA (x := 0) (y := 3315) C flX12_13 hq0 rfl dX12_undo_59 ?_
      refine aj_bipush C dX12_undo_62 (by decide) ?_
      refine aj_bipush C dX12_undo_64 (by decide) ?_
      refine aj_aload_n C dX12_undo_66 rfl ?_
      refine aj_getA (x := 0) (y := 3315) C flX12_13 hq0 rfl dX12_undo_67 ?_
      refine aj_bipush C dX12_undo_70 (by decide) ?_
      refine aj_iald C (aj_ca (e := 0) (n := 3315) (j := 1) hq0 (by decide) rfl) (by decide) (by decide) dX12_undo_72 rfl ?_
      refine aj_imul C dX12_undo_73 ?_
      refine aj_iadd C dX12_undo_74 ?_
      refine aj_iload_n C dX12_undo_75 rfl ?_
      refine aj_iadd C dX12_undo_76 ?_
      obtain ⟨r0, h⟩ := h
      refine aj_iald C (aj_ca (e := 0) (n := 3315) (j := 1) hq0 (by decide) rfl) (by decide) r0 dX12_undo_77 rfl ?_
      obtain ⟨r0, h⟩ := h
      refine aj_iast C (aj_ca (e := 0) (n := 3315) (j := 1) hq0 (by decide) rfl) (by decide) r0 dX12_undo_78 ?_
      refine aj_nm (fun m1 e1 => ?_)
      have h := h m1 e1
      refine aj_iinc (lv' := [some (vO 12 q0), none, some (vI (v2 + 1))]) C dX12_undo_79 rfl (by decide) rfl ?_
      refine aj_goto (tgt := 44) C dX12_undo_82 (by decide) ?_
      exact ih q0 (v2 + 1) _ hq0 h
def wX12_undo (f : Nat) (Φ : Int → aj_M → Prop) (q0 : List Nat) (v1 : Int) (m : aj_M) : Prop := ∀ m1, m1 = aj_u m q0 0 0 → rI v1 ∧ wX12_within f (fun z1 m2 => rI z1 ∧ (z1 = 0 → Φ (-3) m2) ∧ (¬ (z1 = 0) → rI v1 ∧ rI (m2 (1 :: q0) (63 : Int).toNat) ∧ (v1 ≤ (m2 (1 :: q0) (63 : Int).toNat) → ∀ m3, m3 = aj_u m2 (1 :: q0) (63 : Int).toNat ((m2 (1 :: q0) (63 : Int).toNat) - v1) → hX12_undo_44 f Φ f q0 0 m3) ∧ (¬ (v1 ≤ (m2 (1 :: q0) (63 : Int).toNat)) → Φ (-3) m2))) v1 1 10 m1
set_option maxHeartbeats 4000000 in
set_option maxRecDepth 100000 in
theorem sX12_undo {n f : Nat} {Φ : Int → aj_M → Prop} {q0 : List Nat} {v1 : Int} {m : aj_M} (hq0 : (.inl (12, q0) : aj_R) ∈ aj_pls) (h : wX12_undo f Φ q0 v1 m) : aj_Ct (n + 1) yX12_undo cX12_undo 3 (some .int) [vO 12 q0, vI v1] m (fun r m => ∃ z, r = some (vI z) ∧ Φ z m) := by
  refine aj_met (lv := [some (vO 12 q0), some (vI v1), none]) (by decide +kernel) rfl (Nat.le_of_ble_eq_true rfl) (fun X C K => ?_)
  unfold wX12_undo at h
  refine aj_aload_n C dX12_undo_0 rfl ?_
  refine aj_iconst C dX12_undo_1 ?_
  refine aj_putI C fpX12_1 hq0 rfl dX12_undo_2 ?_
  refine aj_nm (fun m1 e1 => ?_)
  have h := h m1 e1
  refine aj_iload_n C dX12_undo_5 rfl ?_
  obtain ⟨r0, h⟩ := h
  refine aj_i2l C dX12_undo_6 r0 ?_
  refine aj_lconst (z := 1) C dX12_undo_7 rfl ?_
  refine aj_ldc2 (z := 10) C (wd1836) rfl dX12_undo_8 ?_
  refine aj_callS (rest := []) C msX12_154 (sX12_within  h) (aj_np 3 (by decide +kernel) rfl) (Nat.le_of_ble_eq_true rfl) rfl dX12_undo_11 (fun r m2 h => ?_)
  obtain ⟨z1, rfl, h⟩ := h
  obtain ⟨r0, h1, h2⟩ := h
  refine aj_if_eq (tgt := 28) C dX12_undo_14 (by decide) r0 (fun e => ?_) (fun e => ?_)
  · have h := h1 e
    refine aj_bipush C dX12_undo_28 (by decide) ?_
    exact aj_iret C K dX12_undo_30 ⟨_, rfl, h⟩
  · have h := h2 e
    refine aj_iload_n C dX12_undo_17 rfl ?_
    refine aj_aload_n C dX12_undo_18 rfl ?_
    refine aj_getA (x := 0) (y := 3315) C flX12_13 hq0 rfl dX12_undo_19 ?_
    refine aj_bipush C dX12_undo_22 (by decide) ?_
    refine aj_iald C (aj_ca (e := 0) (n := 3315) (j := 1) hq0 (by decide) rfl) (by decide) (by decide) dX12_undo_24 rfl ?_
    obtain ⟨r0, r1, h1, h2⟩ := h
    refine aj_icmp_le (tgt := 31) C dX12_undo_25 (by decide) r0 r1 (fun e => ?_) (fun e => ?_)
    · have h := h1 e
      refine aj_aload_n C dX12_undo_31 rfl ?_
      refine aj_getA (x := 0) (y := 3315) C flX12_13 hq0 rfl dX12_undo_32 ?_
      refine aj_bipush C dX12_undo_35 (by decide) ?_
      refine aj_dup2 C aj_nI aj_nR dX12_undo_37 ?_
      refine aj_iald C (aj_ca (e := 0) (n := 3315) (j := 1) hq0 (by decide) rfl) (by decide) (by decide) dX12_undo_38 rfl ?_
      refine aj_iload_n C dX12_undo_39 rfl ?_
      refine aj_isub C dX12_undo_40 ?_
      refine aj_iast C (aj_ca (e := 0) (n := 3315) (j := 1) hq0 (by decide) rfl) (by decide) (by decide) dX12_undo_41 ?_
      refine aj_nm (fun m3 e1 => ?_)
      have h := h m3 e1
      refine aj_iconst C dX12_undo_42 ?_
      refine aj_istore_n (lv' := [some (vO 12 q0), some (vI v1), some (vI 0)]) C dX12_undo_43 (by decide) rfl ?_
      refine aj_wk (lv' := [some (vO 12 q0), none, some (vI 0)]) (⟨rfl, ⟨rfl, trivial⟩⟩) ?_
      exact tX12_undo_44 C K f q0 0 _ hq0 h
    · have h := h2 e
      refine aj_bipush C dX12_undo_28 (by decide) ?_
      exact aj_iret C K dX12_undo_30 ⟨_, rfl, h⟩
theorem dX12_whyNot_0 : decode cX12_whyNot 0 = .ok (.lload_n 1, 1) := by decide +kernel
theorem dX12_whyNot_1 : decode cX12_whyNot 1 = .ok (.ldc2_w 306, 3) := by decide +kernel
theorem dX12_whyNot_4 : decode cX12_whyNot 4 = .ok (.ldc2_w 308, 3) := by decide +kernel
theorem dX12_whyNot_7 : decode cX12_whyNot 7 = .ok (.invokestatic 154, 3) := by decide +kernel
theorem dX12_whyNot_10 : decode cX12_whyNot 10 = .ok (.ifCond .eq 5, 3) := by decide +kernel
theorem dX12_whyNot_13 : decode cX12_whyNot 13 = .ok (.iconst 0, 1) := by decide +kernel
theorem dX12_whyNot_14 : decode cX12_whyNot 14 = .ok (.ireturn, 1) := by decide +kernel
theorem dX12_whyNot_15 : decode cX12_whyNot 15 = .ok (.lload_n 1, 1) := by decide +kernel
theorem dX12_whyNot_16 : decode cX12_whyNot 16 = .ok (.ldc2_w 310, 3) := by decide +kernel
theorem dX12_whyNot_19 : decode cX12_whyNot 19 = .ok (.ldc2_w 312, 3) := by decide +kernel
theorem dX12_whyNot_22 : decode cX12_whyNot 22 = .ok (.invokestatic 154, 3) := by decide +kernel
theorem dX12_whyNot_25 : decode cX12_whyNot 25 = .ok (.ifCond .eq 21, 3) := by decide +kernel
theorem dX12_whyNot_28 : decode cX12_whyNot 28 = .ok (.aload_n 0, 1) := by decide +kernel
theorem dX12_whyNot_29 : decode cX12_whyNot 29 = .ok (.lload_n 1, 1) := by decide +kernel
theorem dX12_whyNot_30 : decode cX12_whyNot 30 = .ok (.ldc2_w 310, 3) := by decide +kernel
theorem dX12_whyNot_33 : decode cX12_whyNot 33 = .ok (.lsub, 1) := by decide +kernel
theorem dX12_whyNot_34 : decode cX12_whyNot 34 = .ok (.invokevirtual 291, 3) := by decide +kernel
theorem dX12_whyNot_37 : decode cX12_whyNot 37 = .ok (.ifCond .eq 7, 3) := by decide +kernel
theorem dX12_whyNot_40 : decode cX12_whyNot 40 = .ok (.iconst 0, 1) := by decide +kernel
theorem dX12_whyNot_41 : decode cX12_whyNot 41 = .ok (.goto 4, 3) := by decide +kernel
theorem dX12_whyNot_44 : decode cX12_whyNot 44 = .ok (.iconst 1, 1) := by decide +kernel
theorem dX12_whyNot_45 : decode cX12_whyNot 45 = .ok (.ireturn, 1) := by decide +kernel
theorem dX12_whyNot_46 : decode cX12_whyNot 46 = .ok (.lload_n 1, 1) := by decide +kernel
theorem dX12_whyNot_47 : decode cX12_whyNot 47 = .ok (.ldc2_w 314, 3) := by decide +kernel
theorem dX12_whyNot_50 : decode cX12_whyNot 50 = .ok (.ldc2_w 316, 3) := by decide +kernel
theorem dX12_whyNot_53 : decode cX12_whyNot 53 = .ok (.invokestatic 154, 3) := by decide +kernel
theorem dX12_whyNot_56 : decode cX12_whyNot 56 = .ok (.ifCond .eq 24, 3) := by decide +kernel
theorem dX12_whyNot_59 : decode cX12_whyNot 59 = .ok (.aload_n 0, 1) := by decide +kernel
theorem dX12_whyNot_60 : decode cX12_whyNot 60 = .ok (.lload_n 1, 1) := by decide +kernel
theorem dX12_whyNot_61 : decode cX12_whyNot 61 = .ok (.ldc2_w 314, 3) := by decide +kernel
theorem dX12_whyNot_64 : decode cX12_whyNot 64 = .ok (.lsub, 1) := by decide +kernel
theorem dX12_whyNot_65 : decode cX12_whyNot 65 = .ok (.ldc2_w 310, 3) := by decide +kernel
theorem dX12_whyNot_68 : decode cX12_whyNot 68 = .ok (.ldiv, 1) := by decide +kernel
theorem dX12_whyNot_69 : decode cX12_whyNot 69 = .ok (.lload_n 1, 1) := by decide +kernel
theorem dX12_whyNot_70 : decode cX12_whyNot 70 = .ok (.ldc2_w 310, 3) := by decide +kernel
theorem dX12_whyNot_73 : decode cX12_whyNot 73 = .ok (.lrem, 1) := by decide +kernel
theorem dX12_whyNot_74 : decode cX12_whyNot 74 = .ok (.invokevirtual 294, 3) := by decide +kernel
theorem dX12_whyNot_77 : decode cX12_whyNot 77 = .ok (.goto 4, 3) := by decide +kernel
theorem dX12_whyNot_80 : decode cX12_whyNot 80 = .ok (.iconst 1, 1) := by decide +kernel
theorem dX12_whyNot_81 : decode cX12_whyNot 81 = .ok (.ireturn, 1) := by decide +kernel
def wX12_whyNot (f : Nat) (Φ : Int → aj_M → Prop) (q0 : List Nat) (w1 : Int) (m : aj_M) : Prop := wX12_within f (fun z1 m1 => rI z1 ∧ (z1 = 0 → wX12_within f (fun z2 m2 => rI z2 ∧ (z2 = 0 → wX12_within f (fun z3 m3 => rI z3 ∧ (z3 = 0 → Φ 1 m3) ∧ (¬ (z3 = 0) → (0 ≤ (w1 - 1000) ∧ (w1 - 1000) < 9223372036854775808) ∧ (0 ≤ w1 ∧ w1 < 9223372036854775808) ∧ wX12_whyTurn f (fun z4 m4 => Φ z4 m4) q0 ((w1 - 1000) / 100) (w1 % 100) m3)) w1 1000 2199 m2) ∧ (¬ (z2 = 0) → wX12_isArc f (fun z5 m5 => rI z5 ∧ (z5 = 0 → Φ 1 m5) ∧ (¬ (z5 = 0) → Φ 0 m5)) q0 (w1 - 100) m2)) w1 100 111 m1) ∧ (¬ (z1 = 0) → Φ 0 m1)) w1 10 19 m
set_option maxHeartbeats 4000000 in
set_option maxRecDepth 100000 in
theorem sX12_whyNot {n f : Nat} {Φ : Int → aj_M → Prop} {q0 : List Nat} {w1 : Int} {m : aj_M} (hq0 : (.inl (12, q0) : aj_R) ∈ aj_pls) (h : wX12_whyNot f Φ q0 w1 m) : aj_Ct (n + 5) yX12_whyNot cX12_whyNot 3 (some .int) [vO 12 q0, vL w1] m (fun r m => ∃ z, r = some (vI z) ∧ Φ z m) := by
  refine aj_met (lv := [some (vO 12 q0), some (vL w1), none]) (by decide +kernel) rfl (Nat.le_of_ble_eq_true rfl) (fun X C K => ?_)
  unfold wX12_whyNot at h
  refine aj_lload_n C dX12_whyNot_0 rfl ?_
  refine aj_ldc2 (z := 10) C (wd1836) rfl dX12_whyNot_1 ?_
  refine aj_ldc2 (z := 19) C (wd1854) rfl dX12_whyNot_4 ?_
  refine aj_callS (rest := []) C msX12_154 (sX12_within  h) (aj_np 3 (by decide +kernel) rfl) (Nat.le_of_ble_eq_true rfl) rfl dX12_whyNot_7 (fun r m1 h => ?_)
  obtain ⟨z1, rfl, h⟩ := h
  obtain ⟨r0, h1, h2⟩ := h
  refine aj_if_eq (tgt := 15) C dX12_whyNot_10 (by decide) r0 (fun e => ?_) (fun e => ?_)
  · have h := h1 e
    refine aj_lload_n C dX12_whyNot_15 rfl ?_
    refine aj_ldc2 (z := 100) C (wd1855) rfl dX12_whyNot_16 ?_
    refine aj_ldc2 (z := 111) C (wd1856) rfl dX12_whyNot_19 ?_
    refine aj_callS (rest := []) C msX12_154 (sX12_within  h) (aj_np 3 (by decide +kernel) rfl) (Nat.le_of_ble_eq_true rfl) rfl dX12_whyNot_22 (fun r m2 h => ?_)
    obtain ⟨z2, rfl, h⟩ := h
    obtain ⟨r0, h1, h2⟩ := h
    refine aj_if_eq (tgt := 46) C dX12_whyNot_25 (by decide) r0 (fun e => ?_) (fun e => ?_)
    · have h := h1 e
      refine aj_lload_n C dX12_whyNot_46 rfl ?_
      refine aj_ldc2 (z := 1000) C (wd1857) rfl dX12_whyNot_47 ?_
      refine aj_ldc2 (z := 2199) C (wd1858) rfl dX12_whyNot_50 ?_
      refine aj_callS (rest := []) C msX12_154 (sX12_within  h) (aj_np 3 (by decide +kernel) rfl) (Nat.le_of_ble_eq_true rfl) rfl dX12_whyNot_53 (fun r m3 h => ?_)
      obtain ⟨z3, rfl, h⟩ := h
      obtain ⟨r0, h1, h2⟩ := h
      refine aj_if_eq (tgt := 80) C dX12_whyNot_56 (by decide) r0 (fun e => ?_) (fun e => ?_)
      · have h := h1 e
        refine aj_iconst C dX12_whyNot_80 ?_
        exact aj_iret C K dX12_whyNot_81 ⟨_, rfl, h⟩
      · have h := h2 e
        refine aj_aload_n C dX12_whyNot_59 rfl ?_
        refine aj_lload_n C dX12_whyNot_60 rfl ?_
        refine aj_ldc2 (z := 1000) C (wd1857) rfl dX12_whyNot_61 ?_
        refine aj_lsub C dX12_whyNot_64 ?_
        refine aj_ldc2 (z := 100) C (wd1855) rfl dX12_whyNot_65 ?_
        obtain ⟨r0, h⟩ := h
        refine aj_ldivN C dX12_whyNot_68 r0 (by decide) ?_
        refine aj_lload_n C dX12_whyNot_69 rfl ?_
        refine aj_ldc2 (z := 100) C (wd1855) rfl dX12_whyNot_70 ?_
        obtain ⟨r0, h⟩ := h
        refine aj_lremN C dX12_whyNot_73 r0 (by decide) ?_
        refine aj_callV (rest := []) C mvX12_294 (sX12_whyTurn hq0 h) hq0 (aj_np 2 (by decide +kernel) rfl) (Nat.le_of_ble_eq_true rfl) rfl dX12_whyNot_74 (fun r m4 h => ?_)
        obtain ⟨z4, rfl, h⟩ := h
        refine aj_goto (tgt := 81) C dX12_whyNot_77 (by decide) ?_
        exact aj_iret C K dX12_whyNot_81 ⟨_, rfl, h⟩
    · have h := h2 e
      refine aj_aload_n C dX12_whyNot_28 rfl ?_
      refine aj_lload_n C dX12_whyNot_29 rfl ?_
      refine aj_ldc2 (z := 100) C (wd1855) rfl dX12_whyNot_30 ?_
      refine aj_lsub C dX12_whyNot_33 ?_
      refine aj_callV (rest := []) C mvX12_291 (sX12_isArc hq0 h) hq0 (aj_np 1 (by decide +kernel) rfl) (Nat.le_of_ble_eq_true rfl) rfl dX12_whyNot_34 (fun r m5 h => ?_)
      obtain ⟨z5, rfl, h⟩ := h
      obtain ⟨r0, h1, h2⟩ := h
      refine aj_if_eq (tgt := 44) C dX12_whyNot_37 (by decide) r0 (fun e => ?_) (fun e => ?_)
      · have h := h1 e
        refine aj_iconst C dX12_whyNot_44 ?_
        exact aj_iret C K dX12_whyNot_45 ⟨_, rfl, h⟩
      · have h := h2 e
        refine aj_iconst C dX12_whyNot_40 ?_
        refine aj_goto (tgt := 45) C dX12_whyNot_41 (by decide) ?_
        exact aj_iret C K dX12_whyNot_45 ⟨_, rfl, h⟩
  · have h := h2 e
    refine aj_iconst C dX12_whyNot_13 ?_
    exact aj_iret C K dX12_whyNot_14 ⟨_, rfl, h⟩
theorem dX12_does_0 : decode cX12_does 0 = .ok (.iload_n 1, 1) := by decide +kernel
theorem dX12_does_1 : decode cX12_does 1 = .ok (.bipush 20, 2) := by decide +kernel
theorem dX12_does_3 : decode cX12_does 3 = .ok (.if_icmp .ge 17, 3) := by decide +kernel
theorem dX12_does_6 : decode cX12_does 6 = .ok (.aload_n 0, 1) := by decide +kernel
theorem dX12_does_7 : decode cX12_does 7 = .ok (.getfield 13, 3) := by decide +kernel
theorem dX12_does_10 : decode cX12_does 10 = .ok (.bipush 62, 2) := by decide +kernel
theorem dX12_does_12 : decode cX12_does 12 = .ok (.iload_n 1, 1) := by decide +kernel
theorem dX12_does_13 : decode cX12_does 13 = .ok (.bipush 10, 2) := by decide +kernel
theorem dX12_does_15 : decode cX12_does 15 = .ok (.isub, 1) := by decide +kernel
theorem dX12_does_16 : decode cX12_does 16 = .ok (.iastore, 1) := by decide +kernel
theorem dX12_does_17 : decode cX12_does 17 = .ok (.goto 48, 3) := by decide +kernel
theorem dX12_does_20 : decode cX12_does 20 = .ok (.iload_n 1, 1) := by decide +kernel
theorem dX12_does_21 : decode cX12_does 21 = .ok (.bipush 112, 2) := by decide +kernel
theorem dX12_does_23 : decode cX12_does 23 = .ok (.if_icmp .ge 22, 3) := by decide +kernel
theorem dX12_does_26 : decode cX12_does 26 = .ok (.aload_n 0, 1) := by decide +kernel
theorem dX12_does_27 : decode cX12_does 27 = .ok (.getfield 13, 3) := by decide +kernel
theorem dX12_does_30 : decode cX12_does 30 = .ok (.bipush 61, 2) := by decide +kernel
theorem dX12_does_32 : decode cX12_does 32 = .ok (.dup2, 1) := by decide +kernel
theorem dX12_does_33 : decode cX12_does 33 = .ok (.iaload, 1) := by decide +kernel
theorem dX12_does_34 : decode cX12_does 34 = .ok (.iconst 1, 1) := by decide +kernel
theorem dX12_does_35 : decode cX12_does 35 = .ok (.iload_n 1, 1) := by decide +kernel
theorem dX12_does_36 : decode cX12_does 36 = .ok (.bipush 100, 2) := by decide +kernel
theorem dX12_does_38 : decode cX12_does 38 = .ok (.isub, 1) := by decide +kernel
theorem dX12_does_39 : decode cX12_does 39 = .ok (.ishl, 1) := by decide +kernel
theorem dX12_does_40 : decode cX12_does 40 = .ok (.ixor, 1) := by decide +kernel
theorem dX12_does_41 : decode cX12_does 41 = .ok (.iastore, 1) := by decide +kernel
theorem dX12_does_42 : decode cX12_does 42 = .ok (.goto 23, 3) := by decide +kernel
theorem dX12_does_45 : decode cX12_does 45 = .ok (.aload_n 0, 1) := by decide +kernel
theorem dX12_does_46 : decode cX12_does 46 = .ok (.getfield 13, 3) := by decide +kernel
theorem dX12_does_49 : decode cX12_does 49 = .ok (.bipush 49, 2) := by decide +kernel
theorem dX12_does_51 : decode cX12_does 51 = .ok (.iload_n 1, 1) := by decide +kernel
theorem dX12_does_52 : decode cX12_does 52 = .ok (.sipush 1000, 3) := by decide +kernel
theorem dX12_does_55 : decode cX12_does 55 = .ok (.isub, 1) := by decide +kernel
theorem dX12_does_56 : decode cX12_does 56 = .ok (.bipush 100, 2) := by decide +kernel
theorem dX12_does_58 : decode cX12_does 58 = .ok (.idiv, 1) := by decide +kernel
theorem dX12_does_59 : decode cX12_does 59 = .ok (.iadd, 1) := by decide +kernel
theorem dX12_does_60 : decode cX12_does 60 = .ok (.iload_n 1, 1) := by decide +kernel
theorem dX12_does_61 : decode cX12_does 61 = .ok (.bipush 100, 2) := by decide +kernel
theorem dX12_does_63 : decode cX12_does 63 = .ok (.irem, 1) := by decide +kernel
theorem dX12_does_64 : decode cX12_does 64 = .ok (.iastore, 1) := by decide +kernel
theorem dX12_does_65 : decode cX12_does 65 = .ok (.return_, 1) := by decide +kernel
def wX12_does (f : Nat) (Φ : aj_M → Prop) (q0 : List Nat) (v1 : Int) (m : aj_M) : Prop := rI v1 ∧ (20 ≤ v1 → rI v1 ∧ (112 ≤ v1 → (0 ≤ (v1 - 1000) ∧ (v1 - 1000) < 2147483648) ∧ (0 ≤ v1 ∧ v1 < 2147483648) ∧ (0 ≤ (49 + ((v1 - 1000) / 100)) ∧ (49 + ((v1 - 1000) / 100)) < 3315) ∧ ∀ m1, m1 = aj_u m (1 :: q0) (49 + ((v1 - 1000) / 100)).toNat (v1 % 100) → Φ m1) ∧ (¬ (112 ≤ v1) → ∀ m2, m2 = aj_u m (1 :: q0) (61 : Int).toNat (aj_xor (m (1 :: q0) (61 : Int).toNat) (aj_shl 1 (v1 - 100))) → Φ m2)) ∧ (¬ (20 ≤ v1) → ∀ m3, m3 = aj_u m (1 :: q0) (62 : Int).toNat (v1 - 10) → Φ m3)
set_option maxHeartbeats 4000000 in
set_option maxRecDepth 100000 in
theorem sX12_does {n f : Nat} {Φ : aj_M → Prop} {q0 : List Nat} {v1 : Int} {m : aj_M} (hq0 : (.inl (12, q0) : aj_R) ∈ aj_pls) (h : wX12_does f Φ q0 v1 m) : aj_Ct n yX12_does cX12_does 2 none [vO 12 q0, vI v1] m (fun r m => r = none ∧ Φ m) := by
  refine aj_met (lv := [some (vO 12 q0), some (vI v1)]) (by decide +kernel) rfl (Nat.le_of_ble_eq_true rfl) (fun X C K => ?_)
  unfold wX12_does at h
  refine aj_iload_n C dX12_does_0 rfl ?_
  refine aj_bipush C dX12_does_1 (by decide) ?_
  obtain ⟨r0, h1, h2⟩ := h
  refine aj_icmp_ge (tgt := 20) C dX12_does_3 (by decide) r0 (by decide) (fun e => ?_) (fun e => ?_)
  · have h := h1 e
    refine aj_iload_n C dX12_does_20 rfl ?_
    refine aj_bipush C dX12_does_21 (by decide) ?_
    obtain ⟨r0, h1, h2⟩ := h
    refine aj_icmp_ge (tgt := 45) C dX12_does_23 (by decide) r0 (by decide) (fun e => ?_) (fun e => ?_)
    · have h := h1 e
      refine aj_aload_n C dX12_does_45 rfl ?_
      refine aj_getA (x := 0) (y := 3315) C flX12_13 hq0 rfl dX12_does_46 ?_
      refine aj_bipush C dX12_does_49 (by decide) ?_
      refine aj_iload_n C dX12_does_51 rfl ?_
      refine aj_sipush C dX12_does_52 (by decide) ?_
      refine aj_isub C dX12_does_55 ?_
      refine aj_bipush C dX12_does_56 (by decide) ?_
      obtain ⟨r0, h⟩ := h
      refine aj_idivN C dX12_does_58 r0 (by decide) ?_
      refine aj_iadd C dX12_does_59 ?_
      refine aj_iload_n C dX12_does_60 rfl ?_
      refine aj_bipush C dX12_does_61 (by decide) ?_
      obtain ⟨r0, h⟩ := h
      refine aj_iremN C dX12_does_63 r0 (by decide) ?_
      obtain ⟨r0, h⟩ := h
      refine aj_iast C (aj_ca (e := 0) (n := 3315) (j := 1) hq0 (by decide) rfl) (by decide) r0 dX12_does_64 ?_
      refine aj_nm (fun m1 e1 => ?_)
      have h := h m1 e1
      exact aj_vret C K dX12_does_65 ⟨rfl, h⟩
    · have h := h2 e
      refine aj_aload_n C dX12_does_26 rfl ?_
      refine aj_getA (x := 0) (y := 3315) C flX12_13 hq0 rfl dX12_does_27 ?_
      refine aj_bipush C dX12_does_30 (by decide) ?_
      refine aj_dup2 C aj_nI aj_nR dX12_does_32 ?_
      refine aj_iald C (aj_ca (e := 0) (n := 3315) (j := 1) hq0 (by decide) rfl) (by decide) (by decide) dX12_does_33 rfl ?_
      refine aj_iconst C dX12_does_34 ?_
      refine aj_iload_n C dX12_does_35 rfl ?_
      refine aj_bipush C dX12_does_36 (by decide) ?_
      refine aj_isub C dX12_does_38 ?_
      refine aj_ishl C dX12_does_39 ?_
      refine aj_ixor C dX12_does_40 ?_
      refine aj_iast C (aj_ca (e := 0) (n := 3315) (j := 1) hq0 (by decide) rfl) (by decide) (by decide) dX12_does_41 ?_
      refine aj_nm (fun m2 e1 => ?_)
      have h := h m2 e1
      refine aj_goto (tgt := 65) C dX12_does_42 (by decide) ?_
      exact aj_vret C K dX12_does_65 ⟨rfl, h⟩
  · have h := h2 e
    refine aj_aload_n C dX12_does_6 rfl ?_
    refine aj_getA (x := 0) (y := 3315) C flX12_13 hq0 rfl dX12_does_7 ?_
    refine aj_bipush C dX12_does_10 (by decide) ?_
    refine aj_iload_n C dX12_does_12 rfl ?_
    refine aj_bipush C dX12_does_13 (by decide) ?_
    refine aj_isub C dX12_does_15 ?_
    refine aj_iast C (aj_ca (e := 0) (n := 3315) (j := 1) hq0 (by decide) rfl) (by decide) (by decide) dX12_does_16 ?_
    refine aj_nm (fun m3 e1 => ?_)
    have h := h m3 e1
    refine aj_goto (tgt := 65) C dX12_does_17 (by decide) ?_
    exact aj_vret C K dX12_does_65 ⟨rfl, h⟩
theorem dX12_tells_0 : decode cX12_tells 0 = .ok (.aload_n 0, 1) := by decide +kernel
theorem dX12_tells_1 : decode cX12_tells 1 = .ok (.iconst 0, 1) := by decide +kernel
theorem dX12_tells_2 : decode cX12_tells 2 = .ok (.putfield 318, 3) := by decide +kernel
theorem dX12_tells_5 : decode cX12_tells 5 = .ok (.iconst 0, 1) := by decide +kernel
theorem dX12_tells_6 : decode cX12_tells 6 = .ok (.istore_n 2, 1) := by decide +kernel
theorem dX12_tells_7 : decode cX12_tells 7 = .ok (.iload_n 2, 1) := by decide +kernel
theorem dX12_tells_8 : decode cX12_tells 8 = .ok (.aload_n 0, 1) := by decide +kernel
theorem dX12_tells_9 : decode cX12_tells 9 = .ok (.getfield 81, 3) := by decide +kernel
theorem dX12_tells_12 : decode cX12_tells 12 = .ok (.iload_n 1, 1) := by decide +kernel
theorem dX12_tells_13 : decode cX12_tells 13 = .ok (.iaload, 1) := by decide +kernel
theorem dX12_tells_14 : decode cX12_tells 14 = .ok (.if_icmp .ge 53, 3) := by decide +kernel
theorem dX12_tells_17 : decode cX12_tells 17 = .ok (.aload_n 0, 1) := by decide +kernel
theorem dX12_tells_18 : decode cX12_tells 18 = .ok (.aload_n 0, 1) := by decide +kernel
theorem dX12_tells_19 : decode cX12_tells 19 = .ok (.aload_n 0, 1) := by decide +kernel
theorem dX12_tells_20 : decode cX12_tells 20 = .ok (.getfield 84, 3) := by decide +kernel
theorem dX12_tells_23 : decode cX12_tells 23 = .ok (.bipush 40, 2) := by decide +kernel
theorem dX12_tells_25 : decode cX12_tells 25 = .ok (.iload_n 1, 1) := by decide +kernel
theorem dX12_tells_26 : decode cX12_tells 26 = .ok (.imul, 1) := by decide +kernel
theorem dX12_tells_27 : decode cX12_tells 27 = .ok (.iload_n 2, 1) := by decide +kernel
theorem dX12_tells_28 : decode cX12_tells 28 = .ok (.iadd, 1) := by decide +kernel
theorem dX12_tells_29 : decode cX12_tells 29 = .ok (.laload, 1) := by decide +kernel
theorem dX12_tells_30 : decode cX12_tells 30 = .ok (.invokevirtual 321, 3) := by decide +kernel
theorem dX12_tells_33 : decode cX12_tells 33 = .ok (.putfield 318, 3) := by decide +kernel
theorem dX12_tells_36 : decode cX12_tells 36 = .ok (.aload_n 0, 1) := by decide +kernel
theorem dX12_tells_37 : decode cX12_tells 37 = .ok (.getfield 318, 3) := by decide +kernel
theorem dX12_tells_40 : decode cX12_tells 40 = .ok (.ifCond .eq 5, 3) := by decide +kernel
theorem dX12_tells_43 : decode cX12_tells 43 = .ok (.iload_n 2, 1) := by decide +kernel
theorem dX12_tells_44 : decode cX12_tells 44 = .ok (.ireturn, 1) := by decide +kernel
theorem dX12_tells_45 : decode cX12_tells 45 = .ok (.aload_n 0, 1) := by decide +kernel
theorem dX12_tells_46 : decode cX12_tells 46 = .ok (.aload_n 0, 1) := by decide +kernel
theorem dX12_tells_47 : decode cX12_tells 47 = .ok (.getfield 84, 3) := by decide +kernel
theorem dX12_tells_50 : decode cX12_tells 50 = .ok (.bipush 40, 2) := by decide +kernel
theorem dX12_tells_52 : decode cX12_tells 52 = .ok (.iload_n 1, 1) := by decide +kernel
theorem dX12_tells_53 : decode cX12_tells 53 = .ok (.imul, 1) := by decide +kernel
theorem dX12_tells_54 : decode cX12_tells 54 = .ok (.iload_n 2, 1) := by decide +kernel
theorem dX12_tells_55 : decode cX12_tells 55 = .ok (.iadd, 1) := by decide +kernel
theorem dX12_tells_56 : decode cX12_tells 56 = .ok (.laload, 1) := by decide +kernel
theorem dX12_tells_57 : decode cX12_tells 57 = .ok (.l2i, 1) := by decide +kernel
theorem dX12_tells_58 : decode cX12_tells 58 = .ok (.invokevirtual 325, 3) := by decide +kernel
theorem dX12_tells_61 : decode cX12_tells 61 = .ok (.iinc 2 1, 3) := by decide +kernel
theorem dX12_tells_64 : decode cX12_tells 64 = .ok (.goto (-57), 3) := by decide +kernel
theorem dX12_tells_67 : decode cX12_tells 67 = .ok (.aload_n 0, 1) := by decide +kernel
theorem dX12_tells_68 : decode cX12_tells 68 = .ok (.getfield 81, 3) := by decide +kernel
theorem dX12_tells_71 : decode cX12_tells 71 = .ok (.iload_n 1, 1) := by decide +kernel
theorem dX12_tells_72 : decode cX12_tells 72 = .ok (.iaload, 1) := by decide +kernel
theorem dX12_tells_73 : decode cX12_tells 73 = .ok (.ireturn, 1) := by decide +kernel
def hX12_tells_7 (f : Nat) (Φ : Int → aj_M → Prop) : Nat → List Nat → Int → Int → aj_M → Prop
  | 0, _, _, _, _ => False
  | k + 1, q0, v1, v2, m => (0 ≤ v1 ∧ v1 < 4) ∧ rI v2 ∧ rI (m (45 :: q0) v1.toNat) ∧ ((m (45 :: q0) v1.toNat) ≤ v2 → (0 ≤ v1 ∧ v1 < 4) ∧ Φ (m (45 :: q0) v1.toNat) m) ∧ (¬ ((m (45 :: q0) v1.toNat) ≤ v2) → (0 ≤ ((40 * v1) + v2) ∧ ((40 * v1) + v2) < 160) ∧ wX12_whyNot f (fun z1 m1 => ∀ m2, m2 = aj_u m1 q0 28 z1 → rI (m2 q0 28) ∧ ((m2 q0 28) = 0 → (0 ≤ ((40 * v1) + v2) ∧ ((40 * v1) + v2) < 160) ∧ wX12_does f (fun m3 => hX12_tells_7 f Φ k q0 v1 (v2 + 1) m3) q0 (m2 (46 :: q0) ((40 * v1) + v2).toNat) m2) ∧ (¬ ((m2 q0 28) = 0) → Φ v2 m2)) q0 (m (46 :: q0) ((40 * v1) + v2).toNat) m)
set_option maxHeartbeats 4000000 in
set_option maxRecDepth 100000 in
theorem tX12_tells_7 {X : aj_T} {n f : Nat} {Φ : Int → aj_M → Prop} (C : aj_Cx X cX12_tells RX12 3 (n + 6)) (K : aj_Rt X (some .int) (fun r m => ∃ z, r = some (vI z) ∧ Φ z m)) : ∀ (k : Nat) (q0 : List Nat) (v1 : Int) (v2 : Int) (m : aj_M) (hq0 : (.inl (12, q0) : aj_R) ∈ aj_pls), hX12_tells_7 f Φ k q0 v1 v2 m → aj_J X 7 [some (vO 12 q0), some (vI v1), some (vI v2)] [] m := by
  intro k
  induction k with
  | zero =>
    intro q0 v1 v2 m _ h
    exact h.elim
  | succ k ih =>
    intro q0 v1 v2 m hq0 h
    unfold hX12_tells_7 at h
    refine aj_iload_n C dX12_tells_7 rfl ?_
    refine aj_aload_n C dX12_tells_8 rfl ?_
    refine aj_getA (x := 0) (y := 4) C flX12_81 hq0 rfl dX12_tells_9 ?_
    refine aj_iload_n C dX12_tells_12 rfl ?_
    obtain ⟨r0, h⟩ := h
    refine aj_iald C (aj_ca (e := 0) (n := 4) (j := 45) hq0 (by decide) rfl) (by decide) r0 dX12_tells_13 rfl ?_
    obtain ⟨r0, r1, h1, h2⟩ := h
    refine aj_icmp_ge (tgt := 67) C dX12_tells_14 (by decide) r0 r1 (fun e => ?_) (fun e => ?_)
    · have h := h1 e
      refine aj_aload_n C dX12_tells_67 rfl ?_
      refine aj_getA (x := 0) (y := 4) C flX12_81 hq0 rfl dX12_tells_68 ?_
      refine aj_iload_n C dX12_tells_71 rfl ?_
      obtain ⟨r0, h⟩ := h
      refine aj_iald C (aj_ca (e := 0) (n := 4) (j := 45) hq0 (by decide) rfl) (by decide) r0 dX12_tells_72 rfl ?_
      exact aj_iret C K dX12_tells_73 ⟨_, rfl, h⟩
    · have h := h2 e
      refine aj_aload_n C dX12_tells_17 rfl ?_
      refine aj_aload_n C dX12_tells_18 rfl ?_
      refine aj_aload_n C dX12_tells_19 rfl ?_
      refine aj_getA (x := 3) (y := 160) C flX12_84 hq0 rfl dX12_tells_20 ?_
      refine aj_bipush C dX12_tells_23 (by decide) ?_
      refine aj_iload_n C dX12_tells_25 rfl ?_
      refine aj_imul C dX12_tells_26 ?_
      refine aj_iload_n C dX12_tells_27 rfl ?_
      refine aj_iadd C dX12_tells_28 ?_
      obtain ⟨r0, h⟩ := h
      refine aj_lald C (aj_ca (e := 3) (n := 160) (j := 46) hq0 (by decide) rfl) (by decide) r0 dX12_tells_29 rfl ?_
      refine aj_callV (rest := [vO 12 q0]) C mvX12_321 (sX12_whyNot hq0 h) hq0 (aj_np 1 (by decide +kernel) rfl) (Nat.le_of_ble_eq_true rfl) rfl dX12_tells_30 (fun r m1 h => ?_)
      obtain ⟨z1, rfl, h⟩ := h
      refine aj_putI C fpX12_318 hq0 rfl dX12_tells_33 ?_
      refine aj_nm (fun m2 e1 => ?_)
      have h := h m2 e1
      refine aj_aload_n C dX12_tells_36 rfl ?_
      refine aj_getI C flX12_318 hq0 (by decide) dX12_tells_37 rfl ?_
      obtain ⟨r0, h1, h2⟩ := h
      refine aj_if_eq (tgt := 45) C dX12_tells_40 (by decide) r0 (fun e => ?_) (fun e => ?_)
      · have h := h1 e
        refine aj_aload_n C dX12_tells_45 rfl ?_
        refine aj_aload_n C dX12_tells_46 rfl ?_
        refine aj_getA (x := 3) (y := 160) C flX12_84 hq0 rfl dX12_tells_47 ?_
        refine aj_bipush C dX12_tells_50 (by decide) ?_
        refine aj_iload_n C dX12_tells_52 rfl ?_
        refine aj_imul C dX12_tells_53 ?_
        refine aj_iload_n C dX12_tells_54 rfl ?_
        refine aj_iadd C dX12_tells_55 ?_
        obtain ⟨r0, h⟩ := h
        refine aj_lald C (aj_ca (e := 3) (n := 160) (j := 46) hq0 (by decide) rfl) (by decide) r0 dX12_tells_56 rfl ?_
        refine aj_l2i C dX12_tells_57 ?_
        refine aj_callV (rest := []) C mvX12_325 (sX12_does hq0 h) hq0 (aj_np 1 (by decide +kernel) rfl) (Nat.le_of_ble_eq_true rfl) rfl dX12_tells_58 (fun r m3 h => ?_)
        obtain ⟨rfl, h⟩ := h
        refine aj_iinc (lv' := [some (vO 12 q0), some (vI v1), some (vI (v2 + 1))]) C dX12_tells_61 rfl (by decide) rfl ?_
        refine aj_goto (tgt := 7) C dX12_tells_64 (by decide) ?_
        exact ih q0 v1 (v2 + 1) _ hq0 h
      · have h := h2 e
        refine aj_iload_n C dX12_tells_43 rfl ?_
        exact aj_iret C K dX12_tells_44 ⟨_, rfl, h⟩
def wX12_tells (f : Nat) (Φ : Int → aj_M → Prop) (q0 : List Nat) (v1 : Int) (m : aj_M) : Prop := ∀ m1, m1 = aj_u m q0 28 0 → hX12_tells_7 f Φ f q0 v1 0 m1
set_option maxHeartbeats 4000000 in
set_option maxRecDepth 100000 in
theorem sX12_tells {n f : Nat} {Φ : Int → aj_M → Prop} {q0 : List Nat} {v1 : Int} {m : aj_M} (hq0 : (.inl (12, q0) : aj_R) ∈ aj_pls) (h : wX12_tells f Φ q0 v1 m) : aj_Ct (n + 6) yX12_tells cX12_tells 3 (some .int) [vO 12 q0, vI v1] m (fun r m => ∃ z, r = some (vI z) ∧ Φ z m) := by
  refine aj_met (lv := [some (vO 12 q0), some (vI v1), none]) (by decide +kernel) rfl (Nat.le_of_ble_eq_true rfl) (fun X C K => ?_)
  unfold wX12_tells at h
  refine aj_aload_n C dX12_tells_0 rfl ?_
  refine aj_iconst C dX12_tells_1 ?_
  refine aj_putI C fpX12_318 hq0 rfl dX12_tells_2 ?_
  refine aj_nm (fun m1 e1 => ?_)
  have h := h m1 e1
  refine aj_iconst C dX12_tells_5 ?_
  refine aj_istore_n (lv' := [some (vO 12 q0), some (vI v1), some (vI 0)]) C dX12_tells_6 (by decide) rfl ?_
  exact tX12_tells_7 C K f q0 v1 0 _ hq0 h
theorem dX12_noTray_0 : decode cX12_noTray 0 = .ok (.iload_n 1, 1) := by decide +kernel
theorem dX12_noTray_1 : decode cX12_noTray 1 = .ok (.i2l, 1) := by decide +kernel
theorem dX12_noTray_2 : decode cX12_noTray 2 = .ok (.lconst 0, 1) := by decide +kernel
theorem dX12_noTray_3 : decode cX12_noTray 3 = .ok (.ldc2_w 328, 3) := by decide +kernel
theorem dX12_noTray_6 : decode cX12_noTray 6 = .ok (.invokestatic 154, 3) := by decide +kernel
theorem dX12_noTray_9 : decode cX12_noTray 9 = .ok (.ifCond .ne 8, 3) := by decide +kernel
theorem dX12_noTray_12 : decode cX12_noTray 12 = .ok (.bipush (-2), 2) := by decide +kernel
theorem dX12_noTray_14 : decode cX12_noTray 14 = .ok (.goto 19, 3) := by decide +kernel
theorem dX12_noTray_17 : decode cX12_noTray 17 = .ok (.aload_n 0, 1) := by decide +kernel
theorem dX12_noTray_18 : decode cX12_noTray 18 = .ok (.getfield 78, 3) := by decide +kernel
theorem dX12_noTray_21 : decode cX12_noTray 21 = .ok (.iload_n 1, 1) := by decide +kernel
theorem dX12_noTray_22 : decode cX12_noTray 22 = .ok (.iaload, 1) := by decide +kernel
theorem dX12_noTray_23 : decode cX12_noTray 23 = .ok (.iconst (-1), 1) := by decide +kernel
theorem dX12_noTray_24 : decode cX12_noTray 24 = .ok (.if_icmp .ne 8, 3) := by decide +kernel
theorem dX12_noTray_27 : decode cX12_noTray 27 = .ok (.bipush (-6), 2) := by decide +kernel
theorem dX12_noTray_29 : decode cX12_noTray 29 = .ok (.goto 4, 3) := by decide +kernel
theorem dX12_noTray_32 : decode cX12_noTray 32 = .ok (.iconst 0, 1) := by decide +kernel
theorem dX12_noTray_33 : decode cX12_noTray 33 = .ok (.ireturn, 1) := by decide +kernel
def wX12_noTray (f : Nat) (Φ : Int → aj_M → Prop) (q0 : List Nat) (v1 : Int) (m : aj_M) : Prop := rI v1 ∧ wX12_within f (fun z1 m1 => rI z1 ∧ (¬ z1 = 0 → (0 ≤ v1 ∧ v1 < 4) ∧ rI (m1 (44 :: q0) v1.toNat) ∧ (¬ (m1 (44 :: q0) v1.toNat) = (-1) → Φ 0 m1) ∧ ((m1 (44 :: q0) v1.toNat) = (-1) → Φ (-6) m1)) ∧ (z1 = 0 → Φ (-2) m1)) v1 0 3 m
set_option maxHeartbeats 4000000 in
set_option maxRecDepth 100000 in
theorem sX12_noTray {n f : Nat} {Φ : Int → aj_M → Prop} {q0 : List Nat} {v1 : Int} {m : aj_M} (hq0 : (.inl (12, q0) : aj_R) ∈ aj_pls) (h : wX12_noTray f Φ q0 v1 m) : aj_Ct (n + 1) yX12_noTray cX12_noTray 2 (some .int) [vO 12 q0, vI v1] m (fun r m => ∃ z, r = some (vI z) ∧ Φ z m) := by
  refine aj_met (lv := [some (vO 12 q0), some (vI v1)]) (by decide +kernel) rfl (Nat.le_of_ble_eq_true rfl) (fun X C K => ?_)
  unfold wX12_noTray at h
  refine aj_iload_n C dX12_noTray_0 rfl ?_
  obtain ⟨r0, h⟩ := h
  refine aj_i2l C dX12_noTray_1 r0 ?_
  refine aj_lconst (z := 0) C dX12_noTray_2 rfl ?_
  refine aj_ldc2 (z := 3) C (wd1841) rfl dX12_noTray_3 ?_
  refine aj_callS (rest := []) C msX12_154 (sX12_within  h) (aj_np 3 (by decide +kernel) rfl) (Nat.le_of_ble_eq_true rfl) rfl dX12_noTray_6 (fun r m1 h => ?_)
  obtain ⟨z1, rfl, h⟩ := h
  obtain ⟨r0, h1, h2⟩ := h
  refine aj_if_ne (tgt := 17) C dX12_noTray_9 (by decide) r0 (fun e => ?_) (fun e => ?_)
  · have h := h1 e
    refine aj_aload_n C dX12_noTray_17 rfl ?_
    refine aj_getA (x := 0) (y := 4) C flX12_78 hq0 rfl dX12_noTray_18 ?_
    refine aj_iload_n C dX12_noTray_21 rfl ?_
    obtain ⟨r0, h⟩ := h
    refine aj_iald C (aj_ca (e := 0) (n := 4) (j := 44) hq0 (by decide) rfl) (by decide) r0 dX12_noTray_22 rfl ?_
    refine aj_iconst C dX12_noTray_23 ?_
    obtain ⟨r0, h1, h2⟩ := h
    refine aj_icmp_ne (tgt := 32) C dX12_noTray_24 (by decide) r0 (by decide) (fun e => ?_) (fun e => ?_)
    · have h := h1 e
      refine aj_iconst C dX12_noTray_32 ?_
      exact aj_iret C K dX12_noTray_33 ⟨_, rfl, h⟩
    · have h := h2 e
      refine aj_bipush C dX12_noTray_27 (by decide) ?_
      refine aj_goto (tgt := 33) C dX12_noTray_29 (by decide) ?_
      exact aj_iret C K dX12_noTray_33 ⟨_, rfl, h⟩
  · have h := h2 e
    refine aj_bipush C dX12_noTray_12 (by decide) ?_
    refine aj_goto (tgt := 33) C dX12_noTray_14 (by decide) ?_
    exact aj_iret C K dX12_noTray_33 ⟨_, rfl, h⟩
theorem dX12_judge_0 : decode cX12_judge 0 = .ok (.aload_n 0, 1) := by decide +kernel
theorem dX12_judge_1 : decode cX12_judge 1 = .ok (.iconst 0, 1) := by decide +kernel
theorem dX12_judge_2 : decode cX12_judge 2 = .ok (.putfield 1, 3) := by decide +kernel
theorem dX12_judge_5 : decode cX12_judge 5 = .ok (.iload_n 2, 1) := by decide +kernel
theorem dX12_judge_6 : decode cX12_judge 6 = .ok (.i2l, 1) := by decide +kernel
theorem dX12_judge_7 : decode cX12_judge 7 = .ok (.lconst 0, 1) := by decide +kernel
theorem dX12_judge_8 : decode cX12_judge 8 = .ok (.ldc2_w 328, 3) := by decide +kernel
theorem dX12_judge_11 : decode cX12_judge 11 = .ok (.invokestatic 154, 3) := by decide +kernel
theorem dX12_judge_14 : decode cX12_judge 14 = .ok (.ifCond .ne 6, 3) := by decide +kernel
theorem dX12_judge_17 : decode cX12_judge 17 = .ok (.bipush (-2), 2) := by decide +kernel
theorem dX12_judge_19 : decode cX12_judge 19 = .ok (.ireturn, 1) := by decide +kernel
theorem dX12_judge_20 : decode cX12_judge 20 = .ok (.aload_n 0, 1) := by decide +kernel
theorem dX12_judge_21 : decode cX12_judge 21 = .ok (.iload_n 1, 1) := by decide +kernel
theorem dX12_judge_22 : decode cX12_judge 22 = .ok (.invokevirtual 330, 3) := by decide +kernel
theorem dX12_judge_25 : decode cX12_judge 25 = .ok (.istore_n 3, 1) := by decide +kernel
theorem dX12_judge_26 : decode cX12_judge 26 = .ok (.iload_n 3, 1) := by decide +kernel
theorem dX12_judge_27 : decode cX12_judge 27 = .ok (.ifCond .eq 5, 3) := by decide +kernel
theorem dX12_judge_30 : decode cX12_judge 30 = .ok (.iload_n 3, 1) := by decide +kernel
theorem dX12_judge_31 : decode cX12_judge 31 = .ok (.ireturn, 1) := by decide +kernel
theorem dX12_judge_32 : decode cX12_judge 32 = .ok (.aload_n 0, 1) := by decide +kernel
theorem dX12_judge_33 : decode cX12_judge 33 = .ok (.invokevirtual 298, 3) := by decide +kernel
theorem dX12_judge_36 : decode cX12_judge 36 = .ok (.aload_n 0, 1) := by decide +kernel
theorem dX12_judge_37 : decode cX12_judge 37 = .ok (.iload_n 1, 1) := by decide +kernel
theorem dX12_judge_38 : decode cX12_judge 38 = .ok (.invokevirtual 333, 3) := by decide +kernel
theorem dX12_judge_41 : decode cX12_judge 41 = .ok (.istore 4, 2) := by decide +kernel
theorem dX12_judge_43 : decode cX12_judge 43 = .ok (.aload_n 0, 1) := by decide +kernel
theorem dX12_judge_44 : decode cX12_judge 44 = .ok (.invokevirtual 336, 3) := by decide +kernel
theorem dX12_judge_47 : decode cX12_judge 47 = .ok (.aload_n 0, 1) := by decide +kernel
theorem dX12_judge_48 : decode cX12_judge 48 = .ok (.invokevirtual 339, 3) := by decide +kernel
theorem dX12_judge_51 : decode cX12_judge 51 = .ok (.iload_n 2, 1) := by decide +kernel
theorem dX12_judge_52 : decode cX12_judge 52 = .ok (.ifCond .ne 19, 3) := by decide +kernel
theorem dX12_judge_55 : decode cX12_judge 55 = .ok (.aload_n 0, 1) := by decide +kernel
theorem dX12_judge_56 : decode cX12_judge 56 = .ok (.getfield 318, 3) := by decide +kernel
theorem dX12_judge_59 : decode cX12_judge 59 = .ok (.ifCond .ne 7, 3) := by decide +kernel
theorem dX12_judge_62 : decode cX12_judge 62 = .ok (.iconst (-1), 1) := by decide +kernel
theorem dX12_judge_63 : decode cX12_judge 63 = .ok (.goto 39, 3) := by decide +kernel
theorem dX12_judge_66 : decode cX12_judge 66 = .ok (.iload 4, 2) := by decide +kernel
theorem dX12_judge_68 : decode cX12_judge 68 = .ok (.goto 34, 3) := by decide +kernel
theorem dX12_judge_71 : decode cX12_judge 71 = .ok (.iload_n 2, 1) := by decide +kernel
theorem dX12_judge_72 : decode cX12_judge 72 = .ok (.iconst 1, 1) := by decide +kernel
theorem dX12_judge_73 : decode cX12_judge 73 = .ok (.if_icmp .ne 10, 3) := by decide +kernel
theorem dX12_judge_76 : decode cX12_judge 76 = .ok (.aload_n 0, 1) := by decide +kernel
theorem dX12_judge_77 : decode cX12_judge 77 = .ok (.getfield 318, 3) := by decide +kernel
theorem dX12_judge_80 : decode cX12_judge 80 = .ok (.goto 22, 3) := by decide +kernel
theorem dX12_judge_83 : decode cX12_judge 83 = .ok (.iload_n 2, 1) := by decide +kernel
theorem dX12_judge_84 : decode cX12_judge 84 = .ok (.iconst 2, 1) := by decide +kernel
theorem dX12_judge_85 : decode cX12_judge 85 = .ok (.if_icmp .ne 13, 3) := by decide +kernel
theorem dX12_judge_88 : decode cX12_judge 88 = .ok (.aload_n 0, 1) := by decide +kernel
theorem dX12_judge_89 : decode cX12_judge 89 = .ok (.invokevirtual 342, 3) := by decide +kernel
theorem dX12_judge_92 : decode cX12_judge 92 = .ok (.invokestatic 345, 3) := by decide +kernel
theorem dX12_judge_95 : decode cX12_judge 95 = .ok (.goto 7, 3) := by decide +kernel
theorem dX12_judge_98 : decode cX12_judge 98 = .ok (.aload_n 0, 1) := by decide +kernel
theorem dX12_judge_99 : decode cX12_judge 99 = .ok (.getfield 265, 3) := by decide +kernel
theorem dX12_judge_102 : decode cX12_judge 102 = .ok (.ireturn, 1) := by decide +kernel
def wX12_judge (f : Nat) (Φ : Int → aj_M → Prop) (q0 : List Nat) (v1 : Int) (v2 : Int) (m : aj_M) : Prop := ∀ m1, m1 = aj_u m q0 0 0 → rI v2 ∧ wX12_within f (fun z1 m2 => rI z1 ∧ (¬ z1 = 0 → wX12_noTray f (fun z2 m3 => rI z2 ∧ (z2 = 0 → wX12_stores f (fun m4 => wX12_tells f (fun z4 m5 => wX12_laysNet f (fun m6 => wX12_isAgain f (fun m7 => rI v2 ∧ (¬ v2 = 0 → rI v2 ∧ (¬ v2 = 1 → rI v2 ∧ (¬ v2 = 2 → Φ (m7 q0 22) m7) ∧ (v2 = 2 → wX12_girthNow f (fun z7 m8 => wX12_toldFar f (fun z8 m9 => Φ z8 m9) z7 m8) q0 m7)) ∧ (v2 = 1 → Φ (m7 q0 28) m7)) ∧ (v2 = 0 → rI (m7 q0 28) ∧ (¬ (m7 q0 28) = 0 → Φ z4 m7) ∧ ((m7 q0 28) = 0 → Φ (-1) m7))) q0 m6) q0 m5) q0 v1 m4) q0 m3) ∧ (¬ (z2 = 0) → Φ z2 m3)) q0 v1 m2) ∧ (z1 = 0 → Φ (-2) m2)) v2 0 3 m1
set_option maxHeartbeats 4000000 in
set_option maxRecDepth 100000 in
theorem sX12_judge {n f : Nat} {Φ : Int → aj_M → Prop} {q0 : List Nat} {v1 : Int} {v2 : Int} {m : aj_M} (hq0 : (.inl (12, q0) : aj_R) ∈ aj_pls) (h : wX12_judge f Φ q0 v1 v2 m) : aj_Ct (n + 7) yX12_judge cX12_judge 5 (some .int) [vO 12 q0, vI v1, vI v2] m (fun r m => ∃ z, r = some (vI z) ∧ Φ z m) := by
  refine aj_met (lv := [some (vO 12 q0), some (vI v1), some (vI v2), none, none]) (by decide +kernel) rfl (Nat.le_of_ble_eq_true rfl) (fun X C K => ?_)
  unfold wX12_judge at h
  refine aj_aload_n C dX12_judge_0 rfl ?_
  refine aj_iconst C dX12_judge_1 ?_
  refine aj_putI C fpX12_1 hq0 rfl dX12_judge_2 ?_
  refine aj_nm (fun m1 e1 => ?_)
  have h := h m1 e1
  refine aj_iload_n C dX12_judge_5 rfl ?_
  obtain ⟨r0, h⟩ := h
  refine aj_i2l C dX12_judge_6 r0 ?_
  refine aj_lconst (z := 0) C dX12_judge_7 rfl ?_
  refine aj_ldc2 (z := 3) C (wd1841) rfl dX12_judge_8 ?_
  refine aj_callS (rest := []) C msX12_154 (sX12_within  h) (aj_np 3 (by decide +kernel) rfl) (Nat.le_of_ble_eq_true rfl) rfl dX12_judge_11 (fun r m2 h => ?_)
  obtain ⟨z1, rfl, h⟩ := h
  obtain ⟨r0, h1, h2⟩ := h
  refine aj_if_ne (tgt := 20) C dX12_judge_14 (by decide) r0 (fun e => ?_) (fun e => ?_)
  · have h := h1 e
    refine aj_aload_n C dX12_judge_20 rfl ?_
    refine aj_iload_n C dX12_judge_21 rfl ?_
    refine aj_callV (rest := []) C mvX12_330 (sX12_noTray hq0 h) hq0 (aj_np 1 (by decide +kernel) rfl) (Nat.le_of_ble_eq_true rfl) rfl dX12_judge_22 (fun r m3 h => ?_)
    obtain ⟨z2, rfl, h⟩ := h
    refine aj_istore_n (lv' := [some (vO 12 q0), some (vI v1), some (vI v2), some (vI z2), none]) C dX12_judge_25 (by decide) rfl ?_
    refine aj_iload_n C dX12_judge_26 rfl ?_
    obtain ⟨r0, h1, h2⟩ := h
    refine aj_if_eq (tgt := 32) C dX12_judge_27 (by decide) r0 (fun e => ?_) (fun e => ?_)
    · have h := h1 e
      refine aj_aload_n C dX12_judge_32 rfl ?_
      refine aj_callV (rest := []) C mvX12_298 (sX12_stores hq0 h) hq0 (aj_np 0 (by decide +kernel) rfl) (Nat.le_of_ble_eq_true rfl) rfl dX12_judge_33 (fun r m4 h => ?_)
      obtain ⟨rfl, h⟩ := h
      refine aj_aload_n C dX12_judge_36 rfl ?_
      refine aj_iload_n C dX12_judge_37 rfl ?_
      refine aj_callV (rest := []) C mvX12_333 (sX12_tells hq0 h) hq0 (aj_np 1 (by decide +kernel) rfl) (Nat.le_of_ble_eq_true rfl) rfl dX12_judge_38 (fun r m5 h => ?_)
      obtain ⟨z4, rfl, h⟩ := h
      refine aj_istore (lv' := [some (vO 12 q0), some (vI v1), some (vI v2), some (vI z2), some (vI z4)]) C dX12_judge_41 (by decide) rfl ?_
      refine aj_aload_n C dX12_judge_43 rfl ?_
      refine aj_callV (rest := []) C mvX12_336 (sX12_laysNet hq0 h) hq0 (aj_np 0 (by decide +kernel) rfl) (Nat.le_of_ble_eq_true rfl) rfl dX12_judge_44 (fun r m6 h => ?_)
      obtain ⟨rfl, h⟩ := h
      refine aj_aload_n C dX12_judge_47 rfl ?_
      refine aj_callV (rest := []) C mvX12_339 (sX12_isAgain hq0 h) hq0 (aj_np 0 (by decide +kernel) rfl) (Nat.le_of_ble_eq_true rfl) rfl dX12_judge_48 (fun r m7 h => ?_)
      obtain ⟨rfl, h⟩ := h
      refine aj_iload_n C dX12_judge_51 rfl ?_
      obtain ⟨r0, h1, h2⟩ := h
      refine aj_if_ne (tgt := 71) C dX12_judge_52 (by decide) r0 (fun e => ?_) (fun e => ?_)
      · have h := h1 e
        refine aj_iload_n C dX12_judge_71 rfl ?_
        refine aj_iconst C dX12_judge_72 ?_
        obtain ⟨r0, h1, h2⟩ := h
        refine aj_icmp_ne (tgt := 83) C dX12_judge_73 (by decide) r0 (by decide) (fun e => ?_) (fun e => ?_)
        · have h := h1 e
          refine aj_iload_n C dX12_judge_83 rfl ?_
          refine aj_iconst C dX12_judge_84 ?_
          obtain ⟨r0, h1, h2⟩ := h
          refine aj_icmp_ne (tgt := 98) C dX12_judge_85 (by decide) r0 (by decide) (fun e => ?_) (fun e => ?_)
          · have h := h1 e
            refine aj_aload_n C dX12_judge_98 rfl ?_
            refine aj_getI C flX12_265 hq0 (by decide) dX12_judge_99 rfl ?_
            exact aj_iret C K dX12_judge_102 ⟨_, rfl, h⟩
          · have h := h2 e
            refine aj_aload_n C dX12_judge_88 rfl ?_
            refine aj_callV (rest := []) C mvX12_342 (sX12_girthNow hq0 h) hq0 (aj_np 0 (by decide +kernel) rfl) (Nat.le_of_ble_eq_true rfl) rfl dX12_judge_89 (fun r m8 h => ?_)
            obtain ⟨z7, rfl, h⟩ := h
            refine aj_callS (rest := []) C msX12_345 (sX12_toldFar  h) (aj_np 1 (by decide +kernel) rfl) (Nat.le_of_ble_eq_true rfl) rfl dX12_judge_92 (fun r m9 h => ?_)
            obtain ⟨z8, rfl, h⟩ := h
            refine aj_goto (tgt := 102) C dX12_judge_95 (by decide) ?_
            exact aj_iret C K dX12_judge_102 ⟨_, rfl, h⟩
        · have h := h2 e
          refine aj_aload_n C dX12_judge_76 rfl ?_
          refine aj_getI C flX12_318 hq0 (by decide) dX12_judge_77 rfl ?_
          refine aj_goto (tgt := 102) C dX12_judge_80 (by decide) ?_
          exact aj_iret C K dX12_judge_102 ⟨_, rfl, h⟩
      · have h := h2 e
        refine aj_aload_n C dX12_judge_55 rfl ?_
        refine aj_getI C flX12_318 hq0 (by decide) dX12_judge_56 rfl ?_
        obtain ⟨r0, h1, h2⟩ := h
        refine aj_if_ne (tgt := 66) C dX12_judge_59 (by decide) r0 (fun e => ?_) (fun e => ?_)
        · have h := h1 e
          refine aj_iload C dX12_judge_66 rfl ?_
          refine aj_goto (tgt := 102) C dX12_judge_68 (by decide) ?_
          exact aj_iret C K dX12_judge_102 ⟨_, rfl, h⟩
        · have h := h2 e
          refine aj_iconst C dX12_judge_62 ?_
          refine aj_goto (tgt := 102) C dX12_judge_63 (by decide) ?_
          exact aj_iret C K dX12_judge_102 ⟨_, rfl, h⟩
    · have h := h2 e
      refine aj_iload_n C dX12_judge_30 rfl ?_
      exact aj_iret C K dX12_judge_31 ⟨_, rfl, h⟩
  · have h := h2 e
    refine aj_bipush C dX12_judge_17 (by decide) ?_
    exact aj_iret C K dX12_judge_19 ⟨_, rfl, h⟩
theorem dX12_perform_0 : decode cX12_perform 0 = .ok (.aload_n 0, 1) := by decide +kernel
theorem dX12_perform_1 : decode cX12_perform 1 = .ok (.iconst 0, 1) := by decide +kernel
theorem dX12_perform_2 : decode cX12_perform 2 = .ok (.putfield 1, 3) := by decide +kernel
theorem dX12_perform_5 : decode cX12_perform 5 = .ok (.aload_n 0, 1) := by decide +kernel
theorem dX12_perform_6 : decode cX12_perform 6 = .ok (.iload_n 1, 1) := by decide +kernel
theorem dX12_perform_7 : decode cX12_perform 7 = .ok (.invokevirtual 330, 3) := by decide +kernel
theorem dX12_perform_10 : decode cX12_perform 10 = .ok (.istore_n 2, 1) := by decide +kernel
theorem dX12_perform_11 : decode cX12_perform 11 = .ok (.iload_n 2, 1) := by decide +kernel
theorem dX12_perform_12 : decode cX12_perform 12 = .ok (.ifCond .eq 5, 3) := by decide +kernel
theorem dX12_perform_15 : decode cX12_perform 15 = .ok (.iload_n 2, 1) := by decide +kernel
theorem dX12_perform_16 : decode cX12_perform 16 = .ok (.ireturn, 1) := by decide +kernel
theorem dX12_perform_17 : decode cX12_perform 17 = .ok (.aload_n 0, 1) := by decide +kernel
theorem dX12_perform_18 : decode cX12_perform 18 = .ok (.invokevirtual 298, 3) := by decide +kernel
theorem dX12_perform_21 : decode cX12_perform 21 = .ok (.aload_n 0, 1) := by decide +kernel
theorem dX12_perform_22 : decode cX12_perform 22 = .ok (.iload_n 1, 1) := by decide +kernel
theorem dX12_perform_23 : decode cX12_perform 23 = .ok (.invokevirtual 333, 3) := by decide +kernel
theorem dX12_perform_26 : decode cX12_perform 26 = .ok (.istore_n 3, 1) := by decide +kernel
theorem dX12_perform_27 : decode cX12_perform 27 = .ok (.iload_n 3, 1) := by decide +kernel
theorem dX12_perform_28 : decode cX12_perform 28 = .ok (.ifCond .le 7, 3) := by decide +kernel
theorem dX12_perform_31 : decode cX12_perform 31 = .ok (.aload_n 0, 1) := by decide +kernel
theorem dX12_perform_32 : decode cX12_perform 32 = .ok (.invokevirtual 301, 3) := by decide +kernel
theorem dX12_perform_35 : decode cX12_perform 35 = .ok (.iload_n 3, 1) := by decide +kernel
theorem dX12_perform_36 : decode cX12_perform 36 = .ok (.ireturn, 1) := by decide +kernel
def wX12_perform (f : Nat) (Φ : Int → aj_M → Prop) (q0 : List Nat) (v1 : Int) (m : aj_M) : Prop := ∀ m1, m1 = aj_u m q0 0 0 → wX12_noTray f (fun z1 m2 => rI z1 ∧ (z1 = 0 → wX12_stores f (fun m3 => wX12_tells f (fun z3 m4 => rI z3 ∧ (z3 ≤ 0 → Φ z3 m4) ∧ (¬ (z3 ≤ 0) → wX12_notes f (fun m5 => Φ z3 m5) q0 m4)) q0 v1 m3) q0 m2) ∧ (¬ (z1 = 0) → Φ z1 m2)) q0 v1 m1
set_option maxHeartbeats 4000000 in
set_option maxRecDepth 100000 in
theorem sX12_perform {n f : Nat} {Φ : Int → aj_M → Prop} {q0 : List Nat} {v1 : Int} {m : aj_M} (hq0 : (.inl (12, q0) : aj_R) ∈ aj_pls) (h : wX12_perform f Φ q0 v1 m) : aj_Ct (n + 7) yX12_perform cX12_perform 4 (some .int) [vO 12 q0, vI v1] m (fun r m => ∃ z, r = some (vI z) ∧ Φ z m) := by
  refine aj_met (lv := [some (vO 12 q0), some (vI v1), none, none]) (by decide +kernel) rfl (Nat.le_of_ble_eq_true rfl) (fun X C K => ?_)
  unfold wX12_perform at h
  refine aj_aload_n C dX12_perform_0 rfl ?_
  refine aj_iconst C dX12_perform_1 ?_
  refine aj_putI C fpX12_1 hq0 rfl dX12_perform_2 ?_
  refine aj_nm (fun m1 e1 => ?_)
  have h := h m1 e1
  refine aj_aload_n C dX12_perform_5 rfl ?_
  refine aj_iload_n C dX12_perform_6 rfl ?_
  refine aj_callV (rest := []) C mvX12_330 (sX12_noTray hq0 h) hq0 (aj_np 1 (by decide +kernel) rfl) (Nat.le_of_ble_eq_true rfl) rfl dX12_perform_7 (fun r m2 h => ?_)
  obtain ⟨z1, rfl, h⟩ := h
  refine aj_istore_n (lv' := [some (vO 12 q0), some (vI v1), some (vI z1), none]) C dX12_perform_10 (by decide) rfl ?_
  refine aj_iload_n C dX12_perform_11 rfl ?_
  obtain ⟨r0, h1, h2⟩ := h
  refine aj_if_eq (tgt := 17) C dX12_perform_12 (by decide) r0 (fun e => ?_) (fun e => ?_)
  · have h := h1 e
    refine aj_aload_n C dX12_perform_17 rfl ?_
    refine aj_callV (rest := []) C mvX12_298 (sX12_stores hq0 h) hq0 (aj_np 0 (by decide +kernel) rfl) (Nat.le_of_ble_eq_true rfl) rfl dX12_perform_18 (fun r m3 h => ?_)
    obtain ⟨rfl, h⟩ := h
    refine aj_aload_n C dX12_perform_21 rfl ?_
    refine aj_iload_n C dX12_perform_22 rfl ?_
    refine aj_callV (rest := []) C mvX12_333 (sX12_tells hq0 h) hq0 (aj_np 1 (by decide +kernel) rfl) (Nat.le_of_ble_eq_true rfl) rfl dX12_perform_23 (fun r m4 h => ?_)
    obtain ⟨z3, rfl, h⟩ := h
    refine aj_istore_n (lv' := [some (vO 12 q0), some (vI v1), some (vI z1), some (vI z3)]) C dX12_perform_26 (by decide) rfl ?_
    refine aj_iload_n C dX12_perform_27 rfl ?_
    obtain ⟨r0, h1, h2⟩ := h
    refine aj_if_le (tgt := 35) C dX12_perform_28 (by decide) r0 (fun e => ?_) (fun e => ?_)
    · have h := h1 e
      refine aj_iload_n C dX12_perform_35 rfl ?_
      exact aj_iret C K dX12_perform_36 ⟨_, rfl, h⟩
    · have h := h2 e
      refine aj_aload_n C dX12_perform_31 rfl ?_
      refine aj_callV (rest := []) C mvX12_301 (sX12_notes hq0 h) hq0 (aj_np 0 (by decide +kernel) rfl) (Nat.le_of_ble_eq_true rfl) rfl dX12_perform_32 (fun r m5 h => ?_)
      obtain ⟨rfl, h⟩ := h
      refine aj_iload_n C dX12_perform_35 rfl ?_
      exact aj_iret C K dX12_perform_36 ⟨_, rfl, h⟩
  · have h := h2 e
    refine aj_iload_n C dX12_perform_15 rfl ?_
    exact aj_iret C K dX12_perform_16 ⟨_, rfl, h⟩
theorem dX12_draw_0 : decode cX12_draw 0 = .ok (.aload_n 0, 1) := by decide +kernel
theorem dX12_draw_1 : decode cX12_draw 1 = .ok (.ldc_w 348, 3) := by decide +kernel
theorem dX12_draw_4 : decode cX12_draw 4 = .ok (.aload_n 0, 1) := by decide +kernel
theorem dX12_draw_5 : decode cX12_draw 5 = .ok (.getfield 349, 3) := by decide +kernel
theorem dX12_draw_8 : decode cX12_draw 8 = .ok (.imul, 1) := by decide +kernel
theorem dX12_draw_9 : decode cX12_draw 9 = .ok (.sipush 12345, 3) := by decide +kernel
theorem dX12_draw_12 : decode cX12_draw 12 = .ok (.iadd, 1) := by decide +kernel
theorem dX12_draw_13 : decode cX12_draw 13 = .ok (.putfield 349, 3) := by decide +kernel
theorem dX12_draw_16 : decode cX12_draw 16 = .ok (.aload_n 0, 1) := by decide +kernel
theorem dX12_draw_17 : decode cX12_draw 17 = .ok (.getfield 349, 3) := by decide +kernel
theorem dX12_draw_20 : decode cX12_draw 20 = .ok (.bipush 16, 2) := by decide +kernel
theorem dX12_draw_22 : decode cX12_draw 22 = .ok (.iushr, 1) := by decide +kernel
theorem dX12_draw_23 : decode cX12_draw 23 = .ok (.iload_n 1, 1) := by decide +kernel
theorem dX12_draw_24 : decode cX12_draw 24 = .ok (.irem, 1) := by decide +kernel
theorem dX12_draw_25 : decode cX12_draw 25 = .ok (.ireturn, 1) := by decide +kernel
def wX12_draw (f : Nat) (Φ : Int → aj_M → Prop) (q0 : List Nat) (v1 : Int) (m : aj_M) : Prop := ∀ m1, m1 = aj_u m q0 29 ((1103515245 * (m q0 29)) + 12345) → (0 ≤ (aj_ushr (m1 q0 29) 16) ∧ (aj_ushr (m1 q0 29) 16) < 2147483648) ∧ (0 < v1 ∧ v1 < 2147483648) ∧ Φ ((aj_ushr (m1 q0 29) 16) % v1) m1
set_option maxHeartbeats 4000000 in
set_option maxRecDepth 100000 in
theorem sX12_draw {n f : Nat} {Φ : Int → aj_M → Prop} {q0 : List Nat} {v1 : Int} {m : aj_M} (hq0 : (.inl (12, q0) : aj_R) ∈ aj_pls) (h : wX12_draw f Φ q0 v1 m) : aj_Ct n yX12_draw cX12_draw 2 (some .int) [vO 12 q0, vI v1] m (fun r m => ∃ z, r = some (vI z) ∧ Φ z m) := by
  refine aj_met (lv := [some (vO 12 q0), some (vI v1)]) (by decide +kernel) rfl (Nat.le_of_ble_eq_true rfl) (fun X C K => ?_)
  unfold wX12_draw at h
  refine aj_aload_n C dX12_draw_0 rfl ?_
  refine aj_ldcw (z := 1103515245) C (wd1933) rfl dX12_draw_1 ?_
  refine aj_aload_n C dX12_draw_4 rfl ?_
  refine aj_getI C flX12_349 hq0 (by decide) dX12_draw_5 rfl ?_
  refine aj_imul C dX12_draw_8 ?_
  refine aj_sipush C dX12_draw_9 (by decide) ?_
  refine aj_iadd C dX12_draw_12 ?_
  refine aj_putI C fpX12_349 hq0 rfl dX12_draw_13 ?_
  refine aj_nm (fun m1 e1 => ?_)
  have h := h m1 e1
  refine aj_aload_n C dX12_draw_16 rfl ?_
  refine aj_getI C flX12_349 hq0 (by decide) dX12_draw_17 rfl ?_
  refine aj_bipush C dX12_draw_20 (by decide) ?_
  refine aj_iushr C dX12_draw_22 ?_
  refine aj_iload_n C dX12_draw_23 rfl ?_
  obtain ⟨r0, r1, h⟩ := h
  refine aj_iremN C dX12_draw_24 r0 r1 ?_
  exact aj_iret C K dX12_draw_25 ⟨_, rfl, h⟩
theorem dX12_drawn_0 : decode cX12_drawn 0 = .ok (.aload_n 0, 1) := by decide +kernel
theorem dX12_drawn_1 : decode cX12_drawn 1 = .ok (.iconst 4, 1) := by decide +kernel
theorem dX12_drawn_2 : decode cX12_drawn 2 = .ok (.invokevirtual 352, 3) := by decide +kernel
theorem dX12_drawn_5 : decode cX12_drawn 5 = .ok (.istore_n 1, 1) := by decide +kernel
theorem dX12_drawn_6 : decode cX12_drawn 6 = .ok (.iload_n 1, 1) := by decide +kernel
theorem dX12_drawn_7 : decode cX12_drawn 7 = .ok (.ifCond .ne 13, 3) := by decide +kernel
theorem dX12_drawn_10 : decode cX12_drawn 10 = .ok (.bipush 10, 2) := by decide +kernel
theorem dX12_drawn_12 : decode cX12_drawn 12 = .ok (.aload_n 0, 1) := by decide +kernel
theorem dX12_drawn_13 : decode cX12_drawn 13 = .ok (.bipush 10, 2) := by decide +kernel
theorem dX12_drawn_15 : decode cX12_drawn 15 = .ok (.invokevirtual 352, 3) := by decide +kernel
theorem dX12_drawn_18 : decode cX12_drawn 18 = .ok (.iadd, 1) := by decide +kernel
theorem dX12_drawn_19 : decode cX12_drawn 19 = .ok (.ireturn, 1) := by decide +kernel
theorem dX12_drawn_20 : decode cX12_drawn 20 = .ok (.iload_n 1, 1) := by decide +kernel
theorem dX12_drawn_21 : decode cX12_drawn 21 = .ok (.iconst 1, 1) := by decide +kernel
theorem dX12_drawn_22 : decode cX12_drawn 22 = .ok (.if_icmp .ne 13, 3) := by decide +kernel
theorem dX12_drawn_25 : decode cX12_drawn 25 = .ok (.bipush 100, 2) := by decide +kernel
theorem dX12_drawn_27 : decode cX12_drawn 27 = .ok (.aload_n 0, 1) := by decide +kernel
theorem dX12_drawn_28 : decode cX12_drawn 28 = .ok (.bipush 12, 2) := by decide +kernel
theorem dX12_drawn_30 : decode cX12_drawn 30 = .ok (.invokevirtual 352, 3) := by decide +kernel
theorem dX12_drawn_33 : decode cX12_drawn 33 = .ok (.iadd, 1) := by decide +kernel
theorem dX12_drawn_34 : decode cX12_drawn 34 = .ok (.ireturn, 1) := by decide +kernel
theorem dX12_drawn_35 : decode cX12_drawn 35 = .ok (.aload_n 0, 1) := by decide +kernel
theorem dX12_drawn_36 : decode cX12_drawn 36 = .ok (.bipush 12, 2) := by decide +kernel
theorem dX12_drawn_38 : decode cX12_drawn 38 = .ok (.invokevirtual 352, 3) := by decide +kernel
theorem dX12_drawn_41 : decode cX12_drawn 41 = .ok (.istore_n 2, 1) := by decide +kernel
theorem dX12_drawn_42 : decode cX12_drawn 42 = .ok (.sipush 1000, 3) := by decide +kernel
theorem dX12_drawn_45 : decode cX12_drawn 45 = .ok (.bipush 100, 2) := by decide +kernel
theorem dX12_drawn_47 : decode cX12_drawn 47 = .ok (.iload_n 2, 1) := by decide +kernel
theorem dX12_drawn_48 : decode cX12_drawn 48 = .ok (.imul, 1) := by decide +kernel
theorem dX12_drawn_49 : decode cX12_drawn 49 = .ok (.iadd, 1) := by decide +kernel
theorem dX12_drawn_50 : decode cX12_drawn 50 = .ok (.aload_n 0, 1) := by decide +kernel
theorem dX12_drawn_51 : decode cX12_drawn 51 = .ok (.bipush 12, 2) := by decide +kernel
theorem dX12_drawn_53 : decode cX12_drawn 53 = .ok (.invokevirtual 352, 3) := by decide +kernel
theorem dX12_drawn_56 : decode cX12_drawn 56 = .ok (.iadd, 1) := by decide +kernel
theorem dX12_drawn_57 : decode cX12_drawn 57 = .ok (.ireturn, 1) := by decide +kernel
def wX12_drawn (f : Nat) (Φ : Int → aj_M → Prop) (q0 : List Nat) (m : aj_M) : Prop := wX12_draw f (fun z1 m1 => rI z1 ∧ (¬ z1 = 0 → rI z1 ∧ (¬ z1 = 1 → wX12_draw f (fun z2 m2 => wX12_draw f (fun z3 m3 => Φ ((1000 + (100 * z2)) + z3) m3) q0 12 m2) q0 12 m1) ∧ (z1 = 1 → wX12_draw f (fun z4 m4 => Φ (100 + z4) m4) q0 12 m1)) ∧ (z1 = 0 → wX12_draw f (fun z5 m5 => Φ (10 + z5) m5) q0 10 m1)) q0 4 m
set_option maxHeartbeats 4000000 in
set_option maxRecDepth 100000 in
theorem sX12_drawn {n f : Nat} {Φ : Int → aj_M → Prop} {q0 : List Nat} {m : aj_M} (hq0 : (.inl (12, q0) : aj_R) ∈ aj_pls) (h : wX12_drawn f Φ q0 m) : aj_Ct (n + 1) yX12_drawn cX12_drawn 3 (some .int) [vO 12 q0] m (fun r m => ∃ z, r = some (vI z) ∧ Φ z m) := by
  refine aj_met (lv := [some (vO 12 q0), none, none]) (by decide +kernel) rfl (Nat.le_of_ble_eq_true rfl) (fun X C K => ?_)
  unfold wX12_drawn at h
  refine aj_aload_n C dX12_drawn_0 rfl ?_
  refine aj_iconst C dX12_drawn_1 ?_
  refine aj_callV (rest := []) C mvX12_352 (sX12_draw hq0 h) hq0 (aj_np 1 (by decide +kernel) rfl) (Nat.le_of_ble_eq_true rfl) rfl dX12_drawn_2 (fun r m1 h => ?_)
  obtain ⟨z1, rfl, h⟩ := h
  refine aj_istore_n (lv' := [some (vO 12 q0), some (vI z1), none]) C dX12_drawn_5 (by decide) rfl ?_
  refine aj_iload_n C dX12_drawn_6 rfl ?_
  obtain ⟨r0, h1, h2⟩ := h
  refine aj_if_ne (tgt := 20) C dX12_drawn_7 (by decide) r0 (fun e => ?_) (fun e => ?_)
  · have h := h1 e
    refine aj_iload_n C dX12_drawn_20 rfl ?_
    refine aj_iconst C dX12_drawn_21 ?_
    obtain ⟨r0, h1, h2⟩ := h
    refine aj_icmp_ne (tgt := 35) C dX12_drawn_22 (by decide) r0 (by decide) (fun e => ?_) (fun e => ?_)
    · have h := h1 e
      refine aj_aload_n C dX12_drawn_35 rfl ?_
      refine aj_bipush C dX12_drawn_36 (by decide) ?_
      refine aj_callV (rest := []) C mvX12_352 (sX12_draw hq0 h) hq0 (aj_np 1 (by decide +kernel) rfl) (Nat.le_of_ble_eq_true rfl) rfl dX12_drawn_38 (fun r m2 h => ?_)
      obtain ⟨z2, rfl, h⟩ := h
      refine aj_istore_n (lv' := [some (vO 12 q0), some (vI z1), some (vI z2)]) C dX12_drawn_41 (by decide) rfl ?_
      refine aj_sipush C dX12_drawn_42 (by decide) ?_
      refine aj_bipush C dX12_drawn_45 (by decide) ?_
      refine aj_iload_n C dX12_drawn_47 rfl ?_
      refine aj_imul C dX12_drawn_48 ?_
      refine aj_iadd C dX12_drawn_49 ?_
      refine aj_aload_n C dX12_drawn_50 rfl ?_
      refine aj_bipush C dX12_drawn_51 (by decide) ?_
      refine aj_callV (rest := [vI (1000 + (100 * z2))]) C mvX12_352 (sX12_draw hq0 h) hq0 (aj_np 1 (by decide +kernel) rfl) (Nat.le_of_ble_eq_true rfl) rfl dX12_drawn_53 (fun r m3 h => ?_)
      obtain ⟨z3, rfl, h⟩ := h
      refine aj_iadd C dX12_drawn_56 ?_
      exact aj_iret C K dX12_drawn_57 ⟨_, rfl, h⟩
    · have h := h2 e
      refine aj_bipush C dX12_drawn_25 (by decide) ?_
      refine aj_aload_n C dX12_drawn_27 rfl ?_
      refine aj_bipush C dX12_drawn_28 (by decide) ?_
      refine aj_callV (rest := [vI 100]) C mvX12_352 (sX12_draw hq0 h) hq0 (aj_np 1 (by decide +kernel) rfl) (Nat.le_of_ble_eq_true rfl) rfl dX12_drawn_30 (fun r m4 h => ?_)
      obtain ⟨z4, rfl, h⟩ := h
      refine aj_iadd C dX12_drawn_33 ?_
      exact aj_iret C K dX12_drawn_34 ⟨_, rfl, h⟩
  · have h := h2 e
    refine aj_bipush C dX12_drawn_10 (by decide) ?_
    refine aj_aload_n C dX12_drawn_12 rfl ?_
    refine aj_bipush C dX12_drawn_13 (by decide) ?_
    refine aj_callV (rest := [vI 10]) C mvX12_352 (sX12_draw hq0 h) hq0 (aj_np 1 (by decide +kernel) rfl) (Nat.le_of_ble_eq_true rfl) rfl dX12_drawn_15 (fun r m5 h => ?_)
    obtain ⟨z5, rfl, h⟩ := h
    refine aj_iadd C dX12_drawn_18 ?_
    exact aj_iret C K dX12_drawn_19 ⟨_, rfl, h⟩
