theorem dX12_restore_0 : decode cX12_restore 0 = .ok (.aload_n 0, 1) := by decide +kernel
theorem dX12_restore_1 : decode cX12_restore 1 = .ok (.iconst 0, 1) := by decide +kernel
theorem dX12_restore_2 : decode cX12_restore 2 = .ok (.putfield 1, 3) := by decide +kernel
theorem dX12_restore_5 : decode cX12_restore 5 = .ok (.iload_n 1, 1) := by decide +kernel
theorem dX12_restore_6 : decode cX12_restore 6 = .ok (.i2l, 1) := by decide +kernel
theorem dX12_restore_7 : decode cX12_restore 7 = .ok (.lconst 0, 1) := by decide +kernel
theorem dX12_restore_8 : decode cX12_restore 8 = .ok (.lconst 1, 1) := by decide +kernel
theorem dX12_restore_9 : decode cX12_restore 9 = .ok (.invokestatic 154, 3) := by decide +kernel
theorem dX12_restore_12 : decode cX12_restore 12 = .ok (.ifCond .ne 6, 3) := by decide +kernel
theorem dX12_restore_15 : decode cX12_restore 15 = .ok (.bipush (-2), 2) := by decide +kernel
theorem dX12_restore_17 : decode cX12_restore 17 = .ok (.ireturn, 1) := by decide +kernel
theorem dX12_restore_18 : decode cX12_restore 18 = .ok (.aload_n 0, 1) := by decide +kernel
theorem dX12_restore_19 : decode cX12_restore 19 = .ok (.getfield 17, 3) := by decide +kernel
theorem dX12_restore_22 : decode cX12_restore 22 = .ok (.iload_n 1, 1) := by decide +kernel
theorem dX12_restore_23 : decode cX12_restore 23 = .ok (.baload, 1) := by decide +kernel
theorem dX12_restore_24 : decode cX12_restore 24 = .ok (.ifCond .ne 6, 3) := by decide +kernel
theorem dX12_restore_27 : decode cX12_restore 27 = .ok (.bipush (-5), 2) := by decide +kernel
theorem dX12_restore_29 : decode cX12_restore 29 = .ok (.ireturn, 1) := by decide +kernel
theorem dX12_restore_30 : decode cX12_restore 30 = .ok (.iconst 0, 1) := by decide +kernel
theorem dX12_restore_31 : decode cX12_restore 31 = .ok (.istore_n 2, 1) := by decide +kernel
theorem dX12_restore_32 : decode cX12_restore 32 = .ok (.iload_n 2, 1) := by decide +kernel
theorem dX12_restore_33 : decode cX12_restore 33 = .ok (.sipush 1105, 3) := by decide +kernel
theorem dX12_restore_36 : decode cX12_restore 36 = .ok (.if_icmp .ge 29, 3) := by decide +kernel
theorem dX12_restore_39 : decode cX12_restore 39 = .ok (.aload_n 0, 1) := by decide +kernel
theorem dX12_restore_40 : decode cX12_restore 40 = .ok (.getfield 13, 3) := by decide +kernel
theorem dX12_restore_43 : decode cX12_restore 43 = .ok (.iload_n 2, 1) := by decide +kernel
theorem dX12_restore_44 : decode cX12_restore 44 = .ok (.aload_n 0, 1) := by decide +kernel
theorem dX12_restore_45 : decode cX12_restore 45 = .ok (.getfield 13, 3) := by decide +kernel
theorem dX12_restore_48 : decode cX12_restore 48 = .ok (.sipush 1105, 3) := by decide +kernel
theorem dX12_restore_51 : decode cX12_restore 51 = .ok (.iload_n 1, 1) := by decide +kernel
theorem dX12_restore_52 : decode cX12_restore 52 = .ok (.iconst 1, 1) := by decide +kernel
theorem dX12_restore_53 : decode cX12_restore 53 = .ok (.iadd, 1) := by decide +kernel
theorem dX12_restore_54 : decode cX12_restore 54 = .ok (.imul, 1) := by decide +kernel
theorem dX12_restore_55 : decode cX12_restore 55 = .ok (.iload_n 2, 1) := by decide +kernel
theorem dX12_restore_56 : decode cX12_restore 56 = .ok (.iadd, 1) := by decide +kernel
theorem dX12_restore_57 : decode cX12_restore 57 = .ok (.iaload, 1) := by decide +kernel
theorem dX12_restore_58 : decode cX12_restore 58 = .ok (.iastore, 1) := by decide +kernel
theorem dX12_restore_59 : decode cX12_restore 59 = .ok (.iinc 2 1, 3) := by decide +kernel
theorem dX12_restore_62 : decode cX12_restore 62 = .ok (.goto (-30), 3) := by decide +kernel
theorem dX12_restore_65 : decode cX12_restore 65 = .ok (.aload_n 0, 1) := by decide +kernel
theorem dX12_restore_66 : decode cX12_restore 66 = .ok (.getfield 13, 3) := by decide +kernel
theorem dX12_restore_69 : decode cX12_restore 69 = .ok (.bipush 63, 2) := by decide +kernel
theorem dX12_restore_71 : decode cX12_restore 71 = .ok (.iconst 0, 1) := by decide +kernel
theorem dX12_restore_72 : decode cX12_restore 72 = .ok (.iastore, 1) := by decide +kernel
theorem dX12_restore_73 : decode cX12_restore 73 = .ok (.iconst 0, 1) := by decide +kernel
theorem dX12_restore_74 : decode cX12_restore 74 = .ok (.ireturn, 1) := by decide +kernel
def hX12_restore_32 (f : Nat) (Φ : Int → aj_M → Prop) : Nat → List Nat → Int → Int → aj_M → Prop
  | 0, _, _, _, _ => False
  | k + 1, q0, v1, v2, m => rI v2 ∧ (1105 ≤ v2 → ∀ m1, m1 = aj_u m (1 :: q0) (63 : Int).toNat 0 → Φ 0 m1) ∧ (¬ (1105 ≤ v2) → (0 ≤ ((1105 * (v1 + 1)) + v2) ∧ ((1105 * (v1 + 1)) + v2) < 3315) ∧ (0 ≤ v2 ∧ v2 < 3315) ∧ ∀ m2, m2 = aj_u m (1 :: q0) v2.toNat (m (1 :: q0) ((1105 * (v1 + 1)) + v2).toNat) → hX12_restore_32 f Φ k q0 v1 (v2 + 1) m2)
set_option maxHeartbeats 4000000 in
set_option maxRecDepth 100000 in
theorem tX12_restore_32 {X : aj_T} {n f : Nat} {Φ : Int → aj_M → Prop} (C : aj_Cx X cX12_restore RX12 3 (n + 1)) (K : aj_Rt X (some .int) (fun r m => ∃ z, r = some (vI z) ∧ Φ z m)) : ∀ (k : Nat) (q0 : List Nat) (v1 : Int) (v2 : Int) (m : aj_M) (hq0 : (.inl (12, q0) : aj_R) ∈ aj_pls), hX12_restore_32 f Φ k q0 v1 v2 m → aj_J X 32 [some (vO 12 q0), some (vI v1), some (vI v2)] [] m := by
  intro k
  induction k with
  | zero =>
    intro q0 v1 v2 m _ h
    exact h.elim
  | succ k ih =>
    intro q0 v1 v2 m hq0 h
    unfold hX12_restore_32 at h
    refine aj_iload_n C dX12_restore_32 rfl ?_
    refine aj_sipush C dX12_restore_33 (by decide) ?_
    obtain ⟨r0, h1, h2⟩ := h
    refine aj_icmp_ge (tgt := 65) C dX12_restore_36 (by decide) r0 (by decide) (fun e => ?_) (fun e => ?_)
    · have h := h1 e
      refine aj_aload_n C dX12_restore_65 rfl ?_
      refine aj_getA (x := 0) (y := 3315) C flX12_13 hq0 rfl dX12_restore_66 ?_
      refine aj_bipush C dX12_restore_69 (by decide) ?_
      refine aj_iconst C dX12_restore_71 ?_
      refine aj_iast C (aj_ca (e := 0) (n := 3315) (j := 1) hq0 (by decide) rfl) (by decide) (by decide) dX12_restore_72 ?_
      refine aj_nm (fun m1 e1 => ?_)
      have h := h m1 e1
      refine aj_iconst C dX12_restore_73 ?_
      exact aj_iret C K dX12_restore_74 ⟨_, rfl, h⟩
    · have h := h2 e
      refine aj_aload_n C dX12_restore_39 rfl ?_
      refine aj_getA (x := 0) (y := 3315) C flX12_13 hq0 rfl dX12_restore_40 ?_
      refine aj_iload_n C dX12_restore_43 rfl ?_
      refine aj_aload_n C dX12_restore_44 rfl ?_
      refine aj_getA (x := 0) (y := 3315) C flX12_13 hq0 rfl dX12_restore_45 ?_
      refine aj_sipush C dX12_restore_48 (by decide) ?_
      refine aj_iload_n C dX12_restore_51 rfl ?_
      refine aj_iconst C dX12_restore_52 ?_
      refine aj_iadd C dX12_restore_53 ?_
      refine aj_imul C dX12_restore_54 ?_
      refine aj_iload_n C dX12_restore_55 rfl ?_
      refine aj_iadd C dX12_restore_56 ?_
      obtain ⟨r0, h⟩ := h
      refine aj_iald C (aj_ca (e := 0) (n := 3315) (j := 1) hq0 (by decide) rfl) (by decide) r0 dX12_restore_57 rfl ?_
      obtain ⟨r0, h⟩ := h
      refine aj_iast C (aj_ca (e := 0) (n := 3315) (j := 1) hq0 (by decide) rfl) (by decide) r0 dX12_restore_58 ?_
      refine aj_nm (fun m2 e1 => ?_)
      have h := h m2 e1
      refine aj_iinc (lv' := [some (vO 12 q0), some (vI v1), some (vI (v2 + 1))]) C dX12_restore_59 rfl (by decide) rfl ?_
      refine aj_goto (tgt := 32) C dX12_restore_62 (by decide) ?_
      exact ih q0 v1 (v2 + 1) _ hq0 h
def wX12_restore (f : Nat) (Φ : Int → aj_M → Prop) (q0 : List Nat) (v1 : Int) (m : aj_M) : Prop := ∀ m1, m1 = aj_u m q0 0 0 → rI v1 ∧ wX12_within f (fun z1 m2 => rI z1 ∧ (¬ z1 = 0 → (0 ≤ v1 ∧ v1 < 2) ∧ rI (m2 (2 :: q0) v1.toNat) ∧ (¬ (m2 (2 :: q0) v1.toNat) = 0 → hX12_restore_32 f Φ f q0 v1 0 m2) ∧ ((m2 (2 :: q0) v1.toNat) = 0 → Φ (-5) m2)) ∧ (z1 = 0 → Φ (-2) m2)) v1 0 1 m1
set_option maxHeartbeats 4000000 in
set_option maxRecDepth 100000 in
theorem sX12_restore {n f : Nat} {Φ : Int → aj_M → Prop} {q0 : List Nat} {v1 : Int} {m : aj_M} (hq0 : (.inl (12, q0) : aj_R) ∈ aj_pls) (h : wX12_restore f Φ q0 v1 m) : aj_Ct (n + 1) yX12_restore cX12_restore 3 (some .int) [vO 12 q0, vI v1] m (fun r m => ∃ z, r = some (vI z) ∧ Φ z m) := by
  refine aj_met (lv := [some (vO 12 q0), some (vI v1), none]) (by decide +kernel) rfl (Nat.le_of_ble_eq_true rfl) (fun X C K => ?_)
  unfold wX12_restore at h
  refine aj_aload_n C dX12_restore_0 rfl ?_
  refine aj_iconst C dX12_restore_1 ?_
  refine aj_putI C fpX12_1 hq0 rfl dX12_restore_2 ?_
  refine aj_nm (fun m1 e1 => ?_)
  have h := h m1 e1
  refine aj_iload_n C dX12_restore_5 rfl ?_
  obtain ⟨r0, h⟩ := h
  refine aj_i2l C dX12_restore_6 r0 ?_
  refine aj_lconst (z := 0) C dX12_restore_7 rfl ?_
  refine aj_lconst (z := 1) C dX12_restore_8 rfl ?_
  refine aj_callS (rest := []) C msX12_154 (sX12_within  h) (aj_np 3 (by decide +kernel) rfl) (Nat.le_of_ble_eq_true rfl) rfl dX12_restore_9 (fun r m2 h => ?_)
  obtain ⟨z1, rfl, h⟩ := h
  obtain ⟨r0, h1, h2⟩ := h
  refine aj_if_ne (tgt := 18) C dX12_restore_12 (by decide) r0 (fun e => ?_) (fun e => ?_)
  · have h := h1 e
    refine aj_aload_n C dX12_restore_18 rfl ?_
    refine aj_getA (x := 1) (y := 2) C flX12_17 hq0 rfl dX12_restore_19 ?_
    refine aj_iload_n C dX12_restore_22 rfl ?_
    obtain ⟨r0, h⟩ := h
    refine aj_zald C (aj_ca (e := 1) (n := 2) (j := 2) hq0 (by decide) rfl) (by decide) r0 dX12_restore_23 rfl ?_
    obtain ⟨r0, h1, h2⟩ := h
    refine aj_if_ne (tgt := 30) C dX12_restore_24 (by decide) r0 (fun e => ?_) (fun e => ?_)
    · have h := h1 e
      refine aj_iconst C dX12_restore_30 ?_
      refine aj_istore_n (lv' := [some (vO 12 q0), some (vI v1), some (vI 0)]) C dX12_restore_31 (by decide) rfl ?_
      exact tX12_restore_32 C K f q0 v1 0 _ hq0 h
    · have h := h2 e
      refine aj_bipush C dX12_restore_27 (by decide) ?_
      exact aj_iret C K dX12_restore_29 ⟨_, rfl, h⟩
  · have h := h2 e
    refine aj_bipush C dX12_restore_15 (by decide) ?_
    exact aj_iret C K dX12_restore_17 ⟨_, rfl, h⟩
theorem dX12_count_0 : decode cX12_count 0 = .ok (.aload_n 0, 1) := by decide +kernel
theorem dX12_count_1 : decode cX12_count 1 = .ok (.iconst 0, 1) := by decide +kernel
theorem dX12_count_2 : decode cX12_count 2 = .ok (.putfield 1, 3) := by decide +kernel
theorem dX12_count_5 : decode cX12_count 5 = .ok (.aload_n 0, 1) := by decide +kernel
theorem dX12_count_6 : decode cX12_count 6 = .ok (.invokevirtual 336, 3) := by decide +kernel
theorem dX12_count_9 : decode cX12_count 9 = .ok (.iload_n 1, 1) := by decide +kernel
theorem dX12_count_10 : decode cX12_count 10 = .ok (.tableswitch 122 0 9 #[54, 61, 69, 76, 84, 89, 94, 102, 110, 115], 54) := by decide +kernel
theorem dX12_count_64 : decode cX12_count 64 = .ok (.aload_n 0, 1) := by decide +kernel
theorem dX12_count_65 : decode cX12_count 65 = .ok (.getfield 13, 3) := by decide +kernel
theorem dX12_count_68 : decode cX12_count 68 = .ok (.iconst 5, 1) := by decide +kernel
theorem dX12_count_69 : decode cX12_count 69 = .ok (.iaload, 1) := by decide +kernel
theorem dX12_count_70 : decode cX12_count 70 = .ok (.ireturn, 1) := by decide +kernel
theorem dX12_count_71 : decode cX12_count 71 = .ok (.aload_n 0, 1) := by decide +kernel
theorem dX12_count_72 : decode cX12_count 72 = .ok (.getfield 13, 3) := by decide +kernel
theorem dX12_count_75 : decode cX12_count 75 = .ok (.bipush 6, 2) := by decide +kernel
theorem dX12_count_77 : decode cX12_count 77 = .ok (.iaload, 1) := by decide +kernel
theorem dX12_count_78 : decode cX12_count 78 = .ok (.ireturn, 1) := by decide +kernel
theorem dX12_count_79 : decode cX12_count 79 = .ok (.aload_n 0, 1) := by decide +kernel
theorem dX12_count_80 : decode cX12_count 80 = .ok (.getfield 13, 3) := by decide +kernel
theorem dX12_count_83 : decode cX12_count 83 = .ok (.iconst 4, 1) := by decide +kernel
theorem dX12_count_84 : decode cX12_count 84 = .ok (.iaload, 1) := by decide +kernel
theorem dX12_count_85 : decode cX12_count 85 = .ok (.ireturn, 1) := by decide +kernel
theorem dX12_count_86 : decode cX12_count 86 = .ok (.aload_n 0, 1) := by decide +kernel
theorem dX12_count_87 : decode cX12_count 87 = .ok (.getfield 13, 3) := by decide +kernel
theorem dX12_count_90 : decode cX12_count 90 = .ok (.bipush 62, 2) := by decide +kernel
theorem dX12_count_92 : decode cX12_count 92 = .ok (.iaload, 1) := by decide +kernel
theorem dX12_count_93 : decode cX12_count 93 = .ok (.ireturn, 1) := by decide +kernel
theorem dX12_count_94 : decode cX12_count 94 = .ok (.aload_n 0, 1) := by decide +kernel
theorem dX12_count_95 : decode cX12_count 95 = .ok (.getfield 271, 3) := by decide +kernel
theorem dX12_count_98 : decode cX12_count 98 = .ok (.ireturn, 1) := by decide +kernel
theorem dX12_count_99 : decode cX12_count 99 = .ok (.aload_n 0, 1) := by decide +kernel
theorem dX12_count_100 : decode cX12_count 100 = .ok (.getfield 265, 3) := by decide +kernel
theorem dX12_count_103 : decode cX12_count 103 = .ok (.ireturn, 1) := by decide +kernel
theorem dX12_count_104 : decode cX12_count 104 = .ok (.aload_n 0, 1) := by decide +kernel
theorem dX12_count_105 : decode cX12_count 105 = .ok (.getfield 13, 3) := by decide +kernel
theorem dX12_count_108 : decode cX12_count 108 = .ok (.bipush 61, 2) := by decide +kernel
theorem dX12_count_110 : decode cX12_count 110 = .ok (.iaload, 1) := by decide +kernel
theorem dX12_count_111 : decode cX12_count 111 = .ok (.ireturn, 1) := by decide +kernel
theorem dX12_count_112 : decode cX12_count 112 = .ok (.aload_n 0, 1) := by decide +kernel
theorem dX12_count_113 : decode cX12_count 113 = .ok (.getfield 13, 3) := by decide +kernel
theorem dX12_count_116 : decode cX12_count 116 = .ok (.bipush 63, 2) := by decide +kernel
theorem dX12_count_118 : decode cX12_count 118 = .ok (.iaload, 1) := by decide +kernel
theorem dX12_count_119 : decode cX12_count 119 = .ok (.ireturn, 1) := by decide +kernel
theorem dX12_count_120 : decode cX12_count 120 = .ok (.aload_n 0, 1) := by decide +kernel
theorem dX12_count_121 : decode cX12_count 121 = .ok (.getfield 92, 3) := by decide +kernel
theorem dX12_count_124 : decode cX12_count 124 = .ok (.ireturn, 1) := by decide +kernel
theorem dX12_count_125 : decode cX12_count 125 = .ok (.aload_n 0, 1) := by decide +kernel
theorem dX12_count_126 : decode cX12_count 126 = .ok (.getfield 13, 3) := by decide +kernel
theorem dX12_count_129 : decode cX12_count 129 = .ok (.iconst 0, 1) := by decide +kernel
theorem dX12_count_130 : decode cX12_count 130 = .ok (.iaload, 1) := by decide +kernel
theorem dX12_count_131 : decode cX12_count 131 = .ok (.ireturn, 1) := by decide +kernel
theorem dX12_count_132 : decode cX12_count 132 = .ok (.iconst (-1), 1) := by decide +kernel
theorem dX12_count_133 : decode cX12_count 133 = .ok (.ireturn, 1) := by decide +kernel
def wX12_count (f : Nat) (Φ : Int → aj_M → Prop) (q0 : List Nat) (v1 : Int) (m : aj_M) : Prop := ∀ m1, m1 = aj_u m q0 0 0 → wX12_laysNet f (fun m2 => rI v1 ∧ (v1 < 0 ∨ 9 < v1 → Φ (-1) m2) ∧ (v1 = 0 → Φ (m2 (1 :: q0) (5 : Int).toNat) m2) ∧ (v1 = 1 → Φ (m2 (1 :: q0) (6 : Int).toNat) m2) ∧ (v1 = 2 → Φ (m2 (1 :: q0) (4 : Int).toNat) m2) ∧ (v1 = 3 → Φ (m2 (1 :: q0) (62 : Int).toNat) m2) ∧ (v1 = 4 → Φ (m2 q0 23) m2) ∧ (v1 = 5 → Φ (m2 q0 22) m2) ∧ (v1 = 6 → Φ (m2 (1 :: q0) (61 : Int).toNat) m2) ∧ (v1 = 7 → Φ (m2 (1 :: q0) (63 : Int).toNat) m2) ∧ (v1 = 8 → Φ (m2 q0 5) m2) ∧ (v1 = 9 → Φ (m2 (1 :: q0) (0 : Int).toNat) m2)) q0 m1
set_option maxHeartbeats 4000000 in
set_option maxRecDepth 100000 in
theorem sX12_count {n f : Nat} {Φ : Int → aj_M → Prop} {q0 : List Nat} {v1 : Int} {m : aj_M} (hq0 : (.inl (12, q0) : aj_R) ∈ aj_pls) (h : wX12_count f Φ q0 v1 m) : aj_Ct (n + 6) yX12_count cX12_count 2 (some .int) [vO 12 q0, vI v1] m (fun r m => ∃ z, r = some (vI z) ∧ Φ z m) := by
  refine aj_met (lv := [some (vO 12 q0), some (vI v1)]) (by decide +kernel) rfl (Nat.le_of_ble_eq_true rfl) (fun X C K => ?_)
  unfold wX12_count at h
  refine aj_aload_n C dX12_count_0 rfl ?_
  refine aj_iconst C dX12_count_1 ?_
  refine aj_putI C fpX12_1 hq0 rfl dX12_count_2 ?_
  refine aj_nm (fun m1 e1 => ?_)
  have h := h m1 e1
  refine aj_aload_n C dX12_count_5 rfl ?_
  refine aj_callV (rest := []) C mvX12_336 (sX12_laysNet hq0 h) hq0 (aj_np 0 (by decide +kernel) rfl) (Nat.le_of_ble_eq_true rfl) rfl dX12_count_6 (fun r m2 h => ?_)
  obtain ⟨rfl, h⟩ := h
  refine aj_iload_n C dX12_count_9 rfl ?_
  obtain ⟨r0, hd, hc0, hc1, hc2, hc3, hc4, hc5, hc6, hc7, hc8, hc9⟩ := h
  rcases (by omega : (v1 < 0 ∨ 9 < v1) ∨ v1 = 0 ∨ v1 = 1 ∨ v1 = 2 ∨ v1 = 3 ∨ v1 = 4 ∨ v1 = 5 ∨ v1 = 6 ∨ v1 = 7 ∨ v1 = 8 ∨ v1 = 9) with e | e | e | e | e | e | e | e | e | e | e
  · have h := hd e
    refine aj_tout (tgt := 132) C dX12_count_10 r0 e (by decide) ?_
    refine aj_iconst C dX12_count_132 ?_
    exact aj_iret C K dX12_count_133 ⟨_, rfl, h⟩
  · have h := hc0 e
    refine aj_tin (tgt := 64) (off := 54) C dX12_count_10 r0 (by omega) (by omega) (by rw [e]; rfl) (by decide) ?_
    refine aj_aload_n C dX12_count_64 rfl ?_
    refine aj_getA (x := 0) (y := 3315) C flX12_13 hq0 rfl dX12_count_65 ?_
    refine aj_iconst C dX12_count_68 ?_
    refine aj_iald C (aj_ca (e := 0) (n := 3315) (j := 1) hq0 (by decide) rfl) (by decide) (by decide) dX12_count_69 rfl ?_
    exact aj_iret C K dX12_count_70 ⟨_, rfl, h⟩
  · have h := hc1 e
    refine aj_tin (tgt := 71) (off := 61) C dX12_count_10 r0 (by omega) (by omega) (by rw [e]; rfl) (by decide) ?_
    refine aj_aload_n C dX12_count_71 rfl ?_
    refine aj_getA (x := 0) (y := 3315) C flX12_13 hq0 rfl dX12_count_72 ?_
    refine aj_bipush C dX12_count_75 (by decide) ?_
    refine aj_iald C (aj_ca (e := 0) (n := 3315) (j := 1) hq0 (by decide) rfl) (by decide) (by decide) dX12_count_77 rfl ?_
    exact aj_iret C K dX12_count_78 ⟨_, rfl, h⟩
  · have h := hc2 e
    refine aj_tin (tgt := 79) (off := 69) C dX12_count_10 r0 (by omega) (by omega) (by rw [e]; rfl) (by decide) ?_
    refine aj_aload_n C dX12_count_79 rfl ?_
    refine aj_getA (x := 0) (y := 3315) C flX12_13 hq0 rfl dX12_count_80 ?_
    refine aj_iconst C dX12_count_83 ?_
    refine aj_iald C (aj_ca (e := 0) (n := 3315) (j := 1) hq0 (by decide) rfl) (by decide) (by decide) dX12_count_84 rfl ?_
    exact aj_iret C K dX12_count_85 ⟨_, rfl, h⟩
  · have h := hc3 e
    refine aj_tin (tgt := 86) (off := 76) C dX12_count_10 r0 (by omega) (by omega) (by rw [e]; rfl) (by decide) ?_
    refine aj_aload_n C dX12_count_86 rfl ?_
    refine aj_getA (x := 0) (y := 3315) C flX12_13 hq0 rfl dX12_count_87 ?_
    refine aj_bipush C dX12_count_90 (by decide) ?_
    refine aj_iald C (aj_ca (e := 0) (n := 3315) (j := 1) hq0 (by decide) rfl) (by decide) (by decide) dX12_count_92 rfl ?_
    exact aj_iret C K dX12_count_93 ⟨_, rfl, h⟩
  · have h := hc4 e
    refine aj_tin (tgt := 94) (off := 84) C dX12_count_10 r0 (by omega) (by omega) (by rw [e]; rfl) (by decide) ?_
    refine aj_aload_n C dX12_count_94 rfl ?_
    refine aj_getI C flX12_271 hq0 (by decide) dX12_count_95 rfl ?_
    exact aj_iret C K dX12_count_98 ⟨_, rfl, h⟩
  · have h := hc5 e
    refine aj_tin (tgt := 99) (off := 89) C dX12_count_10 r0 (by omega) (by omega) (by rw [e]; rfl) (by decide) ?_
    refine aj_aload_n C dX12_count_99 rfl ?_
    refine aj_getI C flX12_265 hq0 (by decide) dX12_count_100 rfl ?_
    exact aj_iret C K dX12_count_103 ⟨_, rfl, h⟩
  · have h := hc6 e
    refine aj_tin (tgt := 104) (off := 94) C dX12_count_10 r0 (by omega) (by omega) (by rw [e]; rfl) (by decide) ?_
    refine aj_aload_n C dX12_count_104 rfl ?_
    refine aj_getA (x := 0) (y := 3315) C flX12_13 hq0 rfl dX12_count_105 ?_
    refine aj_bipush C dX12_count_108 (by decide) ?_
    refine aj_iald C (aj_ca (e := 0) (n := 3315) (j := 1) hq0 (by decide) rfl) (by decide) (by decide) dX12_count_110 rfl ?_
    exact aj_iret C K dX12_count_111 ⟨_, rfl, h⟩
  · have h := hc7 e
    refine aj_tin (tgt := 112) (off := 102) C dX12_count_10 r0 (by omega) (by omega) (by rw [e]; rfl) (by decide) ?_
    refine aj_aload_n C dX12_count_112 rfl ?_
    refine aj_getA (x := 0) (y := 3315) C flX12_13 hq0 rfl dX12_count_113 ?_
    refine aj_bipush C dX12_count_116 (by decide) ?_
    refine aj_iald C (aj_ca (e := 0) (n := 3315) (j := 1) hq0 (by decide) rfl) (by decide) (by decide) dX12_count_118 rfl ?_
    exact aj_iret C K dX12_count_119 ⟨_, rfl, h⟩
  · have h := hc8 e
    refine aj_tin (tgt := 120) (off := 110) C dX12_count_10 r0 (by omega) (by omega) (by rw [e]; rfl) (by decide) ?_
    refine aj_aload_n C dX12_count_120 rfl ?_
    refine aj_getI C flX12_92 hq0 (by decide) dX12_count_121 rfl ?_
    exact aj_iret C K dX12_count_124 ⟨_, rfl, h⟩
  · have h := hc9 e
    refine aj_tin (tgt := 125) (off := 115) C dX12_count_10 r0 (by omega) (by omega) (by rw [e]; rfl) (by decide) ?_
    refine aj_aload_n C dX12_count_125 rfl ?_
    refine aj_getA (x := 0) (y := 3315) C flX12_13 hq0 rfl dX12_count_126 ?_
    refine aj_iconst C dX12_count_129 ?_
    refine aj_iald C (aj_ca (e := 0) (n := 3315) (j := 1) hq0 (by decide) rfl) (by decide) (by decide) dX12_count_130 rfl ?_
    exact aj_iret C K dX12_count_131 ⟨_, rfl, h⟩
