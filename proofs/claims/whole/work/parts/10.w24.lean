theorem dX12_isRing_0 : decode cX12_isRing 0 = .ok (.aload_n 0, 1) := by decide +kernel
theorem dX12_isRing_1 : decode cX12_isRing 1 = .ok (.getfield 60, 3) := by decide +kernel
theorem dX12_isRing_4 : decode cX12_isRing 4 = .ok (.iload_n 1, 1) := by decide +kernel
theorem dX12_isRing_5 : decode cX12_isRing 5 = .ok (.iconst 1, 1) := by decide +kernel
theorem dX12_isRing_6 : decode cX12_isRing 6 = .ok (.isub, 1) := by decide +kernel
theorem dX12_isRing_7 : decode cX12_isRing 7 = .ok (.iaload, 1) := by decide +kernel
theorem dX12_isRing_8 : decode cX12_isRing 8 = .ok (.istore_n 3, 1) := by decide +kernel
theorem dX12_isRing_9 : decode cX12_isRing 9 = .ok (.iload_n 1, 1) := by decide +kernel
theorem dX12_isRing_10 : decode cX12_isRing 10 = .ok (.iload_n 2, 1) := by decide +kernel
theorem dX12_isRing_11 : decode cX12_isRing 11 = .ok (.if_icmp .ne 53, 3) := by decide +kernel
theorem dX12_isRing_14 : decode cX12_isRing 14 = .ok (.aload_n 0, 1) := by decide +kernel
theorem dX12_isRing_15 : decode cX12_isRing 15 = .ok (.getfield 45, 3) := by decide +kernel
theorem dX12_isRing_18 : decode cX12_isRing 18 = .ok (.bipush 60, 2) := by decide +kernel
theorem dX12_isRing_20 : decode cX12_isRing 20 = .ok (.iload_n 3, 1) := by decide +kernel
theorem dX12_isRing_21 : decode cX12_isRing 21 = .ok (.imul, 1) := by decide +kernel
theorem dX12_isRing_22 : decode cX12_isRing 22 = .ok (.aload_n 0, 1) := by decide +kernel
theorem dX12_isRing_23 : decode cX12_isRing 23 = .ok (.getfield 60, 3) := by decide +kernel
theorem dX12_isRing_26 : decode cX12_isRing 26 = .ok (.iconst 0, 1) := by decide +kernel
theorem dX12_isRing_27 : decode cX12_isRing 27 = .ok (.iaload, 1) := by decide +kernel
theorem dX12_isRing_28 : decode cX12_isRing 28 = .ok (.iadd, 1) := by decide +kernel
theorem dX12_isRing_29 : decode cX12_isRing 29 = .ok (.iaload, 1) := by decide +kernel
theorem dX12_isRing_30 : decode cX12_isRing 30 = .ok (.iload_n 2, 1) := by decide +kernel
theorem dX12_isRing_31 : decode cX12_isRing 31 = .ok (.iconst 2, 1) := by decide +kernel
theorem dX12_isRing_32 : decode cX12_isRing 32 = .ok (.if_icmp .ne 7, 3) := by decide +kernel
theorem dX12_isRing_35 : decode cX12_isRing 35 = .ok (.iconst 1, 1) := by decide +kernel
theorem dX12_isRing_36 : decode cX12_isRing 36 = .ok (.goto 4, 3) := by decide +kernel
theorem dX12_isRing_39 : decode cX12_isRing 39 = .ok (.iconst 0, 1) := by decide +kernel
theorem dX12_isRing_40 : decode cX12_isRing 40 = .ok (.if_icmp .le 22, 3) := by decide +kernel
theorem dX12_isRing_43 : decode cX12_isRing 43 = .ok (.iload_n 2, 1) := by decide +kernel
theorem dX12_isRing_44 : decode cX12_isRing 44 = .ok (.iconst 3, 1) := by decide +kernel
theorem dX12_isRing_45 : decode cX12_isRing 45 = .ok (.if_icmp .lt 13, 3) := by decide +kernel
theorem dX12_isRing_48 : decode cX12_isRing 48 = .ok (.aload_n 0, 1) := by decide +kernel
theorem dX12_isRing_49 : decode cX12_isRing 49 = .ok (.getfield 60, 3) := by decide +kernel
theorem dX12_isRing_52 : decode cX12_isRing 52 = .ok (.iconst 1, 1) := by decide +kernel
theorem dX12_isRing_53 : decode cX12_isRing 53 = .ok (.iaload, 1) := by decide +kernel
theorem dX12_isRing_54 : decode cX12_isRing 54 = .ok (.iload_n 3, 1) := by decide +kernel
theorem dX12_isRing_55 : decode cX12_isRing 55 = .ok (.if_icmp .ge 7, 3) := by decide +kernel
theorem dX12_isRing_58 : decode cX12_isRing 58 = .ok (.iconst 1, 1) := by decide +kernel
theorem dX12_isRing_59 : decode cX12_isRing 59 = .ok (.goto 4, 3) := by decide +kernel
theorem dX12_isRing_62 : decode cX12_isRing 62 = .ok (.iconst 0, 1) := by decide +kernel
theorem dX12_isRing_63 : decode cX12_isRing 63 = .ok (.ireturn, 1) := by decide +kernel
theorem dX12_isRing_64 : decode cX12_isRing 64 = .ok (.aload_n 0, 1) := by decide +kernel
theorem dX12_isRing_65 : decode cX12_isRing 65 = .ok (.getfield 60, 3) := by decide +kernel
theorem dX12_isRing_68 : decode cX12_isRing 68 = .ok (.iconst 0, 1) := by decide +kernel
theorem dX12_isRing_69 : decode cX12_isRing 69 = .ok (.iaload, 1) := by decide +kernel
theorem dX12_isRing_70 : decode cX12_isRing 70 = .ok (.iconst 1, 1) := by decide +kernel
theorem dX12_isRing_71 : decode cX12_isRing 71 = .ok (.iadd, 1) := by decide +kernel
theorem dX12_isRing_72 : decode cX12_isRing 72 = .ok (.istore 4, 2) := by decide +kernel
theorem dX12_isRing_74 : decode cX12_isRing 74 = .ok (.iload 4, 2) := by decide +kernel
theorem dX12_isRing_76 : decode cX12_isRing 76 = .ok (.aload_n 0, 1) := by decide +kernel
theorem dX12_isRing_77 : decode cX12_isRing 77 = .ok (.getfield 271, 3) := by decide +kernel
theorem dX12_isRing_80 : decode cX12_isRing 80 = .ok (.if_icmp .ge 58, 3) := by decide +kernel
theorem dX12_isRing_83 : decode cX12_isRing 83 = .ok (.aload_n 0, 1) := by decide +kernel
theorem dX12_isRing_84 : decode cX12_isRing 84 = .ok (.getfield 45, 3) := by decide +kernel
theorem dX12_isRing_87 : decode cX12_isRing 87 = .ok (.bipush 60, 2) := by decide +kernel
theorem dX12_isRing_89 : decode cX12_isRing 89 = .ok (.iload_n 3, 1) := by decide +kernel
theorem dX12_isRing_90 : decode cX12_isRing 90 = .ok (.imul, 1) := by decide +kernel
theorem dX12_isRing_91 : decode cX12_isRing 91 = .ok (.iload 4, 2) := by decide +kernel
theorem dX12_isRing_93 : decode cX12_isRing 93 = .ok (.iadd, 1) := by decide +kernel
theorem dX12_isRing_94 : decode cX12_isRing 94 = .ok (.iaload, 1) := by decide +kernel
theorem dX12_isRing_95 : decode cX12_isRing 95 = .ok (.ifCond .eq 37, 3) := by decide +kernel
theorem dX12_isRing_98 : decode cX12_isRing 98 = .ok (.aload_n 0, 1) := by decide +kernel
theorem dX12_isRing_99 : decode cX12_isRing 99 = .ok (.iload 4, 2) := by decide +kernel
theorem dX12_isRing_101 : decode cX12_isRing 101 = .ok (.iload_n 1, 1) := by decide +kernel
theorem dX12_isRing_102 : decode cX12_isRing 102 = .ok (.invokevirtual 371, 3) := by decide +kernel
theorem dX12_isRing_105 : decode cX12_isRing 105 = .ok (.ifCond .eq 6, 3) := by decide +kernel
theorem dX12_isRing_108 : decode cX12_isRing 108 = .ok (.goto 24, 3) := by decide +kernel
theorem dX12_isRing_111 : decode cX12_isRing 111 = .ok (.aload_n 0, 1) := by decide +kernel
theorem dX12_isRing_112 : decode cX12_isRing 112 = .ok (.getfield 60, 3) := by decide +kernel
theorem dX12_isRing_115 : decode cX12_isRing 115 = .ok (.iload_n 1, 1) := by decide +kernel
theorem dX12_isRing_116 : decode cX12_isRing 116 = .ok (.iload 4, 2) := by decide +kernel
theorem dX12_isRing_118 : decode cX12_isRing 118 = .ok (.iastore, 1) := by decide +kernel
theorem dX12_isRing_119 : decode cX12_isRing 119 = .ok (.aload_n 0, 1) := by decide +kernel
theorem dX12_isRing_120 : decode cX12_isRing 120 = .ok (.iload_n 1, 1) := by decide +kernel
theorem dX12_isRing_121 : decode cX12_isRing 121 = .ok (.iconst 1, 1) := by decide +kernel
theorem dX12_isRing_122 : decode cX12_isRing 122 = .ok (.iadd, 1) := by decide +kernel
theorem dX12_isRing_123 : decode cX12_isRing 123 = .ok (.iload_n 2, 1) := by decide +kernel
theorem dX12_isRing_124 : decode cX12_isRing 124 = .ok (.invokevirtual 374, 3) := by decide +kernel
theorem dX12_isRing_127 : decode cX12_isRing 127 = .ok (.ifCond .eq 5, 3) := by decide +kernel
theorem dX12_isRing_130 : decode cX12_isRing 130 = .ok (.iconst 1, 1) := by decide +kernel
theorem dX12_isRing_131 : decode cX12_isRing 131 = .ok (.ireturn, 1) := by decide +kernel
theorem dX12_isRing_132 : decode cX12_isRing 132 = .ok (.iinc 4 1, 3) := by decide +kernel
theorem dX12_isRing_135 : decode cX12_isRing 135 = .ok (.goto (-61), 3) := by decide +kernel
theorem dX12_isRing_138 : decode cX12_isRing 138 = .ok (.iconst 0, 1) := by decide +kernel
theorem dX12_isRing_139 : decode cX12_isRing 139 = .ok (.ireturn, 1) := by decide +kernel
def hX12_isRing_74 (f : Nat) (Φ : Int → aj_M → Prop) (R : Nat → (Int → aj_M → Prop) → List Nat → Int → Int → aj_M → Prop) : Nat → List Nat → Int → Int → Int → Int → aj_M → Prop
  | 0, _, _, _, _, _, _ => False
  | k + 1, q0, v1, v2, v3, v4, m => rI v4 ∧ rI (m q0 23) ∧ ((m q0 23) ≤ v4 → Φ 0 m) ∧ (¬ ((m q0 23) ≤ v4) → (0 ≤ ((60 * v3) + v4) ∧ ((60 * v3) + v4) < 3600) ∧ rI (m (21 :: q0) ((60 * v3) + v4).toNat) ∧ ((m (21 :: q0) ((60 * v3) + v4).toNat) = 0 → hX12_isRing_74 f Φ R k q0 v1 v2 v3 (v4 + 1) m) ∧ (¬ ((m (21 :: q0) ((60 * v3) + v4).toNat) = 0) → wX12_isGone f (fun z1 m1 => rI z1 ∧ (z1 = 0 → (0 ≤ v1 ∧ v1 < 60) ∧ ∀ m2, m2 = aj_u m1 (30 :: q0) v1.toNat v4 → R 0 (fun z2 m3 => rI z2 ∧ (z2 = 0 → hX12_isRing_74 f Φ R k q0 v1 v2 v3 (v4 + 1) m3) ∧ (¬ (z2 = 0) → Φ 1 m3)) q0 (v1 + 1) v2 m2) ∧ (¬ (z1 = 0) → hX12_isRing_74 f Φ R k q0 v1 v2 v3 (v4 + 1) m1)) q0 v4 v1 m))
set_option maxHeartbeats 4000000 in
set_option maxRecDepth 100000 in
theorem tX12_isRing_74 {X : aj_T} {n f : Nat} {Φ : Int → aj_M → Prop} (C : aj_Cx X cX12_isRing RX12 5 (n + 2)) (K : aj_Rt X (some .boolean) (fun r m => ∃ z, r = some (vI z) ∧ Φ z m)) {R : Nat → (Int → aj_M → Prop) → List Nat → Int → Int → aj_M → Prop} (HR0 : ∀ (Φ : Int → aj_M → Prop) (q0 : List Nat) (v1 : Int) (v2 : Int) (m : aj_M) (hq0 : (.inl (12, q0) : aj_R) ∈ aj_pls), R 0 Φ q0 v1 v2 m → aj_Ct (n + 1) yX12_isRing cX12_isRing 5 (some .boolean) [vO 12 q0, vI v1, vI v2] m (fun r m => ∃ z, r = some (vI z) ∧ Φ z m)) : ∀ (k : Nat) (q0 : List Nat) (v1 : Int) (v2 : Int) (v3 : Int) (v4 : Int) (m : aj_M) (hq0 : (.inl (12, q0) : aj_R) ∈ aj_pls), hX12_isRing_74 f Φ R k q0 v1 v2 v3 v4 m → aj_J X 74 [some (vO 12 q0), some (vI v1), some (vI v2), some (vI v3), some (vI v4)] [] m := by
  intro k
  induction k with
  | zero =>
    intro q0 v1 v2 v3 v4 m _ h
    exact h.elim
  | succ k ih =>
    intro q0 v1 v2 v3 v4 m hq0 h
    unfold hX12_isRing_74 at h
    refine aj_iload C dX12_isRing_74 rfl ?_
    refine aj_aload_n C dX12_isRing_76 rfl ?_
    refine aj_getI C flX12_271 hq0 (by decide) dX12_isRing_77 rfl ?_
    obtain ⟨r0, r1, h1, h2⟩ := h
    refine aj_icmp_ge (tgt := 138) C dX12_isRing_80 (by decide) r0 r1 (fun e => ?_) (fun e => ?_)
    · have h := h1 e
      refine aj_iconst C dX12_isRing_138 ?_
      exact aj_zret C K (Or.inl rfl) dX12_isRing_139 ⟨_, rfl, h⟩
    · have h := h2 e
      refine aj_aload_n C dX12_isRing_83 rfl ?_
      refine aj_getA (x := 0) (y := 3600) C flX12_45 hq0 rfl dX12_isRing_84 ?_
      refine aj_bipush C dX12_isRing_87 (by decide) ?_
      refine aj_iload_n C dX12_isRing_89 rfl ?_
      refine aj_imul C dX12_isRing_90 ?_
      refine aj_iload C dX12_isRing_91 rfl ?_
      refine aj_iadd C dX12_isRing_93 ?_
      obtain ⟨r0, h⟩ := h
      refine aj_iald C (aj_ca (e := 0) (n := 3600) (j := 21) hq0 (by decide) rfl) (by decide) r0 dX12_isRing_94 rfl ?_
      obtain ⟨r0, h1, h2⟩ := h
      refine aj_if_eq (tgt := 132) C dX12_isRing_95 (by decide) r0 (fun e => ?_) (fun e => ?_)
      · have h := h1 e
        refine aj_iinc (lv' := [some (vO 12 q0), some (vI v1), some (vI v2), some (vI v3), some (vI (v4 + 1))]) C dX12_isRing_132 rfl (by decide) rfl ?_
        refine aj_goto (tgt := 74) C dX12_isRing_135 (by decide) ?_
        exact ih q0 v1 v2 v3 (v4 + 1) _ hq0 h
      · have h := h2 e
        refine aj_aload_n C dX12_isRing_98 rfl ?_
        refine aj_iload C dX12_isRing_99 rfl ?_
        refine aj_iload_n C dX12_isRing_101 rfl ?_
        refine aj_callV (rest := []) C mvX12_371 (sX12_isGone hq0 h) hq0 (aj_np 2 (by decide +kernel) rfl) (Nat.le_of_ble_eq_true rfl) rfl dX12_isRing_102 (fun r m1 h => ?_)
        obtain ⟨z1, rfl, h⟩ := h
        obtain ⟨r0, h1, h2⟩ := h
        refine aj_if_eq (tgt := 111) C dX12_isRing_105 (by decide) r0 (fun e => ?_) (fun e => ?_)
        · have h := h1 e
          refine aj_aload_n C dX12_isRing_111 rfl ?_
          refine aj_getA (x := 0) (y := 60) C flX12_60 hq0 rfl dX12_isRing_112 ?_
          refine aj_iload_n C dX12_isRing_115 rfl ?_
          refine aj_iload C dX12_isRing_116 rfl ?_
          obtain ⟨r0, h⟩ := h
          refine aj_iast C (aj_ca (e := 0) (n := 60) (j := 30) hq0 (by decide) rfl) (by decide) r0 dX12_isRing_118 ?_
          refine aj_nm (fun m2 e1 => ?_)
          have h := h m2 e1
          refine aj_aload_n C dX12_isRing_119 rfl ?_
          refine aj_iload_n C dX12_isRing_120 rfl ?_
          refine aj_iconst C dX12_isRing_121 ?_
          refine aj_iadd C dX12_isRing_122 ?_
          refine aj_iload_n C dX12_isRing_123 rfl ?_
          refine aj_callV (rest := []) C mvX12_374 (HR0 _ q0 (v1 + 1) v2 _ hq0 h) hq0 (aj_np 2 (by decide +kernel) rfl) (Nat.le_of_ble_eq_true rfl) rfl dX12_isRing_124 (fun r m3 h => ?_)
          obtain ⟨z2, rfl, h⟩ := h
          obtain ⟨r0, h1, h2⟩ := h
          refine aj_if_eq (tgt := 132) C dX12_isRing_127 (by decide) r0 (fun e => ?_) (fun e => ?_)
          · have h := h1 e
            refine aj_iinc (lv' := [some (vO 12 q0), some (vI v1), some (vI v2), some (vI v3), some (vI (v4 + 1))]) C dX12_isRing_132 rfl (by decide) rfl ?_
            refine aj_goto (tgt := 74) C dX12_isRing_135 (by decide) ?_
            exact ih q0 v1 v2 v3 (v4 + 1) _ hq0 h
          · have h := h2 e
            refine aj_iconst C dX12_isRing_130 ?_
            exact aj_zret C K (Or.inr rfl) dX12_isRing_131 ⟨_, rfl, h⟩
        · have h := h2 e
          refine aj_goto (tgt := 132) C dX12_isRing_108 (by decide) ?_
          refine aj_iinc (lv' := [some (vO 12 q0), some (vI v1), some (vI v2), some (vI v3), some (vI (v4 + 1))]) C dX12_isRing_132 rfl (by decide) rfl ?_
          refine aj_goto (tgt := 74) C dX12_isRing_135 (by decide) ?_
          exact ih q0 v1 v2 v3 (v4 + 1) _ hq0 h
def hX12_isRing_40 (f : Nat) (Φ : Int → aj_M → Prop) (R : Nat → (Int → aj_M → Prop) → List Nat → Int → Int → aj_M → Prop) (q0 : List Nat) (v2 : Int) (v3 : Int) (vs0 : Int) (vs1 : Int) (m : aj_M) : Prop := rI vs0 ∧ rI vs1 ∧ (vs0 ≤ vs1 → Φ 0 m) ∧ (¬ (vs0 ≤ vs1) → rI v2 ∧ (v2 < 3 → Φ 1 m) ∧ (¬ (v2 < 3) → rI (m (30 :: q0) (1 : Int).toNat) ∧ rI v3 ∧ (v3 ≤ (m (30 :: q0) (1 : Int).toNat) → Φ 0 m) ∧ (¬ (v3 ≤ (m (30 :: q0) (1 : Int).toNat)) → Φ 1 m)))
set_option maxHeartbeats 4000000 in
set_option maxRecDepth 100000 in
theorem tX12_isRing_40 {X : aj_T} {n f : Nat} {Φ : Int → aj_M → Prop} (C : aj_Cx X cX12_isRing RX12 5 (n + 2)) (K : aj_Rt X (some .boolean) (fun r m => ∃ z, r = some (vI z) ∧ Φ z m)) {R : Nat → (Int → aj_M → Prop) → List Nat → Int → Int → aj_M → Prop} (HR0 : ∀ (Φ : Int → aj_M → Prop) (q0 : List Nat) (v1 : Int) (v2 : Int) (m : aj_M) (hq0 : (.inl (12, q0) : aj_R) ∈ aj_pls), R 0 Φ q0 v1 v2 m → aj_Ct (n + 1) yX12_isRing cX12_isRing 5 (some .boolean) [vO 12 q0, vI v1, vI v2] m (fun r m => ∃ z, r = some (vI z) ∧ Φ z m)) (q0 : List Nat) (v2 : Int) (v3 : Int) (vs0 : Int) (vs1 : Int) (m : aj_M) (hq0 : (.inl (12, q0) : aj_R) ∈ aj_pls) (h : hX12_isRing_40 f Φ R q0 v2 v3 vs0 vs1 m) : aj_J X 40 [some (vO 12 q0), none, some (vI v2), some (vI v3), none] [vI vs1, vI vs0] m := by
  unfold hX12_isRing_40 at h
  obtain ⟨r0, r1, h1, h2⟩ := h
  refine aj_icmp_le (tgt := 62) C dX12_isRing_40 (by decide) r0 r1 (fun e => ?_) (fun e => ?_)
  · have h := h1 e
    refine aj_iconst C dX12_isRing_62 ?_
    exact aj_zret C K (Or.inl rfl) dX12_isRing_63 ⟨_, rfl, h⟩
  · have h := h2 e
    refine aj_iload_n C dX12_isRing_43 rfl ?_
    refine aj_iconst C dX12_isRing_44 ?_
    obtain ⟨r0, h1, h2⟩ := h
    refine aj_icmp_lt (tgt := 58) C dX12_isRing_45 (by decide) r0 (by decide) (fun e => ?_) (fun e => ?_)
    · have h := h1 e
      refine aj_iconst C dX12_isRing_58 ?_
      refine aj_goto (tgt := 63) C dX12_isRing_59 (by decide) ?_
      exact aj_zret C K (Or.inr rfl) dX12_isRing_63 ⟨_, rfl, h⟩
    · have h := h2 e
      refine aj_aload_n C dX12_isRing_48 rfl ?_
      refine aj_getA (x := 0) (y := 60) C flX12_60 hq0 rfl dX12_isRing_49 ?_
      refine aj_iconst C dX12_isRing_52 ?_
      refine aj_iald C (aj_ca (e := 0) (n := 60) (j := 30) hq0 (by decide) rfl) (by decide) (by decide) dX12_isRing_53 rfl ?_
      refine aj_iload_n C dX12_isRing_54 rfl ?_
      obtain ⟨r0, r1, h1, h2⟩ := h
      refine aj_icmp_ge (tgt := 62) C dX12_isRing_55 (by decide) r0 r1 (fun e => ?_) (fun e => ?_)
      · have h := h1 e
        refine aj_iconst C dX12_isRing_62 ?_
        exact aj_zret C K (Or.inl rfl) dX12_isRing_63 ⟨_, rfl, h⟩
      · have h := h2 e
        refine aj_iconst C dX12_isRing_58 ?_
        refine aj_goto (tgt := 63) C dX12_isRing_59 (by decide) ?_
        exact aj_zret C K (Or.inr rfl) dX12_isRing_63 ⟨_, rfl, h⟩
def wbX12_isRing (f : Nat) (Φ : Int → aj_M → Prop) (R : Nat → (Int → aj_M → Prop) → List Nat → Int → Int → aj_M → Prop) (q0 : List Nat) (v1 : Int) (v2 : Int) (m : aj_M) : Prop := (0 ≤ (v1 - 1) ∧ (v1 - 1) < 60) ∧ rI v1 ∧ rI v2 ∧ (¬ v1 = v2 → hX12_isRing_74 f Φ R f q0 v1 v2 (m (30 :: q0) (v1 - 1).toNat) ((m (30 :: q0) (0 : Int).toNat) + 1) m) ∧ (v1 = v2 → (0 ≤ ((60 * (m (30 :: q0) (v1 - 1).toNat)) + (m (30 :: q0) (0 : Int).toNat)) ∧ ((60 * (m (30 :: q0) (v1 - 1).toNat)) + (m (30 :: q0) (0 : Int).toNat)) < 3600) ∧ rI v2 ∧ (¬ v2 = 2 → hX12_isRing_40 f Φ R q0 v2 (m (30 :: q0) (v1 - 1).toNat) (m (21 :: q0) ((60 * (m (30 :: q0) (v1 - 1).toNat)) + (m (30 :: q0) (0 : Int).toNat)).toNat) 0 m) ∧ (v2 = 2 → hX12_isRing_40 f Φ R q0 v2 (m (30 :: q0) (v1 - 1).toNat) (m (21 :: q0) ((60 * (m (30 :: q0) (v1 - 1).toNat)) + (m (30 :: q0) (0 : Int).toNat)).toNat) 1 m))
set_option maxHeartbeats 4000000 in
set_option maxRecDepth 100000 in
theorem sbX12_isRing {n f : Nat} {Φ : Int → aj_M → Prop} {R : Nat → (Int → aj_M → Prop) → List Nat → Int → Int → aj_M → Prop} (HR0 : ∀ (Φ : Int → aj_M → Prop) (q0 : List Nat) (v1 : Int) (v2 : Int) (m : aj_M) (hq0 : (.inl (12, q0) : aj_R) ∈ aj_pls), R 0 Φ q0 v1 v2 m → aj_Ct (n + 1) yX12_isRing cX12_isRing 5 (some .boolean) [vO 12 q0, vI v1, vI v2] m (fun r m => ∃ z, r = some (vI z) ∧ Φ z m)) {q0 : List Nat} {v1 : Int} {v2 : Int} {m : aj_M} (hq0 : (.inl (12, q0) : aj_R) ∈ aj_pls) (h : wbX12_isRing f Φ R q0 v1 v2 m) : aj_Ct (n + 2) yX12_isRing cX12_isRing 5 (some .boolean) [vO 12 q0, vI v1, vI v2] m (fun r m => ∃ z, r = some (vI z) ∧ Φ z m) := by
  refine aj_met (lv := [some (vO 12 q0), some (vI v1), some (vI v2), none, none]) (by decide +kernel) rfl (Nat.le_of_ble_eq_true rfl) (fun X C K => ?_)
  unfold wbX12_isRing at h
  refine aj_aload_n C dX12_isRing_0 rfl ?_
  refine aj_getA (x := 0) (y := 60) C flX12_60 hq0 rfl dX12_isRing_1 ?_
  refine aj_iload_n C dX12_isRing_4 rfl ?_
  refine aj_iconst C dX12_isRing_5 ?_
  refine aj_isub C dX12_isRing_6 ?_
  obtain ⟨r0, h⟩ := h
  refine aj_iald C (aj_ca (e := 0) (n := 60) (j := 30) hq0 (by decide) rfl) (by decide) r0 dX12_isRing_7 rfl ?_
  refine aj_istore_n (lv' := [some (vO 12 q0), some (vI v1), some (vI v2), some (vI (m (30 :: q0) (v1 - 1).toNat)), none]) C dX12_isRing_8 (by decide) rfl ?_
  refine aj_iload_n C dX12_isRing_9 rfl ?_
  refine aj_iload_n C dX12_isRing_10 rfl ?_
  obtain ⟨r0, r1, h1, h2⟩ := h
  refine aj_icmp_ne (tgt := 64) C dX12_isRing_11 (by decide) r0 r1 (fun e => ?_) (fun e => ?_)
  · have h := h1 e
    refine aj_aload_n C dX12_isRing_64 rfl ?_
    refine aj_getA (x := 0) (y := 60) C flX12_60 hq0 rfl dX12_isRing_65 ?_
    refine aj_iconst C dX12_isRing_68 ?_
    refine aj_iald C (aj_ca (e := 0) (n := 60) (j := 30) hq0 (by decide) rfl) (by decide) (by decide) dX12_isRing_69 rfl ?_
    refine aj_iconst C dX12_isRing_70 ?_
    refine aj_iadd C dX12_isRing_71 ?_
    refine aj_istore (lv' := [some (vO 12 q0), some (vI v1), some (vI v2), some (vI (m (30 :: q0) (v1 - 1).toNat)), some (vI ((m (30 :: q0) (0 : Int).toNat) + 1))]) C dX12_isRing_72 (by decide) rfl ?_
    exact tX12_isRing_74 C K HR0 f q0 v1 v2 (m (30 :: q0) (v1 - 1).toNat) ((m (30 :: q0) (0 : Int).toNat) + 1) _ hq0 h
  · have h := h2 e
    refine aj_aload_n C dX12_isRing_14 rfl ?_
    refine aj_getA (x := 0) (y := 3600) C flX12_45 hq0 rfl dX12_isRing_15 ?_
    refine aj_bipush C dX12_isRing_18 (by decide) ?_
    refine aj_iload_n C dX12_isRing_20 rfl ?_
    refine aj_imul C dX12_isRing_21 ?_
    refine aj_aload_n C dX12_isRing_22 rfl ?_
    refine aj_getA (x := 0) (y := 60) C flX12_60 hq0 rfl dX12_isRing_23 ?_
    refine aj_iconst C dX12_isRing_26 ?_
    refine aj_iald C (aj_ca (e := 0) (n := 60) (j := 30) hq0 (by decide) rfl) (by decide) (by decide) dX12_isRing_27 rfl ?_
    refine aj_iadd C dX12_isRing_28 ?_
    obtain ⟨r0, h⟩ := h
    refine aj_iald C (aj_ca (e := 0) (n := 3600) (j := 21) hq0 (by decide) rfl) (by decide) r0 dX12_isRing_29 rfl ?_
    refine aj_iload_n C dX12_isRing_30 rfl ?_
    refine aj_iconst C dX12_isRing_31 ?_
    obtain ⟨r0, h1, h2⟩ := h
    refine aj_icmp_ne (tgt := 39) C dX12_isRing_32 (by decide) r0 (by decide) (fun e => ?_) (fun e => ?_)
    · have h := h1 e
      refine aj_iconst C dX12_isRing_39 ?_
      refine aj_wk (lv' := [some (vO 12 q0), none, some (vI v2), some (vI (m (30 :: q0) (v1 - 1).toNat)), none]) (⟨rfl, ⟨rfl, ⟨rfl, trivial⟩⟩⟩) ?_
      exact tX12_isRing_40 C K HR0 q0 v2 (m (30 :: q0) (v1 - 1).toNat) (m (21 :: q0) ((60 * (m (30 :: q0) (v1 - 1).toNat)) + (m (30 :: q0) (0 : Int).toNat)).toNat) 0 _ hq0 h
    · have h := h2 e
      refine aj_iconst C dX12_isRing_35 ?_
      refine aj_goto (tgt := 40) C dX12_isRing_36 (by decide) ?_
      refine aj_wk (lv' := [some (vO 12 q0), none, some (vI v2), some (vI (m (30 :: q0) (v1 - 1).toNat)), none]) (⟨rfl, ⟨rfl, ⟨rfl, trivial⟩⟩⟩) ?_
      exact tX12_isRing_40 C K HR0 q0 v2 (m (30 :: q0) (v1 - 1).toNat) (m (21 :: q0) ((60 * (m (30 :: q0) (v1 - 1).toNat)) + (m (30 :: q0) (0 : Int).toNat)).toNat) 1 _ hq0 h
def rG2 (f : Nat) : Nat → Nat → (Int → aj_M → Prop) → List Nat → Int → Int → aj_M → Prop
  | 0, _, _, _, _, _, _ => False
  | d + 1, t, Φ, q0, v1, v2, m => if t = 0 then wbX12_isRing f Φ (rG2 f d) q0 v1 v2 m else False
set_option maxRecDepth 100000 in
theorem gG2 (f : Nat) : ∀ d : Nat, (∀ n : Nat, ∀ (Φ : Int → aj_M → Prop) (q0 : List Nat) (v1 : Int) (v2 : Int) (m : aj_M) (hq0 : (.inl (12, q0) : aj_R) ∈ aj_pls), rG2 f d 0 Φ q0 v1 v2 m → aj_Ct (n + d + 1) yX12_isRing cX12_isRing 5 (some .boolean) [vO 12 q0, vI v1, vI v2] m (fun r m => ∃ z, r = some (vI z) ∧ Φ z m)) := by
  intro d
  induction d with
  | zero =>
    exact (fun n Φ q0 v1 v2 m hq0 h => h.elim)
  | succ d ih =>
    · intro n Φ q0 v1 v2 m hq0 h
      rw [show n + (d + 1) + 1 = (n + d) + 2 by omega]
      exact sbX12_isRing (n := n + d) (f := f) (R := rG2 f d) (ih n) hq0 h
def wX12_isRing (f : Nat) (Φ : Int → aj_M → Prop) (q0 : List Nat) (v1 : Int) (v2 : Int) (m : aj_M) : Prop := rG2 f 64 0 Φ q0 v1 v2 m
theorem sX12_isRing {n f : Nat} {Φ : Int → aj_M → Prop} {q0 : List Nat} {v1 : Int} {v2 : Int} {m : aj_M} (hq0 : (.inl (12, q0) : aj_R) ∈ aj_pls) (h : wX12_isRing f Φ q0 v1 v2 m) : aj_Ct (n + 65) yX12_isRing cX12_isRing 5 (some .boolean) [vO 12 q0, vI v1, vI v2] m (fun r m => ∃ z, r = some (vI z) ∧ Φ z m) := by
  rw [show n + 65 = n + 64 + 1 by omega]
  exact (gG2 f 64) n Φ q0 v1 v2 m hq0 h
theorem dX12_laysRing_0 : decode cX12_laysRing 0 = .ok (.aload_n 0, 1) := by decide +kernel
theorem dX12_laysRing_1 : decode cX12_laysRing 1 = .ok (.invokevirtual 336, 3) := by decide +kernel
theorem dX12_laysRing_4 : decode cX12_laysRing 4 = .ok (.aload_n 0, 1) := by decide +kernel
theorem dX12_laysRing_5 : decode cX12_laysRing 5 = .ok (.invokevirtual 342, 3) := by decide +kernel
theorem dX12_laysRing_8 : decode cX12_laysRing 8 = .ok (.istore_n 1, 1) := by decide +kernel
theorem dX12_laysRing_9 : decode cX12_laysRing 9 = .ok (.iload_n 1, 1) := by decide +kernel
theorem dX12_laysRing_10 : decode cX12_laysRing 10 = .ok (.ldc_w 281, 3) := by decide +kernel
theorem dX12_laysRing_13 : decode cX12_laysRing 13 = .ok (.if_icmp .ne 5, 3) := by decide +kernel
theorem dX12_laysRing_16 : decode cX12_laysRing 16 = .ok (.iconst (-1), 1) := by decide +kernel
theorem dX12_laysRing_17 : decode cX12_laysRing 17 = .ok (.ireturn, 1) := by decide +kernel
theorem dX12_laysRing_18 : decode cX12_laysRing 18 = .ok (.iconst 0, 1) := by decide +kernel
theorem dX12_laysRing_19 : decode cX12_laysRing 19 = .ok (.istore_n 2, 1) := by decide +kernel
theorem dX12_laysRing_20 : decode cX12_laysRing 20 = .ok (.iload_n 2, 1) := by decide +kernel
theorem dX12_laysRing_21 : decode cX12_laysRing 21 = .ok (.aload_n 0, 1) := by decide +kernel
theorem dX12_laysRing_22 : decode cX12_laysRing 22 = .ok (.getfield 271, 3) := by decide +kernel
theorem dX12_laysRing_25 : decode cX12_laysRing 25 = .ok (.if_icmp .ge 27, 3) := by decide +kernel
theorem dX12_laysRing_28 : decode cX12_laysRing 28 = .ok (.aload_n 0, 1) := by decide +kernel
theorem dX12_laysRing_29 : decode cX12_laysRing 29 = .ok (.getfield 60, 3) := by decide +kernel
theorem dX12_laysRing_32 : decode cX12_laysRing 32 = .ok (.iconst 0, 1) := by decide +kernel
theorem dX12_laysRing_33 : decode cX12_laysRing 33 = .ok (.iload_n 2, 1) := by decide +kernel
theorem dX12_laysRing_34 : decode cX12_laysRing 34 = .ok (.iastore, 1) := by decide +kernel
theorem dX12_laysRing_35 : decode cX12_laysRing 35 = .ok (.aload_n 0, 1) := by decide +kernel
theorem dX12_laysRing_36 : decode cX12_laysRing 36 = .ok (.iconst 1, 1) := by decide +kernel
theorem dX12_laysRing_37 : decode cX12_laysRing 37 = .ok (.iload_n 1, 1) := by decide +kernel
theorem dX12_laysRing_38 : decode cX12_laysRing 38 = .ok (.invokevirtual 374, 3) := by decide +kernel
theorem dX12_laysRing_41 : decode cX12_laysRing 41 = .ok (.ifCond .eq 5, 3) := by decide +kernel
theorem dX12_laysRing_44 : decode cX12_laysRing 44 = .ok (.iload_n 1, 1) := by decide +kernel
theorem dX12_laysRing_45 : decode cX12_laysRing 45 = .ok (.ireturn, 1) := by decide +kernel
theorem dX12_laysRing_46 : decode cX12_laysRing 46 = .ok (.iinc 2 1, 3) := by decide +kernel
theorem dX12_laysRing_49 : decode cX12_laysRing 49 = .ok (.goto (-29), 3) := by decide +kernel
theorem dX12_laysRing_52 : decode cX12_laysRing 52 = .ok (.iconst (-1), 1) := by decide +kernel
theorem dX12_laysRing_53 : decode cX12_laysRing 53 = .ok (.ireturn, 1) := by decide +kernel
def hX12_laysRing_20 (f : Nat) (Φ : Int → aj_M → Prop) : Nat → List Nat → Int → Int → aj_M → Prop
  | 0, _, _, _, _ => False
  | k + 1, q0, v1, v2, m => rI v2 ∧ rI (m q0 23) ∧ ((m q0 23) ≤ v2 → Φ (-1) m) ∧ (¬ ((m q0 23) ≤ v2) → ∀ m1, m1 = aj_u m (30 :: q0) (0 : Int).toNat v2 → wX12_isRing f (fun z1 m2 => rI z1 ∧ (z1 = 0 → hX12_laysRing_20 f Φ k q0 v1 (v2 + 1) m2) ∧ (¬ (z1 = 0) → Φ v1 m2)) q0 1 v1 m1)
set_option maxHeartbeats 4000000 in
set_option maxRecDepth 100000 in
theorem tX12_laysRing_20 {X : aj_T} {n f : Nat} {Φ : Int → aj_M → Prop} (C : aj_Cx X cX12_laysRing RX12 3 (n + 66)) (K : aj_Rt X (some .int) (fun r m => ∃ z, r = some (vI z) ∧ Φ z m)) : ∀ (k : Nat) (q0 : List Nat) (v1 : Int) (v2 : Int) (m : aj_M) (hq0 : (.inl (12, q0) : aj_R) ∈ aj_pls), hX12_laysRing_20 f Φ k q0 v1 v2 m → aj_J X 20 [some (vO 12 q0), some (vI v1), some (vI v2)] [] m := by
  intro k
  induction k with
  | zero =>
    intro q0 v1 v2 m _ h
    exact h.elim
  | succ k ih =>
    intro q0 v1 v2 m hq0 h
    unfold hX12_laysRing_20 at h
    refine aj_iload_n C dX12_laysRing_20 rfl ?_
    refine aj_aload_n C dX12_laysRing_21 rfl ?_
    refine aj_getI C flX12_271 hq0 (by decide) dX12_laysRing_22 rfl ?_
    obtain ⟨r0, r1, h1, h2⟩ := h
    refine aj_icmp_ge (tgt := 52) C dX12_laysRing_25 (by decide) r0 r1 (fun e => ?_) (fun e => ?_)
    · have h := h1 e
      refine aj_iconst C dX12_laysRing_52 ?_
      exact aj_iret C K dX12_laysRing_53 ⟨_, rfl, h⟩
    · have h := h2 e
      refine aj_aload_n C dX12_laysRing_28 rfl ?_
      refine aj_getA (x := 0) (y := 60) C flX12_60 hq0 rfl dX12_laysRing_29 ?_
      refine aj_iconst C dX12_laysRing_32 ?_
      refine aj_iload_n C dX12_laysRing_33 rfl ?_
      refine aj_iast C (aj_ca (e := 0) (n := 60) (j := 30) hq0 (by decide) rfl) (by decide) (by decide) dX12_laysRing_34 ?_
      refine aj_nm (fun m1 e1 => ?_)
      have h := h m1 e1
      refine aj_aload_n C dX12_laysRing_35 rfl ?_
      refine aj_iconst C dX12_laysRing_36 ?_
      refine aj_iload_n C dX12_laysRing_37 rfl ?_
      refine aj_callV (rest := []) C mvX12_374 (sX12_isRing hq0 h) hq0 (aj_np 2 (by decide +kernel) rfl) (Nat.le_of_ble_eq_true rfl) rfl dX12_laysRing_38 (fun r m2 h => ?_)
      obtain ⟨z1, rfl, h⟩ := h
      obtain ⟨r0, h1, h2⟩ := h
      refine aj_if_eq (tgt := 46) C dX12_laysRing_41 (by decide) r0 (fun e => ?_) (fun e => ?_)
      · have h := h1 e
        refine aj_iinc (lv' := [some (vO 12 q0), some (vI v1), some (vI (v2 + 1))]) C dX12_laysRing_46 rfl (by decide) rfl ?_
        refine aj_goto (tgt := 20) C dX12_laysRing_49 (by decide) ?_
        exact ih q0 v1 (v2 + 1) _ hq0 h
      · have h := h2 e
        refine aj_iload_n C dX12_laysRing_44 rfl ?_
        exact aj_iret C K dX12_laysRing_45 ⟨_, rfl, h⟩
def wX12_laysRing (f : Nat) (Φ : Int → aj_M → Prop) (q0 : List Nat) (m : aj_M) : Prop := wX12_laysNet f (fun m1 => wX12_girthNow f (fun z2 m2 => rI z2 ∧ (¬ z2 = 268435456 → hX12_laysRing_20 f Φ f q0 z2 0 m2) ∧ (z2 = 268435456 → Φ (-1) m2)) q0 m1) q0 m
set_option maxHeartbeats 4000000 in
set_option maxRecDepth 100000 in
theorem sX12_laysRing {n f : Nat} {Φ : Int → aj_M → Prop} {q0 : List Nat} {m : aj_M} (hq0 : (.inl (12, q0) : aj_R) ∈ aj_pls) (h : wX12_laysRing f Φ q0 m) : aj_Ct (n + 66) yX12_laysRing cX12_laysRing 3 (some .int) [vO 12 q0] m (fun r m => ∃ z, r = some (vI z) ∧ Φ z m) := by
  refine aj_met (lv := [some (vO 12 q0), none, none]) (by decide +kernel) rfl (Nat.le_of_ble_eq_true rfl) (fun X C K => ?_)
  unfold wX12_laysRing at h
  refine aj_aload_n C dX12_laysRing_0 rfl ?_
  refine aj_callV (rest := []) C mvX12_336 (sX12_laysNet hq0 h) hq0 (aj_np 0 (by decide +kernel) rfl) (Nat.le_of_ble_eq_true rfl) rfl dX12_laysRing_1 (fun r m1 h => ?_)
  obtain ⟨rfl, h⟩ := h
  refine aj_aload_n C dX12_laysRing_4 rfl ?_
  refine aj_callV (rest := []) C mvX12_342 (sX12_girthNow hq0 h) hq0 (aj_np 0 (by decide +kernel) rfl) (Nat.le_of_ble_eq_true rfl) rfl dX12_laysRing_5 (fun r m2 h => ?_)
  obtain ⟨z2, rfl, h⟩ := h
  refine aj_istore_n (lv' := [some (vO 12 q0), some (vI z2), none]) C dX12_laysRing_8 (by decide) rfl ?_
  refine aj_iload_n C dX12_laysRing_9 rfl ?_
  refine aj_ldcw (z := 268435456) C (wd1900) rfl dX12_laysRing_10 ?_
  obtain ⟨r0, h1, h2⟩ := h
  refine aj_icmp_ne (tgt := 18) C dX12_laysRing_13 (by decide) r0 (by decide) (fun e => ?_) (fun e => ?_)
  · have h := h1 e
    refine aj_iconst C dX12_laysRing_18 ?_
    refine aj_istore_n (lv' := [some (vO 12 q0), some (vI z2), some (vI 0)]) C dX12_laysRing_19 (by decide) rfl ?_
    exact tX12_laysRing_20 C K f q0 z2 0 _ hq0 h
  · have h := h2 e
    refine aj_iconst C dX12_laysRing_16 ?_
    exact aj_iret C K dX12_laysRing_17 ⟨_, rfl, h⟩
theorem dX12_ring_0 : decode cX12_ring 0 = .ok (.aload_n 0, 1) := by decide +kernel
theorem dX12_ring_1 : decode cX12_ring 1 = .ok (.iconst 0, 1) := by decide +kernel
theorem dX12_ring_2 : decode cX12_ring 2 = .ok (.putfield 1, 3) := by decide +kernel
theorem dX12_ring_5 : decode cX12_ring 5 = .ok (.iload_n 1, 1) := by decide +kernel
theorem dX12_ring_6 : decode cX12_ring 6 = .ok (.ifCond .ge 6, 3) := by decide +kernel
theorem dX12_ring_9 : decode cX12_ring 9 = .ok (.bipush (-3), 2) := by decide +kernel
theorem dX12_ring_11 : decode cX12_ring 11 = .ok (.ireturn, 1) := by decide +kernel
theorem dX12_ring_12 : decode cX12_ring 12 = .ok (.iload_n 1, 1) := by decide +kernel
theorem dX12_ring_13 : decode cX12_ring 13 = .ok (.aload_n 0, 1) := by decide +kernel
theorem dX12_ring_14 : decode cX12_ring 14 = .ok (.invokevirtual 377, 3) := by decide +kernel
theorem dX12_ring_17 : decode cX12_ring 17 = .ok (.if_icmp .ge 12, 3) := by decide +kernel
theorem dX12_ring_20 : decode cX12_ring 20 = .ok (.aload_n 0, 1) := by decide +kernel
theorem dX12_ring_21 : decode cX12_ring 21 = .ok (.getfield 60, 3) := by decide +kernel
theorem dX12_ring_24 : decode cX12_ring 24 = .ok (.iload_n 1, 1) := by decide +kernel
theorem dX12_ring_25 : decode cX12_ring 25 = .ok (.iaload, 1) := by decide +kernel
theorem dX12_ring_26 : decode cX12_ring 26 = .ok (.goto 4, 3) := by decide +kernel
theorem dX12_ring_29 : decode cX12_ring 29 = .ok (.iconst (-1), 1) := by decide +kernel
theorem dX12_ring_30 : decode cX12_ring 30 = .ok (.ireturn, 1) := by decide +kernel
def wX12_ring (f : Nat) (Φ : Int → aj_M → Prop) (q0 : List Nat) (v1 : Int) (m : aj_M) : Prop := ∀ m1, m1 = aj_u m q0 0 0 → rI v1 ∧ (0 ≤ v1 → wX12_laysRing f (fun z1 m2 => rI v1 ∧ rI z1 ∧ (z1 ≤ v1 → Φ (-1) m2) ∧ (¬ (z1 ≤ v1) → (0 ≤ v1 ∧ v1 < 60) ∧ Φ (m2 (30 :: q0) v1.toNat) m2)) q0 m1) ∧ (¬ (0 ≤ v1) → Φ (-3) m1)
set_option maxHeartbeats 4000000 in
set_option maxRecDepth 100000 in
theorem sX12_ring {n f : Nat} {Φ : Int → aj_M → Prop} {q0 : List Nat} {v1 : Int} {m : aj_M} (hq0 : (.inl (12, q0) : aj_R) ∈ aj_pls) (h : wX12_ring f Φ q0 v1 m) : aj_Ct (n + 67) yX12_ring cX12_ring 2 (some .int) [vO 12 q0, vI v1] m (fun r m => ∃ z, r = some (vI z) ∧ Φ z m) := by
  refine aj_met (lv := [some (vO 12 q0), some (vI v1)]) (by decide +kernel) rfl (Nat.le_of_ble_eq_true rfl) (fun X C K => ?_)
  unfold wX12_ring at h
  refine aj_aload_n C dX12_ring_0 rfl ?_
  refine aj_iconst C dX12_ring_1 ?_
  refine aj_putI C fpX12_1 hq0 rfl dX12_ring_2 ?_
  refine aj_nm (fun m1 e1 => ?_)
  have h := h m1 e1
  refine aj_iload_n C dX12_ring_5 rfl ?_
  obtain ⟨r0, h1, h2⟩ := h
  refine aj_if_ge (tgt := 12) C dX12_ring_6 (by decide) r0 (fun e => ?_) (fun e => ?_)
  · have h := h1 e
    refine aj_iload_n C dX12_ring_12 rfl ?_
    refine aj_aload_n C dX12_ring_13 rfl ?_
    refine aj_callV (rest := [vI v1]) C mvX12_377 (sX12_laysRing hq0 h) hq0 (aj_np 0 (by decide +kernel) rfl) (Nat.le_of_ble_eq_true rfl) rfl dX12_ring_14 (fun r m2 h => ?_)
    obtain ⟨z1, rfl, h⟩ := h
    obtain ⟨r0, r1, h1, h2⟩ := h
    refine aj_icmp_ge (tgt := 29) C dX12_ring_17 (by decide) r0 r1 (fun e => ?_) (fun e => ?_)
    · have h := h1 e
      refine aj_iconst C dX12_ring_29 ?_
      exact aj_iret C K dX12_ring_30 ⟨_, rfl, h⟩
    · have h := h2 e
      refine aj_aload_n C dX12_ring_20 rfl ?_
      refine aj_getA (x := 0) (y := 60) C flX12_60 hq0 rfl dX12_ring_21 ?_
      refine aj_iload_n C dX12_ring_24 rfl ?_
      obtain ⟨r0, h⟩ := h
      refine aj_iald C (aj_ca (e := 0) (n := 60) (j := 30) hq0 (by decide) rfl) (by decide) r0 dX12_ring_25 rfl ?_
      refine aj_goto (tgt := 30) C dX12_ring_26 (by decide) ?_
      exact aj_iret C K dX12_ring_30 ⟨_, rfl, h⟩
  · have h := h2 e
    refine aj_bipush C dX12_ring_9 (by decide) ?_
    exact aj_iret C K dX12_ring_11 ⟨_, rfl, h⟩
theorem dX12_ringsFrom_0 : decode cX12_ringsFrom 0 = .ok (.aload_n 0, 1) := by decide +kernel
theorem dX12_ringsFrom_1 : decode cX12_ringsFrom 1 = .ok (.getfield 60, 3) := by decide +kernel
theorem dX12_ringsFrom_4 : decode cX12_ringsFrom 4 = .ok (.iload_n 1, 1) := by decide +kernel
theorem dX12_ringsFrom_5 : decode cX12_ringsFrom 5 = .ok (.iconst 1, 1) := by decide +kernel
theorem dX12_ringsFrom_6 : decode cX12_ringsFrom 6 = .ok (.isub, 1) := by decide +kernel
theorem dX12_ringsFrom_7 : decode cX12_ringsFrom 7 = .ok (.iaload, 1) := by decide +kernel
theorem dX12_ringsFrom_8 : decode cX12_ringsFrom 8 = .ok (.istore 4, 2) := by decide +kernel
theorem dX12_ringsFrom_10 : decode cX12_ringsFrom 10 = .ok (.iload_n 1, 1) := by decide +kernel
theorem dX12_ringsFrom_11 : decode cX12_ringsFrom 11 = .ok (.iload_n 2, 1) := by decide +kernel
theorem dX12_ringsFrom_12 : decode cX12_ringsFrom 12 = .ok (.if_icmp .ne 38, 3) := by decide +kernel
theorem dX12_ringsFrom_15 : decode cX12_ringsFrom 15 = .ok (.aload_n 0, 1) := by decide +kernel
theorem dX12_ringsFrom_16 : decode cX12_ringsFrom 16 = .ok (.getfield 60, 3) := by decide +kernel
theorem dX12_ringsFrom_19 : decode cX12_ringsFrom 19 = .ok (.iconst 1, 1) := by decide +kernel
theorem dX12_ringsFrom_20 : decode cX12_ringsFrom 20 = .ok (.iaload, 1) := by decide +kernel
theorem dX12_ringsFrom_21 : decode cX12_ringsFrom 21 = .ok (.iload 4, 2) := by decide +kernel
theorem dX12_ringsFrom_23 : decode cX12_ringsFrom 23 = .ok (.if_icmp .ge 25, 3) := by decide +kernel
theorem dX12_ringsFrom_26 : decode cX12_ringsFrom 26 = .ok (.iload_n 3, 1) := by decide +kernel
theorem dX12_ringsFrom_27 : decode cX12_ringsFrom 27 = .ok (.aload_n 0, 1) := by decide +kernel
theorem dX12_ringsFrom_28 : decode cX12_ringsFrom 28 = .ok (.getfield 45, 3) := by decide +kernel
theorem dX12_ringsFrom_31 : decode cX12_ringsFrom 31 = .ok (.bipush 60, 2) := by decide +kernel
theorem dX12_ringsFrom_33 : decode cX12_ringsFrom 33 = .ok (.iload 4, 2) := by decide +kernel
theorem dX12_ringsFrom_35 : decode cX12_ringsFrom 35 = .ok (.imul, 1) := by decide +kernel
theorem dX12_ringsFrom_36 : decode cX12_ringsFrom 36 = .ok (.aload_n 0, 1) := by decide +kernel
theorem dX12_ringsFrom_37 : decode cX12_ringsFrom 37 = .ok (.getfield 60, 3) := by decide +kernel
theorem dX12_ringsFrom_40 : decode cX12_ringsFrom 40 = .ok (.iconst 0, 1) := by decide +kernel
theorem dX12_ringsFrom_41 : decode cX12_ringsFrom 41 = .ok (.iaload, 1) := by decide +kernel
theorem dX12_ringsFrom_42 : decode cX12_ringsFrom 42 = .ok (.iadd, 1) := by decide +kernel
theorem dX12_ringsFrom_43 : decode cX12_ringsFrom 43 = .ok (.iaload, 1) := by decide +kernel
theorem dX12_ringsFrom_44 : decode cX12_ringsFrom 44 = .ok (.imul, 1) := by decide +kernel
theorem dX12_ringsFrom_45 : decode cX12_ringsFrom 45 = .ok (.goto 4, 3) := by decide +kernel
theorem dX12_ringsFrom_48 : decode cX12_ringsFrom 48 = .ok (.iconst 0, 1) := by decide +kernel
theorem dX12_ringsFrom_49 : decode cX12_ringsFrom 49 = .ok (.ireturn, 1) := by decide +kernel
theorem dX12_ringsFrom_50 : decode cX12_ringsFrom 50 = .ok (.iconst 0, 1) := by decide +kernel
theorem dX12_ringsFrom_51 : decode cX12_ringsFrom 51 = .ok (.istore 5, 2) := by decide +kernel
theorem dX12_ringsFrom_53 : decode cX12_ringsFrom 53 = .ok (.aload_n 0, 1) := by decide +kernel
theorem dX12_ringsFrom_54 : decode cX12_ringsFrom 54 = .ok (.getfield 60, 3) := by decide +kernel
theorem dX12_ringsFrom_57 : decode cX12_ringsFrom 57 = .ok (.iconst 0, 1) := by decide +kernel
theorem dX12_ringsFrom_58 : decode cX12_ringsFrom 58 = .ok (.iaload, 1) := by decide +kernel
theorem dX12_ringsFrom_59 : decode cX12_ringsFrom 59 = .ok (.iconst 1, 1) := by decide +kernel
theorem dX12_ringsFrom_60 : decode cX12_ringsFrom 60 = .ok (.iadd, 1) := by decide +kernel
theorem dX12_ringsFrom_61 : decode cX12_ringsFrom 61 = .ok (.istore 6, 2) := by decide +kernel
theorem dX12_ringsFrom_63 : decode cX12_ringsFrom 63 = .ok (.iload 6, 2) := by decide +kernel
theorem dX12_ringsFrom_65 : decode cX12_ringsFrom 65 = .ok (.aload_n 0, 1) := by decide +kernel
theorem dX12_ringsFrom_66 : decode cX12_ringsFrom 66 = .ok (.getfield 271, 3) := by decide +kernel
theorem dX12_ringsFrom_69 : decode cX12_ringsFrom 69 = .ok (.if_icmp .ge 74, 3) := by decide +kernel
theorem dX12_ringsFrom_72 : decode cX12_ringsFrom 72 = .ok (.aload_n 0, 1) := by decide +kernel
theorem dX12_ringsFrom_73 : decode cX12_ringsFrom 73 = .ok (.getfield 45, 3) := by decide +kernel
theorem dX12_ringsFrom_76 : decode cX12_ringsFrom 76 = .ok (.bipush 60, 2) := by decide +kernel
theorem dX12_ringsFrom_78 : decode cX12_ringsFrom 78 = .ok (.iload 4, 2) := by decide +kernel
theorem dX12_ringsFrom_80 : decode cX12_ringsFrom 80 = .ok (.imul, 1) := by decide +kernel
theorem dX12_ringsFrom_81 : decode cX12_ringsFrom 81 = .ok (.iload 6, 2) := by decide +kernel
theorem dX12_ringsFrom_83 : decode cX12_ringsFrom 83 = .ok (.iadd, 1) := by decide +kernel
theorem dX12_ringsFrom_84 : decode cX12_ringsFrom 84 = .ok (.iaload, 1) := by decide +kernel
theorem dX12_ringsFrom_85 : decode cX12_ringsFrom 85 = .ok (.ifCond .eq 52, 3) := by decide +kernel
theorem dX12_ringsFrom_88 : decode cX12_ringsFrom 88 = .ok (.aload_n 0, 1) := by decide +kernel
theorem dX12_ringsFrom_89 : decode cX12_ringsFrom 89 = .ok (.iload 6, 2) := by decide +kernel
theorem dX12_ringsFrom_91 : decode cX12_ringsFrom 91 = .ok (.iload_n 1, 1) := by decide +kernel
theorem dX12_ringsFrom_92 : decode cX12_ringsFrom 92 = .ok (.invokevirtual 371, 3) := by decide +kernel
theorem dX12_ringsFrom_95 : decode cX12_ringsFrom 95 = .ok (.ifCond .eq 6, 3) := by decide +kernel
theorem dX12_ringsFrom_98 : decode cX12_ringsFrom 98 = .ok (.goto 39, 3) := by decide +kernel
theorem dX12_ringsFrom_101 : decode cX12_ringsFrom 101 = .ok (.aload_n 0, 1) := by decide +kernel
theorem dX12_ringsFrom_102 : decode cX12_ringsFrom 102 = .ok (.getfield 60, 3) := by decide +kernel
theorem dX12_ringsFrom_105 : decode cX12_ringsFrom 105 = .ok (.iload_n 1, 1) := by decide +kernel
theorem dX12_ringsFrom_106 : decode cX12_ringsFrom 106 = .ok (.iload 6, 2) := by decide +kernel
theorem dX12_ringsFrom_108 : decode cX12_ringsFrom 108 = .ok (.iastore, 1) := by decide +kernel
theorem dX12_ringsFrom_109 : decode cX12_ringsFrom 109 = .ok (.iload 5, 2) := by decide +kernel
theorem dX12_ringsFrom_111 : decode cX12_ringsFrom 111 = .ok (.aload_n 0, 1) := by decide +kernel
theorem dX12_ringsFrom_112 : decode cX12_ringsFrom 112 = .ok (.iload_n 1, 1) := by decide +kernel
theorem dX12_ringsFrom_113 : decode cX12_ringsFrom 113 = .ok (.iconst 1, 1) := by decide +kernel
theorem dX12_ringsFrom_114 : decode cX12_ringsFrom 114 = .ok (.iadd, 1) := by decide +kernel
theorem dX12_ringsFrom_115 : decode cX12_ringsFrom 115 = .ok (.iload_n 2, 1) := by decide +kernel
theorem dX12_ringsFrom_116 : decode cX12_ringsFrom 116 = .ok (.iload_n 3, 1) := by decide +kernel
theorem dX12_ringsFrom_117 : decode cX12_ringsFrom 117 = .ok (.aload_n 0, 1) := by decide +kernel
theorem dX12_ringsFrom_118 : decode cX12_ringsFrom 118 = .ok (.getfield 45, 3) := by decide +kernel
theorem dX12_ringsFrom_121 : decode cX12_ringsFrom 121 = .ok (.bipush 60, 2) := by decide +kernel
theorem dX12_ringsFrom_123 : decode cX12_ringsFrom 123 = .ok (.iload 4, 2) := by decide +kernel
theorem dX12_ringsFrom_125 : decode cX12_ringsFrom 125 = .ok (.imul, 1) := by decide +kernel
theorem dX12_ringsFrom_126 : decode cX12_ringsFrom 126 = .ok (.iload 6, 2) := by decide +kernel
theorem dX12_ringsFrom_128 : decode cX12_ringsFrom 128 = .ok (.iadd, 1) := by decide +kernel
theorem dX12_ringsFrom_129 : decode cX12_ringsFrom 129 = .ok (.iaload, 1) := by decide +kernel
theorem dX12_ringsFrom_130 : decode cX12_ringsFrom 130 = .ok (.imul, 1) := by decide +kernel
theorem dX12_ringsFrom_131 : decode cX12_ringsFrom 131 = .ok (.invokevirtual 380, 3) := by decide +kernel
theorem dX12_ringsFrom_134 : decode cX12_ringsFrom 134 = .ok (.iadd, 1) := by decide +kernel
theorem dX12_ringsFrom_135 : decode cX12_ringsFrom 135 = .ok (.istore 5, 2) := by decide +kernel
theorem dX12_ringsFrom_137 : decode cX12_ringsFrom 137 = .ok (.iinc 6 1, 3) := by decide +kernel
theorem dX12_ringsFrom_140 : decode cX12_ringsFrom 140 = .ok (.goto (-77), 3) := by decide +kernel
theorem dX12_ringsFrom_143 : decode cX12_ringsFrom 143 = .ok (.iload 5, 2) := by decide +kernel
theorem dX12_ringsFrom_145 : decode cX12_ringsFrom 145 = .ok (.ireturn, 1) := by decide +kernel
def hX12_ringsFrom_63 (f : Nat) (Φ : Int → aj_M → Prop) (R : Nat → (Int → aj_M → Prop) → List Nat → Int → Int → Int → aj_M → Prop) : Nat → List Nat → Int → Int → Int → Int → Int → Int → aj_M → Prop
  | 0, _, _, _, _, _, _, _, _ => False
  | k + 1, q0, v1, v2, v3, v4, v5, v6, m => rI v6 ∧ rI (m q0 23) ∧ ((m q0 23) ≤ v6 → Φ v5 m) ∧ (¬ ((m q0 23) ≤ v6) → (0 ≤ ((60 * v4) + v6) ∧ ((60 * v4) + v6) < 3600) ∧ rI (m (21 :: q0) ((60 * v4) + v6).toNat) ∧ ((m (21 :: q0) ((60 * v4) + v6).toNat) = 0 → hX12_ringsFrom_63 f Φ R k q0 v1 v2 v3 v4 v5 (v6 + 1) m) ∧ (¬ ((m (21 :: q0) ((60 * v4) + v6).toNat) = 0) → wX12_isGone f (fun z1 m1 => rI z1 ∧ (z1 = 0 → (0 ≤ v1 ∧ v1 < 60) ∧ ∀ m2, m2 = aj_u m1 (30 :: q0) v1.toNat v6 → (0 ≤ ((60 * v4) + v6) ∧ ((60 * v4) + v6) < 3600) ∧ R 0 (fun z2 m3 => hX12_ringsFrom_63 f Φ R k q0 v1 v2 v3 v4 (v5 + z2) (v6 + 1) m3) q0 (v1 + 1) v2 (v3 * (m2 (21 :: q0) ((60 * v4) + v6).toNat)) m2) ∧ (¬ (z1 = 0) → hX12_ringsFrom_63 f Φ R k q0 v1 v2 v3 v4 v5 (v6 + 1) m1)) q0 v6 v1 m))
set_option maxHeartbeats 4000000 in
set_option maxRecDepth 100000 in
theorem tX12_ringsFrom_63 {X : aj_T} {n f : Nat} {Φ : Int → aj_M → Prop} (C : aj_Cx X cX12_ringsFrom RX12 7 (n + 2)) (K : aj_Rt X (some .int) (fun r m => ∃ z, r = some (vI z) ∧ Φ z m)) {R : Nat → (Int → aj_M → Prop) → List Nat → Int → Int → Int → aj_M → Prop} (HR0 : ∀ (Φ : Int → aj_M → Prop) (q0 : List Nat) (v1 : Int) (v2 : Int) (v3 : Int) (m : aj_M) (hq0 : (.inl (12, q0) : aj_R) ∈ aj_pls), R 0 Φ q0 v1 v2 v3 m → aj_Ct (n + 1) yX12_ringsFrom cX12_ringsFrom 7 (some .int) [vO 12 q0, vI v1, vI v2, vI v3] m (fun r m => ∃ z, r = some (vI z) ∧ Φ z m)) : ∀ (k : Nat) (q0 : List Nat) (v1 : Int) (v2 : Int) (v3 : Int) (v4 : Int) (v5 : Int) (v6 : Int) (m : aj_M) (hq0 : (.inl (12, q0) : aj_R) ∈ aj_pls), hX12_ringsFrom_63 f Φ R k q0 v1 v2 v3 v4 v5 v6 m → aj_J X 63 [some (vO 12 q0), some (vI v1), some (vI v2), some (vI v3), some (vI v4), some (vI v5), some (vI v6)] [] m := by
  intro k
  induction k with
  | zero =>
    intro q0 v1 v2 v3 v4 v5 v6 m _ h
    exact h.elim
  | succ k ih =>
    intro q0 v1 v2 v3 v4 v5 v6 m hq0 h
    unfold hX12_ringsFrom_63 at h
    refine aj_iload C dX12_ringsFrom_63 rfl ?_
    refine aj_aload_n C dX12_ringsFrom_65 rfl ?_
    refine aj_getI C flX12_271 hq0 (by decide) dX12_ringsFrom_66 rfl ?_
    obtain ⟨r0, r1, h1, h2⟩ := h
    refine aj_icmp_ge (tgt := 143) C dX12_ringsFrom_69 (by decide) r0 r1 (fun e => ?_) (fun e => ?_)
    · have h := h1 e
      refine aj_iload C dX12_ringsFrom_143 rfl ?_
      exact aj_iret C K dX12_ringsFrom_145 ⟨_, rfl, h⟩
    · have h := h2 e
      refine aj_aload_n C dX12_ringsFrom_72 rfl ?_
      refine aj_getA (x := 0) (y := 3600) C flX12_45 hq0 rfl dX12_ringsFrom_73 ?_
      refine aj_bipush C dX12_ringsFrom_76 (by decide) ?_
      refine aj_iload C dX12_ringsFrom_78 rfl ?_
      refine aj_imul C dX12_ringsFrom_80 ?_
      refine aj_iload C dX12_ringsFrom_81 rfl ?_
      refine aj_iadd C dX12_ringsFrom_83 ?_
      obtain ⟨r0, h⟩ := h
      refine aj_iald C (aj_ca (e := 0) (n := 3600) (j := 21) hq0 (by decide) rfl) (by decide) r0 dX12_ringsFrom_84 rfl ?_
      obtain ⟨r0, h1, h2⟩ := h
      refine aj_if_eq (tgt := 137) C dX12_ringsFrom_85 (by decide) r0 (fun e => ?_) (fun e => ?_)
      · have h := h1 e
        refine aj_iinc (lv' := [some (vO 12 q0), some (vI v1), some (vI v2), some (vI v3), some (vI v4), some (vI v5), some (vI (v6 + 1))]) C dX12_ringsFrom_137 rfl (by decide) rfl ?_
        refine aj_goto (tgt := 63) C dX12_ringsFrom_140 (by decide) ?_
        exact ih q0 v1 v2 v3 v4 v5 (v6 + 1) _ hq0 h
      · have h := h2 e
        refine aj_aload_n C dX12_ringsFrom_88 rfl ?_
        refine aj_iload C dX12_ringsFrom_89 rfl ?_
        refine aj_iload_n C dX12_ringsFrom_91 rfl ?_
        refine aj_callV (rest := []) C mvX12_371 (sX12_isGone hq0 h) hq0 (aj_np 2 (by decide +kernel) rfl) (Nat.le_of_ble_eq_true rfl) rfl dX12_ringsFrom_92 (fun r m1 h => ?_)
        obtain ⟨z1, rfl, h⟩ := h
        obtain ⟨r0, h1, h2⟩ := h
        refine aj_if_eq (tgt := 101) C dX12_ringsFrom_95 (by decide) r0 (fun e => ?_) (fun e => ?_)
        · have h := h1 e
          refine aj_aload_n C dX12_ringsFrom_101 rfl ?_
          refine aj_getA (x := 0) (y := 60) C flX12_60 hq0 rfl dX12_ringsFrom_102 ?_
          refine aj_iload_n C dX12_ringsFrom_105 rfl ?_
          refine aj_iload C dX12_ringsFrom_106 rfl ?_
          obtain ⟨r0, h⟩ := h
          refine aj_iast C (aj_ca (e := 0) (n := 60) (j := 30) hq0 (by decide) rfl) (by decide) r0 dX12_ringsFrom_108 ?_
          refine aj_nm (fun m2 e1 => ?_)
          have h := h m2 e1
          refine aj_iload C dX12_ringsFrom_109 rfl ?_
          refine aj_aload_n C dX12_ringsFrom_111 rfl ?_
          refine aj_iload_n C dX12_ringsFrom_112 rfl ?_
          refine aj_iconst C dX12_ringsFrom_113 ?_
          refine aj_iadd C dX12_ringsFrom_114 ?_
          refine aj_iload_n C dX12_ringsFrom_115 rfl ?_
          refine aj_iload_n C dX12_ringsFrom_116 rfl ?_
          refine aj_aload_n C dX12_ringsFrom_117 rfl ?_
          refine aj_getA (x := 0) (y := 3600) C flX12_45 hq0 rfl dX12_ringsFrom_118 ?_
          refine aj_bipush C dX12_ringsFrom_121 (by decide) ?_
          refine aj_iload C dX12_ringsFrom_123 rfl ?_
          refine aj_imul C dX12_ringsFrom_125 ?_
          refine aj_iload C dX12_ringsFrom_126 rfl ?_
          refine aj_iadd C dX12_ringsFrom_128 ?_
          obtain ⟨r0, h⟩ := h
          refine aj_iald C (aj_ca (e := 0) (n := 3600) (j := 21) hq0 (by decide) rfl) (by decide) r0 dX12_ringsFrom_129 rfl ?_
          refine aj_imul C dX12_ringsFrom_130 ?_
          refine aj_callV (rest := [vI v5]) C mvX12_380 (HR0 _ q0 (v1 + 1) v2 (v3 * (m2 (21 :: q0) ((60 * v4) + v6).toNat)) _ hq0 h) hq0 (aj_np 3 (by decide +kernel) rfl) (Nat.le_of_ble_eq_true rfl) rfl dX12_ringsFrom_131 (fun r m3 h => ?_)
          obtain ⟨z2, rfl, h⟩ := h
          refine aj_iadd C dX12_ringsFrom_134 ?_
          refine aj_istore (lv' := [some (vO 12 q0), some (vI v1), some (vI v2), some (vI v3), some (vI v4), some (vI (v5 + z2)), some (vI v6)]) C dX12_ringsFrom_135 (by decide) rfl ?_
          refine aj_iinc (lv' := [some (vO 12 q0), some (vI v1), some (vI v2), some (vI v3), some (vI v4), some (vI (v5 + z2)), some (vI (v6 + 1))]) C dX12_ringsFrom_137 rfl (by decide) rfl ?_
          refine aj_goto (tgt := 63) C dX12_ringsFrom_140 (by decide) ?_
          exact ih q0 v1 v2 v3 v4 (v5 + z2) (v6 + 1) _ hq0 h
        · have h := h2 e
          refine aj_goto (tgt := 137) C dX12_ringsFrom_98 (by decide) ?_
          refine aj_iinc (lv' := [some (vO 12 q0), some (vI v1), some (vI v2), some (vI v3), some (vI v4), some (vI v5), some (vI (v6 + 1))]) C dX12_ringsFrom_137 rfl (by decide) rfl ?_
          refine aj_goto (tgt := 63) C dX12_ringsFrom_140 (by decide) ?_
          exact ih q0 v1 v2 v3 v4 v5 (v6 + 1) _ hq0 h
def wbX12_ringsFrom (f : Nat) (Φ : Int → aj_M → Prop) (R : Nat → (Int → aj_M → Prop) → List Nat → Int → Int → Int → aj_M → Prop) (q0 : List Nat) (v1 : Int) (v2 : Int) (v3 : Int) (m : aj_M) : Prop := (0 ≤ (v1 - 1) ∧ (v1 - 1) < 60) ∧ rI v1 ∧ rI v2 ∧ (¬ v1 = v2 → hX12_ringsFrom_63 f Φ R f q0 v1 v2 v3 (m (30 :: q0) (v1 - 1).toNat) 0 ((m (30 :: q0) (0 : Int).toNat) + 1) m) ∧ (v1 = v2 → rI (m (30 :: q0) (1 : Int).toNat) ∧ rI (m (30 :: q0) (v1 - 1).toNat) ∧ ((m (30 :: q0) (v1 - 1).toNat) ≤ (m (30 :: q0) (1 : Int).toNat) → Φ 0 m) ∧ (¬ ((m (30 :: q0) (v1 - 1).toNat) ≤ (m (30 :: q0) (1 : Int).toNat)) → (0 ≤ ((60 * (m (30 :: q0) (v1 - 1).toNat)) + (m (30 :: q0) (0 : Int).toNat)) ∧ ((60 * (m (30 :: q0) (v1 - 1).toNat)) + (m (30 :: q0) (0 : Int).toNat)) < 3600) ∧ Φ (v3 * (m (21 :: q0) ((60 * (m (30 :: q0) (v1 - 1).toNat)) + (m (30 :: q0) (0 : Int).toNat)).toNat)) m))
set_option maxHeartbeats 4000000 in
set_option maxRecDepth 100000 in
theorem sbX12_ringsFrom {n f : Nat} {Φ : Int → aj_M → Prop} {R : Nat → (Int → aj_M → Prop) → List Nat → Int → Int → Int → aj_M → Prop} (HR0 : ∀ (Φ : Int → aj_M → Prop) (q0 : List Nat) (v1 : Int) (v2 : Int) (v3 : Int) (m : aj_M) (hq0 : (.inl (12, q0) : aj_R) ∈ aj_pls), R 0 Φ q0 v1 v2 v3 m → aj_Ct (n + 1) yX12_ringsFrom cX12_ringsFrom 7 (some .int) [vO 12 q0, vI v1, vI v2, vI v3] m (fun r m => ∃ z, r = some (vI z) ∧ Φ z m)) {q0 : List Nat} {v1 : Int} {v2 : Int} {v3 : Int} {m : aj_M} (hq0 : (.inl (12, q0) : aj_R) ∈ aj_pls) (h : wbX12_ringsFrom f Φ R q0 v1 v2 v3 m) : aj_Ct (n + 2) yX12_ringsFrom cX12_ringsFrom 7 (some .int) [vO 12 q0, vI v1, vI v2, vI v3] m (fun r m => ∃ z, r = some (vI z) ∧ Φ z m) := by
  refine aj_met (lv := [some (vO 12 q0), some (vI v1), some (vI v2), some (vI v3), none, none, none]) (by decide +kernel) rfl (Nat.le_of_ble_eq_true rfl) (fun X C K => ?_)
  unfold wbX12_ringsFrom at h
  refine aj_aload_n C dX12_ringsFrom_0 rfl ?_
  refine aj_getA (x := 0) (y := 60) C flX12_60 hq0 rfl dX12_ringsFrom_1 ?_
  refine aj_iload_n C dX12_ringsFrom_4 rfl ?_
  refine aj_iconst C dX12_ringsFrom_5 ?_
  refine aj_isub C dX12_ringsFrom_6 ?_
  obtain ⟨r0, h⟩ := h
  refine aj_iald C (aj_ca (e := 0) (n := 60) (j := 30) hq0 (by decide) rfl) (by decide) r0 dX12_ringsFrom_7 rfl ?_
  refine aj_istore (lv' := [some (vO 12 q0), some (vI v1), some (vI v2), some (vI v3), some (vI (m (30 :: q0) (v1 - 1).toNat)), none, none]) C dX12_ringsFrom_8 (by decide) rfl ?_
  refine aj_iload_n C dX12_ringsFrom_10 rfl ?_
  refine aj_iload_n C dX12_ringsFrom_11 rfl ?_
  obtain ⟨r0, r1, h1, h2⟩ := h
  refine aj_icmp_ne (tgt := 50) C dX12_ringsFrom_12 (by decide) r0 r1 (fun e => ?_) (fun e => ?_)
  · have h := h1 e
    refine aj_iconst C dX12_ringsFrom_50 ?_
    refine aj_istore (lv' := [some (vO 12 q0), some (vI v1), some (vI v2), some (vI v3), some (vI (m (30 :: q0) (v1 - 1).toNat)), some (vI 0), none]) C dX12_ringsFrom_51 (by decide) rfl ?_
    refine aj_aload_n C dX12_ringsFrom_53 rfl ?_
    refine aj_getA (x := 0) (y := 60) C flX12_60 hq0 rfl dX12_ringsFrom_54 ?_
    refine aj_iconst C dX12_ringsFrom_57 ?_
    refine aj_iald C (aj_ca (e := 0) (n := 60) (j := 30) hq0 (by decide) rfl) (by decide) (by decide) dX12_ringsFrom_58 rfl ?_
    refine aj_iconst C dX12_ringsFrom_59 ?_
    refine aj_iadd C dX12_ringsFrom_60 ?_
    refine aj_istore (lv' := [some (vO 12 q0), some (vI v1), some (vI v2), some (vI v3), some (vI (m (30 :: q0) (v1 - 1).toNat)), some (vI 0), some (vI ((m (30 :: q0) (0 : Int).toNat) + 1))]) C dX12_ringsFrom_61 (by decide) rfl ?_
    exact tX12_ringsFrom_63 C K HR0 f q0 v1 v2 v3 (m (30 :: q0) (v1 - 1).toNat) 0 ((m (30 :: q0) (0 : Int).toNat) + 1) _ hq0 h
  · have h := h2 e
    refine aj_aload_n C dX12_ringsFrom_15 rfl ?_
    refine aj_getA (x := 0) (y := 60) C flX12_60 hq0 rfl dX12_ringsFrom_16 ?_
    refine aj_iconst C dX12_ringsFrom_19 ?_
    refine aj_iald C (aj_ca (e := 0) (n := 60) (j := 30) hq0 (by decide) rfl) (by decide) (by decide) dX12_ringsFrom_20 rfl ?_
    refine aj_iload C dX12_ringsFrom_21 rfl ?_
    obtain ⟨r0, r1, h1, h2⟩ := h
    refine aj_icmp_ge (tgt := 48) C dX12_ringsFrom_23 (by decide) r0 r1 (fun e => ?_) (fun e => ?_)
    · have h := h1 e
      refine aj_iconst C dX12_ringsFrom_48 ?_
      exact aj_iret C K dX12_ringsFrom_49 ⟨_, rfl, h⟩
    · have h := h2 e
      refine aj_iload_n C dX12_ringsFrom_26 rfl ?_
      refine aj_aload_n C dX12_ringsFrom_27 rfl ?_
      refine aj_getA (x := 0) (y := 3600) C flX12_45 hq0 rfl dX12_ringsFrom_28 ?_
      refine aj_bipush C dX12_ringsFrom_31 (by decide) ?_
      refine aj_iload C dX12_ringsFrom_33 rfl ?_
      refine aj_imul C dX12_ringsFrom_35 ?_
      refine aj_aload_n C dX12_ringsFrom_36 rfl ?_
      refine aj_getA (x := 0) (y := 60) C flX12_60 hq0 rfl dX12_ringsFrom_37 ?_
      refine aj_iconst C dX12_ringsFrom_40 ?_
      refine aj_iald C (aj_ca (e := 0) (n := 60) (j := 30) hq0 (by decide) rfl) (by decide) (by decide) dX12_ringsFrom_41 rfl ?_
      refine aj_iadd C dX12_ringsFrom_42 ?_
      obtain ⟨r0, h⟩ := h
      refine aj_iald C (aj_ca (e := 0) (n := 3600) (j := 21) hq0 (by decide) rfl) (by decide) r0 dX12_ringsFrom_43 rfl ?_
      refine aj_imul C dX12_ringsFrom_44 ?_
      refine aj_goto (tgt := 49) C dX12_ringsFrom_45 (by decide) ?_
      exact aj_iret C K dX12_ringsFrom_49 ⟨_, rfl, h⟩
def rG3 (f : Nat) : Nat → Nat → (Int → aj_M → Prop) → List Nat → Int → Int → Int → aj_M → Prop
  | 0, _, _, _, _, _, _, _ => False
  | d + 1, t, Φ, q0, v1, v2, v3, m => if t = 0 then wbX12_ringsFrom f Φ (rG3 f d) q0 v1 v2 v3 m else False
set_option maxRecDepth 100000 in
theorem gG3 (f : Nat) : ∀ d : Nat, (∀ n : Nat, ∀ (Φ : Int → aj_M → Prop) (q0 : List Nat) (v1 : Int) (v2 : Int) (v3 : Int) (m : aj_M) (hq0 : (.inl (12, q0) : aj_R) ∈ aj_pls), rG3 f d 0 Φ q0 v1 v2 v3 m → aj_Ct (n + d + 1) yX12_ringsFrom cX12_ringsFrom 7 (some .int) [vO 12 q0, vI v1, vI v2, vI v3] m (fun r m => ∃ z, r = some (vI z) ∧ Φ z m)) := by
  intro d
  induction d with
  | zero =>
    exact (fun n Φ q0 v1 v2 v3 m hq0 h => h.elim)
  | succ d ih =>
    · intro n Φ q0 v1 v2 v3 m hq0 h
      rw [show n + (d + 1) + 1 = (n + d) + 2 by omega]
      exact sbX12_ringsFrom (n := n + d) (f := f) (R := rG3 f d) (ih n) hq0 h
def wX12_ringsFrom (f : Nat) (Φ : Int → aj_M → Prop) (q0 : List Nat) (v1 : Int) (v2 : Int) (v3 : Int) (m : aj_M) : Prop := rG3 f 8 0 Φ q0 v1 v2 v3 m
theorem sX12_ringsFrom {n f : Nat} {Φ : Int → aj_M → Prop} {q0 : List Nat} {v1 : Int} {v2 : Int} {v3 : Int} {m : aj_M} (hq0 : (.inl (12, q0) : aj_R) ∈ aj_pls) (h : wX12_ringsFrom f Φ q0 v1 v2 v3 m) : aj_Ct (n + 9) yX12_ringsFrom cX12_ringsFrom 7 (some .int) [vO 12 q0, vI v1, vI v2, vI v3] m (fun r m => ∃ z, r = some (vI z) ∧ Φ z m) := by
  rw [show n + 9 = n + 8 + 1 by omega]
  exact (gG3 f 8) n Φ q0 v1 v2 v3 m hq0 h
theorem dX12_rings_0 : decode cX12_rings 0 = .ok (.aload_n 0, 1) := by decide +kernel
theorem dX12_rings_1 : decode cX12_rings 1 = .ok (.iconst 0, 1) := by decide +kernel
theorem dX12_rings_2 : decode cX12_rings 2 = .ok (.putfield 1, 3) := by decide +kernel
theorem dX12_rings_5 : decode cX12_rings 5 = .ok (.iload_n 1, 1) := by decide +kernel
theorem dX12_rings_6 : decode cX12_rings 6 = .ok (.i2l, 1) := by decide +kernel
theorem dX12_rings_7 : decode cX12_rings 7 = .ok (.lconst 1, 1) := by decide +kernel
theorem dX12_rings_8 : decode cX12_rings 8 = .ok (.ldc2_w 383, 3) := by decide +kernel
theorem dX12_rings_11 : decode cX12_rings 11 = .ok (.invokestatic 154, 3) := by decide +kernel
theorem dX12_rings_14 : decode cX12_rings 14 = .ok (.ifCond .ne 6, 3) := by decide +kernel
theorem dX12_rings_17 : decode cX12_rings 17 = .ok (.bipush (-3), 2) := by decide +kernel
theorem dX12_rings_19 : decode cX12_rings 19 = .ok (.ireturn, 1) := by decide +kernel
theorem dX12_rings_20 : decode cX12_rings 20 = .ok (.aload_n 0, 1) := by decide +kernel
theorem dX12_rings_21 : decode cX12_rings 21 = .ok (.invokevirtual 336, 3) := by decide +kernel
theorem dX12_rings_24 : decode cX12_rings 24 = .ok (.iconst 0, 1) := by decide +kernel
theorem dX12_rings_25 : decode cX12_rings 25 = .ok (.istore_n 2, 1) := by decide +kernel
theorem dX12_rings_26 : decode cX12_rings 26 = .ok (.iconst 0, 1) := by decide +kernel
theorem dX12_rings_27 : decode cX12_rings 27 = .ok (.istore_n 3, 1) := by decide +kernel
theorem dX12_rings_28 : decode cX12_rings 28 = .ok (.iload_n 3, 1) := by decide +kernel
theorem dX12_rings_29 : decode cX12_rings 29 = .ok (.aload_n 0, 1) := by decide +kernel
theorem dX12_rings_30 : decode cX12_rings 30 = .ok (.getfield 271, 3) := by decide +kernel
theorem dX12_rings_33 : decode cX12_rings 33 = .ok (.if_icmp .ge 110, 3) := by decide +kernel
theorem dX12_rings_36 : decode cX12_rings 36 = .ok (.aload_n 0, 1) := by decide +kernel
theorem dX12_rings_37 : decode cX12_rings 37 = .ok (.getfield 60, 3) := by decide +kernel
theorem dX12_rings_40 : decode cX12_rings 40 = .ok (.iconst 0, 1) := by decide +kernel
theorem dX12_rings_41 : decode cX12_rings 41 = .ok (.iload_n 3, 1) := by decide +kernel
theorem dX12_rings_42 : decode cX12_rings 42 = .ok (.iastore, 1) := by decide +kernel
theorem dX12_rings_43 : decode cX12_rings 43 = .ok (.iload_n 1, 1) := by decide +kernel
theorem dX12_rings_44 : decode cX12_rings 44 = .ok (.iconst 1, 1) := by decide +kernel
theorem dX12_rings_45 : decode cX12_rings 45 = .ok (.if_icmp .ne 20, 3) := by decide +kernel
theorem dX12_rings_48 : decode cX12_rings 48 = .ok (.iload_n 2, 1) := by decide +kernel
theorem dX12_rings_49 : decode cX12_rings 49 = .ok (.aload_n 0, 1) := by decide +kernel
theorem dX12_rings_50 : decode cX12_rings 50 = .ok (.getfield 45, 3) := by decide +kernel
theorem dX12_rings_53 : decode cX12_rings 53 = .ok (.bipush 60, 2) := by decide +kernel
theorem dX12_rings_55 : decode cX12_rings 55 = .ok (.iload_n 3, 1) := by decide +kernel
theorem dX12_rings_56 : decode cX12_rings 56 = .ok (.imul, 1) := by decide +kernel
theorem dX12_rings_57 : decode cX12_rings 57 = .ok (.iload_n 3, 1) := by decide +kernel
theorem dX12_rings_58 : decode cX12_rings 58 = .ok (.iadd, 1) := by decide +kernel
theorem dX12_rings_59 : decode cX12_rings 59 = .ok (.iaload, 1) := by decide +kernel
theorem dX12_rings_60 : decode cX12_rings 60 = .ok (.iadd, 1) := by decide +kernel
theorem dX12_rings_61 : decode cX12_rings 61 = .ok (.istore_n 2, 1) := by decide +kernel
theorem dX12_rings_62 : decode cX12_rings 62 = .ok (.goto 18, 3) := by decide +kernel
theorem dX12_rings_65 : decode cX12_rings 65 = .ok (.iload_n 1, 1) := by decide +kernel
theorem dX12_rings_66 : decode cX12_rings 66 = .ok (.iconst 2, 1) := by decide +kernel
theorem dX12_rings_67 : decode cX12_rings 67 = .ok (.if_icmp .le 13, 3) := by decide +kernel
theorem dX12_rings_70 : decode cX12_rings 70 = .ok (.iload_n 2, 1) := by decide +kernel
theorem dX12_rings_71 : decode cX12_rings 71 = .ok (.aload_n 0, 1) := by decide +kernel
theorem dX12_rings_72 : decode cX12_rings 72 = .ok (.iconst 1, 1) := by decide +kernel
theorem dX12_rings_73 : decode cX12_rings 73 = .ok (.iload_n 1, 1) := by decide +kernel
theorem dX12_rings_74 : decode cX12_rings 74 = .ok (.iconst 1, 1) := by decide +kernel
theorem dX12_rings_75 : decode cX12_rings 75 = .ok (.invokevirtual 380, 3) := by decide +kernel
theorem dX12_rings_78 : decode cX12_rings 78 = .ok (.iadd, 1) := by decide +kernel
theorem dX12_rings_79 : decode cX12_rings 79 = .ok (.istore_n 2, 1) := by decide +kernel
theorem dX12_rings_80 : decode cX12_rings 80 = .ok (.iload_n 3, 1) := by decide +kernel
theorem dX12_rings_81 : decode cX12_rings 81 = .ok (.iconst 1, 1) := by decide +kernel
theorem dX12_rings_82 : decode cX12_rings 82 = .ok (.iadd, 1) := by decide +kernel
theorem dX12_rings_83 : decode cX12_rings 83 = .ok (.istore 4, 2) := by decide +kernel
theorem dX12_rings_85 : decode cX12_rings 85 = .ok (.iload 4, 2) := by decide +kernel
theorem dX12_rings_87 : decode cX12_rings 87 = .ok (.aload_n 0, 1) := by decide +kernel
theorem dX12_rings_88 : decode cX12_rings 88 = .ok (.getfield 271, 3) := by decide +kernel
theorem dX12_rings_91 : decode cX12_rings 91 = .ok (.if_icmp .ge 46, 3) := by decide +kernel
theorem dX12_rings_94 : decode cX12_rings 94 = .ok (.iload_n 1, 1) := by decide +kernel
theorem dX12_rings_95 : decode cX12_rings 95 = .ok (.iconst 2, 1) := by decide +kernel
theorem dX12_rings_96 : decode cX12_rings 96 = .ok (.if_icmp .ne 41, 3) := by decide +kernel
theorem dX12_rings_99 : decode cX12_rings 99 = .ok (.iload_n 2, 1) := by decide +kernel
theorem dX12_rings_100 : decode cX12_rings 100 = .ok (.aload_n 0, 1) := by decide +kernel
theorem dX12_rings_101 : decode cX12_rings 101 = .ok (.getfield 45, 3) := by decide +kernel
theorem dX12_rings_104 : decode cX12_rings 104 = .ok (.bipush 60, 2) := by decide +kernel
theorem dX12_rings_106 : decode cX12_rings 106 = .ok (.iload_n 3, 1) := by decide +kernel
theorem dX12_rings_107 : decode cX12_rings 107 = .ok (.imul, 1) := by decide +kernel
theorem dX12_rings_108 : decode cX12_rings 108 = .ok (.iload 4, 2) := by decide +kernel
theorem dX12_rings_110 : decode cX12_rings 110 = .ok (.iadd, 1) := by decide +kernel
theorem dX12_rings_111 : decode cX12_rings 111 = .ok (.iaload, 1) := by decide +kernel
theorem dX12_rings_112 : decode cX12_rings 112 = .ok (.aload_n 0, 1) := by decide +kernel
theorem dX12_rings_113 : decode cX12_rings 113 = .ok (.getfield 45, 3) := by decide +kernel
theorem dX12_rings_116 : decode cX12_rings 116 = .ok (.bipush 60, 2) := by decide +kernel
theorem dX12_rings_118 : decode cX12_rings 118 = .ok (.iload_n 3, 1) := by decide +kernel
theorem dX12_rings_119 : decode cX12_rings 119 = .ok (.imul, 1) := by decide +kernel
theorem dX12_rings_120 : decode cX12_rings 120 = .ok (.iload 4, 2) := by decide +kernel
theorem dX12_rings_122 : decode cX12_rings 122 = .ok (.iadd, 1) := by decide +kernel
theorem dX12_rings_123 : decode cX12_rings 123 = .ok (.iaload, 1) := by decide +kernel
theorem dX12_rings_124 : decode cX12_rings 124 = .ok (.iconst 1, 1) := by decide +kernel
theorem dX12_rings_125 : decode cX12_rings 125 = .ok (.isub, 1) := by decide +kernel
theorem dX12_rings_126 : decode cX12_rings 126 = .ok (.imul, 1) := by decide +kernel
theorem dX12_rings_127 : decode cX12_rings 127 = .ok (.iconst 2, 1) := by decide +kernel
theorem dX12_rings_128 : decode cX12_rings 128 = .ok (.idiv, 1) := by decide +kernel
theorem dX12_rings_129 : decode cX12_rings 129 = .ok (.iadd, 1) := by decide +kernel
theorem dX12_rings_130 : decode cX12_rings 130 = .ok (.istore_n 2, 1) := by decide +kernel
theorem dX12_rings_131 : decode cX12_rings 131 = .ok (.iinc 4 1, 3) := by decide +kernel
theorem dX12_rings_134 : decode cX12_rings 134 = .ok (.goto (-49), 3) := by decide +kernel
theorem dX12_rings_137 : decode cX12_rings 137 = .ok (.iinc 3 1, 3) := by decide +kernel
theorem dX12_rings_140 : decode cX12_rings 140 = .ok (.goto (-112), 3) := by decide +kernel
theorem dX12_rings_143 : decode cX12_rings 143 = .ok (.iload_n 2, 1) := by decide +kernel
theorem dX12_rings_144 : decode cX12_rings 144 = .ok (.ireturn, 1) := by decide +kernel
def hX12_rings_85 (f : Nat) (Φ : Int → aj_M → Prop) (K28 : List Nat → Int → Int → Int → aj_M → Prop) : Nat → List Nat → Int → Int → Int → Int → aj_M → Prop
  | 0, _, _, _, _, _, _ => False
  | k + 1, q0, v1, v2, v3, v4, m => rI v4 ∧ rI (m q0 23) ∧ ((m q0 23) ≤ v4 → K28 q0 v1 v2 (v3 + 1) m) ∧ (¬ ((m q0 23) ≤ v4) → rI v1 ∧ (¬ v1 = 2 → K28 q0 v1 v2 (v3 + 1) m) ∧ (v1 = 2 → (0 ≤ ((60 * v3) + v4) ∧ ((60 * v3) + v4) < 3600) ∧ (0 ≤ ((60 * v3) + v4) ∧ ((60 * v3) + v4) < 3600) ∧ (0 ≤ ((m (21 :: q0) ((60 * v3) + v4).toNat) * ((m (21 :: q0) ((60 * v3) + v4).toNat) - 1)) ∧ ((m (21 :: q0) ((60 * v3) + v4).toNat) * ((m (21 :: q0) ((60 * v3) + v4).toNat) - 1)) < 2147483648) ∧ hX12_rings_85 f Φ K28 k q0 v1 (v2 + (((m (21 :: q0) ((60 * v3) + v4).toNat) * ((m (21 :: q0) ((60 * v3) + v4).toNat) - 1)) / 2)) v3 (v4 + 1) m))
set_option maxHeartbeats 4000000 in
set_option maxRecDepth 100000 in
theorem tX12_rings_85 {X : aj_T} {n f : Nat} {Φ : Int → aj_M → Prop} (C : aj_Cx X cX12_rings RX12 5 (n + 10)) (K : aj_Rt X (some .int) (fun r m => ∃ z, r = some (vI z) ∧ Φ z m)) {K28 : List Nat → Int → Int → Int → aj_M → Prop} (HK28 : ∀ (q0 : List Nat) (v1 : Int) (v2 : Int) (v3 : Int) (m : aj_M) (hq0 : (.inl (12, q0) : aj_R) ∈ aj_pls), K28 q0 v1 v2 v3 m → aj_J X 28 [some (vO 12 q0), some (vI v1), some (vI v2), some (vI v3), none] [] m) : ∀ (k : Nat) (q0 : List Nat) (v1 : Int) (v2 : Int) (v3 : Int) (v4 : Int) (m : aj_M) (hq0 : (.inl (12, q0) : aj_R) ∈ aj_pls), hX12_rings_85 f Φ K28 k q0 v1 v2 v3 v4 m → aj_J X 85 [some (vO 12 q0), some (vI v1), some (vI v2), some (vI v3), some (vI v4)] [] m := by
  intro k
  induction k with
  | zero =>
    intro q0 v1 v2 v3 v4 m _ h
    exact h.elim
  | succ k ih =>
    intro q0 v1 v2 v3 v4 m hq0 h
    unfold hX12_rings_85 at h
    refine aj_iload C dX12_rings_85 rfl ?_
    refine aj_aload_n C dX12_rings_87 rfl ?_
    refine aj_getI C flX12_271 hq0 (by decide) dX12_rings_88 rfl ?_
    obtain ⟨r0, r1, h1, h2⟩ := h
    refine aj_icmp_ge (tgt := 137) C dX12_rings_91 (by decide) r0 r1 (fun e => ?_) (fun e => ?_)
    · have h := h1 e
      refine aj_iinc (lv' := [some (vO 12 q0), some (vI v1), some (vI v2), some (vI (v3 + 1)), some (vI v4)]) C dX12_rings_137 rfl (by decide) rfl ?_
      refine aj_goto (tgt := 28) C dX12_rings_140 (by decide) ?_
      refine aj_wk (lv' := [some (vO 12 q0), some (vI v1), some (vI v2), some (vI (v3 + 1)), none]) (⟨rfl, ⟨rfl, ⟨rfl, ⟨rfl, trivial⟩⟩⟩⟩) ?_
      exact HK28 q0 v1 v2 (v3 + 1) _ hq0 h
    · have h := h2 e
      refine aj_iload_n C dX12_rings_94 rfl ?_
      refine aj_iconst C dX12_rings_95 ?_
      obtain ⟨r0, h1, h2⟩ := h
      refine aj_icmp_ne (tgt := 137) C dX12_rings_96 (by decide) r0 (by decide) (fun e => ?_) (fun e => ?_)
      · have h := h1 e
        refine aj_iinc (lv' := [some (vO 12 q0), some (vI v1), some (vI v2), some (vI (v3 + 1)), some (vI v4)]) C dX12_rings_137 rfl (by decide) rfl ?_
        refine aj_goto (tgt := 28) C dX12_rings_140 (by decide) ?_
        refine aj_wk (lv' := [some (vO 12 q0), some (vI v1), some (vI v2), some (vI (v3 + 1)), none]) (⟨rfl, ⟨rfl, ⟨rfl, ⟨rfl, trivial⟩⟩⟩⟩) ?_
        exact HK28 q0 v1 v2 (v3 + 1) _ hq0 h
      · have h := h2 e
        refine aj_iload_n C dX12_rings_99 rfl ?_
        refine aj_aload_n C dX12_rings_100 rfl ?_
        refine aj_getA (x := 0) (y := 3600) C flX12_45 hq0 rfl dX12_rings_101 ?_
        refine aj_bipush C dX12_rings_104 (by decide) ?_
        refine aj_iload_n C dX12_rings_106 rfl ?_
        refine aj_imul C dX12_rings_107 ?_
        refine aj_iload C dX12_rings_108 rfl ?_
        refine aj_iadd C dX12_rings_110 ?_
        obtain ⟨r0, h⟩ := h
        refine aj_iald C (aj_ca (e := 0) (n := 3600) (j := 21) hq0 (by decide) rfl) (by decide) r0 dX12_rings_111 rfl ?_
        refine aj_aload_n C dX12_rings_112 rfl ?_
        refine aj_getA (x := 0) (y := 3600) C flX12_45 hq0 rfl dX12_rings_113 ?_
        refine aj_bipush C dX12_rings_116 (by decide) ?_
        refine aj_iload_n C dX12_rings_118 rfl ?_
        refine aj_imul C dX12_rings_119 ?_
        refine aj_iload C dX12_rings_120 rfl ?_
        refine aj_iadd C dX12_rings_122 ?_
        obtain ⟨r0, h⟩ := h
        refine aj_iald C (aj_ca (e := 0) (n := 3600) (j := 21) hq0 (by decide) rfl) (by decide) r0 dX12_rings_123 rfl ?_
        refine aj_iconst C dX12_rings_124 ?_
        refine aj_isub C dX12_rings_125 ?_
        refine aj_imul C dX12_rings_126 ?_
        refine aj_iconst C dX12_rings_127 ?_
        obtain ⟨r0, h⟩ := h
        refine aj_idivN C dX12_rings_128 r0 (by decide) ?_
        refine aj_iadd C dX12_rings_129 ?_
        refine aj_istore_n (lv' := [some (vO 12 q0), some (vI v1), some (vI (v2 + (((m (21 :: q0) ((60 * v3) + v4).toNat) * ((m (21 :: q0) ((60 * v3) + v4).toNat) - 1)) / 2))), some (vI v3), some (vI v4)]) C dX12_rings_130 (by decide) rfl ?_
        refine aj_iinc (lv' := [some (vO 12 q0), some (vI v1), some (vI (v2 + (((m (21 :: q0) ((60 * v3) + v4).toNat) * ((m (21 :: q0) ((60 * v3) + v4).toNat) - 1)) / 2))), some (vI v3), some (vI (v4 + 1))]) C dX12_rings_131 rfl (by decide) rfl ?_
        refine aj_goto (tgt := 85) C dX12_rings_134 (by decide) ?_
        exact ih q0 v1 (v2 + (((m (21 :: q0) ((60 * v3) + v4).toNat) * ((m (21 :: q0) ((60 * v3) + v4).toNat) - 1)) / 2)) v3 (v4 + 1) _ hq0 h
def hX12_rings_28 (f : Nat) (Φ : Int → aj_M → Prop) : Nat → List Nat → Int → Int → Int → aj_M → Prop
  | 0, _, _, _, _, _ => False
  | k + 1, q0, v1, v2, v3, m => rI v3 ∧ rI (m q0 23) ∧ ((m q0 23) ≤ v3 → Φ v2 m) ∧ (¬ ((m q0 23) ≤ v3) → ∀ m1, m1 = aj_u m (30 :: q0) (0 : Int).toNat v3 → rI v1 ∧ (¬ v1 = 1 → rI v1 ∧ (v1 ≤ 2 → hX12_rings_85 f Φ (fun q0 v1 v2 v3 m => hX12_rings_28 f Φ k q0 v1 v2 v3 m) f q0 v1 v2 v3 (v3 + 1) m1) ∧ (¬ (v1 ≤ 2) → wX12_ringsFrom f (fun z1 m2 => hX12_rings_85 f Φ (fun q0 v1 v2 v3 m => hX12_rings_28 f Φ k q0 v1 v2 v3 m) f q0 v1 (v2 + z1) v3 (v3 + 1) m2) q0 1 v1 1 m1)) ∧ (v1 = 1 → (0 ≤ ((60 * v3) + v3) ∧ ((60 * v3) + v3) < 3600) ∧ hX12_rings_85 f Φ (fun q0 v1 v2 v3 m => hX12_rings_28 f Φ k q0 v1 v2 v3 m) f q0 v1 (v2 + (m1 (21 :: q0) ((60 * v3) + v3).toNat)) v3 (v3 + 1) m1))
set_option maxHeartbeats 4000000 in
set_option maxRecDepth 100000 in
theorem tX12_rings_28 {X : aj_T} {n f : Nat} {Φ : Int → aj_M → Prop} (C : aj_Cx X cX12_rings RX12 5 (n + 10)) (K : aj_Rt X (some .int) (fun r m => ∃ z, r = some (vI z) ∧ Φ z m)) : ∀ (k : Nat) (q0 : List Nat) (v1 : Int) (v2 : Int) (v3 : Int) (m : aj_M) (hq0 : (.inl (12, q0) : aj_R) ∈ aj_pls), hX12_rings_28 f Φ k q0 v1 v2 v3 m → aj_J X 28 [some (vO 12 q0), some (vI v1), some (vI v2), some (vI v3), none] [] m := by
  intro k
  induction k with
  | zero =>
    intro q0 v1 v2 v3 m _ h
    exact h.elim
  | succ k ih =>
    intro q0 v1 v2 v3 m hq0 h
    unfold hX12_rings_28 at h
    refine aj_iload_n C dX12_rings_28 rfl ?_
    refine aj_aload_n C dX12_rings_29 rfl ?_
    refine aj_getI C flX12_271 hq0 (by decide) dX12_rings_30 rfl ?_
    obtain ⟨r0, r1, h1, h2⟩ := h
    refine aj_icmp_ge (tgt := 143) C dX12_rings_33 (by decide) r0 r1 (fun e => ?_) (fun e => ?_)
    · have h := h1 e
      refine aj_iload_n C dX12_rings_143 rfl ?_
      exact aj_iret C K dX12_rings_144 ⟨_, rfl, h⟩
    · have h := h2 e
      refine aj_aload_n C dX12_rings_36 rfl ?_
      refine aj_getA (x := 0) (y := 60) C flX12_60 hq0 rfl dX12_rings_37 ?_
      refine aj_iconst C dX12_rings_40 ?_
      refine aj_iload_n C dX12_rings_41 rfl ?_
      refine aj_iast C (aj_ca (e := 0) (n := 60) (j := 30) hq0 (by decide) rfl) (by decide) (by decide) dX12_rings_42 ?_
      refine aj_nm (fun m1 e1 => ?_)
      have h := h m1 e1
      refine aj_iload_n C dX12_rings_43 rfl ?_
      refine aj_iconst C dX12_rings_44 ?_
      obtain ⟨r0, h1, h2⟩ := h
      refine aj_icmp_ne (tgt := 65) C dX12_rings_45 (by decide) r0 (by decide) (fun e => ?_) (fun e => ?_)
      · have h := h1 e
        refine aj_iload_n C dX12_rings_65 rfl ?_
        refine aj_iconst C dX12_rings_66 ?_
        obtain ⟨r0, h1, h2⟩ := h
        refine aj_icmp_le (tgt := 80) C dX12_rings_67 (by decide) r0 (by decide) (fun e => ?_) (fun e => ?_)
        · have h := h1 e
          refine aj_iload_n C dX12_rings_80 rfl ?_
          refine aj_iconst C dX12_rings_81 ?_
          refine aj_iadd C dX12_rings_82 ?_
          refine aj_istore (lv' := [some (vO 12 q0), some (vI v1), some (vI v2), some (vI v3), some (vI (v3 + 1))]) C dX12_rings_83 (by decide) rfl ?_
          exact tX12_rings_85 C K (fun q0 v1 v2 v3 m hq0 hh => ih q0 v1 v2 v3 m hq0 hh) f q0 v1 v2 v3 (v3 + 1) _ hq0 h
        · have h := h2 e
          refine aj_iload_n C dX12_rings_70 rfl ?_
          refine aj_aload_n C dX12_rings_71 rfl ?_
          refine aj_iconst C dX12_rings_72 ?_
          refine aj_iload_n C dX12_rings_73 rfl ?_
          refine aj_iconst C dX12_rings_74 ?_
          refine aj_callV (rest := [vI v2]) C mvX12_380 (sX12_ringsFrom hq0 h) hq0 (aj_np 3 (by decide +kernel) rfl) (Nat.le_of_ble_eq_true rfl) rfl dX12_rings_75 (fun r m2 h => ?_)
          obtain ⟨z1, rfl, h⟩ := h
          refine aj_iadd C dX12_rings_78 ?_
          refine aj_istore_n (lv' := [some (vO 12 q0), some (vI v1), some (vI (v2 + z1)), some (vI v3), none]) C dX12_rings_79 (by decide) rfl ?_
          refine aj_iload_n C dX12_rings_80 rfl ?_
          refine aj_iconst C dX12_rings_81 ?_
          refine aj_iadd C dX12_rings_82 ?_
          refine aj_istore (lv' := [some (vO 12 q0), some (vI v1), some (vI (v2 + z1)), some (vI v3), some (vI (v3 + 1))]) C dX12_rings_83 (by decide) rfl ?_
          exact tX12_rings_85 C K (fun q0 v1 v2 v3 m hq0 hh => ih q0 v1 v2 v3 m hq0 hh) f q0 v1 (v2 + z1) v3 (v3 + 1) _ hq0 h
      · have h := h2 e
        refine aj_iload_n C dX12_rings_48 rfl ?_
        refine aj_aload_n C dX12_rings_49 rfl ?_
        refine aj_getA (x := 0) (y := 3600) C flX12_45 hq0 rfl dX12_rings_50 ?_
        refine aj_bipush C dX12_rings_53 (by decide) ?_
        refine aj_iload_n C dX12_rings_55 rfl ?_
        refine aj_imul C dX12_rings_56 ?_
        refine aj_iload_n C dX12_rings_57 rfl ?_
        refine aj_iadd C dX12_rings_58 ?_
        obtain ⟨r0, h⟩ := h
        refine aj_iald C (aj_ca (e := 0) (n := 3600) (j := 21) hq0 (by decide) rfl) (by decide) r0 dX12_rings_59 rfl ?_
        refine aj_iadd C dX12_rings_60 ?_
        refine aj_istore_n (lv' := [some (vO 12 q0), some (vI v1), some (vI (v2 + (m1 (21 :: q0) ((60 * v3) + v3).toNat))), some (vI v3), none]) C dX12_rings_61 (by decide) rfl ?_
        refine aj_goto (tgt := 80) C dX12_rings_62 (by decide) ?_
        refine aj_iload_n C dX12_rings_80 rfl ?_
        refine aj_iconst C dX12_rings_81 ?_
        refine aj_iadd C dX12_rings_82 ?_
        refine aj_istore (lv' := [some (vO 12 q0), some (vI v1), some (vI (v2 + (m1 (21 :: q0) ((60 * v3) + v3).toNat))), some (vI v3), some (vI (v3 + 1))]) C dX12_rings_83 (by decide) rfl ?_
        exact tX12_rings_85 C K (fun q0 v1 v2 v3 m hq0 hh => ih q0 v1 v2 v3 m hq0 hh) f q0 v1 (v2 + (m1 (21 :: q0) ((60 * v3) + v3).toNat)) v3 (v3 + 1) _ hq0 h
def wX12_rings (f : Nat) (Φ : Int → aj_M → Prop) (q0 : List Nat) (v1 : Int) (m : aj_M) : Prop := ∀ m1, m1 = aj_u m q0 0 0 → rI v1 ∧ wX12_within f (fun z1 m2 => rI z1 ∧ (¬ z1 = 0 → wX12_laysNet f (fun m3 => hX12_rings_28 f Φ f q0 v1 0 0 m3) q0 m2) ∧ (z1 = 0 → Φ (-3) m2)) v1 1 6 m1
set_option maxHeartbeats 4000000 in
set_option maxRecDepth 100000 in
theorem sX12_rings {n f : Nat} {Φ : Int → aj_M → Prop} {q0 : List Nat} {v1 : Int} {m : aj_M} (hq0 : (.inl (12, q0) : aj_R) ∈ aj_pls) (h : wX12_rings f Φ q0 v1 m) : aj_Ct (n + 10) yX12_rings cX12_rings 5 (some .int) [vO 12 q0, vI v1] m (fun r m => ∃ z, r = some (vI z) ∧ Φ z m) := by
  refine aj_met (lv := [some (vO 12 q0), some (vI v1), none, none, none]) (by decide +kernel) rfl (Nat.le_of_ble_eq_true rfl) (fun X C K => ?_)
  unfold wX12_rings at h
  refine aj_aload_n C dX12_rings_0 rfl ?_
  refine aj_iconst C dX12_rings_1 ?_
  refine aj_putI C fpX12_1 hq0 rfl dX12_rings_2 ?_
  refine aj_nm (fun m1 e1 => ?_)
  have h := h m1 e1
  refine aj_iload_n C dX12_rings_5 rfl ?_
  obtain ⟨r0, h⟩ := h
  refine aj_i2l C dX12_rings_6 r0 ?_
  refine aj_lconst (z := 1) C dX12_rings_7 rfl ?_
  refine aj_ldc2 (z := 6) C (wd2007) rfl dX12_rings_8 ?_
  refine aj_callS (rest := []) C msX12_154 (sX12_within  h) (aj_np 3 (by decide +kernel) rfl) (Nat.le_of_ble_eq_true rfl) rfl dX12_rings_11 (fun r m2 h => ?_)
  obtain ⟨z1, rfl, h⟩ := h
  obtain ⟨r0, h1, h2⟩ := h
  refine aj_if_ne (tgt := 20) C dX12_rings_14 (by decide) r0 (fun e => ?_) (fun e => ?_)
  · have h := h1 e
    refine aj_aload_n C dX12_rings_20 rfl ?_
    refine aj_callV (rest := []) C mvX12_336 (sX12_laysNet hq0 h) hq0 (aj_np 0 (by decide +kernel) rfl) (Nat.le_of_ble_eq_true rfl) rfl dX12_rings_21 (fun r m3 h => ?_)
    obtain ⟨rfl, h⟩ := h
    refine aj_iconst C dX12_rings_24 ?_
    refine aj_istore_n (lv' := [some (vO 12 q0), some (vI v1), some (vI 0), none, none]) C dX12_rings_25 (by decide) rfl ?_
    refine aj_iconst C dX12_rings_26 ?_
    refine aj_istore_n (lv' := [some (vO 12 q0), some (vI v1), some (vI 0), some (vI 0), none]) C dX12_rings_27 (by decide) rfl ?_
    exact tX12_rings_28 C K f q0 v1 0 0 _ hq0 h
  · have h := h2 e
    refine aj_bipush C dX12_rings_17 (by decide) ?_
    exact aj_iret C K dX12_rings_19 ⟨_, rfl, h⟩
theorem dX12_through_0 : decode cX12_through 0 = .ok (.aload_n 0, 1) := by decide +kernel
theorem dX12_through_1 : decode cX12_through 1 = .ok (.iconst 0, 1) := by decide +kernel
theorem dX12_through_2 : decode cX12_through 2 = .ok (.putfield 1, 3) := by decide +kernel
theorem dX12_through_5 : decode cX12_through 5 = .ok (.aload_n 0, 1) := by decide +kernel
theorem dX12_through_6 : decode cX12_through 6 = .ok (.iload_n 1, 1) := by decide +kernel
theorem dX12_through_7 : decode cX12_through 7 = .ok (.i2l, 1) := by decide +kernel
theorem dX12_through_8 : decode cX12_through 8 = .ok (.invokevirtual 360, 3) := by decide +kernel
theorem dX12_through_11 : decode cX12_through 11 = .ok (.ifCond .ne 6, 3) := by decide +kernel
theorem dX12_through_14 : decode cX12_through 14 = .ok (.bipush (-2), 2) := by decide +kernel
theorem dX12_through_16 : decode cX12_through 16 = .ok (.ireturn, 1) := by decide +kernel
theorem dX12_through_17 : decode cX12_through 17 = .ok (.aload_n 0, 1) := by decide +kernel
theorem dX12_through_18 : decode cX12_through 18 = .ok (.invokevirtual 336, 3) := by decide +kernel
theorem dX12_through_21 : decode cX12_through 21 = .ok (.aload_n 0, 1) := by decide +kernel
theorem dX12_through_22 : decode cX12_through 22 = .ok (.iload_n 1, 1) := by decide +kernel
theorem dX12_through_23 : decode cX12_through 23 = .ok (.invokevirtual 288, 3) := by decide +kernel
theorem dX12_through_26 : decode cX12_through 26 = .ok (.invokestatic 345, 3) := by decide +kernel
theorem dX12_through_29 : decode cX12_through 29 = .ok (.ireturn, 1) := by decide +kernel
def wX12_through (f : Nat) (Φ : Int → aj_M → Prop) (q0 : List Nat) (v1 : Int) (m : aj_M) : Prop := ∀ m1, m1 = aj_u m q0 0 0 → rI v1 ∧ wX12_isNode f (fun z1 m2 => rI z1 ∧ (¬ z1 = 0 → wX12_laysNet f (fun m3 => wX12_throughOf f (fun z3 m4 => wX12_toldFar f (fun z4 m5 => Φ z4 m5) z3 m4) q0 v1 m3) q0 m2) ∧ (z1 = 0 → Φ (-2) m2)) q0 v1 m1
set_option maxHeartbeats 4000000 in
set_option maxRecDepth 100000 in
theorem sX12_through {n f : Nat} {Φ : Int → aj_M → Prop} {q0 : List Nat} {v1 : Int} {m : aj_M} (hq0 : (.inl (12, q0) : aj_R) ∈ aj_pls) (h : wX12_through f Φ q0 v1 m) : aj_Ct (n + 6) yX12_through cX12_through 2 (some .int) [vO 12 q0, vI v1] m (fun r m => ∃ z, r = some (vI z) ∧ Φ z m) := by
  refine aj_met (lv := [some (vO 12 q0), some (vI v1)]) (by decide +kernel) rfl (Nat.le_of_ble_eq_true rfl) (fun X C K => ?_)
  unfold wX12_through at h
  refine aj_aload_n C dX12_through_0 rfl ?_
  refine aj_iconst C dX12_through_1 ?_
  refine aj_putI C fpX12_1 hq0 rfl dX12_through_2 ?_
  refine aj_nm (fun m1 e1 => ?_)
  have h := h m1 e1
  refine aj_aload_n C dX12_through_5 rfl ?_
  refine aj_iload_n C dX12_through_6 rfl ?_
  obtain ⟨r0, h⟩ := h
  refine aj_i2l C dX12_through_7 r0 ?_
  refine aj_callV (rest := []) C mvX12_360 (sX12_isNode hq0 h) hq0 (aj_np 1 (by decide +kernel) rfl) (Nat.le_of_ble_eq_true rfl) rfl dX12_through_8 (fun r m2 h => ?_)
  obtain ⟨z1, rfl, h⟩ := h
  obtain ⟨r0, h1, h2⟩ := h
  refine aj_if_ne (tgt := 17) C dX12_through_11 (by decide) r0 (fun e => ?_) (fun e => ?_)
  · have h := h1 e
    refine aj_aload_n C dX12_through_17 rfl ?_
    refine aj_callV (rest := []) C mvX12_336 (sX12_laysNet hq0 h) hq0 (aj_np 0 (by decide +kernel) rfl) (Nat.le_of_ble_eq_true rfl) rfl dX12_through_18 (fun r m3 h => ?_)
    obtain ⟨rfl, h⟩ := h
    refine aj_aload_n C dX12_through_21 rfl ?_
    refine aj_iload_n C dX12_through_22 rfl ?_
    refine aj_callV (rest := []) C mvX12_288 (sX12_throughOf hq0 h) hq0 (aj_np 1 (by decide +kernel) rfl) (Nat.le_of_ble_eq_true rfl) rfl dX12_through_23 (fun r m4 h => ?_)
    obtain ⟨z3, rfl, h⟩ := h
    refine aj_callS (rest := []) C msX12_345 (sX12_toldFar  h) (aj_np 1 (by decide +kernel) rfl) (Nat.le_of_ble_eq_true rfl) rfl dX12_through_26 (fun r m5 h => ?_)
    obtain ⟨z4, rfl, h⟩ := h
    exact aj_iret C K dX12_through_29 ⟨_, rfl, h⟩
  · have h := h2 e
    refine aj_bipush C dX12_through_14 (by decide) ?_
    exact aj_iret C K dX12_through_16 ⟨_, rfl, h⟩
theorem dX12_isBound_0 : decode cX12_isBound 0 = .ok (.iload_n 0, 1) := by decide +kernel
theorem dX12_isBound_1 : decode cX12_isBound 1 = .ok (.i2l, 1) := by decide +kernel
theorem dX12_isBound_2 : decode cX12_isBound 2 = .ok (.ldc2_w 385, 3) := by decide +kernel
theorem dX12_isBound_5 : decode cX12_isBound 5 = .ok (.ldc2_w 304, 3) := by decide +kernel
theorem dX12_isBound_8 : decode cX12_isBound 8 = .ok (.invokestatic 154, 3) := by decide +kernel
theorem dX12_isBound_11 : decode cX12_isBound 11 = .ok (.ifCond .eq 21, 3) := by decide +kernel
theorem dX12_isBound_14 : decode cX12_isBound 14 = .ok (.iload_n 1, 1) := by decide +kernel
theorem dX12_isBound_15 : decode cX12_isBound 15 = .ok (.i2l, 1) := by decide +kernel
theorem dX12_isBound_16 : decode cX12_isBound 16 = .ok (.ldc2_w 328, 3) := by decide +kernel
theorem dX12_isBound_19 : decode cX12_isBound 19 = .ok (.ldc2_w 387, 3) := by decide +kernel
theorem dX12_isBound_22 : decode cX12_isBound 22 = .ok (.invokestatic 154, 3) := by decide +kernel
theorem dX12_isBound_25 : decode cX12_isBound 25 = .ok (.ifCond .eq 7, 3) := by decide +kernel
theorem dX12_isBound_28 : decode cX12_isBound 28 = .ok (.iconst 1, 1) := by decide +kernel
theorem dX12_isBound_29 : decode cX12_isBound 29 = .ok (.goto 4, 3) := by decide +kernel
theorem dX12_isBound_32 : decode cX12_isBound 32 = .ok (.iconst 0, 1) := by decide +kernel
theorem dX12_isBound_33 : decode cX12_isBound 33 = .ok (.ireturn, 1) := by decide +kernel
def wX12_isBound (f : Nat) (Φ : Int → aj_M → Prop) (v0 : Int) (v1 : Int) (m : aj_M) : Prop := rI v0 ∧ wX12_within f (fun z1 m1 => rI z1 ∧ (z1 = 0 → Φ 0 m1) ∧ (¬ (z1 = 0) → rI v1 ∧ wX12_within f (fun z2 m2 => rI z2 ∧ (z2 = 0 → Φ 0 m2) ∧ (¬ (z2 = 0) → Φ 1 m2)) v1 3 12 m1)) v0 2 9 m
set_option maxHeartbeats 4000000 in
set_option maxRecDepth 100000 in
theorem sX12_isBound {n f : Nat} {Φ : Int → aj_M → Prop} {v0 : Int} {v1 : Int} {m : aj_M}  (h : wX12_isBound f Φ v0 v1 m) : aj_Ct (n + 1) yX12_isBound cX12_isBound 2 (some .boolean) [vI v0, vI v1] m (fun r m => ∃ z, r = some (vI z) ∧ Φ z m) := by
  refine aj_met (lv := [some (vI v0), some (vI v1)]) (by decide +kernel) rfl (Nat.le_of_ble_eq_true rfl) (fun X C K => ?_)
  unfold wX12_isBound at h
  refine aj_iload_n C dX12_isBound_0 rfl ?_
  obtain ⟨r0, h⟩ := h
  refine aj_i2l C dX12_isBound_1 r0 ?_
  refine aj_ldc2 (z := 2) C (wd2023) rfl dX12_isBound_2 ?_
  refine aj_ldc2 (z := 9) C (wd1831) rfl dX12_isBound_5 ?_
  refine aj_callS (rest := []) C msX12_154 (sX12_within  h) (aj_np 3 (by decide +kernel) rfl) (Nat.le_of_ble_eq_true rfl) rfl dX12_isBound_8 (fun r m1 h => ?_)
  obtain ⟨z1, rfl, h⟩ := h
  obtain ⟨r0, h1, h2⟩ := h
  refine aj_if_eq (tgt := 32) C dX12_isBound_11 (by decide) r0 (fun e => ?_) (fun e => ?_)
  · have h := h1 e
    refine aj_iconst C dX12_isBound_32 ?_
    exact aj_zret C K (Or.inl rfl) dX12_isBound_33 ⟨_, rfl, h⟩
  · have h := h2 e
    refine aj_iload_n C dX12_isBound_14 rfl ?_
    obtain ⟨r0, h⟩ := h
    refine aj_i2l C dX12_isBound_15 r0 ?_
    refine aj_ldc2 (z := 3) C (wd1841) rfl dX12_isBound_16 ?_
    refine aj_ldc2 (z := 12) C (wd2024) rfl dX12_isBound_19 ?_
    refine aj_callS (rest := []) C msX12_154 (sX12_within  h) (aj_np 3 (by decide +kernel) rfl) (Nat.le_of_ble_eq_true rfl) rfl dX12_isBound_22 (fun r m2 h => ?_)
    obtain ⟨z2, rfl, h⟩ := h
    obtain ⟨r0, h1, h2⟩ := h
    refine aj_if_eq (tgt := 32) C dX12_isBound_25 (by decide) r0 (fun e => ?_) (fun e => ?_)
    · have h := h1 e
      refine aj_iconst C dX12_isBound_32 ?_
      exact aj_zret C K (Or.inl rfl) dX12_isBound_33 ⟨_, rfl, h⟩
    · have h := h2 e
      refine aj_iconst C dX12_isBound_28 ?_
      refine aj_goto (tgt := 33) C dX12_isBound_29 (by decide) ?_
      exact aj_zret C K (Or.inr rfl) dX12_isBound_33 ⟨_, rfl, h⟩
theorem dX12_boundOf_0 : decode cX12_boundOf 0 = .ok (.lconst 0, 1) := by decide +kernel
theorem dX12_boundOf_1 : decode cX12_boundOf 1 = .ok (.lstore_n 2, 1) := by decide +kernel
theorem dX12_boundOf_2 : decode cX12_boundOf 2 = .ok (.lconst 1, 1) := by decide +kernel
theorem dX12_boundOf_3 : decode cX12_boundOf 3 = .ok (.lstore 4, 2) := by decide +kernel
theorem dX12_boundOf_5 : decode cX12_boundOf 5 = .ok (.iconst 0, 1) := by decide +kernel
theorem dX12_boundOf_6 : decode cX12_boundOf 6 = .ok (.istore 6, 2) := by decide +kernel
theorem dX12_boundOf_8 : decode cX12_boundOf 8 = .ok (.iload 6, 2) := by decide +kernel
theorem dX12_boundOf_10 : decode cX12_boundOf 10 = .ok (.iload_n 1, 1) := by decide +kernel
theorem dX12_boundOf_11 : decode cX12_boundOf 11 = .ok (.iconst 2, 1) := by decide +kernel
theorem dX12_boundOf_12 : decode cX12_boundOf 12 = .ok (.idiv, 1) := by decide +kernel
theorem dX12_boundOf_13 : decode cX12_boundOf 13 = .ok (.if_icmp .ge 23, 3) := by decide +kernel
theorem dX12_boundOf_16 : decode cX12_boundOf 16 = .ok (.lload_n 2, 1) := by decide +kernel
theorem dX12_boundOf_17 : decode cX12_boundOf 17 = .ok (.lload 4, 2) := by decide +kernel
theorem dX12_boundOf_19 : decode cX12_boundOf 19 = .ok (.ladd, 1) := by decide +kernel
theorem dX12_boundOf_20 : decode cX12_boundOf 20 = .ok (.lstore_n 2, 1) := by decide +kernel
theorem dX12_boundOf_21 : decode cX12_boundOf 21 = .ok (.lload 4, 2) := by decide +kernel
theorem dX12_boundOf_23 : decode cX12_boundOf 23 = .ok (.iload_n 0, 1) := by decide +kernel
theorem dX12_boundOf_24 : decode cX12_boundOf 24 = .ok (.iconst 1, 1) := by decide +kernel
theorem dX12_boundOf_25 : decode cX12_boundOf 25 = .ok (.isub, 1) := by decide +kernel
theorem dX12_boundOf_26 : decode cX12_boundOf 26 = .ok (.i2l, 1) := by decide +kernel
theorem dX12_boundOf_27 : decode cX12_boundOf 27 = .ok (.lmul, 1) := by decide +kernel
theorem dX12_boundOf_28 : decode cX12_boundOf 28 = .ok (.lstore 4, 2) := by decide +kernel
theorem dX12_boundOf_30 : decode cX12_boundOf 30 = .ok (.iinc 6 1, 3) := by decide +kernel
theorem dX12_boundOf_33 : decode cX12_boundOf 33 = .ok (.goto (-25), 3) := by decide +kernel
theorem dX12_boundOf_36 : decode cX12_boundOf 36 = .ok (.iload_n 1, 1) := by decide +kernel
theorem dX12_boundOf_37 : decode cX12_boundOf 37 = .ok (.iconst 2, 1) := by decide +kernel
theorem dX12_boundOf_38 : decode cX12_boundOf 38 = .ok (.irem, 1) := by decide +kernel
theorem dX12_boundOf_39 : decode cX12_boundOf 39 = .ok (.iconst 1, 1) := by decide +kernel
theorem dX12_boundOf_40 : decode cX12_boundOf 40 = .ok (.if_icmp .ne 12, 3) := by decide +kernel
theorem dX12_boundOf_43 : decode cX12_boundOf 43 = .ok (.lconst 1, 1) := by decide +kernel
theorem dX12_boundOf_44 : decode cX12_boundOf 44 = .ok (.iload_n 0, 1) := by decide +kernel
theorem dX12_boundOf_45 : decode cX12_boundOf 45 = .ok (.i2l, 1) := by decide +kernel
theorem dX12_boundOf_46 : decode cX12_boundOf 46 = .ok (.lload_n 2, 1) := by decide +kernel
theorem dX12_boundOf_47 : decode cX12_boundOf 47 = .ok (.lmul, 1) := by decide +kernel
theorem dX12_boundOf_48 : decode cX12_boundOf 48 = .ok (.ladd, 1) := by decide +kernel
theorem dX12_boundOf_49 : decode cX12_boundOf 49 = .ok (.goto 8, 3) := by decide +kernel
theorem dX12_boundOf_52 : decode cX12_boundOf 52 = .ok (.ldc2_w 385, 3) := by decide +kernel
theorem dX12_boundOf_55 : decode cX12_boundOf 55 = .ok (.lload_n 2, 1) := by decide +kernel
theorem dX12_boundOf_56 : decode cX12_boundOf 56 = .ok (.lmul, 1) := by decide +kernel
theorem dX12_boundOf_57 : decode cX12_boundOf 57 = .ok (.lreturn, 1) := by decide +kernel
def hX12_boundOf_8 (f : Nat) (Φ : Int → aj_M → Prop) : Nat → Int → Int → Int → Int → Int → aj_M → Prop
  | 0, _, _, _, _, _, _ => False
  | k + 1, v0, v1, w2, w4, v6, m => (0 ≤ v1 ∧ v1 < 2147483648) ∧ rI v6 ∧ rI (v1 / 2) ∧ ((v1 / 2) ≤ v6 → (0 ≤ v1 ∧ v1 < 2147483648) ∧ rI (v1 % 2) ∧ (¬ (v1 % 2) = 1 → Φ (2 * w2) m) ∧ ((v1 % 2) = 1 → rI v0 ∧ Φ (1 + (v0 * w2)) m)) ∧ (¬ ((v1 / 2) ≤ v6) → rI (v0 - 1) ∧ hX12_boundOf_8 f Φ k v0 v1 (w2 + w4) (w4 * (v0 - 1)) (v6 + 1) m)
set_option maxHeartbeats 4000000 in
set_option maxRecDepth 100000 in
theorem tX12_boundOf_8 {X : aj_T} {n f : Nat} {Φ : Int → aj_M → Prop} (C : aj_Cx X cX12_boundOf RX12 7 n) (K : aj_Rt X (some .long) (fun r m => ∃ z, r = some (vL z) ∧ Φ z m)) : ∀ (k : Nat) (v0 : Int) (v1 : Int) (w2 : Int) (w4 : Int) (v6 : Int) (m : aj_M) , hX12_boundOf_8 f Φ k v0 v1 w2 w4 v6 m → aj_J X 8 [some (vI v0), some (vI v1), some (vL w2), none, some (vL w4), none, some (vI v6)] [] m := by
  intro k
  induction k with
  | zero =>
    intro v0 v1 w2 w4 v6 m  h
    exact h.elim
  | succ k ih =>
    intro v0 v1 w2 w4 v6 m  h
    unfold hX12_boundOf_8 at h
    refine aj_iload C dX12_boundOf_8 rfl ?_
    refine aj_iload_n C dX12_boundOf_10 rfl ?_
    refine aj_iconst C dX12_boundOf_11 ?_
    obtain ⟨r0, h⟩ := h
    refine aj_idivN C dX12_boundOf_12 r0 (by decide) ?_
    obtain ⟨r0, r1, h1, h2⟩ := h
    refine aj_icmp_ge (tgt := 36) C dX12_boundOf_13 (by decide) r0 r1 (fun e => ?_) (fun e => ?_)
    · have h := h1 e
      refine aj_iload_n C dX12_boundOf_36 rfl ?_
      refine aj_iconst C dX12_boundOf_37 ?_
      obtain ⟨r0, h⟩ := h
      refine aj_iremN C dX12_boundOf_38 r0 (by decide) ?_
      refine aj_iconst C dX12_boundOf_39 ?_
      obtain ⟨r0, h1, h2⟩ := h
      refine aj_icmp_ne (tgt := 52) C dX12_boundOf_40 (by decide) r0 (by decide) (fun e => ?_) (fun e => ?_)
      · have h := h1 e
        refine aj_ldc2 (z := 2) C (wd2023) rfl dX12_boundOf_52 ?_
        refine aj_lload_n C dX12_boundOf_55 rfl ?_
        refine aj_lmul C dX12_boundOf_56 ?_
        exact aj_lret C K dX12_boundOf_57 ⟨_, rfl, h⟩
      · have h := h2 e
        refine aj_lconst (z := 1) C dX12_boundOf_43 rfl ?_
        refine aj_iload_n C dX12_boundOf_44 rfl ?_
        obtain ⟨r0, h⟩ := h
        refine aj_i2l C dX12_boundOf_45 r0 ?_
        refine aj_lload_n C dX12_boundOf_46 rfl ?_
        refine aj_lmul C dX12_boundOf_47 ?_
        refine aj_ladd C dX12_boundOf_48 ?_
        refine aj_goto (tgt := 57) C dX12_boundOf_49 (by decide) ?_
        exact aj_lret C K dX12_boundOf_57 ⟨_, rfl, h⟩
    · have h := h2 e
      refine aj_lload_n C dX12_boundOf_16 rfl ?_
      refine aj_lload C dX12_boundOf_17 rfl ?_
      refine aj_ladd C dX12_boundOf_19 ?_
      refine aj_lstore_n (lv' := [some (vI v0), some (vI v1), some (vL (w2 + w4)), none, some (vL w4), none, some (vI v6)]) C dX12_boundOf_20 (by decide) rfl ?_
      refine aj_lload C dX12_boundOf_21 rfl ?_
      refine aj_iload_n C dX12_boundOf_23 rfl ?_
      refine aj_iconst C dX12_boundOf_24 ?_
      refine aj_isub C dX12_boundOf_25 ?_
      obtain ⟨r0, h⟩ := h
      refine aj_i2l C dX12_boundOf_26 r0 ?_
      refine aj_lmul C dX12_boundOf_27 ?_
      refine aj_lstore (lv' := [some (vI v0), some (vI v1), some (vL (w2 + w4)), none, some (vL (w4 * (v0 - 1))), none, some (vI v6)]) C dX12_boundOf_28 (by decide) rfl ?_
      refine aj_iinc (lv' := [some (vI v0), some (vI v1), some (vL (w2 + w4)), none, some (vL (w4 * (v0 - 1))), none, some (vI (v6 + 1))]) C dX12_boundOf_30 rfl (by decide) rfl ?_
      refine aj_goto (tgt := 8) C dX12_boundOf_33 (by decide) ?_
      exact ih v0 v1 (w2 + w4) (w4 * (v0 - 1)) (v6 + 1) _  h
def wX12_boundOf (f : Nat) (Φ : Int → aj_M → Prop) (v0 : Int) (v1 : Int) (m : aj_M) : Prop := hX12_boundOf_8 f Φ f v0 v1 0 1 0 m
set_option maxHeartbeats 4000000 in
set_option maxRecDepth 100000 in
theorem sX12_boundOf {n f : Nat} {Φ : Int → aj_M → Prop} {v0 : Int} {v1 : Int} {m : aj_M}  (h : wX12_boundOf f Φ v0 v1 m) : aj_Ct n yX12_boundOf cX12_boundOf 7 (some .long) [vI v0, vI v1] m (fun r m => ∃ z, r = some (vL z) ∧ Φ z m) := by
  refine aj_met (lv := [some (vI v0), some (vI v1), none, none, none, none, none]) (by decide +kernel) rfl (Nat.le_of_ble_eq_true rfl) (fun X C K => ?_)
  unfold wX12_boundOf at h
  refine aj_lconst (z := 0) C dX12_boundOf_0 rfl ?_
  refine aj_lstore_n (lv' := [some (vI v0), some (vI v1), some (vL 0), none, none, none, none]) C dX12_boundOf_1 (by decide) rfl ?_
  refine aj_lconst (z := 1) C dX12_boundOf_2 rfl ?_
  refine aj_lstore (lv' := [some (vI v0), some (vI v1), some (vL 0), none, some (vL 1), none, none]) C dX12_boundOf_3 (by decide) rfl ?_
  refine aj_iconst C dX12_boundOf_5 ?_
  refine aj_istore (lv' := [some (vI v0), some (vI v1), some (vL 0), none, some (vL 1), none, some (vI 0)]) C dX12_boundOf_6 (by decide) rfl ?_
  exact tX12_boundOf_8 C K f v0 v1 0 1 0 _  h
theorem dX12_bound_0 : decode cX12_bound 0 = .ok (.aload_n 0, 1) := by decide +kernel
theorem dX12_bound_1 : decode cX12_bound 1 = .ok (.iconst 0, 1) := by decide +kernel
theorem dX12_bound_2 : decode cX12_bound 2 = .ok (.putfield 1, 3) := by decide +kernel
theorem dX12_bound_5 : decode cX12_bound 5 = .ok (.iload_n 1, 1) := by decide +kernel
theorem dX12_bound_6 : decode cX12_bound 6 = .ok (.iload_n 2, 1) := by decide +kernel
theorem dX12_bound_7 : decode cX12_bound 7 = .ok (.invokestatic 389, 3) := by decide +kernel
theorem dX12_bound_10 : decode cX12_bound 10 = .ok (.ifCond .eq 11, 3) := by decide +kernel
theorem dX12_bound_13 : decode cX12_bound 13 = .ok (.iload_n 1, 1) := by decide +kernel
theorem dX12_bound_14 : decode cX12_bound 14 = .ok (.iload_n 2, 1) := by decide +kernel
theorem dX12_bound_15 : decode cX12_bound 15 = .ok (.invokestatic 392, 3) := by decide +kernel
theorem dX12_bound_18 : decode cX12_bound 18 = .ok (.goto 6, 3) := by decide +kernel
theorem dX12_bound_21 : decode cX12_bound 21 = .ok (.ldc2_w 396, 3) := by decide +kernel
theorem dX12_bound_24 : decode cX12_bound 24 = .ok (.lreturn, 1) := by decide +kernel
def wX12_bound (f : Nat) (Φ : Int → aj_M → Prop) (q0 : List Nat) (v1 : Int) (v2 : Int) (m : aj_M) : Prop := ∀ m1, m1 = aj_u m q0 0 0 → wX12_isBound f (fun z1 m2 => rI z1 ∧ (z1 = 0 → Φ (-3) m2) ∧ (¬ (z1 = 0) → wX12_boundOf f (fun z2 m3 => Φ z2 m3) v1 v2 m2)) v1 v2 m1
set_option maxHeartbeats 4000000 in
set_option maxRecDepth 100000 in
theorem sX12_bound {n f : Nat} {Φ : Int → aj_M → Prop} {q0 : List Nat} {v1 : Int} {v2 : Int} {m : aj_M} (hq0 : (.inl (12, q0) : aj_R) ∈ aj_pls) (h : wX12_bound f Φ q0 v1 v2 m) : aj_Ct (n + 2) yX12_bound cX12_bound 3 (some .long) [vO 12 q0, vI v1, vI v2] m (fun r m => ∃ z, r = some (vL z) ∧ Φ z m) := by
  refine aj_met (lv := [some (vO 12 q0), some (vI v1), some (vI v2)]) (by decide +kernel) rfl (Nat.le_of_ble_eq_true rfl) (fun X C K => ?_)
  unfold wX12_bound at h
  refine aj_aload_n C dX12_bound_0 rfl ?_
  refine aj_iconst C dX12_bound_1 ?_
  refine aj_putI C fpX12_1 hq0 rfl dX12_bound_2 ?_
  refine aj_nm (fun m1 e1 => ?_)
  have h := h m1 e1
  refine aj_iload_n C dX12_bound_5 rfl ?_
  refine aj_iload_n C dX12_bound_6 rfl ?_
  refine aj_callS (rest := []) C msX12_389 (sX12_isBound  h) (aj_np 2 (by decide +kernel) rfl) (Nat.le_of_ble_eq_true rfl) rfl dX12_bound_7 (fun r m2 h => ?_)
  obtain ⟨z1, rfl, h⟩ := h
  obtain ⟨r0, h1, h2⟩ := h
  refine aj_if_eq (tgt := 21) C dX12_bound_10 (by decide) r0 (fun e => ?_) (fun e => ?_)
  · have h := h1 e
    refine aj_ldc2 (z := (-3)) C (wd2028) rfl dX12_bound_21 ?_
    exact aj_lret C K dX12_bound_24 ⟨_, rfl, h⟩
  · have h := h2 e
    refine aj_iload_n C dX12_bound_13 rfl ?_
    refine aj_iload_n C dX12_bound_14 rfl ?_
    refine aj_callS (rest := []) C msX12_392 (sX12_boundOf  h) (aj_np 2 (by decide +kernel) rfl) (Nat.le_of_ble_eq_true rfl) rfl dX12_bound_15 (fun r m3 h => ?_)
    obtain ⟨z2, rfl, h⟩ := h
    refine aj_goto (tgt := 24) C dX12_bound_18 (by decide) ?_
    exact aj_lret C K dX12_bound_24 ⟨_, rfl, h⟩
theorem dX12_excess_0 : decode cX12_excess 0 = .ok (.aload_n 0, 1) := by decide +kernel
theorem dX12_excess_1 : decode cX12_excess 1 = .ok (.iconst 0, 1) := by decide +kernel
theorem dX12_excess_2 : decode cX12_excess 2 = .ok (.putfield 1, 3) := by decide +kernel
theorem dX12_excess_5 : decode cX12_excess 5 = .ok (.aload_n 0, 1) := by decide +kernel
theorem dX12_excess_6 : decode cX12_excess 6 = .ok (.invokevirtual 336, 3) := by decide +kernel
theorem dX12_excess_9 : decode cX12_excess 9 = .ok (.aload_n 0, 1) := by decide +kernel
theorem dX12_excess_10 : decode cX12_excess 10 = .ok (.invokevirtual 366, 3) := by decide +kernel
theorem dX12_excess_13 : decode cX12_excess 13 = .ok (.istore_n 1, 1) := by decide +kernel
theorem dX12_excess_14 : decode cX12_excess 14 = .ok (.aload_n 0, 1) := by decide +kernel
theorem dX12_excess_15 : decode cX12_excess 15 = .ok (.invokevirtual 342, 3) := by decide +kernel
theorem dX12_excess_18 : decode cX12_excess 18 = .ok (.istore_n 2, 1) := by decide +kernel
theorem dX12_excess_19 : decode cX12_excess 19 = .ok (.iload_n 1, 1) := by decide +kernel
theorem dX12_excess_20 : decode cX12_excess 20 = .ok (.iload_n 2, 1) := by decide +kernel
theorem dX12_excess_21 : decode cX12_excess 21 = .ok (.invokestatic 389, 3) := by decide +kernel
theorem dX12_excess_24 : decode cX12_excess 24 = .ok (.ifCond .eq 17, 3) := by decide +kernel
theorem dX12_excess_27 : decode cX12_excess 27 = .ok (.aload_n 0, 1) := by decide +kernel
theorem dX12_excess_28 : decode cX12_excess 28 = .ok (.getfield 271, 3) := by decide +kernel
theorem dX12_excess_31 : decode cX12_excess 31 = .ok (.i2l, 1) := by decide +kernel
theorem dX12_excess_32 : decode cX12_excess 32 = .ok (.iload_n 1, 1) := by decide +kernel
theorem dX12_excess_33 : decode cX12_excess 33 = .ok (.iload_n 2, 1) := by decide +kernel
theorem dX12_excess_34 : decode cX12_excess 34 = .ok (.invokestatic 392, 3) := by decide +kernel
theorem dX12_excess_37 : decode cX12_excess 37 = .ok (.lsub, 1) := by decide +kernel
theorem dX12_excess_38 : decode cX12_excess 38 = .ok (.goto 6, 3) := by decide +kernel
theorem dX12_excess_41 : decode cX12_excess 41 = .ok (.ldc2_w 398, 3) := by decide +kernel
theorem dX12_excess_44 : decode cX12_excess 44 = .ok (.lreturn, 1) := by decide +kernel
def wX12_excess (f : Nat) (Φ : Int → aj_M → Prop) (q0 : List Nat) (m : aj_M) : Prop := ∀ m1, m1 = aj_u m q0 0 0 → wX12_laysNet f (fun m2 => wX12_regularNow f (fun z2 m3 => wX12_girthNow f (fun z3 m4 => wX12_isBound f (fun z4 m5 => rI z4 ∧ (z4 = 0 → Φ (-1) m5) ∧ (¬ (z4 = 0) → rI (m5 q0 23) ∧ wX12_boundOf f (fun z5 m6 => Φ ((m5 q0 23) - z5) m6) z2 z3 m5)) z2 z3 m4) q0 m3) q0 m2) q0 m1
set_option maxHeartbeats 4000000 in
set_option maxRecDepth 100000 in
theorem sX12_excess {n f : Nat} {Φ : Int → aj_M → Prop} {q0 : List Nat} {m : aj_M} (hq0 : (.inl (12, q0) : aj_R) ∈ aj_pls) (h : wX12_excess f Φ q0 m) : aj_Ct (n + 6) yX12_excess cX12_excess 3 (some .long) [vO 12 q0] m (fun r m => ∃ z, r = some (vL z) ∧ Φ z m) := by
  refine aj_met (lv := [some (vO 12 q0), none, none]) (by decide +kernel) rfl (Nat.le_of_ble_eq_true rfl) (fun X C K => ?_)
  unfold wX12_excess at h
  refine aj_aload_n C dX12_excess_0 rfl ?_
  refine aj_iconst C dX12_excess_1 ?_
  refine aj_putI C fpX12_1 hq0 rfl dX12_excess_2 ?_
  refine aj_nm (fun m1 e1 => ?_)
  have h := h m1 e1
  refine aj_aload_n C dX12_excess_5 rfl ?_
  refine aj_callV (rest := []) C mvX12_336 (sX12_laysNet hq0 h) hq0 (aj_np 0 (by decide +kernel) rfl) (Nat.le_of_ble_eq_true rfl) rfl dX12_excess_6 (fun r m2 h => ?_)
  obtain ⟨rfl, h⟩ := h
  refine aj_aload_n C dX12_excess_9 rfl ?_
  refine aj_callV (rest := []) C mvX12_366 (sX12_regularNow hq0 h) hq0 (aj_np 0 (by decide +kernel) rfl) (Nat.le_of_ble_eq_true rfl) rfl dX12_excess_10 (fun r m3 h => ?_)
  obtain ⟨z2, rfl, h⟩ := h
  refine aj_istore_n (lv' := [some (vO 12 q0), some (vI z2), none]) C dX12_excess_13 (by decide) rfl ?_
  refine aj_aload_n C dX12_excess_14 rfl ?_
  refine aj_callV (rest := []) C mvX12_342 (sX12_girthNow hq0 h) hq0 (aj_np 0 (by decide +kernel) rfl) (Nat.le_of_ble_eq_true rfl) rfl dX12_excess_15 (fun r m4 h => ?_)
  obtain ⟨z3, rfl, h⟩ := h
  refine aj_istore_n (lv' := [some (vO 12 q0), some (vI z2), some (vI z3)]) C dX12_excess_18 (by decide) rfl ?_
  refine aj_iload_n C dX12_excess_19 rfl ?_
  refine aj_iload_n C dX12_excess_20 rfl ?_
  refine aj_callS (rest := []) C msX12_389 (sX12_isBound  h) (aj_np 2 (by decide +kernel) rfl) (Nat.le_of_ble_eq_true rfl) rfl dX12_excess_21 (fun r m5 h => ?_)
  obtain ⟨z4, rfl, h⟩ := h
  obtain ⟨r0, h1, h2⟩ := h
  refine aj_if_eq (tgt := 41) C dX12_excess_24 (by decide) r0 (fun e => ?_) (fun e => ?_)
  · have h := h1 e
    refine aj_ldc2 (z := (-1)) C (wd2033) rfl dX12_excess_41 ?_
    exact aj_lret C K dX12_excess_44 ⟨_, rfl, h⟩
  · have h := h2 e
    refine aj_aload_n C dX12_excess_27 rfl ?_
    refine aj_getI C flX12_271 hq0 (by decide) dX12_excess_28 rfl ?_
    obtain ⟨r0, h⟩ := h
    refine aj_i2l C dX12_excess_31 r0 ?_
    refine aj_iload_n C dX12_excess_32 rfl ?_
    refine aj_iload_n C dX12_excess_33 rfl ?_
    refine aj_callS (rest := [vL (m5 q0 23)]) C msX12_392 (sX12_boundOf  h) (aj_np 2 (by decide +kernel) rfl) (Nat.le_of_ble_eq_true rfl) rfl dX12_excess_34 (fun r m6 h => ?_)
    obtain ⟨z5, rfl, h⟩ := h
    refine aj_lsub C dX12_excess_37 ?_
    refine aj_goto (tgt := 44) C dX12_excess_38 (by decide) ?_
    exact aj_lret C K dX12_excess_44 ⟨_, rfl, h⟩
