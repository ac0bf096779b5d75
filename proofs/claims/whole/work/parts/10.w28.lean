theorem dX12_goesLots_0 : decode cX12_goesLots 0 = .ok (.iload_n 2, 1) := by decide +kernel
theorem dX12_goesLots_1 : decode cX12_goesLots 1 = .ok (.ifCond .ne 60, 3) := by decide +kernel
theorem dX12_goesLots_4 : decode cX12_goesLots 4 = .ok (.aload_n 0, 1) := by decide +kernel
theorem dX12_goesLots_5 : decode cX12_goesLots 5 = .ok (.invokevirtual 336, 3) := by decide +kernel
theorem dX12_goesLots_8 : decode cX12_goesLots 8 = .ok (.aload_n 0, 1) := by decide +kernel
theorem dX12_goesLots_9 : decode cX12_goesLots 9 = .ok (.invokevirtual 342, 3) := by decide +kernel
theorem dX12_goesLots_12 : decode cX12_goesLots 12 = .ok (.istore 5, 2) := by decide +kernel
theorem dX12_goesLots_14 : decode cX12_goesLots 14 = .ok (.aload_n 0, 1) := by decide +kernel
theorem dX12_goesLots_15 : decode cX12_goesLots 15 = .ok (.dup, 1) := by decide +kernel
theorem dX12_goesLots_16 : decode cX12_goesLots 16 = .ok (.getfield 477, 3) := by decide +kernel
theorem dX12_goesLots_19 : decode cX12_goesLots 19 = .ok (.iload 5, 2) := by decide +kernel
theorem dX12_goesLots_21 : decode cX12_goesLots 21 = .ok (.iload_n 1, 1) := by decide +kernel
theorem dX12_goesLots_22 : decode cX12_goesLots 22 = .ok (.if_icmp .lt 7, 3) := by decide +kernel
theorem dX12_goesLots_25 : decode cX12_goesLots 25 = .ok (.lload_n 3, 1) := by decide +kernel
theorem dX12_goesLots_26 : decode cX12_goesLots 26 = .ok (.goto 4, 3) := by decide +kernel
theorem dX12_goesLots_29 : decode cX12_goesLots 29 = .ok (.lconst 0, 1) := by decide +kernel
theorem dX12_goesLots_30 : decode cX12_goesLots 30 = .ok (.ladd, 1) := by decide +kernel
theorem dX12_goesLots_31 : decode cX12_goesLots 31 = .ok (.putfield 477, 3) := by decide +kernel
theorem dX12_goesLots_34 : decode cX12_goesLots 34 = .ok (.aload_n 0, 1) := by decide +kernel
theorem dX12_goesLots_35 : decode cX12_goesLots 35 = .ok (.dup, 1) := by decide +kernel
theorem dX12_goesLots_36 : decode cX12_goesLots 36 = .ok (.getfield 481, 3) := by decide +kernel
theorem dX12_goesLots_39 : decode cX12_goesLots 39 = .ok (.iload 5, 2) := by decide +kernel
theorem dX12_goesLots_41 : decode cX12_goesLots 41 = .ok (.ldc_w 281, 3) := by decide +kernel
theorem dX12_goesLots_44 : decode cX12_goesLots 44 = .ok (.if_icmp .ne 7, 3) := by decide +kernel
theorem dX12_goesLots_47 : decode cX12_goesLots 47 = .ok (.lconst 0, 1) := by decide +kernel
theorem dX12_goesLots_48 : decode cX12_goesLots 48 = .ok (.goto 8, 3) := by decide +kernel
theorem dX12_goesLots_51 : decode cX12_goesLots 51 = .ok (.lload_n 3, 1) := by decide +kernel
theorem dX12_goesLots_52 : decode cX12_goesLots 52 = .ok (.iload 5, 2) := by decide +kernel
theorem dX12_goesLots_54 : decode cX12_goesLots 54 = .ok (.i2l, 1) := by decide +kernel
theorem dX12_goesLots_55 : decode cX12_goesLots 55 = .ok (.lmul, 1) := by decide +kernel
theorem dX12_goesLots_56 : decode cX12_goesLots 56 = .ok (.ladd, 1) := by decide +kernel
theorem dX12_goesLots_57 : decode cX12_goesLots 57 = .ok (.putfield 481, 3) := by decide +kernel
theorem dX12_goesLots_60 : decode cX12_goesLots 60 = .ok (.return_, 1) := by decide +kernel
theorem dX12_goesLots_61 : decode cX12_goesLots 61 = .ok (.bipush 10, 2) := by decide +kernel
theorem dX12_goesLots_63 : decode cX12_goesLots 63 = .ok (.istore 5, 2) := by decide +kernel
theorem dX12_goesLots_65 : decode cX12_goesLots 65 = .ok (.iconst 0, 1) := by decide +kernel
theorem dX12_goesLots_66 : decode cX12_goesLots 66 = .ok (.istore 6, 2) := by decide +kernel
theorem dX12_goesLots_68 : decode cX12_goesLots 68 = .ok (.iload 6, 2) := by decide +kernel
theorem dX12_goesLots_70 : decode cX12_goesLots 70 = .ok (.bipush 10, 2) := by decide +kernel
theorem dX12_goesLots_72 : decode cX12_goesLots 72 = .ok (.if_icmp .ge 99, 3) := by decide +kernel
theorem dX12_goesLots_75 : decode cX12_goesLots 75 = .ok (.aload_n 0, 1) := by decide +kernel
theorem dX12_goesLots_76 : decode cX12_goesLots 76 = .ok (.iload 6, 2) := by decide +kernel
theorem dX12_goesLots_78 : decode cX12_goesLots 78 = .ok (.i2l, 1) := by decide +kernel
theorem dX12_goesLots_79 : decode cX12_goesLots 79 = .ok (.invokevirtual 291, 3) := by decide +kernel
theorem dX12_goesLots_82 : decode cX12_goesLots 82 = .ok (.ifCond .eq 83, 3) := by decide +kernel
theorem dX12_goesLots_85 : decode cX12_goesLots 85 = .ok (.aload_n 0, 1) := by decide +kernel
theorem dX12_goesLots_86 : decode cX12_goesLots 86 = .ok (.getfield 13, 3) := by decide +kernel
theorem dX12_goesLots_89 : decode cX12_goesLots 89 = .ok (.bipush 37, 2) := by decide +kernel
theorem dX12_goesLots_91 : decode cX12_goesLots 91 = .ok (.iload 6, 2) := by decide +kernel
theorem dX12_goesLots_93 : decode cX12_goesLots 93 = .ok (.iadd, 1) := by decide +kernel
theorem dX12_goesLots_94 : decode cX12_goesLots 94 = .ok (.iaload, 1) := by decide +kernel
theorem dX12_goesLots_95 : decode cX12_goesLots 95 = .ok (.iconst 1, 1) := by decide +kernel
theorem dX12_goesLots_96 : decode cX12_goesLots 96 = .ok (.if_icmp .eq 69, 3) := by decide +kernel
theorem dX12_goesLots_99 : decode cX12_goesLots 99 = .ok (.aload_n 0, 1) := by decide +kernel
theorem dX12_goesLots_100 : decode cX12_goesLots 100 = .ok (.getfield 13, 3) := by decide +kernel
theorem dX12_goesLots_103 : decode cX12_goesLots 103 = .ok (.iconst 4, 1) := by decide +kernel
theorem dX12_goesLots_104 : decode cX12_goesLots 104 = .ok (.iaload, 1) := by decide +kernel
theorem dX12_goesLots_105 : decode cX12_goesLots 105 = .ok (.iconst 1, 1) := by decide +kernel
theorem dX12_goesLots_106 : decode cX12_goesLots 106 = .ok (.if_icmp .ne 6, 3) := by decide +kernel
theorem dX12_goesLots_109 : decode cX12_goesLots 109 = .ok (.goto 56, 3) := by decide +kernel
theorem dX12_goesLots_112 : decode cX12_goesLots 112 = .ok (.aload_n 0, 1) := by decide +kernel
theorem dX12_goesLots_113 : decode cX12_goesLots 113 = .ok (.getfield 13, 3) := by decide +kernel
theorem dX12_goesLots_116 : decode cX12_goesLots 116 = .ok (.bipush 49, 2) := by decide +kernel
theorem dX12_goesLots_118 : decode cX12_goesLots 118 = .ok (.iload 6, 2) := by decide +kernel
theorem dX12_goesLots_120 : decode cX12_goesLots 120 = .ok (.iadd, 1) := by decide +kernel
theorem dX12_goesLots_121 : decode cX12_goesLots 121 = .ok (.iaload, 1) := by decide +kernel
theorem dX12_goesLots_122 : decode cX12_goesLots 122 = .ok (.istore 7, 2) := by decide +kernel
theorem dX12_goesLots_124 : decode cX12_goesLots 124 = .ok (.aload_n 0, 1) := by decide +kernel
theorem dX12_goesLots_125 : decode cX12_goesLots 125 = .ok (.getfield 13, 3) := by decide +kernel
theorem dX12_goesLots_128 : decode cX12_goesLots 128 = .ok (.bipush 49, 2) := by decide +kernel
theorem dX12_goesLots_130 : decode cX12_goesLots 130 = .ok (.iload 6, 2) := by decide +kernel
theorem dX12_goesLots_132 : decode cX12_goesLots 132 = .ok (.iadd, 1) := by decide +kernel
theorem dX12_goesLots_133 : decode cX12_goesLots 133 = .ok (.aload_n 0, 1) := by decide +kernel
theorem dX12_goesLots_134 : decode cX12_goesLots 134 = .ok (.iload 7, 2) := by decide +kernel
theorem dX12_goesLots_136 : decode cX12_goesLots 136 = .ok (.iconst 1, 1) := by decide +kernel
theorem dX12_goesLots_137 : decode cX12_goesLots 137 = .ok (.invokevirtual 202, 3) := by decide +kernel
theorem dX12_goesLots_140 : decode cX12_goesLots 140 = .ok (.iastore, 1) := by decide +kernel
theorem dX12_goesLots_141 : decode cX12_goesLots 141 = .ok (.aload_n 0, 1) := by decide +kernel
theorem dX12_goesLots_142 : decode cX12_goesLots 142 = .ok (.iload_n 1, 1) := by decide +kernel
theorem dX12_goesLots_143 : decode cX12_goesLots 143 = .ok (.iload_n 2, 1) := by decide +kernel
theorem dX12_goesLots_144 : decode cX12_goesLots 144 = .ok (.iconst 1, 1) := by decide +kernel
theorem dX12_goesLots_145 : decode cX12_goesLots 145 = .ok (.isub, 1) := by decide +kernel
theorem dX12_goesLots_146 : decode cX12_goesLots 146 = .ok (.lload_n 3, 1) := by decide +kernel
theorem dX12_goesLots_147 : decode cX12_goesLots 147 = .ok (.invokevirtual 484, 3) := by decide +kernel
theorem dX12_goesLots_150 : decode cX12_goesLots 150 = .ok (.aload_n 0, 1) := by decide +kernel
theorem dX12_goesLots_151 : decode cX12_goesLots 151 = .ok (.getfield 13, 3) := by decide +kernel
theorem dX12_goesLots_154 : decode cX12_goesLots 154 = .ok (.bipush 49, 2) := by decide +kernel
theorem dX12_goesLots_156 : decode cX12_goesLots 156 = .ok (.iload 6, 2) := by decide +kernel
theorem dX12_goesLots_158 : decode cX12_goesLots 158 = .ok (.iadd, 1) := by decide +kernel
theorem dX12_goesLots_159 : decode cX12_goesLots 159 = .ok (.iload 7, 2) := by decide +kernel
theorem dX12_goesLots_161 : decode cX12_goesLots 161 = .ok (.iastore, 1) := by decide +kernel
theorem dX12_goesLots_162 : decode cX12_goesLots 162 = .ok (.iinc 5 (-1), 3) := by decide +kernel
theorem dX12_goesLots_165 : decode cX12_goesLots 165 = .ok (.iinc 6 1, 3) := by decide +kernel
theorem dX12_goesLots_168 : decode cX12_goesLots 168 = .ok (.goto (-100), 3) := by decide +kernel
theorem dX12_goesLots_171 : decode cX12_goesLots 171 = .ok (.iload 5, 2) := by decide +kernel
theorem dX12_goesLots_173 : decode cX12_goesLots 173 = .ok (.ifCond .le 16, 3) := by decide +kernel
theorem dX12_goesLots_176 : decode cX12_goesLots 176 = .ok (.aload_n 0, 1) := by decide +kernel
theorem dX12_goesLots_177 : decode cX12_goesLots 177 = .ok (.iload_n 1, 1) := by decide +kernel
theorem dX12_goesLots_178 : decode cX12_goesLots 178 = .ok (.iload_n 2, 1) := by decide +kernel
theorem dX12_goesLots_179 : decode cX12_goesLots 179 = .ok (.iconst 1, 1) := by decide +kernel
theorem dX12_goesLots_180 : decode cX12_goesLots 180 = .ok (.isub, 1) := by decide +kernel
theorem dX12_goesLots_181 : decode cX12_goesLots 181 = .ok (.lload_n 3, 1) := by decide +kernel
theorem dX12_goesLots_182 : decode cX12_goesLots 182 = .ok (.iload 5, 2) := by decide +kernel
theorem dX12_goesLots_184 : decode cX12_goesLots 184 = .ok (.i2l, 1) := by decide +kernel
theorem dX12_goesLots_185 : decode cX12_goesLots 185 = .ok (.lmul, 1) := by decide +kernel
theorem dX12_goesLots_186 : decode cX12_goesLots 186 = .ok (.invokevirtual 484, 3) := by decide +kernel
theorem dX12_goesLots_189 : decode cX12_goesLots 189 = .ok (.return_, 1) := by decide +kernel
def hX12_goesLots_68 (f : Nat) (Φ : aj_M → Prop) (R : Nat → (aj_M → Prop) → List Nat → Int → Int → Int → aj_M → Prop) : Nat → List Nat → Int → Int → Int → Int → Int → aj_M → Prop
  | 0, _, _, _, _, _, _, _ => False
  | k + 1, q0, v1, v2, w3, v5, v6, m => rI v6 ∧ (10 ≤ v6 → rI v5 ∧ (v5 ≤ 0 → Φ m) ∧ (¬ (v5 ≤ 0) → rI v5 ∧ R 0 (fun m1 => Φ m1) q0 v1 (v2 - 1) (w3 * v5) m)) ∧ (¬ (10 ≤ v6) → rI v6 ∧ wX12_isArc f (fun z2 m2 => rI z2 ∧ (z2 = 0 → hX12_goesLots_68 f Φ R k q0 v1 v2 w3 v5 (v6 + 1) m2) ∧ (¬ (z2 = 0) → (0 ≤ (37 + v6) ∧ (37 + v6) < 3315) ∧ rI (m2 (1 :: q0) (37 + v6).toNat) ∧ ((m2 (1 :: q0) (37 + v6).toNat) = 1 → hX12_goesLots_68 f Φ R k q0 v1 v2 w3 v5 (v6 + 1) m2) ∧ (¬ ((m2 (1 :: q0) (37 + v6).toNat) = 1) → rI (m2 (1 :: q0) (4 : Int).toNat) ∧ (¬ (m2 (1 :: q0) (4 : Int).toNat) = 1 → (0 ≤ (49 + v6) ∧ (49 + v6) < 3315) ∧ wX12_timesNow f (fun z3 m3 => (0 ≤ (49 + v6) ∧ (49 + v6) < 3315) ∧ ∀ m4, m4 = aj_u m3 (1 :: q0) (49 + v6).toNat z3 → R 0 (fun m5 => (0 ≤ (49 + v6) ∧ (49 + v6) < 3315) ∧ ∀ m6, m6 = aj_u m5 (1 :: q0) (49 + v6).toNat (m2 (1 :: q0) (49 + v6).toNat) → hX12_goesLots_68 f Φ R k q0 v1 v2 w3 (v5 + (-1)) (v6 + 1) m6) q0 v1 (v2 - 1) w3 m4) q0 (m2 (1 :: q0) (49 + v6).toNat) 1 m2) ∧ ((m2 (1 :: q0) (4 : Int).toNat) = 1 → hX12_goesLots_68 f Φ R k q0 v1 v2 w3 v5 (v6 + 1) m2)))) q0 v6 m)
set_option maxHeartbeats 4000000 in
set_option maxRecDepth 100000 in
theorem tX12_goesLots_68 {X : aj_T} {n f : Nat} {Φ : aj_M → Prop} (C : aj_Cx X cX12_goesLots RX12 8 (n + 6)) (K : aj_Rt X none (fun r m => r = none ∧ Φ m)) {R : Nat → (aj_M → Prop) → List Nat → Int → Int → Int → aj_M → Prop} (HR0 : ∀ (Φ : aj_M → Prop) (q0 : List Nat) (v1 : Int) (v2 : Int) (w3 : Int) (m : aj_M) (hq0 : (.inl (12, q0) : aj_R) ∈ aj_pls), R 0 Φ q0 v1 v2 w3 m → aj_Ct (n + 5) yX12_goesLots cX12_goesLots 8 none [vO 12 q0, vI v1, vI v2, vL w3] m (fun r m => r = none ∧ Φ m)) : ∀ (k : Nat) (q0 : List Nat) (v1 : Int) (v2 : Int) (w3 : Int) (v5 : Int) (v6 : Int) (m : aj_M) (hq0 : (.inl (12, q0) : aj_R) ∈ aj_pls), hX12_goesLots_68 f Φ R k q0 v1 v2 w3 v5 v6 m → aj_J X 68 [some (vO 12 q0), some (vI v1), some (vI v2), some (vL w3), none, some (vI v5), some (vI v6), none] [] m := by
  intro k
  induction k with
  | zero =>
    intro q0 v1 v2 w3 v5 v6 m _ h
    exact h.elim
  | succ k ih =>
    intro q0 v1 v2 w3 v5 v6 m hq0 h
    unfold hX12_goesLots_68 at h
    refine aj_iload C dX12_goesLots_68 rfl ?_
    refine aj_bipush C dX12_goesLots_70 (by decide) ?_
    obtain ⟨r0, h1, h2⟩ := h
    refine aj_icmp_ge (tgt := 171) C dX12_goesLots_72 (by decide) r0 (by decide) (fun e => ?_) (fun e => ?_)
    · have h := h1 e
      refine aj_iload C dX12_goesLots_171 rfl ?_
      obtain ⟨r0, h1, h2⟩ := h
      refine aj_if_le (tgt := 189) C dX12_goesLots_173 (by decide) r0 (fun e => ?_) (fun e => ?_)
      · have h := h1 e
        exact aj_vret C K dX12_goesLots_189 ⟨rfl, h⟩
      · have h := h2 e
        refine aj_aload_n C dX12_goesLots_176 rfl ?_
        refine aj_iload_n C dX12_goesLots_177 rfl ?_
        refine aj_iload_n C dX12_goesLots_178 rfl ?_
        refine aj_iconst C dX12_goesLots_179 ?_
        refine aj_isub C dX12_goesLots_180 ?_
        refine aj_lload_n C dX12_goesLots_181 rfl ?_
        refine aj_iload C dX12_goesLots_182 rfl ?_
        obtain ⟨r0, h⟩ := h
        refine aj_i2l C dX12_goesLots_184 r0 ?_
        refine aj_lmul C dX12_goesLots_185 ?_
        refine aj_callV (rest := []) C mvX12_484 (HR0 _ q0 v1 (v2 - 1) (w3 * v5) _ hq0 h) hq0 (aj_np 3 (by decide +kernel) rfl) (Nat.le_of_ble_eq_true rfl) rfl dX12_goesLots_186 (fun r m1 h => ?_)
        obtain ⟨rfl, h⟩ := h
        exact aj_vret C K dX12_goesLots_189 ⟨rfl, h⟩
    · have h := h2 e
      refine aj_aload_n C dX12_goesLots_75 rfl ?_
      refine aj_iload C dX12_goesLots_76 rfl ?_
      obtain ⟨r0, h⟩ := h
      refine aj_i2l C dX12_goesLots_78 r0 ?_
      refine aj_callV (rest := []) C mvX12_291 (sX12_isArc hq0 h) hq0 (aj_np 1 (by decide +kernel) rfl) (Nat.le_of_ble_eq_true rfl) rfl dX12_goesLots_79 (fun r m2 h => ?_)
      obtain ⟨z2, rfl, h⟩ := h
      obtain ⟨r0, h1, h2⟩ := h
      refine aj_if_eq (tgt := 165) C dX12_goesLots_82 (by decide) r0 (fun e => ?_) (fun e => ?_)
      · have h := h1 e
        refine aj_iinc (lv' := [some (vO 12 q0), some (vI v1), some (vI v2), some (vL w3), none, some (vI v5), some (vI (v6 + 1)), none]) C dX12_goesLots_165 rfl (by decide) rfl ?_
        refine aj_goto (tgt := 68) C dX12_goesLots_168 (by decide) ?_
        exact ih q0 v1 v2 w3 v5 (v6 + 1) _ hq0 h
      · have h := h2 e
        refine aj_aload_n C dX12_goesLots_85 rfl ?_
        refine aj_getA (x := 0) (y := 3315) C flX12_13 hq0 rfl dX12_goesLots_86 ?_
        refine aj_bipush C dX12_goesLots_89 (by decide) ?_
        refine aj_iload C dX12_goesLots_91 rfl ?_
        refine aj_iadd C dX12_goesLots_93 ?_
        obtain ⟨r0, h⟩ := h
        refine aj_iald C (aj_ca (e := 0) (n := 3315) (j := 1) hq0 (by decide) rfl) (by decide) r0 dX12_goesLots_94 rfl ?_
        refine aj_iconst C dX12_goesLots_95 ?_
        obtain ⟨r0, h1, h2⟩ := h
        refine aj_icmp_eq (tgt := 165) C dX12_goesLots_96 (by decide) r0 (by decide) (fun e => ?_) (fun e => ?_)
        · have h := h1 e
          refine aj_iinc (lv' := [some (vO 12 q0), some (vI v1), some (vI v2), some (vL w3), none, some (vI v5), some (vI (v6 + 1)), none]) C dX12_goesLots_165 rfl (by decide) rfl ?_
          refine aj_goto (tgt := 68) C dX12_goesLots_168 (by decide) ?_
          exact ih q0 v1 v2 w3 v5 (v6 + 1) _ hq0 h
        · have h := h2 e
          refine aj_aload_n C dX12_goesLots_99 rfl ?_
          refine aj_getA (x := 0) (y := 3315) C flX12_13 hq0 rfl dX12_goesLots_100 ?_
          refine aj_iconst C dX12_goesLots_103 ?_
          refine aj_iald C (aj_ca (e := 0) (n := 3315) (j := 1) hq0 (by decide) rfl) (by decide) (by decide) dX12_goesLots_104 rfl ?_
          refine aj_iconst C dX12_goesLots_105 ?_
          obtain ⟨r0, h1, h2⟩ := h
          refine aj_icmp_ne (tgt := 112) C dX12_goesLots_106 (by decide) r0 (by decide) (fun e => ?_) (fun e => ?_)
          · have h := h1 e
            refine aj_aload_n C dX12_goesLots_112 rfl ?_
            refine aj_getA (x := 0) (y := 3315) C flX12_13 hq0 rfl dX12_goesLots_113 ?_
            refine aj_bipush C dX12_goesLots_116 (by decide) ?_
            refine aj_iload C dX12_goesLots_118 rfl ?_
            refine aj_iadd C dX12_goesLots_120 ?_
            obtain ⟨r0, h⟩ := h
            refine aj_iald C (aj_ca (e := 0) (n := 3315) (j := 1) hq0 (by decide) rfl) (by decide) r0 dX12_goesLots_121 rfl ?_
            refine aj_istore (lv' := [some (vO 12 q0), some (vI v1), some (vI v2), some (vL w3), none, some (vI v5), some (vI v6), some (vI (m2 (1 :: q0) (49 + v6).toNat))]) C dX12_goesLots_122 (by decide) rfl ?_
            refine aj_aload_n C dX12_goesLots_124 rfl ?_
            refine aj_getA (x := 0) (y := 3315) C flX12_13 hq0 rfl dX12_goesLots_125 ?_
            refine aj_bipush C dX12_goesLots_128 (by decide) ?_
            refine aj_iload C dX12_goesLots_130 rfl ?_
            refine aj_iadd C dX12_goesLots_132 ?_
            refine aj_aload_n C dX12_goesLots_133 rfl ?_
            refine aj_iload C dX12_goesLots_134 rfl ?_
            refine aj_iconst C dX12_goesLots_136 ?_
            refine aj_callV (rest := [vI (49 + v6), vA 0 3315 (1 :: q0)]) C mvX12_202 (sX12_timesNow hq0 h) hq0 (aj_np 2 (by decide +kernel) rfl) (Nat.le_of_ble_eq_true rfl) rfl dX12_goesLots_137 (fun r m3 h => ?_)
            obtain ⟨z3, rfl, h⟩ := h
            obtain ⟨r0, h⟩ := h
            refine aj_iast C (aj_ca (e := 0) (n := 3315) (j := 1) hq0 (by decide) rfl) (by decide) r0 dX12_goesLots_140 ?_
            refine aj_nm (fun m4 e1 => ?_)
            have h := h m4 e1
            refine aj_aload_n C dX12_goesLots_141 rfl ?_
            refine aj_iload_n C dX12_goesLots_142 rfl ?_
            refine aj_iload_n C dX12_goesLots_143 rfl ?_
            refine aj_iconst C dX12_goesLots_144 ?_
            refine aj_isub C dX12_goesLots_145 ?_
            refine aj_lload_n C dX12_goesLots_146 rfl ?_
            refine aj_callV (rest := []) C mvX12_484 (HR0 _ q0 v1 (v2 - 1) w3 _ hq0 h) hq0 (aj_np 3 (by decide +kernel) rfl) (Nat.le_of_ble_eq_true rfl) rfl dX12_goesLots_147 (fun r m5 h => ?_)
            obtain ⟨rfl, h⟩ := h
            refine aj_aload_n C dX12_goesLots_150 rfl ?_
            refine aj_getA (x := 0) (y := 3315) C flX12_13 hq0 rfl dX12_goesLots_151 ?_
            refine aj_bipush C dX12_goesLots_154 (by decide) ?_
            refine aj_iload C dX12_goesLots_156 rfl ?_
            refine aj_iadd C dX12_goesLots_158 ?_
            refine aj_iload C dX12_goesLots_159 rfl ?_
            obtain ⟨r0, h⟩ := h
            refine aj_iast C (aj_ca (e := 0) (n := 3315) (j := 1) hq0 (by decide) rfl) (by decide) r0 dX12_goesLots_161 ?_
            refine aj_nm (fun m6 e1 => ?_)
            have h := h m6 e1
            refine aj_iinc (lv' := [some (vO 12 q0), some (vI v1), some (vI v2), some (vL w3), none, some (vI (v5 + (-1))), some (vI v6), some (vI (m2 (1 :: q0) (49 + v6).toNat))]) C dX12_goesLots_162 rfl (by decide) rfl ?_
            refine aj_iinc (lv' := [some (vO 12 q0), some (vI v1), some (vI v2), some (vL w3), none, some (vI (v5 + (-1))), some (vI (v6 + 1)), some (vI (m2 (1 :: q0) (49 + v6).toNat))]) C dX12_goesLots_165 rfl (by decide) rfl ?_
            refine aj_goto (tgt := 68) C dX12_goesLots_168 (by decide) ?_
            refine aj_wk (lv' := [some (vO 12 q0), some (vI v1), some (vI v2), some (vL w3), none, some (vI (v5 + (-1))), some (vI (v6 + 1)), none]) (⟨rfl, ⟨rfl, ⟨rfl, ⟨rfl, ⟨rfl, ⟨rfl, trivial⟩⟩⟩⟩⟩⟩) ?_
            exact ih q0 v1 v2 w3 (v5 + (-1)) (v6 + 1) _ hq0 h
          · have h := h2 e
            refine aj_goto (tgt := 165) C dX12_goesLots_109 (by decide) ?_
            refine aj_iinc (lv' := [some (vO 12 q0), some (vI v1), some (vI v2), some (vL w3), none, some (vI v5), some (vI (v6 + 1)), none]) C dX12_goesLots_165 rfl (by decide) rfl ?_
            refine aj_goto (tgt := 68) C dX12_goesLots_168 (by decide) ?_
            exact ih q0 v1 v2 w3 v5 (v6 + 1) _ hq0 h
def hX12_goesLots_30 (f : Nat) (Φ : aj_M → Prop) (R : Nat → (aj_M → Prop) → List Nat → Int → Int → Int → aj_M → Prop) (q0 : List Nat) (w3 : Int) (v5 : Int) (qs0 : List Nat) (ws1 : Int) (ws2 : Int) (m : aj_M) : Prop := ∀ m1, m1 = aj_u m qs0 42 (ws1 + ws2) → rI v5 ∧ (¬ v5 = 268435456 → rI v5 ∧ ∀ m2, m2 = aj_u m1 q0 43 ((m1 q0 43) + (w3 * v5)) → Φ m2) ∧ (v5 = 268435456 → ∀ m3, m3 = aj_u m1 q0 43 ((m1 q0 43) + 0) → Φ m3)
set_option maxHeartbeats 4000000 in
set_option maxRecDepth 100000 in
theorem tX12_goesLots_30 {X : aj_T} {n f : Nat} {Φ : aj_M → Prop} (C : aj_Cx X cX12_goesLots RX12 8 (n + 6)) (K : aj_Rt X none (fun r m => r = none ∧ Φ m)) {R : Nat → (aj_M → Prop) → List Nat → Int → Int → Int → aj_M → Prop} (HR0 : ∀ (Φ : aj_M → Prop) (q0 : List Nat) (v1 : Int) (v2 : Int) (w3 : Int) (m : aj_M) (hq0 : (.inl (12, q0) : aj_R) ∈ aj_pls), R 0 Φ q0 v1 v2 w3 m → aj_Ct (n + 5) yX12_goesLots cX12_goesLots 8 none [vO 12 q0, vI v1, vI v2, vL w3] m (fun r m => r = none ∧ Φ m)) (q0 : List Nat) (w3 : Int) (v5 : Int) (qs0 : List Nat) (ws1 : Int) (ws2 : Int) (m : aj_M) (hq0 : (.inl (12, q0) : aj_R) ∈ aj_pls) (hqs0 : (.inl (12, qs0) : aj_R) ∈ aj_pls) (h : hX12_goesLots_30 f Φ R q0 w3 v5 qs0 ws1 ws2 m) : aj_J X 30 [some (vO 12 q0), none, none, some (vL w3), none, some (vI v5), none, none] [vL ws2, vL ws1, vO 12 qs0] m := by
  unfold hX12_goesLots_30 at h
  refine aj_ladd C dX12_goesLots_30 ?_
  refine aj_putL C fpX12_477 hqs0 rfl dX12_goesLots_31 ?_
  refine aj_nm (fun m1 e1 => ?_)
  have h := h m1 e1
  refine aj_aload_n C dX12_goesLots_34 rfl ?_
  refine aj_dup C aj_nR dX12_goesLots_35 ?_
  refine aj_getL C flX12_481 hq0 rfl dX12_goesLots_36 rfl ?_
  refine aj_iload C dX12_goesLots_39 rfl ?_
  refine aj_ldcw (z := 268435456) C (wd1900) rfl dX12_goesLots_41 ?_
  obtain ⟨r0, h1, h2⟩ := h
  refine aj_icmp_ne (tgt := 51) C dX12_goesLots_44 (by decide) r0 (by decide) (fun e => ?_) (fun e => ?_)
  · have h := h1 e
    refine aj_lload_n C dX12_goesLots_51 rfl ?_
    refine aj_iload C dX12_goesLots_52 rfl ?_
    obtain ⟨r0, h⟩ := h
    refine aj_i2l C dX12_goesLots_54 r0 ?_
    refine aj_lmul C dX12_goesLots_55 ?_
    refine aj_ladd C dX12_goesLots_56 ?_
    refine aj_putL C fpX12_481 hq0 rfl dX12_goesLots_57 ?_
    refine aj_nm (fun m2 e1 => ?_)
    have h := h m2 e1
    exact aj_vret C K dX12_goesLots_60 ⟨rfl, h⟩
  · have h := h2 e
    refine aj_lconst (z := 0) C dX12_goesLots_47 rfl ?_
    refine aj_goto (tgt := 56) C dX12_goesLots_48 (by decide) ?_
    refine aj_ladd C dX12_goesLots_56 ?_
    refine aj_putL C fpX12_481 hq0 rfl dX12_goesLots_57 ?_
    refine aj_nm (fun m3 e1 => ?_)
    have h := h m3 e1
    exact aj_vret C K dX12_goesLots_60 ⟨rfl, h⟩
def wbX12_goesLots (f : Nat) (Φ : aj_M → Prop) (R : Nat → (aj_M → Prop) → List Nat → Int → Int → Int → aj_M → Prop) (q0 : List Nat) (v1 : Int) (v2 : Int) (w3 : Int) (m : aj_M) : Prop := rI v2 ∧ (¬ v2 = 0 → hX12_goesLots_68 f Φ R f q0 v1 v2 w3 10 0 m) ∧ (v2 = 0 → wX12_laysNet f (fun m1 => wX12_girthNow f (fun z2 m2 => rI z2 ∧ rI v1 ∧ (z2 < v1 → hX12_goesLots_30 f Φ R q0 w3 z2 q0 (m2 q0 42) 0 m2) ∧ (¬ (z2 < v1) → hX12_goesLots_30 f Φ R q0 w3 z2 q0 (m2 q0 42) w3 m2)) q0 m1) q0 m)
set_option maxHeartbeats 4000000 in
set_option maxRecDepth 100000 in
theorem sbX12_goesLots {n f : Nat} {Φ : aj_M → Prop} {R : Nat → (aj_M → Prop) → List Nat → Int → Int → Int → aj_M → Prop} (HR0 : ∀ (Φ : aj_M → Prop) (q0 : List Nat) (v1 : Int) (v2 : Int) (w3 : Int) (m : aj_M) (hq0 : (.inl (12, q0) : aj_R) ∈ aj_pls), R 0 Φ q0 v1 v2 w3 m → aj_Ct (n + 5) yX12_goesLots cX12_goesLots 8 none [vO 12 q0, vI v1, vI v2, vL w3] m (fun r m => r = none ∧ Φ m)) {q0 : List Nat} {v1 : Int} {v2 : Int} {w3 : Int} {m : aj_M} (hq0 : (.inl (12, q0) : aj_R) ∈ aj_pls) (h : wbX12_goesLots f Φ R q0 v1 v2 w3 m) : aj_Ct (n + 6) yX12_goesLots cX12_goesLots 8 none [vO 12 q0, vI v1, vI v2, vL w3] m (fun r m => r = none ∧ Φ m) := by
  refine aj_met (lv := [some (vO 12 q0), some (vI v1), some (vI v2), some (vL w3), none, none, none, none]) (by decide +kernel) rfl (Nat.le_of_ble_eq_true rfl) (fun X C K => ?_)
  unfold wbX12_goesLots at h
  refine aj_iload_n C dX12_goesLots_0 rfl ?_
  obtain ⟨r0, h1, h2⟩ := h
  refine aj_if_ne (tgt := 61) C dX12_goesLots_1 (by decide) r0 (fun e => ?_) (fun e => ?_)
  · have h := h1 e
    refine aj_bipush C dX12_goesLots_61 (by decide) ?_
    refine aj_istore (lv' := [some (vO 12 q0), some (vI v1), some (vI v2), some (vL w3), none, some (vI 10), none, none]) C dX12_goesLots_63 (by decide) rfl ?_
    refine aj_iconst C dX12_goesLots_65 ?_
    refine aj_istore (lv' := [some (vO 12 q0), some (vI v1), some (vI v2), some (vL w3), none, some (vI 10), some (vI 0), none]) C dX12_goesLots_66 (by decide) rfl ?_
    exact tX12_goesLots_68 C K HR0 f q0 v1 v2 w3 10 0 _ hq0 h
  · have h := h2 e
    refine aj_aload_n C dX12_goesLots_4 rfl ?_
    refine aj_callV (rest := []) C mvX12_336 (sX12_laysNet hq0 h) hq0 (aj_np 0 (by decide +kernel) rfl) (Nat.le_of_ble_eq_true rfl) rfl dX12_goesLots_5 (fun r m1 h => ?_)
    obtain ⟨rfl, h⟩ := h
    refine aj_aload_n C dX12_goesLots_8 rfl ?_
    refine aj_callV (rest := []) C mvX12_342 (sX12_girthNow hq0 h) hq0 (aj_np 0 (by decide +kernel) rfl) (Nat.le_of_ble_eq_true rfl) rfl dX12_goesLots_9 (fun r m2 h => ?_)
    obtain ⟨z2, rfl, h⟩ := h
    refine aj_istore (lv' := [some (vO 12 q0), some (vI v1), some (vI v2), some (vL w3), none, some (vI z2), none, none]) C dX12_goesLots_12 (by decide) rfl ?_
    refine aj_aload_n C dX12_goesLots_14 rfl ?_
    refine aj_dup C aj_nR dX12_goesLots_15 ?_
    refine aj_getL C flX12_477 hq0 rfl dX12_goesLots_16 rfl ?_
    refine aj_iload C dX12_goesLots_19 rfl ?_
    refine aj_iload_n C dX12_goesLots_21 rfl ?_
    obtain ⟨r0, r1, h1, h2⟩ := h
    refine aj_icmp_lt (tgt := 29) C dX12_goesLots_22 (by decide) r0 r1 (fun e => ?_) (fun e => ?_)
    · have h := h1 e
      refine aj_lconst (z := 0) C dX12_goesLots_29 rfl ?_
      refine aj_wk (lv' := [some (vO 12 q0), none, none, some (vL w3), none, some (vI z2), none, none]) (⟨rfl, ⟨rfl, ⟨rfl, trivial⟩⟩⟩) ?_
      exact tX12_goesLots_30 C K HR0 q0 w3 z2 q0 (m2 q0 42) 0 _ hq0 hq0 h
    · have h := h2 e
      refine aj_lload_n C dX12_goesLots_25 rfl ?_
      refine aj_goto (tgt := 30) C dX12_goesLots_26 (by decide) ?_
      refine aj_wk (lv' := [some (vO 12 q0), none, none, some (vL w3), none, some (vI z2), none, none]) (⟨rfl, ⟨rfl, ⟨rfl, trivial⟩⟩⟩) ?_
      exact tX12_goesLots_30 C K HR0 q0 w3 z2 q0 (m2 q0 42) w3 _ hq0 hq0 h
def rG5 (f : Nat) : Nat → Nat → (aj_M → Prop) → List Nat → Int → Int → Int → aj_M → Prop
  | 0, _, _, _, _, _, _, _ => False
  | d + 1, t, Φ, q0, v1, v2, w3, m => if t = 0 then wbX12_goesLots f Φ (rG5 f d) q0 v1 v2 w3 m else False
set_option maxRecDepth 100000 in
theorem gG5 (f : Nat) : ∀ d : Nat, (∀ n : Nat, ∀ (Φ : aj_M → Prop) (q0 : List Nat) (v1 : Int) (v2 : Int) (w3 : Int) (m : aj_M) (hq0 : (.inl (12, q0) : aj_R) ∈ aj_pls), rG5 f d 0 Φ q0 v1 v2 w3 m → aj_Ct (n + d + 5) yX12_goesLots cX12_goesLots 8 none [vO 12 q0, vI v1, vI v2, vL w3] m (fun r m => r = none ∧ Φ m)) := by
  intro d
  induction d with
  | zero =>
    exact (fun n Φ q0 v1 v2 w3 m hq0 h => h.elim)
  | succ d ih =>
    · intro n Φ q0 v1 v2 w3 m hq0 h
      rw [show n + (d + 1) + 5 = (n + d) + 6 by omega]
      exact sbX12_goesLots (n := n + d) (f := f) (R := rG5 f d) (ih n) hq0 h
def wX12_goesLots (f : Nat) (Φ : aj_M → Prop) (q0 : List Nat) (v1 : Int) (v2 : Int) (w3 : Int) (m : aj_M) : Prop := rG5 f 4 0 Φ q0 v1 v2 w3 m
theorem sX12_goesLots {n f : Nat} {Φ : aj_M → Prop} {q0 : List Nat} {v1 : Int} {v2 : Int} {w3 : Int} {m : aj_M} (hq0 : (.inl (12, q0) : aj_R) ∈ aj_pls) (h : wX12_goesLots f Φ q0 v1 v2 w3 m) : aj_Ct (n + 9) yX12_goesLots cX12_goesLots 8 none [vO 12 q0, vI v1, vI v2, vL w3] m (fun r m => r = none ∧ Φ m) := by
  rw [show n + 9 = n + 4 + 5 by omega]
  exact (gG5 f 4) n Φ q0 v1 v2 w3 m hq0 h
theorem dX12_wholeOf_0 : decode cX12_wholeOf 0 = .ok (.lconst 1, 1) := by decide +kernel
theorem dX12_wholeOf_1 : decode cX12_wholeOf 1 = .ok (.lstore_n 1, 1) := by decide +kernel
theorem dX12_wholeOf_2 : decode cX12_wholeOf 2 = .ok (.iconst 0, 1) := by decide +kernel
theorem dX12_wholeOf_3 : decode cX12_wholeOf 3 = .ok (.istore_n 3, 1) := by decide +kernel
theorem dX12_wholeOf_4 : decode cX12_wholeOf 4 = .ok (.iload_n 3, 1) := by decide +kernel
theorem dX12_wholeOf_5 : decode cX12_wholeOf 5 = .ok (.iload_n 0, 1) := by decide +kernel
theorem dX12_wholeOf_6 : decode cX12_wholeOf 6 = .ok (.if_icmp .ge 15, 3) := by decide +kernel
theorem dX12_wholeOf_9 : decode cX12_wholeOf 9 = .ok (.lload_n 1, 1) := by decide +kernel
theorem dX12_wholeOf_10 : decode cX12_wholeOf 10 = .ok (.ldc2_w 306, 3) := by decide +kernel
theorem dX12_wholeOf_13 : decode cX12_wholeOf 13 = .ok (.lmul, 1) := by decide +kernel
theorem dX12_wholeOf_14 : decode cX12_wholeOf 14 = .ok (.lstore_n 1, 1) := by decide +kernel
theorem dX12_wholeOf_15 : decode cX12_wholeOf 15 = .ok (.iinc 3 1, 3) := by decide +kernel
theorem dX12_wholeOf_18 : decode cX12_wholeOf 18 = .ok (.goto (-14), 3) := by decide +kernel
theorem dX12_wholeOf_21 : decode cX12_wholeOf 21 = .ok (.lload_n 1, 1) := by decide +kernel
theorem dX12_wholeOf_22 : decode cX12_wholeOf 22 = .ok (.lreturn, 1) := by decide +kernel
def hX12_wholeOf_4 (f : Nat) (Φ : Int → aj_M → Prop) : Nat → Int → Int → Int → aj_M → Prop
  | 0, _, _, _, _ => False
  | k + 1, v0, w1, v3, m => rI v3 ∧ rI v0 ∧ (v0 ≤ v3 → Φ w1 m) ∧ (¬ (v0 ≤ v3) → hX12_wholeOf_4 f Φ k v0 (w1 * 10) (v3 + 1) m)
set_option maxHeartbeats 4000000 in
set_option maxRecDepth 100000 in
theorem tX12_wholeOf_4 {X : aj_T} {n f : Nat} {Φ : Int → aj_M → Prop} (C : aj_Cx X cX12_wholeOf RX12 4 n) (K : aj_Rt X (some .long) (fun r m => ∃ z, r = some (vL z) ∧ Φ z m)) : ∀ (k : Nat) (v0 : Int) (w1 : Int) (v3 : Int) (m : aj_M) , hX12_wholeOf_4 f Φ k v0 w1 v3 m → aj_J X 4 [some (vI v0), some (vL w1), none, some (vI v3)] [] m := by
  intro k
  induction k with
  | zero =>
    intro v0 w1 v3 m  h
    exact h.elim
  | succ k ih =>
    intro v0 w1 v3 m  h
    unfold hX12_wholeOf_4 at h
    refine aj_iload_n C dX12_wholeOf_4 rfl ?_
    refine aj_iload_n C dX12_wholeOf_5 rfl ?_
    obtain ⟨r0, r1, h1, h2⟩ := h
    refine aj_icmp_ge (tgt := 21) C dX12_wholeOf_6 (by decide) r0 r1 (fun e => ?_) (fun e => ?_)
    · have h := h1 e
      refine aj_lload_n C dX12_wholeOf_21 rfl ?_
      exact aj_lret C K dX12_wholeOf_22 ⟨_, rfl, h⟩
    · have h := h2 e
      refine aj_lload_n C dX12_wholeOf_9 rfl ?_
      refine aj_ldc2 (z := 10) C (wd1836) rfl dX12_wholeOf_10 ?_
      refine aj_lmul C dX12_wholeOf_13 ?_
      refine aj_lstore_n (lv' := [some (vI v0), some (vL (w1 * 10)), none, some (vI v3)]) C dX12_wholeOf_14 (by decide) rfl ?_
      refine aj_iinc (lv' := [some (vI v0), some (vL (w1 * 10)), none, some (vI (v3 + 1))]) C dX12_wholeOf_15 rfl (by decide) rfl ?_
      refine aj_goto (tgt := 4) C dX12_wholeOf_18 (by decide) ?_
      exact ih v0 (w1 * 10) (v3 + 1) _  h
def wX12_wholeOf (f : Nat) (Φ : Int → aj_M → Prop) (v0 : Int) (m : aj_M) : Prop := hX12_wholeOf_4 f Φ f v0 1 0 m
set_option maxHeartbeats 4000000 in
set_option maxRecDepth 100000 in
theorem sX12_wholeOf {n f : Nat} {Φ : Int → aj_M → Prop} {v0 : Int} {m : aj_M}  (h : wX12_wholeOf f Φ v0 m) : aj_Ct n yX12_wholeOf cX12_wholeOf 4 (some .long) [vI v0] m (fun r m => ∃ z, r = some (vL z) ∧ Φ z m) := by
  refine aj_met (lv := [some (vI v0), none, none, none]) (by decide +kernel) rfl (Nat.le_of_ble_eq_true rfl) (fun X C K => ?_)
  unfold wX12_wholeOf at h
  refine aj_lconst (z := 1) C dX12_wholeOf_0 rfl ?_
  refine aj_lstore_n (lv' := [some (vI v0), some (vL 1), none, none]) C dX12_wholeOf_1 (by decide) rfl ?_
  refine aj_iconst C dX12_wholeOf_2 ?_
  refine aj_istore_n (lv' := [some (vI v0), some (vL 1), none, some (vI 0)]) C dX12_wholeOf_3 (by decide) rfl ?_
  exact tX12_wholeOf_4 C K f v0 1 0 _  h
theorem dX12_common_0 : decode cX12_common 0 = .ok (.lload_n 2, 1) := by decide +kernel
theorem dX12_common_1 : decode cX12_common 1 = .ok (.lconst 0, 1) := by decide +kernel
theorem dX12_common_2 : decode cX12_common 2 = .ok (.lcmp, 1) := by decide +kernel
theorem dX12_common_3 : decode cX12_common 3 = .ok (.ifCond .ne 7, 3) := by decide +kernel
theorem dX12_common_6 : decode cX12_common 6 = .ok (.lload_n 0, 1) := by decide +kernel
theorem dX12_common_7 : decode cX12_common 7 = .ok (.goto 10, 3) := by decide +kernel
theorem dX12_common_10 : decode cX12_common 10 = .ok (.lload_n 2, 1) := by decide +kernel
theorem dX12_common_11 : decode cX12_common 11 = .ok (.lload_n 0, 1) := by decide +kernel
theorem dX12_common_12 : decode cX12_common 12 = .ok (.lload_n 2, 1) := by decide +kernel
theorem dX12_common_13 : decode cX12_common 13 = .ok (.lrem, 1) := by decide +kernel
theorem dX12_common_14 : decode cX12_common 14 = .ok (.invokestatic 488, 3) := by decide +kernel
theorem dX12_common_17 : decode cX12_common 17 = .ok (.lreturn, 1) := by decide +kernel
def wbX12_common (f : Nat) (Φ : Int → aj_M → Prop) (R : Nat → (Int → aj_M → Prop) → Int → Int → aj_M → Prop) (w0 : Int) (w2 : Int) (m : aj_M) : Prop := rL w2 ∧ (¬ w2 = 0 → (0 ≤ w0 ∧ w0 < 9223372036854775808) ∧ (0 < w2 ∧ w2 < 9223372036854775808) ∧ R 0 (fun z1 m1 => Φ z1 m1) w2 (w0 % w2) m) ∧ (w2 = 0 → Φ w0 m)
set_option maxHeartbeats 4000000 in
set_option maxRecDepth 100000 in
theorem sbX12_common {n f : Nat} {Φ : Int → aj_M → Prop} {R : Nat → (Int → aj_M → Prop) → Int → Int → aj_M → Prop} (HR0 : ∀ (Φ : Int → aj_M → Prop) (w0 : Int) (w2 : Int) (m : aj_M) , R 0 Φ w0 w2 m → aj_Ct (n + 1) yX12_common cX12_common 4 (some .long) [vL w0, vL w2] m (fun r m => ∃ z, r = some (vL z) ∧ Φ z m)) {w0 : Int} {w2 : Int} {m : aj_M}  (h : wbX12_common f Φ R w0 w2 m) : aj_Ct (n + 2) yX12_common cX12_common 4 (some .long) [vL w0, vL w2] m (fun r m => ∃ z, r = some (vL z) ∧ Φ z m) := by
  refine aj_met (lv := [some (vL w0), none, some (vL w2), none]) (by decide +kernel) rfl (Nat.le_of_ble_eq_true rfl) (fun X C K => ?_)
  unfold wbX12_common at h
  refine aj_lload_n C dX12_common_0 rfl ?_
  refine aj_lconst (z := 0) C dX12_common_1 rfl ?_
  obtain ⟨r0, h1, h2⟩ := h
  refine aj_lcmp_ne (tgt := 10) C dX12_common_2 dX12_common_3 (by decide) r0 (by decide) (fun e => ?_) (fun e => ?_)
  · have h := h1 e
    refine aj_lload_n C dX12_common_10 rfl ?_
    refine aj_lload_n C dX12_common_11 rfl ?_
    refine aj_lload_n C dX12_common_12 rfl ?_
    obtain ⟨r0, r1, h⟩ := h
    refine aj_lremN C dX12_common_13 r0 r1 ?_
    refine aj_callS (rest := []) C msX12_488 (HR0 _ w2 (w0 % w2) _  h) (aj_np 2 (by decide +kernel) rfl) (Nat.le_of_ble_eq_true rfl) rfl dX12_common_14 (fun r m1 h => ?_)
    obtain ⟨z1, rfl, h⟩ := h
    exact aj_lret C K dX12_common_17 ⟨_, rfl, h⟩
  · have h := h2 e
    refine aj_lload_n C dX12_common_6 rfl ?_
    refine aj_goto (tgt := 17) C dX12_common_7 (by decide) ?_
    exact aj_lret C K dX12_common_17 ⟨_, rfl, h⟩
def rG6 (f : Nat) : Nat → Nat → (Int → aj_M → Prop) → Int → Int → aj_M → Prop
  | 0, _, _, _, _, _ => False
  | d + 1, t, Φ, w0, w2, m => if t = 0 then wbX12_common f Φ (rG6 f d) w0 w2 m else False
set_option maxRecDepth 100000 in
theorem gG6 (f : Nat) : ∀ d : Nat, (∀ n : Nat, ∀ (Φ : Int → aj_M → Prop) (w0 : Int) (w2 : Int) (m : aj_M) , rG6 f d 0 Φ w0 w2 m → aj_Ct (n + d + 1) yX12_common cX12_common 4 (some .long) [vL w0, vL w2] m (fun r m => ∃ z, r = some (vL z) ∧ Φ z m)) := by
  intro d
  induction d with
  | zero =>
    exact (fun n Φ w0 w2 m  h => h.elim)
  | succ d ih =>
    · intro n Φ w0 w2 m  h
      rw [show n + (d + 1) + 1 = (n + d) + 2 by omega]
      exact sbX12_common (n := n + d) (f := f) (R := rG6 f d) (ih n)  h
def wX12_common (f : Nat) (Φ : Int → aj_M → Prop) (w0 : Int) (w2 : Int) (m : aj_M) : Prop := rG6 f 16 0 Φ w0 w2 m
theorem sX12_common {n f : Nat} {Φ : Int → aj_M → Prop} {w0 : Int} {w2 : Int} {m : aj_M}  (h : wX12_common f Φ w0 w2 m) : aj_Ct (n + 17) yX12_common cX12_common 4 (some .long) [vL w0, vL w2] m (fun r m => ∃ z, r = some (vL z) ∧ Φ z m) := by
  rw [show n + 17 = n + 16 + 1 by omega]
  exact (gG6 f 16) n Φ w0 w2 m  h
theorem dX12_laysLots_0 : decode cX12_laysLots 0 = .ok (.aload_n 0, 1) := by decide +kernel
theorem dX12_laysLots_1 : decode cX12_laysLots 1 = .ok (.lconst 0, 1) := by decide +kernel
theorem dX12_laysLots_2 : decode cX12_laysLots 2 = .ok (.putfield 477, 3) := by decide +kernel
theorem dX12_laysLots_5 : decode cX12_laysLots 5 = .ok (.aload_n 0, 1) := by decide +kernel
theorem dX12_laysLots_6 : decode cX12_laysLots 6 = .ok (.lconst 0, 1) := by decide +kernel
theorem dX12_laysLots_7 : decode cX12_laysLots 7 = .ok (.putfield 481, 3) := by decide +kernel
theorem dX12_laysLots_10 : decode cX12_laysLots 10 = .ok (.aload_n 0, 1) := by decide +kernel
theorem dX12_laysLots_11 : decode cX12_laysLots 11 = .ok (.iload_n 1, 1) := by decide +kernel
theorem dX12_laysLots_12 : decode cX12_laysLots 12 = .ok (.iload_n 2, 1) := by decide +kernel
theorem dX12_laysLots_13 : decode cX12_laysLots 13 = .ok (.lconst 1, 1) := by decide +kernel
theorem dX12_laysLots_14 : decode cX12_laysLots 14 = .ok (.invokevirtual 484, 3) := by decide +kernel
theorem dX12_laysLots_17 : decode cX12_laysLots 17 = .ok (.return_, 1) := by decide +kernel
def wX12_laysLots (f : Nat) (Φ : aj_M → Prop) (q0 : List Nat) (v1 : Int) (v2 : Int) (m : aj_M) : Prop := ∀ m1, m1 = aj_u m q0 42 0 → ∀ m2, m2 = aj_u m1 q0 43 0 → wX12_goesLots f (fun m3 => Φ m3) q0 v1 v2 1 m2
set_option maxHeartbeats 4000000 in
set_option maxRecDepth 100000 in
theorem sX12_laysLots {n f : Nat} {Φ : aj_M → Prop} {q0 : List Nat} {v1 : Int} {v2 : Int} {m : aj_M} (hq0 : (.inl (12, q0) : aj_R) ∈ aj_pls) (h : wX12_laysLots f Φ q0 v1 v2 m) : aj_Ct (n + 10) yX12_laysLots cX12_laysLots 3 none [vO 12 q0, vI v1, vI v2] m (fun r m => r = none ∧ Φ m) := by
  refine aj_met (lv := [some (vO 12 q0), some (vI v1), some (vI v2)]) (by decide +kernel) rfl (Nat.le_of_ble_eq_true rfl) (fun X C K => ?_)
  unfold wX12_laysLots at h
  refine aj_aload_n C dX12_laysLots_0 rfl ?_
  refine aj_lconst (z := 0) C dX12_laysLots_1 rfl ?_
  refine aj_putL C fpX12_477 hq0 rfl dX12_laysLots_2 ?_
  refine aj_nm (fun m1 e1 => ?_)
  have h := h m1 e1
  refine aj_aload_n C dX12_laysLots_5 rfl ?_
  refine aj_lconst (z := 0) C dX12_laysLots_6 rfl ?_
  refine aj_putL C fpX12_481 hq0 rfl dX12_laysLots_7 ?_
  refine aj_nm (fun m2 e1 => ?_)
  have h := h m2 e1
  refine aj_aload_n C dX12_laysLots_10 rfl ?_
  refine aj_iload_n C dX12_laysLots_11 rfl ?_
  refine aj_iload_n C dX12_laysLots_12 rfl ?_
  refine aj_lconst (z := 1) C dX12_laysLots_13 rfl ?_
  refine aj_callV (rest := []) C mvX12_484 (sX12_goesLots hq0 h) hq0 (aj_np 3 (by decide +kernel) rfl) (Nat.le_of_ble_eq_true rfl) rfl dX12_laysLots_14 (fun r m3 h => ?_)
  obtain ⟨rfl, h⟩ := h
  exact aj_vret C K dX12_laysLots_17 ⟨rfl, h⟩
theorem dX12_part_0 : decode cX12_part 0 = .ok (.iload_n 3, 1) := by decide +kernel
theorem dX12_part_1 : decode cX12_part 1 = .ok (.ifCond .ne 7, 3) := by decide +kernel
theorem dX12_part_4 : decode cX12_part 4 = .ok (.lload_n 0, 1) := by decide +kernel
theorem dX12_part_5 : decode cX12_part 5 = .ok (.goto 7, 3) := by decide +kernel
theorem dX12_part_8 : decode cX12_part 8 = .ok (.iload_n 2, 1) := by decide +kernel
theorem dX12_part_9 : decode cX12_part 9 = .ok (.invokestatic 492, 3) := by decide +kernel
theorem dX12_part_12 : decode cX12_part 12 = .ok (.lload_n 0, 1) := by decide +kernel
theorem dX12_part_13 : decode cX12_part 13 = .ok (.iload_n 2, 1) := by decide +kernel
theorem dX12_part_14 : decode cX12_part 14 = .ok (.invokestatic 492, 3) := by decide +kernel
theorem dX12_part_17 : decode cX12_part 17 = .ok (.invokestatic 488, 3) := by decide +kernel
theorem dX12_part_20 : decode cX12_part 20 = .ok (.ldiv, 1) := by decide +kernel
theorem dX12_part_21 : decode cX12_part 21 = .ok (.l2i, 1) := by decide +kernel
theorem dX12_part_22 : decode cX12_part 22 = .ok (.ireturn, 1) := by decide +kernel
def wX12_part (f : Nat) (Φ : Int → aj_M → Prop) (w0 : Int) (v2 : Int) (v3 : Int) (m : aj_M) : Prop := rI v3 ∧ (¬ v3 = 0 → wX12_wholeOf f (fun z1 m1 => wX12_wholeOf f (fun z2 m2 => wX12_common f (fun z3 m3 => (0 ≤ z1 ∧ z1 < 9223372036854775808) ∧ (0 < z3 ∧ z3 < 9223372036854775808) ∧ Φ (z1 / z3) m3) w0 z2 m2) v2 m1) v2 m) ∧ (v3 = 0 → wX12_wholeOf f (fun z4 m4 => wX12_common f (fun z5 m5 => (0 ≤ w0 ∧ w0 < 9223372036854775808) ∧ (0 < z5 ∧ z5 < 9223372036854775808) ∧ Φ (w0 / z5) m5) w0 z4 m4) v2 m)
set_option maxHeartbeats 4000000 in
set_option maxRecDepth 100000 in
theorem sX12_part {n f : Nat} {Φ : Int → aj_M → Prop} {w0 : Int} {v2 : Int} {v3 : Int} {m : aj_M}  (h : wX12_part f Φ w0 v2 v3 m) : aj_Ct (n + 18) yX12_part cX12_part 4 (some .int) [vL w0, vI v2, vI v3] m (fun r m => ∃ z, r = some (vI z) ∧ Φ z m) := by
  refine aj_met (lv := [some (vL w0), none, some (vI v2), some (vI v3)]) (by decide +kernel) rfl (Nat.le_of_ble_eq_true rfl) (fun X C K => ?_)
  unfold wX12_part at h
  refine aj_iload_n C dX12_part_0 rfl ?_
  obtain ⟨r0, h1, h2⟩ := h
  refine aj_if_ne (tgt := 8) C dX12_part_1 (by decide) r0 (fun e => ?_) (fun e => ?_)
  · have h := h1 e
    refine aj_iload_n C dX12_part_8 rfl ?_
    refine aj_callS (rest := []) C msX12_492 (sX12_wholeOf  h) (aj_np 1 (by decide +kernel) rfl) (Nat.le_of_ble_eq_true rfl) rfl dX12_part_9 (fun r m1 h => ?_)
    obtain ⟨z1, rfl, h⟩ := h
    refine aj_lload_n C dX12_part_12 rfl ?_
    refine aj_iload_n C dX12_part_13 rfl ?_
    refine aj_callS (rest := [vL w0, vL z1]) C msX12_492 (sX12_wholeOf  h) (aj_np 1 (by decide +kernel) rfl) (Nat.le_of_ble_eq_true rfl) rfl dX12_part_14 (fun r m2 h => ?_)
    obtain ⟨z2, rfl, h⟩ := h
    refine aj_callS (rest := [vL z1]) C msX12_488 (sX12_common  h) (aj_np 2 (by decide +kernel) rfl) (Nat.le_of_ble_eq_true rfl) rfl dX12_part_17 (fun r m3 h => ?_)
    obtain ⟨z3, rfl, h⟩ := h
    obtain ⟨r0, r1, h⟩ := h
    refine aj_ldivN C dX12_part_20 r0 r1 ?_
    refine aj_l2i C dX12_part_21 ?_
    exact aj_iret C K dX12_part_22 ⟨_, rfl, h⟩
  · have h := h2 e
    refine aj_lload_n C dX12_part_4 rfl ?_
    refine aj_goto (tgt := 12) C dX12_part_5 (by decide) ?_
    refine aj_lload_n C dX12_part_12 rfl ?_
    refine aj_iload_n C dX12_part_13 rfl ?_
    refine aj_callS (rest := [vL w0, vL w0]) C msX12_492 (sX12_wholeOf  h) (aj_np 1 (by decide +kernel) rfl) (Nat.le_of_ble_eq_true rfl) rfl dX12_part_14 (fun r m4 h => ?_)
    obtain ⟨z4, rfl, h⟩ := h
    refine aj_callS (rest := [vL w0]) C msX12_488 (sX12_common  h) (aj_np 2 (by decide +kernel) rfl) (Nat.le_of_ble_eq_true rfl) rfl dX12_part_17 (fun r m5 h => ?_)
    obtain ⟨z5, rfl, h⟩ := h
    obtain ⟨r0, r1, h⟩ := h
    refine aj_ldivN C dX12_part_20 r0 r1 ?_
    refine aj_l2i C dX12_part_21 ?_
    exact aj_iret C K dX12_part_22 ⟨_, rfl, h⟩
theorem dX12_chance_0 : decode cX12_chance 0 = .ok (.aload_n 0, 1) := by decide +kernel
theorem dX12_chance_1 : decode cX12_chance 1 = .ok (.iconst 0, 1) := by decide +kernel
theorem dX12_chance_2 : decode cX12_chance 2 = .ok (.putfield 1, 3) := by decide +kernel
theorem dX12_chance_5 : decode cX12_chance 5 = .ok (.iload_n 3, 1) := by decide +kernel
theorem dX12_chance_6 : decode cX12_chance 6 = .ok (.i2l, 1) := by decide +kernel
theorem dX12_chance_7 : decode cX12_chance 7 = .ok (.lconst 0, 1) := by decide +kernel
theorem dX12_chance_8 : decode cX12_chance 8 = .ok (.lconst 1, 1) := by decide +kernel
theorem dX12_chance_9 : decode cX12_chance 9 = .ok (.invokestatic 154, 3) := by decide +kernel
theorem dX12_chance_12 : decode cX12_chance 12 = .ok (.ifCond .ne 6, 3) := by decide +kernel
theorem dX12_chance_15 : decode cX12_chance 15 = .ok (.bipush (-2), 2) := by decide +kernel
theorem dX12_chance_17 : decode cX12_chance 17 = .ok (.ireturn, 1) := by decide +kernel
theorem dX12_chance_18 : decode cX12_chance 18 = .ok (.iload_n 1, 1) := by decide +kernel
theorem dX12_chance_19 : decode cX12_chance 19 = .ok (.i2l, 1) := by decide +kernel
theorem dX12_chance_20 : decode cX12_chance 20 = .ok (.lconst 1, 1) := by decide +kernel
theorem dX12_chance_21 : decode cX12_chance 21 = .ok (.ldc2_w 496, 3) := by decide +kernel
theorem dX12_chance_24 : decode cX12_chance 24 = .ok (.invokestatic 154, 3) := by decide +kernel
theorem dX12_chance_27 : decode cX12_chance 27 = .ok (.ifCond .eq 15, 3) := by decide +kernel
theorem dX12_chance_30 : decode cX12_chance 30 = .ok (.iload_n 2, 1) := by decide +kernel
theorem dX12_chance_31 : decode cX12_chance 31 = .ok (.i2l, 1) := by decide +kernel
theorem dX12_chance_32 : decode cX12_chance 32 = .ok (.lconst 0, 1) := by decide +kernel
theorem dX12_chance_33 : decode cX12_chance 33 = .ok (.ldc2_w 385, 3) := by decide +kernel
theorem dX12_chance_36 : decode cX12_chance 36 = .ok (.invokestatic 154, 3) := by decide +kernel
theorem dX12_chance_39 : decode cX12_chance 39 = .ok (.ifCond .ne 6, 3) := by decide +kernel
theorem dX12_chance_42 : decode cX12_chance 42 = .ok (.bipush (-3), 2) := by decide +kernel
theorem dX12_chance_44 : decode cX12_chance 44 = .ok (.ireturn, 1) := by decide +kernel
theorem dX12_chance_45 : decode cX12_chance 45 = .ok (.aload_n 0, 1) := by decide +kernel
theorem dX12_chance_46 : decode cX12_chance 46 = .ok (.iload_n 1, 1) := by decide +kernel
theorem dX12_chance_47 : decode cX12_chance 47 = .ok (.iload_n 2, 1) := by decide +kernel
theorem dX12_chance_48 : decode cX12_chance 48 = .ok (.invokevirtual 498, 3) := by decide +kernel
theorem dX12_chance_51 : decode cX12_chance 51 = .ok (.aload_n 0, 1) := by decide +kernel
theorem dX12_chance_52 : decode cX12_chance 52 = .ok (.getfield 477, 3) := by decide +kernel
theorem dX12_chance_55 : decode cX12_chance 55 = .ok (.iload_n 2, 1) := by decide +kernel
theorem dX12_chance_56 : decode cX12_chance 56 = .ok (.iload_n 3, 1) := by decide +kernel
theorem dX12_chance_57 : decode cX12_chance 57 = .ok (.invokestatic 501, 3) := by decide +kernel
theorem dX12_chance_60 : decode cX12_chance 60 = .ok (.ireturn, 1) := by decide +kernel
def wX12_chance (f : Nat) (Φ : Int → aj_M → Prop) (q0 : List Nat) (v1 : Int) (v2 : Int) (v3 : Int) (m : aj_M) : Prop := ∀ m1, m1 = aj_u m q0 0 0 → rI v3 ∧ wX12_within f (fun z1 m2 => rI z1 ∧ (¬ z1 = 0 → rI v1 ∧ wX12_within f (fun z2 m3 => rI z2 ∧ (z2 = 0 → Φ (-3) m3) ∧ (¬ (z2 = 0) → rI v2 ∧ wX12_within f (fun z3 m4 => rI z3 ∧ (¬ z3 = 0 → wX12_laysLots f (fun m5 => wX12_part f (fun z5 m6 => Φ z5 m6) (m5 q0 42) v2 v3 m5) q0 v1 v2 m4) ∧ (z3 = 0 → Φ (-3) m4)) v2 0 2 m3)) v1 1 60 m2) ∧ (z1 = 0 → Φ (-2) m2)) v3 0 1 m1
set_option maxHeartbeats 4000000 in
set_option maxRecDepth 100000 in
theorem sX12_chance {n f : Nat} {Φ : Int → aj_M → Prop} {q0 : List Nat} {v1 : Int} {v2 : Int} {v3 : Int} {m : aj_M} (hq0 : (.inl (12, q0) : aj_R) ∈ aj_pls) (h : wX12_chance f Φ q0 v1 v2 v3 m) : aj_Ct (n + 19) yX12_chance cX12_chance 4 (some .int) [vO 12 q0, vI v1, vI v2, vI v3] m (fun r m => ∃ z, r = some (vI z) ∧ Φ z m) := by
  refine aj_met (lv := [some (vO 12 q0), some (vI v1), some (vI v2), some (vI v3)]) (by decide +kernel) rfl (Nat.le_of_ble_eq_true rfl) (fun X C K => ?_)
  unfold wX12_chance at h
  refine aj_aload_n C dX12_chance_0 rfl ?_
  refine aj_iconst C dX12_chance_1 ?_
  refine aj_putI C fpX12_1 hq0 rfl dX12_chance_2 ?_
  refine aj_nm (fun m1 e1 => ?_)
  have h := h m1 e1
  refine aj_iload_n C dX12_chance_5 rfl ?_
  obtain ⟨r0, h⟩ := h
  refine aj_i2l C dX12_chance_6 r0 ?_
  refine aj_lconst (z := 0) C dX12_chance_7 rfl ?_
  refine aj_lconst (z := 1) C dX12_chance_8 rfl ?_
  refine aj_callS (rest := []) C msX12_154 (sX12_within  h) (aj_np 3 (by decide +kernel) rfl) (Nat.le_of_ble_eq_true rfl) rfl dX12_chance_9 (fun r m2 h => ?_)
  obtain ⟨z1, rfl, h⟩ := h
  obtain ⟨r0, h1, h2⟩ := h
  refine aj_if_ne (tgt := 18) C dX12_chance_12 (by decide) r0 (fun e => ?_) (fun e => ?_)
  · have h := h1 e
    refine aj_iload_n C dX12_chance_18 rfl ?_
    obtain ⟨r0, h⟩ := h
    refine aj_i2l C dX12_chance_19 r0 ?_
    refine aj_lconst (z := 1) C dX12_chance_20 rfl ?_
    refine aj_ldc2 (z := 60) C (wd2147) rfl dX12_chance_21 ?_
    refine aj_callS (rest := []) C msX12_154 (sX12_within  h) (aj_np 3 (by decide +kernel) rfl) (Nat.le_of_ble_eq_true rfl) rfl dX12_chance_24 (fun r m3 h => ?_)
    obtain ⟨z2, rfl, h⟩ := h
    obtain ⟨r0, h1, h2⟩ := h
    refine aj_if_eq (tgt := 42) C dX12_chance_27 (by decide) r0 (fun e => ?_) (fun e => ?_)
    · have h := h1 e
      refine aj_bipush C dX12_chance_42 (by decide) ?_
      exact aj_iret C K dX12_chance_44 ⟨_, rfl, h⟩
    · have h := h2 e
      refine aj_iload_n C dX12_chance_30 rfl ?_
      obtain ⟨r0, h⟩ := h
      refine aj_i2l C dX12_chance_31 r0 ?_
      refine aj_lconst (z := 0) C dX12_chance_32 rfl ?_
      refine aj_ldc2 (z := 2) C (wd2023) rfl dX12_chance_33 ?_
      refine aj_callS (rest := []) C msX12_154 (sX12_within  h) (aj_np 3 (by decide +kernel) rfl) (Nat.le_of_ble_eq_true rfl) rfl dX12_chance_36 (fun r m4 h => ?_)
      obtain ⟨z3, rfl, h⟩ := h
      obtain ⟨r0, h1, h2⟩ := h
      refine aj_if_ne (tgt := 45) C dX12_chance_39 (by decide) r0 (fun e => ?_) (fun e => ?_)
      · have h := h1 e
        refine aj_aload_n C dX12_chance_45 rfl ?_
        refine aj_iload_n C dX12_chance_46 rfl ?_
        refine aj_iload_n C dX12_chance_47 rfl ?_
        refine aj_callV (rest := []) C mvX12_498 (sX12_laysLots hq0 h) hq0 (aj_np 2 (by decide +kernel) rfl) (Nat.le_of_ble_eq_true rfl) rfl dX12_chance_48 (fun r m5 h => ?_)
        obtain ⟨rfl, h⟩ := h
        refine aj_aload_n C dX12_chance_51 rfl ?_
        refine aj_getL C flX12_477 hq0 rfl dX12_chance_52 rfl ?_
        refine aj_iload_n C dX12_chance_55 rfl ?_
        refine aj_iload_n C dX12_chance_56 rfl ?_
        refine aj_callS (rest := []) C msX12_501 (sX12_part  h) (aj_np 3 (by decide +kernel) rfl) (Nat.le_of_ble_eq_true rfl) rfl dX12_chance_57 (fun r m6 h => ?_)
        obtain ⟨z5, rfl, h⟩ := h
        exact aj_iret C K dX12_chance_60 ⟨_, rfl, h⟩
      · have h := h2 e
        refine aj_bipush C dX12_chance_42 (by decide) ?_
        exact aj_iret C K dX12_chance_44 ⟨_, rfl, h⟩
  · have h := h2 e
    refine aj_bipush C dX12_chance_15 (by decide) ?_
    exact aj_iret C K dX12_chance_17 ⟨_, rfl, h⟩
theorem dX12_mean_0 : decode cX12_mean 0 = .ok (.aload_n 0, 1) := by decide +kernel
theorem dX12_mean_1 : decode cX12_mean 1 = .ok (.iconst 0, 1) := by decide +kernel
theorem dX12_mean_2 : decode cX12_mean 2 = .ok (.putfield 1, 3) := by decide +kernel
theorem dX12_mean_5 : decode cX12_mean 5 = .ok (.iload_n 2, 1) := by decide +kernel
theorem dX12_mean_6 : decode cX12_mean 6 = .ok (.i2l, 1) := by decide +kernel
theorem dX12_mean_7 : decode cX12_mean 7 = .ok (.lconst 0, 1) := by decide +kernel
theorem dX12_mean_8 : decode cX12_mean 8 = .ok (.lconst 1, 1) := by decide +kernel
theorem dX12_mean_9 : decode cX12_mean 9 = .ok (.invokestatic 154, 3) := by decide +kernel
theorem dX12_mean_12 : decode cX12_mean 12 = .ok (.ifCond .ne 6, 3) := by decide +kernel
theorem dX12_mean_15 : decode cX12_mean 15 = .ok (.bipush (-2), 2) := by decide +kernel
theorem dX12_mean_17 : decode cX12_mean 17 = .ok (.ireturn, 1) := by decide +kernel
theorem dX12_mean_18 : decode cX12_mean 18 = .ok (.iload_n 1, 1) := by decide +kernel
theorem dX12_mean_19 : decode cX12_mean 19 = .ok (.i2l, 1) := by decide +kernel
theorem dX12_mean_20 : decode cX12_mean 20 = .ok (.lconst 0, 1) := by decide +kernel
theorem dX12_mean_21 : decode cX12_mean 21 = .ok (.ldc2_w 385, 3) := by decide +kernel
theorem dX12_mean_24 : decode cX12_mean 24 = .ok (.invokestatic 154, 3) := by decide +kernel
theorem dX12_mean_27 : decode cX12_mean 27 = .ok (.ifCond .ne 6, 3) := by decide +kernel
theorem dX12_mean_30 : decode cX12_mean 30 = .ok (.bipush (-3), 2) := by decide +kernel
theorem dX12_mean_32 : decode cX12_mean 32 = .ok (.ireturn, 1) := by decide +kernel
theorem dX12_mean_33 : decode cX12_mean 33 = .ok (.aload_n 0, 1) := by decide +kernel
theorem dX12_mean_34 : decode cX12_mean 34 = .ok (.iconst 1, 1) := by decide +kernel
theorem dX12_mean_35 : decode cX12_mean 35 = .ok (.iload_n 1, 1) := by decide +kernel
theorem dX12_mean_36 : decode cX12_mean 36 = .ok (.invokevirtual 498, 3) := by decide +kernel
theorem dX12_mean_39 : decode cX12_mean 39 = .ok (.aload_n 0, 1) := by decide +kernel
theorem dX12_mean_40 : decode cX12_mean 40 = .ok (.getfield 481, 3) := by decide +kernel
theorem dX12_mean_43 : decode cX12_mean 43 = .ok (.iload_n 1, 1) := by decide +kernel
theorem dX12_mean_44 : decode cX12_mean 44 = .ok (.iload_n 2, 1) := by decide +kernel
theorem dX12_mean_45 : decode cX12_mean 45 = .ok (.invokestatic 501, 3) := by decide +kernel
theorem dX12_mean_48 : decode cX12_mean 48 = .ok (.ireturn, 1) := by decide +kernel
def wX12_mean (f : Nat) (Φ : Int → aj_M → Prop) (q0 : List Nat) (v1 : Int) (v2 : Int) (m : aj_M) : Prop := ∀ m1, m1 = aj_u m q0 0 0 → rI v2 ∧ wX12_within f (fun z1 m2 => rI z1 ∧ (¬ z1 = 0 → rI v1 ∧ wX12_within f (fun z2 m3 => rI z2 ∧ (¬ z2 = 0 → wX12_laysLots f (fun m4 => wX12_part f (fun z4 m5 => Φ z4 m5) (m4 q0 43) v1 v2 m4) q0 1 v1 m3) ∧ (z2 = 0 → Φ (-3) m3)) v1 0 2 m2) ∧ (z1 = 0 → Φ (-2) m2)) v2 0 1 m1
set_option maxHeartbeats 4000000 in
set_option maxRecDepth 100000 in
theorem sX12_mean {n f : Nat} {Φ : Int → aj_M → Prop} {q0 : List Nat} {v1 : Int} {v2 : Int} {m : aj_M} (hq0 : (.inl (12, q0) : aj_R) ∈ aj_pls) (h : wX12_mean f Φ q0 v1 v2 m) : aj_Ct (n + 19) yX12_mean cX12_mean 3 (some .int) [vO 12 q0, vI v1, vI v2] m (fun r m => ∃ z, r = some (vI z) ∧ Φ z m) := by
  refine aj_met (lv := [some (vO 12 q0), some (vI v1), some (vI v2)]) (by decide +kernel) rfl (Nat.le_of_ble_eq_true rfl) (fun X C K => ?_)
  unfold wX12_mean at h
  refine aj_aload_n C dX12_mean_0 rfl ?_
  refine aj_iconst C dX12_mean_1 ?_
  refine aj_putI C fpX12_1 hq0 rfl dX12_mean_2 ?_
  refine aj_nm (fun m1 e1 => ?_)
  have h := h m1 e1
  refine aj_iload_n C dX12_mean_5 rfl ?_
  obtain ⟨r0, h⟩ := h
  refine aj_i2l C dX12_mean_6 r0 ?_
  refine aj_lconst (z := 0) C dX12_mean_7 rfl ?_
  refine aj_lconst (z := 1) C dX12_mean_8 rfl ?_
  refine aj_callS (rest := []) C msX12_154 (sX12_within  h) (aj_np 3 (by decide +kernel) rfl) (Nat.le_of_ble_eq_true rfl) rfl dX12_mean_9 (fun r m2 h => ?_)
  obtain ⟨z1, rfl, h⟩ := h
  obtain ⟨r0, h1, h2⟩ := h
  refine aj_if_ne (tgt := 18) C dX12_mean_12 (by decide) r0 (fun e => ?_) (fun e => ?_)
  · have h := h1 e
    refine aj_iload_n C dX12_mean_18 rfl ?_
    obtain ⟨r0, h⟩ := h
    refine aj_i2l C dX12_mean_19 r0 ?_
    refine aj_lconst (z := 0) C dX12_mean_20 rfl ?_
    refine aj_ldc2 (z := 2) C (wd2023) rfl dX12_mean_21 ?_
    refine aj_callS (rest := []) C msX12_154 (sX12_within  h) (aj_np 3 (by decide +kernel) rfl) (Nat.le_of_ble_eq_true rfl) rfl dX12_mean_24 (fun r m3 h => ?_)
    obtain ⟨z2, rfl, h⟩ := h
    obtain ⟨r0, h1, h2⟩ := h
    refine aj_if_ne (tgt := 33) C dX12_mean_27 (by decide) r0 (fun e => ?_) (fun e => ?_)
    · have h := h1 e
      refine aj_aload_n C dX12_mean_33 rfl ?_
      refine aj_iconst C dX12_mean_34 ?_
      refine aj_iload_n C dX12_mean_35 rfl ?_
      refine aj_callV (rest := []) C mvX12_498 (sX12_laysLots hq0 h) hq0 (aj_np 2 (by decide +kernel) rfl) (Nat.le_of_ble_eq_true rfl) rfl dX12_mean_36 (fun r m4 h => ?_)
      obtain ⟨rfl, h⟩ := h
      refine aj_aload_n C dX12_mean_39 rfl ?_
      refine aj_getL C flX12_481 hq0 rfl dX12_mean_40 rfl ?_
      refine aj_iload_n C dX12_mean_43 rfl ?_
      refine aj_iload_n C dX12_mean_44 rfl ?_
      refine aj_callS (rest := []) C msX12_501 (sX12_part  h) (aj_np 3 (by decide +kernel) rfl) (Nat.le_of_ble_eq_true rfl) rfl dX12_mean_45 (fun r m5 h => ?_)
      obtain ⟨z4, rfl, h⟩ := h
      exact aj_iret C K dX12_mean_48 ⟨_, rfl, h⟩
    · have h := h2 e
      refine aj_bipush C dX12_mean_30 (by decide) ?_
      exact aj_iret C K dX12_mean_32 ⟨_, rfl, h⟩
  · have h := h2 e
    refine aj_bipush C dX12_mean_15 (by decide) ?_
    exact aj_iret C K dX12_mean_17 ⟨_, rfl, h⟩
theorem dX12_cutTo_0 : decode cX12_cutTo 0 = .ok (.iload_n 2, 1) := by decide +kernel
theorem dX12_cutTo_1 : decode cX12_cutTo 1 = .ok (.ifCond .ne 10, 3) := by decide +kernel
theorem dX12_cutTo_4 : decode cX12_cutTo 4 = .ok (.lload_n 0, 1) := by decide +kernel
theorem dX12_cutTo_5 : decode cX12_cutTo 5 = .ok (.l2i, 1) := by decide +kernel
theorem dX12_cutTo_6 : decode cX12_cutTo 6 = .ok (.i2b, 1) := by decide +kernel
theorem dX12_cutTo_7 : decode cX12_cutTo 7 = .ok (.i2l, 1) := by decide +kernel
theorem dX12_cutTo_8 : decode cX12_cutTo 8 = .ok (.goto 27, 3) := by decide +kernel
theorem dX12_cutTo_11 : decode cX12_cutTo 11 = .ok (.iload_n 2, 1) := by decide +kernel
theorem dX12_cutTo_12 : decode cX12_cutTo 12 = .ok (.iconst 1, 1) := by decide +kernel
theorem dX12_cutTo_13 : decode cX12_cutTo 13 = .ok (.if_icmp .ne 10, 3) := by decide +kernel
theorem dX12_cutTo_16 : decode cX12_cutTo 16 = .ok (.lload_n 0, 1) := by decide +kernel
theorem dX12_cutTo_17 : decode cX12_cutTo 17 = .ok (.l2i, 1) := by decide +kernel
theorem dX12_cutTo_18 : decode cX12_cutTo 18 = .ok (.i2s, 1) := by decide +kernel
theorem dX12_cutTo_19 : decode cX12_cutTo 19 = .ok (.i2l, 1) := by decide +kernel
theorem dX12_cutTo_20 : decode cX12_cutTo 20 = .ok (.goto 15, 3) := by decide +kernel
theorem dX12_cutTo_23 : decode cX12_cutTo 23 = .ok (.iload_n 2, 1) := by decide +kernel
theorem dX12_cutTo_24 : decode cX12_cutTo 24 = .ok (.iconst 2, 1) := by decide +kernel
theorem dX12_cutTo_25 : decode cX12_cutTo 25 = .ok (.if_icmp .ne 9, 3) := by decide +kernel
theorem dX12_cutTo_28 : decode cX12_cutTo 28 = .ok (.lload_n 0, 1) := by decide +kernel
theorem dX12_cutTo_29 : decode cX12_cutTo 29 = .ok (.l2i, 1) := by decide +kernel
theorem dX12_cutTo_30 : decode cX12_cutTo 30 = .ok (.i2l, 1) := by decide +kernel
theorem dX12_cutTo_31 : decode cX12_cutTo 31 = .ok (.goto 4, 3) := by decide +kernel
theorem dX12_cutTo_34 : decode cX12_cutTo 34 = .ok (.lload_n 0, 1) := by decide +kernel
theorem dX12_cutTo_35 : decode cX12_cutTo 35 = .ok (.lreturn, 1) := by decide +kernel
def wX12_cutTo (f : Nat) (Φ : Int → aj_M → Prop) (w0 : Int) (v2 : Int) (m : aj_M) : Prop := rI v2 ∧ (¬ v2 = 0 → rI v2 ∧ (¬ v2 = 1 → rI v2 ∧ (¬ v2 = 2 → Φ w0 m) ∧ (v2 = 2 → Φ (aj_w w0) m)) ∧ (v2 = 1 → Φ (aj_w (aj_sh w0)) m)) ∧ (v2 = 0 → Φ (aj_w (aj_b w0)) m)
set_option maxHeartbeats 4000000 in
set_option maxRecDepth 100000 in
theorem sX12_cutTo {n f : Nat} {Φ : Int → aj_M → Prop} {w0 : Int} {v2 : Int} {m : aj_M}  (h : wX12_cutTo f Φ w0 v2 m) : aj_Ct n yX12_cutTo cX12_cutTo 3 (some .long) [vL w0, vI v2] m (fun r m => ∃ z, r = some (vL z) ∧ Φ z m) := by
  refine aj_met (lv := [some (vL w0), none, some (vI v2)]) (by decide +kernel) rfl (Nat.le_of_ble_eq_true rfl) (fun X C K => ?_)
  unfold wX12_cutTo at h
  refine aj_iload_n C dX12_cutTo_0 rfl ?_
  obtain ⟨r0, h1, h2⟩ := h
  refine aj_if_ne (tgt := 11) C dX12_cutTo_1 (by decide) r0 (fun e => ?_) (fun e => ?_)
  · have h := h1 e
    refine aj_iload_n C dX12_cutTo_11 rfl ?_
    refine aj_iconst C dX12_cutTo_12 ?_
    obtain ⟨r0, h1, h2⟩ := h
    refine aj_icmp_ne (tgt := 23) C dX12_cutTo_13 (by decide) r0 (by decide) (fun e => ?_) (fun e => ?_)
    · have h := h1 e
      refine aj_iload_n C dX12_cutTo_23 rfl ?_
      refine aj_iconst C dX12_cutTo_24 ?_
      obtain ⟨r0, h1, h2⟩ := h
      refine aj_icmp_ne (tgt := 34) C dX12_cutTo_25 (by decide) r0 (by decide) (fun e => ?_) (fun e => ?_)
      · have h := h1 e
        refine aj_lload_n C dX12_cutTo_34 rfl ?_
        exact aj_lret C K dX12_cutTo_35 ⟨_, rfl, h⟩
      · have h := h2 e
        refine aj_lload_n C dX12_cutTo_28 rfl ?_
        refine aj_l2i C dX12_cutTo_29 ?_
        refine aj_i2lW C dX12_cutTo_30 ?_
        refine aj_goto (tgt := 35) C dX12_cutTo_31 (by decide) ?_
        exact aj_lret C K dX12_cutTo_35 ⟨_, rfl, h⟩
    · have h := h2 e
      refine aj_lload_n C dX12_cutTo_16 rfl ?_
      refine aj_l2i C dX12_cutTo_17 ?_
      refine aj_i2s C dX12_cutTo_18 ?_
      refine aj_i2lW C dX12_cutTo_19 ?_
      refine aj_goto (tgt := 35) C dX12_cutTo_20 (by decide) ?_
      exact aj_lret C K dX12_cutTo_35 ⟨_, rfl, h⟩
  · have h := h2 e
    refine aj_lload_n C dX12_cutTo_4 rfl ?_
    refine aj_l2i C dX12_cutTo_5 ?_
    refine aj_i2b C dX12_cutTo_6 ?_
    refine aj_i2lW C dX12_cutTo_7 ?_
    refine aj_goto (tgt := 35) C dX12_cutTo_8 (by decide) ?_
    exact aj_lret C K dX12_cutTo_35 ⟨_, rfl, h⟩
theorem dX12_numbers_0 : decode cX12_numbers 0 = .ok (.aload_n 0, 1) := by decide +kernel
theorem dX12_numbers_1 : decode cX12_numbers 1 = .ok (.iconst 0, 1) := by decide +kernel
theorem dX12_numbers_2 : decode cX12_numbers 2 = .ok (.putfield 1, 3) := by decide +kernel
theorem dX12_numbers_5 : decode cX12_numbers 5 = .ok (.iload_n 1, 1) := by decide +kernel
theorem dX12_numbers_6 : decode cX12_numbers 6 = .ok (.i2l, 1) := by decide +kernel
theorem dX12_numbers_7 : decode cX12_numbers 7 = .ok (.lconst 0, 1) := by decide +kernel
theorem dX12_numbers_8 : decode cX12_numbers 8 = .ok (.ldc2_w 328, 3) := by decide +kernel
theorem dX12_numbers_11 : decode cX12_numbers 11 = .ok (.invokestatic 154, 3) := by decide +kernel
theorem dX12_numbers_14 : decode cX12_numbers 14 = .ok (.ifCond .eq 15, 3) := by decide +kernel
theorem dX12_numbers_17 : decode cX12_numbers 17 = .ok (.iload_n 2, 1) := by decide +kernel
theorem dX12_numbers_18 : decode cX12_numbers 18 = .ok (.i2l, 1) := by decide +kernel
theorem dX12_numbers_19 : decode cX12_numbers 19 = .ok (.lconst 0, 1) := by decide +kernel
theorem dX12_numbers_20 : decode cX12_numbers 20 = .ok (.ldc2_w 328, 3) := by decide +kernel
theorem dX12_numbers_23 : decode cX12_numbers 23 = .ok (.invokestatic 154, 3) := by decide +kernel
theorem dX12_numbers_26 : decode cX12_numbers 26 = .ok (.ifCond .ne 6, 3) := by decide +kernel
theorem dX12_numbers_29 : decode cX12_numbers 29 = .ok (.bipush (-2), 2) := by decide +kernel
theorem dX12_numbers_31 : decode cX12_numbers 31 = .ok (.ireturn, 1) := by decide +kernel
theorem dX12_numbers_32 : decode cX12_numbers 32 = .ok (.iload_n 3, 1) := by decide +kernel
theorem dX12_numbers_33 : decode cX12_numbers 33 = .ok (.i2l, 1) := by decide +kernel
theorem dX12_numbers_34 : decode cX12_numbers 34 = .ok (.lconst 0, 1) := by decide +kernel
theorem dX12_numbers_35 : decode cX12_numbers 35 = .ok (.ldc2_w 355, 3) := by decide +kernel
theorem dX12_numbers_38 : decode cX12_numbers 38 = .ok (.invokestatic 154, 3) := by decide +kernel
theorem dX12_numbers_41 : decode cX12_numbers 41 = .ok (.ifCond .ne 6, 3) := by decide +kernel
theorem dX12_numbers_44 : decode cX12_numbers 44 = .ok (.bipush (-3), 2) := by decide +kernel
theorem dX12_numbers_46 : decode cX12_numbers 46 = .ok (.ireturn, 1) := by decide +kernel
theorem dX12_numbers_47 : decode cX12_numbers 47 = .ok (.aload_n 0, 1) := by decide +kernel
theorem dX12_numbers_48 : decode cX12_numbers 48 = .ok (.getfield 78, 3) := by decide +kernel
theorem dX12_numbers_51 : decode cX12_numbers 51 = .ok (.iload_n 1, 1) := by decide +kernel
theorem dX12_numbers_52 : decode cX12_numbers 52 = .ok (.iload_n 2, 1) := by decide +kernel
theorem dX12_numbers_53 : decode cX12_numbers 53 = .ok (.iastore, 1) := by decide +kernel
theorem dX12_numbers_54 : decode cX12_numbers 54 = .ok (.aload_n 0, 1) := by decide +kernel
theorem dX12_numbers_55 : decode cX12_numbers 55 = .ok (.getfield 81, 3) := by decide +kernel
theorem dX12_numbers_58 : decode cX12_numbers 58 = .ok (.iload_n 1, 1) := by decide +kernel
theorem dX12_numbers_59 : decode cX12_numbers 59 = .ok (.iload_n 3, 1) := by decide +kernel
theorem dX12_numbers_60 : decode cX12_numbers 60 = .ok (.iastore, 1) := by decide +kernel
theorem dX12_numbers_61 : decode cX12_numbers 61 = .ok (.iconst 0, 1) := by decide +kernel
theorem dX12_numbers_62 : decode cX12_numbers 62 = .ok (.istore 4, 2) := by decide +kernel
theorem dX12_numbers_64 : decode cX12_numbers 64 = .ok (.iload 4, 2) := by decide +kernel
theorem dX12_numbers_66 : decode cX12_numbers 66 = .ok (.iload_n 3, 1) := by decide +kernel
theorem dX12_numbers_67 : decode cX12_numbers 67 = .ok (.if_icmp .ge 22, 3) := by decide +kernel
theorem dX12_numbers_70 : decode cX12_numbers 70 = .ok (.aload_n 0, 1) := by decide +kernel
theorem dX12_numbers_71 : decode cX12_numbers 71 = .ok (.getfield 84, 3) := by decide +kernel
theorem dX12_numbers_74 : decode cX12_numbers 74 = .ok (.bipush 40, 2) := by decide +kernel
theorem dX12_numbers_76 : decode cX12_numbers 76 = .ok (.iload_n 1, 1) := by decide +kernel
theorem dX12_numbers_77 : decode cX12_numbers 77 = .ok (.imul, 1) := by decide +kernel
theorem dX12_numbers_78 : decode cX12_numbers 78 = .ok (.iload 4, 2) := by decide +kernel
theorem dX12_numbers_80 : decode cX12_numbers 80 = .ok (.iadd, 1) := by decide +kernel
theorem dX12_numbers_81 : decode cX12_numbers 81 = .ok (.lconst 0, 1) := by decide +kernel
theorem dX12_numbers_82 : decode cX12_numbers 82 = .ok (.lastore, 1) := by decide +kernel
theorem dX12_numbers_83 : decode cX12_numbers 83 = .ok (.iinc 4 1, 3) := by decide +kernel
theorem dX12_numbers_86 : decode cX12_numbers 86 = .ok (.goto (-22), 3) := by decide +kernel
theorem dX12_numbers_89 : decode cX12_numbers 89 = .ok (.iconst 0, 1) := by decide +kernel
theorem dX12_numbers_90 : decode cX12_numbers 90 = .ok (.ireturn, 1) := by decide +kernel
def hX12_numbers_64 (f : Nat) (Φ : Int → aj_M → Prop) : Nat → List Nat → Int → Int → Int → aj_M → Prop
  | 0, _, _, _, _, _ => False
  | k + 1, q0, v1, v3, v4, m => rI v4 ∧ rI v3 ∧ (v3 ≤ v4 → Φ 0 m) ∧ (¬ (v3 ≤ v4) → (0 ≤ ((40 * v1) + v4) ∧ ((40 * v1) + v4) < 160) ∧ ∀ m1, m1 = aj_u m (46 :: q0) ((40 * v1) + v4).toNat 0 → hX12_numbers_64 f Φ k q0 v1 v3 (v4 + 1) m1)
set_option maxHeartbeats 4000000 in
set_option maxRecDepth 100000 in
theorem tX12_numbers_64 {X : aj_T} {n f : Nat} {Φ : Int → aj_M → Prop} (C : aj_Cx X cX12_numbers RX12 5 (n + 1)) (K : aj_Rt X (some .int) (fun r m => ∃ z, r = some (vI z) ∧ Φ z m)) : ∀ (k : Nat) (q0 : List Nat) (v1 : Int) (v3 : Int) (v4 : Int) (m : aj_M) (hq0 : (.inl (12, q0) : aj_R) ∈ aj_pls), hX12_numbers_64 f Φ k q0 v1 v3 v4 m → aj_J X 64 [some (vO 12 q0), some (vI v1), none, some (vI v3), some (vI v4)] [] m := by
  intro k
  induction k with
  | zero =>
    intro q0 v1 v3 v4 m _ h
    exact h.elim
  | succ k ih =>
    intro q0 v1 v3 v4 m hq0 h
    unfold hX12_numbers_64 at h
    refine aj_iload C dX12_numbers_64 rfl ?_
    refine aj_iload_n C dX12_numbers_66 rfl ?_
    obtain ⟨r0, r1, h1, h2⟩ := h
    refine aj_icmp_ge (tgt := 89) C dX12_numbers_67 (by decide) r0 r1 (fun e => ?_) (fun e => ?_)
    · have h := h1 e
      refine aj_iconst C dX12_numbers_89 ?_
      exact aj_iret C K dX12_numbers_90 ⟨_, rfl, h⟩
    · have h := h2 e
      refine aj_aload_n C dX12_numbers_70 rfl ?_
      refine aj_getA (x := 3) (y := 160) C flX12_84 hq0 rfl dX12_numbers_71 ?_
      refine aj_bipush C dX12_numbers_74 (by decide) ?_
      refine aj_iload_n C dX12_numbers_76 rfl ?_
      refine aj_imul C dX12_numbers_77 ?_
      refine aj_iload C dX12_numbers_78 rfl ?_
      refine aj_iadd C dX12_numbers_80 ?_
      refine aj_lconst (z := 0) C dX12_numbers_81 rfl ?_
      obtain ⟨r0, h⟩ := h
      refine aj_last C (aj_ca (e := 3) (n := 160) (j := 46) hq0 (by decide) rfl) (by decide) r0 dX12_numbers_82 ?_
      refine aj_nm (fun m1 e1 => ?_)
      have h := h m1 e1
      refine aj_iinc (lv' := [some (vO 12 q0), some (vI v1), none, some (vI v3), some (vI (v4 + 1))]) C dX12_numbers_83 rfl (by decide) rfl ?_
      refine aj_goto (tgt := 64) C dX12_numbers_86 (by decide) ?_
      exact ih q0 v1 v3 (v4 + 1) _ hq0 h
def wX12_numbers (f : Nat) (Φ : Int → aj_M → Prop) (q0 : List Nat) (v1 : Int) (v2 : Int) (v3 : Int) (m : aj_M) : Prop := ∀ m1, m1 = aj_u m q0 0 0 → rI v1 ∧ wX12_within f (fun z1 m2 => rI z1 ∧ (z1 = 0 → Φ (-2) m2) ∧ (¬ (z1 = 0) → rI v2 ∧ wX12_within f (fun z2 m3 => rI z2 ∧ (¬ z2 = 0 → rI v3 ∧ wX12_within f (fun z3 m4 => rI z3 ∧ (¬ z3 = 0 → (0 ≤ v1 ∧ v1 < 4) ∧ ∀ m5, m5 = aj_u m4 (44 :: q0) v1.toNat v2 → (0 ≤ v1 ∧ v1 < 4) ∧ ∀ m6, m6 = aj_u m5 (45 :: q0) v1.toNat v3 → hX12_numbers_64 f Φ f q0 v1 v3 0 m6) ∧ (z3 = 0 → Φ (-3) m4)) v3 0 40 m3) ∧ (z2 = 0 → Φ (-2) m3)) v2 0 3 m2)) v1 0 3 m1
set_option maxHeartbeats 4000000 in
set_option maxRecDepth 100000 in
theorem sX12_numbers {n f : Nat} {Φ : Int → aj_M → Prop} {q0 : List Nat} {v1 : Int} {v2 : Int} {v3 : Int} {m : aj_M} (hq0 : (.inl (12, q0) : aj_R) ∈ aj_pls) (h : wX12_numbers f Φ q0 v1 v2 v3 m) : aj_Ct (n + 1) yX12_numbers cX12_numbers 5 (some .int) [vO 12 q0, vI v1, vI v2, vI v3] m (fun r m => ∃ z, r = some (vI z) ∧ Φ z m) := by
  refine aj_met (lv := [some (vO 12 q0), some (vI v1), some (vI v2), some (vI v3), none]) (by decide +kernel) rfl (Nat.le_of_ble_eq_true rfl) (fun X C K => ?_)
  unfold wX12_numbers at h
  refine aj_aload_n C dX12_numbers_0 rfl ?_
  refine aj_iconst C dX12_numbers_1 ?_
  refine aj_putI C fpX12_1 hq0 rfl dX12_numbers_2 ?_
  refine aj_nm (fun m1 e1 => ?_)
  have h := h m1 e1
  refine aj_iload_n C dX12_numbers_5 rfl ?_
  obtain ⟨r0, h⟩ := h
  refine aj_i2l C dX12_numbers_6 r0 ?_
  refine aj_lconst (z := 0) C dX12_numbers_7 rfl ?_
  refine aj_ldc2 (z := 3) C (wd1841) rfl dX12_numbers_8 ?_
  refine aj_callS (rest := []) C msX12_154 (sX12_within  h) (aj_np 3 (by decide +kernel) rfl) (Nat.le_of_ble_eq_true rfl) rfl dX12_numbers_11 (fun r m2 h => ?_)
  obtain ⟨z1, rfl, h⟩ := h
  obtain ⟨r0, h1, h2⟩ := h
  refine aj_if_eq (tgt := 29) C dX12_numbers_14 (by decide) r0 (fun e => ?_) (fun e => ?_)
  · have h := h1 e
    refine aj_bipush C dX12_numbers_29 (by decide) ?_
    exact aj_iret C K dX12_numbers_31 ⟨_, rfl, h⟩
  · have h := h2 e
    refine aj_iload_n C dX12_numbers_17 rfl ?_
    obtain ⟨r0, h⟩ := h
    refine aj_i2l C dX12_numbers_18 r0 ?_
    refine aj_lconst (z := 0) C dX12_numbers_19 rfl ?_
    refine aj_ldc2 (z := 3) C (wd1841) rfl dX12_numbers_20 ?_
    refine aj_callS (rest := []) C msX12_154 (sX12_within  h) (aj_np 3 (by decide +kernel) rfl) (Nat.le_of_ble_eq_true rfl) rfl dX12_numbers_23 (fun r m3 h => ?_)
    obtain ⟨z2, rfl, h⟩ := h
    obtain ⟨r0, h1, h2⟩ := h
    refine aj_if_ne (tgt := 32) C dX12_numbers_26 (by decide) r0 (fun e => ?_) (fun e => ?_)
    · have h := h1 e
      refine aj_iload_n C dX12_numbers_32 rfl ?_
      obtain ⟨r0, h⟩ := h
      refine aj_i2l C dX12_numbers_33 r0 ?_
      refine aj_lconst (z := 0) C dX12_numbers_34 rfl ?_
      refine aj_ldc2 (z := 40) C (wd1924) rfl dX12_numbers_35 ?_
      refine aj_callS (rest := []) C msX12_154 (sX12_within  h) (aj_np 3 (by decide +kernel) rfl) (Nat.le_of_ble_eq_true rfl) rfl dX12_numbers_38 (fun r m4 h => ?_)
      obtain ⟨z3, rfl, h⟩ := h
      obtain ⟨r0, h1, h2⟩ := h
      refine aj_if_ne (tgt := 47) C dX12_numbers_41 (by decide) r0 (fun e => ?_) (fun e => ?_)
      · have h := h1 e
        refine aj_aload_n C dX12_numbers_47 rfl ?_
        refine aj_getA (x := 0) (y := 4) C flX12_78 hq0 rfl dX12_numbers_48 ?_
        refine aj_iload_n C dX12_numbers_51 rfl ?_
        refine aj_iload_n C dX12_numbers_52 rfl ?_
        obtain ⟨r0, h⟩ := h
        refine aj_iast C (aj_ca (e := 0) (n := 4) (j := 44) hq0 (by decide) rfl) (by decide) r0 dX12_numbers_53 ?_
        refine aj_nm (fun m5 e1 => ?_)
        have h := h m5 e1
        refine aj_aload_n C dX12_numbers_54 rfl ?_
        refine aj_getA (x := 0) (y := 4) C flX12_81 hq0 rfl dX12_numbers_55 ?_
        refine aj_iload_n C dX12_numbers_58 rfl ?_
        refine aj_iload_n C dX12_numbers_59 rfl ?_
        obtain ⟨r0, h⟩ := h
        refine aj_iast C (aj_ca (e := 0) (n := 4) (j := 45) hq0 (by decide) rfl) (by decide) r0 dX12_numbers_60 ?_
        refine aj_nm (fun m6 e1 => ?_)
        have h := h m6 e1
        refine aj_iconst C dX12_numbers_61 ?_
        refine aj_istore (lv' := [some (vO 12 q0), some (vI v1), some (vI v2), some (vI v3), some (vI 0)]) C dX12_numbers_62 (by decide) rfl ?_
        refine aj_wk (lv' := [some (vO 12 q0), some (vI v1), none, some (vI v3), some (vI 0)]) (⟨rfl, ⟨rfl, ⟨rfl, ⟨rfl, trivial⟩⟩⟩⟩) ?_
        exact tX12_numbers_64 C K f q0 v1 v3 0 _ hq0 h
      · have h := h2 e
        refine aj_bipush C dX12_numbers_44 (by decide) ?_
        exact aj_iret C K dX12_numbers_46 ⟨_, rfl, h⟩
    · have h := h2 e
      refine aj_bipush C dX12_numbers_29 (by decide) ?_
      exact aj_iret C K dX12_numbers_31 ⟨_, rfl, h⟩
theorem dX12_write_0 : decode cX12_write 0 = .ok (.aload_n 0, 1) := by decide +kernel
theorem dX12_write_1 : decode cX12_write 1 = .ok (.iconst 0, 1) := by decide +kernel
theorem dX12_write_2 : decode cX12_write 2 = .ok (.putfield 1, 3) := by decide +kernel
theorem dX12_write_5 : decode cX12_write 5 = .ok (.aload_n 0, 1) := by decide +kernel
theorem dX12_write_6 : decode cX12_write 6 = .ok (.iload_n 1, 1) := by decide +kernel
theorem dX12_write_7 : decode cX12_write 7 = .ok (.invokevirtual 330, 3) := by decide +kernel
theorem dX12_write_10 : decode cX12_write 10 = .ok (.istore 5, 2) := by decide +kernel
theorem dX12_write_12 : decode cX12_write 12 = .ok (.iload 5, 2) := by decide +kernel
theorem dX12_write_14 : decode cX12_write 14 = .ok (.ifCond .eq 7, 3) := by decide +kernel
theorem dX12_write_17 : decode cX12_write 17 = .ok (.iload 5, 2) := by decide +kernel
theorem dX12_write_19 : decode cX12_write 19 = .ok (.i2l, 1) := by decide +kernel
theorem dX12_write_20 : decode cX12_write 20 = .ok (.lreturn, 1) := by decide +kernel
theorem dX12_write_21 : decode cX12_write 21 = .ok (.iload_n 2, 1) := by decide +kernel
theorem dX12_write_22 : decode cX12_write 22 = .ok (.i2l, 1) := by decide +kernel
theorem dX12_write_23 : decode cX12_write 23 = .ok (.lconst 0, 1) := by decide +kernel
theorem dX12_write_24 : decode cX12_write 24 = .ok (.aload_n 0, 1) := by decide +kernel
theorem dX12_write_25 : decode cX12_write 25 = .ok (.getfield 81, 3) := by decide +kernel
theorem dX12_write_28 : decode cX12_write 28 = .ok (.iload_n 1, 1) := by decide +kernel
theorem dX12_write_29 : decode cX12_write 29 = .ok (.iaload, 1) := by decide +kernel
theorem dX12_write_30 : decode cX12_write 30 = .ok (.iconst 1, 1) := by decide +kernel
theorem dX12_write_31 : decode cX12_write 31 = .ok (.isub, 1) := by decide +kernel
theorem dX12_write_32 : decode cX12_write 32 = .ok (.i2l, 1) := by decide +kernel
theorem dX12_write_33 : decode cX12_write 33 = .ok (.invokestatic 154, 3) := by decide +kernel
theorem dX12_write_36 : decode cX12_write 36 = .ok (.ifCond .ne 7, 3) := by decide +kernel
theorem dX12_write_39 : decode cX12_write 39 = .ok (.ldc2_w 505, 3) := by decide +kernel
theorem dX12_write_42 : decode cX12_write 42 = .ok (.lreturn, 1) := by decide +kernel
theorem dX12_write_43 : decode cX12_write 43 = .ok (.aload_n 0, 1) := by decide +kernel
theorem dX12_write_44 : decode cX12_write 44 = .ok (.getfield 84, 3) := by decide +kernel
theorem dX12_write_47 : decode cX12_write 47 = .ok (.bipush 40, 2) := by decide +kernel
theorem dX12_write_49 : decode cX12_write 49 = .ok (.iload_n 1, 1) := by decide +kernel
theorem dX12_write_50 : decode cX12_write 50 = .ok (.imul, 1) := by decide +kernel
theorem dX12_write_51 : decode cX12_write 51 = .ok (.iload_n 2, 1) := by decide +kernel
theorem dX12_write_52 : decode cX12_write 52 = .ok (.iadd, 1) := by decide +kernel
theorem dX12_write_53 : decode cX12_write 53 = .ok (.lload_n 3, 1) := by decide +kernel
theorem dX12_write_54 : decode cX12_write 54 = .ok (.aload_n 0, 1) := by decide +kernel
theorem dX12_write_55 : decode cX12_write 55 = .ok (.getfield 78, 3) := by decide +kernel
theorem dX12_write_58 : decode cX12_write 58 = .ok (.iload_n 1, 1) := by decide +kernel
theorem dX12_write_59 : decode cX12_write 59 = .ok (.iaload, 1) := by decide +kernel
theorem dX12_write_60 : decode cX12_write 60 = .ok (.invokestatic 507, 3) := by decide +kernel
theorem dX12_write_63 : decode cX12_write 63 = .ok (.lastore, 1) := by decide +kernel
theorem dX12_write_64 : decode cX12_write 64 = .ok (.aload_n 0, 1) := by decide +kernel
theorem dX12_write_65 : decode cX12_write 65 = .ok (.getfield 84, 3) := by decide +kernel
theorem dX12_write_68 : decode cX12_write 68 = .ok (.bipush 40, 2) := by decide +kernel
theorem dX12_write_70 : decode cX12_write 70 = .ok (.iload_n 1, 1) := by decide +kernel
theorem dX12_write_71 : decode cX12_write 71 = .ok (.imul, 1) := by decide +kernel
theorem dX12_write_72 : decode cX12_write 72 = .ok (.iload_n 2, 1) := by decide +kernel
theorem dX12_write_73 : decode cX12_write 73 = .ok (.iadd, 1) := by decide +kernel
theorem dX12_write_74 : decode cX12_write 74 = .ok (.laload, 1) := by decide +kernel
theorem dX12_write_75 : decode cX12_write 75 = .ok (.lreturn, 1) := by decide +kernel
def wX12_write (f : Nat) (Φ : Int → aj_M → Prop) (q0 : List Nat) (v1 : Int) (v2 : Int) (w3 : Int) (m : aj_M) : Prop := ∀ m1, m1 = aj_u m q0 0 0 → wX12_noTray f (fun z1 m2 => rI z1 ∧ (z1 = 0 → rI v2 ∧ (0 ≤ v1 ∧ v1 < 4) ∧ rI ((m2 (45 :: q0) v1.toNat) - 1) ∧ wX12_within f (fun z2 m3 => rI z2 ∧ (¬ z2 = 0 → (0 ≤ v1 ∧ v1 < 4) ∧ wX12_cutTo f (fun z3 m4 => (0 ≤ ((40 * v1) + v2) ∧ ((40 * v1) + v2) < 160) ∧ ∀ m5, m5 = aj_u m4 (46 :: q0) ((40 * v1) + v2).toNat z3 → (0 ≤ ((40 * v1) + v2) ∧ ((40 * v1) + v2) < 160) ∧ Φ (m5 (46 :: q0) ((40 * v1) + v2).toNat) m5) w3 (m3 (44 :: q0) v1.toNat) m3) ∧ (z2 = 0 → Φ (-7) m3)) v2 0 ((m2 (45 :: q0) v1.toNat) - 1) m2) ∧ (¬ (z1 = 0) → rI z1 ∧ Φ z1 m2)) q0 v1 m1
set_option maxHeartbeats 4000000 in
set_option maxRecDepth 100000 in
theorem sX12_write {n f : Nat} {Φ : Int → aj_M → Prop} {q0 : List Nat} {v1 : Int} {v2 : Int} {w3 : Int} {m : aj_M} (hq0 : (.inl (12, q0) : aj_R) ∈ aj_pls) (h : wX12_write f Φ q0 v1 v2 w3 m) : aj_Ct (n + 2) yX12_write cX12_write 6 (some .long) [vO 12 q0, vI v1, vI v2, vL w3] m (fun r m => ∃ z, r = some (vL z) ∧ Φ z m) := by
  refine aj_met (lv := [some (vO 12 q0), some (vI v1), some (vI v2), some (vL w3), none, none]) (by decide +kernel) rfl (Nat.le_of_ble_eq_true rfl) (fun X C K => ?_)
  unfold wX12_write at h
  refine aj_aload_n C dX12_write_0 rfl ?_
  refine aj_iconst C dX12_write_1 ?_
  refine aj_putI C fpX12_1 hq0 rfl dX12_write_2 ?_
  refine aj_nm (fun m1 e1 => ?_)
  have h := h m1 e1
  refine aj_aload_n C dX12_write_5 rfl ?_
  refine aj_iload_n C dX12_write_6 rfl ?_
  refine aj_callV (rest := []) C mvX12_330 (sX12_noTray hq0 h) hq0 (aj_np 1 (by decide +kernel) rfl) (Nat.le_of_ble_eq_true rfl) rfl dX12_write_7 (fun r m2 h => ?_)
  obtain ⟨z1, rfl, h⟩ := h
  refine aj_istore (lv' := [some (vO 12 q0), some (vI v1), some (vI v2), some (vL w3), none, some (vI z1)]) C dX12_write_10 (by decide) rfl ?_
  refine aj_iload C dX12_write_12 rfl ?_
  obtain ⟨r0, h1, h2⟩ := h
  refine aj_if_eq (tgt := 21) C dX12_write_14 (by decide) r0 (fun e => ?_) (fun e => ?_)
  · have h := h1 e
    refine aj_iload_n C dX12_write_21 rfl ?_
    obtain ⟨r0, h⟩ := h
    refine aj_i2l C dX12_write_22 r0 ?_
    refine aj_lconst (z := 0) C dX12_write_23 rfl ?_
    refine aj_aload_n C dX12_write_24 rfl ?_
    refine aj_getA (x := 0) (y := 4) C flX12_81 hq0 rfl dX12_write_25 ?_
    refine aj_iload_n C dX12_write_28 rfl ?_
    obtain ⟨r0, h⟩ := h
    refine aj_iald C (aj_ca (e := 0) (n := 4) (j := 45) hq0 (by decide) rfl) (by decide) r0 dX12_write_29 rfl ?_
    refine aj_iconst C dX12_write_30 ?_
    refine aj_isub C dX12_write_31 ?_
    obtain ⟨r0, h⟩ := h
    refine aj_i2l C dX12_write_32 r0 ?_
    refine aj_callS (rest := []) C msX12_154 (sX12_within  h) (aj_np 3 (by decide +kernel) rfl) (Nat.le_of_ble_eq_true rfl) rfl dX12_write_33 (fun r m3 h => ?_)
    obtain ⟨z2, rfl, h⟩ := h
    obtain ⟨r0, h1, h2⟩ := h
    refine aj_if_ne (tgt := 43) C dX12_write_36 (by decide) r0 (fun e => ?_) (fun e => ?_)
    · have h := h1 e
      refine aj_aload_n C dX12_write_43 rfl ?_
      refine aj_getA (x := 3) (y := 160) C flX12_84 hq0 rfl dX12_write_44 ?_
      refine aj_bipush C dX12_write_47 (by decide) ?_
      refine aj_iload_n C dX12_write_49 rfl ?_
      refine aj_imul C dX12_write_50 ?_
      refine aj_iload_n C dX12_write_51 rfl ?_
      refine aj_iadd C dX12_write_52 ?_
      refine aj_lload_n C dX12_write_53 rfl ?_
      refine aj_aload_n C dX12_write_54 rfl ?_
      refine aj_getA (x := 0) (y := 4) C flX12_78 hq0 rfl dX12_write_55 ?_
      refine aj_iload_n C dX12_write_58 rfl ?_
      obtain ⟨r0, h⟩ := h
      refine aj_iald C (aj_ca (e := 0) (n := 4) (j := 44) hq0 (by decide) rfl) (by decide) r0 dX12_write_59 rfl ?_
      refine aj_callS (rest := [vI ((40 * v1) + v2), vA 3 160 (46 :: q0)]) C msX12_507 (sX12_cutTo  h) (aj_np 2 (by decide +kernel) rfl) (Nat.le_of_ble_eq_true rfl) rfl dX12_write_60 (fun r m4 h => ?_)
      obtain ⟨z3, rfl, h⟩ := h
      obtain ⟨r0, h⟩ := h
      refine aj_last C (aj_ca (e := 3) (n := 160) (j := 46) hq0 (by decide) rfl) (by decide) r0 dX12_write_63 ?_
      refine aj_nm (fun m5 e1 => ?_)
      have h := h m5 e1
      refine aj_aload_n C dX12_write_64 rfl ?_
      refine aj_getA (x := 3) (y := 160) C flX12_84 hq0 rfl dX12_write_65 ?_
      refine aj_bipush C dX12_write_68 (by decide) ?_
      refine aj_iload_n C dX12_write_70 rfl ?_
      refine aj_imul C dX12_write_71 ?_
      refine aj_iload_n C dX12_write_72 rfl ?_
      refine aj_iadd C dX12_write_73 ?_
      obtain ⟨r0, h⟩ := h
      refine aj_lald C (aj_ca (e := 3) (n := 160) (j := 46) hq0 (by decide) rfl) (by decide) r0 dX12_write_74 rfl ?_
      exact aj_lret C K dX12_write_75 ⟨_, rfl, h⟩
    · have h := h2 e
      refine aj_ldc2 (z := (-7)) C (wd2177) rfl dX12_write_39 ?_
      exact aj_lret C K dX12_write_42 ⟨_, rfl, h⟩
  · have h := h2 e
    refine aj_iload C dX12_write_17 rfl ?_
    obtain ⟨r0, h⟩ := h
    refine aj_i2l C dX12_write_19 r0 ?_
    exact aj_lret C K dX12_write_20 ⟨_, rfl, h⟩
theorem dX12_lists_0 : decode cX12_lists 0 = .ok (.aload_n 0, 1) := by decide +kernel
theorem dX12_lists_1 : decode cX12_lists 1 = .ok (.iconst 0, 1) := by decide +kernel
theorem dX12_lists_2 : decode cX12_lists 2 = .ok (.putfield 1, 3) := by decide +kernel
theorem dX12_lists_5 : decode cX12_lists 5 = .ok (.aload_n 0, 1) := by decide +kernel
theorem dX12_lists_6 : decode cX12_lists 6 = .ok (.iload_n 1, 1) := by decide +kernel
theorem dX12_lists_7 : decode cX12_lists 7 = .ok (.invokevirtual 330, 3) := by decide +kernel
theorem dX12_lists_10 : decode cX12_lists 10 = .ok (.istore_n 2, 1) := by decide +kernel
theorem dX12_lists_11 : decode cX12_lists 11 = .ok (.iload_n 2, 1) := by decide +kernel
theorem dX12_lists_12 : decode cX12_lists 12 = .ok (.ifCond .eq 5, 3) := by decide +kernel
theorem dX12_lists_15 : decode cX12_lists 15 = .ok (.iload_n 2, 1) := by decide +kernel
theorem dX12_lists_16 : decode cX12_lists 16 = .ok (.ireturn, 1) := by decide +kernel
theorem dX12_lists_17 : decode cX12_lists 17 = .ok (.aload_n 0, 1) := by decide +kernel
theorem dX12_lists_18 : decode cX12_lists 18 = .ok (.invokevirtual 377, 3) := by decide +kernel
theorem dX12_lists_21 : decode cX12_lists 21 = .ok (.istore_n 3, 1) := by decide +kernel
theorem dX12_lists_22 : decode cX12_lists 22 = .ok (.iload_n 3, 1) := by decide +kernel
theorem dX12_lists_23 : decode cX12_lists 23 = .ok (.iconst (-1), 1) := by decide +kernel
theorem dX12_lists_24 : decode cX12_lists 24 = .ok (.if_icmp .ne 6, 3) := by decide +kernel
theorem dX12_lists_27 : decode cX12_lists 27 = .ok (.bipush (-5), 2) := by decide +kernel
theorem dX12_lists_29 : decode cX12_lists 29 = .ok (.ireturn, 1) := by decide +kernel
theorem dX12_lists_30 : decode cX12_lists 30 = .ok (.iload_n 3, 1) := by decide +kernel
theorem dX12_lists_31 : decode cX12_lists 31 = .ok (.aload_n 0, 1) := by decide +kernel
theorem dX12_lists_32 : decode cX12_lists 32 = .ok (.getfield 81, 3) := by decide +kernel
theorem dX12_lists_35 : decode cX12_lists 35 = .ok (.iload_n 1, 1) := by decide +kernel
theorem dX12_lists_36 : decode cX12_lists 36 = .ok (.iaload, 1) := by decide +kernel
theorem dX12_lists_37 : decode cX12_lists 37 = .ok (.if_icmp .ge 7, 3) := by decide +kernel
theorem dX12_lists_40 : decode cX12_lists 40 = .ok (.iload_n 3, 1) := by decide +kernel
theorem dX12_lists_41 : decode cX12_lists 41 = .ok (.goto 9, 3) := by decide +kernel
theorem dX12_lists_44 : decode cX12_lists 44 = .ok (.aload_n 0, 1) := by decide +kernel
theorem dX12_lists_45 : decode cX12_lists 45 = .ok (.getfield 81, 3) := by decide +kernel
theorem dX12_lists_48 : decode cX12_lists 48 = .ok (.iload_n 1, 1) := by decide +kernel
theorem dX12_lists_49 : decode cX12_lists 49 = .ok (.iaload, 1) := by decide +kernel
theorem dX12_lists_50 : decode cX12_lists 50 = .ok (.istore 4, 2) := by decide +kernel
theorem dX12_lists_52 : decode cX12_lists 52 = .ok (.iconst 0, 1) := by decide +kernel
theorem dX12_lists_53 : decode cX12_lists 53 = .ok (.istore 5, 2) := by decide +kernel
theorem dX12_lists_55 : decode cX12_lists 55 = .ok (.iload 5, 2) := by decide +kernel
theorem dX12_lists_57 : decode cX12_lists 57 = .ok (.iload 4, 2) := by decide +kernel
theorem dX12_lists_59 : decode cX12_lists 59 = .ok (.if_icmp .ge 29, 3) := by decide +kernel
theorem dX12_lists_62 : decode cX12_lists 62 = .ok (.aload_n 0, 1) := by decide +kernel
theorem dX12_lists_63 : decode cX12_lists 63 = .ok (.getfield 84, 3) := by decide +kernel
theorem dX12_lists_66 : decode cX12_lists 66 = .ok (.bipush 40, 2) := by decide +kernel
theorem dX12_lists_68 : decode cX12_lists 68 = .ok (.iload_n 1, 1) := by decide +kernel
theorem dX12_lists_69 : decode cX12_lists 69 = .ok (.imul, 1) := by decide +kernel
theorem dX12_lists_70 : decode cX12_lists 70 = .ok (.iload 5, 2) := by decide +kernel
theorem dX12_lists_72 : decode cX12_lists 72 = .ok (.iadd, 1) := by decide +kernel
theorem dX12_lists_73 : decode cX12_lists 73 = .ok (.aload_n 0, 1) := by decide +kernel
theorem dX12_lists_74 : decode cX12_lists 74 = .ok (.getfield 60, 3) := by decide +kernel
theorem dX12_lists_77 : decode cX12_lists 77 = .ok (.iload 5, 2) := by decide +kernel
theorem dX12_lists_79 : decode cX12_lists 79 = .ok (.iaload, 1) := by decide +kernel
theorem dX12_lists_80 : decode cX12_lists 80 = .ok (.i2l, 1) := by decide +kernel
theorem dX12_lists_81 : decode cX12_lists 81 = .ok (.lastore, 1) := by decide +kernel
theorem dX12_lists_82 : decode cX12_lists 82 = .ok (.iinc 5 1, 3) := by decide +kernel
theorem dX12_lists_85 : decode cX12_lists 85 = .ok (.goto (-30), 3) := by decide +kernel
theorem dX12_lists_88 : decode cX12_lists 88 = .ok (.iload 4, 2) := by decide +kernel
theorem dX12_lists_90 : decode cX12_lists 90 = .ok (.ireturn, 1) := by decide +kernel
def hX12_lists_55 (f : Nat) (Φ : Int → aj_M → Prop) : Nat → List Nat → Int → Int → Int → aj_M → Prop
  | 0, _, _, _, _, _ => False
  | k + 1, q0, v1, v4, v5, m => rI v5 ∧ rI v4 ∧ (v4 ≤ v5 → Φ v4 m) ∧ (¬ (v4 ≤ v5) → (0 ≤ v5 ∧ v5 < 60) ∧ rI (m (30 :: q0) v5.toNat) ∧ (0 ≤ ((40 * v1) + v5) ∧ ((40 * v1) + v5) < 160) ∧ ∀ m1, m1 = aj_u m (46 :: q0) ((40 * v1) + v5).toNat (m (30 :: q0) v5.toNat) → hX12_lists_55 f Φ k q0 v1 v4 (v5 + 1) m1)
set_option maxHeartbeats 4000000 in
set_option maxRecDepth 100000 in
theorem tX12_lists_55 {X : aj_T} {n f : Nat} {Φ : Int → aj_M → Prop} (C : aj_Cx X cX12_lists RX12 6 (n + 67)) (K : aj_Rt X (some .int) (fun r m => ∃ z, r = some (vI z) ∧ Φ z m)) : ∀ (k : Nat) (q0 : List Nat) (v1 : Int) (v4 : Int) (v5 : Int) (m : aj_M) (hq0 : (.inl (12, q0) : aj_R) ∈ aj_pls), hX12_lists_55 f Φ k q0 v1 v4 v5 m → aj_J X 55 [some (vO 12 q0), some (vI v1), none, none, some (vI v4), some (vI v5)] [] m := by
  intro k
  induction k with
  | zero =>
    intro q0 v1 v4 v5 m _ h
    exact h.elim
  | succ k ih =>
    intro q0 v1 v4 v5 m hq0 h
    unfold hX12_lists_55 at h
    refine aj_iload C dX12_lists_55 rfl ?_
    refine aj_iload C dX12_lists_57 rfl ?_
    obtain ⟨r0, r1, h1, h2⟩ := h
    refine aj_icmp_ge (tgt := 88) C dX12_lists_59 (by decide) r0 r1 (fun e => ?_) (fun e => ?_)
    · have h := h1 e
      refine aj_iload C dX12_lists_88 rfl ?_
      exact aj_iret C K dX12_lists_90 ⟨_, rfl, h⟩
    · have h := h2 e
      refine aj_aload_n C dX12_lists_62 rfl ?_
      refine aj_getA (x := 3) (y := 160) C flX12_84 hq0 rfl dX12_lists_63 ?_
      refine aj_bipush C dX12_lists_66 (by decide) ?_
      refine aj_iload_n C dX12_lists_68 rfl ?_
      refine aj_imul C dX12_lists_69 ?_
      refine aj_iload C dX12_lists_70 rfl ?_
      refine aj_iadd C dX12_lists_72 ?_
      refine aj_aload_n C dX12_lists_73 rfl ?_
      refine aj_getA (x := 0) (y := 60) C flX12_60 hq0 rfl dX12_lists_74 ?_
      refine aj_iload C dX12_lists_77 rfl ?_
      obtain ⟨r0, h⟩ := h
      refine aj_iald C (aj_ca (e := 0) (n := 60) (j := 30) hq0 (by decide) rfl) (by decide) r0 dX12_lists_79 rfl ?_
      obtain ⟨r0, h⟩ := h
      refine aj_i2l C dX12_lists_80 r0 ?_
      obtain ⟨r0, h⟩ := h
      refine aj_last C (aj_ca (e := 3) (n := 160) (j := 46) hq0 (by decide) rfl) (by decide) r0 dX12_lists_81 ?_
      refine aj_nm (fun m1 e1 => ?_)
      have h := h m1 e1
      refine aj_iinc (lv' := [some (vO 12 q0), some (vI v1), none, none, some (vI v4), some (vI (v5 + 1))]) C dX12_lists_82 rfl (by decide) rfl ?_
      refine aj_goto (tgt := 55) C dX12_lists_85 (by decide) ?_
      exact ih q0 v1 v4 (v5 + 1) _ hq0 h
def wX12_lists (f : Nat) (Φ : Int → aj_M → Prop) (q0 : List Nat) (v1 : Int) (m : aj_M) : Prop := ∀ m1, m1 = aj_u m q0 0 0 → wX12_noTray f (fun z1 m2 => rI z1 ∧ (z1 = 0 → wX12_laysRing f (fun z2 m3 => rI z2 ∧ (¬ z2 = (-1) → (0 ≤ v1 ∧ v1 < 4) ∧ rI z2 ∧ rI (m3 (45 :: q0) v1.toNat) ∧ ((m3 (45 :: q0) v1.toNat) ≤ z2 → (0 ≤ v1 ∧ v1 < 4) ∧ hX12_lists_55 f Φ f q0 v1 (m3 (45 :: q0) v1.toNat) 0 m3) ∧ (¬ ((m3 (45 :: q0) v1.toNat) ≤ z2) → hX12_lists_55 f Φ f q0 v1 z2 0 m3)) ∧ (z2 = (-1) → Φ (-5) m3)) q0 m2) ∧ (¬ (z1 = 0) → Φ z1 m2)) q0 v1 m1
set_option maxHeartbeats 4000000 in
set_option maxRecDepth 100000 in
theorem sX12_lists {n f : Nat} {Φ : Int → aj_M → Prop} {q0 : List Nat} {v1 : Int} {m : aj_M} (hq0 : (.inl (12, q0) : aj_R) ∈ aj_pls) (h : wX12_lists f Φ q0 v1 m) : aj_Ct (n + 67) yX12_lists cX12_lists 6 (some .int) [vO 12 q0, vI v1] m (fun r m => ∃ z, r = some (vI z) ∧ Φ z m) := by
  refine aj_met (lv := [some (vO 12 q0), some (vI v1), none, none, none, none]) (by decide +kernel) rfl (Nat.le_of_ble_eq_true rfl) (fun X C K => ?_)
  unfold wX12_lists at h
  refine aj_aload_n C dX12_lists_0 rfl ?_
  refine aj_iconst C dX12_lists_1 ?_
  refine aj_putI C fpX12_1 hq0 rfl dX12_lists_2 ?_
  refine aj_nm (fun m1 e1 => ?_)
  have h := h m1 e1
  refine aj_aload_n C dX12_lists_5 rfl ?_
  refine aj_iload_n C dX12_lists_6 rfl ?_
  refine aj_callV (rest := []) C mvX12_330 (sX12_noTray hq0 h) hq0 (aj_np 1 (by decide +kernel) rfl) (Nat.le_of_ble_eq_true rfl) rfl dX12_lists_7 (fun r m2 h => ?_)
  obtain ⟨z1, rfl, h⟩ := h
  refine aj_istore_n (lv' := [some (vO 12 q0), some (vI v1), some (vI z1), none, none, none]) C dX12_lists_10 (by decide) rfl ?_
  refine aj_iload_n C dX12_lists_11 rfl ?_
  obtain ⟨r0, h1, h2⟩ := h
  refine aj_if_eq (tgt := 17) C dX12_lists_12 (by decide) r0 (fun e => ?_) (fun e => ?_)
  · have h := h1 e
    refine aj_aload_n C dX12_lists_17 rfl ?_
    refine aj_callV (rest := []) C mvX12_377 (sX12_laysRing hq0 h) hq0 (aj_np 0 (by decide +kernel) rfl) (Nat.le_of_ble_eq_true rfl) rfl dX12_lists_18 (fun r m3 h => ?_)
    obtain ⟨z2, rfl, h⟩ := h
    refine aj_istore_n (lv' := [some (vO 12 q0), some (vI v1), some (vI z1), some (vI z2), none, none]) C dX12_lists_21 (by decide) rfl ?_
    refine aj_iload_n C dX12_lists_22 rfl ?_
    refine aj_iconst C dX12_lists_23 ?_
    obtain ⟨r0, h1, h2⟩ := h
    refine aj_icmp_ne (tgt := 30) C dX12_lists_24 (by decide) r0 (by decide) (fun e => ?_) (fun e => ?_)
    · have h := h1 e
      refine aj_iload_n C dX12_lists_30 rfl ?_
      refine aj_aload_n C dX12_lists_31 rfl ?_
      refine aj_getA (x := 0) (y := 4) C flX12_81 hq0 rfl dX12_lists_32 ?_
      refine aj_iload_n C dX12_lists_35 rfl ?_
      obtain ⟨r0, h⟩ := h
      refine aj_iald C (aj_ca (e := 0) (n := 4) (j := 45) hq0 (by decide) rfl) (by decide) r0 dX12_lists_36 rfl ?_
      obtain ⟨r0, r1, h1, h2⟩ := h
      refine aj_icmp_ge (tgt := 44) C dX12_lists_37 (by decide) r0 r1 (fun e => ?_) (fun e => ?_)
      · have h := h1 e
        refine aj_aload_n C dX12_lists_44 rfl ?_
        refine aj_getA (x := 0) (y := 4) C flX12_81 hq0 rfl dX12_lists_45 ?_
        refine aj_iload_n C dX12_lists_48 rfl ?_
        obtain ⟨r0, h⟩ := h
        refine aj_iald C (aj_ca (e := 0) (n := 4) (j := 45) hq0 (by decide) rfl) (by decide) r0 dX12_lists_49 rfl ?_
        refine aj_istore (lv' := [some (vO 12 q0), some (vI v1), some (vI z1), some (vI z2), some (vI (m3 (45 :: q0) v1.toNat)), none]) C dX12_lists_50 (by decide) rfl ?_
        refine aj_iconst C dX12_lists_52 ?_
        refine aj_istore (lv' := [some (vO 12 q0), some (vI v1), some (vI z1), some (vI z2), some (vI (m3 (45 :: q0) v1.toNat)), some (vI 0)]) C dX12_lists_53 (by decide) rfl ?_
        refine aj_wk (lv' := [some (vO 12 q0), some (vI v1), none, none, some (vI (m3 (45 :: q0) v1.toNat)), some (vI 0)]) (⟨rfl, ⟨rfl, ⟨rfl, ⟨rfl, trivial⟩⟩⟩⟩) ?_
        exact tX12_lists_55 C K f q0 v1 (m3 (45 :: q0) v1.toNat) 0 _ hq0 h
      · have h := h2 e
        refine aj_iload_n C dX12_lists_40 rfl ?_
        refine aj_goto (tgt := 50) C dX12_lists_41 (by decide) ?_
        refine aj_istore (lv' := [some (vO 12 q0), some (vI v1), some (vI z1), some (vI z2), some (vI z2), none]) C dX12_lists_50 (by decide) rfl ?_
        refine aj_iconst C dX12_lists_52 ?_
        refine aj_istore (lv' := [some (vO 12 q0), some (vI v1), some (vI z1), some (vI z2), some (vI z2), some (vI 0)]) C dX12_lists_53 (by decide) rfl ?_
        refine aj_wk (lv' := [some (vO 12 q0), some (vI v1), none, none, some (vI z2), some (vI 0)]) (⟨rfl, ⟨rfl, ⟨rfl, ⟨rfl, trivial⟩⟩⟩⟩) ?_
        exact tX12_lists_55 C K f q0 v1 z2 0 _ hq0 h
    · have h := h2 e
      refine aj_bipush C dX12_lists_27 (by decide) ?_
      exact aj_iret C K dX12_lists_29 ⟨_, rfl, h⟩
  · have h := h2 e
    refine aj_iload_n C dX12_lists_15 rfl ?_
    exact aj_iret C K dX12_lists_16 ⟨_, rfl, h⟩
theorem dX12_image_0 : decode cX12_image 0 = .ok (.aload_n 0, 1) := by decide +kernel
theorem dX12_image_1 : decode cX12_image 1 = .ok (.iconst 0, 1) := by decide +kernel
theorem dX12_image_2 : decode cX12_image 2 = .ok (.putfield 1, 3) := by decide +kernel
theorem dX12_image_5 : decode cX12_image 5 = .ok (.iload_n 1, 1) := by decide +kernel
theorem dX12_image_6 : decode cX12_image 6 = .ok (.i2l, 1) := by decide +kernel
theorem dX12_image_7 : decode cX12_image 7 = .ok (.lconst 0, 1) := by decide +kernel
theorem dX12_image_8 : decode cX12_image 8 = .ok (.lconst 1, 1) := by decide +kernel
theorem dX12_image_9 : decode cX12_image 9 = .ok (.invokestatic 154, 3) := by decide +kernel
theorem dX12_image_12 : decode cX12_image 12 = .ok (.ifCond .ne 6, 3) := by decide +kernel
theorem dX12_image_15 : decode cX12_image 15 = .ok (.bipush (-2), 2) := by decide +kernel
theorem dX12_image_17 : decode cX12_image 17 = .ok (.ireturn, 1) := by decide +kernel
theorem dX12_image_18 : decode cX12_image 18 = .ok (.iconst 0, 1) := by decide +kernel
theorem dX12_image_19 : decode cX12_image 19 = .ok (.istore_n 2, 1) := by decide +kernel
theorem dX12_image_20 : decode cX12_image 20 = .ok (.iload_n 2, 1) := by decide +kernel
theorem dX12_image_21 : decode cX12_image 21 = .ok (.sipush 1105, 3) := by decide +kernel
theorem dX12_image_24 : decode cX12_image 24 = .ok (.if_icmp .ge 29, 3) := by decide +kernel
theorem dX12_image_27 : decode cX12_image 27 = .ok (.aload_n 0, 1) := by decide +kernel
theorem dX12_image_28 : decode cX12_image 28 = .ok (.getfield 13, 3) := by decide +kernel
theorem dX12_image_31 : decode cX12_image 31 = .ok (.sipush 1105, 3) := by decide +kernel
theorem dX12_image_34 : decode cX12_image 34 = .ok (.iload_n 1, 1) := by decide +kernel
theorem dX12_image_35 : decode cX12_image 35 = .ok (.iconst 1, 1) := by decide +kernel
theorem dX12_image_36 : decode cX12_image 36 = .ok (.iadd, 1) := by decide +kernel
theorem dX12_image_37 : decode cX12_image 37 = .ok (.imul, 1) := by decide +kernel
theorem dX12_image_38 : decode cX12_image 38 = .ok (.iload_n 2, 1) := by decide +kernel
theorem dX12_image_39 : decode cX12_image 39 = .ok (.iadd, 1) := by decide +kernel
theorem dX12_image_40 : decode cX12_image 40 = .ok (.aload_n 0, 1) := by decide +kernel
theorem dX12_image_41 : decode cX12_image 41 = .ok (.getfield 13, 3) := by decide +kernel
theorem dX12_image_44 : decode cX12_image 44 = .ok (.iload_n 2, 1) := by decide +kernel
theorem dX12_image_45 : decode cX12_image 45 = .ok (.iaload, 1) := by decide +kernel
theorem dX12_image_46 : decode cX12_image 46 = .ok (.iastore, 1) := by decide +kernel
theorem dX12_image_47 : decode cX12_image 47 = .ok (.iinc 2 1, 3) := by decide +kernel
theorem dX12_image_50 : decode cX12_image 50 = .ok (.goto (-30), 3) := by decide +kernel
theorem dX12_image_53 : decode cX12_image 53 = .ok (.aload_n 0, 1) := by decide +kernel
theorem dX12_image_54 : decode cX12_image 54 = .ok (.getfield 17, 3) := by decide +kernel
theorem dX12_image_57 : decode cX12_image 57 = .ok (.iload_n 1, 1) := by decide +kernel
theorem dX12_image_58 : decode cX12_image 58 = .ok (.iconst 1, 1) := by decide +kernel
theorem dX12_image_59 : decode cX12_image 59 = .ok (.bastore, 1) := by decide +kernel
theorem dX12_image_60 : decode cX12_image 60 = .ok (.iconst 0, 1) := by decide +kernel
theorem dX12_image_61 : decode cX12_image 61 = .ok (.ireturn, 1) := by decide +kernel
def hX12_image_20 (f : Nat) (Φ : Int → aj_M → Prop) : Nat → List Nat → Int → Int → aj_M → Prop
  | 0, _, _, _, _ => False
  | k + 1, q0, v1, v2, m => rI v2 ∧ (1105 ≤ v2 → (0 ≤ v1 ∧ v1 < 2) ∧ ∀ m1, m1 = aj_u m (2 :: q0) v1.toNat 1 → Φ 0 m1) ∧ (¬ (1105 ≤ v2) → (0 ≤ v2 ∧ v2 < 3315) ∧ (0 ≤ ((1105 * (v1 + 1)) + v2) ∧ ((1105 * (v1 + 1)) + v2) < 3315) ∧ ∀ m2, m2 = aj_u m (1 :: q0) ((1105 * (v1 + 1)) + v2).toNat (m (1 :: q0) v2.toNat) → hX12_image_20 f Φ k q0 v1 (v2 + 1) m2)
set_option maxHeartbeats 4000000 in
set_option maxRecDepth 100000 in
theorem tX12_image_20 {X : aj_T} {n f : Nat} {Φ : Int → aj_M → Prop} (C : aj_Cx X cX12_image RX12 3 (n + 1)) (K : aj_Rt X (some .int) (fun r m => ∃ z, r = some (vI z) ∧ Φ z m)) : ∀ (k : Nat) (q0 : List Nat) (v1 : Int) (v2 : Int) (m : aj_M) (hq0 : (.inl (12, q0) : aj_R) ∈ aj_pls), hX12_image_20 f Φ k q0 v1 v2 m → aj_J X 20 [some (vO 12 q0), some (vI v1), some (vI v2)] [] m := by
  intro k
  induction k with
  | zero =>
    intro q0 v1 v2 m _ h
    exact h.elim
  | succ k ih =>
    intro q0 v1 v2 m hq0 h
    unfold hX12_image_20 at h
    refine aj_iload_n C dX12_image_20 rfl ?_
    refine aj_sipush C dX12_image_21 (by decide) ?_
    obtain ⟨r0, h1, h2⟩ := h
    refine aj_icmp_ge (tgt := 53) C dX12_image_24 (by decide) r0 (by decide) (fun e => ?_) (fun e => ?_)
    · have h := h1 e
      refine aj_aload_n C dX12_image_53 rfl ?_
      refine aj_getA (x := 1) (y := 2) C flX12_17 hq0 rfl dX12_image_54 ?_
      refine aj_iload_n C dX12_image_57 rfl ?_
      refine aj_iconst C dX12_image_58 ?_
      obtain ⟨r0, h⟩ := h
      refine aj_zast C (Or.inr rfl) (aj_ca (e := 1) (n := 2) (j := 2) hq0 (by decide) rfl) (by decide) r0 dX12_image_59 ?_
      refine aj_nm (fun m1 e1 => ?_)
      have h := h m1 e1
      refine aj_iconst C dX12_image_60 ?_
      exact aj_iret C K dX12_image_61 ⟨_, rfl, h⟩
    · have h := h2 e
      refine aj_aload_n C dX12_image_27 rfl ?_
      refine aj_getA (x := 0) (y := 3315) C flX12_13 hq0 rfl dX12_image_28 ?_
      refine aj_sipush C dX12_image_31 (by decide) ?_
      refine aj_iload_n C dX12_image_34 rfl ?_
      refine aj_iconst C dX12_image_35 ?_
      refine aj_iadd C dX12_image_36 ?_
      refine aj_imul C dX12_image_37 ?_
      refine aj_iload_n C dX12_image_38 rfl ?_
      refine aj_iadd C dX12_image_39 ?_
      refine aj_aload_n C dX12_image_40 rfl ?_
      refine aj_getA (x := 0) (y := 3315) C flX12_13 hq0 rfl dX12_image_41 ?_
      refine aj_iload_n C dX12_image_44 rfl ?_
      obtain ⟨r0, h⟩ := h
      refine aj_iald C (aj_ca (e := 0) (n := 3315) (j := 1) hq0 (by decide) rfl) (by decide) r0 dX12_image_45 rfl ?_
      obtain ⟨r0, h⟩ := h
      refine aj_iast C (aj_ca (e := 0) (n := 3315) (j := 1) hq0 (by decide) rfl) (by decide) r0 dX12_image_46 ?_
      refine aj_nm (fun m2 e1 => ?_)
      have h := h m2 e1
      refine aj_iinc (lv' := [some (vO 12 q0), some (vI v1), some (vI (v2 + 1))]) C dX12_image_47 rfl (by decide) rfl ?_
      refine aj_goto (tgt := 20) C dX12_image_50 (by decide) ?_
      exact ih q0 v1 (v2 + 1) _ hq0 h
def wX12_image (f : Nat) (Φ : Int → aj_M → Prop) (q0 : List Nat) (v1 : Int) (m : aj_M) : Prop := ∀ m1, m1 = aj_u m q0 0 0 → rI v1 ∧ wX12_within f (fun z1 m2 => rI z1 ∧ (¬ z1 = 0 → hX12_image_20 f Φ f q0 v1 0 m2) ∧ (z1 = 0 → Φ (-2) m2)) v1 0 1 m1
set_option maxHeartbeats 4000000 in
set_option maxRecDepth 100000 in
theorem sX12_image {n f : Nat} {Φ : Int → aj_M → Prop} {q0 : List Nat} {v1 : Int} {m : aj_M} (hq0 : (.inl (12, q0) : aj_R) ∈ aj_pls) (h : wX12_image f Φ q0 v1 m) : aj_Ct (n + 1) yX12_image cX12_image 3 (some .int) [vO 12 q0, vI v1] m (fun r m => ∃ z, r = some (vI z) ∧ Φ z m) := by
  refine aj_met (lv := [some (vO 12 q0), some (vI v1), none]) (by decide +kernel) rfl (Nat.le_of_ble_eq_true rfl) (fun X C K => ?_)
  unfold wX12_image at h
  refine aj_aload_n C dX12_image_0 rfl ?_
  refine aj_iconst C dX12_image_1 ?_
  refine aj_putI C fpX12_1 hq0 rfl dX12_image_2 ?_
  refine aj_nm (fun m1 e1 => ?_)
  have h := h m1 e1
  refine aj_iload_n C dX12_image_5 rfl ?_
  obtain ⟨r0, h⟩ := h
  refine aj_i2l C dX12_image_6 r0 ?_
  refine aj_lconst (z := 0) C dX12_image_7 rfl ?_
  refine aj_lconst (z := 1) C dX12_image_8 rfl ?_
  refine aj_callS (rest := []) C msX12_154 (sX12_within  h) (aj_np 3 (by decide +kernel) rfl) (Nat.le_of_ble_eq_true rfl) rfl dX12_image_9 (fun r m2 h => ?_)
  obtain ⟨z1, rfl, h⟩ := h
  obtain ⟨r0, h1, h2⟩ := h
  refine aj_if_ne (tgt := 18) C dX12_image_12 (by decide) r0 (fun e => ?_) (fun e => ?_)
  · have h := h1 e
    refine aj_iconst C dX12_image_18 ?_
    refine aj_istore_n (lv' := [some (vO 12 q0), some (vI v1), some (vI 0)]) C dX12_image_19 (by decide) rfl ?_
    exact tX12_image_20 C K f q0 v1 0 _ hq0 h
  · have h := h2 e
    refine aj_bipush C dX12_image_15 (by decide) ?_
    exact aj_iret C K dX12_image_17 ⟨_, rfl, h⟩
