theorem dX12_readArc_0 : decode cX12_readArc 0 = .ok (.aload_n 0, 1) := by decide +kernel
theorem dX12_readArc_1 : decode cX12_readArc 1 = .ok (.getfield 24, 3) := by decide +kernel
theorem dX12_readArc_4 : decode cX12_readArc 4 = .ok (.bipush 6, 2) := by decide +kernel
theorem dX12_readArc_6 : decode cX12_readArc 6 = .ok (.iaload, 1) := by decide +kernel
theorem dX12_readArc_7 : decode cX12_readArc 7 = .ok (.istore_n 1, 1) := by decide +kernel
theorem dX12_readArc_8 : decode cX12_readArc 8 = .ok (.aload_n 0, 1) := by decide +kernel
theorem dX12_readArc_9 : decode cX12_readArc 9 = .ok (.bipush 9, 2) := by decide +kernel
theorem dX12_readArc_11 : decode cX12_readArc 11 = .ok (.invokevirtual 144, 3) := by decide +kernel
theorem dX12_readArc_14 : decode cX12_readArc 14 = .ok (.istore_n 2, 1) := by decide +kernel
theorem dX12_readArc_15 : decode cX12_readArc 15 = .ok (.iload_n 1, 1) := by decide +kernel
theorem dX12_readArc_16 : decode cX12_readArc 16 = .ok (.bipush 12, 2) := by decide +kernel
theorem dX12_readArc_18 : decode cX12_readArc 18 = .ok (.if_icmp .ne 8, 3) := by decide +kernel
theorem dX12_readArc_21 : decode cX12_readArc 21 = .ok (.aload_n 0, 1) := by decide +kernel
theorem dX12_readArc_22 : decode cX12_readArc 22 = .ok (.iconst 4, 1) := by decide +kernel
theorem dX12_readArc_23 : decode cX12_readArc 23 = .ok (.invokevirtual 150, 3) := by decide +kernel
theorem dX12_readArc_26 : decode cX12_readArc 26 = .ok (.aload_n 0, 1) := by decide +kernel
theorem dX12_readArc_27 : decode cX12_readArc 27 = .ok (.getfield 138, 3) := by decide +kernel
theorem dX12_readArc_30 : decode cX12_readArc 30 = .ok (.ifCond .eq 4, 3) := by decide +kernel
theorem dX12_readArc_33 : decode cX12_readArc 33 = .ok (.return_, 1) := by decide +kernel
theorem dX12_readArc_34 : decode cX12_readArc 34 = .ok (.aload_n 0, 1) := by decide +kernel
theorem dX12_readArc_35 : decode cX12_readArc 35 = .ok (.invokevirtual 147, 3) := by decide +kernel
theorem dX12_readArc_38 : decode cX12_readArc 38 = .ok (.aload_n 0, 1) := by decide +kernel
theorem dX12_readArc_39 : decode cX12_readArc 39 = .ok (.getfield 24, 3) := by decide +kernel
theorem dX12_readArc_42 : decode cX12_readArc 42 = .ok (.bipush 13, 2) := by decide +kernel
theorem dX12_readArc_44 : decode cX12_readArc 44 = .ok (.iload_n 1, 1) := by decide +kernel
theorem dX12_readArc_45 : decode cX12_readArc 45 = .ok (.iadd, 1) := by decide +kernel
theorem dX12_readArc_46 : decode cX12_readArc 46 = .ok (.aload_n 0, 1) := by decide +kernel
theorem dX12_readArc_47 : decode cX12_readArc 47 = .ok (.iconst 0, 1) := by decide +kernel
theorem dX12_readArc_48 : decode cX12_readArc 48 = .ok (.aload_n 0, 1) := by decide +kernel
theorem dX12_readArc_49 : decode cX12_readArc 49 = .ok (.getfield 24, 3) := by decide +kernel
theorem dX12_readArc_52 : decode cX12_readArc 52 = .ok (.iconst 5, 1) := by decide +kernel
theorem dX12_readArc_53 : decode cX12_readArc 53 = .ok (.iaload, 1) := by decide +kernel
theorem dX12_readArc_54 : decode cX12_readArc 54 = .ok (.iconst 1, 1) := by decide +kernel
theorem dX12_readArc_55 : decode cX12_readArc 55 = .ok (.isub, 1) := by decide +kernel
theorem dX12_readArc_56 : decode cX12_readArc 56 = .ok (.invokevirtual 218, 3) := by decide +kernel
theorem dX12_readArc_59 : decode cX12_readArc 59 = .ok (.iastore, 1) := by decide +kernel
theorem dX12_readArc_60 : decode cX12_readArc 60 = .ok (.aload_n 0, 1) := by decide +kernel
theorem dX12_readArc_61 : decode cX12_readArc 61 = .ok (.getfield 24, 3) := by decide +kernel
theorem dX12_readArc_64 : decode cX12_readArc 64 = .ok (.bipush 25, 2) := by decide +kernel
theorem dX12_readArc_66 : decode cX12_readArc 66 = .ok (.iload_n 1, 1) := by decide +kernel
theorem dX12_readArc_67 : decode cX12_readArc 67 = .ok (.iadd, 1) := by decide +kernel
theorem dX12_readArc_68 : decode cX12_readArc 68 = .ok (.iload_n 2, 1) := by decide +kernel
theorem dX12_readArc_69 : decode cX12_readArc 69 = .ok (.ifCond .eq 15, 3) := by decide +kernel
theorem dX12_readArc_72 : decode cX12_readArc 72 = .ok (.aload_n 0, 1) := by decide +kernel
theorem dX12_readArc_73 : decode cX12_readArc 73 = .ok (.getfield 24, 3) := by decide +kernel
theorem dX12_readArc_76 : decode cX12_readArc 76 = .ok (.bipush 13, 2) := by decide +kernel
theorem dX12_readArc_78 : decode cX12_readArc 78 = .ok (.iload_n 1, 1) := by decide +kernel
theorem dX12_readArc_79 : decode cX12_readArc 79 = .ok (.iadd, 1) := by decide +kernel
theorem dX12_readArc_80 : decode cX12_readArc 80 = .ok (.iaload, 1) := by decide +kernel
theorem dX12_readArc_81 : decode cX12_readArc 81 = .ok (.goto 16, 3) := by decide +kernel
theorem dX12_readArc_84 : decode cX12_readArc 84 = .ok (.aload_n 0, 1) := by decide +kernel
theorem dX12_readArc_85 : decode cX12_readArc 85 = .ok (.iconst 0, 1) := by decide +kernel
theorem dX12_readArc_86 : decode cX12_readArc 86 = .ok (.aload_n 0, 1) := by decide +kernel
theorem dX12_readArc_87 : decode cX12_readArc 87 = .ok (.getfield 24, 3) := by decide +kernel
theorem dX12_readArc_90 : decode cX12_readArc 90 = .ok (.iconst 5, 1) := by decide +kernel
theorem dX12_readArc_91 : decode cX12_readArc 91 = .ok (.iaload, 1) := by decide +kernel
theorem dX12_readArc_92 : decode cX12_readArc 92 = .ok (.iconst 1, 1) := by decide +kernel
theorem dX12_readArc_93 : decode cX12_readArc 93 = .ok (.isub, 1) := by decide +kernel
theorem dX12_readArc_94 : decode cX12_readArc 94 = .ok (.invokevirtual 218, 3) := by decide +kernel
theorem dX12_readArc_97 : decode cX12_readArc 97 = .ok (.iastore, 1) := by decide +kernel
theorem dX12_readArc_98 : decode cX12_readArc 98 = .ok (.aload_n 0, 1) := by decide +kernel
theorem dX12_readArc_99 : decode cX12_readArc 99 = .ok (.bipush 8, 2) := by decide +kernel
theorem dX12_readArc_101 : decode cX12_readArc 101 = .ok (.invokevirtual 170, 3) := by decide +kernel
theorem dX12_readArc_104 : decode cX12_readArc 104 = .ok (.ifCond .ne 8, 3) := by decide +kernel
theorem dX12_readArc_107 : decode cX12_readArc 107 = .ok (.aload_n 0, 1) := by decide +kernel
theorem dX12_readArc_108 : decode cX12_readArc 108 = .ok (.iconst 2, 1) := by decide +kernel
theorem dX12_readArc_109 : decode cX12_readArc 109 = .ok (.invokevirtual 150, 3) := by decide +kernel
theorem dX12_readArc_112 : decode cX12_readArc 112 = .ok (.iload_n 2, 1) := by decide +kernel
theorem dX12_readArc_113 : decode cX12_readArc 113 = .ok (.ifCond .eq 53, 3) := by decide +kernel
theorem dX12_readArc_116 : decode cX12_readArc 116 = .ok (.aload_n 0, 1) := by decide +kernel
theorem dX12_readArc_117 : decode cX12_readArc 117 = .ok (.bipush 23, 2) := by decide +kernel
theorem dX12_readArc_119 : decode cX12_readArc 119 = .ok (.invokevirtual 144, 3) := by decide +kernel
theorem dX12_readArc_122 : decode cX12_readArc 122 = .ok (.ifCond .eq 44, 3) := by decide +kernel
theorem dX12_readArc_125 : decode cX12_readArc 125 = .ok (.aload_n 0, 1) := by decide +kernel
theorem dX12_readArc_126 : decode cX12_readArc 126 = .ok (.getfield 133, 3) := by decide +kernel
theorem dX12_readArc_129 : decode cX12_readArc 129 = .ok (.i2l, 1) := by decide +kernel
theorem dX12_readArc_130 : decode cX12_readArc 130 = .ok (.lconst 0, 1) := by decide +kernel
theorem dX12_readArc_131 : decode cX12_readArc 131 = .ok (.aload_n 0, 1) := by decide +kernel
theorem dX12_readArc_132 : decode cX12_readArc 132 = .ok (.getfield 24, 3) := by decide +kernel
theorem dX12_readArc_135 : decode cX12_readArc 135 = .ok (.iconst 4, 1) := by decide +kernel
theorem dX12_readArc_136 : decode cX12_readArc 136 = .ok (.iaload, 1) := by decide +kernel
theorem dX12_readArc_137 : decode cX12_readArc 137 = .ok (.iconst 1, 1) := by decide +kernel
theorem dX12_readArc_138 : decode cX12_readArc 138 = .ok (.isub, 1) := by decide +kernel
theorem dX12_readArc_139 : decode cX12_readArc 139 = .ok (.i2l, 1) := by decide +kernel
theorem dX12_readArc_140 : decode cX12_readArc 140 = .ok (.invokestatic 154, 3) := by decide +kernel
theorem dX12_readArc_143 : decode cX12_readArc 143 = .ok (.ifCond .eq 23, 3) := by decide +kernel
theorem dX12_readArc_146 : decode cX12_readArc 146 = .ok (.aload_n 0, 1) := by decide +kernel
theorem dX12_readArc_147 : decode cX12_readArc 147 = .ok (.getfield 24, 3) := by decide +kernel
theorem dX12_readArc_150 : decode cX12_readArc 150 = .ok (.aload_n 0, 1) := by decide +kernel
theorem dX12_readArc_151 : decode cX12_readArc 151 = .ok (.getfield 133, 3) := by decide +kernel
theorem dX12_readArc_154 : decode cX12_readArc 154 = .ok (.invokestatic 212, 3) := by decide +kernel
theorem dX12_readArc_157 : decode cX12_readArc 157 = .ok (.iconst 2, 1) := by decide +kernel
theorem dX12_readArc_158 : decode cX12_readArc 158 = .ok (.if_icmp .eq 8, 3) := by decide +kernel
theorem dX12_readArc_161 : decode cX12_readArc 161 = .ok (.aload_n 0, 1) := by decide +kernel
theorem dX12_readArc_162 : decode cX12_readArc 162 = .ok (.iconst 3, 1) := by decide +kernel
theorem dX12_readArc_163 : decode cX12_readArc 163 = .ok (.invokevirtual 150, 3) := by decide +kernel
theorem dX12_readArc_166 : decode cX12_readArc 166 = .ok (.aload_n 0, 1) := by decide +kernel
theorem dX12_readArc_167 : decode cX12_readArc 167 = .ok (.getfield 24, 3) := by decide +kernel
theorem dX12_readArc_170 : decode cX12_readArc 170 = .ok (.bipush 49, 2) := by decide +kernel
theorem dX12_readArc_172 : decode cX12_readArc 172 = .ok (.iload_n 1, 1) := by decide +kernel
theorem dX12_readArc_173 : decode cX12_readArc 173 = .ok (.iadd, 1) := by decide +kernel
theorem dX12_readArc_174 : decode cX12_readArc 174 = .ok (.aload_n 0, 1) := by decide +kernel
theorem dX12_readArc_175 : decode cX12_readArc 175 = .ok (.iconst 0, 1) := by decide +kernel
theorem dX12_readArc_176 : decode cX12_readArc 176 = .ok (.aload_n 0, 1) := by decide +kernel
theorem dX12_readArc_177 : decode cX12_readArc 177 = .ok (.getfield 24, 3) := by decide +kernel
theorem dX12_readArc_180 : decode cX12_readArc 180 = .ok (.iconst 4, 1) := by decide +kernel
theorem dX12_readArc_181 : decode cX12_readArc 181 = .ok (.iaload, 1) := by decide +kernel
theorem dX12_readArc_182 : decode cX12_readArc 182 = .ok (.iconst 1, 1) := by decide +kernel
theorem dX12_readArc_183 : decode cX12_readArc 183 = .ok (.isub, 1) := by decide +kernel
theorem dX12_readArc_184 : decode cX12_readArc 184 = .ok (.invokevirtual 218, 3) := by decide +kernel
theorem dX12_readArc_187 : decode cX12_readArc 187 = .ok (.iastore, 1) := by decide +kernel
theorem dX12_readArc_188 : decode cX12_readArc 188 = .ok (.aload_n 0, 1) := by decide +kernel
theorem dX12_readArc_189 : decode cX12_readArc 189 = .ok (.getfield 24, 3) := by decide +kernel
theorem dX12_readArc_192 : decode cX12_readArc 192 = .ok (.bipush 37, 2) := by decide +kernel
theorem dX12_readArc_194 : decode cX12_readArc 194 = .ok (.iload_n 1, 1) := by decide +kernel
theorem dX12_readArc_195 : decode cX12_readArc 195 = .ok (.iadd, 1) := by decide +kernel
theorem dX12_readArc_196 : decode cX12_readArc 196 = .ok (.iload_n 2, 1) := by decide +kernel
theorem dX12_readArc_197 : decode cX12_readArc 197 = .ok (.ifCond .eq 7, 3) := by decide +kernel
theorem dX12_readArc_200 : decode cX12_readArc 200 = .ok (.iconst 1, 1) := by decide +kernel
theorem dX12_readArc_201 : decode cX12_readArc 201 = .ok (.goto 4, 3) := by decide +kernel
theorem dX12_readArc_204 : decode cX12_readArc 204 = .ok (.iconst 0, 1) := by decide +kernel
theorem dX12_readArc_205 : decode cX12_readArc 205 = .ok (.iastore, 1) := by decide +kernel
theorem dX12_readArc_206 : decode cX12_readArc 206 = .ok (.aload_n 0, 1) := by decide +kernel
theorem dX12_readArc_207 : decode cX12_readArc 207 = .ok (.getfield 138, 3) := by decide +kernel
theorem dX12_readArc_210 : decode cX12_readArc 210 = .ok (.ifCond .ne 14, 3) := by decide +kernel
theorem dX12_readArc_213 : decode cX12_readArc 213 = .ok (.aload_n 0, 1) := by decide +kernel
theorem dX12_readArc_214 : decode cX12_readArc 214 = .ok (.getfield 24, 3) := by decide +kernel
theorem dX12_readArc_217 : decode cX12_readArc 217 = .ok (.bipush 6, 2) := by decide +kernel
theorem dX12_readArc_219 : decode cX12_readArc 219 = .ok (.dup2, 1) := by decide +kernel
theorem dX12_readArc_220 : decode cX12_readArc 220 = .ok (.iaload, 1) := by decide +kernel
theorem dX12_readArc_221 : decode cX12_readArc 221 = .ok (.iconst 1, 1) := by decide +kernel
theorem dX12_readArc_222 : decode cX12_readArc 222 = .ok (.iadd, 1) := by decide +kernel
theorem dX12_readArc_223 : decode cX12_readArc 223 = .ok (.iastore, 1) := by decide +kernel
theorem dX12_readArc_224 : decode cX12_readArc 224 = .ok (.return_, 1) := by decide +kernel
def hX12_readArc_166 (f : Nat) (Φ : aj_M → Prop) (q0 : List Nat) (v1 : Int) (v2 : Int) (m : aj_M) : Prop := wX12_takes f (fun z1 m1 => (0 ≤ (49 + v1) ∧ (49 + v1) < 1105) ∧ ∀ m2, m2 = aj_u m1 (4 :: q0) (49 + v1).toNat z1 → rI v2 ∧ (v2 = 0 → (0 ≤ (37 + v1) ∧ (37 + v1) < 1105) ∧ ∀ m3, m3 = aj_u m2 (4 :: q0) (37 + v1).toNat 0 → rI (m3 q0 11) ∧ (¬ (m3 q0 11) = 0 → Φ m3) ∧ ((m3 q0 11) = 0 → ∀ m4, m4 = aj_u m3 (4 :: q0) (6 : Int).toNat ((m3 (4 :: q0) (6 : Int).toNat) + 1) → Φ m4)) ∧ (¬ (v2 = 0) → (0 ≤ (37 + v1) ∧ (37 + v1) < 1105) ∧ ∀ m5, m5 = aj_u m2 (4 :: q0) (37 + v1).toNat 1 → rI (m5 q0 11) ∧ (¬ (m5 q0 11) = 0 → Φ m5) ∧ ((m5 q0 11) = 0 → ∀ m6, m6 = aj_u m5 (4 :: q0) (6 : Int).toNat ((m5 (4 :: q0) (6 : Int).toNat) + 1) → Φ m6))) q0 0 ((m (4 :: q0) (4 : Int).toNat) - 1) m
set_option maxHeartbeats 4000000 in
set_option maxRecDepth 100000 in
theorem tX12_readArc_166 {X : aj_T} {n f : Nat} {Φ : aj_M → Prop} (C : aj_Cx X cX12_readArc RX12 3 (n + 7)) (K : aj_Rt X none (fun r m => r = none ∧ Φ m)) (q0 : List Nat) (v1 : Int) (v2 : Int) (m : aj_M) (hq0 : (.inl (12, q0) : aj_R) ∈ aj_pls) (h : hX12_readArc_166 f Φ q0 v1 v2 m) : aj_J X 166 [some (vO 12 q0), some (vI v1), some (vI v2)] [] m := by
  unfold hX12_readArc_166 at h
  refine aj_aload_n C dX12_readArc_166 rfl ?_
  refine aj_getA (x := 0) (y := 1105) C flX12_24 hq0 rfl dX12_readArc_167 ?_
  refine aj_bipush C dX12_readArc_170 (by decide) ?_
  refine aj_iload_n C dX12_readArc_172 rfl ?_
  refine aj_iadd C dX12_readArc_173 ?_
  refine aj_aload_n C dX12_readArc_174 rfl ?_
  refine aj_iconst C dX12_readArc_175 ?_
  refine aj_aload_n C dX12_readArc_176 rfl ?_
  refine aj_getA (x := 0) (y := 1105) C flX12_24 hq0 rfl dX12_readArc_177 ?_
  refine aj_iconst C dX12_readArc_180 ?_
  refine aj_iald C (aj_ca (e := 0) (n := 1105) (j := 4) hq0 (by decide) rfl) (by decide) (by decide) dX12_readArc_181 rfl ?_
  refine aj_iconst C dX12_readArc_182 ?_
  refine aj_isub C dX12_readArc_183 ?_
  refine aj_callV (rest := [vI (49 + v1), vA 0 1105 (4 :: q0)]) C mvX12_218 (sX12_takes hq0 h) hq0 (aj_np 2 (by decide +kernel) rfl) (Nat.le_of_ble_eq_true rfl) rfl dX12_readArc_184 (fun r m1 h => ?_)
  obtain ⟨z1, rfl, h⟩ := h
  obtain ⟨r0, h⟩ := h
  refine aj_iast C (aj_ca (e := 0) (n := 1105) (j := 4) hq0 (by decide) rfl) (by decide) r0 dX12_readArc_187 ?_
  refine aj_nm (fun m2 e1 => ?_)
  have h := h m2 e1
  refine aj_aload_n C dX12_readArc_188 rfl ?_
  refine aj_getA (x := 0) (y := 1105) C flX12_24 hq0 rfl dX12_readArc_189 ?_
  refine aj_bipush C dX12_readArc_192 (by decide) ?_
  refine aj_iload_n C dX12_readArc_194 rfl ?_
  refine aj_iadd C dX12_readArc_195 ?_
  refine aj_iload_n C dX12_readArc_196 rfl ?_
  obtain ⟨r0, h1, h2⟩ := h
  refine aj_if_eq (tgt := 204) C dX12_readArc_197 (by decide) r0 (fun e => ?_) (fun e => ?_)
  · have h := h1 e
    refine aj_iconst C dX12_readArc_204 ?_
    obtain ⟨r0, h⟩ := h
    refine aj_iast C (aj_ca (e := 0) (n := 1105) (j := 4) hq0 (by decide) rfl) (by decide) r0 dX12_readArc_205 ?_
    refine aj_nm (fun m3 e1 => ?_)
    have h := h m3 e1
    refine aj_aload_n C dX12_readArc_206 rfl ?_
    refine aj_getI C flX12_138 hq0 (by decide) dX12_readArc_207 rfl ?_
    obtain ⟨r0, h1, h2⟩ := h
    refine aj_if_ne (tgt := 224) C dX12_readArc_210 (by decide) r0 (fun e => ?_) (fun e => ?_)
    · have h := h1 e
      exact aj_vret C K dX12_readArc_224 ⟨rfl, h⟩
    · have h := h2 e
      refine aj_aload_n C dX12_readArc_213 rfl ?_
      refine aj_getA (x := 0) (y := 1105) C flX12_24 hq0 rfl dX12_readArc_214 ?_
      refine aj_bipush C dX12_readArc_217 (by decide) ?_
      refine aj_dup2 C aj_nI aj_nR dX12_readArc_219 ?_
      refine aj_iald C (aj_ca (e := 0) (n := 1105) (j := 4) hq0 (by decide) rfl) (by decide) (by decide) dX12_readArc_220 rfl ?_
      refine aj_iconst C dX12_readArc_221 ?_
      refine aj_iadd C dX12_readArc_222 ?_
      refine aj_iast C (aj_ca (e := 0) (n := 1105) (j := 4) hq0 (by decide) rfl) (by decide) (by decide) dX12_readArc_223 ?_
      refine aj_nm (fun m4 e1 => ?_)
      have h := h m4 e1
      exact aj_vret C K dX12_readArc_224 ⟨rfl, h⟩
  · have h := h2 e
    refine aj_iconst C dX12_readArc_200 ?_
    refine aj_goto (tgt := 205) C dX12_readArc_201 (by decide) ?_
    obtain ⟨r0, h⟩ := h
    refine aj_iast C (aj_ca (e := 0) (n := 1105) (j := 4) hq0 (by decide) rfl) (by decide) r0 dX12_readArc_205 ?_
    refine aj_nm (fun m5 e1 => ?_)
    have h := h m5 e1
    refine aj_aload_n C dX12_readArc_206 rfl ?_
    refine aj_getI C flX12_138 hq0 (by decide) dX12_readArc_207 rfl ?_
    obtain ⟨r0, h1, h2⟩ := h
    refine aj_if_ne (tgt := 224) C dX12_readArc_210 (by decide) r0 (fun e => ?_) (fun e => ?_)
    · have h := h1 e
      exact aj_vret C K dX12_readArc_224 ⟨rfl, h⟩
    · have h := h2 e
      refine aj_aload_n C dX12_readArc_213 rfl ?_
      refine aj_getA (x := 0) (y := 1105) C flX12_24 hq0 rfl dX12_readArc_214 ?_
      refine aj_bipush C dX12_readArc_217 (by decide) ?_
      refine aj_dup2 C aj_nI aj_nR dX12_readArc_219 ?_
      refine aj_iald C (aj_ca (e := 0) (n := 1105) (j := 4) hq0 (by decide) rfl) (by decide) (by decide) dX12_readArc_220 rfl ?_
      refine aj_iconst C dX12_readArc_221 ?_
      refine aj_iadd C dX12_readArc_222 ?_
      refine aj_iast C (aj_ca (e := 0) (n := 1105) (j := 4) hq0 (by decide) rfl) (by decide) (by decide) dX12_readArc_223 ?_
      refine aj_nm (fun m6 e1 => ?_)
      have h := h m6 e1
      exact aj_vret C K dX12_readArc_224 ⟨rfl, h⟩
def hX12_readArc_112 (f : Nat) (Φ : aj_M → Prop) (q0 : List Nat) (v1 : Int) (v2 : Int) (m : aj_M) : Prop := rI v2 ∧ (v2 = 0 → hX12_readArc_166 f Φ q0 v1 v2 m) ∧ (¬ (v2 = 0) → wX12_is f (fun z1 m1 => rI z1 ∧ (z1 = 0 → hX12_readArc_166 f Φ q0 v1 v2 m1) ∧ (¬ (z1 = 0) → rI (m1 q0 10) ∧ rI ((m1 (4 :: q0) (4 : Int).toNat) - 1) ∧ wX12_within f (fun z2 m2 => rI z2 ∧ (z2 = 0 → hX12_readArc_166 f Φ q0 v1 v2 m2) ∧ (¬ (z2 = 0) → wX12_ordersOf f (fun z3 m3 => rI z3 ∧ (z3 = 2 → hX12_readArc_166 f Φ q0 v1 v2 m3) ∧ (¬ (z3 = 2) → wX12_fails f (fun m4 => hX12_readArc_166 f Φ q0 v1 v2 m4) q0 3 m3)) 1105 (4 :: q0) (m2 q0 10) m2)) (m1 q0 10) 0 ((m1 (4 :: q0) (4 : Int).toNat) - 1) m1)) q0 23 m)
set_option maxHeartbeats 4000000 in
set_option maxRecDepth 100000 in
theorem tX12_readArc_112 {X : aj_T} {n f : Nat} {Φ : aj_M → Prop} (C : aj_Cx X cX12_readArc RX12 3 (n + 7)) (K : aj_Rt X none (fun r m => r = none ∧ Φ m)) (q0 : List Nat) (v1 : Int) (v2 : Int) (m : aj_M) (hq0 : (.inl (12, q0) : aj_R) ∈ aj_pls) (h : hX12_readArc_112 f Φ q0 v1 v2 m) : aj_J X 112 [some (vO 12 q0), some (vI v1), some (vI v2)] [] m := by
  unfold hX12_readArc_112 at h
  refine aj_iload_n C dX12_readArc_112 rfl ?_
  obtain ⟨r0, h1, h2⟩ := h
  refine aj_if_eq (tgt := 166) C dX12_readArc_113 (by decide) r0 (fun e => ?_) (fun e => ?_)
  · have h := h1 e
    exact tX12_readArc_166 C K q0 v1 v2 _ hq0 h
  · have h := h2 e
    refine aj_aload_n C dX12_readArc_116 rfl ?_
    refine aj_bipush C dX12_readArc_117 (by decide) ?_
    refine aj_callV (rest := []) C mvX12_144 (sX12_is hq0 h) hq0 (aj_np 1 (by decide +kernel) rfl) (Nat.le_of_ble_eq_true rfl) rfl dX12_readArc_119 (fun r m1 h => ?_)
    obtain ⟨z1, rfl, h⟩ := h
    obtain ⟨r0, h1, h2⟩ := h
    refine aj_if_eq (tgt := 166) C dX12_readArc_122 (by decide) r0 (fun e => ?_) (fun e => ?_)
    · have h := h1 e
      exact tX12_readArc_166 C K q0 v1 v2 _ hq0 h
    · have h := h2 e
      refine aj_aload_n C dX12_readArc_125 rfl ?_
      refine aj_getI C flX12_133 hq0 (by decide) dX12_readArc_126 rfl ?_
      obtain ⟨r0, h⟩ := h
      refine aj_i2l C dX12_readArc_129 r0 ?_
      refine aj_lconst (z := 0) C dX12_readArc_130 rfl ?_
      refine aj_aload_n C dX12_readArc_131 rfl ?_
      refine aj_getA (x := 0) (y := 1105) C flX12_24 hq0 rfl dX12_readArc_132 ?_
      refine aj_iconst C dX12_readArc_135 ?_
      refine aj_iald C (aj_ca (e := 0) (n := 1105) (j := 4) hq0 (by decide) rfl) (by decide) (by decide) dX12_readArc_136 rfl ?_
      refine aj_iconst C dX12_readArc_137 ?_
      refine aj_isub C dX12_readArc_138 ?_
      obtain ⟨r0, h⟩ := h
      refine aj_i2l C dX12_readArc_139 r0 ?_
      refine aj_callS (rest := []) C msX12_154 (sX12_within  h) (aj_np 3 (by decide +kernel) rfl) (Nat.le_of_ble_eq_true rfl) rfl dX12_readArc_140 (fun r m2 h => ?_)
      obtain ⟨z2, rfl, h⟩ := h
      obtain ⟨r0, h1, h2⟩ := h
      refine aj_if_eq (tgt := 166) C dX12_readArc_143 (by decide) r0 (fun e => ?_) (fun e => ?_)
      · have h := h1 e
        exact tX12_readArc_166 C K q0 v1 v2 _ hq0 h
      · have h := h2 e
        refine aj_aload_n C dX12_readArc_146 rfl ?_
        refine aj_getA (x := 0) (y := 1105) C flX12_24 hq0 rfl dX12_readArc_147 ?_
        refine aj_aload_n C dX12_readArc_150 rfl ?_
        refine aj_getI C flX12_133 hq0 (by decide) dX12_readArc_151 rfl ?_
        refine aj_callS (rest := []) C msX12_212 (sX12_ordersOf (aj_ca (e := 0) (n := 1105) (j := 4) hq0 (by decide) rfl) (by decide) h) (aj_np 2 (by decide +kernel) rfl) (Nat.le_of_ble_eq_true rfl) rfl dX12_readArc_154 (fun r m3 h => ?_)
        obtain ⟨z3, rfl, h⟩ := h
        refine aj_iconst C dX12_readArc_157 ?_
        obtain ⟨r0, h1, h2⟩ := h
        refine aj_icmp_eq (tgt := 166) C dX12_readArc_158 (by decide) r0 (by decide) (fun e => ?_) (fun e => ?_)
        · have h := h1 e
          exact tX12_readArc_166 C K q0 v1 v2 _ hq0 h
        · have h := h2 e
          refine aj_aload_n C dX12_readArc_161 rfl ?_
          refine aj_iconst C dX12_readArc_162 ?_
          refine aj_callV (rest := []) C mvX12_150 (sX12_fails hq0 h) hq0 (aj_np 1 (by decide +kernel) rfl) (Nat.le_of_ble_eq_true rfl) rfl dX12_readArc_163 (fun r m4 h => ?_)
          obtain ⟨rfl, h⟩ := h
          exact tX12_readArc_166 C K q0 v1 v2 _ hq0 h
def hX12_readArc_26 (f : Nat) (Φ : aj_M → Prop) (q0 : List Nat) (v1 : Int) (v2 : Int) (m : aj_M) : Prop := rI (m q0 11) ∧ ((m q0 11) = 0 → wX12_next f (fun m1 => wX12_takes f (fun z2 m2 => (0 ≤ (13 + v1) ∧ (13 + v1) < 1105) ∧ ∀ m3, m3 = aj_u m2 (4 :: q0) (13 + v1).toNat z2 → rI v2 ∧ (v2 = 0 → wX12_takes f (fun z3 m4 => (0 ≤ (25 + v1) ∧ (25 + v1) < 1105) ∧ ∀ m5, m5 = aj_u m4 (4 :: q0) (25 + v1).toNat z3 → wX12_eats f (fun z4 m6 => rI z4 ∧ (¬ z4 = 0 → hX12_readArc_112 f Φ q0 v1 v2 m6) ∧ (z4 = 0 → wX12_fails f (fun m7 => hX12_readArc_112 f Φ q0 v1 v2 m7) q0 2 m6)) q0 8 m5) q0 0 ((m3 (4 :: q0) (5 : Int).toNat) - 1) m3) ∧ (¬ (v2 = 0) → (0 ≤ (13 + v1) ∧ (13 + v1) < 1105) ∧ (0 ≤ (25 + v1) ∧ (25 + v1) < 1105) ∧ ∀ m8, m8 = aj_u m3 (4 :: q0) (25 + v1).toNat (m3 (4 :: q0) (13 + v1).toNat) → wX12_eats f (fun z6 m9 => rI z6 ∧ (¬ z6 = 0 → hX12_readArc_112 f Φ q0 v1 v2 m9) ∧ (z6 = 0 → wX12_fails f (fun m10 => hX12_readArc_112 f Φ q0 v1 v2 m10) q0 2 m9)) q0 8 m8)) q0 0 ((m1 (4 :: q0) (5 : Int).toNat) - 1) m1) q0 m) ∧ (¬ ((m q0 11) = 0) → Φ m)
set_option maxHeartbeats 4000000 in
set_option maxRecDepth 100000 in
theorem tX12_readArc_26 {X : aj_T} {n f : Nat} {Φ : aj_M → Prop} (C : aj_Cx X cX12_readArc RX12 3 (n + 7)) (K : aj_Rt X none (fun r m => r = none ∧ Φ m)) (q0 : List Nat) (v1 : Int) (v2 : Int) (m : aj_M) (hq0 : (.inl (12, q0) : aj_R) ∈ aj_pls) (h : hX12_readArc_26 f Φ q0 v1 v2 m) : aj_J X 26 [some (vO 12 q0), some (vI v1), some (vI v2)] [] m := by
  unfold hX12_readArc_26 at h
  refine aj_aload_n C dX12_readArc_26 rfl ?_
  refine aj_getI C flX12_138 hq0 (by decide) dX12_readArc_27 rfl ?_
  obtain ⟨r0, h1, h2⟩ := h
  refine aj_if_eq (tgt := 34) C dX12_readArc_30 (by decide) r0 (fun e => ?_) (fun e => ?_)
  · have h := h1 e
    refine aj_aload_n C dX12_readArc_34 rfl ?_
    refine aj_callV (rest := []) C mvX12_147 (sX12_next hq0 h) hq0 (aj_np 0 (by decide +kernel) rfl) (Nat.le_of_ble_eq_true rfl) rfl dX12_readArc_35 (fun r m1 h => ?_)
    obtain ⟨rfl, h⟩ := h
    refine aj_aload_n C dX12_readArc_38 rfl ?_
    refine aj_getA (x := 0) (y := 1105) C flX12_24 hq0 rfl dX12_readArc_39 ?_
    refine aj_bipush C dX12_readArc_42 (by decide) ?_
    refine aj_iload_n C dX12_readArc_44 rfl ?_
    refine aj_iadd C dX12_readArc_45 ?_
    refine aj_aload_n C dX12_readArc_46 rfl ?_
    refine aj_iconst C dX12_readArc_47 ?_
    refine aj_aload_n C dX12_readArc_48 rfl ?_
    refine aj_getA (x := 0) (y := 1105) C flX12_24 hq0 rfl dX12_readArc_49 ?_
    refine aj_iconst C dX12_readArc_52 ?_
    refine aj_iald C (aj_ca (e := 0) (n := 1105) (j := 4) hq0 (by decide) rfl) (by decide) (by decide) dX12_readArc_53 rfl ?_
    refine aj_iconst C dX12_readArc_54 ?_
    refine aj_isub C dX12_readArc_55 ?_
    refine aj_callV (rest := [vI (13 + v1), vA 0 1105 (4 :: q0)]) C mvX12_218 (sX12_takes hq0 h) hq0 (aj_np 2 (by decide +kernel) rfl) (Nat.le_of_ble_eq_true rfl) rfl dX12_readArc_56 (fun r m2 h => ?_)
    obtain ⟨z2, rfl, h⟩ := h
    obtain ⟨r0, h⟩ := h
    refine aj_iast C (aj_ca (e := 0) (n := 1105) (j := 4) hq0 (by decide) rfl) (by decide) r0 dX12_readArc_59 ?_
    refine aj_nm (fun m3 e1 => ?_)
    have h := h m3 e1
    refine aj_aload_n C dX12_readArc_60 rfl ?_
    refine aj_getA (x := 0) (y := 1105) C flX12_24 hq0 rfl dX12_readArc_61 ?_
    refine aj_bipush C dX12_readArc_64 (by decide) ?_
    refine aj_iload_n C dX12_readArc_66 rfl ?_
    refine aj_iadd C dX12_readArc_67 ?_
    refine aj_iload_n C dX12_readArc_68 rfl ?_
    obtain ⟨r0, h1, h2⟩ := h
    refine aj_if_eq (tgt := 84) C dX12_readArc_69 (by decide) r0 (fun e => ?_) (fun e => ?_)
    · have h := h1 e
      refine aj_aload_n C dX12_readArc_84 rfl ?_
      refine aj_iconst C dX12_readArc_85 ?_
      refine aj_aload_n C dX12_readArc_86 rfl ?_
      refine aj_getA (x := 0) (y := 1105) C flX12_24 hq0 rfl dX12_readArc_87 ?_
      refine aj_iconst C dX12_readArc_90 ?_
      refine aj_iald C (aj_ca (e := 0) (n := 1105) (j := 4) hq0 (by decide) rfl) (by decide) (by decide) dX12_readArc_91 rfl ?_
      refine aj_iconst C dX12_readArc_92 ?_
      refine aj_isub C dX12_readArc_93 ?_
      refine aj_callV (rest := [vI (25 + v1), vA 0 1105 (4 :: q0)]) C mvX12_218 (sX12_takes hq0 h) hq0 (aj_np 2 (by decide +kernel) rfl) (Nat.le_of_ble_eq_true rfl) rfl dX12_readArc_94 (fun r m4 h => ?_)
      obtain ⟨z3, rfl, h⟩ := h
      obtain ⟨r0, h⟩ := h
      refine aj_iast C (aj_ca (e := 0) (n := 1105) (j := 4) hq0 (by decide) rfl) (by decide) r0 dX12_readArc_97 ?_
      refine aj_nm (fun m5 e1 => ?_)
      have h := h m5 e1
      refine aj_aload_n C dX12_readArc_98 rfl ?_
      refine aj_bipush C dX12_readArc_99 (by decide) ?_
      refine aj_callV (rest := []) C mvX12_170 (sX12_eats hq0 h) hq0 (aj_np 1 (by decide +kernel) rfl) (Nat.le_of_ble_eq_true rfl) rfl dX12_readArc_101 (fun r m6 h => ?_)
      obtain ⟨z4, rfl, h⟩ := h
      obtain ⟨r0, h1, h2⟩ := h
      refine aj_if_ne (tgt := 112) C dX12_readArc_104 (by decide) r0 (fun e => ?_) (fun e => ?_)
      · have h := h1 e
        exact tX12_readArc_112 C K q0 v1 v2 _ hq0 h
      · have h := h2 e
        refine aj_aload_n C dX12_readArc_107 rfl ?_
        refine aj_iconst C dX12_readArc_108 ?_
        refine aj_callV (rest := []) C mvX12_150 (sX12_fails hq0 h) hq0 (aj_np 1 (by decide +kernel) rfl) (Nat.le_of_ble_eq_true rfl) rfl dX12_readArc_109 (fun r m7 h => ?_)
        obtain ⟨rfl, h⟩ := h
        exact tX12_readArc_112 C K q0 v1 v2 _ hq0 h
    · have h := h2 e
      refine aj_aload_n C dX12_readArc_72 rfl ?_
      refine aj_getA (x := 0) (y := 1105) C flX12_24 hq0 rfl dX12_readArc_73 ?_
      refine aj_bipush C dX12_readArc_76 (by decide) ?_
      refine aj_iload_n C dX12_readArc_78 rfl ?_
      refine aj_iadd C dX12_readArc_79 ?_
      obtain ⟨r0, h⟩ := h
      refine aj_iald C (aj_ca (e := 0) (n := 1105) (j := 4) hq0 (by decide) rfl) (by decide) r0 dX12_readArc_80 rfl ?_
      refine aj_goto (tgt := 97) C dX12_readArc_81 (by decide) ?_
      obtain ⟨r0, h⟩ := h
      refine aj_iast C (aj_ca (e := 0) (n := 1105) (j := 4) hq0 (by decide) rfl) (by decide) r0 dX12_readArc_97 ?_
      refine aj_nm (fun m8 e1 => ?_)
      have h := h m8 e1
      refine aj_aload_n C dX12_readArc_98 rfl ?_
      refine aj_bipush C dX12_readArc_99 (by decide) ?_
      refine aj_callV (rest := []) C mvX12_170 (sX12_eats hq0 h) hq0 (aj_np 1 (by decide +kernel) rfl) (Nat.le_of_ble_eq_true rfl) rfl dX12_readArc_101 (fun r m9 h => ?_)
      obtain ⟨z6, rfl, h⟩ := h
      obtain ⟨r0, h1, h2⟩ := h
      refine aj_if_ne (tgt := 112) C dX12_readArc_104 (by decide) r0 (fun e => ?_) (fun e => ?_)
      · have h := h1 e
        exact tX12_readArc_112 C K q0 v1 v2 _ hq0 h
      · have h := h2 e
        refine aj_aload_n C dX12_readArc_107 rfl ?_
        refine aj_iconst C dX12_readArc_108 ?_
        refine aj_callV (rest := []) C mvX12_150 (sX12_fails hq0 h) hq0 (aj_np 1 (by decide +kernel) rfl) (Nat.le_of_ble_eq_true rfl) rfl dX12_readArc_109 (fun r m10 h => ?_)
        obtain ⟨rfl, h⟩ := h
        exact tX12_readArc_112 C K q0 v1 v2 _ hq0 h
  · have h := h2 e
    exact aj_vret C K dX12_readArc_33 ⟨rfl, h⟩
def wX12_readArc (f : Nat) (Φ : aj_M → Prop) (q0 : List Nat) (m : aj_M) : Prop := wX12_is f (fun z1 m1 => rI (m (4 :: q0) (6 : Int).toNat) ∧ (¬ (m (4 :: q0) (6 : Int).toNat) = 12 → hX12_readArc_26 f Φ q0 (m (4 :: q0) (6 : Int).toNat) z1 m1) ∧ ((m (4 :: q0) (6 : Int).toNat) = 12 → wX12_fails f (fun m2 => hX12_readArc_26 f Φ q0 (m (4 :: q0) (6 : Int).toNat) z1 m2) q0 4 m1)) q0 9 m
set_option maxHeartbeats 4000000 in
set_option maxRecDepth 100000 in
theorem sX12_readArc {n f : Nat} {Φ : aj_M → Prop} {q0 : List Nat} {m : aj_M} (hq0 : (.inl (12, q0) : aj_R) ∈ aj_pls) (h : wX12_readArc f Φ q0 m) : aj_Ct (n + 7) yX12_readArc cX12_readArc 3 none [vO 12 q0] m (fun r m => r = none ∧ Φ m) := by
  refine aj_met (lv := [some (vO 12 q0), none, none]) (by decide +kernel) rfl (Nat.le_of_ble_eq_true rfl) (fun X C K => ?_)
  unfold wX12_readArc at h
  refine aj_aload_n C dX12_readArc_0 rfl ?_
  refine aj_getA (x := 0) (y := 1105) C flX12_24 hq0 rfl dX12_readArc_1 ?_
  refine aj_bipush C dX12_readArc_4 (by decide) ?_
  refine aj_iald C (aj_ca (e := 0) (n := 1105) (j := 4) hq0 (by decide) rfl) (by decide) (by decide) dX12_readArc_6 rfl ?_
  refine aj_istore_n (lv' := [some (vO 12 q0), some (vI (m (4 :: q0) (6 : Int).toNat)), none]) C dX12_readArc_7 (by decide) rfl ?_
  refine aj_aload_n C dX12_readArc_8 rfl ?_
  refine aj_bipush C dX12_readArc_9 (by decide) ?_
  refine aj_callV (rest := []) C mvX12_144 (sX12_is hq0 h) hq0 (aj_np 1 (by decide +kernel) rfl) (Nat.le_of_ble_eq_true rfl) rfl dX12_readArc_11 (fun r m1 h => ?_)
  obtain ⟨z1, rfl, h⟩ := h
  refine aj_istore_n (lv' := [some (vO 12 q0), some (vI (m (4 :: q0) (6 : Int).toNat)), some (vI z1)]) C dX12_readArc_14 (by decide) rfl ?_
  refine aj_iload_n C dX12_readArc_15 rfl ?_
  refine aj_bipush C dX12_readArc_16 (by decide) ?_
  obtain ⟨r0, h1, h2⟩ := h
  refine aj_icmp_ne (tgt := 26) C dX12_readArc_18 (by decide) r0 (by decide) (fun e => ?_) (fun e => ?_)
  · have h := h1 e
    exact tX12_readArc_26 C K q0 (m (4 :: q0) (6 : Int).toNat) z1 _ hq0 h
  · have h := h2 e
    refine aj_aload_n C dX12_readArc_21 rfl ?_
    refine aj_iconst C dX12_readArc_22 ?_
    refine aj_callV (rest := []) C mvX12_150 (sX12_fails hq0 h) hq0 (aj_np 1 (by decide +kernel) rfl) (Nat.le_of_ble_eq_true rfl) rfl dX12_readArc_23 (fun r m2 h => ?_)
    obtain ⟨rfl, h⟩ := h
    exact tX12_readArc_26 C K q0 (m (4 :: q0) (6 : Int).toNat) z1 _ hq0 h
theorem dX12_readLaw_0 : decode cX12_readLaw 0 = .ok (.aload_n 0, 1) := by decide +kernel
theorem dX12_readLaw_1 : decode cX12_readLaw 1 = .ok (.invokevirtual 147, 3) := by decide +kernel
theorem dX12_readLaw_4 : decode cX12_readLaw 4 = .ok (.aload_n 0, 1) := by decide +kernel
theorem dX12_readLaw_5 : decode cX12_readLaw 5 = .ok (.bipush 31, 2) := by decide +kernel
theorem dX12_readLaw_7 : decode cX12_readLaw 7 = .ok (.invokevirtual 170, 3) := by decide +kernel
theorem dX12_readLaw_10 : decode cX12_readLaw 10 = .ok (.ifCond .ne 8, 3) := by decide +kernel
theorem dX12_readLaw_13 : decode cX12_readLaw 13 = .ok (.aload_n 0, 1) := by decide +kernel
theorem dX12_readLaw_14 : decode cX12_readLaw 14 = .ok (.iconst 2, 1) := by decide +kernel
theorem dX12_readLaw_15 : decode cX12_readLaw 15 = .ok (.invokevirtual 150, 3) := by decide +kernel
theorem dX12_readLaw_18 : decode cX12_readLaw 18 = .ok (.aload_n 0, 1) := by decide +kernel
theorem dX12_readLaw_19 : decode cX12_readLaw 19 = .ok (.getfield 24, 3) := by decide +kernel
theorem dX12_readLaw_22 : decode cX12_readLaw 22 = .ok (.sipush 204, 3) := by decide +kernel
theorem dX12_readLaw_25 : decode cX12_readLaw 25 = .ok (.iaload, 1) := by decide +kernel
theorem dX12_readLaw_26 : decode cX12_readLaw 26 = .ok (.istore_n 2, 1) := by decide +kernel
theorem dX12_readLaw_27 : decode cX12_readLaw 27 = .ok (.iload_n 1, 1) := by decide +kernel
theorem dX12_readLaw_28 : decode cX12_readLaw 28 = .ok (.iconst 1, 1) := by decide +kernel
theorem dX12_readLaw_29 : decode cX12_readLaw 29 = .ok (.if_icmp .ne 11, 3) := by decide +kernel
theorem dX12_readLaw_32 : decode cX12_readLaw 32 = .ok (.aload_n 0, 1) := by decide +kernel
theorem dX12_readLaw_33 : decode cX12_readLaw 33 = .ok (.iconst 0, 1) := by decide +kernel
theorem dX12_readLaw_34 : decode cX12_readLaw 34 = .ok (.invokevirtual 167, 3) := by decide +kernel
theorem dX12_readLaw_37 : decode cX12_readLaw 37 = .ok (.goto 8, 3) := by decide +kernel
theorem dX12_readLaw_40 : decode cX12_readLaw 40 = .ok (.aload_n 0, 1) := by decide +kernel
theorem dX12_readLaw_41 : decode cX12_readLaw 41 = .ok (.iconst 0, 1) := by decide +kernel
theorem dX12_readLaw_42 : decode cX12_readLaw 42 = .ok (.invokevirtual 176, 3) := by decide +kernel
theorem dX12_readLaw_45 : decode cX12_readLaw 45 = .ok (.aload_n 0, 1) := by decide +kernel
theorem dX12_readLaw_46 : decode cX12_readLaw 46 = .ok (.getfield 138, 3) := by decide +kernel
theorem dX12_readLaw_49 : decode cX12_readLaw 49 = .ok (.ifCond .eq 4, 3) := by decide +kernel
theorem dX12_readLaw_52 : decode cX12_readLaw 52 = .ok (.return_, 1) := by decide +kernel
theorem dX12_readLaw_53 : decode cX12_readLaw 53 = .ok (.aload_n 0, 1) := by decide +kernel
theorem dX12_readLaw_54 : decode cX12_readLaw 54 = .ok (.getfield 24, 3) := by decide +kernel
theorem dX12_readLaw_57 : decode cX12_readLaw 57 = .ok (.bipush 7, 2) := by decide +kernel
theorem dX12_readLaw_59 : decode cX12_readLaw 59 = .ok (.iload_n 1, 1) := by decide +kernel
theorem dX12_readLaw_60 : decode cX12_readLaw 60 = .ok (.iadd, 1) := by decide +kernel
theorem dX12_readLaw_61 : decode cX12_readLaw 61 = .ok (.iconst 1, 1) := by decide +kernel
theorem dX12_readLaw_62 : decode cX12_readLaw 62 = .ok (.iastore, 1) := by decide +kernel
theorem dX12_readLaw_63 : decode cX12_readLaw 63 = .ok (.aload_n 0, 1) := by decide +kernel
theorem dX12_readLaw_64 : decode cX12_readLaw 64 = .ok (.getfield 24, 3) := by decide +kernel
theorem dX12_readLaw_67 : decode cX12_readLaw 67 = .ok (.bipush 9, 2) := by decide +kernel
theorem dX12_readLaw_69 : decode cX12_readLaw 69 = .ok (.iload_n 1, 1) := by decide +kernel
theorem dX12_readLaw_70 : decode cX12_readLaw 70 = .ok (.iadd, 1) := by decide +kernel
theorem dX12_readLaw_71 : decode cX12_readLaw 71 = .ok (.iload_n 2, 1) := by decide +kernel
theorem dX12_readLaw_72 : decode cX12_readLaw 72 = .ok (.iastore, 1) := by decide +kernel
theorem dX12_readLaw_73 : decode cX12_readLaw 73 = .ok (.aload_n 0, 1) := by decide +kernel
theorem dX12_readLaw_74 : decode cX12_readLaw 74 = .ok (.getfield 24, 3) := by decide +kernel
theorem dX12_readLaw_77 : decode cX12_readLaw 77 = .ok (.bipush 11, 2) := by decide +kernel
theorem dX12_readLaw_79 : decode cX12_readLaw 79 = .ok (.iload_n 1, 1) := by decide +kernel
theorem dX12_readLaw_80 : decode cX12_readLaw 80 = .ok (.iadd, 1) := by decide +kernel
theorem dX12_readLaw_81 : decode cX12_readLaw 81 = .ok (.aload_n 0, 1) := by decide +kernel
theorem dX12_readLaw_82 : decode cX12_readLaw 82 = .ok (.getfield 24, 3) := by decide +kernel
theorem dX12_readLaw_85 : decode cX12_readLaw 85 = .ok (.sipush 204, 3) := by decide +kernel
theorem dX12_readLaw_88 : decode cX12_readLaw 88 = .ok (.iaload, 1) := by decide +kernel
theorem dX12_readLaw_89 : decode cX12_readLaw 89 = .ok (.iload_n 2, 1) := by decide +kernel
theorem dX12_readLaw_90 : decode cX12_readLaw 90 = .ok (.isub, 1) := by decide +kernel
theorem dX12_readLaw_91 : decode cX12_readLaw 91 = .ok (.iastore, 1) := by decide +kernel
theorem dX12_readLaw_92 : decode cX12_readLaw 92 = .ok (.return_, 1) := by decide +kernel
def hX12_readLaw_45 (f : Nat) (Φ : aj_M → Prop) (q0 : List Nat) (v1 : Int) (v2 : Int) (m : aj_M) : Prop := rI (m q0 11) ∧ ((m q0 11) = 0 → (0 ≤ (7 + v1) ∧ (7 + v1) < 1105) ∧ ∀ m1, m1 = aj_u m (4 :: q0) (7 + v1).toNat 1 → (0 ≤ (9 + v1) ∧ (9 + v1) < 1105) ∧ ∀ m2, m2 = aj_u m1 (4 :: q0) (9 + v1).toNat v2 → (0 ≤ (11 + v1) ∧ (11 + v1) < 1105) ∧ ∀ m3, m3 = aj_u m2 (4 :: q0) (11 + v1).toNat ((m2 (4 :: q0) (204 : Int).toNat) - v2) → Φ m3) ∧ (¬ ((m q0 11) = 0) → Φ m)
set_option maxHeartbeats 4000000 in
set_option maxRecDepth 100000 in
theorem tX12_readLaw_45 {X : aj_T} {n f : Nat} {Φ : aj_M → Prop} (C : aj_Cx X cX12_readLaw RX12 3 (n + 77)) (K : aj_Rt X none (fun r m => r = none ∧ Φ m)) (q0 : List Nat) (v1 : Int) (v2 : Int) (m : aj_M) (hq0 : (.inl (12, q0) : aj_R) ∈ aj_pls) (h : hX12_readLaw_45 f Φ q0 v1 v2 m) : aj_J X 45 [some (vO 12 q0), some (vI v1), some (vI v2)] [] m := by
  unfold hX12_readLaw_45 at h
  refine aj_aload_n C dX12_readLaw_45 rfl ?_
  refine aj_getI C flX12_138 hq0 (by decide) dX12_readLaw_46 rfl ?_
  obtain ⟨r0, h1, h2⟩ := h
  refine aj_if_eq (tgt := 53) C dX12_readLaw_49 (by decide) r0 (fun e => ?_) (fun e => ?_)
  · have h := h1 e
    refine aj_aload_n C dX12_readLaw_53 rfl ?_
    refine aj_getA (x := 0) (y := 1105) C flX12_24 hq0 rfl dX12_readLaw_54 ?_
    refine aj_bipush C dX12_readLaw_57 (by decide) ?_
    refine aj_iload_n C dX12_readLaw_59 rfl ?_
    refine aj_iadd C dX12_readLaw_60 ?_
    refine aj_iconst C dX12_readLaw_61 ?_
    obtain ⟨r0, h⟩ := h
    refine aj_iast C (aj_ca (e := 0) (n := 1105) (j := 4) hq0 (by decide) rfl) (by decide) r0 dX12_readLaw_62 ?_
    refine aj_nm (fun m1 e1 => ?_)
    have h := h m1 e1
    refine aj_aload_n C dX12_readLaw_63 rfl ?_
    refine aj_getA (x := 0) (y := 1105) C flX12_24 hq0 rfl dX12_readLaw_64 ?_
    refine aj_bipush C dX12_readLaw_67 (by decide) ?_
    refine aj_iload_n C dX12_readLaw_69 rfl ?_
    refine aj_iadd C dX12_readLaw_70 ?_
    refine aj_iload_n C dX12_readLaw_71 rfl ?_
    obtain ⟨r0, h⟩ := h
    refine aj_iast C (aj_ca (e := 0) (n := 1105) (j := 4) hq0 (by decide) rfl) (by decide) r0 dX12_readLaw_72 ?_
    refine aj_nm (fun m2 e1 => ?_)
    have h := h m2 e1
    refine aj_aload_n C dX12_readLaw_73 rfl ?_
    refine aj_getA (x := 0) (y := 1105) C flX12_24 hq0 rfl dX12_readLaw_74 ?_
    refine aj_bipush C dX12_readLaw_77 (by decide) ?_
    refine aj_iload_n C dX12_readLaw_79 rfl ?_
    refine aj_iadd C dX12_readLaw_80 ?_
    refine aj_aload_n C dX12_readLaw_81 rfl ?_
    refine aj_getA (x := 0) (y := 1105) C flX12_24 hq0 rfl dX12_readLaw_82 ?_
    refine aj_sipush C dX12_readLaw_85 (by decide) ?_
    refine aj_iald C (aj_ca (e := 0) (n := 1105) (j := 4) hq0 (by decide) rfl) (by decide) (by decide) dX12_readLaw_88 rfl ?_
    refine aj_iload_n C dX12_readLaw_89 rfl ?_
    refine aj_isub C dX12_readLaw_90 ?_
    obtain ⟨r0, h⟩ := h
    refine aj_iast C (aj_ca (e := 0) (n := 1105) (j := 4) hq0 (by decide) rfl) (by decide) r0 dX12_readLaw_91 ?_
    refine aj_nm (fun m3 e1 => ?_)
    have h := h m3 e1
    exact aj_vret C K dX12_readLaw_92 ⟨rfl, h⟩
  · have h := h2 e
    exact aj_vret C K dX12_readLaw_52 ⟨rfl, h⟩
def hX12_readLaw_18 (f : Nat) (Φ : aj_M → Prop) (q0 : List Nat) (v1 : Int) (m : aj_M) : Prop := rI v1 ∧ (¬ v1 = 1 → wX12_readTruth f (fun m1 => hX12_readLaw_45 f Φ q0 v1 (m (4 :: q0) (204 : Int).toNat) m1) q0 0 m) ∧ (v1 = 1 → wX12_readSum f (fun m2 => hX12_readLaw_45 f Φ q0 v1 (m (4 :: q0) (204 : Int).toNat) m2) q0 0 m)
set_option maxHeartbeats 4000000 in
set_option maxRecDepth 100000 in
theorem tX12_readLaw_18 {X : aj_T} {n f : Nat} {Φ : aj_M → Prop} (C : aj_Cx X cX12_readLaw RX12 3 (n + 77)) (K : aj_Rt X none (fun r m => r = none ∧ Φ m)) (q0 : List Nat) (v1 : Int) (m : aj_M) (hq0 : (.inl (12, q0) : aj_R) ∈ aj_pls) (h : hX12_readLaw_18 f Φ q0 v1 m) : aj_J X 18 [some (vO 12 q0), some (vI v1), none] [] m := by
  unfold hX12_readLaw_18 at h
  refine aj_aload_n C dX12_readLaw_18 rfl ?_
  refine aj_getA (x := 0) (y := 1105) C flX12_24 hq0 rfl dX12_readLaw_19 ?_
  refine aj_sipush C dX12_readLaw_22 (by decide) ?_
  refine aj_iald C (aj_ca (e := 0) (n := 1105) (j := 4) hq0 (by decide) rfl) (by decide) (by decide) dX12_readLaw_25 rfl ?_
  refine aj_istore_n (lv' := [some (vO 12 q0), some (vI v1), some (vI (m (4 :: q0) (204 : Int).toNat))]) C dX12_readLaw_26 (by decide) rfl ?_
  refine aj_iload_n C dX12_readLaw_27 rfl ?_
  refine aj_iconst C dX12_readLaw_28 ?_
  obtain ⟨r0, h1, h2⟩ := h
  refine aj_icmp_ne (tgt := 40) C dX12_readLaw_29 (by decide) r0 (by decide) (fun e => ?_) (fun e => ?_)
  · have h := h1 e
    refine aj_aload_n C dX12_readLaw_40 rfl ?_
    refine aj_iconst C dX12_readLaw_41 ?_
    refine aj_callV (rest := []) C mvX12_176 (sX12_readTruth hq0 h) hq0 (aj_np 1 (by decide +kernel) rfl) (Nat.le_of_ble_eq_true rfl) rfl dX12_readLaw_42 (fun r m1 h => ?_)
    obtain ⟨rfl, h⟩ := h
    exact tX12_readLaw_45 C K q0 v1 (m (4 :: q0) (204 : Int).toNat) _ hq0 h
  · have h := h2 e
    refine aj_aload_n C dX12_readLaw_32 rfl ?_
    refine aj_iconst C dX12_readLaw_33 ?_
    refine aj_callV (rest := []) C mvX12_167 (sX12_readSum hq0 h) hq0 (aj_np 1 (by decide +kernel) rfl) (Nat.le_of_ble_eq_true rfl) rfl dX12_readLaw_34 (fun r m2 h => ?_)
    obtain ⟨rfl, h⟩ := h
    refine aj_goto (tgt := 45) C dX12_readLaw_37 (by decide) ?_
    exact tX12_readLaw_45 C K q0 v1 (m (4 :: q0) (204 : Int).toNat) _ hq0 h
def wX12_readLaw (f : Nat) (Φ : aj_M → Prop) (q0 : List Nat) (v1 : Int) (m : aj_M) : Prop := wX12_next f (fun m1 => wX12_eats f (fun z2 m2 => rI z2 ∧ (¬ z2 = 0 → hX12_readLaw_18 f Φ q0 v1 m2) ∧ (z2 = 0 → wX12_fails f (fun m3 => hX12_readLaw_18 f Φ q0 v1 m3) q0 2 m2)) q0 31 m1) q0 m
set_option maxHeartbeats 4000000 in
set_option maxRecDepth 100000 in
theorem sX12_readLaw {n f : Nat} {Φ : aj_M → Prop} {q0 : List Nat} {v1 : Int} {m : aj_M} (hq0 : (.inl (12, q0) : aj_R) ∈ aj_pls) (h : wX12_readLaw f Φ q0 v1 m) : aj_Ct (n + 77) yX12_readLaw cX12_readLaw 3 none [vO 12 q0, vI v1] m (fun r m => r = none ∧ Φ m) := by
  refine aj_met (lv := [some (vO 12 q0), some (vI v1), none]) (by decide +kernel) rfl (Nat.le_of_ble_eq_true rfl) (fun X C K => ?_)
  unfold wX12_readLaw at h
  refine aj_aload_n C dX12_readLaw_0 rfl ?_
  refine aj_callV (rest := []) C mvX12_147 (sX12_next hq0 h) hq0 (aj_np 0 (by decide +kernel) rfl) (Nat.le_of_ble_eq_true rfl) rfl dX12_readLaw_1 (fun r m1 h => ?_)
  obtain ⟨rfl, h⟩ := h
  refine aj_aload_n C dX12_readLaw_4 rfl ?_
  refine aj_bipush C dX12_readLaw_5 (by decide) ?_
  refine aj_callV (rest := []) C mvX12_170 (sX12_eats hq0 h) hq0 (aj_np 1 (by decide +kernel) rfl) (Nat.le_of_ble_eq_true rfl) rfl dX12_readLaw_7 (fun r m2 h => ?_)
  obtain ⟨z2, rfl, h⟩ := h
  obtain ⟨r0, h1, h2⟩ := h
  refine aj_if_ne (tgt := 18) C dX12_readLaw_10 (by decide) r0 (fun e => ?_) (fun e => ?_)
  · have h := h1 e
    exact tX12_readLaw_18 C K q0 v1 _ hq0 h
  · have h := h2 e
    refine aj_aload_n C dX12_readLaw_13 rfl ?_
    refine aj_iconst C dX12_readLaw_14 ?_
    refine aj_callV (rest := []) C mvX12_150 (sX12_fails hq0 h) hq0 (aj_np 1 (by decide +kernel) rfl) (Nat.le_of_ble_eq_true rfl) rfl dX12_readLaw_15 (fun r m3 h => ?_)
    obtain ⟨rfl, h⟩ := h
    exact tX12_readLaw_18 C K q0 v1 _ hq0 h
theorem dX12_readLine_0 : decode cX12_readLine 0 = .ok (.aload_n 0, 1) := by decide +kernel
theorem dX12_readLine_1 : decode cX12_readLine 1 = .ok (.getfield 138, 3) := by decide +kernel
theorem dX12_readLine_4 : decode cX12_readLine 4 = .ok (.ifCond .eq 4, 3) := by decide +kernel
theorem dX12_readLine_7 : decode cX12_readLine 7 = .ok (.return_, 1) := by decide +kernel
theorem dX12_readLine_8 : decode cX12_readLine 8 = .ok (.aload_n 0, 1) := by decide +kernel
theorem dX12_readLine_9 : decode cX12_readLine 9 = .ok (.bipush 6, 2) := by decide +kernel
theorem dX12_readLine_11 : decode cX12_readLine 11 = .ok (.invokevirtual 144, 3) := by decide +kernel
theorem dX12_readLine_14 : decode cX12_readLine 14 = .ok (.ifCond .eq 10, 3) := by decide +kernel
theorem dX12_readLine_17 : decode cX12_readLine 17 = .ok (.aload_n 0, 1) := by decide +kernel
theorem dX12_readLine_18 : decode cX12_readLine 18 = .ok (.invokevirtual 225, 3) := by decide +kernel
theorem dX12_readLine_21 : decode cX12_readLine 21 = .ok (.goto 65, 3) := by decide +kernel
theorem dX12_readLine_24 : decode cX12_readLine 24 = .ok (.aload_n 0, 1) := by decide +kernel
theorem dX12_readLine_25 : decode cX12_readLine 25 = .ok (.bipush 7, 2) := by decide +kernel
theorem dX12_readLine_27 : decode cX12_readLine 27 = .ok (.invokevirtual 144, 3) := by decide +kernel
theorem dX12_readLine_30 : decode cX12_readLine 30 = .ok (.ifCond .ne 12, 3) := by decide +kernel
theorem dX12_readLine_33 : decode cX12_readLine 33 = .ok (.aload_n 0, 1) := by decide +kernel
theorem dX12_readLine_34 : decode cX12_readLine 34 = .ok (.bipush 9, 2) := by decide +kernel
theorem dX12_readLine_36 : decode cX12_readLine 36 = .ok (.invokevirtual 144, 3) := by decide +kernel
theorem dX12_readLine_39 : decode cX12_readLine 39 = .ok (.ifCond .eq 10, 3) := by decide +kernel
theorem dX12_readLine_42 : decode cX12_readLine 42 = .ok (.aload_n 0, 1) := by decide +kernel
theorem dX12_readLine_43 : decode cX12_readLine 43 = .ok (.invokevirtual 228, 3) := by decide +kernel
theorem dX12_readLine_46 : decode cX12_readLine 46 = .ok (.goto 40, 3) := by decide +kernel
theorem dX12_readLine_49 : decode cX12_readLine 49 = .ok (.aload_n 0, 1) := by decide +kernel
theorem dX12_readLine_50 : decode cX12_readLine 50 = .ok (.bipush 10, 2) := by decide +kernel
theorem dX12_readLine_52 : decode cX12_readLine 52 = .ok (.invokevirtual 144, 3) := by decide +kernel
theorem dX12_readLine_55 : decode cX12_readLine 55 = .ok (.ifCond .ne 12, 3) := by decide +kernel
theorem dX12_readLine_58 : decode cX12_readLine 58 = .ok (.aload_n 0, 1) := by decide +kernel
theorem dX12_readLine_59 : decode cX12_readLine 59 = .ok (.bipush 11, 2) := by decide +kernel
theorem dX12_readLine_61 : decode cX12_readLine 61 = .ok (.invokevirtual 144, 3) := by decide +kernel
theorem dX12_readLine_64 : decode cX12_readLine 64 = .ok (.ifCond .eq 17, 3) := by decide +kernel
theorem dX12_readLine_67 : decode cX12_readLine 67 = .ok (.aload_n 0, 1) := by decide +kernel
theorem dX12_readLine_68 : decode cX12_readLine 68 = .ok (.aload_n 0, 1) := by decide +kernel
theorem dX12_readLine_69 : decode cX12_readLine 69 = .ok (.getfield 120, 3) := by decide +kernel
theorem dX12_readLine_72 : decode cX12_readLine 72 = .ok (.bipush 10, 2) := by decide +kernel
theorem dX12_readLine_74 : decode cX12_readLine 74 = .ok (.isub, 1) := by decide +kernel
theorem dX12_readLine_75 : decode cX12_readLine 75 = .ok (.invokevirtual 231, 3) := by decide +kernel
theorem dX12_readLine_78 : decode cX12_readLine 78 = .ok (.goto 8, 3) := by decide +kernel
theorem dX12_readLine_81 : decode cX12_readLine 81 = .ok (.aload_n 0, 1) := by decide +kernel
theorem dX12_readLine_82 : decode cX12_readLine 82 = .ok (.iconst 2, 1) := by decide +kernel
theorem dX12_readLine_83 : decode cX12_readLine 83 = .ok (.invokevirtual 150, 3) := by decide +kernel
theorem dX12_readLine_86 : decode cX12_readLine 86 = .ok (.return_, 1) := by decide +kernel
def wX12_readLine (f : Nat) (Φ : aj_M → Prop) (q0 : List Nat) (m : aj_M) : Prop := rI (m q0 11) ∧ ((m q0 11) = 0 → wX12_is f (fun z1 m1 => rI z1 ∧ (z1 = 0 → wX12_is f (fun z2 m2 => rI z2 ∧ (¬ z2 = 0 → wX12_readArc f (fun m3 => Φ m3) q0 m2) ∧ (z2 = 0 → wX12_is f (fun z4 m4 => rI z4 ∧ (z4 = 0 → wX12_is f (fun z5 m5 => rI z5 ∧ (¬ z5 = 0 → wX12_readLaw f (fun m6 => Φ m6) q0 ((m5 q0 9) - 10) m5) ∧ (z5 = 0 → wX12_is f (fun z7 m7 => rI z7 ∧ (z7 = 0 → wX12_fails f (fun m8 => Φ m8) q0 2 m7) ∧ (¬ (z7 = 0) → wX12_readLaw f (fun m9 => Φ m9) q0 ((m7 q0 9) - 10) m7)) q0 11 m5)) q0 10 m4) ∧ (¬ (z4 = 0) → wX12_readArc f (fun m10 => Φ m10) q0 m4)) q0 9 m2)) q0 7 m1) ∧ (¬ (z1 = 0) → wX12_readPlaces f (fun m11 => Φ m11) q0 m1)) q0 6 m) ∧ (¬ ((m q0 11) = 0) → Φ m)
set_option maxHeartbeats 4000000 in
set_option maxRecDepth 100000 in
theorem sX12_readLine {n f : Nat} {Φ : aj_M → Prop} {q0 : List Nat} {m : aj_M} (hq0 : (.inl (12, q0) : aj_R) ∈ aj_pls) (h : wX12_readLine f Φ q0 m) : aj_Ct (n + 78) yX12_readLine cX12_readLine 1 none [vO 12 q0] m (fun r m => r = none ∧ Φ m) := by
  refine aj_met (lv := [some (vO 12 q0)]) (by decide +kernel) rfl (Nat.le_of_ble_eq_true rfl) (fun X C K => ?_)
  unfold wX12_readLine at h
  refine aj_aload_n C dX12_readLine_0 rfl ?_
  refine aj_getI C flX12_138 hq0 (by decide) dX12_readLine_1 rfl ?_
  obtain ⟨r0, h1, h2⟩ := h
  refine aj_if_eq (tgt := 8) C dX12_readLine_4 (by decide) r0 (fun e => ?_) (fun e => ?_)
  · have h := h1 e
    refine aj_aload_n C dX12_readLine_8 rfl ?_
    refine aj_bipush C dX12_readLine_9 (by decide) ?_
    refine aj_callV (rest := []) C mvX12_144 (sX12_is hq0 h) hq0 (aj_np 1 (by decide +kernel) rfl) (Nat.le_of_ble_eq_true rfl) rfl dX12_readLine_11 (fun r m1 h => ?_)
    obtain ⟨z1, rfl, h⟩ := h
    obtain ⟨r0, h1, h2⟩ := h
    refine aj_if_eq (tgt := 24) C dX12_readLine_14 (by decide) r0 (fun e => ?_) (fun e => ?_)
    · have h := h1 e
      refine aj_aload_n C dX12_readLine_24 rfl ?_
      refine aj_bipush C dX12_readLine_25 (by decide) ?_
      refine aj_callV (rest := []) C mvX12_144 (sX12_is hq0 h) hq0 (aj_np 1 (by decide +kernel) rfl) (Nat.le_of_ble_eq_true rfl) rfl dX12_readLine_27 (fun r m2 h => ?_)
      obtain ⟨z2, rfl, h⟩ := h
      obtain ⟨r0, h1, h2⟩ := h
      refine aj_if_ne (tgt := 42) C dX12_readLine_30 (by decide) r0 (fun e => ?_) (fun e => ?_)
      · have h := h1 e
        refine aj_aload_n C dX12_readLine_42 rfl ?_
        refine aj_callV (rest := []) C mvX12_228 (sX12_readArc hq0 h) hq0 (aj_np 0 (by decide +kernel) rfl) (Nat.le_of_ble_eq_true rfl) rfl dX12_readLine_43 (fun r m3 h => ?_)
        obtain ⟨rfl, h⟩ := h
        refine aj_goto (tgt := 86) C dX12_readLine_46 (by decide) ?_
        exact aj_vret C K dX12_readLine_86 ⟨rfl, h⟩
      · have h := h2 e
        refine aj_aload_n C dX12_readLine_33 rfl ?_
        refine aj_bipush C dX12_readLine_34 (by decide) ?_
        refine aj_callV (rest := []) C mvX12_144 (sX12_is hq0 h) hq0 (aj_np 1 (by decide +kernel) rfl) (Nat.le_of_ble_eq_true rfl) rfl dX12_readLine_36 (fun r m4 h => ?_)
        obtain ⟨z4, rfl, h⟩ := h
        obtain ⟨r0, h1, h2⟩ := h
        refine aj_if_eq (tgt := 49) C dX12_readLine_39 (by decide) r0 (fun e => ?_) (fun e => ?_)
        · have h := h1 e
          refine aj_aload_n C dX12_readLine_49 rfl ?_
          refine aj_bipush C dX12_readLine_50 (by decide) ?_
          refine aj_callV (rest := []) C mvX12_144 (sX12_is hq0 h) hq0 (aj_np 1 (by decide +kernel) rfl) (Nat.le_of_ble_eq_true rfl) rfl dX12_readLine_52 (fun r m5 h => ?_)
          obtain ⟨z5, rfl, h⟩ := h
          obtain ⟨r0, h1, h2⟩ := h
          refine aj_if_ne (tgt := 67) C dX12_readLine_55 (by decide) r0 (fun e => ?_) (fun e => ?_)
          · have h := h1 e
            refine aj_aload_n C dX12_readLine_67 rfl ?_
            refine aj_aload_n C dX12_readLine_68 rfl ?_
            refine aj_getI C flX12_120 hq0 (by decide) dX12_readLine_69 rfl ?_
            refine aj_bipush C dX12_readLine_72 (by decide) ?_
            refine aj_isub C dX12_readLine_74 ?_
            refine aj_callV (rest := []) C mvX12_231 (sX12_readLaw hq0 h) hq0 (aj_np 1 (by decide +kernel) rfl) (Nat.le_of_ble_eq_true rfl) rfl dX12_readLine_75 (fun r m6 h => ?_)
            obtain ⟨rfl, h⟩ := h
            refine aj_goto (tgt := 86) C dX12_readLine_78 (by decide) ?_
            exact aj_vret C K dX12_readLine_86 ⟨rfl, h⟩
          · have h := h2 e
            refine aj_aload_n C dX12_readLine_58 rfl ?_
            refine aj_bipush C dX12_readLine_59 (by decide) ?_
            refine aj_callV (rest := []) C mvX12_144 (sX12_is hq0 h) hq0 (aj_np 1 (by decide +kernel) rfl) (Nat.le_of_ble_eq_true rfl) rfl dX12_readLine_61 (fun r m7 h => ?_)
            obtain ⟨z7, rfl, h⟩ := h
            obtain ⟨r0, h1, h2⟩ := h
            refine aj_if_eq (tgt := 81) C dX12_readLine_64 (by decide) r0 (fun e => ?_) (fun e => ?_)
            · have h := h1 e
              refine aj_aload_n C dX12_readLine_81 rfl ?_
              refine aj_iconst C dX12_readLine_82 ?_
              refine aj_callV (rest := []) C mvX12_150 (sX12_fails hq0 h) hq0 (aj_np 1 (by decide +kernel) rfl) (Nat.le_of_ble_eq_true rfl) rfl dX12_readLine_83 (fun r m8 h => ?_)
              obtain ⟨rfl, h⟩ := h
              exact aj_vret C K dX12_readLine_86 ⟨rfl, h⟩
            · have h := h2 e
              refine aj_aload_n C dX12_readLine_67 rfl ?_
              refine aj_aload_n C dX12_readLine_68 rfl ?_
              refine aj_getI C flX12_120 hq0 (by decide) dX12_readLine_69 rfl ?_
              refine aj_bipush C dX12_readLine_72 (by decide) ?_
              refine aj_isub C dX12_readLine_74 ?_
              refine aj_callV (rest := []) C mvX12_231 (sX12_readLaw hq0 h) hq0 (aj_np 1 (by decide +kernel) rfl) (Nat.le_of_ble_eq_true rfl) rfl dX12_readLine_75 (fun r m9 h => ?_)
              obtain ⟨rfl, h⟩ := h
              refine aj_goto (tgt := 86) C dX12_readLine_78 (by decide) ?_
              exact aj_vret C K dX12_readLine_86 ⟨rfl, h⟩
        · have h := h2 e
          refine aj_aload_n C dX12_readLine_42 rfl ?_
          refine aj_callV (rest := []) C mvX12_228 (sX12_readArc hq0 h) hq0 (aj_np 0 (by decide +kernel) rfl) (Nat.le_of_ble_eq_true rfl) rfl dX12_readLine_43 (fun r m10 h => ?_)
          obtain ⟨rfl, h⟩ := h
          refine aj_goto (tgt := 86) C dX12_readLine_46 (by decide) ?_
          exact aj_vret C K dX12_readLine_86 ⟨rfl, h⟩
    · have h := h2 e
      refine aj_aload_n C dX12_readLine_17 rfl ?_
      refine aj_callV (rest := []) C mvX12_225 (sX12_readPlaces hq0 h) hq0 (aj_np 0 (by decide +kernel) rfl) (Nat.le_of_ble_eq_true rfl) rfl dX12_readLine_18 (fun r m11 h => ?_)
      obtain ⟨rfl, h⟩ := h
      refine aj_goto (tgt := 86) C dX12_readLine_21 (by decide) ?_
      exact aj_vret C K dX12_readLine_86 ⟨rfl, h⟩
  · have h := h2 e
    exact aj_vret C K dX12_readLine_7 ⟨rfl, h⟩
theorem dX12_closes_0 : decode cX12_closes 0 = .ok (.aload_n 0, 1) := by decide +kernel
theorem dX12_closes_1 : decode cX12_closes 1 = .ok (.bipush 30, 2) := by decide +kernel
theorem dX12_closes_3 : decode cX12_closes 3 = .ok (.invokevirtual 170, 3) := by decide +kernel
theorem dX12_closes_6 : decode cX12_closes 6 = .ok (.ifCond .ne 8, 3) := by decide +kernel
theorem dX12_closes_9 : decode cX12_closes 9 = .ok (.aload_n 0, 1) := by decide +kernel
theorem dX12_closes_10 : decode cX12_closes 10 = .ok (.iconst 2, 1) := by decide +kernel
theorem dX12_closes_11 : decode cX12_closes 11 = .ok (.invokevirtual 150, 3) := by decide +kernel
theorem dX12_closes_14 : decode cX12_closes 14 = .ok (.aload_n 0, 1) := by decide +kernel
theorem dX12_closes_15 : decode cX12_closes 15 = .ok (.getfield 24, 3) := by decide +kernel
theorem dX12_closes_18 : decode cX12_closes 18 = .ok (.iconst 0, 1) := by decide +kernel
theorem dX12_closes_19 : decode cX12_closes 19 = .ok (.dup2, 1) := by decide +kernel
theorem dX12_closes_20 : decode cX12_closes 20 = .ok (.iaload, 1) := by decide +kernel
theorem dX12_closes_21 : decode cX12_closes 21 = .ok (.iconst 1, 1) := by decide +kernel
theorem dX12_closes_22 : decode cX12_closes 22 = .ok (.iadd, 1) := by decide +kernel
theorem dX12_closes_23 : decode cX12_closes 23 = .ok (.iastore, 1) := by decide +kernel
theorem dX12_closes_24 : decode cX12_closes 24 = .ok (.return_, 1) := by decide +kernel
def wX12_closes (f : Nat) (Φ : aj_M → Prop) (q0 : List Nat) (m : aj_M) : Prop := wX12_eats f (fun z1 m1 => rI z1 ∧ (¬ z1 = 0 → ∀ m2, m2 = aj_u m1 (4 :: q0) (0 : Int).toNat ((m1 (4 :: q0) (0 : Int).toNat) + 1) → Φ m2) ∧ (z1 = 0 → wX12_fails f (fun m3 => ∀ m4, m4 = aj_u m3 (4 :: q0) (0 : Int).toNat ((m3 (4 :: q0) (0 : Int).toNat) + 1) → Φ m4) q0 2 m1)) q0 30 m
set_option maxHeartbeats 4000000 in
set_option maxRecDepth 100000 in
theorem sX12_closes {n f : Nat} {Φ : aj_M → Prop} {q0 : List Nat} {m : aj_M} (hq0 : (.inl (12, q0) : aj_R) ∈ aj_pls) (h : wX12_closes f Φ q0 m) : aj_Ct (n + 7) yX12_closes cX12_closes 1 none [vO 12 q0] m (fun r m => r = none ∧ Φ m) := by
  refine aj_met (lv := [some (vO 12 q0)]) (by decide +kernel) rfl (Nat.le_of_ble_eq_true rfl) (fun X C K => ?_)
  unfold wX12_closes at h
  refine aj_aload_n C dX12_closes_0 rfl ?_
  refine aj_bipush C dX12_closes_1 (by decide) ?_
  refine aj_callV (rest := []) C mvX12_170 (sX12_eats hq0 h) hq0 (aj_np 1 (by decide +kernel) rfl) (Nat.le_of_ble_eq_true rfl) rfl dX12_closes_3 (fun r m1 h => ?_)
  obtain ⟨z1, rfl, h⟩ := h
  obtain ⟨r0, h1, h2⟩ := h
  refine aj_if_ne (tgt := 14) C dX12_closes_6 (by decide) r0 (fun e => ?_) (fun e => ?_)
  · have h := h1 e
    refine aj_aload_n C dX12_closes_14 rfl ?_
    refine aj_getA (x := 0) (y := 1105) C flX12_24 hq0 rfl dX12_closes_15 ?_
    refine aj_iconst C dX12_closes_18 ?_
    refine aj_dup2 C aj_nI aj_nR dX12_closes_19 ?_
    refine aj_iald C (aj_ca (e := 0) (n := 1105) (j := 4) hq0 (by decide) rfl) (by decide) (by decide) dX12_closes_20 rfl ?_
    refine aj_iconst C dX12_closes_21 ?_
    refine aj_iadd C dX12_closes_22 ?_
    refine aj_iast C (aj_ca (e := 0) (n := 1105) (j := 4) hq0 (by decide) rfl) (by decide) (by decide) dX12_closes_23 ?_
    refine aj_nm (fun m2 e1 => ?_)
    have h := h m2 e1
    exact aj_vret C K dX12_closes_24 ⟨rfl, h⟩
  · have h := h2 e
    refine aj_aload_n C dX12_closes_9 rfl ?_
    refine aj_iconst C dX12_closes_10 ?_
    refine aj_callV (rest := []) C mvX12_150 (sX12_fails hq0 h) hq0 (aj_np 1 (by decide +kernel) rfl) (Nat.le_of_ble_eq_true rfl) rfl dX12_closes_11 (fun r m3 h => ?_)
    obtain ⟨rfl, h⟩ := h
    refine aj_aload_n C dX12_closes_14 rfl ?_
    refine aj_getA (x := 0) (y := 1105) C flX12_24 hq0 rfl dX12_closes_15 ?_
    refine aj_iconst C dX12_closes_18 ?_
    refine aj_dup2 C aj_nI aj_nR dX12_closes_19 ?_
    refine aj_iald C (aj_ca (e := 0) (n := 1105) (j := 4) hq0 (by decide) rfl) (by decide) (by decide) dX12_closes_20 rfl ?_
    refine aj_iconst C dX12_closes_21 ?_
    refine aj_iadd C dX12_closes_22 ?_
    refine aj_iast C (aj_ca (e := 0) (n := 1105) (j := 4) hq0 (by decide) rfl) (by decide) (by decide) dX12_closes_23 ?_
    refine aj_nm (fun m4 e1 => ?_)
    have h := h m4 e1
    exact aj_vret C K dX12_closes_24 ⟨rfl, h⟩
theorem dX12_works_0 : decode cX12_works 0 = .ok (.aload_n 0, 1) := by decide +kernel
theorem dX12_works_1 : decode cX12_works 1 = .ok (.iconst 0, 1) := by decide +kernel
theorem dX12_works_2 : decode cX12_works 2 = .ok (.putfield 1, 3) := by decide +kernel
theorem dX12_works_5 : decode cX12_works 5 = .ok (.iload_n 1, 1) := by decide +kernel
theorem dX12_works_6 : decode cX12_works 6 = .ok (.i2l, 1) := by decide +kernel
theorem dX12_works_7 : decode cX12_works 7 = .ok (.lconst 0, 1) := by decide +kernel
theorem dX12_works_8 : decode cX12_works 8 = .ok (.aload_n 0, 1) := by decide +kernel
theorem dX12_works_9 : decode cX12_works 9 = .ok (.getfield 92, 3) := by decide +kernel
theorem dX12_works_12 : decode cX12_works 12 = .ok (.i2l, 1) := by decide +kernel
theorem dX12_works_13 : decode cX12_works 13 = .ok (.invokestatic 154, 3) := by decide +kernel
theorem dX12_works_16 : decode cX12_works 16 = .ok (.ifCond .ne 6, 3) := by decide +kernel
theorem dX12_works_19 : decode cX12_works 19 = .ok (.bipush (-3), 2) := by decide +kernel
theorem dX12_works_21 : decode cX12_works 21 = .ok (.ireturn, 1) := by decide +kernel
theorem dX12_works_22 : decode cX12_works 22 = .ok (.aload_n 0, 1) := by decide +kernel
theorem dX12_works_23 : decode cX12_works 23 = .ok (.iload_n 1, 1) := by decide +kernel
theorem dX12_works_24 : decode cX12_works 24 = .ok (.putfield 95, 3) := by decide +kernel
theorem dX12_works_27 : decode cX12_works 27 = .ok (.aload_n 0, 1) := by decide +kernel
theorem dX12_works_28 : decode cX12_works 28 = .ok (.iconst 0, 1) := by decide +kernel
theorem dX12_works_29 : decode cX12_works 29 = .ok (.putfield 92, 3) := by decide +kernel
theorem dX12_works_32 : decode cX12_works 32 = .ok (.aload_n 0, 1) := by decide +kernel
theorem dX12_works_33 : decode cX12_works 33 = .ok (.iconst 0, 1) := by decide +kernel
theorem dX12_works_34 : decode cX12_works 34 = .ok (.putfield 113, 3) := by decide +kernel
theorem dX12_works_37 : decode cX12_works 37 = .ok (.aload_n 0, 1) := by decide +kernel
theorem dX12_works_38 : decode cX12_works 38 = .ok (.iconst 0, 1) := by decide +kernel
theorem dX12_works_39 : decode cX12_works 39 = .ok (.putfield 138, 3) := by decide +kernel
theorem dX12_works_42 : decode cX12_works 42 = .ok (.aload_n 0, 1) := by decide +kernel
theorem dX12_works_43 : decode cX12_works 43 = .ok (.iconst 0, 1) := by decide +kernel
theorem dX12_works_44 : decode cX12_works 44 = .ok (.putfield 221, 3) := by decide +kernel
theorem dX12_works_47 : decode cX12_works 47 = .ok (.aload_n 0, 1) := by decide +kernel
theorem dX12_works_48 : decode cX12_works 48 = .ok (.getfield 24, 3) := by decide +kernel
theorem dX12_works_51 : decode cX12_works 51 = .ok (.invokestatic 88, 3) := by decide +kernel
theorem dX12_works_54 : decode cX12_works 54 = .ok (.aload_n 0, 1) := by decide +kernel
theorem dX12_works_55 : decode cX12_works 55 = .ok (.invokevirtual 147, 3) := by decide +kernel
theorem dX12_works_58 : decode cX12_works 58 = .ok (.aload_n 0, 1) := by decide +kernel
theorem dX12_works_59 : decode cX12_works 59 = .ok (.iconst 0, 1) := by decide +kernel
theorem dX12_works_60 : decode cX12_works 60 = .ok (.invokevirtual 170, 3) := by decide +kernel
theorem dX12_works_63 : decode cX12_works 63 = .ok (.ifCond .ne 8, 3) := by decide +kernel
theorem dX12_works_66 : decode cX12_works 66 = .ok (.aload_n 0, 1) := by decide +kernel
theorem dX12_works_67 : decode cX12_works 67 = .ok (.iconst 2, 1) := by decide +kernel
theorem dX12_works_68 : decode cX12_works 68 = .ok (.invokevirtual 150, 3) := by decide +kernel
theorem dX12_works_71 : decode cX12_works 71 = .ok (.aload_n 0, 1) := by decide +kernel
theorem dX12_works_72 : decode cX12_works 72 = .ok (.invokevirtual 234, 3) := by decide +kernel
theorem dX12_works_75 : decode cX12_works 75 = .ok (.aload_n 0, 1) := by decide +kernel
theorem dX12_works_76 : decode cX12_works 76 = .ok (.iconst 5, 1) := by decide +kernel
theorem dX12_works_77 : decode cX12_works 77 = .ok (.invokevirtual 170, 3) := by decide +kernel
theorem dX12_works_80 : decode cX12_works 80 = .ok (.ifCond .ne 8, 3) := by decide +kernel
theorem dX12_works_83 : decode cX12_works 83 = .ok (.aload_n 0, 1) := by decide +kernel
theorem dX12_works_84 : decode cX12_works 84 = .ok (.iconst 2, 1) := by decide +kernel
theorem dX12_works_85 : decode cX12_works 85 = .ok (.invokevirtual 150, 3) := by decide +kernel
theorem dX12_works_88 : decode cX12_works 88 = .ok (.aload_n 0, 1) := by decide +kernel
theorem dX12_works_89 : decode cX12_works 89 = .ok (.getfield 24, 3) := by decide +kernel
theorem dX12_works_92 : decode cX12_works 92 = .ok (.bipush 62, 2) := by decide +kernel
theorem dX12_works_94 : decode cX12_works 94 = .ok (.aload_n 0, 1) := by decide +kernel
theorem dX12_works_95 : decode cX12_works 95 = .ok (.iconst 0, 1) := by decide +kernel
theorem dX12_works_96 : decode cX12_works 96 = .ok (.bipush 9, 2) := by decide +kernel
theorem dX12_works_98 : decode cX12_works 98 = .ok (.invokevirtual 218, 3) := by decide +kernel
theorem dX12_works_101 : decode cX12_works 101 = .ok (.iastore, 1) := by decide +kernel
theorem dX12_works_102 : decode cX12_works 102 = .ok (.aload_n 0, 1) := by decide +kernel
theorem dX12_works_103 : decode cX12_works 103 = .ok (.invokevirtual 237, 3) := by decide +kernel
theorem dX12_works_106 : decode cX12_works 106 = .ok (.aload_n 0, 1) := by decide +kernel
theorem dX12_works_107 : decode cX12_works 107 = .ok (.getfield 138, 3) := by decide +kernel
theorem dX12_works_110 : decode cX12_works 110 = .ok (.ifCond .ne 23, 3) := by decide +kernel
theorem dX12_works_113 : decode cX12_works 113 = .ok (.aload_n 0, 1) := by decide +kernel
theorem dX12_works_114 : decode cX12_works 114 = .ok (.getfield 120, 3) := by decide +kernel
theorem dX12_works_117 : decode cX12_works 117 = .ok (.bipush 24, 2) := by decide +kernel
theorem dX12_works_119 : decode cX12_works 119 = .ok (.if_icmp .eq 14, 3) := by decide +kernel
theorem dX12_works_122 : decode cX12_works 122 = .ok (.aload_n 0, 1) := by decide +kernel
theorem dX12_works_123 : decode cX12_works 123 = .ok (.invokevirtual 240, 3) := by decide +kernel
theorem dX12_works_126 : decode cX12_works 126 = .ok (.aload_n 0, 1) := by decide +kernel
theorem dX12_works_127 : decode cX12_works 127 = .ok (.invokevirtual 237, 3) := by decide +kernel
theorem dX12_works_130 : decode cX12_works 130 = .ok (.goto (-24), 3) := by decide +kernel
theorem dX12_works_133 : decode cX12_works 133 = .ok (.aload_n 0, 1) := by decide +kernel
theorem dX12_works_134 : decode cX12_works 134 = .ok (.aload_n 0, 1) := by decide +kernel
theorem dX12_works_135 : decode cX12_works 135 = .ok (.getfield 138, 3) := by decide +kernel
theorem dX12_works_138 : decode cX12_works 138 = .ok (.putfield 243, 3) := by decide +kernel
theorem dX12_works_141 : decode cX12_works 141 = .ok (.aload_n 0, 1) := by decide +kernel
theorem dX12_works_142 : decode cX12_works 142 = .ok (.aload_n 0, 1) := by decide +kernel
theorem dX12_works_143 : decode cX12_works 143 = .ok (.getfield 138, 3) := by decide +kernel
theorem dX12_works_146 : decode cX12_works 146 = .ok (.ifCond .ne 7, 3) := by decide +kernel
theorem dX12_works_149 : decode cX12_works 149 = .ok (.iconst (-1), 1) := by decide +kernel
theorem dX12_works_150 : decode cX12_works 150 = .ok (.goto 7, 3) := by decide +kernel
theorem dX12_works_153 : decode cX12_works 153 = .ok (.aload_n 0, 1) := by decide +kernel
theorem dX12_works_154 : decode cX12_works 154 = .ok (.getfield 141, 3) := by decide +kernel
theorem dX12_works_157 : decode cX12_works 157 = .ok (.putfield 27, 3) := by decide +kernel
theorem dX12_works_160 : decode cX12_works 160 = .ok (.aload_n 0, 1) := by decide +kernel
theorem dX12_works_161 : decode cX12_works 161 = .ok (.getfield 138, 3) := by decide +kernel
theorem dX12_works_164 : decode cX12_works 164 = .ok (.ifCond .eq 11, 3) := by decide +kernel
theorem dX12_works_167 : decode cX12_works 167 = .ok (.bipush (-30), 2) := by decide +kernel
theorem dX12_works_169 : decode cX12_works 169 = .ok (.aload_n 0, 1) := by decide +kernel
theorem dX12_works_170 : decode cX12_works 170 = .ok (.getfield 138, 3) := by decide +kernel
theorem dX12_works_173 : decode cX12_works 173 = .ok (.isub, 1) := by decide +kernel
theorem dX12_works_174 : decode cX12_works 174 = .ok (.ireturn, 1) := by decide +kernel
theorem dX12_works_175 : decode cX12_works 175 = .ok (.iconst 0, 1) := by decide +kernel
theorem dX12_works_176 : decode cX12_works 176 = .ok (.istore_n 2, 1) := by decide +kernel
theorem dX12_works_177 : decode cX12_works 177 = .ok (.iload_n 2, 1) := by decide +kernel
theorem dX12_works_178 : decode cX12_works 178 = .ok (.sipush 1105, 3) := by decide +kernel
theorem dX12_works_181 : decode cX12_works 181 = .ok (.if_icmp .ge 21, 3) := by decide +kernel
theorem dX12_works_184 : decode cX12_works 184 = .ok (.aload_n 0, 1) := by decide +kernel
theorem dX12_works_185 : decode cX12_works 185 = .ok (.getfield 13, 3) := by decide +kernel
theorem dX12_works_188 : decode cX12_works 188 = .ok (.iload_n 2, 1) := by decide +kernel
theorem dX12_works_189 : decode cX12_works 189 = .ok (.aload_n 0, 1) := by decide +kernel
theorem dX12_works_190 : decode cX12_works 190 = .ok (.getfield 24, 3) := by decide +kernel
theorem dX12_works_193 : decode cX12_works 193 = .ok (.iload_n 2, 1) := by decide +kernel
theorem dX12_works_194 : decode cX12_works 194 = .ok (.iaload, 1) := by decide +kernel
theorem dX12_works_195 : decode cX12_works 195 = .ok (.iastore, 1) := by decide +kernel
theorem dX12_works_196 : decode cX12_works 196 = .ok (.iinc 2 1, 3) := by decide +kernel
theorem dX12_works_199 : decode cX12_works 199 = .ok (.goto (-22), 3) := by decide +kernel
theorem dX12_works_202 : decode cX12_works 202 = .ok (.aload_n 0, 1) := by decide +kernel
theorem dX12_works_203 : decode cX12_works 203 = .ok (.getfield 13, 3) := by decide +kernel
theorem dX12_works_206 : decode cX12_works 206 = .ok (.iconst 0, 1) := by decide +kernel
theorem dX12_works_207 : decode cX12_works 207 = .ok (.iaload, 1) := by decide +kernel
theorem dX12_works_208 : decode cX12_works 208 = .ok (.ireturn, 1) := by decide +kernel
def hX12_works_177 (f : Nat) (Φ : Int → aj_M → Prop) : Nat → List Nat → Int → aj_M → Prop
  | 0, _, _, _ => False
  | k + 1, q0, v2, m => rI v2 ∧ (1105 ≤ v2 → Φ (m (1 :: q0) (0 : Int).toNat) m) ∧ (¬ (1105 ≤ v2) → (0 ≤ v2 ∧ v2 < 1105) ∧ (0 ≤ v2 ∧ v2 < 3315) ∧ ∀ m1, m1 = aj_u m (1 :: q0) v2.toNat (m (4 :: q0) v2.toNat) → hX12_works_177 f Φ k q0 (v2 + 1) m1)
set_option maxHeartbeats 4000000 in
set_option maxRecDepth 100000 in
theorem tX12_works_177 {X : aj_T} {n f : Nat} {Φ : Int → aj_M → Prop} (C : aj_Cx X cX12_works RX12 3 (n + 79)) (K : aj_Rt X (some .int) (fun r m => ∃ z, r = some (vI z) ∧ Φ z m)) : ∀ (k : Nat) (q0 : List Nat) (v2 : Int) (m : aj_M) (hq0 : (.inl (12, q0) : aj_R) ∈ aj_pls), hX12_works_177 f Φ k q0 v2 m → aj_J X 177 [some (vO 12 q0), none, some (vI v2)] [] m := by
  intro k
  induction k with
  | zero =>
    intro q0 v2 m _ h
    exact h.elim
  | succ k ih =>
    intro q0 v2 m hq0 h
    unfold hX12_works_177 at h
    refine aj_iload_n C dX12_works_177 rfl ?_
    refine aj_sipush C dX12_works_178 (by decide) ?_
    obtain ⟨r0, h1, h2⟩ := h
    refine aj_icmp_ge (tgt := 202) C dX12_works_181 (by decide) r0 (by decide) (fun e => ?_) (fun e => ?_)
    · have h := h1 e
      refine aj_aload_n C dX12_works_202 rfl ?_
      refine aj_getA (x := 0) (y := 3315) C flX12_13 hq0 rfl dX12_works_203 ?_
      refine aj_iconst C dX12_works_206 ?_
      refine aj_iald C (aj_ca (e := 0) (n := 3315) (j := 1) hq0 (by decide) rfl) (by decide) (by decide) dX12_works_207 rfl ?_
      exact aj_iret C K dX12_works_208 ⟨_, rfl, h⟩
    · have h := h2 e
      refine aj_aload_n C dX12_works_184 rfl ?_
      refine aj_getA (x := 0) (y := 3315) C flX12_13 hq0 rfl dX12_works_185 ?_
      refine aj_iload_n C dX12_works_188 rfl ?_
      refine aj_aload_n C dX12_works_189 rfl ?_
      refine aj_getA (x := 0) (y := 1105) C flX12_24 hq0 rfl dX12_works_190 ?_
      refine aj_iload_n C dX12_works_193 rfl ?_
      obtain ⟨r0, h⟩ := h
      refine aj_iald C (aj_ca (e := 0) (n := 1105) (j := 4) hq0 (by decide) rfl) (by decide) r0 dX12_works_194 rfl ?_
      obtain ⟨r0, h⟩ := h
      refine aj_iast C (aj_ca (e := 0) (n := 3315) (j := 1) hq0 (by decide) rfl) (by decide) r0 dX12_works_195 ?_
      refine aj_nm (fun m1 e1 => ?_)
      have h := h m1 e1
      refine aj_iinc (lv' := [some (vO 12 q0), none, some (vI (v2 + 1))]) C dX12_works_196 rfl (by decide) rfl ?_
      refine aj_goto (tgt := 177) C dX12_works_199 (by decide) ?_
      exact ih q0 (v2 + 1) _ hq0 h
def hX12_works_133 (f : Nat) (Φ : Int → aj_M → Prop) (q0 : List Nat) (m : aj_M) : Prop := ∀ m1, m1 = aj_u m q0 13 (m q0 11) → rI (m1 q0 11) ∧ (¬ (m1 q0 11) = 0 → ∀ m2, m2 = aj_u m1 q0 14 (m1 q0 12) → rI (m2 q0 11) ∧ ((m2 q0 11) = 0 → hX12_works_177 f Φ f q0 0 m2) ∧ (¬ ((m2 q0 11) = 0) → Φ ((-30) - (m2 q0 11)) m2)) ∧ ((m1 q0 11) = 0 → ∀ m3, m3 = aj_u m1 q0 14 (-1) → rI (m3 q0 11) ∧ ((m3 q0 11) = 0 → hX12_works_177 f Φ f q0 0 m3) ∧ (¬ ((m3 q0 11) = 0) → Φ ((-30) - (m3 q0 11)) m3))
set_option maxHeartbeats 4000000 in
set_option maxRecDepth 100000 in
theorem tX12_works_133 {X : aj_T} {n f : Nat} {Φ : Int → aj_M → Prop} (C : aj_Cx X cX12_works RX12 3 (n + 79)) (K : aj_Rt X (some .int) (fun r m => ∃ z, r = some (vI z) ∧ Φ z m)) (q0 : List Nat) (m : aj_M) (hq0 : (.inl (12, q0) : aj_R) ∈ aj_pls) (h : hX12_works_133 f Φ q0 m) : aj_J X 133 [some (vO 12 q0), none, none] [] m := by
  unfold hX12_works_133 at h
  refine aj_aload_n C dX12_works_133 rfl ?_
  refine aj_aload_n C dX12_works_134 rfl ?_
  refine aj_getI C flX12_138 hq0 (by decide) dX12_works_135 rfl ?_
  refine aj_putI C fpX12_243 hq0 rfl dX12_works_138 ?_
  refine aj_nm (fun m1 e1 => ?_)
  have h := h m1 e1
  refine aj_aload_n C dX12_works_141 rfl ?_
  refine aj_aload_n C dX12_works_142 rfl ?_
  refine aj_getI C flX12_138 hq0 (by decide) dX12_works_143 rfl ?_
  obtain ⟨r0, h1, h2⟩ := h
  refine aj_if_ne (tgt := 153) C dX12_works_146 (by decide) r0 (fun e => ?_) (fun e => ?_)
  · have h := h1 e
    refine aj_aload_n C dX12_works_153 rfl ?_
    refine aj_getI C flX12_141 hq0 (by decide) dX12_works_154 rfl ?_
    refine aj_putI C fpX12_27 hq0 rfl dX12_works_157 ?_
    refine aj_nm (fun m2 e1 => ?_)
    have h := h m2 e1
    refine aj_aload_n C dX12_works_160 rfl ?_
    refine aj_getI C flX12_138 hq0 (by decide) dX12_works_161 rfl ?_
    obtain ⟨r0, h1, h2⟩ := h
    refine aj_if_eq (tgt := 175) C dX12_works_164 (by decide) r0 (fun e => ?_) (fun e => ?_)
    · have h := h1 e
      refine aj_iconst C dX12_works_175 ?_
      refine aj_istore_n (lv' := [some (vO 12 q0), none, some (vI 0)]) C dX12_works_176 (by decide) rfl ?_
      exact tX12_works_177 C K f q0 0 _ hq0 h
    · have h := h2 e
      refine aj_bipush C dX12_works_167 (by decide) ?_
      refine aj_aload_n C dX12_works_169 rfl ?_
      refine aj_getI C flX12_138 hq0 (by decide) dX12_works_170 rfl ?_
      refine aj_isub C dX12_works_173 ?_
      exact aj_iret C K dX12_works_174 ⟨_, rfl, h⟩
  · have h := h2 e
    refine aj_iconst C dX12_works_149 ?_
    refine aj_goto (tgt := 157) C dX12_works_150 (by decide) ?_
    refine aj_putI C fpX12_27 hq0 rfl dX12_works_157 ?_
    refine aj_nm (fun m3 e1 => ?_)
    have h := h m3 e1
    refine aj_aload_n C dX12_works_160 rfl ?_
    refine aj_getI C flX12_138 hq0 (by decide) dX12_works_161 rfl ?_
    obtain ⟨r0, h1, h2⟩ := h
    refine aj_if_eq (tgt := 175) C dX12_works_164 (by decide) r0 (fun e => ?_) (fun e => ?_)
    · have h := h1 e
      refine aj_iconst C dX12_works_175 ?_
      refine aj_istore_n (lv' := [some (vO 12 q0), none, some (vI 0)]) C dX12_works_176 (by decide) rfl ?_
      exact tX12_works_177 C K f q0 0 _ hq0 h
    · have h := h2 e
      refine aj_bipush C dX12_works_167 (by decide) ?_
      refine aj_aload_n C dX12_works_169 rfl ?_
      refine aj_getI C flX12_138 hq0 (by decide) dX12_works_170 rfl ?_
      refine aj_isub C dX12_works_173 ?_
      exact aj_iret C K dX12_works_174 ⟨_, rfl, h⟩
def hX12_works_106 (f : Nat) (Φ : Int → aj_M → Prop) : Nat → List Nat → aj_M → Prop
  | 0, _, _ => False
  | k + 1, q0, m => rI (m q0 11) ∧ (¬ (m q0 11) = 0 → hX12_works_133 f Φ q0 m) ∧ ((m q0 11) = 0 → rI (m q0 9) ∧ ((m q0 9) = 24 → hX12_works_133 f Φ q0 m) ∧ (¬ ((m q0 9) = 24) → wX12_readLine f (fun m1 => wX12_closes f (fun m2 => hX12_works_106 f Φ k q0 m2) q0 m1) q0 m))
set_option maxHeartbeats 4000000 in
set_option maxRecDepth 100000 in
theorem tX12_works_106 {X : aj_T} {n f : Nat} {Φ : Int → aj_M → Prop} (C : aj_Cx X cX12_works RX12 3 (n + 79)) (K : aj_Rt X (some .int) (fun r m => ∃ z, r = some (vI z) ∧ Φ z m)) : ∀ (k : Nat) (q0 : List Nat) (m : aj_M) (hq0 : (.inl (12, q0) : aj_R) ∈ aj_pls), hX12_works_106 f Φ k q0 m → aj_J X 106 [some (vO 12 q0), none, none] [] m := by
  intro k
  induction k with
  | zero =>
    intro q0 m _ h
    exact h.elim
  | succ k ih =>
    intro q0 m hq0 h
    unfold hX12_works_106 at h
    refine aj_aload_n C dX12_works_106 rfl ?_
    refine aj_getI C flX12_138 hq0 (by decide) dX12_works_107 rfl ?_
    obtain ⟨r0, h1, h2⟩ := h
    refine aj_if_ne (tgt := 133) C dX12_works_110 (by decide) r0 (fun e => ?_) (fun e => ?_)
    · have h := h1 e
      exact tX12_works_133 C K q0 _ hq0 h
    · have h := h2 e
      refine aj_aload_n C dX12_works_113 rfl ?_
      refine aj_getI C flX12_120 hq0 (by decide) dX12_works_114 rfl ?_
      refine aj_bipush C dX12_works_117 (by decide) ?_
      obtain ⟨r0, h1, h2⟩ := h
      refine aj_icmp_eq (tgt := 133) C dX12_works_119 (by decide) r0 (by decide) (fun e => ?_) (fun e => ?_)
      · have h := h1 e
        exact tX12_works_133 C K q0 _ hq0 h
      · have h := h2 e
        refine aj_aload_n C dX12_works_122 rfl ?_
        refine aj_callV (rest := []) C mvX12_240 (sX12_readLine hq0 h) hq0 (aj_np 0 (by decide +kernel) rfl) (Nat.le_of_ble_eq_true rfl) rfl dX12_works_123 (fun r m1 h => ?_)
        obtain ⟨rfl, h⟩ := h
        refine aj_aload_n C dX12_works_126 rfl ?_
        refine aj_callV (rest := []) C mvX12_237 (sX12_closes hq0 h) hq0 (aj_np 0 (by decide +kernel) rfl) (Nat.le_of_ble_eq_true rfl) rfl dX12_works_127 (fun r m2 h => ?_)
        obtain ⟨rfl, h⟩ := h
        refine aj_goto (tgt := 106) C dX12_works_130 (by decide) ?_
        exact ih q0 _ hq0 h
def hX12_works_71 (f : Nat) (Φ : Int → aj_M → Prop) (q0 : List Nat) (m : aj_M) : Prop := wX12_readGroup f (fun m1 => wX12_eats f (fun z2 m2 => rI z2 ∧ (¬ z2 = 0 → wX12_takes f (fun z3 m3 => ∀ m4, m4 = aj_u m3 (4 :: q0) (62 : Int).toNat z3 → wX12_closes f (fun m5 => hX12_works_106 f Φ f q0 m5) q0 m4) q0 0 9 m2) ∧ (z2 = 0 → wX12_fails f (fun m6 => wX12_takes f (fun z6 m7 => ∀ m8, m8 = aj_u m7 (4 :: q0) (62 : Int).toNat z6 → wX12_closes f (fun m9 => hX12_works_106 f Φ f q0 m9) q0 m8) q0 0 9 m6) q0 2 m2)) q0 5 m1) q0 m
set_option maxHeartbeats 4000000 in
set_option maxRecDepth 100000 in
theorem tX12_works_71 {X : aj_T} {n f : Nat} {Φ : Int → aj_M → Prop} (C : aj_Cx X cX12_works RX12 3 (n + 79)) (K : aj_Rt X (some .int) (fun r m => ∃ z, r = some (vI z) ∧ Φ z m)) (q0 : List Nat) (m : aj_M) (hq0 : (.inl (12, q0) : aj_R) ∈ aj_pls) (h : hX12_works_71 f Φ q0 m) : aj_J X 71 [some (vO 12 q0), none, none] [] m := by
  unfold hX12_works_71 at h
  refine aj_aload_n C dX12_works_71 rfl ?_
  refine aj_callV (rest := []) C mvX12_234 (sX12_readGroup hq0 h) hq0 (aj_np 0 (by decide +kernel) rfl) (Nat.le_of_ble_eq_true rfl) rfl dX12_works_72 (fun r m1 h => ?_)
  obtain ⟨rfl, h⟩ := h
  refine aj_aload_n C dX12_works_75 rfl ?_
  refine aj_iconst C dX12_works_76 ?_
  refine aj_callV (rest := []) C mvX12_170 (sX12_eats hq0 h) hq0 (aj_np 1 (by decide +kernel) rfl) (Nat.le_of_ble_eq_true rfl) rfl dX12_works_77 (fun r m2 h => ?_)
  obtain ⟨z2, rfl, h⟩ := h
  obtain ⟨r0, h1, h2⟩ := h
  refine aj_if_ne (tgt := 88) C dX12_works_80 (by decide) r0 (fun e => ?_) (fun e => ?_)
  · have h := h1 e
    refine aj_aload_n C dX12_works_88 rfl ?_
    refine aj_getA (x := 0) (y := 1105) C flX12_24 hq0 rfl dX12_works_89 ?_
    refine aj_bipush C dX12_works_92 (by decide) ?_
    refine aj_aload_n C dX12_works_94 rfl ?_
    refine aj_iconst C dX12_works_95 ?_
    refine aj_bipush C dX12_works_96 (by decide) ?_
    refine aj_callV (rest := [vI 62, vA 0 1105 (4 :: q0)]) C mvX12_218 (sX12_takes hq0 h) hq0 (aj_np 2 (by decide +kernel) rfl) (Nat.le_of_ble_eq_true rfl) rfl dX12_works_98 (fun r m3 h => ?_)
    obtain ⟨z3, rfl, h⟩ := h
    refine aj_iast C (aj_ca (e := 0) (n := 1105) (j := 4) hq0 (by decide) rfl) (by decide) (by decide) dX12_works_101 ?_
    refine aj_nm (fun m4 e1 => ?_)
    have h := h m4 e1
    refine aj_aload_n C dX12_works_102 rfl ?_
    refine aj_callV (rest := []) C mvX12_237 (sX12_closes hq0 h) hq0 (aj_np 0 (by decide +kernel) rfl) (Nat.le_of_ble_eq_true rfl) rfl dX12_works_103 (fun r m5 h => ?_)
    obtain ⟨rfl, h⟩ := h
    exact tX12_works_106 C K f q0 _ hq0 h
  · have h := h2 e
    refine aj_aload_n C dX12_works_83 rfl ?_
    refine aj_iconst C dX12_works_84 ?_
    refine aj_callV (rest := []) C mvX12_150 (sX12_fails hq0 h) hq0 (aj_np 1 (by decide +kernel) rfl) (Nat.le_of_ble_eq_true rfl) rfl dX12_works_85 (fun r m6 h => ?_)
    obtain ⟨rfl, h⟩ := h
    refine aj_aload_n C dX12_works_88 rfl ?_
    refine aj_getA (x := 0) (y := 1105) C flX12_24 hq0 rfl dX12_works_89 ?_
    refine aj_bipush C dX12_works_92 (by decide) ?_
    refine aj_aload_n C dX12_works_94 rfl ?_
    refine aj_iconst C dX12_works_95 ?_
    refine aj_bipush C dX12_works_96 (by decide) ?_
    refine aj_callV (rest := [vI 62, vA 0 1105 (4 :: q0)]) C mvX12_218 (sX12_takes hq0 h) hq0 (aj_np 2 (by decide +kernel) rfl) (Nat.le_of_ble_eq_true rfl) rfl dX12_works_98 (fun r m7 h => ?_)
    obtain ⟨z6, rfl, h⟩ := h
    refine aj_iast C (aj_ca (e := 0) (n := 1105) (j := 4) hq0 (by decide) rfl) (by decide) (by decide) dX12_works_101 ?_
    refine aj_nm (fun m8 e1 => ?_)
    have h := h m8 e1
    refine aj_aload_n C dX12_works_102 rfl ?_
    refine aj_callV (rest := []) C mvX12_237 (sX12_closes hq0 h) hq0 (aj_np 0 (by decide +kernel) rfl) (Nat.le_of_ble_eq_true rfl) rfl dX12_works_103 (fun r m9 h => ?_)
    obtain ⟨rfl, h⟩ := h
    exact tX12_works_106 C K f q0 _ hq0 h
def wX12_works (f : Nat) (Φ : Int → aj_M → Prop) (q0 : List Nat) (v1 : Int) (m : aj_M) : Prop := ∀ m1, m1 = aj_u m q0 0 0 → rI v1 ∧ rI (m1 q0 5) ∧ wX12_within f (fun z1 m2 => rI z1 ∧ (¬ z1 = 0 → ∀ m3, m3 = aj_u m2 q0 8 v1 → ∀ m4, m4 = aj_u m3 q0 5 0 → ∀ m5, m5 = aj_u m4 q0 7 0 → ∀ m6, m6 = aj_u m5 q0 11 0 → ∀ m7, m7 = aj_u m6 q0 15 0 → wX12_plain f (fun m8 => wX12_next f (fun m9 => wX12_eats f (fun z4 m10 => rI z4 ∧ (¬ z4 = 0 → hX12_works_71 f Φ q0 m10) ∧ (z4 = 0 → wX12_fails f (fun m11 => hX12_works_71 f Φ q0 m11) q0 2 m10)) q0 0 m9) q0 m8) 1105 (4 :: q0) m7) ∧ (z1 = 0 → Φ (-3) m2)) v1 0 (m1 q0 5) m1
set_option maxHeartbeats 4000000 in
set_option maxRecDepth 100000 in
theorem sX12_works {n f : Nat} {Φ : Int → aj_M → Prop} {q0 : List Nat} {v1 : Int} {m : aj_M} (hq0 : (.inl (12, q0) : aj_R) ∈ aj_pls) (h : wX12_works f Φ q0 v1 m) : aj_Ct (n + 79) yX12_works cX12_works 3 (some .int) [vO 12 q0, vI v1] m (fun r m => ∃ z, r = some (vI z) ∧ Φ z m) := by
  refine aj_met (lv := [some (vO 12 q0), some (vI v1), none]) (by decide +kernel) rfl (Nat.le_of_ble_eq_true rfl) (fun X C K => ?_)
  unfold wX12_works at h
  refine aj_aload_n C dX12_works_0 rfl ?_
  refine aj_iconst C dX12_works_1 ?_
  refine aj_putI C fpX12_1 hq0 rfl dX12_works_2 ?_
  refine aj_nm (fun m1 e1 => ?_)
  have h := h m1 e1
  refine aj_iload_n C dX12_works_5 rfl ?_
  obtain ⟨r0, h⟩ := h
  refine aj_i2l C dX12_works_6 r0 ?_
  refine aj_lconst (z := 0) C dX12_works_7 rfl ?_
  refine aj_aload_n C dX12_works_8 rfl ?_
  refine aj_getI C flX12_92 hq0 (by decide) dX12_works_9 rfl ?_
  obtain ⟨r0, h⟩ := h
  refine aj_i2l C dX12_works_12 r0 ?_
  refine aj_callS (rest := []) C msX12_154 (sX12_within  h) (aj_np 3 (by decide +kernel) rfl) (Nat.le_of_ble_eq_true rfl) rfl dX12_works_13 (fun r m2 h => ?_)
  obtain ⟨z1, rfl, h⟩ := h
  obtain ⟨r0, h1, h2⟩ := h
  refine aj_if_ne (tgt := 22) C dX12_works_16 (by decide) r0 (fun e => ?_) (fun e => ?_)
  · have h := h1 e
    refine aj_aload_n C dX12_works_22 rfl ?_
    refine aj_iload_n C dX12_works_23 rfl ?_
    refine aj_putI C fpX12_95 hq0 rfl dX12_works_24 ?_
    refine aj_nm (fun m3 e1 => ?_)
    have h := h m3 e1
    refine aj_aload_n C dX12_works_27 rfl ?_
    refine aj_iconst C dX12_works_28 ?_
    refine aj_putI C fpX12_92 hq0 rfl dX12_works_29 ?_
    refine aj_nm (fun m4 e1 => ?_)
    have h := h m4 e1
    refine aj_aload_n C dX12_works_32 rfl ?_
    refine aj_iconst C dX12_works_33 ?_
    refine aj_putI C fpX12_113 hq0 rfl dX12_works_34 ?_
    refine aj_nm (fun m5 e1 => ?_)
    have h := h m5 e1
    refine aj_aload_n C dX12_works_37 rfl ?_
    refine aj_iconst C dX12_works_38 ?_
    refine aj_putI C fpX12_138 hq0 rfl dX12_works_39 ?_
    refine aj_nm (fun m6 e1 => ?_)
    have h := h m6 e1
    refine aj_aload_n C dX12_works_42 rfl ?_
    refine aj_iconst C dX12_works_43 ?_
    refine aj_putZ C fpX12_221 hq0 (Or.inl rfl) rfl dX12_works_44 ?_
    refine aj_nm (fun m7 e1 => ?_)
    have h := h m7 e1
    refine aj_aload_n C dX12_works_47 rfl ?_
    refine aj_getA (x := 0) (y := 1105) C flX12_24 hq0 rfl dX12_works_48 ?_
    refine aj_callS (rest := []) C msX12_88 (sX12_plain (aj_ca (e := 0) (n := 1105) (j := 4) hq0 (by decide) rfl) (by decide) h) (aj_np 1 (by decide +kernel) rfl) (Nat.le_of_ble_eq_true rfl) rfl dX12_works_51 (fun r m8 h => ?_)
    obtain ⟨rfl, h⟩ := h
    refine aj_aload_n C dX12_works_54 rfl ?_
    refine aj_callV (rest := []) C mvX12_147 (sX12_next hq0 h) hq0 (aj_np 0 (by decide +kernel) rfl) (Nat.le_of_ble_eq_true rfl) rfl dX12_works_55 (fun r m9 h => ?_)
    obtain ⟨rfl, h⟩ := h
    refine aj_aload_n C dX12_works_58 rfl ?_
    refine aj_iconst C dX12_works_59 ?_
    refine aj_callV (rest := []) C mvX12_170 (sX12_eats hq0 h) hq0 (aj_np 1 (by decide +kernel) rfl) (Nat.le_of_ble_eq_true rfl) rfl dX12_works_60 (fun r m10 h => ?_)
    obtain ⟨z4, rfl, h⟩ := h
    obtain ⟨r0, h1, h2⟩ := h
    refine aj_if_ne (tgt := 71) C dX12_works_63 (by decide) r0 (fun e => ?_) (fun e => ?_)
    · have h := h1 e
      refine aj_wk (lv' := [some (vO 12 q0), none, none]) (⟨rfl, trivial⟩) ?_
      exact tX12_works_71 C K q0 _ hq0 h
    · have h := h2 e
      refine aj_aload_n C dX12_works_66 rfl ?_
      refine aj_iconst C dX12_works_67 ?_
      refine aj_callV (rest := []) C mvX12_150 (sX12_fails hq0 h) hq0 (aj_np 1 (by decide +kernel) rfl) (Nat.le_of_ble_eq_true rfl) rfl dX12_works_68 (fun r m11 h => ?_)
      obtain ⟨rfl, h⟩ := h
      refine aj_wk (lv' := [some (vO 12 q0), none, none]) (⟨rfl, trivial⟩) ?_
      exact tX12_works_71 C K q0 _ hq0 h
  · have h := h2 e
    refine aj_bipush C dX12_works_19 (by decide) ?_
    exact aj_iret C K dX12_works_21 ⟨_, rfl, h⟩
theorem dX12_fault_0 : decode cX12_fault 0 = .ok (.aload_n 0, 1) := by decide +kernel
theorem dX12_fault_1 : decode cX12_fault 1 = .ok (.iconst 0, 1) := by decide +kernel
theorem dX12_fault_2 : decode cX12_fault 2 = .ok (.putfield 1, 3) := by decide +kernel
theorem dX12_fault_5 : decode cX12_fault 5 = .ok (.iload_n 1, 1) := by decide +kernel
theorem dX12_fault_6 : decode cX12_fault 6 = .ok (.ifCond .ne 10, 3) := by decide +kernel
theorem dX12_fault_9 : decode cX12_fault 9 = .ok (.aload_n 0, 1) := by decide +kernel
theorem dX12_fault_10 : decode cX12_fault 10 = .ok (.getfield 243, 3) := by decide +kernel
theorem dX12_fault_13 : decode cX12_fault 13 = .ok (.goto 16, 3) := by decide +kernel
theorem dX12_fault_16 : decode cX12_fault 16 = .ok (.iload_n 1, 1) := by decide +kernel
theorem dX12_fault_17 : decode cX12_fault 17 = .ok (.iconst 1, 1) := by decide +kernel
theorem dX12_fault_18 : decode cX12_fault 18 = .ok (.if_icmp .ne 10, 3) := by decide +kernel
theorem dX12_fault_21 : decode cX12_fault 21 = .ok (.aload_n 0, 1) := by decide +kernel
theorem dX12_fault_22 : decode cX12_fault 22 = .ok (.getfield 27, 3) := by decide +kernel
theorem dX12_fault_25 : decode cX12_fault 25 = .ok (.goto 4, 3) := by decide +kernel
theorem dX12_fault_28 : decode cX12_fault 28 = .ok (.iconst (-1), 1) := by decide +kernel
theorem dX12_fault_29 : decode cX12_fault 29 = .ok (.ireturn, 1) := by decide +kernel
def wX12_fault (f : Nat) (Φ : Int → aj_M → Prop) (q0 : List Nat) (v1 : Int) (m : aj_M) : Prop := ∀ m1, m1 = aj_u m q0 0 0 → rI v1 ∧ (¬ v1 = 0 → rI v1 ∧ (¬ v1 = 1 → Φ (-1) m1) ∧ (v1 = 1 → Φ (m1 q0 14) m1)) ∧ (v1 = 0 → Φ (m1 q0 13) m1)
set_option maxHeartbeats 4000000 in
set_option maxRecDepth 100000 in
theorem sX12_fault {n f : Nat} {Φ : Int → aj_M → Prop} {q0 : List Nat} {v1 : Int} {m : aj_M} (hq0 : (.inl (12, q0) : aj_R) ∈ aj_pls) (h : wX12_fault f Φ q0 v1 m) : aj_Ct n yX12_fault cX12_fault 2 (some .int) [vO 12 q0, vI v1] m (fun r m => ∃ z, r = some (vI z) ∧ Φ z m) := by
  refine aj_met (lv := [some (vO 12 q0), some (vI v1)]) (by decide +kernel) rfl (Nat.le_of_ble_eq_true rfl) (fun X C K => ?_)
  unfold wX12_fault at h
  refine aj_aload_n C dX12_fault_0 rfl ?_
  refine aj_iconst C dX12_fault_1 ?_
  refine aj_putI C fpX12_1 hq0 rfl dX12_fault_2 ?_
  refine aj_nm (fun m1 e1 => ?_)
  have h := h m1 e1
  refine aj_iload_n C dX12_fault_5 rfl ?_
  obtain ⟨r0, h1, h2⟩ := h
  refine aj_if_ne (tgt := 16) C dX12_fault_6 (by decide) r0 (fun e => ?_) (fun e => ?_)
  · have h := h1 e
    refine aj_iload_n C dX12_fault_16 rfl ?_
    refine aj_iconst C dX12_fault_17 ?_
    obtain ⟨r0, h1, h2⟩ := h
    refine aj_icmp_ne (tgt := 28) C dX12_fault_18 (by decide) r0 (by decide) (fun e => ?_) (fun e => ?_)
    · have h := h1 e
      refine aj_iconst C dX12_fault_28 ?_
      exact aj_iret C K dX12_fault_29 ⟨_, rfl, h⟩
    · have h := h2 e
      refine aj_aload_n C dX12_fault_21 rfl ?_
      refine aj_getI C flX12_27 hq0 (by decide) dX12_fault_22 rfl ?_
      refine aj_goto (tgt := 29) C dX12_fault_25 (by decide) ?_
      exact aj_iret C K dX12_fault_29 ⟨_, rfl, h⟩
  · have h := h2 e
    refine aj_aload_n C dX12_fault_9 rfl ?_
    refine aj_getI C flX12_243 hq0 (by decide) dX12_fault_10 rfl ?_
    refine aj_goto (tgt := 29) C dX12_fault_13 (by decide) ?_
    exact aj_iret C K dX12_fault_29 ⟨_, rfl, h⟩
theorem dX12_isArc_0 : decode cX12_isArc 0 = .ok (.lload_n 1, 1) := by decide +kernel
theorem dX12_isArc_1 : decode cX12_isArc 1 = .ok (.lconst 0, 1) := by decide +kernel
theorem dX12_isArc_2 : decode cX12_isArc 2 = .ok (.aload_n 0, 1) := by decide +kernel
theorem dX12_isArc_3 : decode cX12_isArc 3 = .ok (.getfield 13, 3) := by decide +kernel
theorem dX12_isArc_6 : decode cX12_isArc 6 = .ok (.bipush 6, 2) := by decide +kernel
theorem dX12_isArc_8 : decode cX12_isArc 8 = .ok (.iaload, 1) := by decide +kernel
theorem dX12_isArc_9 : decode cX12_isArc 9 = .ok (.iconst 1, 1) := by decide +kernel
theorem dX12_isArc_10 : decode cX12_isArc 10 = .ok (.isub, 1) := by decide +kernel
theorem dX12_isArc_11 : decode cX12_isArc 11 = .ok (.i2l, 1) := by decide +kernel
theorem dX12_isArc_12 : decode cX12_isArc 12 = .ok (.invokestatic 154, 3) := by decide +kernel
theorem dX12_isArc_15 : decode cX12_isArc 15 = .ok (.ireturn, 1) := by decide +kernel
def wX12_isArc (f : Nat) (Φ : Int → aj_M → Prop) (q0 : List Nat) (w1 : Int) (m : aj_M) : Prop := rI ((m (1 :: q0) (6 : Int).toNat) - 1) ∧ wX12_within f (fun z1 m1 => (z1 = 0 ∨ z1 = 1) ∧ Φ z1 m1) w1 0 ((m (1 :: q0) (6 : Int).toNat) - 1) m
set_option maxHeartbeats 4000000 in
set_option maxRecDepth 100000 in
theorem sX12_isArc {n f : Nat} {Φ : Int → aj_M → Prop} {q0 : List Nat} {w1 : Int} {m : aj_M} (hq0 : (.inl (12, q0) : aj_R) ∈ aj_pls) (h : wX12_isArc f Φ q0 w1 m) : aj_Ct (n + 1) yX12_isArc cX12_isArc 3 (some .boolean) [vO 12 q0, vL w1] m (fun r m => ∃ z, r = some (vI z) ∧ Φ z m) := by
  refine aj_met (lv := [some (vO 12 q0), some (vL w1), none]) (by decide +kernel) rfl (Nat.le_of_ble_eq_true rfl) (fun X C K => ?_)
  unfold wX12_isArc at h
  refine aj_lload_n C dX12_isArc_0 rfl ?_
  refine aj_lconst (z := 0) C dX12_isArc_1 rfl ?_
  refine aj_aload_n C dX12_isArc_2 rfl ?_
  refine aj_getA (x := 0) (y := 3315) C flX12_13 hq0 rfl dX12_isArc_3 ?_
  refine aj_bipush C dX12_isArc_6 (by decide) ?_
  refine aj_iald C (aj_ca (e := 0) (n := 3315) (j := 1) hq0 (by decide) rfl) (by decide) (by decide) dX12_isArc_8 rfl ?_
  refine aj_iconst C dX12_isArc_9 ?_
  refine aj_isub C dX12_isArc_10 ?_
  obtain ⟨r0, h⟩ := h
  refine aj_i2l C dX12_isArc_11 r0 ?_
  refine aj_callS (rest := []) C msX12_154 (sX12_within  h) (aj_np 3 (by decide +kernel) rfl) (Nat.le_of_ble_eq_true rfl) rfl dX12_isArc_12 (fun r m1 h => ?_)
  obtain ⟨z1, rfl, h⟩ := h
  exact aj_zret C K h.1 dX12_isArc_15 ⟨_, rfl, h.2⟩
theorem dX12_between_0 : decode cX12_between 0 = .ok (.iload_n 0, 1) := by decide +kernel
theorem dX12_between_1 : decode cX12_between 1 = .ok (.tableswitch 80 3003 3008 #[39, 50, 61, 80, 72, 76], 39) := by decide +kernel
theorem dX12_between_40 : decode cX12_between 40 = .ok (.iload_n 1, 1) := by decide +kernel
theorem dX12_between_41 : decode cX12_between 41 = .ok (.iload_n 2, 1) := by decide +kernel
theorem dX12_between_42 : decode cX12_between 42 = .ok (.if_icmp .ne 7, 3) := by decide +kernel
theorem dX12_between_45 : decode cX12_between 45 = .ok (.iconst 1, 1) := by decide +kernel
theorem dX12_between_46 : decode cX12_between 46 = .ok (.goto 4, 3) := by decide +kernel
theorem dX12_between_49 : decode cX12_between 49 = .ok (.iconst 0, 1) := by decide +kernel
theorem dX12_between_50 : decode cX12_between 50 = .ok (.ireturn, 1) := by decide +kernel
theorem dX12_between_51 : decode cX12_between 51 = .ok (.iload_n 1, 1) := by decide +kernel
theorem dX12_between_52 : decode cX12_between 52 = .ok (.iload_n 2, 1) := by decide +kernel
theorem dX12_between_53 : decode cX12_between 53 = .ok (.if_icmp .ge 7, 3) := by decide +kernel
theorem dX12_between_56 : decode cX12_between 56 = .ok (.iconst 1, 1) := by decide +kernel
theorem dX12_between_57 : decode cX12_between 57 = .ok (.goto 4, 3) := by decide +kernel
theorem dX12_between_60 : decode cX12_between 60 = .ok (.iconst 0, 1) := by decide +kernel
theorem dX12_between_61 : decode cX12_between 61 = .ok (.ireturn, 1) := by decide +kernel
theorem dX12_between_62 : decode cX12_between 62 = .ok (.iload_n 1, 1) := by decide +kernel
theorem dX12_between_63 : decode cX12_between 63 = .ok (.iload_n 2, 1) := by decide +kernel
theorem dX12_between_64 : decode cX12_between 64 = .ok (.if_icmp .le 7, 3) := by decide +kernel
theorem dX12_between_67 : decode cX12_between 67 = .ok (.iconst 1, 1) := by decide +kernel
theorem dX12_between_68 : decode cX12_between 68 = .ok (.goto 4, 3) := by decide +kernel
theorem dX12_between_71 : decode cX12_between 71 = .ok (.iconst 0, 1) := by decide +kernel
theorem dX12_between_72 : decode cX12_between 72 = .ok (.ireturn, 1) := by decide +kernel
theorem dX12_between_73 : decode cX12_between 73 = .ok (.iload_n 1, 1) := by decide +kernel
theorem dX12_between_74 : decode cX12_between 74 = .ok (.iload_n 2, 1) := by decide +kernel
theorem dX12_between_75 : decode cX12_between 75 = .ok (.iand, 1) := by decide +kernel
theorem dX12_between_76 : decode cX12_between 76 = .ok (.ireturn, 1) := by decide +kernel
theorem dX12_between_77 : decode cX12_between 77 = .ok (.iload_n 1, 1) := by decide +kernel
theorem dX12_between_78 : decode cX12_between 78 = .ok (.iload_n 2, 1) := by decide +kernel
theorem dX12_between_79 : decode cX12_between 79 = .ok (.ior, 1) := by decide +kernel
theorem dX12_between_80 : decode cX12_between 80 = .ok (.ireturn, 1) := by decide +kernel
theorem dX12_between_81 : decode cX12_between 81 = .ok (.iload_n 0, 1) := by decide +kernel
theorem dX12_between_82 : decode cX12_between 82 = .ok (.sipush 3000, 3) := by decide +kernel
theorem dX12_between_85 : decode cX12_between 85 = .ok (.if_icmp .ne 11, 3) := by decide +kernel
theorem dX12_between_88 : decode cX12_between 88 = .ok (.iload_n 1, 1) := by decide +kernel
theorem dX12_between_89 : decode cX12_between 89 = .ok (.i2l, 1) := by decide +kernel
theorem dX12_between_90 : decode cX12_between 90 = .ok (.iload_n 2, 1) := by decide +kernel
theorem dX12_between_91 : decode cX12_between 91 = .ok (.i2l, 1) := by decide +kernel
theorem dX12_between_92 : decode cX12_between 92 = .ok (.ladd, 1) := by decide +kernel
theorem dX12_between_93 : decode cX12_between 93 = .ok (.goto 23, 3) := by decide +kernel
theorem dX12_between_96 : decode cX12_between 96 = .ok (.iload_n 0, 1) := by decide +kernel
theorem dX12_between_97 : decode cX12_between 97 = .ok (.sipush 3001, 3) := by decide +kernel
theorem dX12_between_100 : decode cX12_between 100 = .ok (.if_icmp .ne 11, 3) := by decide +kernel
theorem dX12_between_103 : decode cX12_between 103 = .ok (.iload_n 1, 1) := by decide +kernel
theorem dX12_between_104 : decode cX12_between 104 = .ok (.i2l, 1) := by decide +kernel
theorem dX12_between_105 : decode cX12_between 105 = .ok (.iload_n 2, 1) := by decide +kernel
theorem dX12_between_106 : decode cX12_between 106 = .ok (.i2l, 1) := by decide +kernel
theorem dX12_between_107 : decode cX12_between 107 = .ok (.lsub, 1) := by decide +kernel
theorem dX12_between_108 : decode cX12_between 108 = .ok (.goto 8, 3) := by decide +kernel
theorem dX12_between_111 : decode cX12_between 111 = .ok (.iload_n 1, 1) := by decide +kernel
theorem dX12_between_112 : decode cX12_between 112 = .ok (.i2l, 1) := by decide +kernel
theorem dX12_between_113 : decode cX12_between 113 = .ok (.iload_n 2, 1) := by decide +kernel
theorem dX12_between_114 : decode cX12_between 114 = .ok (.i2l, 1) := by decide +kernel
theorem dX12_between_115 : decode cX12_between 115 = .ok (.lmul, 1) := by decide +kernel
theorem dX12_between_116 : decode cX12_between 116 = .ok (.lstore_n 3, 1) := by decide +kernel
theorem dX12_between_117 : decode cX12_between 117 = .ok (.lload_n 3, 1) := by decide +kernel
theorem dX12_between_118 : decode cX12_between 118 = .ok (.ldc2_w 246, 3) := by decide +kernel
theorem dX12_between_121 : decode cX12_between 121 = .ok (.lcmp, 1) := by decide +kernel
theorem dX12_between_122 : decode cX12_between 122 = .ok (.ifCond .le 9, 3) := by decide +kernel
theorem dX12_between_125 : decode cX12_between 125 = .ok (.ldc2_w 246, 3) := by decide +kernel
theorem dX12_between_128 : decode cX12_between 128 = .ok (.goto 18, 3) := by decide +kernel
theorem dX12_between_131 : decode cX12_between 131 = .ok (.lload_n 3, 1) := by decide +kernel
theorem dX12_between_132 : decode cX12_between 132 = .ok (.ldc2_w 248, 3) := by decide +kernel
theorem dX12_between_135 : decode cX12_between 135 = .ok (.lcmp, 1) := by decide +kernel
theorem dX12_between_136 : decode cX12_between 136 = .ok (.ifCond .ge 9, 3) := by decide +kernel
theorem dX12_between_139 : decode cX12_between 139 = .ok (.ldc2_w 248, 3) := by decide +kernel
theorem dX12_between_142 : decode cX12_between 142 = .ok (.goto 4, 3) := by decide +kernel
theorem dX12_between_145 : decode cX12_between 145 = .ok (.lload_n 3, 1) := by decide +kernel
theorem dX12_between_146 : decode cX12_between 146 = .ok (.l2i, 1) := by decide +kernel
theorem dX12_between_147 : decode cX12_between 147 = .ok (.ireturn, 1) := by decide +kernel
def hX12_between_116 (f : Nat) (Φ : Int → aj_M → Prop) (ws0 : Int) (m : aj_M) : Prop := rL ws0 ∧ (ws0 ≤ 1000000 → rL ws0 ∧ ((-1000000) ≤ ws0 → Φ ws0 m) ∧ (¬ ((-1000000) ≤ ws0) → Φ (-1000000) m)) ∧ (¬ (ws0 ≤ 1000000) → Φ 1000000 m)
set_option maxHeartbeats 4000000 in
set_option maxRecDepth 100000 in
theorem tX12_between_116 {X : aj_T} {n f : Nat} {Φ : Int → aj_M → Prop} (C : aj_Cx X cX12_between RX12 5 n) (K : aj_Rt X (some .int) (fun r m => ∃ z, r = some (vI z) ∧ Φ z m)) (ws0 : Int) (m : aj_M)  (h : hX12_between_116 f Φ ws0 m) : aj_J X 116 [none, none, none, none, none] [vL ws0] m := by
  unfold hX12_between_116 at h
  refine aj_lstore_n (lv' := [none, none, none, some (vL ws0), none]) C dX12_between_116 (by decide) rfl ?_
  refine aj_lload_n C dX12_between_117 rfl ?_
  refine aj_ldc2 (z := 1000000) C (wd1886) rfl dX12_between_118 ?_
  obtain ⟨r0, h1, h2⟩ := h
  refine aj_lcmp_le (tgt := 131) C dX12_between_121 dX12_between_122 (by decide) r0 (by decide) (fun e => ?_) (fun e => ?_)
  · have h := h1 e
    refine aj_lload_n C dX12_between_131 rfl ?_
    refine aj_ldc2 (z := (-1000000)) C (wd1887) rfl dX12_between_132 ?_
    obtain ⟨r0, h1, h2⟩ := h
    refine aj_lcmp_ge (tgt := 145) C dX12_between_135 dX12_between_136 (by decide) r0 (by decide) (fun e => ?_) (fun e => ?_)
    · have h := h1 e
      refine aj_lload_n C dX12_between_145 rfl ?_
      refine aj_l2i C dX12_between_146 ?_
      exact aj_iret C K dX12_between_147 ⟨_, rfl, h⟩
    · have h := h2 e
      refine aj_ldc2 (z := (-1000000)) C (wd1887) rfl dX12_between_139 ?_
      refine aj_goto (tgt := 146) C dX12_between_142 (by decide) ?_
      refine aj_l2i C dX12_between_146 ?_
      exact aj_iret C K dX12_between_147 ⟨_, rfl, h⟩
  · have h := h2 e
    refine aj_ldc2 (z := 1000000) C (wd1886) rfl dX12_between_125 ?_
    refine aj_goto (tgt := 146) C dX12_between_128 (by decide) ?_
    refine aj_l2i C dX12_between_146 ?_
    exact aj_iret C K dX12_between_147 ⟨_, rfl, h⟩
def wX12_between (f : Nat) (Φ : Int → aj_M → Prop) (v0 : Int) (v1 : Int) (v2 : Int) (m : aj_M) : Prop := rI v0 ∧ (v0 < 3003 ∨ 3008 < v0 → rI v0 ∧ (¬ v0 = 3000 → rI v0 ∧ (¬ v0 = 3001 → rI v1 ∧ rI v2 ∧ hX12_between_116 f Φ (v1 * v2) m) ∧ (v0 = 3001 → rI v1 ∧ rI v2 ∧ hX12_between_116 f Φ (v1 - v2) m)) ∧ (v0 = 3000 → rI v1 ∧ rI v2 ∧ hX12_between_116 f Φ (v1 + v2) m)) ∧ (v0 = 3003 → rI v1 ∧ rI v2 ∧ (¬ v1 = v2 → Φ 0 m) ∧ (v1 = v2 → Φ 1 m)) ∧ (v0 = 3004 → rI v1 ∧ rI v2 ∧ (v2 ≤ v1 → Φ 0 m) ∧ (¬ (v2 ≤ v1) → Φ 1 m)) ∧ (v0 = 3005 → rI v1 ∧ rI v2 ∧ (v1 ≤ v2 → Φ 0 m) ∧ (¬ (v1 ≤ v2) → Φ 1 m)) ∧ (v0 = 3006 → rI v0 ∧ (¬ v0 = 3000 → rI v0 ∧ (¬ v0 = 3001 → rI v1 ∧ rI v2 ∧ hX12_between_116 f Φ (v1 * v2) m) ∧ (v0 = 3001 → rI v1 ∧ rI v2 ∧ hX12_between_116 f Φ (v1 - v2) m)) ∧ (v0 = 3000 → rI v1 ∧ rI v2 ∧ hX12_between_116 f Φ (v1 + v2) m)) ∧ (v0 = 3007 → Φ (aj_and v1 v2) m) ∧ (v0 = 3008 → Φ (aj_or v1 v2) m)
set_option maxHeartbeats 4000000 in
set_option maxRecDepth 100000 in
theorem sX12_between {n f : Nat} {Φ : Int → aj_M → Prop} {v0 : Int} {v1 : Int} {v2 : Int} {m : aj_M}  (h : wX12_between f Φ v0 v1 v2 m) : aj_Ct n yX12_between cX12_between 5 (some .int) [vI v0, vI v1, vI v2] m (fun r m => ∃ z, r = some (vI z) ∧ Φ z m) := by
  refine aj_met (lv := [some (vI v0), some (vI v1), some (vI v2), none, none]) (by decide +kernel) rfl (Nat.le_of_ble_eq_true rfl) (fun X C K => ?_)
  unfold wX12_between at h
  refine aj_iload_n C dX12_between_0 rfl ?_
  obtain ⟨r0, hd, hc0, hc1, hc2, hc3, hc4, hc5⟩ := h
  rcases (by omega : (v0 < 3003 ∨ 3008 < v0) ∨ v0 = 3003 ∨ v0 = 3004 ∨ v0 = 3005 ∨ v0 = 3006 ∨ v0 = 3007 ∨ v0 = 3008) with e | e | e | e | e | e | e
  · have h := hd e
    refine aj_tout (tgt := 81) C dX12_between_1 r0 e (by decide) ?_
    refine aj_iload_n C dX12_between_81 rfl ?_
    refine aj_sipush C dX12_between_82 (by decide) ?_
    obtain ⟨r0, h1, h2⟩ := h
    refine aj_icmp_ne (tgt := 96) C dX12_between_85 (by decide) r0 (by decide) (fun e => ?_) (fun e => ?_)
    · have h := h1 e
      refine aj_iload_n C dX12_between_96 rfl ?_
      refine aj_sipush C dX12_between_97 (by decide) ?_
      obtain ⟨r0, h1, h2⟩ := h
      refine aj_icmp_ne (tgt := 111) C dX12_between_100 (by decide) r0 (by decide) (fun e => ?_) (fun e => ?_)
      · have h := h1 e
        refine aj_iload_n C dX12_between_111 rfl ?_
        obtain ⟨r0, h⟩ := h
        refine aj_i2l C dX12_between_112 r0 ?_
        refine aj_iload_n C dX12_between_113 rfl ?_
        obtain ⟨r0, h⟩ := h
        refine aj_i2l C dX12_between_114 r0 ?_
        refine aj_lmul C dX12_between_115 ?_
        refine aj_wk (lv' := [none, none, none, none, none]) (trivial) ?_
        exact tX12_between_116 C K (v1 * v2) _  h
      · have h := h2 e
        refine aj_iload_n C dX12_between_103 rfl ?_
        obtain ⟨r0, h⟩ := h
        refine aj_i2l C dX12_between_104 r0 ?_
        refine aj_iload_n C dX12_between_105 rfl ?_
        obtain ⟨r0, h⟩ := h
        refine aj_i2l C dX12_between_106 r0 ?_
        refine aj_lsub C dX12_between_107 ?_
        refine aj_goto (tgt := 116) C dX12_between_108 (by decide) ?_
        refine aj_wk (lv' := [none, none, none, none, none]) (trivial) ?_
        exact tX12_between_116 C K (v1 - v2) _  h
    · have h := h2 e
      refine aj_iload_n C dX12_between_88 rfl ?_
      obtain ⟨r0, h⟩ := h
      refine aj_i2l C dX12_between_89 r0 ?_
      refine aj_iload_n C dX12_between_90 rfl ?_
      obtain ⟨r0, h⟩ := h
      refine aj_i2l C dX12_between_91 r0 ?_
      refine aj_ladd C dX12_between_92 ?_
      refine aj_goto (tgt := 116) C dX12_between_93 (by decide) ?_
      refine aj_wk (lv' := [none, none, none, none, none]) (trivial) ?_
      exact tX12_between_116 C K (v1 + v2) _  h
  · have h := hc0 e
    refine aj_tin (tgt := 40) (off := 39) C dX12_between_1 r0 (by omega) (by omega) (by rw [e]; rfl) (by decide) ?_
    refine aj_iload_n C dX12_between_40 rfl ?_
    refine aj_iload_n C dX12_between_41 rfl ?_
    obtain ⟨r0, r1, h1, h2⟩ := h
    refine aj_icmp_ne (tgt := 49) C dX12_between_42 (by decide) r0 r1 (fun e => ?_) (fun e => ?_)
    · have h := h1 e
      refine aj_iconst C dX12_between_49 ?_
      exact aj_iret C K dX12_between_50 ⟨_, rfl, h⟩
    · have h := h2 e
      refine aj_iconst C dX12_between_45 ?_
      refine aj_goto (tgt := 50) C dX12_between_46 (by decide) ?_
      exact aj_iret C K dX12_between_50 ⟨_, rfl, h⟩
  · have h := hc1 e
    refine aj_tin (tgt := 51) (off := 50) C dX12_between_1 r0 (by omega) (by omega) (by rw [e]; rfl) (by decide) ?_
    refine aj_iload_n C dX12_between_51 rfl ?_
    refine aj_iload_n C dX12_between_52 rfl ?_
    obtain ⟨r0, r1, h1, h2⟩ := h
    refine aj_icmp_ge (tgt := 60) C dX12_between_53 (by decide) r0 r1 (fun e => ?_) (fun e => ?_)
    · have h := h1 e
      refine aj_iconst C dX12_between_60 ?_
      exact aj_iret C K dX12_between_61 ⟨_, rfl, h⟩
    · have h := h2 e
      refine aj_iconst C dX12_between_56 ?_
      refine aj_goto (tgt := 61) C dX12_between_57 (by decide) ?_
      exact aj_iret C K dX12_between_61 ⟨_, rfl, h⟩
  · have h := hc2 e
    refine aj_tin (tgt := 62) (off := 61) C dX12_between_1 r0 (by omega) (by omega) (by rw [e]; rfl) (by decide) ?_
    refine aj_iload_n C dX12_between_62 rfl ?_
    refine aj_iload_n C dX12_between_63 rfl ?_
    obtain ⟨r0, r1, h1, h2⟩ := h
    refine aj_icmp_le (tgt := 71) C dX12_between_64 (by decide) r0 r1 (fun e => ?_) (fun e => ?_)
    · have h := h1 e
      refine aj_iconst C dX12_between_71 ?_
      exact aj_iret C K dX12_between_72 ⟨_, rfl, h⟩
    · have h := h2 e
      refine aj_iconst C dX12_between_67 ?_
      refine aj_goto (tgt := 72) C dX12_between_68 (by decide) ?_
      exact aj_iret C K dX12_between_72 ⟨_, rfl, h⟩
  · have h := hc3 e
    refine aj_tin (tgt := 81) (off := 80) C dX12_between_1 r0 (by omega) (by omega) (by rw [e]; rfl) (by decide) ?_
    refine aj_iload_n C dX12_between_81 rfl ?_
    refine aj_sipush C dX12_between_82 (by decide) ?_
    obtain ⟨r0, h1, h2⟩ := h
    refine aj_icmp_ne (tgt := 96) C dX12_between_85 (by decide) r0 (by decide) (fun e => ?_) (fun e => ?_)
    · have h := h1 e
      refine aj_iload_n C dX12_between_96 rfl ?_
      refine aj_sipush C dX12_between_97 (by decide) ?_
      obtain ⟨r0, h1, h2⟩ := h
      refine aj_icmp_ne (tgt := 111) C dX12_between_100 (by decide) r0 (by decide) (fun e => ?_) (fun e => ?_)
      · have h := h1 e
        refine aj_iload_n C dX12_between_111 rfl ?_
        obtain ⟨r0, h⟩ := h
        refine aj_i2l C dX12_between_112 r0 ?_
        refine aj_iload_n C dX12_between_113 rfl ?_
        obtain ⟨r0, h⟩ := h
        refine aj_i2l C dX12_between_114 r0 ?_
        refine aj_lmul C dX12_between_115 ?_
        refine aj_wk (lv' := [none, none, none, none, none]) (trivial) ?_
        exact tX12_between_116 C K (v1 * v2) _  h
      · have h := h2 e
        refine aj_iload_n C dX12_between_103 rfl ?_
        obtain ⟨r0, h⟩ := h
        refine aj_i2l C dX12_between_104 r0 ?_
        refine aj_iload_n C dX12_between_105 rfl ?_
        obtain ⟨r0, h⟩ := h
        refine aj_i2l C dX12_between_106 r0 ?_
        refine aj_lsub C dX12_between_107 ?_
        refine aj_goto (tgt := 116) C dX12_between_108 (by decide) ?_
        refine aj_wk (lv' := [none, none, none, none, none]) (trivial) ?_
        exact tX12_between_116 C K (v1 - v2) _  h
    · have h := h2 e
      refine aj_iload_n C dX12_between_88 rfl ?_
      obtain ⟨r0, h⟩ := h
      refine aj_i2l C dX12_between_89 r0 ?_
      refine aj_iload_n C dX12_between_90 rfl ?_
      obtain ⟨r0, h⟩ := h
      refine aj_i2l C dX12_between_91 r0 ?_
      refine aj_ladd C dX12_between_92 ?_
      refine aj_goto (tgt := 116) C dX12_between_93 (by decide) ?_
      refine aj_wk (lv' := [none, none, none, none, none]) (trivial) ?_
      exact tX12_between_116 C K (v1 + v2) _  h
  · have h := hc4 e
    refine aj_tin (tgt := 73) (off := 72) C dX12_between_1 r0 (by omega) (by omega) (by rw [e]; rfl) (by decide) ?_
    refine aj_iload_n C dX12_between_73 rfl ?_
    refine aj_iload_n C dX12_between_74 rfl ?_
    refine aj_iand C dX12_between_75 ?_
    exact aj_iret C K dX12_between_76 ⟨_, rfl, h⟩
  · have h := hc5 e
    refine aj_tin (tgt := 77) (off := 76) C dX12_between_1 r0 (by omega) (by omega) (by rw [e]; rfl) (by decide) ?_
    refine aj_iload_n C dX12_between_77 rfl ?_
    refine aj_iload_n C dX12_between_78 rfl ?_
    refine aj_ior C dX12_between_79 ?_
    exact aj_iret C K dX12_between_80 ⟨_, rfl, h⟩
