theorem dX4_value_0 : decode cX4_value 0 = .ok (.iconst 0, 1) := by decide +kernel
theorem dX4_value_1 : decode cX4_value 1 = .ok (.istore 7, 2) := by decide +kernel
theorem dX4_value_3 : decode cX4_value 3 = .ok (.iload_n 1, 1) := by decide +kernel
theorem dX4_value_4 : decode cX4_value 4 = .ok (.istore 8, 2) := by decide +kernel
theorem dX4_value_6 : decode cX4_value 6 = .ok (.iload 8, 2) := by decide +kernel
theorem dX4_value_8 : decode cX4_value 8 = .ok (.iload_n 2, 1) := by decide +kernel
theorem dX4_value_9 : decode cX4_value 9 = .ok (.if_icmp .ge 220, 3) := by decide +kernel
theorem dX4_value_12 : decode cX4_value 12 = .ok (.aload_n 0, 1) := by decide +kernel
theorem dX4_value_13 : decode cX4_value 13 = .ok (.getfield 9, 3) := by decide +kernel
theorem dX4_value_16 : decode cX4_value 16 = .ok (.iload 8, 2) := by decide +kernel
theorem dX4_value_18 : decode cX4_value 18 = .ok (.iaload, 1) := by decide +kernel
theorem dX4_value_19 : decode cX4_value 19 = .ok (.bipush 16, 2) := by decide +kernel
theorem dX4_value_21 : decode cX4_value 21 = .ok (.irem, 1) := by decide +kernel
theorem dX4_value_22 : decode cX4_value 22 = .ok (.istore 9, 2) := by decide +kernel
theorem dX4_value_24 : decode cX4_value 24 = .ok (.iload 9, 2) := by decide +kernel
theorem dX4_value_26 : decode cX4_value 26 = .ok (.iconst 5, 1) := by decide +kernel
theorem dX4_value_27 : decode cX4_value 27 = .ok (.if_icmp .gt 45, 3) := by decide +kernel
theorem dX4_value_30 : decode cX4_value 30 = .ok (.iload 7, 2) := by decide +kernel
theorem dX4_value_32 : decode cX4_value 32 = .ok (.bipush 64, 2) := by decide +kernel
theorem dX4_value_34 : decode cX4_value 34 = .ok (.if_icmp .ge 189, 3) := by decide +kernel
theorem dX4_value_37 : decode cX4_value 37 = .ok (.aload_n 0, 1) := by decide +kernel
theorem dX4_value_38 : decode cX4_value 38 = .ok (.getfield 31, 3) := by decide +kernel
theorem dX4_value_41 : decode cX4_value 41 = .ok (.iload 7, 2) := by decide +kernel
theorem dX4_value_43 : decode cX4_value 43 = .ok (.iload 9, 2) := by decide +kernel
theorem dX4_value_45 : decode cX4_value 45 = .ok (.aload_n 0, 1) := by decide +kernel
theorem dX4_value_46 : decode cX4_value 46 = .ok (.getfield 9, 3) := by decide +kernel
theorem dX4_value_49 : decode cX4_value 49 = .ok (.iload 8, 2) := by decide +kernel
theorem dX4_value_51 : decode cX4_value 51 = .ok (.iaload, 1) := by decide +kernel
theorem dX4_value_52 : decode cX4_value 52 = .ok (.bipush 16, 2) := by decide +kernel
theorem dX4_value_54 : decode cX4_value 54 = .ok (.idiv, 1) := by decide +kernel
theorem dX4_value_55 : decode cX4_value 55 = .ok (.aload_n 3, 1) := by decide +kernel
theorem dX4_value_56 : decode cX4_value 56 = .ok (.iload 4, 2) := by decide +kernel
theorem dX4_value_58 : decode cX4_value 58 = .ok (.iload 5, 2) := by decide +kernel
theorem dX4_value_60 : decode cX4_value 60 = .ok (.iload 6, 2) := by decide +kernel
theorem dX4_value_62 : decode cX4_value 62 = .ok (.invokestatic 40, 3) := by decide +kernel
theorem dX4_value_65 : decode cX4_value 65 = .ok (.iastore, 1) := by decide +kernel
theorem dX4_value_66 : decode cX4_value 66 = .ok (.iinc 7 1, 3) := by decide +kernel
theorem dX4_value_69 : decode cX4_value 69 = .ok (.goto 154, 3) := by decide +kernel
theorem dX4_value_72 : decode cX4_value 72 = .ok (.iload 9, 2) := by decide +kernel
theorem dX4_value_74 : decode cX4_value 74 = .ok (.bipush 12, 2) := by decide +kernel
theorem dX4_value_76 : decode cX4_value 76 = .ok (.if_icmp .ne 32, 3) := by decide +kernel
theorem dX4_value_79 : decode cX4_value 79 = .ok (.iload 7, 2) := by decide +kernel
theorem dX4_value_81 : decode cX4_value 81 = .ok (.iconst 1, 1) := by decide +kernel
theorem dX4_value_82 : decode cX4_value 82 = .ok (.if_icmp .lt 141, 3) := by decide +kernel
theorem dX4_value_85 : decode cX4_value 85 = .ok (.aload_n 0, 1) := by decide +kernel
theorem dX4_value_86 : decode cX4_value 86 = .ok (.getfield 31, 3) := by decide +kernel
theorem dX4_value_89 : decode cX4_value 89 = .ok (.iload 7, 2) := by decide +kernel
theorem dX4_value_91 : decode cX4_value 91 = .ok (.iconst 1, 1) := by decide +kernel
theorem dX4_value_92 : decode cX4_value 92 = .ok (.isub, 1) := by decide +kernel
theorem dX4_value_93 : decode cX4_value 93 = .ok (.iconst 1, 1) := by decide +kernel
theorem dX4_value_94 : decode cX4_value 94 = .ok (.aload_n 0, 1) := by decide +kernel
theorem dX4_value_95 : decode cX4_value 95 = .ok (.getfield 31, 3) := by decide +kernel
theorem dX4_value_98 : decode cX4_value 98 = .ok (.iload 7, 2) := by decide +kernel
theorem dX4_value_100 : decode cX4_value 100 = .ok (.iconst 1, 1) := by decide +kernel
theorem dX4_value_101 : decode cX4_value 101 = .ok (.isub, 1) := by decide +kernel
theorem dX4_value_102 : decode cX4_value 102 = .ok (.iaload, 1) := by decide +kernel
theorem dX4_value_103 : decode cX4_value 103 = .ok (.isub, 1) := by decide +kernel
theorem dX4_value_104 : decode cX4_value 104 = .ok (.iastore, 1) := by decide +kernel
theorem dX4_value_105 : decode cX4_value 105 = .ok (.goto 118, 3) := by decide +kernel
theorem dX4_value_108 : decode cX4_value 108 = .ok (.iload 9, 2) := by decide +kernel
theorem dX4_value_110 : decode cX4_value 110 = .ok (.bipush 15, 2) := by decide +kernel
theorem dX4_value_112 : decode cX4_value 112 = .ok (.if_icmp .ne 55, 3) := by decide +kernel
theorem dX4_value_115 : decode cX4_value 115 = .ok (.iload 7, 2) := by decide +kernel
theorem dX4_value_117 : decode cX4_value 117 = .ok (.iconst 3, 1) := by decide +kernel
theorem dX4_value_118 : decode cX4_value 118 = .ok (.if_icmp .lt 105, 3) := by decide +kernel
theorem dX4_value_121 : decode cX4_value 121 = .ok (.iinc 7 (-2), 3) := by decide +kernel
theorem dX4_value_124 : decode cX4_value 124 = .ok (.aload_n 0, 1) := by decide +kernel
theorem dX4_value_125 : decode cX4_value 125 = .ok (.getfield 31, 3) := by decide +kernel
theorem dX4_value_128 : decode cX4_value 128 = .ok (.iload 7, 2) := by decide +kernel
theorem dX4_value_130 : decode cX4_value 130 = .ok (.iconst 1, 1) := by decide +kernel
theorem dX4_value_131 : decode cX4_value 131 = .ok (.isub, 1) := by decide +kernel
theorem dX4_value_132 : decode cX4_value 132 = .ok (.aload_n 0, 1) := by decide +kernel
theorem dX4_value_133 : decode cX4_value 133 = .ok (.getfield 31, 3) := by decide +kernel
theorem dX4_value_136 : decode cX4_value 136 = .ok (.iload 7, 2) := by decide +kernel
theorem dX4_value_138 : decode cX4_value 138 = .ok (.iconst 1, 1) := by decide +kernel
theorem dX4_value_139 : decode cX4_value 139 = .ok (.isub, 1) := by decide +kernel
theorem dX4_value_140 : decode cX4_value 140 = .ok (.iaload, 1) := by decide +kernel
theorem dX4_value_141 : decode cX4_value 141 = .ok (.ifCond .eq 13, 3) := by decide +kernel
theorem dX4_value_144 : decode cX4_value 144 = .ok (.aload_n 0, 1) := by decide +kernel
theorem dX4_value_145 : decode cX4_value 145 = .ok (.getfield 31, 3) := by decide +kernel
theorem dX4_value_148 : decode cX4_value 148 = .ok (.iload 7, 2) := by decide +kernel
theorem dX4_value_150 : decode cX4_value 150 = .ok (.iaload, 1) := by decide +kernel
theorem dX4_value_151 : decode cX4_value 151 = .ok (.goto 12, 3) := by decide +kernel
theorem dX4_value_154 : decode cX4_value 154 = .ok (.aload_n 0, 1) := by decide +kernel
theorem dX4_value_155 : decode cX4_value 155 = .ok (.getfield 31, 3) := by decide +kernel
theorem dX4_value_158 : decode cX4_value 158 = .ok (.iload 7, 2) := by decide +kernel
theorem dX4_value_160 : decode cX4_value 160 = .ok (.iconst 1, 1) := by decide +kernel
theorem dX4_value_161 : decode cX4_value 161 = .ok (.iadd, 1) := by decide +kernel
theorem dX4_value_162 : decode cX4_value 162 = .ok (.iaload, 1) := by decide +kernel
theorem dX4_value_163 : decode cX4_value 163 = .ok (.iastore, 1) := by decide +kernel
theorem dX4_value_164 : decode cX4_value 164 = .ok (.goto 59, 3) := by decide +kernel
theorem dX4_value_167 : decode cX4_value 167 = .ok (.iload 7, 2) := by decide +kernel
theorem dX4_value_169 : decode cX4_value 169 = .ok (.iconst 2, 1) := by decide +kernel
theorem dX4_value_170 : decode cX4_value 170 = .ok (.if_icmp .lt 53, 3) := by decide +kernel
theorem dX4_value_173 : decode cX4_value 173 = .ok (.iinc 7 (-1), 3) := by decide +kernel
theorem dX4_value_176 : decode cX4_value 176 = .ok (.iload 9, 2) := by decide +kernel
theorem dX4_value_178 : decode cX4_value 178 = .ok (.aload_n 0, 1) := by decide +kernel
theorem dX4_value_179 : decode cX4_value 179 = .ok (.getfield 31, 3) := by decide +kernel
theorem dX4_value_182 : decode cX4_value 182 = .ok (.iload 7, 2) := by decide +kernel
theorem dX4_value_184 : decode cX4_value 184 = .ok (.iconst 1, 1) := by decide +kernel
theorem dX4_value_185 : decode cX4_value 185 = .ok (.isub, 1) := by decide +kernel
theorem dX4_value_186 : decode cX4_value 186 = .ok (.iaload, 1) := by decide +kernel
theorem dX4_value_187 : decode cX4_value 187 = .ok (.aload_n 0, 1) := by decide +kernel
theorem dX4_value_188 : decode cX4_value 188 = .ok (.getfield 31, 3) := by decide +kernel
theorem dX4_value_191 : decode cX4_value 191 = .ok (.iload 7, 2) := by decide +kernel
theorem dX4_value_193 : decode cX4_value 193 = .ok (.iaload, 1) := by decide +kernel
theorem dX4_value_194 : decode cX4_value 194 = .ok (.invokestatic 44, 3) := by decide +kernel
theorem dX4_value_197 : decode cX4_value 197 = .ok (.lstore 10, 2) := by decide +kernel
theorem dX4_value_199 : decode cX4_value 199 = .ok (.aload_n 0, 1) := by decide +kernel
theorem dX4_value_200 : decode cX4_value 200 = .ok (.getfield 31, 3) := by decide +kernel
theorem dX4_value_203 : decode cX4_value 203 = .ok (.iload 7, 2) := by decide +kernel
theorem dX4_value_205 : decode cX4_value 205 = .ok (.iconst 1, 1) := by decide +kernel
theorem dX4_value_206 : decode cX4_value 206 = .ok (.isub, 1) := by decide +kernel
theorem dX4_value_207 : decode cX4_value 207 = .ok (.ldc2_w 48, 3) := by decide +kernel
theorem dX4_value_210 : decode cX4_value 210 = .ok (.ldc2_w 50, 3) := by decide +kernel
theorem dX4_value_213 : decode cX4_value 213 = .ok (.lload 10, 2) := by decide +kernel
theorem dX4_value_215 : decode cX4_value 215 = .ok (.invokestatic 52, 3) := by decide +kernel
theorem dX4_value_218 : decode cX4_value 218 = .ok (.invokestatic 58, 3) := by decide +kernel
theorem dX4_value_221 : decode cX4_value 221 = .ok (.l2i, 1) := by decide +kernel
theorem dX4_value_222 : decode cX4_value 222 = .ok (.iastore, 1) := by decide +kernel
theorem dX4_value_223 : decode cX4_value 223 = .ok (.iinc 8 1, 3) := by decide +kernel
theorem dX4_value_226 : decode cX4_value 226 = .ok (.goto (-220), 3) := by decide +kernel
theorem dX4_value_229 : decode cX4_value 229 = .ok (.iload 7, 2) := by decide +kernel
theorem dX4_value_231 : decode cX4_value 231 = .ok (.ifCond .le 15, 3) := by decide +kernel
theorem dX4_value_234 : decode cX4_value 234 = .ok (.aload_n 0, 1) := by decide +kernel
theorem dX4_value_235 : decode cX4_value 235 = .ok (.getfield 31, 3) := by decide +kernel
theorem dX4_value_238 : decode cX4_value 238 = .ok (.iload 7, 2) := by decide +kernel
theorem dX4_value_240 : decode cX4_value 240 = .ok (.iconst 1, 1) := by decide +kernel
theorem dX4_value_241 : decode cX4_value 241 = .ok (.isub, 1) := by decide +kernel
theorem dX4_value_242 : decode cX4_value 242 = .ok (.iaload, 1) := by decide +kernel
theorem dX4_value_243 : decode cX4_value 243 = .ok (.goto 4, 3) := by decide +kernel
theorem dX4_value_246 : decode cX4_value 246 = .ok (.iconst 0, 1) := by decide +kernel
theorem dX4_value_247 : decode cX4_value 247 = .ok (.ireturn, 1) := by decide +kernel
def hX4_value_6 (f : Nat) (Φ : Int → aj_M → Prop) : Nat → List Nat → Int → List Nat → Int → Int → Int → Int → Int → aj_M → Prop
  | 0, _, _, _, _, _, _, _, _, _ => False
  | k + 1, q0, v2, q3, v4, v5, v6, v7, v8, m => rI v8 ∧ rI v2 ∧ (v2 ≤ v8 → rI v7 ∧ (v7 ≤ 0 → Φ 0 m) ∧ (¬ (v7 ≤ 0) → (0 ≤ (v7 - 1) ∧ (v7 - 1) < 64) ∧ Φ (m (6 :: q0) (v7 - 1).toNat) m)) ∧ (¬ (v2 ≤ v8) → (0 ≤ v8 ∧ v8 < 900) ∧ (0 ≤ (m (0 :: q0) v8.toNat) ∧ (m (0 :: q0) v8.toNat) < 2147483648) ∧ rI ((m (0 :: q0) v8.toNat) % 16) ∧ (5 < ((m (0 :: q0) v8.toNat) % 16) → rI ((m (0 :: q0) v8.toNat) % 16) ∧ (¬ ((m (0 :: q0) v8.toNat) % 16) = 12 → rI ((m (0 :: q0) v8.toNat) % 16) ∧ (¬ ((m (0 :: q0) v8.toNat) % 16) = 15 → rI v7 ∧ (v7 < 2 → hX4_value_6 f Φ k q0 v2 q3 v4 v5 v6 v7 (v8 + 1) m) ∧ (¬ (v7 < 2) → (0 ≤ ((v7 + (-1)) - 1) ∧ ((v7 + (-1)) - 1) < 64) ∧ (0 ≤ (v7 + (-1)) ∧ (v7 + (-1)) < 64) ∧ wX4_joined f (fun z1 m1 => rL z1 ∧ rL (min 1000000 z1) ∧ (0 ≤ ((v7 + (-1)) - 1) ∧ ((v7 + (-1)) - 1) < 64) ∧ ∀ m2, m2 = aj_u m1 (6 :: q0) ((v7 + (-1)) - 1).toNat (max (-1000000) (min 1000000 z1)) → hX4_value_6 f Φ k q0 v2 q3 v4 v5 v6 (v7 + (-1)) (v8 + 1) m2) ((m (0 :: q0) v8.toNat) % 16) (m (6 :: q0) ((v7 + (-1)) - 1).toNat) (m (6 :: q0) (v7 + (-1)).toNat) m)) ∧ (((m (0 :: q0) v8.toNat) % 16) = 15 → rI v7 ∧ (v7 < 3 → hX4_value_6 f Φ k q0 v2 q3 v4 v5 v6 v7 (v8 + 1) m) ∧ (¬ (v7 < 3) → (0 ≤ ((v7 + (-2)) - 1) ∧ ((v7 + (-2)) - 1) < 64) ∧ rI (m (6 :: q0) ((v7 + (-2)) - 1).toNat) ∧ ((m (6 :: q0) ((v7 + (-2)) - 1).toNat) = 0 → (0 ≤ ((v7 + (-2)) + 1) ∧ ((v7 + (-2)) + 1) < 64) ∧ (0 ≤ ((v7 + (-2)) - 1) ∧ ((v7 + (-2)) - 1) < 64) ∧ ∀ m3, m3 = aj_u m (6 :: q0) ((v7 + (-2)) - 1).toNat (m (6 :: q0) ((v7 + (-2)) + 1).toNat) → hX4_value_6 f Φ k q0 v2 q3 v4 v5 v6 (v7 + (-2)) (v8 + 1) m3) ∧ (¬ ((m (6 :: q0) ((v7 + (-2)) - 1).toNat) = 0) → (0 ≤ (v7 + (-2)) ∧ (v7 + (-2)) < 64) ∧ (0 ≤ ((v7 + (-2)) - 1) ∧ ((v7 + (-2)) - 1) < 64) ∧ ∀ m4, m4 = aj_u m (6 :: q0) ((v7 + (-2)) - 1).toNat (m (6 :: q0) (v7 + (-2)).toNat) → hX4_value_6 f Φ k q0 v2 q3 v4 v5 v6 (v7 + (-2)) (v8 + 1) m4)))) ∧ (((m (0 :: q0) v8.toNat) % 16) = 12 → rI v7 ∧ (v7 < 1 → hX4_value_6 f Φ k q0 v2 q3 v4 v5 v6 v7 (v8 + 1) m) ∧ (¬ (v7 < 1) → (0 ≤ (v7 - 1) ∧ (v7 - 1) < 64) ∧ (0 ≤ (v7 - 1) ∧ (v7 - 1) < 64) ∧ ∀ m5, m5 = aj_u m (6 :: q0) (v7 - 1).toNat (1 - (m (6 :: q0) (v7 - 1).toNat)) → hX4_value_6 f Φ k q0 v2 q3 v4 v5 v6 v7 (v8 + 1) m5))) ∧ (¬ (5 < ((m (0 :: q0) v8.toNat) % 16)) → rI v7 ∧ (64 ≤ v7 → hX4_value_6 f Φ k q0 v2 q3 v4 v5 v6 v7 (v8 + 1) m) ∧ (¬ (64 ≤ v7) → (0 ≤ v8 ∧ v8 < 900) ∧ (0 ≤ (m (0 :: q0) v8.toNat) ∧ (m (0 :: q0) v8.toNat) < 2147483648) ∧ wX4_atom f (fun z2 m6 => (0 ≤ v7 ∧ v7 < 64) ∧ ∀ m7, m7 = aj_u m6 (6 :: q0) v7.toNat z2 → hX4_value_6 f Φ k q0 v2 q3 v4 v5 v6 (v7 + 1) (v8 + 1) m7) ((m (0 :: q0) v8.toNat) % 16) ((m (0 :: q0) v8.toNat) / 16) q3 v4 v5 v6 m)))
set_option maxHeartbeats 4000000 in
set_option maxRecDepth 100000 in
theorem tX4_value_6 {X : aj_T} {n f : Nat} {Φ : Int → aj_M → Prop} (C : aj_Cx X cX4_value RX4 12 (n + 1)) (K : aj_Rt X (some .int) (fun r m => ∃ z, r = some (vI z) ∧ Φ z m)) : ∀ (k : Nat) (q0 : List Nat) (v2 : Int) (q3 : List Nat) (v4 : Int) (v5 : Int) (v6 : Int) (v7 : Int) (v8 : Int) (m : aj_M) (hq0 : (.inl (4, q0) : aj_R) ∈ aj_pls) (hq3 : (.inl (6, q3) : aj_R) ∈ aj_pls), hX4_value_6 f Φ k q0 v2 q3 v4 v5 v6 v7 v8 m → aj_J X 6 [some (vO 4 q0), none, some (vI v2), some (vO 6 q3), some (vI v4), some (vI v5), some (vI v6), some (vI v7), some (vI v8), none, none, none] [] m := by
  intro k
  induction k with
  | zero =>
    intro q0 v2 q3 v4 v5 v6 v7 v8 m _ _ h
    exact h.elim
  | succ k ih =>
    intro q0 v2 q3 v4 v5 v6 v7 v8 m hq0 hq3 h
    unfold hX4_value_6 at h
    refine aj_iload C dX4_value_6 rfl ?_
    refine aj_iload_n C dX4_value_8 rfl ?_
    obtain ⟨r0, r1, h1, h2⟩ := h
    refine aj_icmp_ge (tgt := 229) C dX4_value_9 (by decide) r0 r1 (fun e => ?_) (fun e => ?_)
    · have h := h1 e
      refine aj_iload C dX4_value_229 rfl ?_
      obtain ⟨r0, h1, h2⟩ := h
      refine aj_if_le (tgt := 246) C dX4_value_231 (by decide) r0 (fun e => ?_) (fun e => ?_)
      · have h := h1 e
        refine aj_iconst C dX4_value_246 ?_
        exact aj_iret C K dX4_value_247 ⟨_, rfl, h⟩
      · have h := h2 e
        refine aj_aload_n C dX4_value_234 rfl ?_
        refine aj_getA (x := 0) (y := 64) C flX4_31 hq0 rfl dX4_value_235 ?_
        refine aj_iload C dX4_value_238 rfl ?_
        refine aj_iconst C dX4_value_240 ?_
        refine aj_isub C dX4_value_241 ?_
        obtain ⟨r0, h⟩ := h
        refine aj_iald C (aj_ca (e := 0) (n := 64) (j := 6) hq0 (by decide) rfl) (by decide) r0 dX4_value_242 rfl ?_
        refine aj_goto (tgt := 247) C dX4_value_243 (by decide) ?_
        exact aj_iret C K dX4_value_247 ⟨_, rfl, h⟩
    · have h := h2 e
      refine aj_aload_n C dX4_value_12 rfl ?_
      refine aj_getA (x := 0) (y := 900) C flX4_9 hq0 rfl dX4_value_13 ?_
      refine aj_iload C dX4_value_16 rfl ?_
      obtain ⟨r0, h⟩ := h
      refine aj_iald C (aj_ca (e := 0) (n := 900) (j := 0) hq0 (by decide) rfl) (by decide) r0 dX4_value_18 rfl ?_
      refine aj_bipush C dX4_value_19 (by decide) ?_
      obtain ⟨r0, h⟩ := h
      refine aj_iremN C dX4_value_21 r0 (by decide) ?_
      refine aj_istore (lv' := [some (vO 4 q0), none, some (vI v2), some (vO 6 q3), some (vI v4), some (vI v5), some (vI v6), some (vI v7), some (vI v8), some (vI ((m (0 :: q0) v8.toNat) % 16)), none, none]) C dX4_value_22 (by decide) rfl ?_
      refine aj_iload C dX4_value_24 rfl ?_
      refine aj_iconst C dX4_value_26 ?_
      obtain ⟨r0, h1, h2⟩ := h
      refine aj_icmp_gt (tgt := 72) C dX4_value_27 (by decide) r0 (by decide) (fun e => ?_) (fun e => ?_)
      · have h := h1 e
        refine aj_iload C dX4_value_72 rfl ?_
        refine aj_bipush C dX4_value_74 (by decide) ?_
        obtain ⟨r0, h1, h2⟩ := h
        refine aj_icmp_ne (tgt := 108) C dX4_value_76 (by decide) r0 (by decide) (fun e => ?_) (fun e => ?_)
        · have h := h1 e
          refine aj_iload C dX4_value_108 rfl ?_
          refine aj_bipush C dX4_value_110 (by decide) ?_
          obtain ⟨r0, h1, h2⟩ := h
          refine aj_icmp_ne (tgt := 167) C dX4_value_112 (by decide) r0 (by decide) (fun e => ?_) (fun e => ?_)
          · have h := h1 e
            refine aj_iload C dX4_value_167 rfl ?_
            refine aj_iconst C dX4_value_169 ?_
            obtain ⟨r0, h1, h2⟩ := h
            refine aj_icmp_lt (tgt := 223) C dX4_value_170 (by decide) r0 (by decide) (fun e => ?_) (fun e => ?_)
            · have h := h1 e
              refine aj_iinc (lv' := [some (vO 4 q0), none, some (vI v2), some (vO 6 q3), some (vI v4), some (vI v5), some (vI v6), some (vI v7), some (vI (v8 + 1)), some (vI ((m (0 :: q0) v8.toNat) % 16)), none, none]) C dX4_value_223 rfl (by decide) rfl ?_
              refine aj_goto (tgt := 6) C dX4_value_226 (by decide) ?_
              refine aj_wk (lv' := [some (vO 4 q0), none, some (vI v2), some (vO 6 q3), some (vI v4), some (vI v5), some (vI v6), some (vI v7), some (vI (v8 + 1)), none, none, none]) (⟨rfl, ⟨rfl, ⟨rfl, ⟨rfl, ⟨rfl, ⟨rfl, ⟨rfl, ⟨rfl, trivial⟩⟩⟩⟩⟩⟩⟩⟩) ?_
              exact ih q0 v2 q3 v4 v5 v6 v7 (v8 + 1) _ hq0 hq3 h
            · have h := h2 e
              refine aj_iinc (lv' := [some (vO 4 q0), none, some (vI v2), some (vO 6 q3), some (vI v4), some (vI v5), some (vI v6), some (vI (v7 + (-1))), some (vI v8), some (vI ((m (0 :: q0) v8.toNat) % 16)), none, none]) C dX4_value_173 rfl (by decide) rfl ?_
              refine aj_iload C dX4_value_176 rfl ?_
              refine aj_aload_n C dX4_value_178 rfl ?_
              refine aj_getA (x := 0) (y := 64) C flX4_31 hq0 rfl dX4_value_179 ?_
              refine aj_iload C dX4_value_182 rfl ?_
              refine aj_iconst C dX4_value_184 ?_
              refine aj_isub C dX4_value_185 ?_
              obtain ⟨r0, h⟩ := h
              refine aj_iald C (aj_ca (e := 0) (n := 64) (j := 6) hq0 (by decide) rfl) (by decide) r0 dX4_value_186 rfl ?_
              refine aj_aload_n C dX4_value_187 rfl ?_
              refine aj_getA (x := 0) (y := 64) C flX4_31 hq0 rfl dX4_value_188 ?_
              refine aj_iload C dX4_value_191 rfl ?_
              obtain ⟨r0, h⟩ := h
              refine aj_iald C (aj_ca (e := 0) (n := 64) (j := 6) hq0 (by decide) rfl) (by decide) r0 dX4_value_193 rfl ?_
              refine aj_callS (rest := []) C msX4_44 (sX4_joined  h) (aj_np 3 (by decide +kernel) rfl) (Nat.le_of_ble_eq_true rfl) rfl dX4_value_194 (fun r m1 h => ?_)
              obtain ⟨z1, rfl, h⟩ := h
              refine aj_lstore (lv' := [some (vO 4 q0), none, some (vI v2), some (vO 6 q3), some (vI v4), some (vI v5), some (vI v6), some (vI (v7 + (-1))), some (vI v8), some (vI ((m (0 :: q0) v8.toNat) % 16)), some (vL z1), none]) C dX4_value_197 (by decide) rfl ?_
              refine aj_aload_n C dX4_value_199 rfl ?_
              refine aj_getA (x := 0) (y := 64) C flX4_31 hq0 rfl dX4_value_200 ?_
              refine aj_iload C dX4_value_203 rfl ?_
              refine aj_iconst C dX4_value_205 ?_
              refine aj_isub C dX4_value_206 ?_
              refine aj_ldc2 (z := (-1000000)) C (aj_mem 1039 (by decide +kernel) (by decide +kernel)) rfl dX4_value_207 ?_
              refine aj_ldc2 (z := 1000000) C (aj_mem 1040 (by decide +kernel) (by decide +kernel)) rfl dX4_value_210 ?_
              refine aj_lload C dX4_value_213 rfl ?_
              obtain ⟨r1, h⟩ := h
              refine aj_mminL C msX4_52 (Nat.le_of_ble_eq_true rfl) (by decide) r1 dX4_value_215 ?_
              obtain ⟨r1, h⟩ := h
              refine aj_mmaxL C msX4_58 (Nat.le_of_ble_eq_true rfl) (by decide) r1 dX4_value_218 ?_
              refine aj_l2i C dX4_value_221 ?_
              obtain ⟨r0, h⟩ := h
              refine aj_iast C (aj_ca (e := 0) (n := 64) (j := 6) hq0 (by decide) rfl) (by decide) r0 dX4_value_222 ?_
              refine aj_nm (fun m2 e1 => ?_)
              have h := h m2 e1
              refine aj_iinc (lv' := [some (vO 4 q0), none, some (vI v2), some (vO 6 q3), some (vI v4), some (vI v5), some (vI v6), some (vI (v7 + (-1))), some (vI (v8 + 1)), some (vI ((m (0 :: q0) v8.toNat) % 16)), some (vL z1), none]) C dX4_value_223 rfl (by decide) rfl ?_
              refine aj_goto (tgt := 6) C dX4_value_226 (by decide) ?_
              refine aj_wk (lv' := [some (vO 4 q0), none, some (vI v2), some (vO 6 q3), some (vI v4), some (vI v5), some (vI v6), some (vI (v7 + (-1))), some (vI (v8 + 1)), none, none, none]) (⟨rfl, ⟨rfl, ⟨rfl, ⟨rfl, ⟨rfl, ⟨rfl, ⟨rfl, ⟨rfl, trivial⟩⟩⟩⟩⟩⟩⟩⟩) ?_
              exact ih q0 v2 q3 v4 v5 v6 (v7 + (-1)) (v8 + 1) _ hq0 hq3 h
          · have h := h2 e
            refine aj_iload C dX4_value_115 rfl ?_
            refine aj_iconst C dX4_value_117 ?_
            obtain ⟨r0, h1, h2⟩ := h
            refine aj_icmp_lt (tgt := 223) C dX4_value_118 (by decide) r0 (by decide) (fun e => ?_) (fun e => ?_)
            · have h := h1 e
              refine aj_iinc (lv' := [some (vO 4 q0), none, some (vI v2), some (vO 6 q3), some (vI v4), some (vI v5), some (vI v6), some (vI v7), some (vI (v8 + 1)), some (vI ((m (0 :: q0) v8.toNat) % 16)), none, none]) C dX4_value_223 rfl (by decide) rfl ?_
              refine aj_goto (tgt := 6) C dX4_value_226 (by decide) ?_
              refine aj_wk (lv' := [some (vO 4 q0), none, some (vI v2), some (vO 6 q3), some (vI v4), some (vI v5), some (vI v6), some (vI v7), some (vI (v8 + 1)), none, none, none]) (⟨rfl, ⟨rfl, ⟨rfl, ⟨rfl, ⟨rfl, ⟨rfl, ⟨rfl, ⟨rfl, trivial⟩⟩⟩⟩⟩⟩⟩⟩) ?_
              exact ih q0 v2 q3 v4 v5 v6 v7 (v8 + 1) _ hq0 hq3 h
            · have h := h2 e
              refine aj_iinc (lv' := [some (vO 4 q0), none, some (vI v2), some (vO 6 q3), some (vI v4), some (vI v5), some (vI v6), some (vI (v7 + (-2))), some (vI v8), some (vI ((m (0 :: q0) v8.toNat) % 16)), none, none]) C dX4_value_121 rfl (by decide) rfl ?_
              refine aj_aload_n C dX4_value_124 rfl ?_
              refine aj_getA (x := 0) (y := 64) C flX4_31 hq0 rfl dX4_value_125 ?_
              refine aj_iload C dX4_value_128 rfl ?_
              refine aj_iconst C dX4_value_130 ?_
              refine aj_isub C dX4_value_131 ?_
              refine aj_aload_n C dX4_value_132 rfl ?_
              refine aj_getA (x := 0) (y := 64) C flX4_31 hq0 rfl dX4_value_133 ?_
              refine aj_iload C dX4_value_136 rfl ?_
              refine aj_iconst C dX4_value_138 ?_
              refine aj_isub C dX4_value_139 ?_
              obtain ⟨r0, h⟩ := h
              refine aj_iald C (aj_ca (e := 0) (n := 64) (j := 6) hq0 (by decide) rfl) (by decide) r0 dX4_value_140 rfl ?_
              obtain ⟨r0, h1, h2⟩ := h
              refine aj_if_eq (tgt := 154) C dX4_value_141 (by decide) r0 (fun e => ?_) (fun e => ?_)
              · have h := h1 e
                refine aj_aload_n C dX4_value_154 rfl ?_
                refine aj_getA (x := 0) (y := 64) C flX4_31 hq0 rfl dX4_value_155 ?_
                refine aj_iload C dX4_value_158 rfl ?_
                refine aj_iconst C dX4_value_160 ?_
                refine aj_iadd C dX4_value_161 ?_
                obtain ⟨r0, h⟩ := h
                refine aj_iald C (aj_ca (e := 0) (n := 64) (j := 6) hq0 (by decide) rfl) (by decide) r0 dX4_value_162 rfl ?_
                obtain ⟨r0, h⟩ := h
                refine aj_iast C (aj_ca (e := 0) (n := 64) (j := 6) hq0 (by decide) rfl) (by decide) r0 dX4_value_163 ?_
                refine aj_nm (fun m3 e1 => ?_)
                have h := h m3 e1
                refine aj_goto (tgt := 223) C dX4_value_164 (by decide) ?_
                refine aj_iinc (lv' := [some (vO 4 q0), none, some (vI v2), some (vO 6 q3), some (vI v4), some (vI v5), some (vI v6), some (vI (v7 + (-2))), some (vI (v8 + 1)), some (vI ((m (0 :: q0) v8.toNat) % 16)), none, none]) C dX4_value_223 rfl (by decide) rfl ?_
                refine aj_goto (tgt := 6) C dX4_value_226 (by decide) ?_
                refine aj_wk (lv' := [some (vO 4 q0), none, some (vI v2), some (vO 6 q3), some (vI v4), some (vI v5), some (vI v6), some (vI (v7 + (-2))), some (vI (v8 + 1)), none, none, none]) (⟨rfl, ⟨rfl, ⟨rfl, ⟨rfl, ⟨rfl, ⟨rfl, ⟨rfl, ⟨rfl, trivial⟩⟩⟩⟩⟩⟩⟩⟩) ?_
                exact ih q0 v2 q3 v4 v5 v6 (v7 + (-2)) (v8 + 1) _ hq0 hq3 h
              · have h := h2 e
                refine aj_aload_n C dX4_value_144 rfl ?_
                refine aj_getA (x := 0) (y := 64) C flX4_31 hq0 rfl dX4_value_145 ?_
                refine aj_iload C dX4_value_148 rfl ?_
                obtain ⟨r0, h⟩ := h
                refine aj_iald C (aj_ca (e := 0) (n := 64) (j := 6) hq0 (by decide) rfl) (by decide) r0 dX4_value_150 rfl ?_
                refine aj_goto (tgt := 163) C dX4_value_151 (by decide) ?_
                obtain ⟨r0, h⟩ := h
                refine aj_iast C (aj_ca (e := 0) (n := 64) (j := 6) hq0 (by decide) rfl) (by decide) r0 dX4_value_163 ?_
                refine aj_nm (fun m4 e1 => ?_)
                have h := h m4 e1
                refine aj_goto (tgt := 223) C dX4_value_164 (by decide) ?_
                refine aj_iinc (lv' := [some (vO 4 q0), none, some (vI v2), some (vO 6 q3), some (vI v4), some (vI v5), some (vI v6), some (vI (v7 + (-2))), some (vI (v8 + 1)), some (vI ((m (0 :: q0) v8.toNat) % 16)), none, none]) C dX4_value_223 rfl (by decide) rfl ?_
                refine aj_goto (tgt := 6) C dX4_value_226 (by decide) ?_
                refine aj_wk (lv' := [some (vO 4 q0), none, some (vI v2), some (vO 6 q3), some (vI v4), some (vI v5), some (vI v6), some (vI (v7 + (-2))), some (vI (v8 + 1)), none, none, none]) (⟨rfl, ⟨rfl, ⟨rfl, ⟨rfl, ⟨rfl, ⟨rfl, ⟨rfl, ⟨rfl, trivial⟩⟩⟩⟩⟩⟩⟩⟩) ?_
                exact ih q0 v2 q3 v4 v5 v6 (v7 + (-2)) (v8 + 1) _ hq0 hq3 h
        · have h := h2 e
          refine aj_iload C dX4_value_79 rfl ?_
          refine aj_iconst C dX4_value_81 ?_
          obtain ⟨r0, h1, h2⟩ := h
          refine aj_icmp_lt (tgt := 223) C dX4_value_82 (by decide) r0 (by decide) (fun e => ?_) (fun e => ?_)
          · have h := h1 e
            refine aj_iinc (lv' := [some (vO 4 q0), none, some (vI v2), some (vO 6 q3), some (vI v4), some (vI v5), some (vI v6), some (vI v7), some (vI (v8 + 1)), some (vI ((m (0 :: q0) v8.toNat) % 16)), none, none]) C dX4_value_223 rfl (by decide) rfl ?_
            refine aj_goto (tgt := 6) C dX4_value_226 (by decide) ?_
            refine aj_wk (lv' := [some (vO 4 q0), none, some (vI v2), some (vO 6 q3), some (vI v4), some (vI v5), some (vI v6), some (vI v7), some (vI (v8 + 1)), none, none, none]) (⟨rfl, ⟨rfl, ⟨rfl, ⟨rfl, ⟨rfl, ⟨rfl, ⟨rfl, ⟨rfl, trivial⟩⟩⟩⟩⟩⟩⟩⟩) ?_
            exact ih q0 v2 q3 v4 v5 v6 v7 (v8 + 1) _ hq0 hq3 h
          · have h := h2 e
            refine aj_aload_n C dX4_value_85 rfl ?_
            refine aj_getA (x := 0) (y := 64) C flX4_31 hq0 rfl dX4_value_86 ?_
            refine aj_iload C dX4_value_89 rfl ?_
            refine aj_iconst C dX4_value_91 ?_
            refine aj_isub C dX4_value_92 ?_
            refine aj_iconst C dX4_value_93 ?_
            refine aj_aload_n C dX4_value_94 rfl ?_
            refine aj_getA (x := 0) (y := 64) C flX4_31 hq0 rfl dX4_value_95 ?_
            refine aj_iload C dX4_value_98 rfl ?_
            refine aj_iconst C dX4_value_100 ?_
            refine aj_isub C dX4_value_101 ?_
            obtain ⟨r0, h⟩ := h
            refine aj_iald C (aj_ca (e := 0) (n := 64) (j := 6) hq0 (by decide) rfl) (by decide) r0 dX4_value_102 rfl ?_
            refine aj_isub C dX4_value_103 ?_
            obtain ⟨r0, h⟩ := h
            refine aj_iast C (aj_ca (e := 0) (n := 64) (j := 6) hq0 (by decide) rfl) (by decide) r0 dX4_value_104 ?_
            refine aj_nm (fun m5 e1 => ?_)
            have h := h m5 e1
            refine aj_goto (tgt := 223) C dX4_value_105 (by decide) ?_
            refine aj_iinc (lv' := [some (vO 4 q0), none, some (vI v2), some (vO 6 q3), some (vI v4), some (vI v5), some (vI v6), some (vI v7), some (vI (v8 + 1)), some (vI ((m (0 :: q0) v8.toNat) % 16)), none, none]) C dX4_value_223 rfl (by decide) rfl ?_
            refine aj_goto (tgt := 6) C dX4_value_226 (by decide) ?_
            refine aj_wk (lv' := [some (vO 4 q0), none, some (vI v2), some (vO 6 q3), some (vI v4), some (vI v5), some (vI v6), some (vI v7), some (vI (v8 + 1)), none, none, none]) (⟨rfl, ⟨rfl, ⟨rfl, ⟨rfl, ⟨rfl, ⟨rfl, ⟨rfl, ⟨rfl, trivial⟩⟩⟩⟩⟩⟩⟩⟩) ?_
            exact ih q0 v2 q3 v4 v5 v6 v7 (v8 + 1) _ hq0 hq3 h
      · have h := h2 e
        refine aj_iload C dX4_value_30 rfl ?_
        refine aj_bipush C dX4_value_32 (by decide) ?_
        obtain ⟨r0, h1, h2⟩ := h
        refine aj_icmp_ge (tgt := 223) C dX4_value_34 (by decide) r0 (by decide) (fun e => ?_) (fun e => ?_)
        · have h := h1 e
          refine aj_iinc (lv' := [some (vO 4 q0), none, some (vI v2), some (vO 6 q3), some (vI v4), some (vI v5), some (vI v6), some (vI v7), some (vI (v8 + 1)), some (vI ((m (0 :: q0) v8.toNat) % 16)), none, none]) C dX4_value_223 rfl (by decide) rfl ?_
          refine aj_goto (tgt := 6) C dX4_value_226 (by decide) ?_
          refine aj_wk (lv' := [some (vO 4 q0), none, some (vI v2), some (vO 6 q3), some (vI v4), some (vI v5), some (vI v6), some (vI v7), some (vI (v8 + 1)), none, none, none]) (⟨rfl, ⟨rfl, ⟨rfl, ⟨rfl, ⟨rfl, ⟨rfl, ⟨rfl, ⟨rfl, trivial⟩⟩⟩⟩⟩⟩⟩⟩) ?_
          exact ih q0 v2 q3 v4 v5 v6 v7 (v8 + 1) _ hq0 hq3 h
        · have h := h2 e
          refine aj_aload_n C dX4_value_37 rfl ?_
          refine aj_getA (x := 0) (y := 64) C flX4_31 hq0 rfl dX4_value_38 ?_
          refine aj_iload C dX4_value_41 rfl ?_
          refine aj_iload C dX4_value_43 rfl ?_
          refine aj_aload_n C dX4_value_45 rfl ?_
          refine aj_getA (x := 0) (y := 900) C flX4_9 hq0 rfl dX4_value_46 ?_
          refine aj_iload C dX4_value_49 rfl ?_
          obtain ⟨r0, h⟩ := h
          refine aj_iald C (aj_ca (e := 0) (n := 900) (j := 0) hq0 (by decide) rfl) (by decide) r0 dX4_value_51 rfl ?_
          refine aj_bipush C dX4_value_52 (by decide) ?_
          obtain ⟨r0, h⟩ := h
          refine aj_idivN C dX4_value_54 r0 (by decide) ?_
          refine aj_aload_n C dX4_value_55 rfl ?_
          refine aj_iload C dX4_value_56 rfl ?_
          refine aj_iload C dX4_value_58 rfl ?_
          refine aj_iload C dX4_value_60 rfl ?_
          refine aj_callS (rest := [vI v7, vA 0 64 (6 :: q0)]) C msX4_40 (sX4_atom hq3 h) (aj_np 6 (by decide +kernel) rfl) (Nat.le_of_ble_eq_true rfl) rfl dX4_value_62 (fun r m6 h => ?_)
          obtain ⟨z2, rfl, h⟩ := h
          obtain ⟨r0, h⟩ := h
          refine aj_iast C (aj_ca (e := 0) (n := 64) (j := 6) hq0 (by decide) rfl) (by decide) r0 dX4_value_65 ?_
          refine aj_nm (fun m7 e1 => ?_)
          have h := h m7 e1
          refine aj_iinc (lv' := [some (vO 4 q0), none, some (vI v2), some (vO 6 q3), some (vI v4), some (vI v5), some (vI v6), some (vI (v7 + 1)), some (vI v8), some (vI ((m (0 :: q0) v8.toNat) % 16)), none, none]) C dX4_value_66 rfl (by decide) rfl ?_
          refine aj_goto (tgt := 223) C dX4_value_69 (by decide) ?_
          refine aj_iinc (lv' := [some (vO 4 q0), none, some (vI v2), some (vO 6 q3), some (vI v4), some (vI v5), some (vI v6), some (vI (v7 + 1)), some (vI (v8 + 1)), some (vI ((m (0 :: q0) v8.toNat) % 16)), none, none]) C dX4_value_223 rfl (by decide) rfl ?_
          refine aj_goto (tgt := 6) C dX4_value_226 (by decide) ?_
          refine aj_wk (lv' := [some (vO 4 q0), none, some (vI v2), some (vO 6 q3), some (vI v4), some (vI v5), some (vI v6), some (vI (v7 + 1)), some (vI (v8 + 1)), none, none, none]) (⟨rfl, ⟨rfl, ⟨rfl, ⟨rfl, ⟨rfl, ⟨rfl, ⟨rfl, ⟨rfl, trivial⟩⟩⟩⟩⟩⟩⟩⟩) ?_
          exact ih q0 v2 q3 v4 v5 v6 (v7 + 1) (v8 + 1) _ hq0 hq3 h
def wX4_value (f : Nat) (Φ : Int → aj_M → Prop) (q0 : List Nat) (v1 : Int) (v2 : Int) (q3 : List Nat) (v4 : Int) (v5 : Int) (v6 : Int) (m : aj_M) : Prop := hX4_value_6 f Φ f q0 v2 q3 v4 v5 v6 0 v1 m
set_option maxHeartbeats 4000000 in
set_option maxRecDepth 100000 in
theorem sX4_value {n f : Nat} {Φ : Int → aj_M → Prop} {q0 : List Nat} {v1 : Int} {v2 : Int} {q3 : List Nat} {v4 : Int} {v5 : Int} {v6 : Int} {m : aj_M} (hq0 : (.inl (4, q0) : aj_R) ∈ aj_pls) (hq3 : (.inl (6, q3) : aj_R) ∈ aj_pls) (h : wX4_value f Φ q0 v1 v2 q3 v4 v5 v6 m) : aj_Ct (n + 1) yX4_value cX4_value 12 (some .int) [vO 4 q0, vI v1, vI v2, vO 6 q3, vI v4, vI v5, vI v6] m (fun r m => ∃ z, r = some (vI z) ∧ Φ z m) := by
  refine aj_met (lv := [some (vO 4 q0), some (vI v1), some (vI v2), some (vO 6 q3), some (vI v4), some (vI v5), some (vI v6), none, none, none, none, none]) (by decide +kernel) rfl (Nat.le_of_ble_eq_true rfl) (fun X C K => ?_)
  unfold wX4_value at h
  refine aj_iconst C dX4_value_0 ?_
  refine aj_istore (lv' := [some (vO 4 q0), some (vI v1), some (vI v2), some (vO 6 q3), some (vI v4), some (vI v5), some (vI v6), some (vI 0), none, none, none, none]) C dX4_value_1 (by decide) rfl ?_
  refine aj_iload_n C dX4_value_3 rfl ?_
  refine aj_istore (lv' := [some (vO 4 q0), some (vI v1), some (vI v2), some (vO 6 q3), some (vI v4), some (vI v5), some (vI v6), some (vI 0), some (vI v1), none, none, none]) C dX4_value_4 (by decide) rfl ?_
  refine aj_wk (lv' := [some (vO 4 q0), none, some (vI v2), some (vO 6 q3), some (vI v4), some (vI v5), some (vI v6), some (vI 0), some (vI v1), none, none, none]) (⟨rfl, ⟨rfl, ⟨rfl, ⟨rfl, ⟨rfl, ⟨rfl, ⟨rfl, ⟨rfl, trivial⟩⟩⟩⟩⟩⟩⟩⟩) ?_
  exact tX4_value_6 C K f q0 v2 q3 v4 v5 v6 0 v1 _ hq0 hq3 h
theorem dX6_knowKept_0 : decode cX6_knowKept 0 = .ok (.aload_n 0, 1) := by decide +kernel
theorem dX6_knowKept_1 : decode cX6_knowKept 1 = .ok (.getfield 51, 3) := by decide +kernel
theorem dX6_knowKept_4 : decode cX6_knowKept 4 = .ok (.iload_n 1, 1) := by decide +kernel
theorem dX6_knowKept_5 : decode cX6_knowKept 5 = .ok (.if_icmp .ne 4, 3) := by decide +kernel
theorem dX6_knowKept_8 : decode cX6_knowKept 8 = .ok (.return_, 1) := by decide +kernel
theorem dX6_knowKept_9 : decode cX6_knowKept 9 = .ok (.aload_n 0, 1) := by decide +kernel
theorem dX6_knowKept_10 : decode cX6_knowKept 10 = .ok (.iload_n 1, 1) := by decide +kernel
theorem dX6_knowKept_11 : decode cX6_knowKept 11 = .ok (.putfield 51, 3) := by decide +kernel
theorem dX6_knowKept_14 : decode cX6_knowKept 14 = .ok (.aload_n 0, 1) := by decide +kernel
theorem dX6_knowKept_15 : decode cX6_knowKept 15 = .ok (.getfield 21, 3) := by decide +kernel
theorem dX6_knowKept_18 : decode cX6_knowKept 18 = .ok (.getfield 90, 3) := by decide +kernel
theorem dX6_knowKept_21 : decode cX6_knowKept 21 = .ok (.aload_n 0, 1) := by decide +kernel
theorem dX6_knowKept_22 : decode cX6_knowKept 22 = .ok (.getfield 21, 3) := by decide +kernel
theorem dX6_knowKept_25 : decode cX6_knowKept 25 = .ok (.getfield 93, 3) := by decide +kernel
theorem dX6_knowKept_28 : decode cX6_knowKept 28 = .ok (.if_icmp .le 7, 3) := by decide +kernel
theorem dX6_knowKept_31 : decode cX6_knowKept 31 = .ok (.iconst 1, 1) := by decide +kernel
theorem dX6_knowKept_32 : decode cX6_knowKept 32 = .ok (.goto 4, 3) := by decide +kernel
theorem dX6_knowKept_35 : decode cX6_knowKept 35 = .ok (.iconst 0, 1) := by decide +kernel
theorem dX6_knowKept_36 : decode cX6_knowKept 36 = .ok (.istore_n 2, 1) := by decide +kernel
theorem dX6_knowKept_37 : decode cX6_knowKept 37 = .ok (.iconst 0, 1) := by decide +kernel
theorem dX6_knowKept_38 : decode cX6_knowKept 38 = .ok (.istore_n 3, 1) := by decide +kernel
theorem dX6_knowKept_39 : decode cX6_knowKept 39 = .ok (.iload_n 3, 1) := by decide +kernel
theorem dX6_knowKept_40 : decode cX6_knowKept 40 = .ok (.aload_n 0, 1) := by decide +kernel
theorem dX6_knowKept_41 : decode cX6_knowKept 41 = .ok (.getfield 32, 3) := by decide +kernel
theorem dX6_knowKept_44 : decode cX6_knowKept 44 = .ok (.if_icmp .ge 83, 3) := by decide +kernel
theorem dX6_knowKept_47 : decode cX6_knowKept 47 = .ok (.iconst 0, 1) := by decide +kernel
theorem dX6_knowKept_48 : decode cX6_knowKept 48 = .ok (.istore 4, 2) := by decide +kernel
theorem dX6_knowKept_50 : decode cX6_knowKept 50 = .ok (.iconst 0, 1) := by decide +kernel
theorem dX6_knowKept_51 : decode cX6_knowKept 51 = .ok (.istore 5, 2) := by decide +kernel
theorem dX6_knowKept_53 : decode cX6_knowKept 53 = .ok (.iload 5, 2) := by decide +kernel
theorem dX6_knowKept_55 : decode cX6_knowKept 55 = .ok (.aload_n 0, 1) := by decide +kernel
theorem dX6_knowKept_56 : decode cX6_knowKept 56 = .ok (.getfield 12, 3) := by decide +kernel
theorem dX6_knowKept_59 : decode cX6_knowKept 59 = .ok (.getfield 96, 3) := by decide +kernel
theorem dX6_knowKept_62 : decode cX6_knowKept 62 = .ok (.if_icmp .ge 51, 3) := by decide +kernel
theorem dX6_knowKept_65 : decode cX6_knowKept 65 = .ok (.iload_n 2, 1) := by decide +kernel
theorem dX6_knowKept_66 : decode cX6_knowKept 66 = .ok (.ifCond .eq 32, 3) := by decide +kernel
theorem dX6_knowKept_69 : decode cX6_knowKept 69 = .ok (.aload_n 0, 1) := by decide +kernel
theorem dX6_knowKept_70 : decode cX6_knowKept 70 = .ok (.getfield 21, 3) := by decide +kernel
theorem dX6_knowKept_73 : decode cX6_knowKept 73 = .ok (.aload_n 0, 1) := by decide +kernel
theorem dX6_knowKept_74 : decode cX6_knowKept 74 = .ok (.getfield 21, 3) := by decide +kernel
theorem dX6_knowKept_77 : decode cX6_knowKept 77 = .ok (.getfield 93, 3) := by decide +kernel
theorem dX6_knowKept_80 : decode cX6_knowKept 80 = .ok (.aload_n 0, 1) := by decide +kernel
theorem dX6_knowKept_81 : decode cX6_knowKept 81 = .ok (.getfield 21, 3) := by decide +kernel
theorem dX6_knowKept_84 : decode cX6_knowKept 84 = .ok (.getfield 90, 3) := by decide +kernel
theorem dX6_knowKept_87 : decode cX6_knowKept 87 = .ok (.aload_n 0, 1) := by decide +kernel
theorem dX6_knowKept_88 : decode cX6_knowKept 88 = .ok (.iload_n 3, 1) := by decide +kernel
theorem dX6_knowKept_89 : decode cX6_knowKept 89 = .ok (.iload 5, 2) := by decide +kernel
theorem dX6_knowKept_91 : decode cX6_knowKept 91 = .ok (.iload_n 1, 1) := by decide +kernel
theorem dX6_knowKept_92 : decode cX6_knowKept 92 = .ok (.invokevirtual 99, 3) := by decide +kernel
theorem dX6_knowKept_95 : decode cX6_knowKept 95 = .ok (.ifCond .eq 12, 3) := by decide +kernel
theorem dX6_knowKept_98 : decode cX6_knowKept 98 = .ok (.iload 4, 2) := by decide +kernel
theorem dX6_knowKept_100 : decode cX6_knowKept 100 = .ok (.iconst 1, 1) := by decide +kernel
theorem dX6_knowKept_101 : decode cX6_knowKept 101 = .ok (.iload 5, 2) := by decide +kernel
theorem dX6_knowKept_103 : decode cX6_knowKept 103 = .ok (.ishl, 1) := by decide +kernel
theorem dX6_knowKept_104 : decode cX6_knowKept 104 = .ok (.ior, 1) := by decide +kernel
theorem dX6_knowKept_105 : decode cX6_knowKept 105 = .ok (.istore 4, 2) := by decide +kernel
theorem dX6_knowKept_107 : decode cX6_knowKept 107 = .ok (.iinc 5 1, 3) := by decide +kernel
theorem dX6_knowKept_110 : decode cX6_knowKept 110 = .ok (.goto (-57), 3) := by decide +kernel
theorem dX6_knowKept_113 : decode cX6_knowKept 113 = .ok (.aload_n 0, 1) := by decide +kernel
theorem dX6_knowKept_114 : decode cX6_knowKept 114 = .ok (.getfield 54, 3) := by decide +kernel
theorem dX6_knowKept_117 : decode cX6_knowKept 117 = .ok (.iload_n 3, 1) := by decide +kernel
theorem dX6_knowKept_118 : decode cX6_knowKept 118 = .ok (.iload 4, 2) := by decide +kernel
theorem dX6_knowKept_120 : decode cX6_knowKept 120 = .ok (.iastore, 1) := by decide +kernel
theorem dX6_knowKept_121 : decode cX6_knowKept 121 = .ok (.iinc 3 1, 3) := by decide +kernel
theorem dX6_knowKept_124 : decode cX6_knowKept 124 = .ok (.goto (-85), 3) := by decide +kernel
theorem dX6_knowKept_127 : decode cX6_knowKept 127 = .ok (.return_, 1) := by decide +kernel
def hX6_knowKept_53 (f : Nat) (Φ : aj_M → Prop) (K39 : List Nat → Int → Int → Int → aj_M → Prop) : Nat → List Nat → Int → Int → Int → Int → Int → aj_M → Prop
  | 0, _, _, _, _, _, _, _ => False
  | k + 1, q0, v1, v2, v3, v4, v5, m => rI v5 ∧ rI (m (0 :: q0) 0) ∧ ((m (0 :: q0) 0) ≤ v5 → (0 ≤ v3 ∧ v3 < 12) ∧ ∀ m1, m1 = aj_u m (11 :: q0) v3.toNat v4 → K39 q0 v1 v2 (v3 + 1) m1) ∧ (¬ ((m (0 :: q0) 0) ≤ v5) → rI v2 ∧ (v2 = 0 → hX6_knowKept_53 f Φ K39 k q0 v1 v2 v3 (aj_or v4 (aj_shl 1 v5)) (v5 + 1) m) ∧ (¬ (v2 = 0) → wX4_value f (fun z1 m2 => rI z1 ∧ (z1 = 0 → hX6_knowKept_53 f Φ K39 k q0 v1 v2 v3 v4 (v5 + 1) m2) ∧ (¬ (z1 = 0) → hX6_knowKept_53 f Φ K39 k q0 v1 v2 v3 (aj_or v4 (aj_shl 1 v5)) (v5 + 1) m2)) (1 :: q0) (m (1 :: q0) 2) (m (1 :: q0) 3) q0 v3 v5 v1 m))
set_option maxHeartbeats 4000000 in
set_option maxRecDepth 100000 in
theorem tX6_knowKept_53 {X : aj_T} {n f : Nat} {Φ : aj_M → Prop} (C : aj_Cx X cX6_knowKept RX6 6 (n + 2)) (K : aj_Rt X none (fun r m => r = none ∧ Φ m)) {K39 : List Nat → Int → Int → Int → aj_M → Prop} (HK39 : ∀ (q0 : List Nat) (v1 : Int) (v2 : Int) (v3 : Int) (m : aj_M) (hq0 : (.inl (6, q0) : aj_R) ∈ aj_pls), K39 q0 v1 v2 v3 m → aj_J X 39 [some (vO 6 q0), some (vI v1), some (vI v2), some (vI v3), none, none] [] m) : ∀ (k : Nat) (q0 : List Nat) (v1 : Int) (v2 : Int) (v3 : Int) (v4 : Int) (v5 : Int) (m : aj_M) (hq0 : (.inl (6, q0) : aj_R) ∈ aj_pls), hX6_knowKept_53 f Φ K39 k q0 v1 v2 v3 v4 v5 m → aj_J X 53 [some (vO 6 q0), some (vI v1), some (vI v2), some (vI v3), some (vI v4), some (vI v5)] [] m := by
  intro k
  induction k with
  | zero =>
    intro q0 v1 v2 v3 v4 v5 m _ h
    exact h.elim
  | succ k ih =>
    intro q0 v1 v2 v3 v4 v5 m hq0 h
    unfold hX6_knowKept_53 at h
    refine aj_iload C dX6_knowKept_53 rfl ?_
    refine aj_aload_n C dX6_knowKept_55 rfl ?_
    refine aj_getO (x := 0) (y := 0) C flX6_12 hq0 rfl dX6_knowKept_56 ?_
    refine aj_getI C flX6_96 (aj_cf (x := 0) (y := 0) (j := 0) hq0 (by decide) rfl) (by decide) dX6_knowKept_59 rfl ?_
    obtain ⟨r0, r1, h1, h2⟩ := h
    refine aj_icmp_ge (tgt := 113) C dX6_knowKept_62 (by decide) r0 r1 (fun e => ?_) (fun e => ?_)
    · have h := h1 e
      refine aj_aload_n C dX6_knowKept_113 rfl ?_
      refine aj_getA (x := 0) (y := 12) C flX6_54 hq0 rfl dX6_knowKept_114 ?_
      refine aj_iload_n C dX6_knowKept_117 rfl ?_
      refine aj_iload C dX6_knowKept_118 rfl ?_
      obtain ⟨r0, h⟩ := h
      refine aj_iast C (aj_ca (e := 0) (n := 12) (j := 11) hq0 (by decide) rfl) (by decide) r0 dX6_knowKept_120 ?_
      refine aj_nm (fun m1 e1 => ?_)
      have h := h m1 e1
      refine aj_iinc (lv' := [some (vO 6 q0), some (vI v1), some (vI v2), some (vI (v3 + 1)), some (vI v4), some (vI v5)]) C dX6_knowKept_121 rfl (by decide) rfl ?_
      refine aj_goto (tgt := 39) C dX6_knowKept_124 (by decide) ?_
      refine aj_wk (lv' := [some (vO 6 q0), some (vI v1), some (vI v2), some (vI (v3 + 1)), none, none]) (⟨rfl, ⟨rfl, ⟨rfl, ⟨rfl, trivial⟩⟩⟩⟩) ?_
      exact HK39 q0 v1 v2 (v3 + 1) _ hq0 h
    · have h := h2 e
      refine aj_iload_n C dX6_knowKept_65 rfl ?_
      obtain ⟨r0, h1, h2⟩ := h
      refine aj_if_eq (tgt := 98) C dX6_knowKept_66 (by decide) r0 (fun e => ?_) (fun e => ?_)
      · have h := h1 e
        refine aj_iload C dX6_knowKept_98 rfl ?_
        refine aj_iconst C dX6_knowKept_100 ?_
        refine aj_iload C dX6_knowKept_101 rfl ?_
        refine aj_ishl C dX6_knowKept_103 ?_
        refine aj_ior C dX6_knowKept_104 ?_
        refine aj_istore (lv' := [some (vO 6 q0), some (vI v1), some (vI v2), some (vI v3), some (vI (aj_or v4 (aj_shl 1 v5))), some (vI v5)]) C dX6_knowKept_105 (by decide) rfl ?_
        refine aj_iinc (lv' := [some (vO 6 q0), some (vI v1), some (vI v2), some (vI v3), some (vI (aj_or v4 (aj_shl 1 v5))), some (vI (v5 + 1))]) C dX6_knowKept_107 rfl (by decide) rfl ?_
        refine aj_goto (tgt := 53) C dX6_knowKept_110 (by decide) ?_
        exact ih q0 v1 v2 v3 (aj_or v4 (aj_shl 1 v5)) (v5 + 1) _ hq0 h
      · have h := h2 e
        refine aj_aload_n C dX6_knowKept_69 rfl ?_
        refine aj_getO (x := 4) (y := 0) C flX6_21 hq0 rfl dX6_knowKept_70 ?_
        refine aj_aload_n C dX6_knowKept_73 rfl ?_
        refine aj_getO (x := 4) (y := 0) C flX6_21 hq0 rfl dX6_knowKept_74 ?_
        refine aj_getI C flX6_93 (aj_cf (x := 4) (y := 0) (j := 1) hq0 (by decide) rfl) (by decide) dX6_knowKept_77 rfl ?_
        refine aj_aload_n C dX6_knowKept_80 rfl ?_
        refine aj_getO (x := 4) (y := 0) C flX6_21 hq0 rfl dX6_knowKept_81 ?_
        refine aj_getI C flX6_90 (aj_cf (x := 4) (y := 0) (j := 1) hq0 (by decide) rfl) (by decide) dX6_knowKept_84 rfl ?_
        refine aj_aload_n C dX6_knowKept_87 rfl ?_
        refine aj_iload_n C dX6_knowKept_88 rfl ?_
        refine aj_iload C dX6_knowKept_89 rfl ?_
        refine aj_iload_n C dX6_knowKept_91 rfl ?_
        refine aj_callV (rest := []) C mvX6_99 (sX4_value (aj_cf (x := 4) (y := 0) (j := 1) hq0 (by decide) rfl) hq0 h) (aj_cf (x := 4) (y := 0) (j := 1) hq0 (by decide) rfl) (aj_np 6 (by decide +kernel) rfl) (Nat.le_of_ble_eq_true rfl) rfl dX6_knowKept_92 (fun r m2 h => ?_)
        obtain ⟨z1, rfl, h⟩ := h
        obtain ⟨r0, h1, h2⟩ := h
        refine aj_if_eq (tgt := 107) C dX6_knowKept_95 (by decide) r0 (fun e => ?_) (fun e => ?_)
        · have h := h1 e
          refine aj_iinc (lv' := [some (vO 6 q0), some (vI v1), some (vI v2), some (vI v3), some (vI v4), some (vI (v5 + 1))]) C dX6_knowKept_107 rfl (by decide) rfl ?_
          refine aj_goto (tgt := 53) C dX6_knowKept_110 (by decide) ?_
          exact ih q0 v1 v2 v3 v4 (v5 + 1) _ hq0 h
        · have h := h2 e
          refine aj_iload C dX6_knowKept_98 rfl ?_
          refine aj_iconst C dX6_knowKept_100 ?_
          refine aj_iload C dX6_knowKept_101 rfl ?_
          refine aj_ishl C dX6_knowKept_103 ?_
          refine aj_ior C dX6_knowKept_104 ?_
          refine aj_istore (lv' := [some (vO 6 q0), some (vI v1), some (vI v2), some (vI v3), some (vI (aj_or v4 (aj_shl 1 v5))), some (vI v5)]) C dX6_knowKept_105 (by decide) rfl ?_
          refine aj_iinc (lv' := [some (vO 6 q0), some (vI v1), some (vI v2), some (vI v3), some (vI (aj_or v4 (aj_shl 1 v5))), some (vI (v5 + 1))]) C dX6_knowKept_107 rfl (by decide) rfl ?_
          refine aj_goto (tgt := 53) C dX6_knowKept_110 (by decide) ?_
          exact ih q0 v1 v2 v3 (aj_or v4 (aj_shl 1 v5)) (v5 + 1) _ hq0 h
def hX6_knowKept_39 (f : Nat) (Φ : aj_M → Prop) : Nat → List Nat → Int → Int → Int → aj_M → Prop
  | 0, _, _, _, _, _ => False
  | k + 1, q0, v1, v2, v3, m => rI v3 ∧ rI (m q0 4) ∧ ((m q0 4) ≤ v3 → Φ m) ∧ (¬ ((m q0 4) ≤ v3) → hX6_knowKept_53 f Φ (fun q0 v1 v2 v3 m => hX6_knowKept_39 f Φ k q0 v1 v2 v3 m) f q0 v1 v2 v3 0 0 m)
set_option maxHeartbeats 4000000 in
set_option maxRecDepth 100000 in
theorem tX6_knowKept_39 {X : aj_T} {n f : Nat} {Φ : aj_M → Prop} (C : aj_Cx X cX6_knowKept RX6 6 (n + 2)) (K : aj_Rt X none (fun r m => r = none ∧ Φ m)) : ∀ (k : Nat) (q0 : List Nat) (v1 : Int) (v2 : Int) (v3 : Int) (m : aj_M) (hq0 : (.inl (6, q0) : aj_R) ∈ aj_pls), hX6_knowKept_39 f Φ k q0 v1 v2 v3 m → aj_J X 39 [some (vO 6 q0), some (vI v1), some (vI v2), some (vI v3), none, none] [] m := by
  intro k
  induction k with
  | zero =>
    intro q0 v1 v2 v3 m _ h
    exact h.elim
  | succ k ih =>
    intro q0 v1 v2 v3 m hq0 h
    unfold hX6_knowKept_39 at h
    refine aj_iload_n C dX6_knowKept_39 rfl ?_
    refine aj_aload_n C dX6_knowKept_40 rfl ?_
    refine aj_getI C flX6_32 hq0 (by decide) dX6_knowKept_41 rfl ?_
    obtain ⟨r0, r1, h1, h2⟩ := h
    refine aj_icmp_ge (tgt := 127) C dX6_knowKept_44 (by decide) r0 r1 (fun e => ?_) (fun e => ?_)
    · have h := h1 e
      exact aj_vret C K dX6_knowKept_127 ⟨rfl, h⟩
    · have h := h2 e
      refine aj_iconst C dX6_knowKept_47 ?_
      refine aj_istore (lv' := [some (vO 6 q0), some (vI v1), some (vI v2), some (vI v3), some (vI 0), none]) C dX6_knowKept_48 (by decide) rfl ?_
      refine aj_iconst C dX6_knowKept_50 ?_
      refine aj_istore (lv' := [some (vO 6 q0), some (vI v1), some (vI v2), some (vI v3), some (vI 0), some (vI 0)]) C dX6_knowKept_51 (by decide) rfl ?_
      exact tX6_knowKept_53 C K (fun q0 v1 v2 v3 m hq0 hh => ih q0 v1 v2 v3 m hq0 hh) f q0 v1 v2 v3 0 0 _ hq0 h
def wX6_knowKept (f : Nat) (Φ : aj_M → Prop) (q0 : List Nat) (v1 : Int) (m : aj_M) : Prop := rI (m q0 10) ∧ rI v1 ∧ (¬ (m q0 10) = v1 → ∀ m1, m1 = aj_u m q0 10 v1 → rI (m1 (1 :: q0) 3) ∧ rI (m1 (1 :: q0) 2) ∧ ((m1 (1 :: q0) 3) ≤ (m1 (1 :: q0) 2) → hX6_knowKept_39 f Φ f q0 v1 0 0 m1) ∧ (¬ ((m1 (1 :: q0) 3) ≤ (m1 (1 :: q0) 2)) → hX6_knowKept_39 f Φ f q0 v1 1 0 m1)) ∧ ((m q0 10) = v1 → Φ m)
set_option maxHeartbeats 4000000 in
set_option maxRecDepth 100000 in
theorem sX6_knowKept {n f : Nat} {Φ : aj_M → Prop} {q0 : List Nat} {v1 : Int} {m : aj_M} (hq0 : (.inl (6, q0) : aj_R) ∈ aj_pls) (h : wX6_knowKept f Φ q0 v1 m) : aj_Ct (n + 2) yX6_knowKept cX6_knowKept 6 none [vO 6 q0, vI v1] m (fun r m => r = none ∧ Φ m) := by
  refine aj_met (lv := [some (vO 6 q0), some (vI v1), none, none, none, none]) (by decide +kernel) rfl (Nat.le_of_ble_eq_true rfl) (fun X C K => ?_)
  unfold wX6_knowKept at h
  refine aj_aload_n C dX6_knowKept_0 rfl ?_
  refine aj_getI C flX6_51 hq0 (by decide) dX6_knowKept_1 rfl ?_
  refine aj_iload_n C dX6_knowKept_4 rfl ?_
  obtain ⟨r0, r1, h1, h2⟩ := h
  refine aj_icmp_ne (tgt := 9) C dX6_knowKept_5 (by decide) r0 r1 (fun e => ?_) (fun e => ?_)
  · have h := h1 e
    refine aj_aload_n C dX6_knowKept_9 rfl ?_
    refine aj_iload_n C dX6_knowKept_10 rfl ?_
    refine aj_putI C fpX6_51 hq0 rfl dX6_knowKept_11 ?_
    refine aj_nm (fun m1 e1 => ?_)
    have h := h m1 e1
    refine aj_aload_n C dX6_knowKept_14 rfl ?_
    refine aj_getO (x := 4) (y := 0) C flX6_21 hq0 rfl dX6_knowKept_15 ?_
    refine aj_getI C flX6_90 (aj_cf (x := 4) (y := 0) (j := 1) hq0 (by decide) rfl) (by decide) dX6_knowKept_18 rfl ?_
    refine aj_aload_n C dX6_knowKept_21 rfl ?_
    refine aj_getO (x := 4) (y := 0) C flX6_21 hq0 rfl dX6_knowKept_22 ?_
    refine aj_getI C flX6_93 (aj_cf (x := 4) (y := 0) (j := 1) hq0 (by decide) rfl) (by decide) dX6_knowKept_25 rfl ?_
    obtain ⟨r0, r1, h1, h2⟩ := h
    refine aj_icmp_le (tgt := 35) C dX6_knowKept_28 (by decide) r0 r1 (fun e => ?_) (fun e => ?_)
    · have h := h1 e
      refine aj_iconst C dX6_knowKept_35 ?_
      refine aj_istore_n (lv' := [some (vO 6 q0), some (vI v1), some (vI 0), none, none, none]) C dX6_knowKept_36 (by decide) rfl ?_
      refine aj_iconst C dX6_knowKept_37 ?_
      refine aj_istore_n (lv' := [some (vO 6 q0), some (vI v1), some (vI 0), some (vI 0), none, none]) C dX6_knowKept_38 (by decide) rfl ?_
      exact tX6_knowKept_39 C K f q0 v1 0 0 _ hq0 h
    · have h := h2 e
      refine aj_iconst C dX6_knowKept_31 ?_
      refine aj_goto (tgt := 36) C dX6_knowKept_32 (by decide) ?_
      refine aj_istore_n (lv' := [some (vO 6 q0), some (vI v1), some (vI 1), none, none, none]) C dX6_knowKept_36 (by decide) rfl ?_
      refine aj_iconst C dX6_knowKept_37 ?_
      refine aj_istore_n (lv' := [some (vO 6 q0), some (vI v1), some (vI 1), some (vI 0), none, none]) C dX6_knowKept_38 (by decide) rfl ?_
      exact tX6_knowKept_39 C K f q0 v1 1 0 _ hq0 h
  · have h := h2 e
    exact aj_vret C K dX6_knowKept_8 ⟨rfl, h⟩
theorem dX9_isOut_0 : decode cX9_isOut 0 = .ok (.aload_n 0, 1) := by decide +kernel
theorem dX9_isOut_1 : decode cX9_isOut 1 = .ok (.getfield 15, 3) := by decide +kernel
theorem dX9_isOut_4 : decode cX9_isOut 4 = .ok (.iload_n 1, 1) := by decide +kernel
theorem dX9_isOut_5 : decode cX9_isOut 5 = .ok (.ishr, 1) := by decide +kernel
theorem dX9_isOut_6 : decode cX9_isOut 6 = .ok (.iconst 1, 1) := by decide +kernel
theorem dX9_isOut_7 : decode cX9_isOut 7 = .ok (.iand, 1) := by decide +kernel
theorem dX9_isOut_8 : decode cX9_isOut 8 = .ok (.iconst 1, 1) := by decide +kernel
theorem dX9_isOut_9 : decode cX9_isOut 9 = .ok (.if_icmp .ne 7, 3) := by decide +kernel
theorem dX9_isOut_12 : decode cX9_isOut 12 = .ok (.iconst 1, 1) := by decide +kernel
theorem dX9_isOut_13 : decode cX9_isOut 13 = .ok (.goto 4, 3) := by decide +kernel
theorem dX9_isOut_16 : decode cX9_isOut 16 = .ok (.iconst 0, 1) := by decide +kernel
theorem dX9_isOut_17 : decode cX9_isOut 17 = .ok (.ireturn, 1) := by decide +kernel
def wX9_isOut (f : Nat) (Φ : Int → aj_M → Prop) (q0 : List Nat) (v1 : Int) (m : aj_M) : Prop := rI (aj_and (aj_shr (m q0 1) v1) 1) ∧ (¬ (aj_and (aj_shr (m q0 1) v1) 1) = 1 → Φ 0 m) ∧ ((aj_and (aj_shr (m q0 1) v1) 1) = 1 → Φ 1 m)
set_option maxHeartbeats 4000000 in
set_option maxRecDepth 100000 in
theorem sX9_isOut {n f : Nat} {Φ : Int → aj_M → Prop} {q0 : List Nat} {v1 : Int} {m : aj_M} (hq0 : (.inl (9, q0) : aj_R) ∈ aj_pls) (h : wX9_isOut f Φ q0 v1 m) : aj_Ct n yX9_isOut cX9_isOut 2 (some .boolean) [vO 9 q0, vI v1] m (fun r m => ∃ z, r = some (vI z) ∧ Φ z m) := by
  refine aj_met (lv := [some (vO 9 q0), some (vI v1)]) (by decide +kernel) rfl (Nat.le_of_ble_eq_true rfl) (fun X C K => ?_)
  unfold wX9_isOut at h
  refine aj_aload_n C dX9_isOut_0 rfl ?_
  refine aj_getI C flX9_15 hq0 (by decide) dX9_isOut_1 rfl ?_
  refine aj_iload_n C dX9_isOut_4 rfl ?_
  refine aj_ishr C dX9_isOut_5 ?_
  refine aj_iconst C dX9_isOut_6 ?_
  refine aj_iand C dX9_isOut_7 ?_
  refine aj_iconst C dX9_isOut_8 ?_
  obtain ⟨r0, h1, h2⟩ := h
  refine aj_icmp_ne (tgt := 16) C dX9_isOut_9 (by decide) r0 (by decide) (fun e => ?_) (fun e => ?_)
  · have h := h1 e
    refine aj_iconst C dX9_isOut_16 ?_
    exact aj_zret C K (Or.inl rfl) dX9_isOut_17 ⟨_, rfl, h⟩
  · have h := h2 e
    refine aj_iconst C dX9_isOut_12 ?_
    refine aj_goto (tgt := 17) C dX9_isOut_13 (by decide) ?_
    exact aj_zret C K (Or.inr rfl) dX9_isOut_17 ⟨_, rfl, h⟩
theorem dX6_hasArc_0 : decode cX6_hasArc 0 = .ok (.iload_n 1, 1) := by decide +kernel
theorem dX6_hasArc_1 : decode cX6_hasArc 1 = .ok (.ifCond .lt 15, 3) := by decide +kernel
theorem dX6_hasArc_4 : decode cX6_hasArc 4 = .ok (.iload_n 1, 1) := by decide +kernel
theorem dX6_hasArc_5 : decode cX6_hasArc 5 = .ok (.aload_n 0, 1) := by decide +kernel
theorem dX6_hasArc_6 : decode cX6_hasArc 6 = .ok (.getfield 32, 3) := by decide +kernel
theorem dX6_hasArc_9 : decode cX6_hasArc 9 = .ok (.if_icmp .ge 7, 3) := by decide +kernel
theorem dX6_hasArc_12 : decode cX6_hasArc 12 = .ok (.iconst 1, 1) := by decide +kernel
theorem dX6_hasArc_13 : decode cX6_hasArc 13 = .ok (.goto 4, 3) := by decide +kernel
theorem dX6_hasArc_16 : decode cX6_hasArc 16 = .ok (.iconst 0, 1) := by decide +kernel
theorem dX6_hasArc_17 : decode cX6_hasArc 17 = .ok (.ireturn, 1) := by decide +kernel
def wX6_hasArc (f : Nat) (Φ : Int → aj_M → Prop) (q0 : List Nat) (v1 : Int) (m : aj_M) : Prop := rI v1 ∧ (v1 < 0 → Φ 0 m) ∧ (¬ (v1 < 0) → rI v1 ∧ rI (m q0 4) ∧ ((m q0 4) ≤ v1 → Φ 0 m) ∧ (¬ ((m q0 4) ≤ v1) → Φ 1 m))
set_option maxHeartbeats 4000000 in
set_option maxRecDepth 100000 in
theorem sX6_hasArc {n f : Nat} {Φ : Int → aj_M → Prop} {q0 : List Nat} {v1 : Int} {m : aj_M} (hq0 : (.inl (6, q0) : aj_R) ∈ aj_pls) (h : wX6_hasArc f Φ q0 v1 m) : aj_Ct n yX6_hasArc cX6_hasArc 2 (some .boolean) [vO 6 q0, vI v1] m (fun r m => ∃ z, r = some (vI z) ∧ Φ z m) := by
  refine aj_met (lv := [some (vO 6 q0), some (vI v1)]) (by decide +kernel) rfl (Nat.le_of_ble_eq_true rfl) (fun X C K => ?_)
  unfold wX6_hasArc at h
  refine aj_iload_n C dX6_hasArc_0 rfl ?_
  obtain ⟨r0, h1, h2⟩ := h
  refine aj_if_lt (tgt := 16) C dX6_hasArc_1 (by decide) r0 (fun e => ?_) (fun e => ?_)
  · have h := h1 e
    refine aj_iconst C dX6_hasArc_16 ?_
    exact aj_zret C K (Or.inl rfl) dX6_hasArc_17 ⟨_, rfl, h⟩
  · have h := h2 e
    refine aj_iload_n C dX6_hasArc_4 rfl ?_
    refine aj_aload_n C dX6_hasArc_5 rfl ?_
    refine aj_getI C flX6_32 hq0 (by decide) dX6_hasArc_6 rfl ?_
    obtain ⟨r0, r1, h1, h2⟩ := h
    refine aj_icmp_ge (tgt := 16) C dX6_hasArc_9 (by decide) r0 r1 (fun e => ?_) (fun e => ?_)
    · have h := h1 e
      refine aj_iconst C dX6_hasArc_16 ?_
      exact aj_zret C K (Or.inl rfl) dX6_hasArc_17 ⟨_, rfl, h⟩
    · have h := h2 e
      refine aj_iconst C dX6_hasArc_12 ?_
      refine aj_goto (tgt := 17) C dX6_hasArc_13 (by decide) ?_
      exact aj_zret C K (Or.inr rfl) dX6_hasArc_17 ⟨_, rfl, h⟩
theorem dX6_isHalf_0 : decode cX6_isHalf 0 = .ok (.aload_n 0, 1) := by decide +kernel
theorem dX6_isHalf_1 : decode cX6_isHalf 1 = .ok (.iload_n 1, 1) := by decide +kernel
theorem dX6_isHalf_2 : decode cX6_isHalf 2 = .ok (.invokevirtual 77, 3) := by decide +kernel
theorem dX6_isHalf_5 : decode cX6_isHalf 5 = .ok (.ifCond .eq 19, 3) := by decide +kernel
theorem dX6_isHalf_8 : decode cX6_isHalf 8 = .ok (.aload_n 0, 1) := by decide +kernel
theorem dX6_isHalf_9 : decode cX6_isHalf 9 = .ok (.getfield 38, 3) := by decide +kernel
theorem dX6_isHalf_12 : decode cX6_isHalf 12 = .ok (.iload_n 1, 1) := by decide +kernel
theorem dX6_isHalf_13 : decode cX6_isHalf 13 = .ok (.ishr, 1) := by decide +kernel
theorem dX6_isHalf_14 : decode cX6_isHalf 14 = .ok (.iconst 1, 1) := by decide +kernel
theorem dX6_isHalf_15 : decode cX6_isHalf 15 = .ok (.iand, 1) := by decide +kernel
theorem dX6_isHalf_16 : decode cX6_isHalf 16 = .ok (.iconst 1, 1) := by decide +kernel
theorem dX6_isHalf_17 : decode cX6_isHalf 17 = .ok (.if_icmp .ne 7, 3) := by decide +kernel
theorem dX6_isHalf_20 : decode cX6_isHalf 20 = .ok (.iconst 1, 1) := by decide +kernel
theorem dX6_isHalf_21 : decode cX6_isHalf 21 = .ok (.goto 4, 3) := by decide +kernel
theorem dX6_isHalf_24 : decode cX6_isHalf 24 = .ok (.iconst 0, 1) := by decide +kernel
theorem dX6_isHalf_25 : decode cX6_isHalf 25 = .ok (.ireturn, 1) := by decide +kernel
def wX6_isHalf (f : Nat) (Φ : Int → aj_M → Prop) (q0 : List Nat) (v1 : Int) (m : aj_M) : Prop := wX6_hasArc f (fun z1 m1 => rI z1 ∧ (z1 = 0 → Φ 0 m1) ∧ (¬ (z1 = 0) → rI (aj_and (aj_shr (m1 q0 6) v1) 1) ∧ (¬ (aj_and (aj_shr (m1 q0 6) v1) 1) = 1 → Φ 0 m1) ∧ ((aj_and (aj_shr (m1 q0 6) v1) 1) = 1 → Φ 1 m1))) q0 v1 m
set_option maxHeartbeats 4000000 in
set_option maxRecDepth 100000 in
theorem sX6_isHalf {n f : Nat} {Φ : Int → aj_M → Prop} {q0 : List Nat} {v1 : Int} {m : aj_M} (hq0 : (.inl (6, q0) : aj_R) ∈ aj_pls) (h : wX6_isHalf f Φ q0 v1 m) : aj_Ct (n + 1) yX6_isHalf cX6_isHalf 2 (some .boolean) [vO 6 q0, vI v1] m (fun r m => ∃ z, r = some (vI z) ∧ Φ z m) := by
  refine aj_met (lv := [some (vO 6 q0), some (vI v1)]) (by decide +kernel) rfl (Nat.le_of_ble_eq_true rfl) (fun X C K => ?_)
  unfold wX6_isHalf at h
  refine aj_aload_n C dX6_isHalf_0 rfl ?_
  refine aj_iload_n C dX6_isHalf_1 rfl ?_
  refine aj_callV (rest := []) C mvX6_77 (sX6_hasArc hq0 h) hq0 (aj_np 1 (by decide +kernel) rfl) (Nat.le_of_ble_eq_true rfl) rfl dX6_isHalf_2 (fun r m1 h => ?_)
  obtain ⟨z1, rfl, h⟩ := h
  obtain ⟨r0, h1, h2⟩ := h
  refine aj_if_eq (tgt := 24) C dX6_isHalf_5 (by decide) r0 (fun e => ?_) (fun e => ?_)
  · have h := h1 e
    refine aj_iconst C dX6_isHalf_24 ?_
    exact aj_zret C K (Or.inl rfl) dX6_isHalf_25 ⟨_, rfl, h⟩
  · have h := h2 e
    refine aj_aload_n C dX6_isHalf_8 rfl ?_
    refine aj_getI C flX6_38 hq0 (by decide) dX6_isHalf_9 rfl ?_
    refine aj_iload_n C dX6_isHalf_12 rfl ?_
    refine aj_ishr C dX6_isHalf_13 ?_
    refine aj_iconst C dX6_isHalf_14 ?_
    refine aj_iand C dX6_isHalf_15 ?_
    refine aj_iconst C dX6_isHalf_16 ?_
    obtain ⟨r0, h1, h2⟩ := h
    refine aj_icmp_ne (tgt := 24) C dX6_isHalf_17 (by decide) r0 (by decide) (fun e => ?_) (fun e => ?_)
    · have h := h1 e
      refine aj_iconst C dX6_isHalf_24 ?_
      exact aj_zret C K (Or.inl rfl) dX6_isHalf_25 ⟨_, rfl, h⟩
    · have h := h2 e
      refine aj_iconst C dX6_isHalf_20 ?_
      refine aj_goto (tgt := 25) C dX6_isHalf_21 (by decide) ?_
      exact aj_zret C K (Or.inr rfl) dX6_isHalf_25 ⟨_, rfl, h⟩
theorem dX5_has_0 : decode cX5_has 0 = .ok (.iload_n 1, 1) := by decide +kernel
theorem dX5_has_1 : decode cX5_has 1 = .ok (.ifCond .lt 15, 3) := by decide +kernel
theorem dX5_has_4 : decode cX5_has 4 = .ok (.iload_n 1, 1) := by decide +kernel
theorem dX5_has_5 : decode cX5_has 5 = .ok (.aload_n 0, 1) := by decide +kernel
theorem dX5_has_6 : decode cX5_has 6 = .ok (.getfield 9, 3) := by decide +kernel
theorem dX5_has_9 : decode cX5_has 9 = .ok (.if_icmp .ge 7, 3) := by decide +kernel
theorem dX5_has_12 : decode cX5_has 12 = .ok (.iconst 1, 1) := by decide +kernel
theorem dX5_has_13 : decode cX5_has 13 = .ok (.goto 4, 3) := by decide +kernel
theorem dX5_has_16 : decode cX5_has 16 = .ok (.iconst 0, 1) := by decide +kernel
theorem dX5_has_17 : decode cX5_has 17 = .ok (.ireturn, 1) := by decide +kernel
def wX5_has (f : Nat) (Φ : Int → aj_M → Prop) (q0 : List Nat) (v1 : Int) (m : aj_M) : Prop := rI v1 ∧ (v1 < 0 → Φ 0 m) ∧ (¬ (v1 < 0) → rI v1 ∧ rI (m q0 0) ∧ ((m q0 0) ≤ v1 → Φ 0 m) ∧ (¬ ((m q0 0) ≤ v1) → Φ 1 m))
set_option maxHeartbeats 4000000 in
set_option maxRecDepth 100000 in
theorem sX5_has {n f : Nat} {Φ : Int → aj_M → Prop} {q0 : List Nat} {v1 : Int} {m : aj_M} (hq0 : (.inl (5, q0) : aj_R) ∈ aj_pls) (h : wX5_has f Φ q0 v1 m) : aj_Ct n yX5_has cX5_has 2 (some .boolean) [vO 5 q0, vI v1] m (fun r m => ∃ z, r = some (vI z) ∧ Φ z m) := by
  refine aj_met (lv := [some (vO 5 q0), some (vI v1)]) (by decide +kernel) rfl (Nat.le_of_ble_eq_true rfl) (fun X C K => ?_)
  unfold wX5_has at h
  refine aj_iload_n C dX5_has_0 rfl ?_
  obtain ⟨r0, h1, h2⟩ := h
  refine aj_if_lt (tgt := 16) C dX5_has_1 (by decide) r0 (fun e => ?_) (fun e => ?_)
  · have h := h1 e
    refine aj_iconst C dX5_has_16 ?_
    exact aj_zret C K (Or.inl rfl) dX5_has_17 ⟨_, rfl, h⟩
  · have h := h2 e
    refine aj_iload_n C dX5_has_4 rfl ?_
    refine aj_aload_n C dX5_has_5 rfl ?_
    refine aj_getI C flX5_9 hq0 (by decide) dX5_has_6 rfl ?_
    obtain ⟨r0, r1, h1, h2⟩ := h
    refine aj_icmp_ge (tgt := 16) C dX5_has_9 (by decide) r0 r1 (fun e => ?_) (fun e => ?_)
    · have h := h1 e
      refine aj_iconst C dX5_has_16 ?_
      exact aj_zret C K (Or.inl rfl) dX5_has_17 ⟨_, rfl, h⟩
    · have h := h2 e
      refine aj_iconst C dX5_has_12 ?_
      refine aj_goto (tgt := 17) C dX5_has_13 (by decide) ?_
      exact aj_zret C K (Or.inr rfl) dX5_has_17 ⟨_, rfl, h⟩
theorem dX5_addLink_0 : decode cX5_addLink 0 = .ok (.aload_n 0, 1) := by decide +kernel
theorem dX5_addLink_1 : decode cX5_addLink 1 = .ok (.getfield 15, 3) := by decide +kernel
theorem dX5_addLink_4 : decode cX5_addLink 4 = .ok (.sipush 144, 3) := by decide +kernel
theorem dX5_addLink_7 : decode cX5_addLink 7 = .ok (.if_icmp .ge 19, 3) := by decide +kernel
theorem dX5_addLink_10 : decode cX5_addLink 10 = .ok (.aload_n 0, 1) := by decide +kernel
theorem dX5_addLink_11 : decode cX5_addLink 11 = .ok (.iload_n 1, 1) := by decide +kernel
theorem dX5_addLink_12 : decode cX5_addLink 12 = .ok (.invokevirtual 122, 3) := by decide +kernel
theorem dX5_addLink_15 : decode cX5_addLink 15 = .ok (.ifCond .eq 11, 3) := by decide +kernel
theorem dX5_addLink_18 : decode cX5_addLink 18 = .ok (.aload_n 0, 1) := by decide +kernel
theorem dX5_addLink_19 : decode cX5_addLink 19 = .ok (.iload_n 2, 1) := by decide +kernel
theorem dX5_addLink_20 : decode cX5_addLink 20 = .ok (.invokevirtual 122, 3) := by decide +kernel
theorem dX5_addLink_23 : decode cX5_addLink 23 = .ok (.ifCond .ne 4, 3) := by decide +kernel
theorem dX5_addLink_26 : decode cX5_addLink 26 = .ok (.return_, 1) := by decide +kernel
theorem dX5_addLink_27 : decode cX5_addLink 27 = .ok (.aload_n 0, 1) := by decide +kernel
theorem dX5_addLink_28 : decode cX5_addLink 28 = .ok (.getfield 18, 3) := by decide +kernel
theorem dX5_addLink_31 : decode cX5_addLink 31 = .ok (.aload_n 0, 1) := by decide +kernel
theorem dX5_addLink_32 : decode cX5_addLink 32 = .ok (.getfield 15, 3) := by decide +kernel
theorem dX5_addLink_35 : decode cX5_addLink 35 = .ok (.iload_n 1, 1) := by decide +kernel
theorem dX5_addLink_36 : decode cX5_addLink 36 = .ok (.iastore, 1) := by decide +kernel
theorem dX5_addLink_37 : decode cX5_addLink 37 = .ok (.aload_n 0, 1) := by decide +kernel
theorem dX5_addLink_38 : decode cX5_addLink 38 = .ok (.getfield 22, 3) := by decide +kernel
theorem dX5_addLink_41 : decode cX5_addLink 41 = .ok (.aload_n 0, 1) := by decide +kernel
theorem dX5_addLink_42 : decode cX5_addLink 42 = .ok (.getfield 15, 3) := by decide +kernel
theorem dX5_addLink_45 : decode cX5_addLink 45 = .ok (.iload_n 2, 1) := by decide +kernel
theorem dX5_addLink_46 : decode cX5_addLink 46 = .ok (.iastore, 1) := by decide +kernel
theorem dX5_addLink_47 : decode cX5_addLink 47 = .ok (.aload_n 0, 1) := by decide +kernel
theorem dX5_addLink_48 : decode cX5_addLink 48 = .ok (.getfield 25, 3) := by decide +kernel
theorem dX5_addLink_51 : decode cX5_addLink 51 = .ok (.aload_n 0, 1) := by decide +kernel
theorem dX5_addLink_52 : decode cX5_addLink 52 = .ok (.getfield 15, 3) := by decide +kernel
theorem dX5_addLink_55 : decode cX5_addLink 55 = .ok (.iload_n 3, 1) := by decide +kernel
theorem dX5_addLink_56 : decode cX5_addLink 56 = .ok (.iastore, 1) := by decide +kernel
theorem dX5_addLink_57 : decode cX5_addLink 57 = .ok (.aload_n 0, 1) := by decide +kernel
theorem dX5_addLink_58 : decode cX5_addLink 58 = .ok (.getfield 28, 3) := by decide +kernel
theorem dX5_addLink_61 : decode cX5_addLink 61 = .ok (.aload_n 0, 1) := by decide +kernel
theorem dX5_addLink_62 : decode cX5_addLink 62 = .ok (.getfield 15, 3) := by decide +kernel
theorem dX5_addLink_65 : decode cX5_addLink 65 = .ok (.iload 4, 2) := by decide +kernel
theorem dX5_addLink_67 : decode cX5_addLink 67 = .ok (.iastore, 1) := by decide +kernel
theorem dX5_addLink_68 : decode cX5_addLink 68 = .ok (.aload_n 0, 1) := by decide +kernel
theorem dX5_addLink_69 : decode cX5_addLink 69 = .ok (.dup, 1) := by decide +kernel
theorem dX5_addLink_70 : decode cX5_addLink 70 = .ok (.getfield 15, 3) := by decide +kernel
theorem dX5_addLink_73 : decode cX5_addLink 73 = .ok (.iconst 1, 1) := by decide +kernel
theorem dX5_addLink_74 : decode cX5_addLink 74 = .ok (.iadd, 1) := by decide +kernel
theorem dX5_addLink_75 : decode cX5_addLink 75 = .ok (.putfield 15, 3) := by decide +kernel
theorem dX5_addLink_78 : decode cX5_addLink 78 = .ok (.return_, 1) := by decide +kernel
def wX5_addLink (f : Nat) (Φ : aj_M → Prop) (q0 : List Nat) (v1 : Int) (v2 : Int) (v3 : Int) (v4 : Int) (m : aj_M) : Prop := rI (m q0 1) ∧ (144 ≤ (m q0 1) → Φ m) ∧ (¬ (144 ≤ (m q0 1)) → wX5_has f (fun z1 m1 => rI z1 ∧ (z1 = 0 → Φ m1) ∧ (¬ (z1 = 0) → wX5_has f (fun z2 m2 => rI z2 ∧ (¬ z2 = 0 → (0 ≤ (m2 q0 1) ∧ (m2 q0 1) < 144) ∧ ∀ m3, m3 = aj_u m2 (2 :: q0) (m2 q0 1).toNat v1 → (0 ≤ (m3 q0 1) ∧ (m3 q0 1) < 144) ∧ ∀ m4, m4 = aj_u m3 (3 :: q0) (m3 q0 1).toNat v2 → (0 ≤ (m4 q0 1) ∧ (m4 q0 1) < 144) ∧ ∀ m5, m5 = aj_u m4 (4 :: q0) (m4 q0 1).toNat v3 → (0 ≤ (m5 q0 1) ∧ (m5 q0 1) < 144) ∧ ∀ m6, m6 = aj_u m5 (5 :: q0) (m5 q0 1).toNat v4 → ∀ m7, m7 = aj_u m6 q0 1 ((m6 q0 1) + 1) → Φ m7) ∧ (z2 = 0 → Φ m2)) q0 v2 m1)) q0 v1 m)
set_option maxHeartbeats 4000000 in
set_option maxRecDepth 100000 in
theorem sX5_addLink {n f : Nat} {Φ : aj_M → Prop} {q0 : List Nat} {v1 : Int} {v2 : Int} {v3 : Int} {v4 : Int} {m : aj_M} (hq0 : (.inl (5, q0) : aj_R) ∈ aj_pls) (h : wX5_addLink f Φ q0 v1 v2 v3 v4 m) : aj_Ct (n + 1) yX5_addLink cX5_addLink 5 none [vO 5 q0, vI v1, vI v2, vI v3, vI v4] m (fun r m => r = none ∧ Φ m) := by
  refine aj_met (lv := [some (vO 5 q0), some (vI v1), some (vI v2), some (vI v3), some (vI v4)]) (by decide +kernel) rfl (Nat.le_of_ble_eq_true rfl) (fun X C K => ?_)
  unfold wX5_addLink at h
  refine aj_aload_n C dX5_addLink_0 rfl ?_
  refine aj_getI C flX5_15 hq0 (by decide) dX5_addLink_1 rfl ?_
  refine aj_sipush C dX5_addLink_4 (by decide) ?_
  obtain ⟨r0, h1, h2⟩ := h
  refine aj_icmp_ge (tgt := 26) C dX5_addLink_7 (by decide) r0 (by decide) (fun e => ?_) (fun e => ?_)
  · have h := h1 e
    exact aj_vret C K dX5_addLink_26 ⟨rfl, h⟩
  · have h := h2 e
    refine aj_aload_n C dX5_addLink_10 rfl ?_
    refine aj_iload_n C dX5_addLink_11 rfl ?_
    refine aj_callV (rest := []) C mvX5_122 (sX5_has hq0 h) hq0 (aj_np 1 (by decide +kernel) rfl) (Nat.le_of_ble_eq_true rfl) rfl dX5_addLink_12 (fun r m1 h => ?_)
    obtain ⟨z1, rfl, h⟩ := h
    obtain ⟨r0, h1, h2⟩ := h
    refine aj_if_eq (tgt := 26) C dX5_addLink_15 (by decide) r0 (fun e => ?_) (fun e => ?_)
    · have h := h1 e
      exact aj_vret C K dX5_addLink_26 ⟨rfl, h⟩
    · have h := h2 e
      refine aj_aload_n C dX5_addLink_18 rfl ?_
      refine aj_iload_n C dX5_addLink_19 rfl ?_
      refine aj_callV (rest := []) C mvX5_122 (sX5_has hq0 h) hq0 (aj_np 1 (by decide +kernel) rfl) (Nat.le_of_ble_eq_true rfl) rfl dX5_addLink_20 (fun r m2 h => ?_)
      obtain ⟨z2, rfl, h⟩ := h
      obtain ⟨r0, h1, h2⟩ := h
      refine aj_if_ne (tgt := 27) C dX5_addLink_23 (by decide) r0 (fun e => ?_) (fun e => ?_)
      · have h := h1 e
        refine aj_aload_n C dX5_addLink_27 rfl ?_
        refine aj_getA (x := 0) (y := 144) C flX5_18 hq0 rfl dX5_addLink_28 ?_
        refine aj_aload_n C dX5_addLink_31 rfl ?_
        refine aj_getI C flX5_15 hq0 (by decide) dX5_addLink_32 rfl ?_
        refine aj_iload_n C dX5_addLink_35 rfl ?_
        obtain ⟨r0, h⟩ := h
        refine aj_iast C (aj_ca (e := 0) (n := 144) (j := 2) hq0 (by decide) rfl) (by decide) r0 dX5_addLink_36 ?_
        refine aj_nm (fun m3 e1 => ?_)
        have h := h m3 e1
        refine aj_aload_n C dX5_addLink_37 rfl ?_
        refine aj_getA (x := 0) (y := 144) C flX5_22 hq0 rfl dX5_addLink_38 ?_
        refine aj_aload_n C dX5_addLink_41 rfl ?_
        refine aj_getI C flX5_15 hq0 (by decide) dX5_addLink_42 rfl ?_
        refine aj_iload_n C dX5_addLink_45 rfl ?_
        obtain ⟨r0, h⟩ := h
        refine aj_iast C (aj_ca (e := 0) (n := 144) (j := 3) hq0 (by decide) rfl) (by decide) r0 dX5_addLink_46 ?_
        refine aj_nm (fun m4 e1 => ?_)
        have h := h m4 e1
        refine aj_aload_n C dX5_addLink_47 rfl ?_
        refine aj_getA (x := 0) (y := 144) C flX5_25 hq0 rfl dX5_addLink_48 ?_
        refine aj_aload_n C dX5_addLink_51 rfl ?_
        refine aj_getI C flX5_15 hq0 (by decide) dX5_addLink_52 rfl ?_
        refine aj_iload_n C dX5_addLink_55 rfl ?_
        obtain ⟨r0, h⟩ := h
        refine aj_iast C (aj_ca (e := 0) (n := 144) (j := 4) hq0 (by decide) rfl) (by decide) r0 dX5_addLink_56 ?_
        refine aj_nm (fun m5 e1 => ?_)
        have h := h m5 e1
        refine aj_aload_n C dX5_addLink_57 rfl ?_
        refine aj_getA (x := 0) (y := 144) C flX5_28 hq0 rfl dX5_addLink_58 ?_
        refine aj_aload_n C dX5_addLink_61 rfl ?_
        refine aj_getI C flX5_15 hq0 (by decide) dX5_addLink_62 rfl ?_
        refine aj_iload C dX5_addLink_65 rfl ?_
        obtain ⟨r0, h⟩ := h
        refine aj_iast C (aj_ca (e := 0) (n := 144) (j := 5) hq0 (by decide) rfl) (by decide) r0 dX5_addLink_67 ?_
        refine aj_nm (fun m6 e1 => ?_)
        have h := h m6 e1
        refine aj_aload_n C dX5_addLink_68 rfl ?_
        refine aj_dup C aj_nR dX5_addLink_69 ?_
        refine aj_getI C flX5_15 hq0 (by decide) dX5_addLink_70 rfl ?_
        refine aj_iconst C dX5_addLink_73 ?_
        refine aj_iadd C dX5_addLink_74 ?_
        refine aj_putI C fpX5_15 hq0 rfl dX5_addLink_75 ?_
        refine aj_nm (fun m7 e1 => ?_)
        have h := h m7 e1
        exact aj_vret C K dX5_addLink_78 ⟨rfl, h⟩
      · have h := h2 e
        exact aj_vret C K dX5_addLink_26 ⟨rfl, h⟩
theorem dX5_sortEnds_0 : decode cX5_sortEnds 0 = .ok (.aload_n 0, 1) := by decide +kernel
theorem dX5_sortEnds_1 : decode cX5_sortEnds 1 = .ok (.getfield 38, 3) := by decide +kernel
theorem dX5_sortEnds_4 : decode cX5_sortEnds 4 = .ok (.iconst 0, 1) := by decide +kernel
theorem dX5_sortEnds_5 : decode cX5_sortEnds 5 = .ok (.invokestatic 125, 3) := by decide +kernel
theorem dX5_sortEnds_8 : decode cX5_sortEnds 8 = .ok (.iconst 0, 1) := by decide +kernel
theorem dX5_sortEnds_9 : decode cX5_sortEnds 9 = .ok (.istore_n 1, 1) := by decide +kernel
theorem dX5_sortEnds_10 : decode cX5_sortEnds 10 = .ok (.iload_n 1, 1) := by decide +kernel
theorem dX5_sortEnds_11 : decode cX5_sortEnds 11 = .ok (.aload_n 0, 1) := by decide +kernel
theorem dX5_sortEnds_12 : decode cX5_sortEnds 12 = .ok (.getfield 15, 3) := by decide +kernel
theorem dX5_sortEnds_15 : decode cX5_sortEnds 15 = .ok (.if_icmp .ge 43, 3) := by decide +kernel
theorem dX5_sortEnds_18 : decode cX5_sortEnds 18 = .ok (.aload_n 0, 1) := by decide +kernel
theorem dX5_sortEnds_19 : decode cX5_sortEnds 19 = .ok (.getfield 38, 3) := by decide +kernel
theorem dX5_sortEnds_22 : decode cX5_sortEnds 22 = .ok (.aload_n 0, 1) := by decide +kernel
theorem dX5_sortEnds_23 : decode cX5_sortEnds 23 = .ok (.getfield 18, 3) := by decide +kernel
theorem dX5_sortEnds_26 : decode cX5_sortEnds 26 = .ok (.iload_n 1, 1) := by decide +kernel
theorem dX5_sortEnds_27 : decode cX5_sortEnds 27 = .ok (.iaload, 1) := by decide +kernel
theorem dX5_sortEnds_28 : decode cX5_sortEnds 28 = .ok (.iconst 2, 1) := by decide +kernel
theorem dX5_sortEnds_29 : decode cX5_sortEnds 29 = .ok (.iadd, 1) := by decide +kernel
theorem dX5_sortEnds_30 : decode cX5_sortEnds 30 = .ok (.dup2, 1) := by decide +kernel
theorem dX5_sortEnds_31 : decode cX5_sortEnds 31 = .ok (.iaload, 1) := by decide +kernel
theorem dX5_sortEnds_32 : decode cX5_sortEnds 32 = .ok (.iconst 1, 1) := by decide +kernel
theorem dX5_sortEnds_33 : decode cX5_sortEnds 33 = .ok (.iadd, 1) := by decide +kernel
theorem dX5_sortEnds_34 : decode cX5_sortEnds 34 = .ok (.iastore, 1) := by decide +kernel
theorem dX5_sortEnds_35 : decode cX5_sortEnds 35 = .ok (.aload_n 0, 1) := by decide +kernel
theorem dX5_sortEnds_36 : decode cX5_sortEnds 36 = .ok (.getfield 38, 3) := by decide +kernel
theorem dX5_sortEnds_39 : decode cX5_sortEnds 39 = .ok (.aload_n 0, 1) := by decide +kernel
theorem dX5_sortEnds_40 : decode cX5_sortEnds 40 = .ok (.getfield 22, 3) := by decide +kernel
theorem dX5_sortEnds_43 : decode cX5_sortEnds 43 = .ok (.iload_n 1, 1) := by decide +kernel
theorem dX5_sortEnds_44 : decode cX5_sortEnds 44 = .ok (.iaload, 1) := by decide +kernel
theorem dX5_sortEnds_45 : decode cX5_sortEnds 45 = .ok (.iconst 2, 1) := by decide +kernel
theorem dX5_sortEnds_46 : decode cX5_sortEnds 46 = .ok (.iadd, 1) := by decide +kernel
theorem dX5_sortEnds_47 : decode cX5_sortEnds 47 = .ok (.dup2, 1) := by decide +kernel
theorem dX5_sortEnds_48 : decode cX5_sortEnds 48 = .ok (.iaload, 1) := by decide +kernel
theorem dX5_sortEnds_49 : decode cX5_sortEnds 49 = .ok (.iconst 1, 1) := by decide +kernel
theorem dX5_sortEnds_50 : decode cX5_sortEnds 50 = .ok (.iadd, 1) := by decide +kernel
theorem dX5_sortEnds_51 : decode cX5_sortEnds 51 = .ok (.iastore, 1) := by decide +kernel
theorem dX5_sortEnds_52 : decode cX5_sortEnds 52 = .ok (.iinc 1 1, 3) := by decide +kernel
theorem dX5_sortEnds_55 : decode cX5_sortEnds 55 = .ok (.goto (-45), 3) := by decide +kernel
theorem dX5_sortEnds_58 : decode cX5_sortEnds 58 = .ok (.iconst 2, 1) := by decide +kernel
theorem dX5_sortEnds_59 : decode cX5_sortEnds 59 = .ok (.istore_n 1, 1) := by decide +kernel
theorem dX5_sortEnds_60 : decode cX5_sortEnds 60 = .ok (.iload_n 1, 1) := by decide +kernel
theorem dX5_sortEnds_61 : decode cX5_sortEnds 61 = .ok (.aload_n 0, 1) := by decide +kernel
theorem dX5_sortEnds_62 : decode cX5_sortEnds 62 = .ok (.getfield 9, 3) := by decide +kernel
theorem dX5_sortEnds_65 : decode cX5_sortEnds 65 = .ok (.iconst 1, 1) := by decide +kernel
theorem dX5_sortEnds_66 : decode cX5_sortEnds 66 = .ok (.iadd, 1) := by decide +kernel
theorem dX5_sortEnds_67 : decode cX5_sortEnds 67 = .ok (.if_icmp .gt 26, 3) := by decide +kernel
theorem dX5_sortEnds_70 : decode cX5_sortEnds 70 = .ok (.aload_n 0, 1) := by decide +kernel
theorem dX5_sortEnds_71 : decode cX5_sortEnds 71 = .ok (.getfield 38, 3) := by decide +kernel
theorem dX5_sortEnds_74 : decode cX5_sortEnds 74 = .ok (.iload_n 1, 1) := by decide +kernel
theorem dX5_sortEnds_75 : decode cX5_sortEnds 75 = .ok (.dup2, 1) := by decide +kernel
theorem dX5_sortEnds_76 : decode cX5_sortEnds 76 = .ok (.iaload, 1) := by decide +kernel
theorem dX5_sortEnds_77 : decode cX5_sortEnds 77 = .ok (.aload_n 0, 1) := by decide +kernel
theorem dX5_sortEnds_78 : decode cX5_sortEnds 78 = .ok (.getfield 38, 3) := by decide +kernel
theorem dX5_sortEnds_81 : decode cX5_sortEnds 81 = .ok (.iload_n 1, 1) := by decide +kernel
theorem dX5_sortEnds_82 : decode cX5_sortEnds 82 = .ok (.iconst 1, 1) := by decide +kernel
theorem dX5_sortEnds_83 : decode cX5_sortEnds 83 = .ok (.isub, 1) := by decide +kernel
theorem dX5_sortEnds_84 : decode cX5_sortEnds 84 = .ok (.iaload, 1) := by decide +kernel
theorem dX5_sortEnds_85 : decode cX5_sortEnds 85 = .ok (.iadd, 1) := by decide +kernel
theorem dX5_sortEnds_86 : decode cX5_sortEnds 86 = .ok (.iastore, 1) := by decide +kernel
theorem dX5_sortEnds_87 : decode cX5_sortEnds 87 = .ok (.iinc 1 1, 3) := by decide +kernel
theorem dX5_sortEnds_90 : decode cX5_sortEnds 90 = .ok (.goto (-30), 3) := by decide +kernel
theorem dX5_sortEnds_93 : decode cX5_sortEnds 93 = .ok (.iconst 0, 1) := by decide +kernel
theorem dX5_sortEnds_94 : decode cX5_sortEnds 94 = .ok (.istore_n 1, 1) := by decide +kernel
theorem dX5_sortEnds_95 : decode cX5_sortEnds 95 = .ok (.iload_n 1, 1) := by decide +kernel
theorem dX5_sortEnds_96 : decode cX5_sortEnds 96 = .ok (.aload_n 0, 1) := by decide +kernel
theorem dX5_sortEnds_97 : decode cX5_sortEnds 97 = .ok (.getfield 15, 3) := by decide +kernel
theorem dX5_sortEnds_100 : decode cX5_sortEnds 100 = .ok (.if_icmp .ge 81, 3) := by decide +kernel
theorem dX5_sortEnds_103 : decode cX5_sortEnds 103 = .ok (.aload_n 0, 1) := by decide +kernel
theorem dX5_sortEnds_104 : decode cX5_sortEnds 104 = .ok (.getfield 41, 3) := by decide +kernel
theorem dX5_sortEnds_107 : decode cX5_sortEnds 107 = .ok (.aload_n 0, 1) := by decide +kernel
theorem dX5_sortEnds_108 : decode cX5_sortEnds 108 = .ok (.getfield 38, 3) := by decide +kernel
theorem dX5_sortEnds_111 : decode cX5_sortEnds 111 = .ok (.aload_n 0, 1) := by decide +kernel
theorem dX5_sortEnds_112 : decode cX5_sortEnds 112 = .ok (.getfield 18, 3) := by decide +kernel
theorem dX5_sortEnds_115 : decode cX5_sortEnds 115 = .ok (.iload_n 1, 1) := by decide +kernel
theorem dX5_sortEnds_116 : decode cX5_sortEnds 116 = .ok (.iaload, 1) := by decide +kernel
theorem dX5_sortEnds_117 : decode cX5_sortEnds 117 = .ok (.iconst 1, 1) := by decide +kernel
theorem dX5_sortEnds_118 : decode cX5_sortEnds 118 = .ok (.iadd, 1) := by decide +kernel
theorem dX5_sortEnds_119 : decode cX5_sortEnds 119 = .ok (.iaload, 1) := by decide +kernel
theorem dX5_sortEnds_120 : decode cX5_sortEnds 120 = .ok (.iload_n 1, 1) := by decide +kernel
theorem dX5_sortEnds_121 : decode cX5_sortEnds 121 = .ok (.iastore, 1) := by decide +kernel
theorem dX5_sortEnds_122 : decode cX5_sortEnds 122 = .ok (.aload_n 0, 1) := by decide +kernel
theorem dX5_sortEnds_123 : decode cX5_sortEnds 123 = .ok (.getfield 38, 3) := by decide +kernel
theorem dX5_sortEnds_126 : decode cX5_sortEnds 126 = .ok (.aload_n 0, 1) := by decide +kernel
theorem dX5_sortEnds_127 : decode cX5_sortEnds 127 = .ok (.getfield 18, 3) := by decide +kernel
theorem dX5_sortEnds_130 : decode cX5_sortEnds 130 = .ok (.iload_n 1, 1) := by decide +kernel
theorem dX5_sortEnds_131 : decode cX5_sortEnds 131 = .ok (.iaload, 1) := by decide +kernel
theorem dX5_sortEnds_132 : decode cX5_sortEnds 132 = .ok (.iconst 1, 1) := by decide +kernel
theorem dX5_sortEnds_133 : decode cX5_sortEnds 133 = .ok (.iadd, 1) := by decide +kernel
theorem dX5_sortEnds_134 : decode cX5_sortEnds 134 = .ok (.dup2, 1) := by decide +kernel
theorem dX5_sortEnds_135 : decode cX5_sortEnds 135 = .ok (.iaload, 1) := by decide +kernel
theorem dX5_sortEnds_136 : decode cX5_sortEnds 136 = .ok (.iconst 1, 1) := by decide +kernel
theorem dX5_sortEnds_137 : decode cX5_sortEnds 137 = .ok (.iadd, 1) := by decide +kernel
theorem dX5_sortEnds_138 : decode cX5_sortEnds 138 = .ok (.iastore, 1) := by decide +kernel
theorem dX5_sortEnds_139 : decode cX5_sortEnds 139 = .ok (.aload_n 0, 1) := by decide +kernel
theorem dX5_sortEnds_140 : decode cX5_sortEnds 140 = .ok (.getfield 41, 3) := by decide +kernel
theorem dX5_sortEnds_143 : decode cX5_sortEnds 143 = .ok (.aload_n 0, 1) := by decide +kernel
theorem dX5_sortEnds_144 : decode cX5_sortEnds 144 = .ok (.getfield 38, 3) := by decide +kernel
theorem dX5_sortEnds_147 : decode cX5_sortEnds 147 = .ok (.aload_n 0, 1) := by decide +kernel
theorem dX5_sortEnds_148 : decode cX5_sortEnds 148 = .ok (.getfield 22, 3) := by decide +kernel
theorem dX5_sortEnds_151 : decode cX5_sortEnds 151 = .ok (.iload_n 1, 1) := by decide +kernel
theorem dX5_sortEnds_152 : decode cX5_sortEnds 152 = .ok (.iaload, 1) := by decide +kernel
theorem dX5_sortEnds_153 : decode cX5_sortEnds 153 = .ok (.iconst 1, 1) := by decide +kernel
theorem dX5_sortEnds_154 : decode cX5_sortEnds 154 = .ok (.iadd, 1) := by decide +kernel
theorem dX5_sortEnds_155 : decode cX5_sortEnds 155 = .ok (.iaload, 1) := by decide +kernel
theorem dX5_sortEnds_156 : decode cX5_sortEnds 156 = .ok (.iload_n 1, 1) := by decide +kernel
theorem dX5_sortEnds_157 : decode cX5_sortEnds 157 = .ok (.iastore, 1) := by decide +kernel
theorem dX5_sortEnds_158 : decode cX5_sortEnds 158 = .ok (.aload_n 0, 1) := by decide +kernel
theorem dX5_sortEnds_159 : decode cX5_sortEnds 159 = .ok (.getfield 38, 3) := by decide +kernel
theorem dX5_sortEnds_162 : decode cX5_sortEnds 162 = .ok (.aload_n 0, 1) := by decide +kernel
theorem dX5_sortEnds_163 : decode cX5_sortEnds 163 = .ok (.getfield 22, 3) := by decide +kernel
theorem dX5_sortEnds_166 : decode cX5_sortEnds 166 = .ok (.iload_n 1, 1) := by decide +kernel
theorem dX5_sortEnds_167 : decode cX5_sortEnds 167 = .ok (.iaload, 1) := by decide +kernel
theorem dX5_sortEnds_168 : decode cX5_sortEnds 168 = .ok (.iconst 1, 1) := by decide +kernel
theorem dX5_sortEnds_169 : decode cX5_sortEnds 169 = .ok (.iadd, 1) := by decide +kernel
theorem dX5_sortEnds_170 : decode cX5_sortEnds 170 = .ok (.dup2, 1) := by decide +kernel
theorem dX5_sortEnds_171 : decode cX5_sortEnds 171 = .ok (.iaload, 1) := by decide +kernel
theorem dX5_sortEnds_172 : decode cX5_sortEnds 172 = .ok (.iconst 1, 1) := by decide +kernel
theorem dX5_sortEnds_173 : decode cX5_sortEnds 173 = .ok (.iadd, 1) := by decide +kernel
theorem dX5_sortEnds_174 : decode cX5_sortEnds 174 = .ok (.iastore, 1) := by decide +kernel
theorem dX5_sortEnds_175 : decode cX5_sortEnds 175 = .ok (.iinc 1 1, 3) := by decide +kernel
theorem dX5_sortEnds_178 : decode cX5_sortEnds 178 = .ok (.goto (-83), 3) := by decide +kernel
theorem dX5_sortEnds_181 : decode cX5_sortEnds 181 = .ok (.return_, 1) := by decide +kernel
def hX5_sortEnds_95 (f : Nat) (Φ : aj_M → Prop) : Nat → List Nat → Int → aj_M → Prop
  | 0, _, _, _ => False
  | k + 1, q0, v1, m => rI v1 ∧ rI (m q0 1) ∧ ((m q0 1) ≤ v1 → Φ m) ∧ (¬ ((m q0 1) ≤ v1) → (0 ≤ v1 ∧ v1 < 144) ∧ (0 ≤ ((m (2 :: q0) v1.toNat) + 1) ∧ ((m (2 :: q0) v1.toNat) + 1) < 62) ∧ (0 ≤ (m (8 :: q0) ((m (2 :: q0) v1.toNat) + 1).toNat) ∧ (m (8 :: q0) ((m (2 :: q0) v1.toNat) + 1).toNat) < 288) ∧ ∀ m1, m1 = aj_u m (9 :: q0) (m (8 :: q0) ((m (2 :: q0) v1.toNat) + 1).toNat).toNat v1 → (0 ≤ v1 ∧ v1 < 144) ∧ (0 ≤ ((m1 (2 :: q0) v1.toNat) + 1) ∧ ((m1 (2 :: q0) v1.toNat) + 1) < 62) ∧ (0 ≤ ((m1 (2 :: q0) v1.toNat) + 1) ∧ ((m1 (2 :: q0) v1.toNat) + 1) < 62) ∧ ∀ m2, m2 = aj_u m1 (8 :: q0) ((m1 (2 :: q0) v1.toNat) + 1).toNat ((m1 (8 :: q0) ((m1 (2 :: q0) v1.toNat) + 1).toNat) + 1) → (0 ≤ v1 ∧ v1 < 144) ∧ (0 ≤ ((m2 (3 :: q0) v1.toNat) + 1) ∧ ((m2 (3 :: q0) v1.toNat) + 1) < 62) ∧ (0 ≤ (m2 (8 :: q0) ((m2 (3 :: q0) v1.toNat) + 1).toNat) ∧ (m2 (8 :: q0) ((m2 (3 :: q0) v1.toNat) + 1).toNat) < 288) ∧ ∀ m3, m3 = aj_u m2 (9 :: q0) (m2 (8 :: q0) ((m2 (3 :: q0) v1.toNat) + 1).toNat).toNat v1 → (0 ≤ v1 ∧ v1 < 144) ∧ (0 ≤ ((m3 (3 :: q0) v1.toNat) + 1) ∧ ((m3 (3 :: q0) v1.toNat) + 1) < 62) ∧ (0 ≤ ((m3 (3 :: q0) v1.toNat) + 1) ∧ ((m3 (3 :: q0) v1.toNat) + 1) < 62) ∧ ∀ m4, m4 = aj_u m3 (8 :: q0) ((m3 (3 :: q0) v1.toNat) + 1).toNat ((m3 (8 :: q0) ((m3 (3 :: q0) v1.toNat) + 1).toNat) + 1) → hX5_sortEnds_95 f Φ k q0 (v1 + 1) m4)
set_option maxHeartbeats 4000000 in
set_option maxRecDepth 100000 in
theorem tX5_sortEnds_95 {X : aj_T} {n f : Nat} {Φ : aj_M → Prop} (C : aj_Cx X cX5_sortEnds RX5 2 (n + 1)) (K : aj_Rt X none (fun r m => r = none ∧ Φ m)) : ∀ (k : Nat) (q0 : List Nat) (v1 : Int) (m : aj_M) (hq0 : (.inl (5, q0) : aj_R) ∈ aj_pls), hX5_sortEnds_95 f Φ k q0 v1 m → aj_J X 95 [some (vO 5 q0), some (vI v1)] [] m := by
  intro k
  induction k with
  | zero =>
    intro q0 v1 m _ h
    exact h.elim
  | succ k ih =>
    intro q0 v1 m hq0 h
    unfold hX5_sortEnds_95 at h
    refine aj_iload_n C dX5_sortEnds_95 rfl ?_
    refine aj_aload_n C dX5_sortEnds_96 rfl ?_
    refine aj_getI C flX5_15 hq0 (by decide) dX5_sortEnds_97 rfl ?_
    obtain ⟨r0, r1, h1, h2⟩ := h
    refine aj_icmp_ge (tgt := 181) C dX5_sortEnds_100 (by decide) r0 r1 (fun e => ?_) (fun e => ?_)
    · have h := h1 e
      exact aj_vret C K dX5_sortEnds_181 ⟨rfl, h⟩
    · have h := h2 e
      refine aj_aload_n C dX5_sortEnds_103 rfl ?_
      refine aj_getA (x := 0) (y := 288) C flX5_41 hq0 rfl dX5_sortEnds_104 ?_
      refine aj_aload_n C dX5_sortEnds_107 rfl ?_
      refine aj_getA (x := 0) (y := 62) C flX5_38 hq0 rfl dX5_sortEnds_108 ?_
      refine aj_aload_n C dX5_sortEnds_111 rfl ?_
      refine aj_getA (x := 0) (y := 144) C flX5_18 hq0 rfl dX5_sortEnds_112 ?_
      refine aj_iload_n C dX5_sortEnds_115 rfl ?_
      obtain ⟨r0, h⟩ := h
      refine aj_iald C (aj_ca (e := 0) (n := 144) (j := 2) hq0 (by decide) rfl) (by decide) r0 dX5_sortEnds_116 rfl ?_
      refine aj_iconst C dX5_sortEnds_117 ?_
      refine aj_iadd C dX5_sortEnds_118 ?_
      obtain ⟨r0, h⟩ := h
      refine aj_iald C (aj_ca (e := 0) (n := 62) (j := 8) hq0 (by decide) rfl) (by decide) r0 dX5_sortEnds_119 rfl ?_
      refine aj_iload_n C dX5_sortEnds_120 rfl ?_
      obtain ⟨r0, h⟩ := h
      refine aj_iast C (aj_ca (e := 0) (n := 288) (j := 9) hq0 (by decide) rfl) (by decide) r0 dX5_sortEnds_121 ?_
      refine aj_nm (fun m1 e1 => ?_)
      have h := h m1 e1
      refine aj_aload_n C dX5_sortEnds_122 rfl ?_
      refine aj_getA (x := 0) (y := 62) C flX5_38 hq0 rfl dX5_sortEnds_123 ?_
      refine aj_aload_n C dX5_sortEnds_126 rfl ?_
      refine aj_getA (x := 0) (y := 144) C flX5_18 hq0 rfl dX5_sortEnds_127 ?_
      refine aj_iload_n C dX5_sortEnds_130 rfl ?_
      obtain ⟨r0, h⟩ := h
      refine aj_iald C (aj_ca (e := 0) (n := 144) (j := 2) hq0 (by decide) rfl) (by decide) r0 dX5_sortEnds_131 rfl ?_
      refine aj_iconst C dX5_sortEnds_132 ?_
      refine aj_iadd C dX5_sortEnds_133 ?_
      refine aj_dup2 C aj_nI aj_nR dX5_sortEnds_134 ?_
      obtain ⟨r0, h⟩ := h
      refine aj_iald C (aj_ca (e := 0) (n := 62) (j := 8) hq0 (by decide) rfl) (by decide) r0 dX5_sortEnds_135 rfl ?_
      refine aj_iconst C dX5_sortEnds_136 ?_
      refine aj_iadd C dX5_sortEnds_137 ?_
      obtain ⟨r0, h⟩ := h
      refine aj_iast C (aj_ca (e := 0) (n := 62) (j := 8) hq0 (by decide) rfl) (by decide) r0 dX5_sortEnds_138 ?_
      refine aj_nm (fun m2 e1 => ?_)
      have h := h m2 e1
      refine aj_aload_n C dX5_sortEnds_139 rfl ?_
      refine aj_getA (x := 0) (y := 288) C flX5_41 hq0 rfl dX5_sortEnds_140 ?_
      refine aj_aload_n C dX5_sortEnds_143 rfl ?_
      refine aj_getA (x := 0) (y := 62) C flX5_38 hq0 rfl dX5_sortEnds_144 ?_
      refine aj_aload_n C dX5_sortEnds_147 rfl ?_
      refine aj_getA (x := 0) (y := 144) C flX5_22 hq0 rfl dX5_sortEnds_148 ?_
      refine aj_iload_n C dX5_sortEnds_151 rfl ?_
      obtain ⟨r0, h⟩ := h
      refine aj_iald C (aj_ca (e := 0) (n := 144) (j := 3) hq0 (by decide) rfl) (by decide) r0 dX5_sortEnds_152 rfl ?_
      refine aj_iconst C dX5_sortEnds_153 ?_
      refine aj_iadd C dX5_sortEnds_154 ?_
      obtain ⟨r0, h⟩ := h
      refine aj_iald C (aj_ca (e := 0) (n := 62) (j := 8) hq0 (by decide) rfl) (by decide) r0 dX5_sortEnds_155 rfl ?_
      refine aj_iload_n C dX5_sortEnds_156 rfl ?_
      obtain ⟨r0, h⟩ := h
      refine aj_iast C (aj_ca (e := 0) (n := 288) (j := 9) hq0 (by decide) rfl) (by decide) r0 dX5_sortEnds_157 ?_
      refine aj_nm (fun m3 e1 => ?_)
      have h := h m3 e1
      refine aj_aload_n C dX5_sortEnds_158 rfl ?_
      refine aj_getA (x := 0) (y := 62) C flX5_38 hq0 rfl dX5_sortEnds_159 ?_
      refine aj_aload_n C dX5_sortEnds_162 rfl ?_
      refine aj_getA (x := 0) (y := 144) C flX5_22 hq0 rfl dX5_sortEnds_163 ?_
      refine aj_iload_n C dX5_sortEnds_166 rfl ?_
      obtain ⟨r0, h⟩ := h
      refine aj_iald C (aj_ca (e := 0) (n := 144) (j := 3) hq0 (by decide) rfl) (by decide) r0 dX5_sortEnds_167 rfl ?_
      refine aj_iconst C dX5_sortEnds_168 ?_
      refine aj_iadd C dX5_sortEnds_169 ?_
      refine aj_dup2 C aj_nI aj_nR dX5_sortEnds_170 ?_
      obtain ⟨r0, h⟩ := h
      refine aj_iald C (aj_ca (e := 0) (n := 62) (j := 8) hq0 (by decide) rfl) (by decide) r0 dX5_sortEnds_171 rfl ?_
      refine aj_iconst C dX5_sortEnds_172 ?_
      refine aj_iadd C dX5_sortEnds_173 ?_
      obtain ⟨r0, h⟩ := h
      refine aj_iast C (aj_ca (e := 0) (n := 62) (j := 8) hq0 (by decide) rfl) (by decide) r0 dX5_sortEnds_174 ?_
      refine aj_nm (fun m4 e1 => ?_)
      have h := h m4 e1
      refine aj_iinc (lv' := [some (vO 5 q0), some (vI (v1 + 1))]) C dX5_sortEnds_175 rfl (by decide) rfl ?_
      refine aj_goto (tgt := 95) C dX5_sortEnds_178 (by decide) ?_
      exact ih q0 (v1 + 1) _ hq0 h
def hX5_sortEnds_60 (f : Nat) (Φ : aj_M → Prop) : Nat → List Nat → Int → aj_M → Prop
  | 0, _, _, _ => False
  | k + 1, q0, v1, m => rI v1 ∧ rI ((m q0 0) + 1) ∧ (((m q0 0) + 1) < v1 → hX5_sortEnds_95 f Φ f q0 0 m) ∧ (¬ (((m q0 0) + 1) < v1) → (0 ≤ v1 ∧ v1 < 62) ∧ (0 ≤ (v1 - 1) ∧ (v1 - 1) < 62) ∧ (0 ≤ v1 ∧ v1 < 62) ∧ ∀ m1, m1 = aj_u m (8 :: q0) v1.toNat ((m (8 :: q0) v1.toNat) + (m (8 :: q0) (v1 - 1).toNat)) → hX5_sortEnds_60 f Φ k q0 (v1 + 1) m1)
set_option maxHeartbeats 4000000 in
set_option maxRecDepth 100000 in
theorem tX5_sortEnds_60 {X : aj_T} {n f : Nat} {Φ : aj_M → Prop} (C : aj_Cx X cX5_sortEnds RX5 2 (n + 1)) (K : aj_Rt X none (fun r m => r = none ∧ Φ m)) : ∀ (k : Nat) (q0 : List Nat) (v1 : Int) (m : aj_M) (hq0 : (.inl (5, q0) : aj_R) ∈ aj_pls), hX5_sortEnds_60 f Φ k q0 v1 m → aj_J X 60 [some (vO 5 q0), some (vI v1)] [] m := by
  intro k
  induction k with
  | zero =>
    intro q0 v1 m _ h
    exact h.elim
  | succ k ih =>
    intro q0 v1 m hq0 h
    unfold hX5_sortEnds_60 at h
    refine aj_iload_n C dX5_sortEnds_60 rfl ?_
    refine aj_aload_n C dX5_sortEnds_61 rfl ?_
    refine aj_getI C flX5_9 hq0 (by decide) dX5_sortEnds_62 rfl ?_
    refine aj_iconst C dX5_sortEnds_65 ?_
    refine aj_iadd C dX5_sortEnds_66 ?_
    obtain ⟨r0, r1, h1, h2⟩ := h
    refine aj_icmp_gt (tgt := 93) C dX5_sortEnds_67 (by decide) r0 r1 (fun e => ?_) (fun e => ?_)
    · have h := h1 e
      refine aj_iconst C dX5_sortEnds_93 ?_
      refine aj_istore_n (lv' := [some (vO 5 q0), some (vI 0)]) C dX5_sortEnds_94 (by decide) rfl ?_
      exact tX5_sortEnds_95 C K f q0 0 _ hq0 h
    · have h := h2 e
      refine aj_aload_n C dX5_sortEnds_70 rfl ?_
      refine aj_getA (x := 0) (y := 62) C flX5_38 hq0 rfl dX5_sortEnds_71 ?_
      refine aj_iload_n C dX5_sortEnds_74 rfl ?_
      refine aj_dup2 C aj_nI aj_nR dX5_sortEnds_75 ?_
      obtain ⟨r0, h⟩ := h
      refine aj_iald C (aj_ca (e := 0) (n := 62) (j := 8) hq0 (by decide) rfl) (by decide) r0 dX5_sortEnds_76 rfl ?_
      refine aj_aload_n C dX5_sortEnds_77 rfl ?_
      refine aj_getA (x := 0) (y := 62) C flX5_38 hq0 rfl dX5_sortEnds_78 ?_
      refine aj_iload_n C dX5_sortEnds_81 rfl ?_
      refine aj_iconst C dX5_sortEnds_82 ?_
      refine aj_isub C dX5_sortEnds_83 ?_
      obtain ⟨r0, h⟩ := h
      refine aj_iald C (aj_ca (e := 0) (n := 62) (j := 8) hq0 (by decide) rfl) (by decide) r0 dX5_sortEnds_84 rfl ?_
      refine aj_iadd C dX5_sortEnds_85 ?_
      obtain ⟨r0, h⟩ := h
      refine aj_iast C (aj_ca (e := 0) (n := 62) (j := 8) hq0 (by decide) rfl) (by decide) r0 dX5_sortEnds_86 ?_
      refine aj_nm (fun m1 e1 => ?_)
      have h := h m1 e1
      refine aj_iinc (lv' := [some (vO 5 q0), some (vI (v1 + 1))]) C dX5_sortEnds_87 rfl (by decide) rfl ?_
      refine aj_goto (tgt := 60) C dX5_sortEnds_90 (by decide) ?_
      exact ih q0 (v1 + 1) _ hq0 h
def hX5_sortEnds_10 (f : Nat) (Φ : aj_M → Prop) : Nat → List Nat → Int → aj_M → Prop
  | 0, _, _, _ => False
  | k + 1, q0, v1, m => rI v1 ∧ rI (m q0 1) ∧ ((m q0 1) ≤ v1 → hX5_sortEnds_60 f Φ f q0 2 m) ∧ (¬ ((m q0 1) ≤ v1) → (0 ≤ v1 ∧ v1 < 144) ∧ (0 ≤ ((m (2 :: q0) v1.toNat) + 2) ∧ ((m (2 :: q0) v1.toNat) + 2) < 62) ∧ (0 ≤ ((m (2 :: q0) v1.toNat) + 2) ∧ ((m (2 :: q0) v1.toNat) + 2) < 62) ∧ ∀ m1, m1 = aj_u m (8 :: q0) ((m (2 :: q0) v1.toNat) + 2).toNat ((m (8 :: q0) ((m (2 :: q0) v1.toNat) + 2).toNat) + 1) → (0 ≤ v1 ∧ v1 < 144) ∧ (0 ≤ ((m1 (3 :: q0) v1.toNat) + 2) ∧ ((m1 (3 :: q0) v1.toNat) + 2) < 62) ∧ (0 ≤ ((m1 (3 :: q0) v1.toNat) + 2) ∧ ((m1 (3 :: q0) v1.toNat) + 2) < 62) ∧ ∀ m2, m2 = aj_u m1 (8 :: q0) ((m1 (3 :: q0) v1.toNat) + 2).toNat ((m1 (8 :: q0) ((m1 (3 :: q0) v1.toNat) + 2).toNat) + 1) → hX5_sortEnds_10 f Φ k q0 (v1 + 1) m2)
set_option maxHeartbeats 4000000 in
set_option maxRecDepth 100000 in
theorem tX5_sortEnds_10 {X : aj_T} {n f : Nat} {Φ : aj_M → Prop} (C : aj_Cx X cX5_sortEnds RX5 2 (n + 1)) (K : aj_Rt X none (fun r m => r = none ∧ Φ m)) : ∀ (k : Nat) (q0 : List Nat) (v1 : Int) (m : aj_M) (hq0 : (.inl (5, q0) : aj_R) ∈ aj_pls), hX5_sortEnds_10 f Φ k q0 v1 m → aj_J X 10 [some (vO 5 q0), some (vI v1)] [] m := by
  intro k
  induction k with
  | zero =>
    intro q0 v1 m _ h
    exact h.elim
  | succ k ih =>
    intro q0 v1 m hq0 h
    unfold hX5_sortEnds_10 at h
    refine aj_iload_n C dX5_sortEnds_10 rfl ?_
    refine aj_aload_n C dX5_sortEnds_11 rfl ?_
    refine aj_getI C flX5_15 hq0 (by decide) dX5_sortEnds_12 rfl ?_
    obtain ⟨r0, r1, h1, h2⟩ := h
    refine aj_icmp_ge (tgt := 58) C dX5_sortEnds_15 (by decide) r0 r1 (fun e => ?_) (fun e => ?_)
    · have h := h1 e
      refine aj_iconst C dX5_sortEnds_58 ?_
      refine aj_istore_n (lv' := [some (vO 5 q0), some (vI 2)]) C dX5_sortEnds_59 (by decide) rfl ?_
      exact tX5_sortEnds_60 C K f q0 2 _ hq0 h
    · have h := h2 e
      refine aj_aload_n C dX5_sortEnds_18 rfl ?_
      refine aj_getA (x := 0) (y := 62) C flX5_38 hq0 rfl dX5_sortEnds_19 ?_
      refine aj_aload_n C dX5_sortEnds_22 rfl ?_
      refine aj_getA (x := 0) (y := 144) C flX5_18 hq0 rfl dX5_sortEnds_23 ?_
      refine aj_iload_n C dX5_sortEnds_26 rfl ?_
      obtain ⟨r0, h⟩ := h
      refine aj_iald C (aj_ca (e := 0) (n := 144) (j := 2) hq0 (by decide) rfl) (by decide) r0 dX5_sortEnds_27 rfl ?_
      refine aj_iconst C dX5_sortEnds_28 ?_
      refine aj_iadd C dX5_sortEnds_29 ?_
      refine aj_dup2 C aj_nI aj_nR dX5_sortEnds_30 ?_
      obtain ⟨r0, h⟩ := h
      refine aj_iald C (aj_ca (e := 0) (n := 62) (j := 8) hq0 (by decide) rfl) (by decide) r0 dX5_sortEnds_31 rfl ?_
      refine aj_iconst C dX5_sortEnds_32 ?_
      refine aj_iadd C dX5_sortEnds_33 ?_
      obtain ⟨r0, h⟩ := h
      refine aj_iast C (aj_ca (e := 0) (n := 62) (j := 8) hq0 (by decide) rfl) (by decide) r0 dX5_sortEnds_34 ?_
      refine aj_nm (fun m1 e1 => ?_)
      have h := h m1 e1
      refine aj_aload_n C dX5_sortEnds_35 rfl ?_
      refine aj_getA (x := 0) (y := 62) C flX5_38 hq0 rfl dX5_sortEnds_36 ?_
      refine aj_aload_n C dX5_sortEnds_39 rfl ?_
      refine aj_getA (x := 0) (y := 144) C flX5_22 hq0 rfl dX5_sortEnds_40 ?_
      refine aj_iload_n C dX5_sortEnds_43 rfl ?_
      obtain ⟨r0, h⟩ := h
      refine aj_iald C (aj_ca (e := 0) (n := 144) (j := 3) hq0 (by decide) rfl) (by decide) r0 dX5_sortEnds_44 rfl ?_
      refine aj_iconst C dX5_sortEnds_45 ?_
      refine aj_iadd C dX5_sortEnds_46 ?_
      refine aj_dup2 C aj_nI aj_nR dX5_sortEnds_47 ?_
      obtain ⟨r0, h⟩ := h
      refine aj_iald C (aj_ca (e := 0) (n := 62) (j := 8) hq0 (by decide) rfl) (by decide) r0 dX5_sortEnds_48 rfl ?_
      refine aj_iconst C dX5_sortEnds_49 ?_
      refine aj_iadd C dX5_sortEnds_50 ?_
      obtain ⟨r0, h⟩ := h
      refine aj_iast C (aj_ca (e := 0) (n := 62) (j := 8) hq0 (by decide) rfl) (by decide) r0 dX5_sortEnds_51 ?_
      refine aj_nm (fun m2 e1 => ?_)
      have h := h m2 e1
      refine aj_iinc (lv' := [some (vO 5 q0), some (vI (v1 + 1))]) C dX5_sortEnds_52 rfl (by decide) rfl ?_
      refine aj_goto (tgt := 10) C dX5_sortEnds_55 (by decide) ?_
      exact ih q0 (v1 + 1) _ hq0 h
def wX5_sortEnds (f : Nat) (Φ : aj_M → Prop) (q0 : List Nat) (m : aj_M) : Prop := wJ7_fill_53178 f (fun m1 => hX5_sortEnds_10 f Φ f q0 0 m1) 62 (8 :: q0) 0 m
set_option maxHeartbeats 4000000 in
set_option maxRecDepth 100000 in
theorem sX5_sortEnds {n f : Nat} {Φ : aj_M → Prop} {q0 : List Nat} {m : aj_M} (hq0 : (.inl (5, q0) : aj_R) ∈ aj_pls) (h : wX5_sortEnds f Φ q0 m) : aj_Ct (n + 1) yX5_sortEnds cX5_sortEnds 2 none [vO 5 q0] m (fun r m => r = none ∧ Φ m) := by
  refine aj_met (lv := [some (vO 5 q0), none]) (by decide +kernel) rfl (Nat.le_of_ble_eq_true rfl) (fun X C K => ?_)
  unfold wX5_sortEnds at h
  refine aj_aload_n C dX5_sortEnds_0 rfl ?_
  refine aj_getA (x := 0) (y := 62) C flX5_38 hq0 rfl dX5_sortEnds_1 ?_
  refine aj_iconst C dX5_sortEnds_4 ?_
  refine aj_callS (rest := []) C msX5_125 (sJ7_fill_53178 (aj_ca (e := 0) (n := 62) (j := 8) hq0 (by decide) rfl) (by decide) h) (aj_np 2 (by decide +kernel) rfl) (Nat.le_of_ble_eq_true rfl) rfl dX5_sortEnds_5 (fun r m1 h => ?_)
  obtain ⟨rfl, h⟩ := h
  refine aj_iconst C dX5_sortEnds_8 ?_
  refine aj_istore_n (lv' := [some (vO 5 q0), some (vI 0)]) C dX5_sortEnds_9 (by decide) rfl ?_
  exact tX5_sortEnds_10 C K f q0 0 _ hq0 h
