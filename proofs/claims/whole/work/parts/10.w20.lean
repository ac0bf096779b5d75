theorem dX12_reckons_0 : decode cX12_reckons 0 = .ok (.iconst 0, 1) := by decide +kernel
theorem dX12_reckons_1 : decode cX12_reckons 1 = .ok (.istore_n 2, 1) := by decide +kernel
theorem dX12_reckons_2 : decode cX12_reckons 2 = .ok (.iconst 0, 1) := by decide +kernel
theorem dX12_reckons_3 : decode cX12_reckons 3 = .ok (.istore_n 3, 1) := by decide +kernel
theorem dX12_reckons_4 : decode cX12_reckons 4 = .ok (.iload_n 3, 1) := by decide +kernel
theorem dX12_reckons_5 : decode cX12_reckons 5 = .ok (.aload_n 0, 1) := by decide +kernel
theorem dX12_reckons_6 : decode cX12_reckons 6 = .ok (.getfield 13, 3) := by decide +kernel
theorem dX12_reckons_9 : decode cX12_reckons 9 = .ok (.bipush 11, 2) := by decide +kernel
theorem dX12_reckons_11 : decode cX12_reckons 11 = .ok (.iload_n 1, 1) := by decide +kernel
theorem dX12_reckons_12 : decode cX12_reckons 12 = .ok (.iadd, 1) := by decide +kernel
theorem dX12_reckons_13 : decode cX12_reckons 13 = .ok (.iaload, 1) := by decide +kernel
theorem dX12_reckons_14 : decode cX12_reckons 14 = .ok (.if_icmp .ge 185, 3) := by decide +kernel
theorem dX12_reckons_17 : decode cX12_reckons 17 = .ok (.aload_n 0, 1) := by decide +kernel
theorem dX12_reckons_18 : decode cX12_reckons 18 = .ok (.getfield 13, 3) := by decide +kernel
theorem dX12_reckons_21 : decode cX12_reckons 21 = .ok (.sipush 205, 3) := by decide +kernel
theorem dX12_reckons_24 : decode cX12_reckons 24 = .ok (.aload_n 0, 1) := by decide +kernel
theorem dX12_reckons_25 : decode cX12_reckons 25 = .ok (.getfield 13, 3) := by decide +kernel
theorem dX12_reckons_28 : decode cX12_reckons 28 = .ok (.bipush 9, 2) := by decide +kernel
theorem dX12_reckons_30 : decode cX12_reckons 30 = .ok (.iload_n 1, 1) := by decide +kernel
theorem dX12_reckons_31 : decode cX12_reckons 31 = .ok (.iadd, 1) := by decide +kernel
theorem dX12_reckons_32 : decode cX12_reckons 32 = .ok (.iaload, 1) := by decide +kernel
theorem dX12_reckons_33 : decode cX12_reckons 33 = .ok (.iadd, 1) := by decide +kernel
theorem dX12_reckons_34 : decode cX12_reckons 34 = .ok (.iload_n 3, 1) := by decide +kernel
theorem dX12_reckons_35 : decode cX12_reckons 35 = .ok (.iadd, 1) := by decide +kernel
theorem dX12_reckons_36 : decode cX12_reckons 36 = .ok (.iaload, 1) := by decide +kernel
theorem dX12_reckons_37 : decode cX12_reckons 37 = .ok (.istore 4, 2) := by decide +kernel
theorem dX12_reckons_39 : decode cX12_reckons 39 = .ok (.iload 4, 2) := by decide +kernel
theorem dX12_reckons_41 : decode cX12_reckons 41 = .ok (.sipush 3000, 3) := by decide +kernel
theorem dX12_reckons_44 : decode cX12_reckons 44 = .ok (.if_icmp .ge 39, 3) := by decide +kernel
theorem dX12_reckons_47 : decode cX12_reckons 47 = .ok (.aload_n 0, 1) := by decide +kernel
theorem dX12_reckons_48 : decode cX12_reckons 48 = .ok (.getfield 30, 3) := by decide +kernel
theorem dX12_reckons_51 : decode cX12_reckons 51 = .ok (.iload_n 2, 1) := by decide +kernel
theorem dX12_reckons_52 : decode cX12_reckons 52 = .ok (.iload 4, 2) := by decide +kernel
theorem dX12_reckons_54 : decode cX12_reckons 54 = .ok (.sipush 1000, 3) := by decide +kernel
theorem dX12_reckons_57 : decode cX12_reckons 57 = .ok (.if_icmp .ge 8, 3) := by decide +kernel
theorem dX12_reckons_60 : decode cX12_reckons 60 = .ok (.iload 4, 2) := by decide +kernel
theorem dX12_reckons_62 : decode cX12_reckons 62 = .ok (.goto 14, 3) := by decide +kernel
theorem dX12_reckons_65 : decode cX12_reckons 65 = .ok (.aload_n 0, 1) := by decide +kernel
theorem dX12_reckons_66 : decode cX12_reckons 66 = .ok (.getfield 33, 3) := by decide +kernel
theorem dX12_reckons_69 : decode cX12_reckons 69 = .ok (.iload 4, 2) := by decide +kernel
theorem dX12_reckons_71 : decode cX12_reckons 71 = .ok (.sipush 1000, 3) := by decide +kernel
theorem dX12_reckons_74 : decode cX12_reckons 74 = .ok (.isub, 1) := by decide +kernel
theorem dX12_reckons_75 : decode cX12_reckons 75 = .ok (.iaload, 1) := by decide +kernel
theorem dX12_reckons_76 : decode cX12_reckons 76 = .ok (.iastore, 1) := by decide +kernel
theorem dX12_reckons_77 : decode cX12_reckons 77 = .ok (.iinc 2 1, 3) := by decide +kernel
theorem dX12_reckons_80 : decode cX12_reckons 80 = .ok (.goto 113, 3) := by decide +kernel
theorem dX12_reckons_83 : decode cX12_reckons 83 = .ok (.iload 4, 2) := by decide +kernel
theorem dX12_reckons_85 : decode cX12_reckons 85 = .ok (.sipush 3006, 3) := by decide +kernel
theorem dX12_reckons_88 : decode cX12_reckons 88 = .ok (.if_icmp .ne 24, 3) := by decide +kernel
theorem dX12_reckons_91 : decode cX12_reckons 91 = .ok (.aload_n 0, 1) := by decide +kernel
theorem dX12_reckons_92 : decode cX12_reckons 92 = .ok (.getfield 30, 3) := by decide +kernel
theorem dX12_reckons_95 : decode cX12_reckons 95 = .ok (.iload_n 2, 1) := by decide +kernel
theorem dX12_reckons_96 : decode cX12_reckons 96 = .ok (.iconst 1, 1) := by decide +kernel
theorem dX12_reckons_97 : decode cX12_reckons 97 = .ok (.isub, 1) := by decide +kernel
theorem dX12_reckons_98 : decode cX12_reckons 98 = .ok (.iconst 1, 1) := by decide +kernel
theorem dX12_reckons_99 : decode cX12_reckons 99 = .ok (.aload_n 0, 1) := by decide +kernel
theorem dX12_reckons_100 : decode cX12_reckons 100 = .ok (.getfield 30, 3) := by decide +kernel
theorem dX12_reckons_103 : decode cX12_reckons 103 = .ok (.iload_n 2, 1) := by decide +kernel
theorem dX12_reckons_104 : decode cX12_reckons 104 = .ok (.iconst 1, 1) := by decide +kernel
theorem dX12_reckons_105 : decode cX12_reckons 105 = .ok (.isub, 1) := by decide +kernel
theorem dX12_reckons_106 : decode cX12_reckons 106 = .ok (.iaload, 1) := by decide +kernel
theorem dX12_reckons_107 : decode cX12_reckons 107 = .ok (.isub, 1) := by decide +kernel
theorem dX12_reckons_108 : decode cX12_reckons 108 = .ok (.iastore, 1) := by decide +kernel
theorem dX12_reckons_109 : decode cX12_reckons 109 = .ok (.goto 84, 3) := by decide +kernel
theorem dX12_reckons_112 : decode cX12_reckons 112 = .ok (.iload 4, 2) := by decide +kernel
theorem dX12_reckons_114 : decode cX12_reckons 114 = .ok (.sipush 3009, 3) := by decide +kernel
theorem dX12_reckons_117 : decode cX12_reckons 117 = .ok (.if_icmp .ne 46, 3) := by decide +kernel
theorem dX12_reckons_120 : decode cX12_reckons 120 = .ok (.iinc 2 (-2), 3) := by decide +kernel
theorem dX12_reckons_123 : decode cX12_reckons 123 = .ok (.aload_n 0, 1) := by decide +kernel
theorem dX12_reckons_124 : decode cX12_reckons 124 = .ok (.getfield 30, 3) := by decide +kernel
theorem dX12_reckons_127 : decode cX12_reckons 127 = .ok (.iload_n 2, 1) := by decide +kernel
theorem dX12_reckons_128 : decode cX12_reckons 128 = .ok (.iconst 1, 1) := by decide +kernel
theorem dX12_reckons_129 : decode cX12_reckons 129 = .ok (.isub, 1) := by decide +kernel
theorem dX12_reckons_130 : decode cX12_reckons 130 = .ok (.aload_n 0, 1) := by decide +kernel
theorem dX12_reckons_131 : decode cX12_reckons 131 = .ok (.getfield 30, 3) := by decide +kernel
theorem dX12_reckons_134 : decode cX12_reckons 134 = .ok (.iload_n 2, 1) := by decide +kernel
theorem dX12_reckons_135 : decode cX12_reckons 135 = .ok (.iconst 1, 1) := by decide +kernel
theorem dX12_reckons_136 : decode cX12_reckons 136 = .ok (.isub, 1) := by decide +kernel
theorem dX12_reckons_137 : decode cX12_reckons 137 = .ok (.iaload, 1) := by decide +kernel
theorem dX12_reckons_138 : decode cX12_reckons 138 = .ok (.iconst 1, 1) := by decide +kernel
theorem dX12_reckons_139 : decode cX12_reckons 139 = .ok (.if_icmp .ne 12, 3) := by decide +kernel
theorem dX12_reckons_142 : decode cX12_reckons 142 = .ok (.aload_n 0, 1) := by decide +kernel
theorem dX12_reckons_143 : decode cX12_reckons 143 = .ok (.getfield 30, 3) := by decide +kernel
theorem dX12_reckons_146 : decode cX12_reckons 146 = .ok (.iload_n 2, 1) := by decide +kernel
theorem dX12_reckons_147 : decode cX12_reckons 147 = .ok (.iaload, 1) := by decide +kernel
theorem dX12_reckons_148 : decode cX12_reckons 148 = .ok (.goto 11, 3) := by decide +kernel
theorem dX12_reckons_151 : decode cX12_reckons 151 = .ok (.aload_n 0, 1) := by decide +kernel
theorem dX12_reckons_152 : decode cX12_reckons 152 = .ok (.getfield 30, 3) := by decide +kernel
theorem dX12_reckons_155 : decode cX12_reckons 155 = .ok (.iload_n 2, 1) := by decide +kernel
theorem dX12_reckons_156 : decode cX12_reckons 156 = .ok (.iconst 1, 1) := by decide +kernel
theorem dX12_reckons_157 : decode cX12_reckons 157 = .ok (.iadd, 1) := by decide +kernel
theorem dX12_reckons_158 : decode cX12_reckons 158 = .ok (.iaload, 1) := by decide +kernel
theorem dX12_reckons_159 : decode cX12_reckons 159 = .ok (.iastore, 1) := by decide +kernel
theorem dX12_reckons_160 : decode cX12_reckons 160 = .ok (.goto 33, 3) := by decide +kernel
theorem dX12_reckons_163 : decode cX12_reckons 163 = .ok (.iinc 2 (-1), 3) := by decide +kernel
theorem dX12_reckons_166 : decode cX12_reckons 166 = .ok (.aload_n 0, 1) := by decide +kernel
theorem dX12_reckons_167 : decode cX12_reckons 167 = .ok (.getfield 30, 3) := by decide +kernel
theorem dX12_reckons_170 : decode cX12_reckons 170 = .ok (.iload_n 2, 1) := by decide +kernel
theorem dX12_reckons_171 : decode cX12_reckons 171 = .ok (.iconst 1, 1) := by decide +kernel
theorem dX12_reckons_172 : decode cX12_reckons 172 = .ok (.isub, 1) := by decide +kernel
theorem dX12_reckons_173 : decode cX12_reckons 173 = .ok (.iload 4, 2) := by decide +kernel
theorem dX12_reckons_175 : decode cX12_reckons 175 = .ok (.aload_n 0, 1) := by decide +kernel
theorem dX12_reckons_176 : decode cX12_reckons 176 = .ok (.getfield 30, 3) := by decide +kernel
theorem dX12_reckons_179 : decode cX12_reckons 179 = .ok (.iload_n 2, 1) := by decide +kernel
theorem dX12_reckons_180 : decode cX12_reckons 180 = .ok (.iconst 1, 1) := by decide +kernel
theorem dX12_reckons_181 : decode cX12_reckons 181 = .ok (.isub, 1) := by decide +kernel
theorem dX12_reckons_182 : decode cX12_reckons 182 = .ok (.iaload, 1) := by decide +kernel
theorem dX12_reckons_183 : decode cX12_reckons 183 = .ok (.aload_n 0, 1) := by decide +kernel
theorem dX12_reckons_184 : decode cX12_reckons 184 = .ok (.getfield 30, 3) := by decide +kernel
theorem dX12_reckons_187 : decode cX12_reckons 187 = .ok (.iload_n 2, 1) := by decide +kernel
theorem dX12_reckons_188 : decode cX12_reckons 188 = .ok (.iaload, 1) := by decide +kernel
theorem dX12_reckons_189 : decode cX12_reckons 189 = .ok (.invokestatic 250, 3) := by decide +kernel
theorem dX12_reckons_192 : decode cX12_reckons 192 = .ok (.iastore, 1) := by decide +kernel
theorem dX12_reckons_193 : decode cX12_reckons 193 = .ok (.iinc 3 1, 3) := by decide +kernel
theorem dX12_reckons_196 : decode cX12_reckons 196 = .ok (.goto (-192), 3) := by decide +kernel
theorem dX12_reckons_199 : decode cX12_reckons 199 = .ok (.aload_n 0, 1) := by decide +kernel
theorem dX12_reckons_200 : decode cX12_reckons 200 = .ok (.getfield 30, 3) := by decide +kernel
theorem dX12_reckons_203 : decode cX12_reckons 203 = .ok (.iconst 0, 1) := by decide +kernel
theorem dX12_reckons_204 : decode cX12_reckons 204 = .ok (.iaload, 1) := by decide +kernel
theorem dX12_reckons_205 : decode cX12_reckons 205 = .ok (.ireturn, 1) := by decide +kernel
def hX12_reckons_4 (f : Nat) (Φ : Int → aj_M → Prop) : Nat → List Nat → Int → Int → Int → aj_M → Prop
  | 0, _, _, _, _, _ => False
  | k + 1, q0, v1, v2, v3, m => (0 ≤ (11 + v1) ∧ (11 + v1) < 3315) ∧ rI v3 ∧ rI (m (1 :: q0) (11 + v1).toNat) ∧ ((m (1 :: q0) (11 + v1).toNat) ≤ v3 → Φ (m (16 :: q0) (0 : Int).toNat) m) ∧ (¬ ((m (1 :: q0) (11 + v1).toNat) ≤ v3) → (0 ≤ (9 + v1) ∧ (9 + v1) < 3315) ∧ (0 ≤ ((205 + (m (1 :: q0) (9 + v1).toNat)) + v3) ∧ ((205 + (m (1 :: q0) (9 + v1).toNat)) + v3) < 3315) ∧ rI (m (1 :: q0) ((205 + (m (1 :: q0) (9 + v1).toNat)) + v3).toNat) ∧ (3000 ≤ (m (1 :: q0) ((205 + (m (1 :: q0) (9 + v1).toNat)) + v3).toNat) → rI (m (1 :: q0) ((205 + (m (1 :: q0) (9 + v1).toNat)) + v3).toNat) ∧ (¬ (m (1 :: q0) ((205 + (m (1 :: q0) (9 + v1).toNat)) + v3).toNat) = 3006 → rI (m (1 :: q0) ((205 + (m (1 :: q0) (9 + v1).toNat)) + v3).toNat) ∧ (¬ (m (1 :: q0) ((205 + (m (1 :: q0) (9 + v1).toNat)) + v3).toNat) = 3009 → (0 ≤ ((v2 + (-1)) - 1) ∧ ((v2 + (-1)) - 1) < 900) ∧ (0 ≤ (v2 + (-1)) ∧ (v2 + (-1)) < 900) ∧ wX12_between f (fun z1 m1 => (0 ≤ ((v2 + (-1)) - 1) ∧ ((v2 + (-1)) - 1) < 900) ∧ ∀ m2, m2 = aj_u m1 (16 :: q0) ((v2 + (-1)) - 1).toNat z1 → hX12_reckons_4 f Φ k q0 v1 (v2 + (-1)) (v3 + 1) m2) (m (1 :: q0) ((205 + (m (1 :: q0) (9 + v1).toNat)) + v3).toNat) (m (16 :: q0) ((v2 + (-1)) - 1).toNat) (m (16 :: q0) (v2 + (-1)).toNat) m) ∧ ((m (1 :: q0) ((205 + (m (1 :: q0) (9 + v1).toNat)) + v3).toNat) = 3009 → (0 ≤ ((v2 + (-2)) - 1) ∧ ((v2 + (-2)) - 1) < 900) ∧ rI (m (16 :: q0) ((v2 + (-2)) - 1).toNat) ∧ (¬ (m (16 :: q0) ((v2 + (-2)) - 1).toNat) = 1 → (0 ≤ ((v2 + (-2)) + 1) ∧ ((v2 + (-2)) + 1) < 900) ∧ (0 ≤ ((v2 + (-2)) - 1) ∧ ((v2 + (-2)) - 1) < 900) ∧ ∀ m3, m3 = aj_u m (16 :: q0) ((v2 + (-2)) - 1).toNat (m (16 :: q0) ((v2 + (-2)) + 1).toNat) → hX12_reckons_4 f Φ k q0 v1 (v2 + (-2)) (v3 + 1) m3) ∧ ((m (16 :: q0) ((v2 + (-2)) - 1).toNat) = 1 → (0 ≤ (v2 + (-2)) ∧ (v2 + (-2)) < 900) ∧ (0 ≤ ((v2 + (-2)) - 1) ∧ ((v2 + (-2)) - 1) < 900) ∧ ∀ m4, m4 = aj_u m (16 :: q0) ((v2 + (-2)) - 1).toNat (m (16 :: q0) (v2 + (-2)).toNat) → hX12_reckons_4 f Φ k q0 v1 (v2 + (-2)) (v3 + 1) m4))) ∧ ((m (1 :: q0) ((205 + (m (1 :: q0) (9 + v1).toNat)) + v3).toNat) = 3006 → (0 ≤ (v2 - 1) ∧ (v2 - 1) < 900) ∧ (0 ≤ (v2 - 1) ∧ (v2 - 1) < 900) ∧ ∀ m5, m5 = aj_u m (16 :: q0) (v2 - 1).toNat (1 - (m (16 :: q0) (v2 - 1).toNat)) → hX12_reckons_4 f Φ k q0 v1 v2 (v3 + 1) m5)) ∧ (¬ (3000 ≤ (m (1 :: q0) ((205 + (m (1 :: q0) (9 + v1).toNat)) + v3).toNat)) → rI (m (1 :: q0) ((205 + (m (1 :: q0) (9 + v1).toNat)) + v3).toNat) ∧ (1000 ≤ (m (1 :: q0) ((205 + (m (1 :: q0) (9 + v1).toNat)) + v3).toNat) → (0 ≤ ((m (1 :: q0) ((205 + (m (1 :: q0) (9 + v1).toNat)) + v3).toNat) - 1000) ∧ ((m (1 :: q0) ((205 + (m (1 :: q0) (9 + v1).toNat)) + v3).toNat) - 1000) < 5) ∧ (0 ≤ v2 ∧ v2 < 900) ∧ ∀ m6, m6 = aj_u m (16 :: q0) v2.toNat (m (17 :: q0) ((m (1 :: q0) ((205 + (m (1 :: q0) (9 + v1).toNat)) + v3).toNat) - 1000).toNat) → hX12_reckons_4 f Φ k q0 v1 (v2 + 1) (v3 + 1) m6) ∧ (¬ (1000 ≤ (m (1 :: q0) ((205 + (m (1 :: q0) (9 + v1).toNat)) + v3).toNat)) → (0 ≤ v2 ∧ v2 < 900) ∧ ∀ m7, m7 = aj_u m (16 :: q0) v2.toNat (m (1 :: q0) ((205 + (m (1 :: q0) (9 + v1).toNat)) + v3).toNat) → hX12_reckons_4 f Φ k q0 v1 (v2 + 1) (v3 + 1) m7)))
set_option maxHeartbeats 4000000 in
set_option maxRecDepth 100000 in
theorem tX12_reckons_4 {X : aj_T} {n f : Nat} {Φ : Int → aj_M → Prop} (C : aj_Cx X cX12_reckons RX12 5 (n + 1)) (K : aj_Rt X (some .int) (fun r m => ∃ z, r = some (vI z) ∧ Φ z m)) : ∀ (k : Nat) (q0 : List Nat) (v1 : Int) (v2 : Int) (v3 : Int) (m : aj_M) (hq0 : (.inl (12, q0) : aj_R) ∈ aj_pls), hX12_reckons_4 f Φ k q0 v1 v2 v3 m → aj_J X 4 [some (vO 12 q0), some (vI v1), some (vI v2), some (vI v3), none] [] m := by
  intro k
  induction k with
  | zero =>
    intro q0 v1 v2 v3 m _ h
    exact h.elim
  | succ k ih =>
    intro q0 v1 v2 v3 m hq0 h
    unfold hX12_reckons_4 at h
    refine aj_iload_n C dX12_reckons_4 rfl ?_
    refine aj_aload_n C dX12_reckons_5 rfl ?_
    refine aj_getA (x := 0) (y := 3315) C flX12_13 hq0 rfl dX12_reckons_6 ?_
    refine aj_bipush C dX12_reckons_9 (by decide) ?_
    refine aj_iload_n C dX12_reckons_11 rfl ?_
    refine aj_iadd C dX12_reckons_12 ?_
    obtain ⟨r0, h⟩ := h
    refine aj_iald C (aj_ca (e := 0) (n := 3315) (j := 1) hq0 (by decide) rfl) (by decide) r0 dX12_reckons_13 rfl ?_
    obtain ⟨r0, r1, h1, h2⟩ := h
    refine aj_icmp_ge (tgt := 199) C dX12_reckons_14 (by decide) r0 r1 (fun e => ?_) (fun e => ?_)
    · have h := h1 e
      refine aj_aload_n C dX12_reckons_199 rfl ?_
      refine aj_getA (x := 0) (y := 900) C flX12_30 hq0 rfl dX12_reckons_200 ?_
      refine aj_iconst C dX12_reckons_203 ?_
      refine aj_iald C (aj_ca (e := 0) (n := 900) (j := 16) hq0 (by decide) rfl) (by decide) (by decide) dX12_reckons_204 rfl ?_
      exact aj_iret C K dX12_reckons_205 ⟨_, rfl, h⟩
    · have h := h2 e
      refine aj_aload_n C dX12_reckons_17 rfl ?_
      refine aj_getA (x := 0) (y := 3315) C flX12_13 hq0 rfl dX12_reckons_18 ?_
      refine aj_sipush C dX12_reckons_21 (by decide) ?_
      refine aj_aload_n C dX12_reckons_24 rfl ?_
      refine aj_getA (x := 0) (y := 3315) C flX12_13 hq0 rfl dX12_reckons_25 ?_
      refine aj_bipush C dX12_reckons_28 (by decide) ?_
      refine aj_iload_n C dX12_reckons_30 rfl ?_
      refine aj_iadd C dX12_reckons_31 ?_
      obtain ⟨r0, h⟩ := h
      refine aj_iald C (aj_ca (e := 0) (n := 3315) (j := 1) hq0 (by decide) rfl) (by decide) r0 dX12_reckons_32 rfl ?_
      refine aj_iadd C dX12_reckons_33 ?_
      refine aj_iload_n C dX12_reckons_34 rfl ?_
      refine aj_iadd C dX12_reckons_35 ?_
      obtain ⟨r0, h⟩ := h
      refine aj_iald C (aj_ca (e := 0) (n := 3315) (j := 1) hq0 (by decide) rfl) (by decide) r0 dX12_reckons_36 rfl ?_
      refine aj_istore (lv' := [some (vO 12 q0), some (vI v1), some (vI v2), some (vI v3), some (vI (m (1 :: q0) ((205 + (m (1 :: q0) (9 + v1).toNat)) + v3).toNat))]) C dX12_reckons_37 (by decide) rfl ?_
      refine aj_iload C dX12_reckons_39 rfl ?_
      refine aj_sipush C dX12_reckons_41 (by decide) ?_
      obtain ⟨r0, h1, h2⟩ := h
      refine aj_icmp_ge (tgt := 83) C dX12_reckons_44 (by decide) r0 (by decide) (fun e => ?_) (fun e => ?_)
      · have h := h1 e
        refine aj_iload C dX12_reckons_83 rfl ?_
        refine aj_sipush C dX12_reckons_85 (by decide) ?_
        obtain ⟨r0, h1, h2⟩ := h
        refine aj_icmp_ne (tgt := 112) C dX12_reckons_88 (by decide) r0 (by decide) (fun e => ?_) (fun e => ?_)
        · have h := h1 e
          refine aj_iload C dX12_reckons_112 rfl ?_
          refine aj_sipush C dX12_reckons_114 (by decide) ?_
          obtain ⟨r0, h1, h2⟩ := h
          refine aj_icmp_ne (tgt := 163) C dX12_reckons_117 (by decide) r0 (by decide) (fun e => ?_) (fun e => ?_)
          · have h := h1 e
            refine aj_iinc (lv' := [some (vO 12 q0), some (vI v1), some (vI (v2 + (-1))), some (vI v3), some (vI (m (1 :: q0) ((205 + (m (1 :: q0) (9 + v1).toNat)) + v3).toNat))]) C dX12_reckons_163 rfl (by decide) rfl ?_
            refine aj_aload_n C dX12_reckons_166 rfl ?_
            refine aj_getA (x := 0) (y := 900) C flX12_30 hq0 rfl dX12_reckons_167 ?_
            refine aj_iload_n C dX12_reckons_170 rfl ?_
            refine aj_iconst C dX12_reckons_171 ?_
            refine aj_isub C dX12_reckons_172 ?_
            refine aj_iload C dX12_reckons_173 rfl ?_
            refine aj_aload_n C dX12_reckons_175 rfl ?_
            refine aj_getA (x := 0) (y := 900) C flX12_30 hq0 rfl dX12_reckons_176 ?_
            refine aj_iload_n C dX12_reckons_179 rfl ?_
            refine aj_iconst C dX12_reckons_180 ?_
            refine aj_isub C dX12_reckons_181 ?_
            obtain ⟨r0, h⟩ := h
            refine aj_iald C (aj_ca (e := 0) (n := 900) (j := 16) hq0 (by decide) rfl) (by decide) r0 dX12_reckons_182 rfl ?_
            refine aj_aload_n C dX12_reckons_183 rfl ?_
            refine aj_getA (x := 0) (y := 900) C flX12_30 hq0 rfl dX12_reckons_184 ?_
            refine aj_iload_n C dX12_reckons_187 rfl ?_
            obtain ⟨r0, h⟩ := h
            refine aj_iald C (aj_ca (e := 0) (n := 900) (j := 16) hq0 (by decide) rfl) (by decide) r0 dX12_reckons_188 rfl ?_
            refine aj_callS (rest := [vI ((v2 + (-1)) - 1), vA 0 900 (16 :: q0)]) C msX12_250 (sX12_between  h) (aj_np 3 (by decide +kernel) rfl) (Nat.le_of_ble_eq_true rfl) rfl dX12_reckons_189 (fun r m1 h => ?_)
            obtain ⟨z1, rfl, h⟩ := h
            obtain ⟨r0, h⟩ := h
            refine aj_iast C (aj_ca (e := 0) (n := 900) (j := 16) hq0 (by decide) rfl) (by decide) r0 dX12_reckons_192 ?_
            refine aj_nm (fun m2 e1 => ?_)
            have h := h m2 e1
            refine aj_iinc (lv' := [some (vO 12 q0), some (vI v1), some (vI (v2 + (-1))), some (vI (v3 + 1)), some (vI (m (1 :: q0) ((205 + (m (1 :: q0) (9 + v1).toNat)) + v3).toNat))]) C dX12_reckons_193 rfl (by decide) rfl ?_
            refine aj_goto (tgt := 4) C dX12_reckons_196 (by decide) ?_
            refine aj_wk (lv' := [some (vO 12 q0), some (vI v1), some (vI (v2 + (-1))), some (vI (v3 + 1)), none]) (⟨rfl, ⟨rfl, ⟨rfl, ⟨rfl, trivial⟩⟩⟩⟩) ?_
            exact ih q0 v1 (v2 + (-1)) (v3 + 1) _ hq0 h
          · have h := h2 e
            refine aj_iinc (lv' := [some (vO 12 q0), some (vI v1), some (vI (v2 + (-2))), some (vI v3), some (vI (m (1 :: q0) ((205 + (m (1 :: q0) (9 + v1).toNat)) + v3).toNat))]) C dX12_reckons_120 rfl (by decide) rfl ?_
            refine aj_aload_n C dX12_reckons_123 rfl ?_
            refine aj_getA (x := 0) (y := 900) C flX12_30 hq0 rfl dX12_reckons_124 ?_
            refine aj_iload_n C dX12_reckons_127 rfl ?_
            refine aj_iconst C dX12_reckons_128 ?_
            refine aj_isub C dX12_reckons_129 ?_
            refine aj_aload_n C dX12_reckons_130 rfl ?_
            refine aj_getA (x := 0) (y := 900) C flX12_30 hq0 rfl dX12_reckons_131 ?_
            refine aj_iload_n C dX12_reckons_134 rfl ?_
            refine aj_iconst C dX12_reckons_135 ?_
            refine aj_isub C dX12_reckons_136 ?_
            obtain ⟨r0, h⟩ := h
            refine aj_iald C (aj_ca (e := 0) (n := 900) (j := 16) hq0 (by decide) rfl) (by decide) r0 dX12_reckons_137 rfl ?_
            refine aj_iconst C dX12_reckons_138 ?_
            obtain ⟨r0, h1, h2⟩ := h
            refine aj_icmp_ne (tgt := 151) C dX12_reckons_139 (by decide) r0 (by decide) (fun e => ?_) (fun e => ?_)
            · have h := h1 e
              refine aj_aload_n C dX12_reckons_151 rfl ?_
              refine aj_getA (x := 0) (y := 900) C flX12_30 hq0 rfl dX12_reckons_152 ?_
              refine aj_iload_n C dX12_reckons_155 rfl ?_
              refine aj_iconst C dX12_reckons_156 ?_
              refine aj_iadd C dX12_reckons_157 ?_
              obtain ⟨r0, h⟩ := h
              refine aj_iald C (aj_ca (e := 0) (n := 900) (j := 16) hq0 (by decide) rfl) (by decide) r0 dX12_reckons_158 rfl ?_
              obtain ⟨r0, h⟩ := h
              refine aj_iast C (aj_ca (e := 0) (n := 900) (j := 16) hq0 (by decide) rfl) (by decide) r0 dX12_reckons_159 ?_
              refine aj_nm (fun m3 e1 => ?_)
              have h := h m3 e1
              refine aj_goto (tgt := 193) C dX12_reckons_160 (by decide) ?_
              refine aj_iinc (lv' := [some (vO 12 q0), some (vI v1), some (vI (v2 + (-2))), some (vI (v3 + 1)), some (vI (m (1 :: q0) ((205 + (m (1 :: q0) (9 + v1).toNat)) + v3).toNat))]) C dX12_reckons_193 rfl (by decide) rfl ?_
              refine aj_goto (tgt := 4) C dX12_reckons_196 (by decide) ?_
              refine aj_wk (lv' := [some (vO 12 q0), some (vI v1), some (vI (v2 + (-2))), some (vI (v3 + 1)), none]) (⟨rfl, ⟨rfl, ⟨rfl, ⟨rfl, trivial⟩⟩⟩⟩) ?_
              exact ih q0 v1 (v2 + (-2)) (v3 + 1) _ hq0 h
            · have h := h2 e
              refine aj_aload_n C dX12_reckons_142 rfl ?_
              refine aj_getA (x := 0) (y := 900) C flX12_30 hq0 rfl dX12_reckons_143 ?_
              refine aj_iload_n C dX12_reckons_146 rfl ?_
              obtain ⟨r0, h⟩ := h
              refine aj_iald C (aj_ca (e := 0) (n := 900) (j := 16) hq0 (by decide) rfl) (by decide) r0 dX12_reckons_147 rfl ?_
              refine aj_goto (tgt := 159) C dX12_reckons_148 (by decide) ?_
              obtain ⟨r0, h⟩ := h
              refine aj_iast C (aj_ca (e := 0) (n := 900) (j := 16) hq0 (by decide) rfl) (by decide) r0 dX12_reckons_159 ?_
              refine aj_nm (fun m4 e1 => ?_)
              have h := h m4 e1
              refine aj_goto (tgt := 193) C dX12_reckons_160 (by decide) ?_
              refine aj_iinc (lv' := [some (vO 12 q0), some (vI v1), some (vI (v2 + (-2))), some (vI (v3 + 1)), some (vI (m (1 :: q0) ((205 + (m (1 :: q0) (9 + v1).toNat)) + v3).toNat))]) C dX12_reckons_193 rfl (by decide) rfl ?_
              refine aj_goto (tgt := 4) C dX12_reckons_196 (by decide) ?_
              refine aj_wk (lv' := [some (vO 12 q0), some (vI v1), some (vI (v2 + (-2))), some (vI (v3 + 1)), none]) (⟨rfl, ⟨rfl, ⟨rfl, ⟨rfl, trivial⟩⟩⟩⟩) ?_
              exact ih q0 v1 (v2 + (-2)) (v3 + 1) _ hq0 h
        · have h := h2 e
          refine aj_aload_n C dX12_reckons_91 rfl ?_
          refine aj_getA (x := 0) (y := 900) C flX12_30 hq0 rfl dX12_reckons_92 ?_
          refine aj_iload_n C dX12_reckons_95 rfl ?_
          refine aj_iconst C dX12_reckons_96 ?_
          refine aj_isub C dX12_reckons_97 ?_
          refine aj_iconst C dX12_reckons_98 ?_
          refine aj_aload_n C dX12_reckons_99 rfl ?_
          refine aj_getA (x := 0) (y := 900) C flX12_30 hq0 rfl dX12_reckons_100 ?_
          refine aj_iload_n C dX12_reckons_103 rfl ?_
          refine aj_iconst C dX12_reckons_104 ?_
          refine aj_isub C dX12_reckons_105 ?_
          obtain ⟨r0, h⟩ := h
          refine aj_iald C (aj_ca (e := 0) (n := 900) (j := 16) hq0 (by decide) rfl) (by decide) r0 dX12_reckons_106 rfl ?_
          refine aj_isub C dX12_reckons_107 ?_
          obtain ⟨r0, h⟩ := h
          refine aj_iast C (aj_ca (e := 0) (n := 900) (j := 16) hq0 (by decide) rfl) (by decide) r0 dX12_reckons_108 ?_
          refine aj_nm (fun m5 e1 => ?_)
          have h := h m5 e1
          refine aj_goto (tgt := 193) C dX12_reckons_109 (by decide) ?_
          refine aj_iinc (lv' := [some (vO 12 q0), some (vI v1), some (vI v2), some (vI (v3 + 1)), some (vI (m (1 :: q0) ((205 + (m (1 :: q0) (9 + v1).toNat)) + v3).toNat))]) C dX12_reckons_193 rfl (by decide) rfl ?_
          refine aj_goto (tgt := 4) C dX12_reckons_196 (by decide) ?_
          refine aj_wk (lv' := [some (vO 12 q0), some (vI v1), some (vI v2), some (vI (v3 + 1)), none]) (⟨rfl, ⟨rfl, ⟨rfl, ⟨rfl, trivial⟩⟩⟩⟩) ?_
          exact ih q0 v1 v2 (v3 + 1) _ hq0 h
      · have h := h2 e
        refine aj_aload_n C dX12_reckons_47 rfl ?_
        refine aj_getA (x := 0) (y := 900) C flX12_30 hq0 rfl dX12_reckons_48 ?_
        refine aj_iload_n C dX12_reckons_51 rfl ?_
        refine aj_iload C dX12_reckons_52 rfl ?_
        refine aj_sipush C dX12_reckons_54 (by decide) ?_
        obtain ⟨r0, h1, h2⟩ := h
        refine aj_icmp_ge (tgt := 65) C dX12_reckons_57 (by decide) r0 (by decide) (fun e => ?_) (fun e => ?_)
        · have h := h1 e
          refine aj_aload_n C dX12_reckons_65 rfl ?_
          refine aj_getA (x := 0) (y := 5) C flX12_33 hq0 rfl dX12_reckons_66 ?_
          refine aj_iload C dX12_reckons_69 rfl ?_
          refine aj_sipush C dX12_reckons_71 (by decide) ?_
          refine aj_isub C dX12_reckons_74 ?_
          obtain ⟨r0, h⟩ := h
          refine aj_iald C (aj_ca (e := 0) (n := 5) (j := 17) hq0 (by decide) rfl) (by decide) r0 dX12_reckons_75 rfl ?_
          obtain ⟨r0, h⟩ := h
          refine aj_iast C (aj_ca (e := 0) (n := 900) (j := 16) hq0 (by decide) rfl) (by decide) r0 dX12_reckons_76 ?_
          refine aj_nm (fun m6 e1 => ?_)
          have h := h m6 e1
          refine aj_iinc (lv' := [some (vO 12 q0), some (vI v1), some (vI (v2 + 1)), some (vI v3), some (vI (m (1 :: q0) ((205 + (m (1 :: q0) (9 + v1).toNat)) + v3).toNat))]) C dX12_reckons_77 rfl (by decide) rfl ?_
          refine aj_goto (tgt := 193) C dX12_reckons_80 (by decide) ?_
          refine aj_iinc (lv' := [some (vO 12 q0), some (vI v1), some (vI (v2 + 1)), some (vI (v3 + 1)), some (vI (m (1 :: q0) ((205 + (m (1 :: q0) (9 + v1).toNat)) + v3).toNat))]) C dX12_reckons_193 rfl (by decide) rfl ?_
          refine aj_goto (tgt := 4) C dX12_reckons_196 (by decide) ?_
          refine aj_wk (lv' := [some (vO 12 q0), some (vI v1), some (vI (v2 + 1)), some (vI (v3 + 1)), none]) (⟨rfl, ⟨rfl, ⟨rfl, ⟨rfl, trivial⟩⟩⟩⟩) ?_
          exact ih q0 v1 (v2 + 1) (v3 + 1) _ hq0 h
        · have h := h2 e
          refine aj_iload C dX12_reckons_60 rfl ?_
          refine aj_goto (tgt := 76) C dX12_reckons_62 (by decide) ?_
          obtain ⟨r0, h⟩ := h
          refine aj_iast C (aj_ca (e := 0) (n := 900) (j := 16) hq0 (by decide) rfl) (by decide) r0 dX12_reckons_76 ?_
          refine aj_nm (fun m7 e1 => ?_)
          have h := h m7 e1
          refine aj_iinc (lv' := [some (vO 12 q0), some (vI v1), some (vI (v2 + 1)), some (vI v3), some (vI (m (1 :: q0) ((205 + (m (1 :: q0) (9 + v1).toNat)) + v3).toNat))]) C dX12_reckons_77 rfl (by decide) rfl ?_
          refine aj_goto (tgt := 193) C dX12_reckons_80 (by decide) ?_
          refine aj_iinc (lv' := [some (vO 12 q0), some (vI v1), some (vI (v2 + 1)), some (vI (v3 + 1)), some (vI (m (1 :: q0) ((205 + (m (1 :: q0) (9 + v1).toNat)) + v3).toNat))]) C dX12_reckons_193 rfl (by decide) rfl ?_
          refine aj_goto (tgt := 4) C dX12_reckons_196 (by decide) ?_
          refine aj_wk (lv' := [some (vO 12 q0), some (vI v1), some (vI (v2 + 1)), some (vI (v3 + 1)), none]) (⟨rfl, ⟨rfl, ⟨rfl, ⟨rfl, trivial⟩⟩⟩⟩) ?_
          exact ih q0 v1 (v2 + 1) (v3 + 1) _ hq0 h
def wX12_reckons (f : Nat) (Φ : Int → aj_M → Prop) (q0 : List Nat) (v1 : Int) (m : aj_M) : Prop := hX12_reckons_4 f Φ f q0 v1 0 0 m
set_option maxHeartbeats 4000000 in
set_option maxRecDepth 100000 in
theorem sX12_reckons {n f : Nat} {Φ : Int → aj_M → Prop} {q0 : List Nat} {v1 : Int} {m : aj_M} (hq0 : (.inl (12, q0) : aj_R) ∈ aj_pls) (h : wX12_reckons f Φ q0 v1 m) : aj_Ct (n + 1) yX12_reckons cX12_reckons 5 (some .int) [vO 12 q0, vI v1] m (fun r m => ∃ z, r = some (vI z) ∧ Φ z m) := by
  refine aj_met (lv := [some (vO 12 q0), some (vI v1), none, none, none]) (by decide +kernel) rfl (Nat.le_of_ble_eq_true rfl) (fun X C K => ?_)
  unfold wX12_reckons at h
  refine aj_iconst C dX12_reckons_0 ?_
  refine aj_istore_n (lv' := [some (vO 12 q0), some (vI v1), some (vI 0), none, none]) C dX12_reckons_1 (by decide) rfl ?_
  refine aj_iconst C dX12_reckons_2 ?_
  refine aj_istore_n (lv' := [some (vO 12 q0), some (vI v1), some (vI 0), some (vI 0), none]) C dX12_reckons_3 (by decide) rfl ?_
  exact tX12_reckons_4 C K f q0 v1 0 0 _ hq0 h
theorem dX12_laysWords_0 : decode cX12_laysWords 0 = .ok (.aload_n 0, 1) := by decide +kernel
theorem dX12_laysWords_1 : decode cX12_laysWords 1 = .ok (.getfield 33, 3) := by decide +kernel
theorem dX12_laysWords_4 : decode cX12_laysWords 4 = .ok (.iconst 0, 1) := by decide +kernel
theorem dX12_laysWords_5 : decode cX12_laysWords 5 = .ok (.iload_n 1, 1) := by decide +kernel
theorem dX12_laysWords_6 : decode cX12_laysWords 6 = .ok (.iastore, 1) := by decide +kernel
theorem dX12_laysWords_7 : decode cX12_laysWords 7 = .ok (.aload_n 0, 1) := by decide +kernel
theorem dX12_laysWords_8 : decode cX12_laysWords 8 = .ok (.getfield 33, 3) := by decide +kernel
theorem dX12_laysWords_11 : decode cX12_laysWords 11 = .ok (.iconst 1, 1) := by decide +kernel
theorem dX12_laysWords_12 : decode cX12_laysWords 12 = .ok (.aload_n 0, 1) := by decide +kernel
theorem dX12_laysWords_13 : decode cX12_laysWords 13 = .ok (.getfield 13, 3) := by decide +kernel
theorem dX12_laysWords_16 : decode cX12_laysWords 16 = .ok (.bipush 13, 2) := by decide +kernel
theorem dX12_laysWords_18 : decode cX12_laysWords 18 = .ok (.iload_n 1, 1) := by decide +kernel
theorem dX12_laysWords_19 : decode cX12_laysWords 19 = .ok (.iadd, 1) := by decide +kernel
theorem dX12_laysWords_20 : decode cX12_laysWords 20 = .ok (.iaload, 1) := by decide +kernel
theorem dX12_laysWords_21 : decode cX12_laysWords 21 = .ok (.iastore, 1) := by decide +kernel
theorem dX12_laysWords_22 : decode cX12_laysWords 22 = .ok (.aload_n 0, 1) := by decide +kernel
theorem dX12_laysWords_23 : decode cX12_laysWords 23 = .ok (.getfield 33, 3) := by decide +kernel
theorem dX12_laysWords_26 : decode cX12_laysWords 26 = .ok (.iconst 2, 1) := by decide +kernel
theorem dX12_laysWords_27 : decode cX12_laysWords 27 = .ok (.aload_n 0, 1) := by decide +kernel
theorem dX12_laysWords_28 : decode cX12_laysWords 28 = .ok (.getfield 13, 3) := by decide +kernel
theorem dX12_laysWords_31 : decode cX12_laysWords 31 = .ok (.bipush 25, 2) := by decide +kernel
theorem dX12_laysWords_33 : decode cX12_laysWords 33 = .ok (.iload_n 1, 1) := by decide +kernel
theorem dX12_laysWords_34 : decode cX12_laysWords 34 = .ok (.iadd, 1) := by decide +kernel
theorem dX12_laysWords_35 : decode cX12_laysWords 35 = .ok (.iaload, 1) := by decide +kernel
theorem dX12_laysWords_36 : decode cX12_laysWords 36 = .ok (.iastore, 1) := by decide +kernel
theorem dX12_laysWords_37 : decode cX12_laysWords 37 = .ok (.aload_n 0, 1) := by decide +kernel
theorem dX12_laysWords_38 : decode cX12_laysWords 38 = .ok (.getfield 33, 3) := by decide +kernel
theorem dX12_laysWords_41 : decode cX12_laysWords 41 = .ok (.iconst 3, 1) := by decide +kernel
theorem dX12_laysWords_42 : decode cX12_laysWords 42 = .ok (.iload_n 2, 1) := by decide +kernel
theorem dX12_laysWords_43 : decode cX12_laysWords 43 = .ok (.iastore, 1) := by decide +kernel
theorem dX12_laysWords_44 : decode cX12_laysWords 44 = .ok (.aload_n 0, 1) := by decide +kernel
theorem dX12_laysWords_45 : decode cX12_laysWords 45 = .ok (.getfield 33, 3) := by decide +kernel
theorem dX12_laysWords_48 : decode cX12_laysWords 48 = .ok (.iconst 4, 1) := by decide +kernel
theorem dX12_laysWords_49 : decode cX12_laysWords 49 = .ok (.iload_n 3, 1) := by decide +kernel
theorem dX12_laysWords_50 : decode cX12_laysWords 50 = .ok (.iastore, 1) := by decide +kernel
theorem dX12_laysWords_51 : decode cX12_laysWords 51 = .ok (.return_, 1) := by decide +kernel
def wX12_laysWords (f : Nat) (Φ : aj_M → Prop) (q0 : List Nat) (v1 : Int) (v2 : Int) (v3 : Int) (m : aj_M) : Prop := ∀ m1, m1 = aj_u m (17 :: q0) (0 : Int).toNat v1 → (0 ≤ (13 + v1) ∧ (13 + v1) < 3315) ∧ ∀ m2, m2 = aj_u m1 (17 :: q0) (1 : Int).toNat (m1 (1 :: q0) (13 + v1).toNat) → (0 ≤ (25 + v1) ∧ (25 + v1) < 3315) ∧ ∀ m3, m3 = aj_u m2 (17 :: q0) (2 : Int).toNat (m2 (1 :: q0) (25 + v1).toNat) → ∀ m4, m4 = aj_u m3 (17 :: q0) (3 : Int).toNat v2 → ∀ m5, m5 = aj_u m4 (17 :: q0) (4 : Int).toNat v3 → Φ m5
set_option maxHeartbeats 4000000 in
set_option maxRecDepth 100000 in
theorem sX12_laysWords {n f : Nat} {Φ : aj_M → Prop} {q0 : List Nat} {v1 : Int} {v2 : Int} {v3 : Int} {m : aj_M} (hq0 : (.inl (12, q0) : aj_R) ∈ aj_pls) (h : wX12_laysWords f Φ q0 v1 v2 v3 m) : aj_Ct n yX12_laysWords cX12_laysWords 4 none [vO 12 q0, vI v1, vI v2, vI v3] m (fun r m => r = none ∧ Φ m) := by
  refine aj_met (lv := [some (vO 12 q0), some (vI v1), some (vI v2), some (vI v3)]) (by decide +kernel) rfl (Nat.le_of_ble_eq_true rfl) (fun X C K => ?_)
  unfold wX12_laysWords at h
  refine aj_aload_n C dX12_laysWords_0 rfl ?_
  refine aj_getA (x := 0) (y := 5) C flX12_33 hq0 rfl dX12_laysWords_1 ?_
  refine aj_iconst C dX12_laysWords_4 ?_
  refine aj_iload_n C dX12_laysWords_5 rfl ?_
  refine aj_iast C (aj_ca (e := 0) (n := 5) (j := 17) hq0 (by decide) rfl) (by decide) (by decide) dX12_laysWords_6 ?_
  refine aj_nm (fun m1 e1 => ?_)
  have h := h m1 e1
  refine aj_aload_n C dX12_laysWords_7 rfl ?_
  refine aj_getA (x := 0) (y := 5) C flX12_33 hq0 rfl dX12_laysWords_8 ?_
  refine aj_iconst C dX12_laysWords_11 ?_
  refine aj_aload_n C dX12_laysWords_12 rfl ?_
  refine aj_getA (x := 0) (y := 3315) C flX12_13 hq0 rfl dX12_laysWords_13 ?_
  refine aj_bipush C dX12_laysWords_16 (by decide) ?_
  refine aj_iload_n C dX12_laysWords_18 rfl ?_
  refine aj_iadd C dX12_laysWords_19 ?_
  obtain ⟨r0, h⟩ := h
  refine aj_iald C (aj_ca (e := 0) (n := 3315) (j := 1) hq0 (by decide) rfl) (by decide) r0 dX12_laysWords_20 rfl ?_
  refine aj_iast C (aj_ca (e := 0) (n := 5) (j := 17) hq0 (by decide) rfl) (by decide) (by decide) dX12_laysWords_21 ?_
  refine aj_nm (fun m2 e1 => ?_)
  have h := h m2 e1
  refine aj_aload_n C dX12_laysWords_22 rfl ?_
  refine aj_getA (x := 0) (y := 5) C flX12_33 hq0 rfl dX12_laysWords_23 ?_
  refine aj_iconst C dX12_laysWords_26 ?_
  refine aj_aload_n C dX12_laysWords_27 rfl ?_
  refine aj_getA (x := 0) (y := 3315) C flX12_13 hq0 rfl dX12_laysWords_28 ?_
  refine aj_bipush C dX12_laysWords_31 (by decide) ?_
  refine aj_iload_n C dX12_laysWords_33 rfl ?_
  refine aj_iadd C dX12_laysWords_34 ?_
  obtain ⟨r0, h⟩ := h
  refine aj_iald C (aj_ca (e := 0) (n := 3315) (j := 1) hq0 (by decide) rfl) (by decide) r0 dX12_laysWords_35 rfl ?_
  refine aj_iast C (aj_ca (e := 0) (n := 5) (j := 17) hq0 (by decide) rfl) (by decide) (by decide) dX12_laysWords_36 ?_
  refine aj_nm (fun m3 e1 => ?_)
  have h := h m3 e1
  refine aj_aload_n C dX12_laysWords_37 rfl ?_
  refine aj_getA (x := 0) (y := 5) C flX12_33 hq0 rfl dX12_laysWords_38 ?_
  refine aj_iconst C dX12_laysWords_41 ?_
  refine aj_iload_n C dX12_laysWords_42 rfl ?_
  refine aj_iast C (aj_ca (e := 0) (n := 5) (j := 17) hq0 (by decide) rfl) (by decide) (by decide) dX12_laysWords_43 ?_
  refine aj_nm (fun m4 e1 => ?_)
  have h := h m4 e1
  refine aj_aload_n C dX12_laysWords_44 rfl ?_
  refine aj_getA (x := 0) (y := 5) C flX12_33 hq0 rfl dX12_laysWords_45 ?_
  refine aj_iconst C dX12_laysWords_48 ?_
  refine aj_iload_n C dX12_laysWords_49 rfl ?_
  refine aj_iast C (aj_ca (e := 0) (n := 5) (j := 17) hq0 (by decide) rfl) (by decide) (by decide) dX12_laysWords_50 ?_
  refine aj_nm (fun m5 e1 => ?_)
  have h := h m5 e1
  exact aj_vret C K dX12_laysWords_51 ⟨rfl, h⟩
theorem dX12_weightOf_0 : decode cX12_weightOf 0 = .ok (.aload_n 0, 1) := by decide +kernel
theorem dX12_weightOf_1 : decode cX12_weightOf 1 = .ok (.iload_n 1, 1) := by decide +kernel
theorem dX12_weightOf_2 : decode cX12_weightOf 2 = .ok (.iload_n 2, 1) := by decide +kernel
theorem dX12_weightOf_3 : decode cX12_weightOf 3 = .ok (.iload_n 3, 1) := by decide +kernel
theorem dX12_weightOf_4 : decode cX12_weightOf 4 = .ok (.invokevirtual 254, 3) := by decide +kernel
theorem dX12_weightOf_7 : decode cX12_weightOf 7 = .ok (.aload_n 0, 1) := by decide +kernel
theorem dX12_weightOf_8 : decode cX12_weightOf 8 = .ok (.getfield 13, 3) := by decide +kernel
theorem dX12_weightOf_11 : decode cX12_weightOf 11 = .ok (.bipush 8, 2) := by decide +kernel
theorem dX12_weightOf_13 : decode cX12_weightOf 13 = .ok (.iaload, 1) := by decide +kernel
theorem dX12_weightOf_14 : decode cX12_weightOf 14 = .ok (.iconst 1, 1) := by decide +kernel
theorem dX12_weightOf_15 : decode cX12_weightOf 15 = .ok (.if_icmp .ne 11, 3) := by decide +kernel
theorem dX12_weightOf_18 : decode cX12_weightOf 18 = .ok (.aload_n 0, 1) := by decide +kernel
theorem dX12_weightOf_19 : decode cX12_weightOf 19 = .ok (.iconst 1, 1) := by decide +kernel
theorem dX12_weightOf_20 : decode cX12_weightOf 20 = .ok (.invokevirtual 258, 3) := by decide +kernel
theorem dX12_weightOf_23 : decode cX12_weightOf 23 = .ok (.goto 4, 3) := by decide +kernel
theorem dX12_weightOf_26 : decode cX12_weightOf 26 = .ok (.iconst 1, 1) := by decide +kernel
theorem dX12_weightOf_27 : decode cX12_weightOf 27 = .ok (.istore 4, 2) := by decide +kernel
theorem dX12_weightOf_29 : decode cX12_weightOf 29 = .ok (.iload 4, 2) := by decide +kernel
theorem dX12_weightOf_31 : decode cX12_weightOf 31 = .ok (.iconst 1, 1) := by decide +kernel
theorem dX12_weightOf_32 : decode cX12_weightOf 32 = .ok (.if_icmp .ge 7, 3) := by decide +kernel
theorem dX12_weightOf_35 : decode cX12_weightOf 35 = .ok (.iconst 1, 1) := by decide +kernel
theorem dX12_weightOf_36 : decode cX12_weightOf 36 = .ok (.goto 17, 3) := by decide +kernel
theorem dX12_weightOf_39 : decode cX12_weightOf 39 = .ok (.iload 4, 2) := by decide +kernel
theorem dX12_weightOf_41 : decode cX12_weightOf 41 = .ok (.bipush 99, 2) := by decide +kernel
theorem dX12_weightOf_43 : decode cX12_weightOf 43 = .ok (.if_icmp .le 8, 3) := by decide +kernel
theorem dX12_weightOf_46 : decode cX12_weightOf 46 = .ok (.bipush 99, 2) := by decide +kernel
theorem dX12_weightOf_48 : decode cX12_weightOf 48 = .ok (.goto 5, 3) := by decide +kernel
theorem dX12_weightOf_51 : decode cX12_weightOf 51 = .ok (.iload 4, 2) := by decide +kernel
theorem dX12_weightOf_53 : decode cX12_weightOf 53 = .ok (.ireturn, 1) := by decide +kernel
def hX12_weightOf_27 (f : Nat) (Φ : Int → aj_M → Prop) (vs0 : Int) (m : aj_M) : Prop := rI vs0 ∧ (1 ≤ vs0 → rI vs0 ∧ (vs0 ≤ 99 → Φ vs0 m) ∧ (¬ (vs0 ≤ 99) → Φ 99 m)) ∧ (¬ (1 ≤ vs0) → Φ 1 m)
set_option maxHeartbeats 4000000 in
set_option maxRecDepth 100000 in
theorem tX12_weightOf_27 {X : aj_T} {n f : Nat} {Φ : Int → aj_M → Prop} (C : aj_Cx X cX12_weightOf RX12 5 (n + 2)) (K : aj_Rt X (some .int) (fun r m => ∃ z, r = some (vI z) ∧ Φ z m)) (vs0 : Int) (m : aj_M)  (h : hX12_weightOf_27 f Φ vs0 m) : aj_J X 27 [none, none, none, none, none] [vI vs0] m := by
  unfold hX12_weightOf_27 at h
  refine aj_istore (lv' := [none, none, none, none, some (vI vs0)]) C dX12_weightOf_27 (by decide) rfl ?_
  refine aj_iload C dX12_weightOf_29 rfl ?_
  refine aj_iconst C dX12_weightOf_31 ?_
  obtain ⟨r0, h1, h2⟩ := h
  refine aj_icmp_ge (tgt := 39) C dX12_weightOf_32 (by decide) r0 (by decide) (fun e => ?_) (fun e => ?_)
  · have h := h1 e
    refine aj_iload C dX12_weightOf_39 rfl ?_
    refine aj_bipush C dX12_weightOf_41 (by decide) ?_
    obtain ⟨r0, h1, h2⟩ := h
    refine aj_icmp_le (tgt := 51) C dX12_weightOf_43 (by decide) r0 (by decide) (fun e => ?_) (fun e => ?_)
    · have h := h1 e
      refine aj_iload C dX12_weightOf_51 rfl ?_
      exact aj_iret C K dX12_weightOf_53 ⟨_, rfl, h⟩
    · have h := h2 e
      refine aj_bipush C dX12_weightOf_46 (by decide) ?_
      refine aj_goto (tgt := 53) C dX12_weightOf_48 (by decide) ?_
      exact aj_iret C K dX12_weightOf_53 ⟨_, rfl, h⟩
  · have h := h2 e
    refine aj_iconst C dX12_weightOf_35 ?_
    refine aj_goto (tgt := 53) C dX12_weightOf_36 (by decide) ?_
    exact aj_iret C K dX12_weightOf_53 ⟨_, rfl, h⟩
def wX12_weightOf (f : Nat) (Φ : Int → aj_M → Prop) (q0 : List Nat) (v1 : Int) (v2 : Int) (v3 : Int) (m : aj_M) : Prop := wX12_laysWords f (fun m1 => rI (m1 (1 :: q0) (8 : Int).toNat) ∧ (¬ (m1 (1 :: q0) (8 : Int).toNat) = 1 → hX12_weightOf_27 f Φ 1 m1) ∧ ((m1 (1 :: q0) (8 : Int).toNat) = 1 → wX12_reckons f (fun z2 m2 => hX12_weightOf_27 f Φ z2 m2) q0 1 m1)) q0 v1 v2 v3 m
set_option maxHeartbeats 4000000 in
set_option maxRecDepth 100000 in
theorem sX12_weightOf {n f : Nat} {Φ : Int → aj_M → Prop} {q0 : List Nat} {v1 : Int} {v2 : Int} {v3 : Int} {m : aj_M} (hq0 : (.inl (12, q0) : aj_R) ∈ aj_pls) (h : wX12_weightOf f Φ q0 v1 v2 v3 m) : aj_Ct (n + 2) yX12_weightOf cX12_weightOf 5 (some .int) [vO 12 q0, vI v1, vI v2, vI v3] m (fun r m => ∃ z, r = some (vI z) ∧ Φ z m) := by
  refine aj_met (lv := [some (vO 12 q0), some (vI v1), some (vI v2), some (vI v3), none]) (by decide +kernel) rfl (Nat.le_of_ble_eq_true rfl) (fun X C K => ?_)
  unfold wX12_weightOf at h
  refine aj_aload_n C dX12_weightOf_0 rfl ?_
  refine aj_iload_n C dX12_weightOf_1 rfl ?_
  refine aj_iload_n C dX12_weightOf_2 rfl ?_
  refine aj_iload_n C dX12_weightOf_3 rfl ?_
  refine aj_callV (rest := []) C mvX12_254 (sX12_laysWords hq0 h) hq0 (aj_np 3 (by decide +kernel) rfl) (Nat.le_of_ble_eq_true rfl) rfl dX12_weightOf_4 (fun r m1 h => ?_)
  obtain ⟨rfl, h⟩ := h
  refine aj_aload_n C dX12_weightOf_7 rfl ?_
  refine aj_getA (x := 0) (y := 3315) C flX12_13 hq0 rfl dX12_weightOf_8 ?_
  refine aj_bipush C dX12_weightOf_11 (by decide) ?_
  refine aj_iald C (aj_ca (e := 0) (n := 3315) (j := 1) hq0 (by decide) rfl) (by decide) (by decide) dX12_weightOf_13 rfl ?_
  refine aj_iconst C dX12_weightOf_14 ?_
  obtain ⟨r0, h1, h2⟩ := h
  refine aj_icmp_ne (tgt := 26) C dX12_weightOf_15 (by decide) r0 (by decide) (fun e => ?_) (fun e => ?_)
  · have h := h1 e
    refine aj_iconst C dX12_weightOf_26 ?_
    refine aj_wk (lv' := [none, none, none, none, none]) (trivial) ?_
    exact tX12_weightOf_27 C K 1 _  h
  · have h := h2 e
    refine aj_aload_n C dX12_weightOf_18 rfl ?_
    refine aj_iconst C dX12_weightOf_19 ?_
    refine aj_callV (rest := []) C mvX12_258 (sX12_reckons hq0 h) hq0 (aj_np 1 (by decide +kernel) rfl) (Nat.le_of_ble_eq_true rfl) rfl dX12_weightOf_20 (fun r m2 h => ?_)
    obtain ⟨z2, rfl, h⟩ := h
    refine aj_goto (tgt := 27) C dX12_weightOf_23 (by decide) ?_
    refine aj_wk (lv' := [none, none, none, none, none]) (trivial) ?_
    exact tX12_weightOf_27 C K z2 _  h
theorem dX12_isKept_0 : decode cX12_isKept 0 = .ok (.aload_n 0, 1) := by decide +kernel
theorem dX12_isKept_1 : decode cX12_isKept 1 = .ok (.iload_n 1, 1) := by decide +kernel
theorem dX12_isKept_2 : decode cX12_isKept 2 = .ok (.iload_n 2, 1) := by decide +kernel
theorem dX12_isKept_3 : decode cX12_isKept 3 = .ok (.aload_n 0, 1) := by decide +kernel
theorem dX12_isKept_4 : decode cX12_isKept 4 = .ok (.getfield 13, 3) := by decide +kernel
theorem dX12_isKept_7 : decode cX12_isKept 7 = .ok (.bipush 62, 2) := by decide +kernel
theorem dX12_isKept_9 : decode cX12_isKept 9 = .ok (.iaload, 1) := by decide +kernel
theorem dX12_isKept_10 : decode cX12_isKept 10 = .ok (.invokevirtual 254, 3) := by decide +kernel
theorem dX12_isKept_13 : decode cX12_isKept 13 = .ok (.aload_n 0, 1) := by decide +kernel
theorem dX12_isKept_14 : decode cX12_isKept 14 = .ok (.getfield 13, 3) := by decide +kernel
theorem dX12_isKept_17 : decode cX12_isKept 17 = .ok (.bipush 7, 2) := by decide +kernel
theorem dX12_isKept_19 : decode cX12_isKept 19 = .ok (.iaload, 1) := by decide +kernel
theorem dX12_isKept_20 : decode cX12_isKept 20 = .ok (.ifCond .eq 12, 3) := by decide +kernel
theorem dX12_isKept_23 : decode cX12_isKept 23 = .ok (.aload_n 0, 1) := by decide +kernel
theorem dX12_isKept_24 : decode cX12_isKept 24 = .ok (.iconst 0, 1) := by decide +kernel
theorem dX12_isKept_25 : decode cX12_isKept 25 = .ok (.invokevirtual 258, 3) := by decide +kernel
theorem dX12_isKept_28 : decode cX12_isKept 28 = .ok (.iconst 1, 1) := by decide +kernel
theorem dX12_isKept_29 : decode cX12_isKept 29 = .ok (.if_icmp .ne 7, 3) := by decide +kernel
theorem dX12_isKept_32 : decode cX12_isKept 32 = .ok (.iconst 1, 1) := by decide +kernel
theorem dX12_isKept_33 : decode cX12_isKept 33 = .ok (.goto 4, 3) := by decide +kernel
theorem dX12_isKept_36 : decode cX12_isKept 36 = .ok (.iconst 0, 1) := by decide +kernel
theorem dX12_isKept_37 : decode cX12_isKept 37 = .ok (.ireturn, 1) := by decide +kernel
def wX12_isKept (f : Nat) (Φ : Int → aj_M → Prop) (q0 : List Nat) (v1 : Int) (v2 : Int) (m : aj_M) : Prop := wX12_laysWords f (fun m1 => rI (m1 (1 :: q0) (7 : Int).toNat) ∧ ((m1 (1 :: q0) (7 : Int).toNat) = 0 → Φ 1 m1) ∧ (¬ ((m1 (1 :: q0) (7 : Int).toNat) = 0) → wX12_reckons f (fun z2 m2 => rI z2 ∧ (¬ z2 = 1 → Φ 0 m2) ∧ (z2 = 1 → Φ 1 m2)) q0 0 m1)) q0 v1 v2 (m (1 :: q0) (62 : Int).toNat) m
set_option maxHeartbeats 4000000 in
set_option maxRecDepth 100000 in
theorem sX12_isKept {n f : Nat} {Φ : Int → aj_M → Prop} {q0 : List Nat} {v1 : Int} {v2 : Int} {m : aj_M} (hq0 : (.inl (12, q0) : aj_R) ∈ aj_pls) (h : wX12_isKept f Φ q0 v1 v2 m) : aj_Ct (n + 2) yX12_isKept cX12_isKept 3 (some .boolean) [vO 12 q0, vI v1, vI v2] m (fun r m => ∃ z, r = some (vI z) ∧ Φ z m) := by
  refine aj_met (lv := [some (vO 12 q0), some (vI v1), some (vI v2)]) (by decide +kernel) rfl (Nat.le_of_ble_eq_true rfl) (fun X C K => ?_)
  unfold wX12_isKept at h
  refine aj_aload_n C dX12_isKept_0 rfl ?_
  refine aj_iload_n C dX12_isKept_1 rfl ?_
  refine aj_iload_n C dX12_isKept_2 rfl ?_
  refine aj_aload_n C dX12_isKept_3 rfl ?_
  refine aj_getA (x := 0) (y := 3315) C flX12_13 hq0 rfl dX12_isKept_4 ?_
  refine aj_bipush C dX12_isKept_7 (by decide) ?_
  refine aj_iald C (aj_ca (e := 0) (n := 3315) (j := 1) hq0 (by decide) rfl) (by decide) (by decide) dX12_isKept_9 rfl ?_
  refine aj_callV (rest := []) C mvX12_254 (sX12_laysWords hq0 h) hq0 (aj_np 3 (by decide +kernel) rfl) (Nat.le_of_ble_eq_true rfl) rfl dX12_isKept_10 (fun r m1 h => ?_)
  obtain ⟨rfl, h⟩ := h
  refine aj_aload_n C dX12_isKept_13 rfl ?_
  refine aj_getA (x := 0) (y := 3315) C flX12_13 hq0 rfl dX12_isKept_14 ?_
  refine aj_bipush C dX12_isKept_17 (by decide) ?_
  refine aj_iald C (aj_ca (e := 0) (n := 3315) (j := 1) hq0 (by decide) rfl) (by decide) (by decide) dX12_isKept_19 rfl ?_
  obtain ⟨r0, h1, h2⟩ := h
  refine aj_if_eq (tgt := 32) C dX12_isKept_20 (by decide) r0 (fun e => ?_) (fun e => ?_)
  · have h := h1 e
    refine aj_iconst C dX12_isKept_32 ?_
    refine aj_goto (tgt := 37) C dX12_isKept_33 (by decide) ?_
    exact aj_zret C K (Or.inr rfl) dX12_isKept_37 ⟨_, rfl, h⟩
  · have h := h2 e
    refine aj_aload_n C dX12_isKept_23 rfl ?_
    refine aj_iconst C dX12_isKept_24 ?_
    refine aj_callV (rest := []) C mvX12_258 (sX12_reckons hq0 h) hq0 (aj_np 1 (by decide +kernel) rfl) (Nat.le_of_ble_eq_true rfl) rfl dX12_isKept_25 (fun r m2 h => ?_)
    obtain ⟨z2, rfl, h⟩ := h
    refine aj_iconst C dX12_isKept_28 ?_
    obtain ⟨r0, h1, h2⟩ := h
    refine aj_icmp_ne (tgt := 36) C dX12_isKept_29 (by decide) r0 (by decide) (fun e => ?_) (fun e => ?_)
    · have h := h1 e
      refine aj_iconst C dX12_isKept_36 ?_
      exact aj_zret C K (Or.inl rfl) dX12_isKept_37 ⟨_, rfl, h⟩
    · have h := h2 e
      refine aj_iconst C dX12_isKept_32 ?_
      refine aj_goto (tgt := 37) C dX12_isKept_33 (by decide) ?_
      exact aj_zret C K (Or.inr rfl) dX12_isKept_37 ⟨_, rfl, h⟩
theorem dX12_laysArc_0 : decode cX12_laysArc 0 = .ok (.iconst 0, 1) := by decide +kernel
theorem dX12_laysArc_1 : decode cX12_laysArc 1 = .ok (.istore_n 2, 1) := by decide +kernel
theorem dX12_laysArc_2 : decode cX12_laysArc 2 = .ok (.iload_n 2, 1) := by decide +kernel
theorem dX12_laysArc_3 : decode cX12_laysArc 3 = .ok (.aload_n 0, 1) := by decide +kernel
theorem dX12_laysArc_4 : decode cX12_laysArc 4 = .ok (.getfield 13, 3) := by decide +kernel
theorem dX12_laysArc_7 : decode cX12_laysArc 7 = .ok (.iconst 4, 1) := by decide +kernel
theorem dX12_laysArc_8 : decode cX12_laysArc 8 = .ok (.iaload, 1) := by decide +kernel
theorem dX12_laysArc_9 : decode cX12_laysArc 9 = .ok (.if_icmp .ge 140, 3) := by decide +kernel
theorem dX12_laysArc_12 : decode cX12_laysArc 12 = .ok (.aload_n 0, 1) := by decide +kernel
theorem dX12_laysArc_13 : decode cX12_laysArc 13 = .ok (.iload_n 2, 1) := by decide +kernel
theorem dX12_laysArc_14 : decode cX12_laysArc 14 = .ok (.aload_n 0, 1) := by decide +kernel
theorem dX12_laysArc_15 : decode cX12_laysArc 15 = .ok (.getfield 13, 3) := by decide +kernel
theorem dX12_laysArc_18 : decode cX12_laysArc 18 = .ok (.bipush 49, 2) := by decide +kernel
theorem dX12_laysArc_20 : decode cX12_laysArc 20 = .ok (.iload_n 1, 1) := by decide +kernel
theorem dX12_laysArc_21 : decode cX12_laysArc 21 = .ok (.iadd, 1) := by decide +kernel
theorem dX12_laysArc_22 : decode cX12_laysArc 22 = .ok (.iaload, 1) := by decide +kernel
theorem dX12_laysArc_23 : decode cX12_laysArc 23 = .ok (.invokevirtual 202, 3) := by decide +kernel
theorem dX12_laysArc_26 : decode cX12_laysArc 26 = .ok (.istore_n 3, 1) := by decide +kernel
theorem dX12_laysArc_27 : decode cX12_laysArc 27 = .ok (.aload_n 0, 1) := by decide +kernel
theorem dX12_laysArc_28 : decode cX12_laysArc 28 = .ok (.getfield 13, 3) := by decide +kernel
theorem dX12_laysArc_31 : decode cX12_laysArc 31 = .ok (.bipush 37, 2) := by decide +kernel
theorem dX12_laysArc_33 : decode cX12_laysArc 33 = .ok (.iload_n 1, 1) := by decide +kernel
theorem dX12_laysArc_34 : decode cX12_laysArc 34 = .ok (.iadd, 1) := by decide +kernel
theorem dX12_laysArc_35 : decode cX12_laysArc 35 = .ok (.iaload, 1) := by decide +kernel
theorem dX12_laysArc_36 : decode cX12_laysArc 36 = .ok (.iconst 1, 1) := by decide +kernel
theorem dX12_laysArc_37 : decode cX12_laysArc 37 = .ok (.if_icmp .ne 8, 3) := by decide +kernel
theorem dX12_laysArc_40 : decode cX12_laysArc 40 = .ok (.iload_n 2, 1) := by decide +kernel
theorem dX12_laysArc_41 : decode cX12_laysArc 41 = .ok (.iload_n 3, 1) := by decide +kernel
theorem dX12_laysArc_42 : decode cX12_laysArc 42 = .ok (.if_icmp .gt 101, 3) := by decide +kernel
theorem dX12_laysArc_45 : decode cX12_laysArc 45 = .ok (.aload_n 0, 1) := by decide +kernel
theorem dX12_laysArc_46 : decode cX12_laysArc 46 = .ok (.iload_n 1, 1) := by decide +kernel
theorem dX12_laysArc_47 : decode cX12_laysArc 47 = .ok (.iload_n 2, 1) := by decide +kernel
theorem dX12_laysArc_48 : decode cX12_laysArc 48 = .ok (.invokevirtual 261, 3) := by decide +kernel
theorem dX12_laysArc_51 : decode cX12_laysArc 51 = .ok (.ifCond .ne 6, 3) := by decide +kernel
theorem dX12_laysArc_54 : decode cX12_laysArc 54 = .ok (.goto 89, 3) := by decide +kernel
theorem dX12_laysArc_57 : decode cX12_laysArc 57 = .ok (.aload_n 0, 1) := by decide +kernel
theorem dX12_laysArc_58 : decode cX12_laysArc 58 = .ok (.getfield 36, 3) := by decide +kernel
theorem dX12_laysArc_61 : decode cX12_laysArc 61 = .ok (.aload_n 0, 1) := by decide +kernel
theorem dX12_laysArc_62 : decode cX12_laysArc 62 = .ok (.getfield 265, 3) := by decide +kernel
theorem dX12_laysArc_65 : decode cX12_laysArc 65 = .ok (.aload_n 0, 1) := by decide +kernel
theorem dX12_laysArc_66 : decode cX12_laysArc 66 = .ok (.getfield 13, 3) := by decide +kernel
theorem dX12_laysArc_69 : decode cX12_laysArc 69 = .ok (.bipush 13, 2) := by decide +kernel
theorem dX12_laysArc_71 : decode cX12_laysArc 71 = .ok (.iload_n 1, 1) := by decide +kernel
theorem dX12_laysArc_72 : decode cX12_laysArc 72 = .ok (.iadd, 1) := by decide +kernel
theorem dX12_laysArc_73 : decode cX12_laysArc 73 = .ok (.iaload, 1) := by decide +kernel
theorem dX12_laysArc_74 : decode cX12_laysArc 74 = .ok (.aload_n 0, 1) := by decide +kernel
theorem dX12_laysArc_75 : decode cX12_laysArc 75 = .ok (.getfield 13, 3) := by decide +kernel
theorem dX12_laysArc_78 : decode cX12_laysArc 78 = .ok (.iconst 4, 1) := by decide +kernel
theorem dX12_laysArc_79 : decode cX12_laysArc 79 = .ok (.iaload, 1) := by decide +kernel
theorem dX12_laysArc_80 : decode cX12_laysArc 80 = .ok (.imul, 1) := by decide +kernel
theorem dX12_laysArc_81 : decode cX12_laysArc 81 = .ok (.iload_n 2, 1) := by decide +kernel
theorem dX12_laysArc_82 : decode cX12_laysArc 82 = .ok (.iadd, 1) := by decide +kernel
theorem dX12_laysArc_83 : decode cX12_laysArc 83 = .ok (.iastore, 1) := by decide +kernel
theorem dX12_laysArc_84 : decode cX12_laysArc 84 = .ok (.aload_n 0, 1) := by decide +kernel
theorem dX12_laysArc_85 : decode cX12_laysArc 85 = .ok (.getfield 39, 3) := by decide +kernel
theorem dX12_laysArc_88 : decode cX12_laysArc 88 = .ok (.aload_n 0, 1) := by decide +kernel
theorem dX12_laysArc_89 : decode cX12_laysArc 89 = .ok (.getfield 265, 3) := by decide +kernel
theorem dX12_laysArc_92 : decode cX12_laysArc 92 = .ok (.aload_n 0, 1) := by decide +kernel
theorem dX12_laysArc_93 : decode cX12_laysArc 93 = .ok (.getfield 13, 3) := by decide +kernel
theorem dX12_laysArc_96 : decode cX12_laysArc 96 = .ok (.bipush 25, 2) := by decide +kernel
theorem dX12_laysArc_98 : decode cX12_laysArc 98 = .ok (.iload_n 1, 1) := by decide +kernel
theorem dX12_laysArc_99 : decode cX12_laysArc 99 = .ok (.iadd, 1) := by decide +kernel
theorem dX12_laysArc_100 : decode cX12_laysArc 100 = .ok (.iaload, 1) := by decide +kernel
theorem dX12_laysArc_101 : decode cX12_laysArc 101 = .ok (.aload_n 0, 1) := by decide +kernel
theorem dX12_laysArc_102 : decode cX12_laysArc 102 = .ok (.getfield 13, 3) := by decide +kernel
theorem dX12_laysArc_105 : decode cX12_laysArc 105 = .ok (.iconst 4, 1) := by decide +kernel
theorem dX12_laysArc_106 : decode cX12_laysArc 106 = .ok (.iaload, 1) := by decide +kernel
theorem dX12_laysArc_107 : decode cX12_laysArc 107 = .ok (.imul, 1) := by decide +kernel
theorem dX12_laysArc_108 : decode cX12_laysArc 108 = .ok (.iload_n 3, 1) := by decide +kernel
theorem dX12_laysArc_109 : decode cX12_laysArc 109 = .ok (.iadd, 1) := by decide +kernel
theorem dX12_laysArc_110 : decode cX12_laysArc 110 = .ok (.iastore, 1) := by decide +kernel
theorem dX12_laysArc_111 : decode cX12_laysArc 111 = .ok (.aload_n 0, 1) := by decide +kernel
theorem dX12_laysArc_112 : decode cX12_laysArc 112 = .ok (.getfield 42, 3) := by decide +kernel
theorem dX12_laysArc_115 : decode cX12_laysArc 115 = .ok (.aload_n 0, 1) := by decide +kernel
theorem dX12_laysArc_116 : decode cX12_laysArc 116 = .ok (.getfield 265, 3) := by decide +kernel
theorem dX12_laysArc_119 : decode cX12_laysArc 119 = .ok (.aload_n 0, 1) := by decide +kernel
theorem dX12_laysArc_120 : decode cX12_laysArc 120 = .ok (.iload_n 1, 1) := by decide +kernel
theorem dX12_laysArc_121 : decode cX12_laysArc 121 = .ok (.iload_n 2, 1) := by decide +kernel
theorem dX12_laysArc_122 : decode cX12_laysArc 122 = .ok (.aload_n 0, 1) := by decide +kernel
theorem dX12_laysArc_123 : decode cX12_laysArc 123 = .ok (.getfield 13, 3) := by decide +kernel
theorem dX12_laysArc_126 : decode cX12_laysArc 126 = .ok (.bipush 62, 2) := by decide +kernel
theorem dX12_laysArc_128 : decode cX12_laysArc 128 = .ok (.iaload, 1) := by decide +kernel
theorem dX12_laysArc_129 : decode cX12_laysArc 129 = .ok (.invokevirtual 268, 3) := by decide +kernel
theorem dX12_laysArc_132 : decode cX12_laysArc 132 = .ok (.iastore, 1) := by decide +kernel
theorem dX12_laysArc_133 : decode cX12_laysArc 133 = .ok (.aload_n 0, 1) := by decide +kernel
theorem dX12_laysArc_134 : decode cX12_laysArc 134 = .ok (.dup, 1) := by decide +kernel
theorem dX12_laysArc_135 : decode cX12_laysArc 135 = .ok (.getfield 265, 3) := by decide +kernel
theorem dX12_laysArc_138 : decode cX12_laysArc 138 = .ok (.iconst 1, 1) := by decide +kernel
theorem dX12_laysArc_139 : decode cX12_laysArc 139 = .ok (.iadd, 1) := by decide +kernel
theorem dX12_laysArc_140 : decode cX12_laysArc 140 = .ok (.putfield 265, 3) := by decide +kernel
theorem dX12_laysArc_143 : decode cX12_laysArc 143 = .ok (.iinc 2 1, 3) := by decide +kernel
theorem dX12_laysArc_146 : decode cX12_laysArc 146 = .ok (.goto (-144), 3) := by decide +kernel
theorem dX12_laysArc_149 : decode cX12_laysArc 149 = .ok (.return_, 1) := by decide +kernel
def hX12_laysArc_45 (f : Nat) (Φ : aj_M → Prop) (K2 : List Nat → Int → Int → aj_M → Prop) (q0 : List Nat) (v1 : Int) (v2 : Int) (v3 : Int) (m : aj_M) : Prop := wX12_isKept f (fun z1 m1 => rI z1 ∧ (¬ z1 = 0 → (0 ≤ (13 + v1) ∧ (13 + v1) < 3315) ∧ (0 ≤ (m1 q0 22) ∧ (m1 q0 22) < 144) ∧ ∀ m2, m2 = aj_u m1 (18 :: q0) (m1 q0 22).toNat (((m1 (1 :: q0) (13 + v1).toNat) * (m1 (1 :: q0) (4 : Int).toNat)) + v2) → (0 ≤ (25 + v1) ∧ (25 + v1) < 3315) ∧ (0 ≤ (m2 q0 22) ∧ (m2 q0 22) < 144) ∧ ∀ m3, m3 = aj_u m2 (19 :: q0) (m2 q0 22).toNat (((m2 (1 :: q0) (25 + v1).toNat) * (m2 (1 :: q0) (4 : Int).toNat)) + v3) → wX12_weightOf f (fun z2 m4 => (0 ≤ (m3 q0 22) ∧ (m3 q0 22) < 144) ∧ ∀ m5, m5 = aj_u m4 (20 :: q0) (m3 q0 22).toNat z2 → ∀ m6, m6 = aj_u m5 q0 22 ((m5 q0 22) + 1) → K2 q0 v1 (v2 + 1) m6) q0 v1 v2 (m3 (1 :: q0) (62 : Int).toNat) m3) ∧ (z1 = 0 → K2 q0 v1 (v2 + 1) m1)) q0 v1 v2 m
set_option maxHeartbeats 4000000 in
set_option maxRecDepth 100000 in
theorem tX12_laysArc_45 {X : aj_T} {n f : Nat} {Φ : aj_M → Prop} (C : aj_Cx X cX12_laysArc RX12 4 (n + 4)) (K : aj_Rt X none (fun r m => r = none ∧ Φ m)) {K2 : List Nat → Int → Int → aj_M → Prop} (HK2 : ∀ (q0 : List Nat) (v1 : Int) (v2 : Int) (m : aj_M) (hq0 : (.inl (12, q0) : aj_R) ∈ aj_pls), K2 q0 v1 v2 m → aj_J X 2 [some (vO 12 q0), some (vI v1), some (vI v2), none] [] m) (q0 : List Nat) (v1 : Int) (v2 : Int) (v3 : Int) (m : aj_M) (hq0 : (.inl (12, q0) : aj_R) ∈ aj_pls) (h : hX12_laysArc_45 f Φ K2 q0 v1 v2 v3 m) : aj_J X 45 [some (vO 12 q0), some (vI v1), some (vI v2), some (vI v3)] [] m := by
  unfold hX12_laysArc_45 at h
  refine aj_aload_n C dX12_laysArc_45 rfl ?_
  refine aj_iload_n C dX12_laysArc_46 rfl ?_
  refine aj_iload_n C dX12_laysArc_47 rfl ?_
  refine aj_callV (rest := []) C mvX12_261 (sX12_isKept hq0 h) hq0 (aj_np 2 (by decide +kernel) rfl) (Nat.le_of_ble_eq_true rfl) rfl dX12_laysArc_48 (fun r m1 h => ?_)
  obtain ⟨z1, rfl, h⟩ := h
  obtain ⟨r0, h1, h2⟩ := h
  refine aj_if_ne (tgt := 57) C dX12_laysArc_51 (by decide) r0 (fun e => ?_) (fun e => ?_)
  · have h := h1 e
    refine aj_aload_n C dX12_laysArc_57 rfl ?_
    refine aj_getA (x := 0) (y := 144) C flX12_36 hq0 rfl dX12_laysArc_58 ?_
    refine aj_aload_n C dX12_laysArc_61 rfl ?_
    refine aj_getI C flX12_265 hq0 (by decide) dX12_laysArc_62 rfl ?_
    refine aj_aload_n C dX12_laysArc_65 rfl ?_
    refine aj_getA (x := 0) (y := 3315) C flX12_13 hq0 rfl dX12_laysArc_66 ?_
    refine aj_bipush C dX12_laysArc_69 (by decide) ?_
    refine aj_iload_n C dX12_laysArc_71 rfl ?_
    refine aj_iadd C dX12_laysArc_72 ?_
    obtain ⟨r0, h⟩ := h
    refine aj_iald C (aj_ca (e := 0) (n := 3315) (j := 1) hq0 (by decide) rfl) (by decide) r0 dX12_laysArc_73 rfl ?_
    refine aj_aload_n C dX12_laysArc_74 rfl ?_
    refine aj_getA (x := 0) (y := 3315) C flX12_13 hq0 rfl dX12_laysArc_75 ?_
    refine aj_iconst C dX12_laysArc_78 ?_
    refine aj_iald C (aj_ca (e := 0) (n := 3315) (j := 1) hq0 (by decide) rfl) (by decide) (by decide) dX12_laysArc_79 rfl ?_
    refine aj_imul C dX12_laysArc_80 ?_
    refine aj_iload_n C dX12_laysArc_81 rfl ?_
    refine aj_iadd C dX12_laysArc_82 ?_
    obtain ⟨r0, h⟩ := h
    refine aj_iast C (aj_ca (e := 0) (n := 144) (j := 18) hq0 (by decide) rfl) (by decide) r0 dX12_laysArc_83 ?_
    refine aj_nm (fun m2 e1 => ?_)
    have h := h m2 e1
    refine aj_aload_n C dX12_laysArc_84 rfl ?_
    refine aj_getA (x := 0) (y := 144) C flX12_39 hq0 rfl dX12_laysArc_85 ?_
    refine aj_aload_n C dX12_laysArc_88 rfl ?_
    refine aj_getI C flX12_265 hq0 (by decide) dX12_laysArc_89 rfl ?_
    refine aj_aload_n C dX12_laysArc_92 rfl ?_
    refine aj_getA (x := 0) (y := 3315) C flX12_13 hq0 rfl dX12_laysArc_93 ?_
    refine aj_bipush C dX12_laysArc_96 (by decide) ?_
    refine aj_iload_n C dX12_laysArc_98 rfl ?_
    refine aj_iadd C dX12_laysArc_99 ?_
    obtain ⟨r0, h⟩ := h
    refine aj_iald C (aj_ca (e := 0) (n := 3315) (j := 1) hq0 (by decide) rfl) (by decide) r0 dX12_laysArc_100 rfl ?_
    refine aj_aload_n C dX12_laysArc_101 rfl ?_
    refine aj_getA (x := 0) (y := 3315) C flX12_13 hq0 rfl dX12_laysArc_102 ?_
    refine aj_iconst C dX12_laysArc_105 ?_
    refine aj_iald C (aj_ca (e := 0) (n := 3315) (j := 1) hq0 (by decide) rfl) (by decide) (by decide) dX12_laysArc_106 rfl ?_
    refine aj_imul C dX12_laysArc_107 ?_
    refine aj_iload_n C dX12_laysArc_108 rfl ?_
    refine aj_iadd C dX12_laysArc_109 ?_
    obtain ⟨r0, h⟩ := h
    refine aj_iast C (aj_ca (e := 0) (n := 144) (j := 19) hq0 (by decide) rfl) (by decide) r0 dX12_laysArc_110 ?_
    refine aj_nm (fun m3 e1 => ?_)
    have h := h m3 e1
    refine aj_aload_n C dX12_laysArc_111 rfl ?_
    refine aj_getA (x := 0) (y := 144) C flX12_42 hq0 rfl dX12_laysArc_112 ?_
    refine aj_aload_n C dX12_laysArc_115 rfl ?_
    refine aj_getI C flX12_265 hq0 (by decide) dX12_laysArc_116 rfl ?_
    refine aj_aload_n C dX12_laysArc_119 rfl ?_
    refine aj_iload_n C dX12_laysArc_120 rfl ?_
    refine aj_iload_n C dX12_laysArc_121 rfl ?_
    refine aj_aload_n C dX12_laysArc_122 rfl ?_
    refine aj_getA (x := 0) (y := 3315) C flX12_13 hq0 rfl dX12_laysArc_123 ?_
    refine aj_bipush C dX12_laysArc_126 (by decide) ?_
    refine aj_iald C (aj_ca (e := 0) (n := 3315) (j := 1) hq0 (by decide) rfl) (by decide) (by decide) dX12_laysArc_128 rfl ?_
    refine aj_callV (rest := [vI (m3 q0 22), vA 0 144 (20 :: q0)]) C mvX12_268 (sX12_weightOf hq0 h) hq0 (aj_np 3 (by decide +kernel) rfl) (Nat.le_of_ble_eq_true rfl) rfl dX12_laysArc_129 (fun r m4 h => ?_)
    obtain ⟨z2, rfl, h⟩ := h
    obtain ⟨r0, h⟩ := h
    refine aj_iast C (aj_ca (e := 0) (n := 144) (j := 20) hq0 (by decide) rfl) (by decide) r0 dX12_laysArc_132 ?_
    refine aj_nm (fun m5 e1 => ?_)
    have h := h m5 e1
    refine aj_aload_n C dX12_laysArc_133 rfl ?_
    refine aj_dup C aj_nR dX12_laysArc_134 ?_
    refine aj_getI C flX12_265 hq0 (by decide) dX12_laysArc_135 rfl ?_
    refine aj_iconst C dX12_laysArc_138 ?_
    refine aj_iadd C dX12_laysArc_139 ?_
    refine aj_putI C fpX12_265 hq0 rfl dX12_laysArc_140 ?_
    refine aj_nm (fun m6 e1 => ?_)
    have h := h m6 e1
    refine aj_iinc (lv' := [some (vO 12 q0), some (vI v1), some (vI (v2 + 1)), some (vI v3)]) C dX12_laysArc_143 rfl (by decide) rfl ?_
    refine aj_goto (tgt := 2) C dX12_laysArc_146 (by decide) ?_
    refine aj_wk (lv' := [some (vO 12 q0), some (vI v1), some (vI (v2 + 1)), none]) (⟨rfl, ⟨rfl, ⟨rfl, trivial⟩⟩⟩) ?_
    exact HK2 q0 v1 (v2 + 1) _ hq0 h
  · have h := h2 e
    refine aj_goto (tgt := 143) C dX12_laysArc_54 (by decide) ?_
    refine aj_iinc (lv' := [some (vO 12 q0), some (vI v1), some (vI (v2 + 1)), some (vI v3)]) C dX12_laysArc_143 rfl (by decide) rfl ?_
    refine aj_goto (tgt := 2) C dX12_laysArc_146 (by decide) ?_
    refine aj_wk (lv' := [some (vO 12 q0), some (vI v1), some (vI (v2 + 1)), none]) (⟨rfl, ⟨rfl, ⟨rfl, trivial⟩⟩⟩) ?_
    exact HK2 q0 v1 (v2 + 1) _ hq0 h
def hX12_laysArc_2 (f : Nat) (Φ : aj_M → Prop) : Nat → List Nat → Int → Int → aj_M → Prop
  | 0, _, _, _, _ => False
  | k + 1, q0, v1, v2, m => rI v2 ∧ rI (m (1 :: q0) (4 : Int).toNat) ∧ ((m (1 :: q0) (4 : Int).toNat) ≤ v2 → Φ m) ∧ (¬ ((m (1 :: q0) (4 : Int).toNat) ≤ v2) → (0 ≤ (49 + v1) ∧ (49 + v1) < 3315) ∧ wX12_timesNow f (fun z1 m1 => (0 ≤ (37 + v1) ∧ (37 + v1) < 3315) ∧ rI (m1 (1 :: q0) (37 + v1).toNat) ∧ (¬ (m1 (1 :: q0) (37 + v1).toNat) = 1 → hX12_laysArc_45 f Φ (fun q0 v1 v2 m => hX12_laysArc_2 f Φ k q0 v1 v2 m) q0 v1 v2 z1 m1) ∧ ((m1 (1 :: q0) (37 + v1).toNat) = 1 → rI v2 ∧ rI z1 ∧ (z1 < v2 → hX12_laysArc_2 f Φ k q0 v1 (v2 + 1) m1) ∧ (¬ (z1 < v2) → hX12_laysArc_45 f Φ (fun q0 v1 v2 m => hX12_laysArc_2 f Φ k q0 v1 v2 m) q0 v1 v2 z1 m1))) q0 v2 (m (1 :: q0) (49 + v1).toNat) m)
set_option maxHeartbeats 4000000 in
set_option maxRecDepth 100000 in
theorem tX12_laysArc_2 {X : aj_T} {n f : Nat} {Φ : aj_M → Prop} (C : aj_Cx X cX12_laysArc RX12 4 (n + 4)) (K : aj_Rt X none (fun r m => r = none ∧ Φ m)) : ∀ (k : Nat) (q0 : List Nat) (v1 : Int) (v2 : Int) (m : aj_M) (hq0 : (.inl (12, q0) : aj_R) ∈ aj_pls), hX12_laysArc_2 f Φ k q0 v1 v2 m → aj_J X 2 [some (vO 12 q0), some (vI v1), some (vI v2), none] [] m := by
  intro k
  induction k with
  | zero =>
    intro q0 v1 v2 m _ h
    exact h.elim
  | succ k ih =>
    intro q0 v1 v2 m hq0 h
    unfold hX12_laysArc_2 at h
    refine aj_iload_n C dX12_laysArc_2 rfl ?_
    refine aj_aload_n C dX12_laysArc_3 rfl ?_
    refine aj_getA (x := 0) (y := 3315) C flX12_13 hq0 rfl dX12_laysArc_4 ?_
    refine aj_iconst C dX12_laysArc_7 ?_
    refine aj_iald C (aj_ca (e := 0) (n := 3315) (j := 1) hq0 (by decide) rfl) (by decide) (by decide) dX12_laysArc_8 rfl ?_
    obtain ⟨r0, r1, h1, h2⟩ := h
    refine aj_icmp_ge (tgt := 149) C dX12_laysArc_9 (by decide) r0 r1 (fun e => ?_) (fun e => ?_)
    · have h := h1 e
      exact aj_vret C K dX12_laysArc_149 ⟨rfl, h⟩
    · have h := h2 e
      refine aj_aload_n C dX12_laysArc_12 rfl ?_
      refine aj_iload_n C dX12_laysArc_13 rfl ?_
      refine aj_aload_n C dX12_laysArc_14 rfl ?_
      refine aj_getA (x := 0) (y := 3315) C flX12_13 hq0 rfl dX12_laysArc_15 ?_
      refine aj_bipush C dX12_laysArc_18 (by decide) ?_
      refine aj_iload_n C dX12_laysArc_20 rfl ?_
      refine aj_iadd C dX12_laysArc_21 ?_
      obtain ⟨r0, h⟩ := h
      refine aj_iald C (aj_ca (e := 0) (n := 3315) (j := 1) hq0 (by decide) rfl) (by decide) r0 dX12_laysArc_22 rfl ?_
      refine aj_callV (rest := []) C mvX12_202 (sX12_timesNow hq0 h) hq0 (aj_np 2 (by decide +kernel) rfl) (Nat.le_of_ble_eq_true rfl) rfl dX12_laysArc_23 (fun r m1 h => ?_)
      obtain ⟨z1, rfl, h⟩ := h
      refine aj_istore_n (lv' := [some (vO 12 q0), some (vI v1), some (vI v2), some (vI z1)]) C dX12_laysArc_26 (by decide) rfl ?_
      refine aj_aload_n C dX12_laysArc_27 rfl ?_
      refine aj_getA (x := 0) (y := 3315) C flX12_13 hq0 rfl dX12_laysArc_28 ?_
      refine aj_bipush C dX12_laysArc_31 (by decide) ?_
      refine aj_iload_n C dX12_laysArc_33 rfl ?_
      refine aj_iadd C dX12_laysArc_34 ?_
      obtain ⟨r0, h⟩ := h
      refine aj_iald C (aj_ca (e := 0) (n := 3315) (j := 1) hq0 (by decide) rfl) (by decide) r0 dX12_laysArc_35 rfl ?_
      refine aj_iconst C dX12_laysArc_36 ?_
      obtain ⟨r0, h1, h2⟩ := h
      refine aj_icmp_ne (tgt := 45) C dX12_laysArc_37 (by decide) r0 (by decide) (fun e => ?_) (fun e => ?_)
      · have h := h1 e
        exact tX12_laysArc_45 C K (fun q0 v1 v2 m hq0 hh => ih q0 v1 v2 m hq0 hh) q0 v1 v2 z1 _ hq0 h
      · have h := h2 e
        refine aj_iload_n C dX12_laysArc_40 rfl ?_
        refine aj_iload_n C dX12_laysArc_41 rfl ?_
        obtain ⟨r0, r1, h1, h2⟩ := h
        refine aj_icmp_gt (tgt := 143) C dX12_laysArc_42 (by decide) r0 r1 (fun e => ?_) (fun e => ?_)
        · have h := h1 e
          refine aj_iinc (lv' := [some (vO 12 q0), some (vI v1), some (vI (v2 + 1)), some (vI z1)]) C dX12_laysArc_143 rfl (by decide) rfl ?_
          refine aj_goto (tgt := 2) C dX12_laysArc_146 (by decide) ?_
          refine aj_wk (lv' := [some (vO 12 q0), some (vI v1), some (vI (v2 + 1)), none]) (⟨rfl, ⟨rfl, ⟨rfl, trivial⟩⟩⟩) ?_
          exact ih q0 v1 (v2 + 1) _ hq0 h
        · have h := h2 e
          exact tX12_laysArc_45 C K (fun q0 v1 v2 m hq0 hh => ih q0 v1 v2 m hq0 hh) q0 v1 v2 z1 _ hq0 h
def wX12_laysArc (f : Nat) (Φ : aj_M → Prop) (q0 : List Nat) (v1 : Int) (m : aj_M) : Prop := hX12_laysArc_2 f Φ f q0 v1 0 m
set_option maxHeartbeats 4000000 in
set_option maxRecDepth 100000 in
theorem sX12_laysArc {n f : Nat} {Φ : aj_M → Prop} {q0 : List Nat} {v1 : Int} {m : aj_M} (hq0 : (.inl (12, q0) : aj_R) ∈ aj_pls) (h : wX12_laysArc f Φ q0 v1 m) : aj_Ct (n + 4) yX12_laysArc cX12_laysArc 4 none [vO 12 q0, vI v1] m (fun r m => r = none ∧ Φ m) := by
  refine aj_met (lv := [some (vO 12 q0), some (vI v1), none, none]) (by decide +kernel) rfl (Nat.le_of_ble_eq_true rfl) (fun X C K => ?_)
  unfold wX12_laysArc at h
  refine aj_iconst C dX12_laysArc_0 ?_
  refine aj_istore_n (lv' := [some (vO 12 q0), some (vI v1), some (vI 0), none]) C dX12_laysArc_1 (by decide) rfl ?_
  exact tX12_laysArc_2 C K f q0 v1 0 _ hq0 h
theorem dX12_laysNet_0 : decode cX12_laysNet 0 = .ok (.aload_n 0, 1) := by decide +kernel
theorem dX12_laysNet_1 : decode cX12_laysNet 1 = .ok (.iconst 0, 1) := by decide +kernel
theorem dX12_laysNet_2 : decode cX12_laysNet 2 = .ok (.putfield 265, 3) := by decide +kernel
theorem dX12_laysNet_5 : decode cX12_laysNet 5 = .ok (.aload_n 0, 1) := by decide +kernel
theorem dX12_laysNet_6 : decode cX12_laysNet 6 = .ok (.aload_n 0, 1) := by decide +kernel
theorem dX12_laysNet_7 : decode cX12_laysNet 7 = .ok (.getfield 13, 3) := by decide +kernel
theorem dX12_laysNet_10 : decode cX12_laysNet 10 = .ok (.iconst 5, 1) := by decide +kernel
theorem dX12_laysNet_11 : decode cX12_laysNet 11 = .ok (.iaload, 1) := by decide +kernel
theorem dX12_laysNet_12 : decode cX12_laysNet 12 = .ok (.aload_n 0, 1) := by decide +kernel
theorem dX12_laysNet_13 : decode cX12_laysNet 13 = .ok (.getfield 13, 3) := by decide +kernel
theorem dX12_laysNet_16 : decode cX12_laysNet 16 = .ok (.iconst 4, 1) := by decide +kernel
theorem dX12_laysNet_17 : decode cX12_laysNet 17 = .ok (.iaload, 1) := by decide +kernel
theorem dX12_laysNet_18 : decode cX12_laysNet 18 = .ok (.imul, 1) := by decide +kernel
theorem dX12_laysNet_19 : decode cX12_laysNet 19 = .ok (.putfield 271, 3) := by decide +kernel
theorem dX12_laysNet_22 : decode cX12_laysNet 22 = .ok (.iconst 0, 1) := by decide +kernel
theorem dX12_laysNet_23 : decode cX12_laysNet 23 = .ok (.istore_n 1, 1) := by decide +kernel
theorem dX12_laysNet_24 : decode cX12_laysNet 24 = .ok (.iload_n 1, 1) := by decide +kernel
theorem dX12_laysNet_25 : decode cX12_laysNet 25 = .ok (.aload_n 0, 1) := by decide +kernel
theorem dX12_laysNet_26 : decode cX12_laysNet 26 = .ok (.getfield 13, 3) := by decide +kernel
theorem dX12_laysNet_29 : decode cX12_laysNet 29 = .ok (.bipush 6, 2) := by decide +kernel
theorem dX12_laysNet_31 : decode cX12_laysNet 31 = .ok (.iaload, 1) := by decide +kernel
theorem dX12_laysNet_32 : decode cX12_laysNet 32 = .ok (.if_icmp .ge 29, 3) := by decide +kernel
theorem dX12_laysNet_35 : decode cX12_laysNet 35 = .ok (.aload_n 0, 1) := by decide +kernel
theorem dX12_laysNet_36 : decode cX12_laysNet 36 = .ok (.getfield 13, 3) := by decide +kernel
theorem dX12_laysNet_39 : decode cX12_laysNet 39 = .ok (.bipush 61, 2) := by decide +kernel
theorem dX12_laysNet_41 : decode cX12_laysNet 41 = .ok (.iaload, 1) := by decide +kernel
theorem dX12_laysNet_42 : decode cX12_laysNet 42 = .ok (.i2l, 1) := by decide +kernel
theorem dX12_laysNet_43 : decode cX12_laysNet 43 = .ok (.iload_n 1, 1) := by decide +kernel
theorem dX12_laysNet_44 : decode cX12_laysNet 44 = .ok (.invokestatic 274, 3) := by decide +kernel
theorem dX12_laysNet_47 : decode cX12_laysNet 47 = .ok (.ifCond .ne 8, 3) := by decide +kernel
theorem dX12_laysNet_50 : decode cX12_laysNet 50 = .ok (.aload_n 0, 1) := by decide +kernel
theorem dX12_laysNet_51 : decode cX12_laysNet 51 = .ok (.iload_n 1, 1) := by decide +kernel
theorem dX12_laysNet_52 : decode cX12_laysNet 52 = .ok (.invokevirtual 278, 3) := by decide +kernel
theorem dX12_laysNet_55 : decode cX12_laysNet 55 = .ok (.iinc 1 1, 3) := by decide +kernel
theorem dX12_laysNet_58 : decode cX12_laysNet 58 = .ok (.goto (-34), 3) := by decide +kernel
theorem dX12_laysNet_61 : decode cX12_laysNet 61 = .ok (.iconst 0, 1) := by decide +kernel
theorem dX12_laysNet_62 : decode cX12_laysNet 62 = .ok (.istore_n 1, 1) := by decide +kernel
theorem dX12_laysNet_63 : decode cX12_laysNet 63 = .ok (.iload_n 1, 1) := by decide +kernel
theorem dX12_laysNet_64 : decode cX12_laysNet 64 = .ok (.sipush 3600, 3) := by decide +kernel
theorem dX12_laysNet_67 : decode cX12_laysNet 67 = .ok (.if_icmp .ge 16, 3) := by decide +kernel
theorem dX12_laysNet_70 : decode cX12_laysNet 70 = .ok (.aload_n 0, 1) := by decide +kernel
theorem dX12_laysNet_71 : decode cX12_laysNet 71 = .ok (.getfield 45, 3) := by decide +kernel
theorem dX12_laysNet_74 : decode cX12_laysNet 74 = .ok (.iload_n 1, 1) := by decide +kernel
theorem dX12_laysNet_75 : decode cX12_laysNet 75 = .ok (.iconst 0, 1) := by decide +kernel
theorem dX12_laysNet_76 : decode cX12_laysNet 76 = .ok (.iastore, 1) := by decide +kernel
theorem dX12_laysNet_77 : decode cX12_laysNet 77 = .ok (.iinc 1 1, 3) := by decide +kernel
theorem dX12_laysNet_80 : decode cX12_laysNet 80 = .ok (.goto (-17), 3) := by decide +kernel
theorem dX12_laysNet_83 : decode cX12_laysNet 83 = .ok (.iconst 0, 1) := by decide +kernel
theorem dX12_laysNet_84 : decode cX12_laysNet 84 = .ok (.istore_n 1, 1) := by decide +kernel
theorem dX12_laysNet_85 : decode cX12_laysNet 85 = .ok (.iload_n 1, 1) := by decide +kernel
theorem dX12_laysNet_86 : decode cX12_laysNet 86 = .ok (.aload_n 0, 1) := by decide +kernel
theorem dX12_laysNet_87 : decode cX12_laysNet 87 = .ok (.getfield 265, 3) := by decide +kernel
theorem dX12_laysNet_90 : decode cX12_laysNet 90 = .ok (.if_icmp .ge 74, 3) := by decide +kernel
theorem dX12_laysNet_93 : decode cX12_laysNet 93 = .ok (.aload_n 0, 1) := by decide +kernel
theorem dX12_laysNet_94 : decode cX12_laysNet 94 = .ok (.getfield 45, 3) := by decide +kernel
theorem dX12_laysNet_97 : decode cX12_laysNet 97 = .ok (.bipush 60, 2) := by decide +kernel
theorem dX12_laysNet_99 : decode cX12_laysNet 99 = .ok (.aload_n 0, 1) := by decide +kernel
theorem dX12_laysNet_100 : decode cX12_laysNet 100 = .ok (.getfield 36, 3) := by decide +kernel
theorem dX12_laysNet_103 : decode cX12_laysNet 103 = .ok (.iload_n 1, 1) := by decide +kernel
theorem dX12_laysNet_104 : decode cX12_laysNet 104 = .ok (.iaload, 1) := by decide +kernel
theorem dX12_laysNet_105 : decode cX12_laysNet 105 = .ok (.imul, 1) := by decide +kernel
theorem dX12_laysNet_106 : decode cX12_laysNet 106 = .ok (.aload_n 0, 1) := by decide +kernel
theorem dX12_laysNet_107 : decode cX12_laysNet 107 = .ok (.getfield 39, 3) := by decide +kernel
theorem dX12_laysNet_110 : decode cX12_laysNet 110 = .ok (.iload_n 1, 1) := by decide +kernel
theorem dX12_laysNet_111 : decode cX12_laysNet 111 = .ok (.iaload, 1) := by decide +kernel
theorem dX12_laysNet_112 : decode cX12_laysNet 112 = .ok (.iadd, 1) := by decide +kernel
theorem dX12_laysNet_113 : decode cX12_laysNet 113 = .ok (.dup2, 1) := by decide +kernel
theorem dX12_laysNet_114 : decode cX12_laysNet 114 = .ok (.iaload, 1) := by decide +kernel
theorem dX12_laysNet_115 : decode cX12_laysNet 115 = .ok (.iconst 1, 1) := by decide +kernel
theorem dX12_laysNet_116 : decode cX12_laysNet 116 = .ok (.iadd, 1) := by decide +kernel
theorem dX12_laysNet_117 : decode cX12_laysNet 117 = .ok (.iastore, 1) := by decide +kernel
theorem dX12_laysNet_118 : decode cX12_laysNet 118 = .ok (.aload_n 0, 1) := by decide +kernel
theorem dX12_laysNet_119 : decode cX12_laysNet 119 = .ok (.getfield 36, 3) := by decide +kernel
theorem dX12_laysNet_122 : decode cX12_laysNet 122 = .ok (.iload_n 1, 1) := by decide +kernel
theorem dX12_laysNet_123 : decode cX12_laysNet 123 = .ok (.iaload, 1) := by decide +kernel
theorem dX12_laysNet_124 : decode cX12_laysNet 124 = .ok (.aload_n 0, 1) := by decide +kernel
theorem dX12_laysNet_125 : decode cX12_laysNet 125 = .ok (.getfield 39, 3) := by decide +kernel
theorem dX12_laysNet_128 : decode cX12_laysNet 128 = .ok (.iload_n 1, 1) := by decide +kernel
theorem dX12_laysNet_129 : decode cX12_laysNet 129 = .ok (.iaload, 1) := by decide +kernel
theorem dX12_laysNet_130 : decode cX12_laysNet 130 = .ok (.if_icmp .eq 28, 3) := by decide +kernel
theorem dX12_laysNet_133 : decode cX12_laysNet 133 = .ok (.aload_n 0, 1) := by decide +kernel
theorem dX12_laysNet_134 : decode cX12_laysNet 134 = .ok (.getfield 45, 3) := by decide +kernel
theorem dX12_laysNet_137 : decode cX12_laysNet 137 = .ok (.bipush 60, 2) := by decide +kernel
theorem dX12_laysNet_139 : decode cX12_laysNet 139 = .ok (.aload_n 0, 1) := by decide +kernel
theorem dX12_laysNet_140 : decode cX12_laysNet 140 = .ok (.getfield 39, 3) := by decide +kernel
theorem dX12_laysNet_143 : decode cX12_laysNet 143 = .ok (.iload_n 1, 1) := by decide +kernel
theorem dX12_laysNet_144 : decode cX12_laysNet 144 = .ok (.iaload, 1) := by decide +kernel
theorem dX12_laysNet_145 : decode cX12_laysNet 145 = .ok (.imul, 1) := by decide +kernel
theorem dX12_laysNet_146 : decode cX12_laysNet 146 = .ok (.aload_n 0, 1) := by decide +kernel
theorem dX12_laysNet_147 : decode cX12_laysNet 147 = .ok (.getfield 36, 3) := by decide +kernel
theorem dX12_laysNet_150 : decode cX12_laysNet 150 = .ok (.iload_n 1, 1) := by decide +kernel
theorem dX12_laysNet_151 : decode cX12_laysNet 151 = .ok (.iaload, 1) := by decide +kernel
theorem dX12_laysNet_152 : decode cX12_laysNet 152 = .ok (.iadd, 1) := by decide +kernel
theorem dX12_laysNet_153 : decode cX12_laysNet 153 = .ok (.dup2, 1) := by decide +kernel
theorem dX12_laysNet_154 : decode cX12_laysNet 154 = .ok (.iaload, 1) := by decide +kernel
theorem dX12_laysNet_155 : decode cX12_laysNet 155 = .ok (.iconst 1, 1) := by decide +kernel
theorem dX12_laysNet_156 : decode cX12_laysNet 156 = .ok (.iadd, 1) := by decide +kernel
theorem dX12_laysNet_157 : decode cX12_laysNet 157 = .ok (.iastore, 1) := by decide +kernel
theorem dX12_laysNet_158 : decode cX12_laysNet 158 = .ok (.iinc 1 1, 3) := by decide +kernel
theorem dX12_laysNet_161 : decode cX12_laysNet 161 = .ok (.goto (-76), 3) := by decide +kernel
theorem dX12_laysNet_164 : decode cX12_laysNet 164 = .ok (.return_, 1) := by decide +kernel
def hX12_laysNet_85 (f : Nat) (Φ : aj_M → Prop) : Nat → List Nat → Int → aj_M → Prop
  | 0, _, _, _ => False
  | k + 1, q0, v1, m => rI v1 ∧ rI (m q0 22) ∧ ((m q0 22) ≤ v1 → Φ m) ∧ (¬ ((m q0 22) ≤ v1) → (0 ≤ v1 ∧ v1 < 144) ∧ (0 ≤ v1 ∧ v1 < 144) ∧ (0 ≤ ((60 * (m (18 :: q0) v1.toNat)) + (m (19 :: q0) v1.toNat)) ∧ ((60 * (m (18 :: q0) v1.toNat)) + (m (19 :: q0) v1.toNat)) < 3600) ∧ (0 ≤ ((60 * (m (18 :: q0) v1.toNat)) + (m (19 :: q0) v1.toNat)) ∧ ((60 * (m (18 :: q0) v1.toNat)) + (m (19 :: q0) v1.toNat)) < 3600) ∧ ∀ m1, m1 = aj_u m (21 :: q0) ((60 * (m (18 :: q0) v1.toNat)) + (m (19 :: q0) v1.toNat)).toNat ((m (21 :: q0) ((60 * (m (18 :: q0) v1.toNat)) + (m (19 :: q0) v1.toNat)).toNat) + 1) → (0 ≤ v1 ∧ v1 < 144) ∧ (0 ≤ v1 ∧ v1 < 144) ∧ rI (m1 (18 :: q0) v1.toNat) ∧ rI (m1 (19 :: q0) v1.toNat) ∧ ((m1 (18 :: q0) v1.toNat) = (m1 (19 :: q0) v1.toNat) → hX12_laysNet_85 f Φ k q0 (v1 + 1) m1) ∧ (¬ ((m1 (18 :: q0) v1.toNat) = (m1 (19 :: q0) v1.toNat)) → (0 ≤ v1 ∧ v1 < 144) ∧ (0 ≤ v1 ∧ v1 < 144) ∧ (0 ≤ ((60 * (m1 (19 :: q0) v1.toNat)) + (m1 (18 :: q0) v1.toNat)) ∧ ((60 * (m1 (19 :: q0) v1.toNat)) + (m1 (18 :: q0) v1.toNat)) < 3600) ∧ (0 ≤ ((60 * (m1 (19 :: q0) v1.toNat)) + (m1 (18 :: q0) v1.toNat)) ∧ ((60 * (m1 (19 :: q0) v1.toNat)) + (m1 (18 :: q0) v1.toNat)) < 3600) ∧ ∀ m2, m2 = aj_u m1 (21 :: q0) ((60 * (m1 (19 :: q0) v1.toNat)) + (m1 (18 :: q0) v1.toNat)).toNat ((m1 (21 :: q0) ((60 * (m1 (19 :: q0) v1.toNat)) + (m1 (18 :: q0) v1.toNat)).toNat) + 1) → hX12_laysNet_85 f Φ k q0 (v1 + 1) m2))
set_option maxHeartbeats 4000000 in
set_option maxRecDepth 100000 in
theorem tX12_laysNet_85 {X : aj_T} {n f : Nat} {Φ : aj_M → Prop} (C : aj_Cx X cX12_laysNet RX12 2 (n + 5)) (K : aj_Rt X none (fun r m => r = none ∧ Φ m)) : ∀ (k : Nat) (q0 : List Nat) (v1 : Int) (m : aj_M) (hq0 : (.inl (12, q0) : aj_R) ∈ aj_pls), hX12_laysNet_85 f Φ k q0 v1 m → aj_J X 85 [some (vO 12 q0), some (vI v1)] [] m := by
  intro k
  induction k with
  | zero =>
    intro q0 v1 m _ h
    exact h.elim
  | succ k ih =>
    intro q0 v1 m hq0 h
    unfold hX12_laysNet_85 at h
    refine aj_iload_n C dX12_laysNet_85 rfl ?_
    refine aj_aload_n C dX12_laysNet_86 rfl ?_
    refine aj_getI C flX12_265 hq0 (by decide) dX12_laysNet_87 rfl ?_
    obtain ⟨r0, r1, h1, h2⟩ := h
    refine aj_icmp_ge (tgt := 164) C dX12_laysNet_90 (by decide) r0 r1 (fun e => ?_) (fun e => ?_)
    · have h := h1 e
      exact aj_vret C K dX12_laysNet_164 ⟨rfl, h⟩
    · have h := h2 e
      refine aj_aload_n C dX12_laysNet_93 rfl ?_
      refine aj_getA (x := 0) (y := 3600) C flX12_45 hq0 rfl dX12_laysNet_94 ?_
      refine aj_bipush C dX12_laysNet_97 (by decide) ?_
      refine aj_aload_n C dX12_laysNet_99 rfl ?_
      refine aj_getA (x := 0) (y := 144) C flX12_36 hq0 rfl dX12_laysNet_100 ?_
      refine aj_iload_n C dX12_laysNet_103 rfl ?_
      obtain ⟨r0, h⟩ := h
      refine aj_iald C (aj_ca (e := 0) (n := 144) (j := 18) hq0 (by decide) rfl) (by decide) r0 dX12_laysNet_104 rfl ?_
      refine aj_imul C dX12_laysNet_105 ?_
      refine aj_aload_n C dX12_laysNet_106 rfl ?_
      refine aj_getA (x := 0) (y := 144) C flX12_39 hq0 rfl dX12_laysNet_107 ?_
      refine aj_iload_n C dX12_laysNet_110 rfl ?_
      obtain ⟨r0, h⟩ := h
      refine aj_iald C (aj_ca (e := 0) (n := 144) (j := 19) hq0 (by decide) rfl) (by decide) r0 dX12_laysNet_111 rfl ?_
      refine aj_iadd C dX12_laysNet_112 ?_
      refine aj_dup2 C aj_nI aj_nR dX12_laysNet_113 ?_
      obtain ⟨r0, h⟩ := h
      refine aj_iald C (aj_ca (e := 0) (n := 3600) (j := 21) hq0 (by decide) rfl) (by decide) r0 dX12_laysNet_114 rfl ?_
      refine aj_iconst C dX12_laysNet_115 ?_
      refine aj_iadd C dX12_laysNet_116 ?_
      obtain ⟨r0, h⟩ := h
      refine aj_iast C (aj_ca (e := 0) (n := 3600) (j := 21) hq0 (by decide) rfl) (by decide) r0 dX12_laysNet_117 ?_
      refine aj_nm (fun m1 e1 => ?_)
      have h := h m1 e1
      refine aj_aload_n C dX12_laysNet_118 rfl ?_
      refine aj_getA (x := 0) (y := 144) C flX12_36 hq0 rfl dX12_laysNet_119 ?_
      refine aj_iload_n C dX12_laysNet_122 rfl ?_
      obtain ⟨r0, h⟩ := h
      refine aj_iald C (aj_ca (e := 0) (n := 144) (j := 18) hq0 (by decide) rfl) (by decide) r0 dX12_laysNet_123 rfl ?_
      refine aj_aload_n C dX12_laysNet_124 rfl ?_
      refine aj_getA (x := 0) (y := 144) C flX12_39 hq0 rfl dX12_laysNet_125 ?_
      refine aj_iload_n C dX12_laysNet_128 rfl ?_
      obtain ⟨r0, h⟩ := h
      refine aj_iald C (aj_ca (e := 0) (n := 144) (j := 19) hq0 (by decide) rfl) (by decide) r0 dX12_laysNet_129 rfl ?_
      obtain ⟨r0, r1, h1, h2⟩ := h
      refine aj_icmp_eq (tgt := 158) C dX12_laysNet_130 (by decide) r0 r1 (fun e => ?_) (fun e => ?_)
      · have h := h1 e
        refine aj_iinc (lv' := [some (vO 12 q0), some (vI (v1 + 1))]) C dX12_laysNet_158 rfl (by decide) rfl ?_
        refine aj_goto (tgt := 85) C dX12_laysNet_161 (by decide) ?_
        exact ih q0 (v1 + 1) _ hq0 h
      · have h := h2 e
        refine aj_aload_n C dX12_laysNet_133 rfl ?_
        refine aj_getA (x := 0) (y := 3600) C flX12_45 hq0 rfl dX12_laysNet_134 ?_
        refine aj_bipush C dX12_laysNet_137 (by decide) ?_
        refine aj_aload_n C dX12_laysNet_139 rfl ?_
        refine aj_getA (x := 0) (y := 144) C flX12_39 hq0 rfl dX12_laysNet_140 ?_
        refine aj_iload_n C dX12_laysNet_143 rfl ?_
        obtain ⟨r0, h⟩ := h
        refine aj_iald C (aj_ca (e := 0) (n := 144) (j := 19) hq0 (by decide) rfl) (by decide) r0 dX12_laysNet_144 rfl ?_
        refine aj_imul C dX12_laysNet_145 ?_
        refine aj_aload_n C dX12_laysNet_146 rfl ?_
        refine aj_getA (x := 0) (y := 144) C flX12_36 hq0 rfl dX12_laysNet_147 ?_
        refine aj_iload_n C dX12_laysNet_150 rfl ?_
        obtain ⟨r0, h⟩ := h
        refine aj_iald C (aj_ca (e := 0) (n := 144) (j := 18) hq0 (by decide) rfl) (by decide) r0 dX12_laysNet_151 rfl ?_
        refine aj_iadd C dX12_laysNet_152 ?_
        refine aj_dup2 C aj_nI aj_nR dX12_laysNet_153 ?_
        obtain ⟨r0, h⟩ := h
        refine aj_iald C (aj_ca (e := 0) (n := 3600) (j := 21) hq0 (by decide) rfl) (by decide) r0 dX12_laysNet_154 rfl ?_
        refine aj_iconst C dX12_laysNet_155 ?_
        refine aj_iadd C dX12_laysNet_156 ?_
        obtain ⟨r0, h⟩ := h
        refine aj_iast C (aj_ca (e := 0) (n := 3600) (j := 21) hq0 (by decide) rfl) (by decide) r0 dX12_laysNet_157 ?_
        refine aj_nm (fun m2 e1 => ?_)
        have h := h m2 e1
        refine aj_iinc (lv' := [some (vO 12 q0), some (vI (v1 + 1))]) C dX12_laysNet_158 rfl (by decide) rfl ?_
        refine aj_goto (tgt := 85) C dX12_laysNet_161 (by decide) ?_
        exact ih q0 (v1 + 1) _ hq0 h
def hX12_laysNet_63 (f : Nat) (Φ : aj_M → Prop) : Nat → List Nat → Int → aj_M → Prop
  | 0, _, _, _ => False
  | k + 1, q0, v1, m => rI v1 ∧ (3600 ≤ v1 → hX12_laysNet_85 f Φ f q0 0 m) ∧ (¬ (3600 ≤ v1) → (0 ≤ v1 ∧ v1 < 3600) ∧ ∀ m1, m1 = aj_u m (21 :: q0) v1.toNat 0 → hX12_laysNet_63 f Φ k q0 (v1 + 1) m1)
set_option maxHeartbeats 4000000 in
set_option maxRecDepth 100000 in
theorem tX12_laysNet_63 {X : aj_T} {n f : Nat} {Φ : aj_M → Prop} (C : aj_Cx X cX12_laysNet RX12 2 (n + 5)) (K : aj_Rt X none (fun r m => r = none ∧ Φ m)) : ∀ (k : Nat) (q0 : List Nat) (v1 : Int) (m : aj_M) (hq0 : (.inl (12, q0) : aj_R) ∈ aj_pls), hX12_laysNet_63 f Φ k q0 v1 m → aj_J X 63 [some (vO 12 q0), some (vI v1)] [] m := by
  intro k
  induction k with
  | zero =>
    intro q0 v1 m _ h
    exact h.elim
  | succ k ih =>
    intro q0 v1 m hq0 h
    unfold hX12_laysNet_63 at h
    refine aj_iload_n C dX12_laysNet_63 rfl ?_
    refine aj_sipush C dX12_laysNet_64 (by decide) ?_
    obtain ⟨r0, h1, h2⟩ := h
    refine aj_icmp_ge (tgt := 83) C dX12_laysNet_67 (by decide) r0 (by decide) (fun e => ?_) (fun e => ?_)
    · have h := h1 e
      refine aj_iconst C dX12_laysNet_83 ?_
      refine aj_istore_n (lv' := [some (vO 12 q0), some (vI 0)]) C dX12_laysNet_84 (by decide) rfl ?_
      exact tX12_laysNet_85 C K f q0 0 _ hq0 h
    · have h := h2 e
      refine aj_aload_n C dX12_laysNet_70 rfl ?_
      refine aj_getA (x := 0) (y := 3600) C flX12_45 hq0 rfl dX12_laysNet_71 ?_
      refine aj_iload_n C dX12_laysNet_74 rfl ?_
      refine aj_iconst C dX12_laysNet_75 ?_
      obtain ⟨r0, h⟩ := h
      refine aj_iast C (aj_ca (e := 0) (n := 3600) (j := 21) hq0 (by decide) rfl) (by decide) r0 dX12_laysNet_76 ?_
      refine aj_nm (fun m1 e1 => ?_)
      have h := h m1 e1
      refine aj_iinc (lv' := [some (vO 12 q0), some (vI (v1 + 1))]) C dX12_laysNet_77 rfl (by decide) rfl ?_
      refine aj_goto (tgt := 63) C dX12_laysNet_80 (by decide) ?_
      exact ih q0 (v1 + 1) _ hq0 h
def hX12_laysNet_24 (f : Nat) (Φ : aj_M → Prop) : Nat → List Nat → Int → aj_M → Prop
  | 0, _, _, _ => False
  | k + 1, q0, v1, m => rI v1 ∧ rI (m (1 :: q0) (6 : Int).toNat) ∧ ((m (1 :: q0) (6 : Int).toNat) ≤ v1 → hX12_laysNet_63 f Φ f q0 0 m) ∧ (¬ ((m (1 :: q0) (6 : Int).toNat) ≤ v1) → rI (m (1 :: q0) (61 : Int).toNat) ∧ wX12_isIn f (fun z1 m1 => rI z1 ∧ (¬ z1 = 0 → hX12_laysNet_24 f Φ k q0 (v1 + 1) m1) ∧ (z1 = 0 → wX12_laysArc f (fun m2 => hX12_laysNet_24 f Φ k q0 (v1 + 1) m2) q0 v1 m1)) (m (1 :: q0) (61 : Int).toNat) v1 m)
set_option maxHeartbeats 4000000 in
set_option maxRecDepth 100000 in
theorem tX12_laysNet_24 {X : aj_T} {n f : Nat} {Φ : aj_M → Prop} (C : aj_Cx X cX12_laysNet RX12 2 (n + 5)) (K : aj_Rt X none (fun r m => r = none ∧ Φ m)) : ∀ (k : Nat) (q0 : List Nat) (v1 : Int) (m : aj_M) (hq0 : (.inl (12, q0) : aj_R) ∈ aj_pls), hX12_laysNet_24 f Φ k q0 v1 m → aj_J X 24 [some (vO 12 q0), some (vI v1)] [] m := by
  intro k
  induction k with
  | zero =>
    intro q0 v1 m _ h
    exact h.elim
  | succ k ih =>
    intro q0 v1 m hq0 h
    unfold hX12_laysNet_24 at h
    refine aj_iload_n C dX12_laysNet_24 rfl ?_
    refine aj_aload_n C dX12_laysNet_25 rfl ?_
    refine aj_getA (x := 0) (y := 3315) C flX12_13 hq0 rfl dX12_laysNet_26 ?_
    refine aj_bipush C dX12_laysNet_29 (by decide) ?_
    refine aj_iald C (aj_ca (e := 0) (n := 3315) (j := 1) hq0 (by decide) rfl) (by decide) (by decide) dX12_laysNet_31 rfl ?_
    obtain ⟨r0, r1, h1, h2⟩ := h
    refine aj_icmp_ge (tgt := 61) C dX12_laysNet_32 (by decide) r0 r1 (fun e => ?_) (fun e => ?_)
    · have h := h1 e
      refine aj_iconst C dX12_laysNet_61 ?_
      refine aj_istore_n (lv' := [some (vO 12 q0), some (vI 0)]) C dX12_laysNet_62 (by decide) rfl ?_
      exact tX12_laysNet_63 C K f q0 0 _ hq0 h
    · have h := h2 e
      refine aj_aload_n C dX12_laysNet_35 rfl ?_
      refine aj_getA (x := 0) (y := 3315) C flX12_13 hq0 rfl dX12_laysNet_36 ?_
      refine aj_bipush C dX12_laysNet_39 (by decide) ?_
      refine aj_iald C (aj_ca (e := 0) (n := 3315) (j := 1) hq0 (by decide) rfl) (by decide) (by decide) dX12_laysNet_41 rfl ?_
      obtain ⟨r0, h⟩ := h
      refine aj_i2l C dX12_laysNet_42 r0 ?_
      refine aj_iload_n C dX12_laysNet_43 rfl ?_
      refine aj_callS (rest := []) C msX12_274 (sX12_isIn  h) (aj_np 2 (by decide +kernel) rfl) (Nat.le_of_ble_eq_true rfl) rfl dX12_laysNet_44 (fun r m1 h => ?_)
      obtain ⟨z1, rfl, h⟩ := h
      obtain ⟨r0, h1, h2⟩ := h
      refine aj_if_ne (tgt := 55) C dX12_laysNet_47 (by decide) r0 (fun e => ?_) (fun e => ?_)
      · have h := h1 e
        refine aj_iinc (lv' := [some (vO 12 q0), some (vI (v1 + 1))]) C dX12_laysNet_55 rfl (by decide) rfl ?_
        refine aj_goto (tgt := 24) C dX12_laysNet_58 (by decide) ?_
        exact ih q0 (v1 + 1) _ hq0 h
      · have h := h2 e
        refine aj_aload_n C dX12_laysNet_50 rfl ?_
        refine aj_iload_n C dX12_laysNet_51 rfl ?_
        refine aj_callV (rest := []) C mvX12_278 (sX12_laysArc hq0 h) hq0 (aj_np 1 (by decide +kernel) rfl) (Nat.le_of_ble_eq_true rfl) rfl dX12_laysNet_52 (fun r m2 h => ?_)
        obtain ⟨rfl, h⟩ := h
        refine aj_iinc (lv' := [some (vO 12 q0), some (vI (v1 + 1))]) C dX12_laysNet_55 rfl (by decide) rfl ?_
        refine aj_goto (tgt := 24) C dX12_laysNet_58 (by decide) ?_
        exact ih q0 (v1 + 1) _ hq0 h
def wX12_laysNet (f : Nat) (Φ : aj_M → Prop) (q0 : List Nat) (m : aj_M) : Prop := ∀ m1, m1 = aj_u m q0 22 0 → ∀ m2, m2 = aj_u m1 q0 23 ((m1 (1 :: q0) (5 : Int).toNat) * (m1 (1 :: q0) (4 : Int).toNat)) → hX12_laysNet_24 f Φ f q0 0 m2
set_option maxHeartbeats 4000000 in
set_option maxRecDepth 100000 in
theorem sX12_laysNet {n f : Nat} {Φ : aj_M → Prop} {q0 : List Nat} {m : aj_M} (hq0 : (.inl (12, q0) : aj_R) ∈ aj_pls) (h : wX12_laysNet f Φ q0 m) : aj_Ct (n + 5) yX12_laysNet cX12_laysNet 2 none [vO 12 q0] m (fun r m => r = none ∧ Φ m) := by
  refine aj_met (lv := [some (vO 12 q0), none]) (by decide +kernel) rfl (Nat.le_of_ble_eq_true rfl) (fun X C K => ?_)
  unfold wX12_laysNet at h
  refine aj_aload_n C dX12_laysNet_0 rfl ?_
  refine aj_iconst C dX12_laysNet_1 ?_
  refine aj_putI C fpX12_265 hq0 rfl dX12_laysNet_2 ?_
  refine aj_nm (fun m1 e1 => ?_)
  have h := h m1 e1
  refine aj_aload_n C dX12_laysNet_5 rfl ?_
  refine aj_aload_n C dX12_laysNet_6 rfl ?_
  refine aj_getA (x := 0) (y := 3315) C flX12_13 hq0 rfl dX12_laysNet_7 ?_
  refine aj_iconst C dX12_laysNet_10 ?_
  refine aj_iald C (aj_ca (e := 0) (n := 3315) (j := 1) hq0 (by decide) rfl) (by decide) (by decide) dX12_laysNet_11 rfl ?_
  refine aj_aload_n C dX12_laysNet_12 rfl ?_
  refine aj_getA (x := 0) (y := 3315) C flX12_13 hq0 rfl dX12_laysNet_13 ?_
  refine aj_iconst C dX12_laysNet_16 ?_
  refine aj_iald C (aj_ca (e := 0) (n := 3315) (j := 1) hq0 (by decide) rfl) (by decide) (by decide) dX12_laysNet_17 rfl ?_
  refine aj_imul C dX12_laysNet_18 ?_
  refine aj_putI C fpX12_271 hq0 rfl dX12_laysNet_19 ?_
  refine aj_nm (fun m2 e1 => ?_)
  have h := h m2 e1
  refine aj_iconst C dX12_laysNet_22 ?_
  refine aj_istore_n (lv' := [some (vO 12 q0), some (vI 0)]) C dX12_laysNet_23 (by decide) rfl ?_
  exact tX12_laysNet_24 C K f q0 0 _ hq0 h
theorem dX12_isNode_0 : decode cX12_isNode 0 = .ok (.lload_n 1, 1) := by decide +kernel
theorem dX12_isNode_1 : decode cX12_isNode 1 = .ok (.lconst 0, 1) := by decide +kernel
theorem dX12_isNode_2 : decode cX12_isNode 2 = .ok (.aload_n 0, 1) := by decide +kernel
theorem dX12_isNode_3 : decode cX12_isNode 3 = .ok (.getfield 13, 3) := by decide +kernel
theorem dX12_isNode_6 : decode cX12_isNode 6 = .ok (.iconst 5, 1) := by decide +kernel
theorem dX12_isNode_7 : decode cX12_isNode 7 = .ok (.iaload, 1) := by decide +kernel
theorem dX12_isNode_8 : decode cX12_isNode 8 = .ok (.aload_n 0, 1) := by decide +kernel
theorem dX12_isNode_9 : decode cX12_isNode 9 = .ok (.getfield 13, 3) := by decide +kernel
theorem dX12_isNode_12 : decode cX12_isNode 12 = .ok (.iconst 4, 1) := by decide +kernel
theorem dX12_isNode_13 : decode cX12_isNode 13 = .ok (.iaload, 1) := by decide +kernel
theorem dX12_isNode_14 : decode cX12_isNode 14 = .ok (.imul, 1) := by decide +kernel
theorem dX12_isNode_15 : decode cX12_isNode 15 = .ok (.iconst 1, 1) := by decide +kernel
theorem dX12_isNode_16 : decode cX12_isNode 16 = .ok (.isub, 1) := by decide +kernel
theorem dX12_isNode_17 : decode cX12_isNode 17 = .ok (.i2l, 1) := by decide +kernel
theorem dX12_isNode_18 : decode cX12_isNode 18 = .ok (.invokestatic 154, 3) := by decide +kernel
theorem dX12_isNode_21 : decode cX12_isNode 21 = .ok (.ireturn, 1) := by decide +kernel
def wX12_isNode (f : Nat) (Φ : Int → aj_M → Prop) (q0 : List Nat) (w1 : Int) (m : aj_M) : Prop := rI (((m (1 :: q0) (5 : Int).toNat) * (m (1 :: q0) (4 : Int).toNat)) - 1) ∧ wX12_within f (fun z1 m1 => (z1 = 0 ∨ z1 = 1) ∧ Φ z1 m1) w1 0 (((m (1 :: q0) (5 : Int).toNat) * (m (1 :: q0) (4 : Int).toNat)) - 1) m
set_option maxHeartbeats 4000000 in
set_option maxRecDepth 100000 in
theorem sX12_isNode {n f : Nat} {Φ : Int → aj_M → Prop} {q0 : List Nat} {w1 : Int} {m : aj_M} (hq0 : (.inl (12, q0) : aj_R) ∈ aj_pls) (h : wX12_isNode f Φ q0 w1 m) : aj_Ct (n + 1) yX12_isNode cX12_isNode 3 (some .boolean) [vO 12 q0, vL w1] m (fun r m => ∃ z, r = some (vI z) ∧ Φ z m) := by
  refine aj_met (lv := [some (vO 12 q0), some (vL w1), none]) (by decide +kernel) rfl (Nat.le_of_ble_eq_true rfl) (fun X C K => ?_)
  unfold wX12_isNode at h
  refine aj_lload_n C dX12_isNode_0 rfl ?_
  refine aj_lconst (z := 0) C dX12_isNode_1 rfl ?_
  refine aj_aload_n C dX12_isNode_2 rfl ?_
  refine aj_getA (x := 0) (y := 3315) C flX12_13 hq0 rfl dX12_isNode_3 ?_
  refine aj_iconst C dX12_isNode_6 ?_
  refine aj_iald C (aj_ca (e := 0) (n := 3315) (j := 1) hq0 (by decide) rfl) (by decide) (by decide) dX12_isNode_7 rfl ?_
  refine aj_aload_n C dX12_isNode_8 rfl ?_
  refine aj_getA (x := 0) (y := 3315) C flX12_13 hq0 rfl dX12_isNode_9 ?_
  refine aj_iconst C dX12_isNode_12 ?_
  refine aj_iald C (aj_ca (e := 0) (n := 3315) (j := 1) hq0 (by decide) rfl) (by decide) (by decide) dX12_isNode_13 rfl ?_
  refine aj_imul C dX12_isNode_14 ?_
  refine aj_iconst C dX12_isNode_15 ?_
  refine aj_isub C dX12_isNode_16 ?_
  obtain ⟨r0, h⟩ := h
  refine aj_i2l C dX12_isNode_17 r0 ?_
  refine aj_callS (rest := []) C msX12_154 (sX12_within  h) (aj_np 3 (by decide +kernel) rfl) (Nat.le_of_ble_eq_true rfl) rfl dX12_isNode_18 (fun r m1 h => ?_)
  obtain ⟨z1, rfl, h⟩ := h
  exact aj_zret C K h.1 dX12_isNode_21 ⟨_, rfl, h.2⟩
theorem dX12_overFrom_0 : decode cX12_overFrom 0 = .ok (.aload_n 0, 1) := by decide +kernel
theorem dX12_overFrom_1 : decode cX12_overFrom 1 = .ok (.getfield 36, 3) := by decide +kernel
theorem dX12_overFrom_4 : decode cX12_overFrom 4 = .ok (.iload_n 1, 1) := by decide +kernel
theorem dX12_overFrom_5 : decode cX12_overFrom 5 = .ok (.iaload, 1) := by decide +kernel
theorem dX12_overFrom_6 : decode cX12_overFrom 6 = .ok (.iload_n 2, 1) := by decide +kernel
theorem dX12_overFrom_7 : decode cX12_overFrom 7 = .ok (.if_icmp .ne 12, 3) := by decide +kernel
theorem dX12_overFrom_10 : decode cX12_overFrom 10 = .ok (.aload_n 0, 1) := by decide +kernel
theorem dX12_overFrom_11 : decode cX12_overFrom 11 = .ok (.getfield 39, 3) := by decide +kernel
theorem dX12_overFrom_14 : decode cX12_overFrom 14 = .ok (.iload_n 1, 1) := by decide +kernel
theorem dX12_overFrom_15 : decode cX12_overFrom 15 = .ok (.iaload, 1) := by decide +kernel
theorem dX12_overFrom_16 : decode cX12_overFrom 16 = .ok (.goto 23, 3) := by decide +kernel
theorem dX12_overFrom_19 : decode cX12_overFrom 19 = .ok (.aload_n 0, 1) := by decide +kernel
theorem dX12_overFrom_20 : decode cX12_overFrom 20 = .ok (.getfield 39, 3) := by decide +kernel
theorem dX12_overFrom_23 : decode cX12_overFrom 23 = .ok (.iload_n 1, 1) := by decide +kernel
theorem dX12_overFrom_24 : decode cX12_overFrom 24 = .ok (.iaload, 1) := by decide +kernel
theorem dX12_overFrom_25 : decode cX12_overFrom 25 = .ok (.iload_n 2, 1) := by decide +kernel
theorem dX12_overFrom_26 : decode cX12_overFrom 26 = .ok (.if_icmp .ne 12, 3) := by decide +kernel
theorem dX12_overFrom_29 : decode cX12_overFrom 29 = .ok (.aload_n 0, 1) := by decide +kernel
theorem dX12_overFrom_30 : decode cX12_overFrom 30 = .ok (.getfield 36, 3) := by decide +kernel
theorem dX12_overFrom_33 : decode cX12_overFrom 33 = .ok (.iload_n 1, 1) := by decide +kernel
theorem dX12_overFrom_34 : decode cX12_overFrom 34 = .ok (.iaload, 1) := by decide +kernel
theorem dX12_overFrom_35 : decode cX12_overFrom 35 = .ok (.goto 4, 3) := by decide +kernel
theorem dX12_overFrom_38 : decode cX12_overFrom 38 = .ok (.iconst (-1), 1) := by decide +kernel
theorem dX12_overFrom_39 : decode cX12_overFrom 39 = .ok (.ireturn, 1) := by decide +kernel
def wX12_overFrom (f : Nat) (Φ : Int → aj_M → Prop) (q0 : List Nat) (v1 : Int) (v2 : Int) (m : aj_M) : Prop := (0 ≤ v1 ∧ v1 < 144) ∧ rI (m (18 :: q0) v1.toNat) ∧ rI v2 ∧ (¬ (m (18 :: q0) v1.toNat) = v2 → (0 ≤ v1 ∧ v1 < 144) ∧ rI (m (19 :: q0) v1.toNat) ∧ rI v2 ∧ (¬ (m (19 :: q0) v1.toNat) = v2 → Φ (-1) m) ∧ ((m (19 :: q0) v1.toNat) = v2 → (0 ≤ v1 ∧ v1 < 144) ∧ Φ (m (18 :: q0) v1.toNat) m)) ∧ ((m (18 :: q0) v1.toNat) = v2 → (0 ≤ v1 ∧ v1 < 144) ∧ Φ (m (19 :: q0) v1.toNat) m)
set_option maxHeartbeats 4000000 in
set_option maxRecDepth 100000 in
theorem sX12_overFrom {n f : Nat} {Φ : Int → aj_M → Prop} {q0 : List Nat} {v1 : Int} {v2 : Int} {m : aj_M} (hq0 : (.inl (12, q0) : aj_R) ∈ aj_pls) (h : wX12_overFrom f Φ q0 v1 v2 m) : aj_Ct n yX12_overFrom cX12_overFrom 3 (some .int) [vO 12 q0, vI v1, vI v2] m (fun r m => ∃ z, r = some (vI z) ∧ Φ z m) := by
  refine aj_met (lv := [some (vO 12 q0), some (vI v1), some (vI v2)]) (by decide +kernel) rfl (Nat.le_of_ble_eq_true rfl) (fun X C K => ?_)
  unfold wX12_overFrom at h
  refine aj_aload_n C dX12_overFrom_0 rfl ?_
  refine aj_getA (x := 0) (y := 144) C flX12_36 hq0 rfl dX12_overFrom_1 ?_
  refine aj_iload_n C dX12_overFrom_4 rfl ?_
  obtain ⟨r0, h⟩ := h
  refine aj_iald C (aj_ca (e := 0) (n := 144) (j := 18) hq0 (by decide) rfl) (by decide) r0 dX12_overFrom_5 rfl ?_
  refine aj_iload_n C dX12_overFrom_6 rfl ?_
  obtain ⟨r0, r1, h1, h2⟩ := h
  refine aj_icmp_ne (tgt := 19) C dX12_overFrom_7 (by decide) r0 r1 (fun e => ?_) (fun e => ?_)
  · have h := h1 e
    refine aj_aload_n C dX12_overFrom_19 rfl ?_
    refine aj_getA (x := 0) (y := 144) C flX12_39 hq0 rfl dX12_overFrom_20 ?_
    refine aj_iload_n C dX12_overFrom_23 rfl ?_
    obtain ⟨r0, h⟩ := h
    refine aj_iald C (aj_ca (e := 0) (n := 144) (j := 19) hq0 (by decide) rfl) (by decide) r0 dX12_overFrom_24 rfl ?_
    refine aj_iload_n C dX12_overFrom_25 rfl ?_
    obtain ⟨r0, r1, h1, h2⟩ := h
    refine aj_icmp_ne (tgt := 38) C dX12_overFrom_26 (by decide) r0 r1 (fun e => ?_) (fun e => ?_)
    · have h := h1 e
      refine aj_iconst C dX12_overFrom_38 ?_
      exact aj_iret C K dX12_overFrom_39 ⟨_, rfl, h⟩
    · have h := h2 e
      refine aj_aload_n C dX12_overFrom_29 rfl ?_
      refine aj_getA (x := 0) (y := 144) C flX12_36 hq0 rfl dX12_overFrom_30 ?_
      refine aj_iload_n C dX12_overFrom_33 rfl ?_
      obtain ⟨r0, h⟩ := h
      refine aj_iald C (aj_ca (e := 0) (n := 144) (j := 18) hq0 (by decide) rfl) (by decide) r0 dX12_overFrom_34 rfl ?_
      refine aj_goto (tgt := 39) C dX12_overFrom_35 (by decide) ?_
      exact aj_iret C K dX12_overFrom_39 ⟨_, rfl, h⟩
  · have h := h2 e
    refine aj_aload_n C dX12_overFrom_10 rfl ?_
    refine aj_getA (x := 0) (y := 144) C flX12_39 hq0 rfl dX12_overFrom_11 ?_
    refine aj_iload_n C dX12_overFrom_14 rfl ?_
    obtain ⟨r0, h⟩ := h
    refine aj_iald C (aj_ca (e := 0) (n := 144) (j := 19) hq0 (by decide) rfl) (by decide) r0 dX12_overFrom_15 rfl ?_
    refine aj_goto (tgt := 39) C dX12_overFrom_16 (by decide) ?_
    exact aj_iret C K dX12_overFrom_39 ⟨_, rfl, h⟩
