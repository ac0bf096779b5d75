theorem dX12_laysLight_0 : decode cX12_laysLight 0 = .ok (.iconst 0, 1) := by decide +kernel
theorem dX12_laysLight_1 : decode cX12_laysLight 1 = .ok (.istore_n 3, 1) := by decide +kernel
theorem dX12_laysLight_2 : decode cX12_laysLight 2 = .ok (.iload_n 3, 1) := by decide +kernel
theorem dX12_laysLight_3 : decode cX12_laysLight 3 = .ok (.aload_n 0, 1) := by decide +kernel
theorem dX12_laysLight_4 : decode cX12_laysLight 4 = .ok (.getfield 271, 3) := by decide +kernel
theorem dX12_laysLight_7 : decode cX12_laysLight 7 = .ok (.if_icmp .ge 34, 3) := by decide +kernel
theorem dX12_laysLight_10 : decode cX12_laysLight 10 = .ok (.aload_n 0, 1) := by decide +kernel
theorem dX12_laysLight_11 : decode cX12_laysLight 11 = .ok (.getfield 63, 3) := by decide +kernel
theorem dX12_laysLight_14 : decode cX12_laysLight 14 = .ok (.iload_n 3, 1) := by decide +kernel
theorem dX12_laysLight_15 : decode cX12_laysLight 15 = .ok (.iload_n 3, 1) := by decide +kernel
theorem dX12_laysLight_16 : decode cX12_laysLight 16 = .ok (.iload_n 1, 1) := by decide +kernel
theorem dX12_laysLight_17 : decode cX12_laysLight 17 = .ok (.if_icmp .ne 7, 3) := by decide +kernel
theorem dX12_laysLight_20 : decode cX12_laysLight 20 = .ok (.iconst 0, 1) := by decide +kernel
theorem dX12_laysLight_21 : decode cX12_laysLight 21 = .ok (.goto 6, 3) := by decide +kernel
theorem dX12_laysLight_24 : decode cX12_laysLight 24 = .ok (.ldc_w 281, 3) := by decide +kernel
theorem dX12_laysLight_27 : decode cX12_laysLight 27 = .ok (.iastore, 1) := by decide +kernel
theorem dX12_laysLight_28 : decode cX12_laysLight 28 = .ok (.aload_n 0, 1) := by decide +kernel
theorem dX12_laysLight_29 : decode cX12_laysLight 29 = .ok (.getfield 66, 3) := by decide +kernel
theorem dX12_laysLight_32 : decode cX12_laysLight 32 = .ok (.iload_n 3, 1) := by decide +kernel
theorem dX12_laysLight_33 : decode cX12_laysLight 33 = .ok (.iconst 0, 1) := by decide +kernel
theorem dX12_laysLight_34 : decode cX12_laysLight 34 = .ok (.bastore, 1) := by decide +kernel
theorem dX12_laysLight_35 : decode cX12_laysLight 35 = .ok (.iinc 3 1, 3) := by decide +kernel
theorem dX12_laysLight_38 : decode cX12_laysLight 38 = .ok (.goto (-36), 3) := by decide +kernel
theorem dX12_laysLight_41 : decode cX12_laysLight 41 = .ok (.iconst 0, 1) := by decide +kernel
theorem dX12_laysLight_42 : decode cX12_laysLight 42 = .ok (.istore_n 3, 1) := by decide +kernel
theorem dX12_laysLight_43 : decode cX12_laysLight 43 = .ok (.iload_n 3, 1) := by decide +kernel
theorem dX12_laysLight_44 : decode cX12_laysLight 44 = .ok (.aload_n 0, 1) := by decide +kernel
theorem dX12_laysLight_45 : decode cX12_laysLight 45 = .ok (.getfield 271, 3) := by decide +kernel
theorem dX12_laysLight_48 : decode cX12_laysLight 48 = .ok (.if_icmp .ge 180, 3) := by decide +kernel
theorem dX12_laysLight_51 : decode cX12_laysLight 51 = .ok (.iconst (-1), 1) := by decide +kernel
theorem dX12_laysLight_52 : decode cX12_laysLight 52 = .ok (.istore 4, 2) := by decide +kernel
theorem dX12_laysLight_54 : decode cX12_laysLight 54 = .ok (.iconst 0, 1) := by decide +kernel
theorem dX12_laysLight_55 : decode cX12_laysLight 55 = .ok (.istore 5, 2) := by decide +kernel
theorem dX12_laysLight_57 : decode cX12_laysLight 57 = .ok (.iload 5, 2) := by decide +kernel
theorem dX12_laysLight_59 : decode cX12_laysLight 59 = .ok (.aload_n 0, 1) := by decide +kernel
theorem dX12_laysLight_60 : decode cX12_laysLight 60 = .ok (.getfield 271, 3) := by decide +kernel
theorem dX12_laysLight_63 : decode cX12_laysLight 63 = .ok (.if_icmp .ge 46, 3) := by decide +kernel
theorem dX12_laysLight_66 : decode cX12_laysLight 66 = .ok (.aload_n 0, 1) := by decide +kernel
theorem dX12_laysLight_67 : decode cX12_laysLight 67 = .ok (.getfield 66, 3) := by decide +kernel
theorem dX12_laysLight_70 : decode cX12_laysLight 70 = .ok (.iload 5, 2) := by decide +kernel
theorem dX12_laysLight_72 : decode cX12_laysLight 72 = .ok (.baload, 1) := by decide +kernel
theorem dX12_laysLight_73 : decode cX12_laysLight 73 = .ok (.ifCond .ne 30, 3) := by decide +kernel
theorem dX12_laysLight_76 : decode cX12_laysLight 76 = .ok (.iload 4, 2) := by decide +kernel
theorem dX12_laysLight_78 : decode cX12_laysLight 78 = .ok (.iconst (-1), 1) := by decide +kernel
theorem dX12_laysLight_79 : decode cX12_laysLight 79 = .ok (.if_icmp .eq 20, 3) := by decide +kernel
theorem dX12_laysLight_82 : decode cX12_laysLight 82 = .ok (.aload_n 0, 1) := by decide +kernel
theorem dX12_laysLight_83 : decode cX12_laysLight 83 = .ok (.getfield 63, 3) := by decide +kernel
theorem dX12_laysLight_86 : decode cX12_laysLight 86 = .ok (.iload 5, 2) := by decide +kernel
theorem dX12_laysLight_88 : decode cX12_laysLight 88 = .ok (.iaload, 1) := by decide +kernel
theorem dX12_laysLight_89 : decode cX12_laysLight 89 = .ok (.aload_n 0, 1) := by decide +kernel
theorem dX12_laysLight_90 : decode cX12_laysLight 90 = .ok (.getfield 63, 3) := by decide +kernel
theorem dX12_laysLight_93 : decode cX12_laysLight 93 = .ok (.iload 4, 2) := by decide +kernel
theorem dX12_laysLight_95 : decode cX12_laysLight 95 = .ok (.iaload, 1) := by decide +kernel
theorem dX12_laysLight_96 : decode cX12_laysLight 96 = .ok (.if_icmp .ge 7, 3) := by decide +kernel
theorem dX12_laysLight_99 : decode cX12_laysLight 99 = .ok (.iload 5, 2) := by decide +kernel
theorem dX12_laysLight_101 : decode cX12_laysLight 101 = .ok (.istore 4, 2) := by decide +kernel
theorem dX12_laysLight_103 : decode cX12_laysLight 103 = .ok (.iinc 5 1, 3) := by decide +kernel
theorem dX12_laysLight_106 : decode cX12_laysLight 106 = .ok (.goto (-49), 3) := by decide +kernel
theorem dX12_laysLight_109 : decode cX12_laysLight 109 = .ok (.aload_n 0, 1) := by decide +kernel
theorem dX12_laysLight_110 : decode cX12_laysLight 110 = .ok (.getfield 66, 3) := by decide +kernel
theorem dX12_laysLight_113 : decode cX12_laysLight 113 = .ok (.iload 4, 2) := by decide +kernel
theorem dX12_laysLight_115 : decode cX12_laysLight 115 = .ok (.iconst 1, 1) := by decide +kernel
theorem dX12_laysLight_116 : decode cX12_laysLight 116 = .ok (.bastore, 1) := by decide +kernel
theorem dX12_laysLight_117 : decode cX12_laysLight 117 = .ok (.aload_n 0, 1) := by decide +kernel
theorem dX12_laysLight_118 : decode cX12_laysLight 118 = .ok (.getfield 63, 3) := by decide +kernel
theorem dX12_laysLight_121 : decode cX12_laysLight 121 = .ok (.iload 4, 2) := by decide +kernel
theorem dX12_laysLight_123 : decode cX12_laysLight 123 = .ok (.iaload, 1) := by decide +kernel
theorem dX12_laysLight_124 : decode cX12_laysLight 124 = .ok (.ldc_w 281, 3) := by decide +kernel
theorem dX12_laysLight_127 : decode cX12_laysLight 127 = .ok (.if_icmp .ne 4, 3) := by decide +kernel
theorem dX12_laysLight_130 : decode cX12_laysLight 130 = .ok (.return_, 1) := by decide +kernel
theorem dX12_laysLight_131 : decode cX12_laysLight 131 = .ok (.iconst 0, 1) := by decide +kernel
theorem dX12_laysLight_132 : decode cX12_laysLight 132 = .ok (.istore 5, 2) := by decide +kernel
theorem dX12_laysLight_134 : decode cX12_laysLight 134 = .ok (.iload 5, 2) := by decide +kernel
theorem dX12_laysLight_136 : decode cX12_laysLight 136 = .ok (.aload_n 0, 1) := by decide +kernel
theorem dX12_laysLight_137 : decode cX12_laysLight 137 = .ok (.getfield 265, 3) := by decide +kernel
theorem dX12_laysLight_140 : decode cX12_laysLight 140 = .ok (.if_icmp .ge 82, 3) := by decide +kernel
theorem dX12_laysLight_143 : decode cX12_laysLight 143 = .ok (.iload 5, 2) := by decide +kernel
theorem dX12_laysLight_145 : decode cX12_laysLight 145 = .ok (.iload_n 2, 1) := by decide +kernel
theorem dX12_laysLight_146 : decode cX12_laysLight 146 = .ok (.if_icmp .ne 7, 3) := by decide +kernel
theorem dX12_laysLight_149 : decode cX12_laysLight 149 = .ok (.iconst (-1), 1) := by decide +kernel
theorem dX12_laysLight_150 : decode cX12_laysLight 150 = .ok (.goto 11, 3) := by decide +kernel
theorem dX12_laysLight_153 : decode cX12_laysLight 153 = .ok (.aload_n 0, 1) := by decide +kernel
theorem dX12_laysLight_154 : decode cX12_laysLight 154 = .ok (.iload 5, 2) := by decide +kernel
theorem dX12_laysLight_156 : decode cX12_laysLight 156 = .ok (.iload 4, 2) := by decide +kernel
theorem dX12_laysLight_158 : decode cX12_laysLight 158 = .ok (.invokevirtual 282, 3) := by decide +kernel
theorem dX12_laysLight_161 : decode cX12_laysLight 161 = .ok (.istore 6, 2) := by decide +kernel
theorem dX12_laysLight_163 : decode cX12_laysLight 163 = .ok (.iload 6, 2) := by decide +kernel
theorem dX12_laysLight_165 : decode cX12_laysLight 165 = .ok (.iconst (-1), 1) := by decide +kernel
theorem dX12_laysLight_166 : decode cX12_laysLight 166 = .ok (.if_icmp .eq 50, 3) := by decide +kernel
theorem dX12_laysLight_169 : decode cX12_laysLight 169 = .ok (.aload_n 0, 1) := by decide +kernel
theorem dX12_laysLight_170 : decode cX12_laysLight 170 = .ok (.getfield 63, 3) := by decide +kernel
theorem dX12_laysLight_173 : decode cX12_laysLight 173 = .ok (.iload 4, 2) := by decide +kernel
theorem dX12_laysLight_175 : decode cX12_laysLight 175 = .ok (.iaload, 1) := by decide +kernel
theorem dX12_laysLight_176 : decode cX12_laysLight 176 = .ok (.aload_n 0, 1) := by decide +kernel
theorem dX12_laysLight_177 : decode cX12_laysLight 177 = .ok (.getfield 42, 3) := by decide +kernel
theorem dX12_laysLight_180 : decode cX12_laysLight 180 = .ok (.iload 5, 2) := by decide +kernel
theorem dX12_laysLight_182 : decode cX12_laysLight 182 = .ok (.iaload, 1) := by decide +kernel
theorem dX12_laysLight_183 : decode cX12_laysLight 183 = .ok (.iadd, 1) := by decide +kernel
theorem dX12_laysLight_184 : decode cX12_laysLight 184 = .ok (.aload_n 0, 1) := by decide +kernel
theorem dX12_laysLight_185 : decode cX12_laysLight 185 = .ok (.getfield 63, 3) := by decide +kernel
theorem dX12_laysLight_188 : decode cX12_laysLight 188 = .ok (.iload 6, 2) := by decide +kernel
theorem dX12_laysLight_190 : decode cX12_laysLight 190 = .ok (.iaload, 1) := by decide +kernel
theorem dX12_laysLight_191 : decode cX12_laysLight 191 = .ok (.if_icmp .ge 25, 3) := by decide +kernel
theorem dX12_laysLight_194 : decode cX12_laysLight 194 = .ok (.aload_n 0, 1) := by decide +kernel
theorem dX12_laysLight_195 : decode cX12_laysLight 195 = .ok (.getfield 63, 3) := by decide +kernel
theorem dX12_laysLight_198 : decode cX12_laysLight 198 = .ok (.iload 6, 2) := by decide +kernel
theorem dX12_laysLight_200 : decode cX12_laysLight 200 = .ok (.aload_n 0, 1) := by decide +kernel
theorem dX12_laysLight_201 : decode cX12_laysLight 201 = .ok (.getfield 63, 3) := by decide +kernel
theorem dX12_laysLight_204 : decode cX12_laysLight 204 = .ok (.iload 4, 2) := by decide +kernel
theorem dX12_laysLight_206 : decode cX12_laysLight 206 = .ok (.iaload, 1) := by decide +kernel
theorem dX12_laysLight_207 : decode cX12_laysLight 207 = .ok (.aload_n 0, 1) := by decide +kernel
theorem dX12_laysLight_208 : decode cX12_laysLight 208 = .ok (.getfield 42, 3) := by decide +kernel
theorem dX12_laysLight_211 : decode cX12_laysLight 211 = .ok (.iload 5, 2) := by decide +kernel
theorem dX12_laysLight_213 : decode cX12_laysLight 213 = .ok (.iaload, 1) := by decide +kernel
theorem dX12_laysLight_214 : decode cX12_laysLight 214 = .ok (.iadd, 1) := by decide +kernel
theorem dX12_laysLight_215 : decode cX12_laysLight 215 = .ok (.iastore, 1) := by decide +kernel
theorem dX12_laysLight_216 : decode cX12_laysLight 216 = .ok (.iinc 5 1, 3) := by decide +kernel
theorem dX12_laysLight_219 : decode cX12_laysLight 219 = .ok (.goto (-85), 3) := by decide +kernel
theorem dX12_laysLight_222 : decode cX12_laysLight 222 = .ok (.iinc 3 1, 3) := by decide +kernel
theorem dX12_laysLight_225 : decode cX12_laysLight 225 = .ok (.goto (-182), 3) := by decide +kernel
theorem dX12_laysLight_228 : decode cX12_laysLight 228 = .ok (.return_, 1) := by decide +kernel
def hX12_laysLight_161 (f : Nat) (Φ : aj_M → Prop) (K43 : List Nat → Int → Int → aj_M → Prop) (K134 : List Nat → Int → Int → Int → Int → aj_M → Prop) (q0 : List Nat) (v2 : Int) (v3 : Int) (v4 : Int) (v5 : Int) (vs0 : Int) (m : aj_M) : Prop := rI vs0 ∧ (vs0 = (-1) → K134 q0 v2 v3 v4 (v5 + 1) m) ∧ (¬ (vs0 = (-1)) → (0 ≤ v4 ∧ v4 < 60) ∧ (0 ≤ v5 ∧ v5 < 144) ∧ (0 ≤ vs0 ∧ vs0 < 60) ∧ rI ((m (31 :: q0) v4.toNat) + (m (20 :: q0) v5.toNat)) ∧ rI (m (31 :: q0) vs0.toNat) ∧ ((m (31 :: q0) vs0.toNat) ≤ ((m (31 :: q0) v4.toNat) + (m (20 :: q0) v5.toNat)) → K134 q0 v2 v3 v4 (v5 + 1) m) ∧ (¬ ((m (31 :: q0) vs0.toNat) ≤ ((m (31 :: q0) v4.toNat) + (m (20 :: q0) v5.toNat))) → (0 ≤ v4 ∧ v4 < 60) ∧ (0 ≤ v5 ∧ v5 < 144) ∧ (0 ≤ vs0 ∧ vs0 < 60) ∧ ∀ m1, m1 = aj_u m (31 :: q0) vs0.toNat ((m (31 :: q0) v4.toNat) + (m (20 :: q0) v5.toNat)) → K134 q0 v2 v3 v4 (v5 + 1) m1))
set_option maxHeartbeats 4000000 in
set_option maxRecDepth 100000 in
theorem tX12_laysLight_161 {X : aj_T} {n f : Nat} {Φ : aj_M → Prop} (C : aj_Cx X cX12_laysLight RX12 7 (n + 1)) (K : aj_Rt X none (fun r m => r = none ∧ Φ m)) {K43 : List Nat → Int → Int → aj_M → Prop} (HK43 : ∀ (q0 : List Nat) (v2 : Int) (v3 : Int) (m : aj_M) (hq0 : (.inl (12, q0) : aj_R) ∈ aj_pls), K43 q0 v2 v3 m → aj_J X 43 [some (vO 12 q0), none, some (vI v2), some (vI v3), none, none, none] [] m) {K134 : List Nat → Int → Int → Int → Int → aj_M → Prop} (HK134 : ∀ (q0 : List Nat) (v2 : Int) (v3 : Int) (v4 : Int) (v5 : Int) (m : aj_M) (hq0 : (.inl (12, q0) : aj_R) ∈ aj_pls), K134 q0 v2 v3 v4 v5 m → aj_J X 134 [some (vO 12 q0), none, some (vI v2), some (vI v3), some (vI v4), some (vI v5), none] [] m) (q0 : List Nat) (v2 : Int) (v3 : Int) (v4 : Int) (v5 : Int) (vs0 : Int) (m : aj_M) (hq0 : (.inl (12, q0) : aj_R) ∈ aj_pls) (h : hX12_laysLight_161 f Φ K43 K134 q0 v2 v3 v4 v5 vs0 m) : aj_J X 161 [some (vO 12 q0), none, some (vI v2), some (vI v3), some (vI v4), some (vI v5), none] [vI vs0] m := by
  unfold hX12_laysLight_161 at h
  refine aj_istore (lv' := [some (vO 12 q0), none, some (vI v2), some (vI v3), some (vI v4), some (vI v5), some (vI vs0)]) C dX12_laysLight_161 (by decide) rfl ?_
  refine aj_iload C dX12_laysLight_163 rfl ?_
  refine aj_iconst C dX12_laysLight_165 ?_
  obtain ⟨r0, h1, h2⟩ := h
  refine aj_icmp_eq (tgt := 216) C dX12_laysLight_166 (by decide) r0 (by decide) (fun e => ?_) (fun e => ?_)
  · have h := h1 e
    refine aj_iinc (lv' := [some (vO 12 q0), none, some (vI v2), some (vI v3), some (vI v4), some (vI (v5 + 1)), some (vI vs0)]) C dX12_laysLight_216 rfl (by decide) rfl ?_
    refine aj_goto (tgt := 134) C dX12_laysLight_219 (by decide) ?_
    refine aj_wk (lv' := [some (vO 12 q0), none, some (vI v2), some (vI v3), some (vI v4), some (vI (v5 + 1)), none]) (⟨rfl, ⟨rfl, ⟨rfl, ⟨rfl, ⟨rfl, trivial⟩⟩⟩⟩⟩) ?_
    exact HK134 q0 v2 v3 v4 (v5 + 1) _ hq0 h
  · have h := h2 e
    refine aj_aload_n C dX12_laysLight_169 rfl ?_
    refine aj_getA (x := 0) (y := 60) C flX12_63 hq0 rfl dX12_laysLight_170 ?_
    refine aj_iload C dX12_laysLight_173 rfl ?_
    obtain ⟨r0, h⟩ := h
    refine aj_iald C (aj_ca (e := 0) (n := 60) (j := 31) hq0 (by decide) rfl) (by decide) r0 dX12_laysLight_175 rfl ?_
    refine aj_aload_n C dX12_laysLight_176 rfl ?_
    refine aj_getA (x := 0) (y := 144) C flX12_42 hq0 rfl dX12_laysLight_177 ?_
    refine aj_iload C dX12_laysLight_180 rfl ?_
    obtain ⟨r0, h⟩ := h
    refine aj_iald C (aj_ca (e := 0) (n := 144) (j := 20) hq0 (by decide) rfl) (by decide) r0 dX12_laysLight_182 rfl ?_
    refine aj_iadd C dX12_laysLight_183 ?_
    refine aj_aload_n C dX12_laysLight_184 rfl ?_
    refine aj_getA (x := 0) (y := 60) C flX12_63 hq0 rfl dX12_laysLight_185 ?_
    refine aj_iload C dX12_laysLight_188 rfl ?_
    obtain ⟨r0, h⟩ := h
    refine aj_iald C (aj_ca (e := 0) (n := 60) (j := 31) hq0 (by decide) rfl) (by decide) r0 dX12_laysLight_190 rfl ?_
    obtain ⟨r0, r1, h1, h2⟩ := h
    refine aj_icmp_ge (tgt := 216) C dX12_laysLight_191 (by decide) r0 r1 (fun e => ?_) (fun e => ?_)
    · have h := h1 e
      refine aj_iinc (lv' := [some (vO 12 q0), none, some (vI v2), some (vI v3), some (vI v4), some (vI (v5 + 1)), some (vI vs0)]) C dX12_laysLight_216 rfl (by decide) rfl ?_
      refine aj_goto (tgt := 134) C dX12_laysLight_219 (by decide) ?_
      refine aj_wk (lv' := [some (vO 12 q0), none, some (vI v2), some (vI v3), some (vI v4), some (vI (v5 + 1)), none]) (⟨rfl, ⟨rfl, ⟨rfl, ⟨rfl, ⟨rfl, trivial⟩⟩⟩⟩⟩) ?_
      exact HK134 q0 v2 v3 v4 (v5 + 1) _ hq0 h
    · have h := h2 e
      refine aj_aload_n C dX12_laysLight_194 rfl ?_
      refine aj_getA (x := 0) (y := 60) C flX12_63 hq0 rfl dX12_laysLight_195 ?_
      refine aj_iload C dX12_laysLight_198 rfl ?_
      refine aj_aload_n C dX12_laysLight_200 rfl ?_
      refine aj_getA (x := 0) (y := 60) C flX12_63 hq0 rfl dX12_laysLight_201 ?_
      refine aj_iload C dX12_laysLight_204 rfl ?_
      obtain ⟨r0, h⟩ := h
      refine aj_iald C (aj_ca (e := 0) (n := 60) (j := 31) hq0 (by decide) rfl) (by decide) r0 dX12_laysLight_206 rfl ?_
      refine aj_aload_n C dX12_laysLight_207 rfl ?_
      refine aj_getA (x := 0) (y := 144) C flX12_42 hq0 rfl dX12_laysLight_208 ?_
      refine aj_iload C dX12_laysLight_211 rfl ?_
      obtain ⟨r0, h⟩ := h
      refine aj_iald C (aj_ca (e := 0) (n := 144) (j := 20) hq0 (by decide) rfl) (by decide) r0 dX12_laysLight_213 rfl ?_
      refine aj_iadd C dX12_laysLight_214 ?_
      obtain ⟨r0, h⟩ := h
      refine aj_iast C (aj_ca (e := 0) (n := 60) (j := 31) hq0 (by decide) rfl) (by decide) r0 dX12_laysLight_215 ?_
      refine aj_nm (fun m1 e1 => ?_)
      have h := h m1 e1
      refine aj_iinc (lv' := [some (vO 12 q0), none, some (vI v2), some (vI v3), some (vI v4), some (vI (v5 + 1)), some (vI vs0)]) C dX12_laysLight_216 rfl (by decide) rfl ?_
      refine aj_goto (tgt := 134) C dX12_laysLight_219 (by decide) ?_
      refine aj_wk (lv' := [some (vO 12 q0), none, some (vI v2), some (vI v3), some (vI v4), some (vI (v5 + 1)), none]) (⟨rfl, ⟨rfl, ⟨rfl, ⟨rfl, ⟨rfl, trivial⟩⟩⟩⟩⟩) ?_
      exact HK134 q0 v2 v3 v4 (v5 + 1) _ hq0 h
def hX12_laysLight_134 (f : Nat) (Φ : aj_M → Prop) (K43 : List Nat → Int → Int → aj_M → Prop) : Nat → List Nat → Int → Int → Int → Int → aj_M → Prop
  | 0, _, _, _, _, _, _ => False
  | k + 1, q0, v2, v3, v4, v5, m => rI v5 ∧ rI (m q0 22) ∧ ((m q0 22) ≤ v5 → K43 q0 v2 (v3 + 1) m) ∧ (¬ ((m q0 22) ≤ v5) → rI v5 ∧ rI v2 ∧ (¬ v5 = v2 → wX12_overFrom f (fun z1 m1 => hX12_laysLight_161 f Φ K43 (fun q0 v2 v3 v4 v5 m => hX12_laysLight_134 f Φ K43 k q0 v2 v3 v4 v5 m) q0 v2 v3 v4 v5 z1 m1) q0 v5 v4 m) ∧ (v5 = v2 → hX12_laysLight_161 f Φ K43 (fun q0 v2 v3 v4 v5 m => hX12_laysLight_134 f Φ K43 k q0 v2 v3 v4 v5 m) q0 v2 v3 v4 v5 (-1) m))
set_option maxHeartbeats 4000000 in
set_option maxRecDepth 100000 in
theorem tX12_laysLight_134 {X : aj_T} {n f : Nat} {Φ : aj_M → Prop} (C : aj_Cx X cX12_laysLight RX12 7 (n + 1)) (K : aj_Rt X none (fun r m => r = none ∧ Φ m)) {K43 : List Nat → Int → Int → aj_M → Prop} (HK43 : ∀ (q0 : List Nat) (v2 : Int) (v3 : Int) (m : aj_M) (hq0 : (.inl (12, q0) : aj_R) ∈ aj_pls), K43 q0 v2 v3 m → aj_J X 43 [some (vO 12 q0), none, some (vI v2), some (vI v3), none, none, none] [] m) : ∀ (k : Nat) (q0 : List Nat) (v2 : Int) (v3 : Int) (v4 : Int) (v5 : Int) (m : aj_M) (hq0 : (.inl (12, q0) : aj_R) ∈ aj_pls), hX12_laysLight_134 f Φ K43 k q0 v2 v3 v4 v5 m → aj_J X 134 [some (vO 12 q0), none, some (vI v2), some (vI v3), some (vI v4), some (vI v5), none] [] m := by
  intro k
  induction k with
  | zero =>
    intro q0 v2 v3 v4 v5 m _ h
    exact h.elim
  | succ k ih =>
    intro q0 v2 v3 v4 v5 m hq0 h
    unfold hX12_laysLight_134 at h
    refine aj_iload C dX12_laysLight_134 rfl ?_
    refine aj_aload_n C dX12_laysLight_136 rfl ?_
    refine aj_getI C flX12_265 hq0 (by decide) dX12_laysLight_137 rfl ?_
    obtain ⟨r0, r1, h1, h2⟩ := h
    refine aj_icmp_ge (tgt := 222) C dX12_laysLight_140 (by decide) r0 r1 (fun e => ?_) (fun e => ?_)
    · have h := h1 e
      refine aj_iinc (lv' := [some (vO 12 q0), none, some (vI v2), some (vI (v3 + 1)), some (vI v4), some (vI v5), none]) C dX12_laysLight_222 rfl (by decide) rfl ?_
      refine aj_goto (tgt := 43) C dX12_laysLight_225 (by decide) ?_
      refine aj_wk (lv' := [some (vO 12 q0), none, some (vI v2), some (vI (v3 + 1)), none, none, none]) (⟨rfl, ⟨rfl, ⟨rfl, trivial⟩⟩⟩) ?_
      exact HK43 q0 v2 (v3 + 1) _ hq0 h
    · have h := h2 e
      refine aj_iload C dX12_laysLight_143 rfl ?_
      refine aj_iload_n C dX12_laysLight_145 rfl ?_
      obtain ⟨r0, r1, h1, h2⟩ := h
      refine aj_icmp_ne (tgt := 153) C dX12_laysLight_146 (by decide) r0 r1 (fun e => ?_) (fun e => ?_)
      · have h := h1 e
        refine aj_aload_n C dX12_laysLight_153 rfl ?_
        refine aj_iload C dX12_laysLight_154 rfl ?_
        refine aj_iload C dX12_laysLight_156 rfl ?_
        refine aj_callV (rest := []) C mvX12_282 (sX12_overFrom hq0 h) hq0 (aj_np 2 (by decide +kernel) rfl) (Nat.le_of_ble_eq_true rfl) rfl dX12_laysLight_158 (fun r m1 h => ?_)
        obtain ⟨z1, rfl, h⟩ := h
        exact tX12_laysLight_161 C K HK43 (fun q0 v2 v3 v4 v5 m hq0 hh => ih q0 v2 v3 v4 v5 m hq0 hh) q0 v2 v3 v4 v5 z1 _ hq0 h
      · have h := h2 e
        refine aj_iconst C dX12_laysLight_149 ?_
        refine aj_goto (tgt := 161) C dX12_laysLight_150 (by decide) ?_
        exact tX12_laysLight_161 C K HK43 (fun q0 v2 v3 v4 v5 m hq0 hh => ih q0 v2 v3 v4 v5 m hq0 hh) q0 v2 v3 v4 v5 (-1) _ hq0 h
def hX12_laysLight_57 (f : Nat) (Φ : aj_M → Prop) (K43 : List Nat → Int → Int → aj_M → Prop) : Nat → List Nat → Int → Int → Int → Int → aj_M → Prop
  | 0, _, _, _, _, _, _ => False
  | k + 1, q0, v2, v3, v4, v5, m => rI v5 ∧ rI (m q0 23) ∧ ((m q0 23) ≤ v5 → (0 ≤ v4 ∧ v4 < 60) ∧ ∀ m1, m1 = aj_u m (32 :: q0) v4.toNat 1 → (0 ≤ v4 ∧ v4 < 60) ∧ rI (m1 (31 :: q0) v4.toNat) ∧ (¬ (m1 (31 :: q0) v4.toNat) = 268435456 → hX12_laysLight_134 f Φ K43 f q0 v2 v3 v4 0 m1) ∧ ((m1 (31 :: q0) v4.toNat) = 268435456 → Φ m1)) ∧ (¬ ((m q0 23) ≤ v5) → (0 ≤ v5 ∧ v5 < 60) ∧ rI (m (32 :: q0) v5.toNat) ∧ (¬ (m (32 :: q0) v5.toNat) = 0 → hX12_laysLight_57 f Φ K43 k q0 v2 v3 v4 (v5 + 1) m) ∧ ((m (32 :: q0) v5.toNat) = 0 → rI v4 ∧ (v4 = (-1) → hX12_laysLight_57 f Φ K43 k q0 v2 v3 v5 (v5 + 1) m) ∧ (¬ (v4 = (-1)) → (0 ≤ v5 ∧ v5 < 60) ∧ (0 ≤ v4 ∧ v4 < 60) ∧ rI (m (31 :: q0) v5.toNat) ∧ rI (m (31 :: q0) v4.toNat) ∧ ((m (31 :: q0) v4.toNat) ≤ (m (31 :: q0) v5.toNat) → hX12_laysLight_57 f Φ K43 k q0 v2 v3 v4 (v5 + 1) m) ∧ (¬ ((m (31 :: q0) v4.toNat) ≤ (m (31 :: q0) v5.toNat)) → hX12_laysLight_57 f Φ K43 k q0 v2 v3 v5 (v5 + 1) m))))
set_option maxHeartbeats 4000000 in
set_option maxRecDepth 100000 in
theorem tX12_laysLight_57 {X : aj_T} {n f : Nat} {Φ : aj_M → Prop} (C : aj_Cx X cX12_laysLight RX12 7 (n + 1)) (K : aj_Rt X none (fun r m => r = none ∧ Φ m)) {K43 : List Nat → Int → Int → aj_M → Prop} (HK43 : ∀ (q0 : List Nat) (v2 : Int) (v3 : Int) (m : aj_M) (hq0 : (.inl (12, q0) : aj_R) ∈ aj_pls), K43 q0 v2 v3 m → aj_J X 43 [some (vO 12 q0), none, some (vI v2), some (vI v3), none, none, none] [] m) : ∀ (k : Nat) (q0 : List Nat) (v2 : Int) (v3 : Int) (v4 : Int) (v5 : Int) (m : aj_M) (hq0 : (.inl (12, q0) : aj_R) ∈ aj_pls), hX12_laysLight_57 f Φ K43 k q0 v2 v3 v4 v5 m → aj_J X 57 [some (vO 12 q0), none, some (vI v2), some (vI v3), some (vI v4), some (vI v5), none] [] m := by
  intro k
  induction k with
  | zero =>
    intro q0 v2 v3 v4 v5 m _ h
    exact h.elim
  | succ k ih =>
    intro q0 v2 v3 v4 v5 m hq0 h
    unfold hX12_laysLight_57 at h
    refine aj_iload C dX12_laysLight_57 rfl ?_
    refine aj_aload_n C dX12_laysLight_59 rfl ?_
    refine aj_getI C flX12_271 hq0 (by decide) dX12_laysLight_60 rfl ?_
    obtain ⟨r0, r1, h1, h2⟩ := h
    refine aj_icmp_ge (tgt := 109) C dX12_laysLight_63 (by decide) r0 r1 (fun e => ?_) (fun e => ?_)
    · have h := h1 e
      refine aj_aload_n C dX12_laysLight_109 rfl ?_
      refine aj_getA (x := 1) (y := 60) C flX12_66 hq0 rfl dX12_laysLight_110 ?_
      refine aj_iload C dX12_laysLight_113 rfl ?_
      refine aj_iconst C dX12_laysLight_115 ?_
      obtain ⟨r0, h⟩ := h
      refine aj_zast C (Or.inr rfl) (aj_ca (e := 1) (n := 60) (j := 32) hq0 (by decide) rfl) (by decide) r0 dX12_laysLight_116 ?_
      refine aj_nm (fun m1 e1 => ?_)
      have h := h m1 e1
      refine aj_aload_n C dX12_laysLight_117 rfl ?_
      refine aj_getA (x := 0) (y := 60) C flX12_63 hq0 rfl dX12_laysLight_118 ?_
      refine aj_iload C dX12_laysLight_121 rfl ?_
      obtain ⟨r0, h⟩ := h
      refine aj_iald C (aj_ca (e := 0) (n := 60) (j := 31) hq0 (by decide) rfl) (by decide) r0 dX12_laysLight_123 rfl ?_
      refine aj_ldcw (z := 268435456) C (wd1900) rfl dX12_laysLight_124 ?_
      obtain ⟨r0, h1, h2⟩ := h
      refine aj_icmp_ne (tgt := 131) C dX12_laysLight_127 (by decide) r0 (by decide) (fun e => ?_) (fun e => ?_)
      · have h := h1 e
        refine aj_iconst C dX12_laysLight_131 ?_
        refine aj_istore (lv' := [some (vO 12 q0), none, some (vI v2), some (vI v3), some (vI v4), some (vI 0), none]) C dX12_laysLight_132 (by decide) rfl ?_
        exact tX12_laysLight_134 C K HK43 f q0 v2 v3 v4 0 _ hq0 h
      · have h := h2 e
        exact aj_vret C K dX12_laysLight_130 ⟨rfl, h⟩
    · have h := h2 e
      refine aj_aload_n C dX12_laysLight_66 rfl ?_
      refine aj_getA (x := 1) (y := 60) C flX12_66 hq0 rfl dX12_laysLight_67 ?_
      refine aj_iload C dX12_laysLight_70 rfl ?_
      obtain ⟨r0, h⟩ := h
      refine aj_zald C (aj_ca (e := 1) (n := 60) (j := 32) hq0 (by decide) rfl) (by decide) r0 dX12_laysLight_72 rfl ?_
      obtain ⟨r0, h1, h2⟩ := h
      refine aj_if_ne (tgt := 103) C dX12_laysLight_73 (by decide) r0 (fun e => ?_) (fun e => ?_)
      · have h := h1 e
        refine aj_iinc (lv' := [some (vO 12 q0), none, some (vI v2), some (vI v3), some (vI v4), some (vI (v5 + 1)), none]) C dX12_laysLight_103 rfl (by decide) rfl ?_
        refine aj_goto (tgt := 57) C dX12_laysLight_106 (by decide) ?_
        exact ih q0 v2 v3 v4 (v5 + 1) _ hq0 h
      · have h := h2 e
        refine aj_iload C dX12_laysLight_76 rfl ?_
        refine aj_iconst C dX12_laysLight_78 ?_
        obtain ⟨r0, h1, h2⟩ := h
        refine aj_icmp_eq (tgt := 99) C dX12_laysLight_79 (by decide) r0 (by decide) (fun e => ?_) (fun e => ?_)
        · have h := h1 e
          refine aj_iload C dX12_laysLight_99 rfl ?_
          refine aj_istore (lv' := [some (vO 12 q0), none, some (vI v2), some (vI v3), some (vI v5), some (vI v5), none]) C dX12_laysLight_101 (by decide) rfl ?_
          refine aj_iinc (lv' := [some (vO 12 q0), none, some (vI v2), some (vI v3), some (vI v5), some (vI (v5 + 1)), none]) C dX12_laysLight_103 rfl (by decide) rfl ?_
          refine aj_goto (tgt := 57) C dX12_laysLight_106 (by decide) ?_
          exact ih q0 v2 v3 v5 (v5 + 1) _ hq0 h
        · have h := h2 e
          refine aj_aload_n C dX12_laysLight_82 rfl ?_
          refine aj_getA (x := 0) (y := 60) C flX12_63 hq0 rfl dX12_laysLight_83 ?_
          refine aj_iload C dX12_laysLight_86 rfl ?_
          obtain ⟨r0, h⟩ := h
          refine aj_iald C (aj_ca (e := 0) (n := 60) (j := 31) hq0 (by decide) rfl) (by decide) r0 dX12_laysLight_88 rfl ?_
          refine aj_aload_n C dX12_laysLight_89 rfl ?_
          refine aj_getA (x := 0) (y := 60) C flX12_63 hq0 rfl dX12_laysLight_90 ?_
          refine aj_iload C dX12_laysLight_93 rfl ?_
          obtain ⟨r0, h⟩ := h
          refine aj_iald C (aj_ca (e := 0) (n := 60) (j := 31) hq0 (by decide) rfl) (by decide) r0 dX12_laysLight_95 rfl ?_
          obtain ⟨r0, r1, h1, h2⟩ := h
          refine aj_icmp_ge (tgt := 103) C dX12_laysLight_96 (by decide) r0 r1 (fun e => ?_) (fun e => ?_)
          · have h := h1 e
            refine aj_iinc (lv' := [some (vO 12 q0), none, some (vI v2), some (vI v3), some (vI v4), some (vI (v5 + 1)), none]) C dX12_laysLight_103 rfl (by decide) rfl ?_
            refine aj_goto (tgt := 57) C dX12_laysLight_106 (by decide) ?_
            exact ih q0 v2 v3 v4 (v5 + 1) _ hq0 h
          · have h := h2 e
            refine aj_iload C dX12_laysLight_99 rfl ?_
            refine aj_istore (lv' := [some (vO 12 q0), none, some (vI v2), some (vI v3), some (vI v5), some (vI v5), none]) C dX12_laysLight_101 (by decide) rfl ?_
            refine aj_iinc (lv' := [some (vO 12 q0), none, some (vI v2), some (vI v3), some (vI v5), some (vI (v5 + 1)), none]) C dX12_laysLight_103 rfl (by decide) rfl ?_
            refine aj_goto (tgt := 57) C dX12_laysLight_106 (by decide) ?_
            exact ih q0 v2 v3 v5 (v5 + 1) _ hq0 h
def hX12_laysLight_43 (f : Nat) (Φ : aj_M → Prop) : Nat → List Nat → Int → Int → aj_M → Prop
  | 0, _, _, _, _ => False
  | k + 1, q0, v2, v3, m => rI v3 ∧ rI (m q0 23) ∧ ((m q0 23) ≤ v3 → Φ m) ∧ (¬ ((m q0 23) ≤ v3) → hX12_laysLight_57 f Φ (fun q0 v2 v3 m => hX12_laysLight_43 f Φ k q0 v2 v3 m) f q0 v2 v3 (-1) 0 m)
set_option maxHeartbeats 4000000 in
set_option maxRecDepth 100000 in
theorem tX12_laysLight_43 {X : aj_T} {n f : Nat} {Φ : aj_M → Prop} (C : aj_Cx X cX12_laysLight RX12 7 (n + 1)) (K : aj_Rt X none (fun r m => r = none ∧ Φ m)) : ∀ (k : Nat) (q0 : List Nat) (v2 : Int) (v3 : Int) (m : aj_M) (hq0 : (.inl (12, q0) : aj_R) ∈ aj_pls), hX12_laysLight_43 f Φ k q0 v2 v3 m → aj_J X 43 [some (vO 12 q0), none, some (vI v2), some (vI v3), none, none, none] [] m := by
  intro k
  induction k with
  | zero =>
    intro q0 v2 v3 m _ h
    exact h.elim
  | succ k ih =>
    intro q0 v2 v3 m hq0 h
    unfold hX12_laysLight_43 at h
    refine aj_iload_n C dX12_laysLight_43 rfl ?_
    refine aj_aload_n C dX12_laysLight_44 rfl ?_
    refine aj_getI C flX12_271 hq0 (by decide) dX12_laysLight_45 rfl ?_
    obtain ⟨r0, r1, h1, h2⟩ := h
    refine aj_icmp_ge (tgt := 228) C dX12_laysLight_48 (by decide) r0 r1 (fun e => ?_) (fun e => ?_)
    · have h := h1 e
      exact aj_vret C K dX12_laysLight_228 ⟨rfl, h⟩
    · have h := h2 e
      refine aj_iconst C dX12_laysLight_51 ?_
      refine aj_istore (lv' := [some (vO 12 q0), none, some (vI v2), some (vI v3), some (vI (-1)), none, none]) C dX12_laysLight_52 (by decide) rfl ?_
      refine aj_iconst C dX12_laysLight_54 ?_
      refine aj_istore (lv' := [some (vO 12 q0), none, some (vI v2), some (vI v3), some (vI (-1)), some (vI 0), none]) C dX12_laysLight_55 (by decide) rfl ?_
      exact tX12_laysLight_57 C K (fun q0 v2 v3 m hq0 hh => ih q0 v2 v3 m hq0 hh) f q0 v2 v3 (-1) 0 _ hq0 h
def hX12_laysLight_2 (f : Nat) (Φ : aj_M → Prop) : Nat → List Nat → Int → Int → Int → aj_M → Prop
  | 0, _, _, _, _, _ => False
  | k + 1, q0, v1, v2, v3, m => rI v3 ∧ rI (m q0 23) ∧ ((m q0 23) ≤ v3 → hX12_laysLight_43 f Φ f q0 v2 0 m) ∧ (¬ ((m q0 23) ≤ v3) → rI v3 ∧ rI v1 ∧ (¬ v3 = v1 → (0 ≤ v3 ∧ v3 < 60) ∧ ∀ m1, m1 = aj_u m (31 :: q0) v3.toNat 268435456 → (0 ≤ v3 ∧ v3 < 60) ∧ ∀ m2, m2 = aj_u m1 (32 :: q0) v3.toNat 0 → hX12_laysLight_2 f Φ k q0 v1 v2 (v3 + 1) m2) ∧ (v3 = v1 → (0 ≤ v3 ∧ v3 < 60) ∧ ∀ m3, m3 = aj_u m (31 :: q0) v3.toNat 0 → (0 ≤ v3 ∧ v3 < 60) ∧ ∀ m4, m4 = aj_u m3 (32 :: q0) v3.toNat 0 → hX12_laysLight_2 f Φ k q0 v1 v2 (v3 + 1) m4))
set_option maxHeartbeats 4000000 in
set_option maxRecDepth 100000 in
theorem tX12_laysLight_2 {X : aj_T} {n f : Nat} {Φ : aj_M → Prop} (C : aj_Cx X cX12_laysLight RX12 7 (n + 1)) (K : aj_Rt X none (fun r m => r = none ∧ Φ m)) : ∀ (k : Nat) (q0 : List Nat) (v1 : Int) (v2 : Int) (v3 : Int) (m : aj_M) (hq0 : (.inl (12, q0) : aj_R) ∈ aj_pls), hX12_laysLight_2 f Φ k q0 v1 v2 v3 m → aj_J X 2 [some (vO 12 q0), some (vI v1), some (vI v2), some (vI v3), none, none, none] [] m := by
  intro k
  induction k with
  | zero =>
    intro q0 v1 v2 v3 m _ h
    exact h.elim
  | succ k ih =>
    intro q0 v1 v2 v3 m hq0 h
    unfold hX12_laysLight_2 at h
    refine aj_iload_n C dX12_laysLight_2 rfl ?_
    refine aj_aload_n C dX12_laysLight_3 rfl ?_
    refine aj_getI C flX12_271 hq0 (by decide) dX12_laysLight_4 rfl ?_
    obtain ⟨r0, r1, h1, h2⟩ := h
    refine aj_icmp_ge (tgt := 41) C dX12_laysLight_7 (by decide) r0 r1 (fun e => ?_) (fun e => ?_)
    · have h := h1 e
      refine aj_iconst C dX12_laysLight_41 ?_
      refine aj_istore_n (lv' := [some (vO 12 q0), some (vI v1), some (vI v2), some (vI 0), none, none, none]) C dX12_laysLight_42 (by decide) rfl ?_
      refine aj_wk (lv' := [some (vO 12 q0), none, some (vI v2), some (vI 0), none, none, none]) (⟨rfl, ⟨rfl, ⟨rfl, trivial⟩⟩⟩) ?_
      exact tX12_laysLight_43 C K f q0 v2 0 _ hq0 h
    · have h := h2 e
      refine aj_aload_n C dX12_laysLight_10 rfl ?_
      refine aj_getA (x := 0) (y := 60) C flX12_63 hq0 rfl dX12_laysLight_11 ?_
      refine aj_iload_n C dX12_laysLight_14 rfl ?_
      refine aj_iload_n C dX12_laysLight_15 rfl ?_
      refine aj_iload_n C dX12_laysLight_16 rfl ?_
      obtain ⟨r0, r1, h1, h2⟩ := h
      refine aj_icmp_ne (tgt := 24) C dX12_laysLight_17 (by decide) r0 r1 (fun e => ?_) (fun e => ?_)
      · have h := h1 e
        refine aj_ldcw (z := 268435456) C (wd1900) rfl dX12_laysLight_24 ?_
        obtain ⟨r0, h⟩ := h
        refine aj_iast C (aj_ca (e := 0) (n := 60) (j := 31) hq0 (by decide) rfl) (by decide) r0 dX12_laysLight_27 ?_
        refine aj_nm (fun m1 e1 => ?_)
        have h := h m1 e1
        refine aj_aload_n C dX12_laysLight_28 rfl ?_
        refine aj_getA (x := 1) (y := 60) C flX12_66 hq0 rfl dX12_laysLight_29 ?_
        refine aj_iload_n C dX12_laysLight_32 rfl ?_
        refine aj_iconst C dX12_laysLight_33 ?_
        obtain ⟨r0, h⟩ := h
        refine aj_zast C (Or.inl rfl) (aj_ca (e := 1) (n := 60) (j := 32) hq0 (by decide) rfl) (by decide) r0 dX12_laysLight_34 ?_
        refine aj_nm (fun m2 e1 => ?_)
        have h := h m2 e1
        refine aj_iinc (lv' := [some (vO 12 q0), some (vI v1), some (vI v2), some (vI (v3 + 1)), none, none, none]) C dX12_laysLight_35 rfl (by decide) rfl ?_
        refine aj_goto (tgt := 2) C dX12_laysLight_38 (by decide) ?_
        exact ih q0 v1 v2 (v3 + 1) _ hq0 h
      · have h := h2 e
        refine aj_iconst C dX12_laysLight_20 ?_
        refine aj_goto (tgt := 27) C dX12_laysLight_21 (by decide) ?_
        obtain ⟨r0, h⟩ := h
        refine aj_iast C (aj_ca (e := 0) (n := 60) (j := 31) hq0 (by decide) rfl) (by decide) r0 dX12_laysLight_27 ?_
        refine aj_nm (fun m3 e1 => ?_)
        have h := h m3 e1
        refine aj_aload_n C dX12_laysLight_28 rfl ?_
        refine aj_getA (x := 1) (y := 60) C flX12_66 hq0 rfl dX12_laysLight_29 ?_
        refine aj_iload_n C dX12_laysLight_32 rfl ?_
        refine aj_iconst C dX12_laysLight_33 ?_
        obtain ⟨r0, h⟩ := h
        refine aj_zast C (Or.inl rfl) (aj_ca (e := 1) (n := 60) (j := 32) hq0 (by decide) rfl) (by decide) r0 dX12_laysLight_34 ?_
        refine aj_nm (fun m4 e1 => ?_)
        have h := h m4 e1
        refine aj_iinc (lv' := [some (vO 12 q0), some (vI v1), some (vI v2), some (vI (v3 + 1)), none, none, none]) C dX12_laysLight_35 rfl (by decide) rfl ?_
        refine aj_goto (tgt := 2) C dX12_laysLight_38 (by decide) ?_
        exact ih q0 v1 v2 (v3 + 1) _ hq0 h
def wX12_laysLight (f : Nat) (Φ : aj_M → Prop) (q0 : List Nat) (v1 : Int) (v2 : Int) (m : aj_M) : Prop := hX12_laysLight_2 f Φ f q0 v1 v2 0 m
set_option maxHeartbeats 4000000 in
set_option maxRecDepth 100000 in
theorem sX12_laysLight {n f : Nat} {Φ : aj_M → Prop} {q0 : List Nat} {v1 : Int} {v2 : Int} {m : aj_M} (hq0 : (.inl (12, q0) : aj_R) ∈ aj_pls) (h : wX12_laysLight f Φ q0 v1 v2 m) : aj_Ct (n + 1) yX12_laysLight cX12_laysLight 7 none [vO 12 q0, vI v1, vI v2] m (fun r m => r = none ∧ Φ m) := by
  refine aj_met (lv := [some (vO 12 q0), some (vI v1), some (vI v2), none, none, none, none]) (by decide +kernel) rfl (Nat.le_of_ble_eq_true rfl) (fun X C K => ?_)
  unfold wX12_laysLight at h
  refine aj_iconst C dX12_laysLight_0 ?_
  refine aj_istore_n (lv' := [some (vO 12 q0), some (vI v1), some (vI v2), some (vI 0), none, none, none]) C dX12_laysLight_1 (by decide) rfl ?_
  exact tX12_laysLight_2 C K f q0 v1 v2 0 _ hq0 h
theorem dX12_light_0 : decode cX12_light 0 = .ok (.aload_n 0, 1) := by decide +kernel
theorem dX12_light_1 : decode cX12_light 1 = .ok (.iconst 0, 1) := by decide +kernel
theorem dX12_light_2 : decode cX12_light 2 = .ok (.putfield 1, 3) := by decide +kernel
theorem dX12_light_5 : decode cX12_light 5 = .ok (.aload_n 0, 1) := by decide +kernel
theorem dX12_light_6 : decode cX12_light 6 = .ok (.iload_n 1, 1) := by decide +kernel
theorem dX12_light_7 : decode cX12_light 7 = .ok (.i2l, 1) := by decide +kernel
theorem dX12_light_8 : decode cX12_light 8 = .ok (.invokevirtual 360, 3) := by decide +kernel
theorem dX12_light_11 : decode cX12_light 11 = .ok (.ifCond .eq 12, 3) := by decide +kernel
theorem dX12_light_14 : decode cX12_light 14 = .ok (.aload_n 0, 1) := by decide +kernel
theorem dX12_light_15 : decode cX12_light 15 = .ok (.iload_n 2, 1) := by decide +kernel
theorem dX12_light_16 : decode cX12_light 16 = .ok (.i2l, 1) := by decide +kernel
theorem dX12_light_17 : decode cX12_light 17 = .ok (.invokevirtual 360, 3) := by decide +kernel
theorem dX12_light_20 : decode cX12_light 20 = .ok (.ifCond .ne 6, 3) := by decide +kernel
theorem dX12_light_23 : decode cX12_light 23 = .ok (.bipush (-2), 2) := by decide +kernel
theorem dX12_light_25 : decode cX12_light 25 = .ok (.ireturn, 1) := by decide +kernel
theorem dX12_light_26 : decode cX12_light 26 = .ok (.aload_n 0, 1) := by decide +kernel
theorem dX12_light_27 : decode cX12_light 27 = .ok (.invokevirtual 336, 3) := by decide +kernel
theorem dX12_light_30 : decode cX12_light 30 = .ok (.aload_n 0, 1) := by decide +kernel
theorem dX12_light_31 : decode cX12_light 31 = .ok (.iload_n 1, 1) := by decide +kernel
theorem dX12_light_32 : decode cX12_light 32 = .ok (.iconst (-1), 1) := by decide +kernel
theorem dX12_light_33 : decode cX12_light 33 = .ok (.invokevirtual 400, 3) := by decide +kernel
theorem dX12_light_36 : decode cX12_light 36 = .ok (.aload_n 0, 1) := by decide +kernel
theorem dX12_light_37 : decode cX12_light 37 = .ok (.getfield 63, 3) := by decide +kernel
theorem dX12_light_40 : decode cX12_light 40 = .ok (.iload_n 2, 1) := by decide +kernel
theorem dX12_light_41 : decode cX12_light 41 = .ok (.iaload, 1) := by decide +kernel
theorem dX12_light_42 : decode cX12_light 42 = .ok (.invokestatic 345, 3) := by decide +kernel
theorem dX12_light_45 : decode cX12_light 45 = .ok (.ireturn, 1) := by decide +kernel
def wX12_light (f : Nat) (Φ : Int → aj_M → Prop) (q0 : List Nat) (v1 : Int) (v2 : Int) (m : aj_M) : Prop := ∀ m1, m1 = aj_u m q0 0 0 → rI v1 ∧ wX12_isNode f (fun z1 m2 => rI z1 ∧ (z1 = 0 → Φ (-2) m2) ∧ (¬ (z1 = 0) → rI v2 ∧ wX12_isNode f (fun z2 m3 => rI z2 ∧ (¬ z2 = 0 → wX12_laysNet f (fun m4 => wX12_laysLight f (fun m5 => (0 ≤ v2 ∧ v2 < 60) ∧ wX12_toldFar f (fun z5 m6 => Φ z5 m6) (m5 (31 :: q0) v2.toNat) m5) q0 v1 (-1) m4) q0 m3) ∧ (z2 = 0 → Φ (-2) m3)) q0 v2 m2)) q0 v1 m1
set_option maxHeartbeats 4000000 in
set_option maxRecDepth 100000 in
theorem sX12_light {n f : Nat} {Φ : Int → aj_M → Prop} {q0 : List Nat} {v1 : Int} {v2 : Int} {m : aj_M} (hq0 : (.inl (12, q0) : aj_R) ∈ aj_pls) (h : wX12_light f Φ q0 v1 v2 m) : aj_Ct (n + 6) yX12_light cX12_light 3 (some .int) [vO 12 q0, vI v1, vI v2] m (fun r m => ∃ z, r = some (vI z) ∧ Φ z m) := by
  refine aj_met (lv := [some (vO 12 q0), some (vI v1), some (vI v2)]) (by decide +kernel) rfl (Nat.le_of_ble_eq_true rfl) (fun X C K => ?_)
  unfold wX12_light at h
  refine aj_aload_n C dX12_light_0 rfl ?_
  refine aj_iconst C dX12_light_1 ?_
  refine aj_putI C fpX12_1 hq0 rfl dX12_light_2 ?_
  refine aj_nm (fun m1 e1 => ?_)
  have h := h m1 e1
  refine aj_aload_n C dX12_light_5 rfl ?_
  refine aj_iload_n C dX12_light_6 rfl ?_
  obtain ⟨r0, h⟩ := h
  refine aj_i2l C dX12_light_7 r0 ?_
  refine aj_callV (rest := []) C mvX12_360 (sX12_isNode hq0 h) hq0 (aj_np 1 (by decide +kernel) rfl) (Nat.le_of_ble_eq_true rfl) rfl dX12_light_8 (fun r m2 h => ?_)
  obtain ⟨z1, rfl, h⟩ := h
  obtain ⟨r0, h1, h2⟩ := h
  refine aj_if_eq (tgt := 23) C dX12_light_11 (by decide) r0 (fun e => ?_) (fun e => ?_)
  · have h := h1 e
    refine aj_bipush C dX12_light_23 (by decide) ?_
    exact aj_iret C K dX12_light_25 ⟨_, rfl, h⟩
  · have h := h2 e
    refine aj_aload_n C dX12_light_14 rfl ?_
    refine aj_iload_n C dX12_light_15 rfl ?_
    obtain ⟨r0, h⟩ := h
    refine aj_i2l C dX12_light_16 r0 ?_
    refine aj_callV (rest := []) C mvX12_360 (sX12_isNode hq0 h) hq0 (aj_np 1 (by decide +kernel) rfl) (Nat.le_of_ble_eq_true rfl) rfl dX12_light_17 (fun r m3 h => ?_)
    obtain ⟨z2, rfl, h⟩ := h
    obtain ⟨r0, h1, h2⟩ := h
    refine aj_if_ne (tgt := 26) C dX12_light_20 (by decide) r0 (fun e => ?_) (fun e => ?_)
    · have h := h1 e
      refine aj_aload_n C dX12_light_26 rfl ?_
      refine aj_callV (rest := []) C mvX12_336 (sX12_laysNet hq0 h) hq0 (aj_np 0 (by decide +kernel) rfl) (Nat.le_of_ble_eq_true rfl) rfl dX12_light_27 (fun r m4 h => ?_)
      obtain ⟨rfl, h⟩ := h
      refine aj_aload_n C dX12_light_30 rfl ?_
      refine aj_iload_n C dX12_light_31 rfl ?_
      refine aj_iconst C dX12_light_32 ?_
      refine aj_callV (rest := []) C mvX12_400 (sX12_laysLight hq0 h) hq0 (aj_np 2 (by decide +kernel) rfl) (Nat.le_of_ble_eq_true rfl) rfl dX12_light_33 (fun r m5 h => ?_)
      obtain ⟨rfl, h⟩ := h
      refine aj_aload_n C dX12_light_36 rfl ?_
      refine aj_getA (x := 0) (y := 60) C flX12_63 hq0 rfl dX12_light_37 ?_
      refine aj_iload_n C dX12_light_40 rfl ?_
      obtain ⟨r0, h⟩ := h
      refine aj_iald C (aj_ca (e := 0) (n := 60) (j := 31) hq0 (by decide) rfl) (by decide) r0 dX12_light_41 rfl ?_
      refine aj_callS (rest := []) C msX12_345 (sX12_toldFar  h) (aj_np 1 (by decide +kernel) rfl) (Nat.le_of_ble_eq_true rfl) rfl dX12_light_42 (fun r m6 h => ?_)
      obtain ⟨z5, rfl, h⟩ := h
      exact aj_iret C K dX12_light_45 ⟨_, rfl, h⟩
    · have h := h2 e
      refine aj_bipush C dX12_light_23 (by decide) ?_
      exact aj_iret C K dX12_light_25 ⟨_, rfl, h⟩
theorem dX12_lightest_0 : decode cX12_lightest 0 = .ok (.aload_n 0, 1) := by decide +kernel
theorem dX12_lightest_1 : decode cX12_lightest 1 = .ok (.iconst 0, 1) := by decide +kernel
theorem dX12_lightest_2 : decode cX12_lightest 2 = .ok (.putfield 1, 3) := by decide +kernel
theorem dX12_lightest_5 : decode cX12_lightest 5 = .ok (.aload_n 0, 1) := by decide +kernel
theorem dX12_lightest_6 : decode cX12_lightest 6 = .ok (.invokevirtual 336, 3) := by decide +kernel
theorem dX12_lightest_9 : decode cX12_lightest 9 = .ok (.ldc_w 281, 3) := by decide +kernel
theorem dX12_lightest_12 : decode cX12_lightest 12 = .ok (.istore_n 1, 1) := by decide +kernel
theorem dX12_lightest_13 : decode cX12_lightest 13 = .ok (.iconst 0, 1) := by decide +kernel
theorem dX12_lightest_14 : decode cX12_lightest 14 = .ok (.istore_n 2, 1) := by decide +kernel
theorem dX12_lightest_15 : decode cX12_lightest 15 = .ok (.iload_n 2, 1) := by decide +kernel
theorem dX12_lightest_16 : decode cX12_lightest 16 = .ok (.aload_n 0, 1) := by decide +kernel
theorem dX12_lightest_17 : decode cX12_lightest 17 = .ok (.getfield 265, 3) := by decide +kernel
theorem dX12_lightest_20 : decode cX12_lightest 20 = .ok (.if_icmp .ge 73, 3) := by decide +kernel
theorem dX12_lightest_23 : decode cX12_lightest 23 = .ok (.aload_n 0, 1) := by decide +kernel
theorem dX12_lightest_24 : decode cX12_lightest 24 = .ok (.aload_n 0, 1) := by decide +kernel
theorem dX12_lightest_25 : decode cX12_lightest 25 = .ok (.getfield 36, 3) := by decide +kernel
theorem dX12_lightest_28 : decode cX12_lightest 28 = .ok (.iload_n 2, 1) := by decide +kernel
theorem dX12_lightest_29 : decode cX12_lightest 29 = .ok (.iaload, 1) := by decide +kernel
theorem dX12_lightest_30 : decode cX12_lightest 30 = .ok (.iload_n 2, 1) := by decide +kernel
theorem dX12_lightest_31 : decode cX12_lightest 31 = .ok (.invokevirtual 400, 3) := by decide +kernel
theorem dX12_lightest_34 : decode cX12_lightest 34 = .ok (.aload_n 0, 1) := by decide +kernel
theorem dX12_lightest_35 : decode cX12_lightest 35 = .ok (.getfield 63, 3) := by decide +kernel
theorem dX12_lightest_38 : decode cX12_lightest 38 = .ok (.aload_n 0, 1) := by decide +kernel
theorem dX12_lightest_39 : decode cX12_lightest 39 = .ok (.getfield 39, 3) := by decide +kernel
theorem dX12_lightest_42 : decode cX12_lightest 42 = .ok (.iload_n 2, 1) := by decide +kernel
theorem dX12_lightest_43 : decode cX12_lightest 43 = .ok (.iaload, 1) := by decide +kernel
theorem dX12_lightest_44 : decode cX12_lightest 44 = .ok (.iaload, 1) := by decide +kernel
theorem dX12_lightest_45 : decode cX12_lightest 45 = .ok (.ldc_w 281, 3) := by decide +kernel
theorem dX12_lightest_48 : decode cX12_lightest 48 = .ok (.if_icmp .ne 9, 3) := by decide +kernel
theorem dX12_lightest_51 : decode cX12_lightest 51 = .ok (.ldc_w 281, 3) := by decide +kernel
theorem dX12_lightest_54 : decode cX12_lightest 54 = .ok (.goto 21, 3) := by decide +kernel
theorem dX12_lightest_57 : decode cX12_lightest 57 = .ok (.aload_n 0, 1) := by decide +kernel
theorem dX12_lightest_58 : decode cX12_lightest 58 = .ok (.getfield 63, 3) := by decide +kernel
theorem dX12_lightest_61 : decode cX12_lightest 61 = .ok (.aload_n 0, 1) := by decide +kernel
theorem dX12_lightest_62 : decode cX12_lightest 62 = .ok (.getfield 39, 3) := by decide +kernel
theorem dX12_lightest_65 : decode cX12_lightest 65 = .ok (.iload_n 2, 1) := by decide +kernel
theorem dX12_lightest_66 : decode cX12_lightest 66 = .ok (.iaload, 1) := by decide +kernel
theorem dX12_lightest_67 : decode cX12_lightest 67 = .ok (.iaload, 1) := by decide +kernel
theorem dX12_lightest_68 : decode cX12_lightest 68 = .ok (.aload_n 0, 1) := by decide +kernel
theorem dX12_lightest_69 : decode cX12_lightest 69 = .ok (.getfield 42, 3) := by decide +kernel
theorem dX12_lightest_72 : decode cX12_lightest 72 = .ok (.iload_n 2, 1) := by decide +kernel
theorem dX12_lightest_73 : decode cX12_lightest 73 = .ok (.iaload, 1) := by decide +kernel
theorem dX12_lightest_74 : decode cX12_lightest 74 = .ok (.iadd, 1) := by decide +kernel
theorem dX12_lightest_75 : decode cX12_lightest 75 = .ok (.istore_n 3, 1) := by decide +kernel
theorem dX12_lightest_76 : decode cX12_lightest 76 = .ok (.iload_n 3, 1) := by decide +kernel
theorem dX12_lightest_77 : decode cX12_lightest 77 = .ok (.iload_n 1, 1) := by decide +kernel
theorem dX12_lightest_78 : decode cX12_lightest 78 = .ok (.if_icmp .ge 7, 3) := by decide +kernel
theorem dX12_lightest_81 : decode cX12_lightest 81 = .ok (.iload_n 3, 1) := by decide +kernel
theorem dX12_lightest_82 : decode cX12_lightest 82 = .ok (.goto 4, 3) := by decide +kernel
theorem dX12_lightest_85 : decode cX12_lightest 85 = .ok (.iload_n 1, 1) := by decide +kernel
theorem dX12_lightest_86 : decode cX12_lightest 86 = .ok (.istore_n 1, 1) := by decide +kernel
theorem dX12_lightest_87 : decode cX12_lightest 87 = .ok (.iinc 2 1, 3) := by decide +kernel
theorem dX12_lightest_90 : decode cX12_lightest 90 = .ok (.goto (-75), 3) := by decide +kernel
theorem dX12_lightest_93 : decode cX12_lightest 93 = .ok (.iload_n 1, 1) := by decide +kernel
theorem dX12_lightest_94 : decode cX12_lightest 94 = .ok (.invokestatic 345, 3) := by decide +kernel
theorem dX12_lightest_97 : decode cX12_lightest 97 = .ok (.ireturn, 1) := by decide +kernel
def hX12_lightest_15 (f : Nat) (Φ : Int → aj_M → Prop) : Nat → List Nat → Int → Int → aj_M → Prop
  | 0, _, _, _, _ => False
  | k + 1, q0, v1, v2, m => rI v2 ∧ rI (m q0 22) ∧ ((m q0 22) ≤ v2 → wX12_toldFar f (fun z1 m1 => Φ z1 m1) v1 m) ∧ (¬ ((m q0 22) ≤ v2) → (0 ≤ v2 ∧ v2 < 144) ∧ wX12_laysLight f (fun m2 => (0 ≤ v2 ∧ v2 < 144) ∧ (0 ≤ (m2 (19 :: q0) v2.toNat) ∧ (m2 (19 :: q0) v2.toNat) < 60) ∧ rI (m2 (31 :: q0) (m2 (19 :: q0) v2.toNat).toNat) ∧ (¬ (m2 (31 :: q0) (m2 (19 :: q0) v2.toNat).toNat) = 268435456 → (0 ≤ v2 ∧ v2 < 144) ∧ (0 ≤ (m2 (19 :: q0) v2.toNat) ∧ (m2 (19 :: q0) v2.toNat) < 60) ∧ (0 ≤ v2 ∧ v2 < 144) ∧ rI ((m2 (31 :: q0) (m2 (19 :: q0) v2.toNat).toNat) + (m2 (20 :: q0) v2.toNat)) ∧ rI v1 ∧ (v1 ≤ ((m2 (31 :: q0) (m2 (19 :: q0) v2.toNat).toNat) + (m2 (20 :: q0) v2.toNat)) → hX12_lightest_15 f Φ k q0 v1 (v2 + 1) m2) ∧ (¬ (v1 ≤ ((m2 (31 :: q0) (m2 (19 :: q0) v2.toNat).toNat) + (m2 (20 :: q0) v2.toNat))) → hX12_lightest_15 f Φ k q0 ((m2 (31 :: q0) (m2 (19 :: q0) v2.toNat).toNat) + (m2 (20 :: q0) v2.toNat)) (v2 + 1) m2)) ∧ ((m2 (31 :: q0) (m2 (19 :: q0) v2.toNat).toNat) = 268435456 → rI v1 ∧ (v1 ≤ 268435456 → hX12_lightest_15 f Φ k q0 v1 (v2 + 1) m2) ∧ (¬ (v1 ≤ 268435456) → hX12_lightest_15 f Φ k q0 268435456 (v2 + 1) m2))) q0 (m (18 :: q0) v2.toNat) v2 m)
set_option maxHeartbeats 4000000 in
set_option maxRecDepth 100000 in
theorem tX12_lightest_15 {X : aj_T} {n f : Nat} {Φ : Int → aj_M → Prop} (C : aj_Cx X cX12_lightest RX12 4 (n + 6)) (K : aj_Rt X (some .int) (fun r m => ∃ z, r = some (vI z) ∧ Φ z m)) : ∀ (k : Nat) (q0 : List Nat) (v1 : Int) (v2 : Int) (m : aj_M) (hq0 : (.inl (12, q0) : aj_R) ∈ aj_pls), hX12_lightest_15 f Φ k q0 v1 v2 m → aj_J X 15 [some (vO 12 q0), some (vI v1), some (vI v2), none] [] m := by
  intro k
  induction k with
  | zero =>
    intro q0 v1 v2 m _ h
    exact h.elim
  | succ k ih =>
    intro q0 v1 v2 m hq0 h
    unfold hX12_lightest_15 at h
    refine aj_iload_n C dX12_lightest_15 rfl ?_
    refine aj_aload_n C dX12_lightest_16 rfl ?_
    refine aj_getI C flX12_265 hq0 (by decide) dX12_lightest_17 rfl ?_
    obtain ⟨r0, r1, h1, h2⟩ := h
    refine aj_icmp_ge (tgt := 93) C dX12_lightest_20 (by decide) r0 r1 (fun e => ?_) (fun e => ?_)
    · have h := h1 e
      refine aj_iload_n C dX12_lightest_93 rfl ?_
      refine aj_callS (rest := []) C msX12_345 (sX12_toldFar  h) (aj_np 1 (by decide +kernel) rfl) (Nat.le_of_ble_eq_true rfl) rfl dX12_lightest_94 (fun r m1 h => ?_)
      obtain ⟨z1, rfl, h⟩ := h
      exact aj_iret C K dX12_lightest_97 ⟨_, rfl, h⟩
    · have h := h2 e
      refine aj_aload_n C dX12_lightest_23 rfl ?_
      refine aj_aload_n C dX12_lightest_24 rfl ?_
      refine aj_getA (x := 0) (y := 144) C flX12_36 hq0 rfl dX12_lightest_25 ?_
      refine aj_iload_n C dX12_lightest_28 rfl ?_
      obtain ⟨r0, h⟩ := h
      refine aj_iald C (aj_ca (e := 0) (n := 144) (j := 18) hq0 (by decide) rfl) (by decide) r0 dX12_lightest_29 rfl ?_
      refine aj_iload_n C dX12_lightest_30 rfl ?_
      refine aj_callV (rest := []) C mvX12_400 (sX12_laysLight hq0 h) hq0 (aj_np 2 (by decide +kernel) rfl) (Nat.le_of_ble_eq_true rfl) rfl dX12_lightest_31 (fun r m2 h => ?_)
      obtain ⟨rfl, h⟩ := h
      refine aj_aload_n C dX12_lightest_34 rfl ?_
      refine aj_getA (x := 0) (y := 60) C flX12_63 hq0 rfl dX12_lightest_35 ?_
      refine aj_aload_n C dX12_lightest_38 rfl ?_
      refine aj_getA (x := 0) (y := 144) C flX12_39 hq0 rfl dX12_lightest_39 ?_
      refine aj_iload_n C dX12_lightest_42 rfl ?_
      obtain ⟨r0, h⟩ := h
      refine aj_iald C (aj_ca (e := 0) (n := 144) (j := 19) hq0 (by decide) rfl) (by decide) r0 dX12_lightest_43 rfl ?_
      obtain ⟨r0, h⟩ := h
      refine aj_iald C (aj_ca (e := 0) (n := 60) (j := 31) hq0 (by decide) rfl) (by decide) r0 dX12_lightest_44 rfl ?_
      refine aj_ldcw (z := 268435456) C (wd1900) rfl dX12_lightest_45 ?_
      obtain ⟨r0, h1, h2⟩ := h
      refine aj_icmp_ne (tgt := 57) C dX12_lightest_48 (by decide) r0 (by decide) (fun e => ?_) (fun e => ?_)
      · have h := h1 e
        refine aj_aload_n C dX12_lightest_57 rfl ?_
        refine aj_getA (x := 0) (y := 60) C flX12_63 hq0 rfl dX12_lightest_58 ?_
        refine aj_aload_n C dX12_lightest_61 rfl ?_
        refine aj_getA (x := 0) (y := 144) C flX12_39 hq0 rfl dX12_lightest_62 ?_
        refine aj_iload_n C dX12_lightest_65 rfl ?_
        obtain ⟨r0, h⟩ := h
        refine aj_iald C (aj_ca (e := 0) (n := 144) (j := 19) hq0 (by decide) rfl) (by decide) r0 dX12_lightest_66 rfl ?_
        obtain ⟨r0, h⟩ := h
        refine aj_iald C (aj_ca (e := 0) (n := 60) (j := 31) hq0 (by decide) rfl) (by decide) r0 dX12_lightest_67 rfl ?_
        refine aj_aload_n C dX12_lightest_68 rfl ?_
        refine aj_getA (x := 0) (y := 144) C flX12_42 hq0 rfl dX12_lightest_69 ?_
        refine aj_iload_n C dX12_lightest_72 rfl ?_
        obtain ⟨r0, h⟩ := h
        refine aj_iald C (aj_ca (e := 0) (n := 144) (j := 20) hq0 (by decide) rfl) (by decide) r0 dX12_lightest_73 rfl ?_
        refine aj_iadd C dX12_lightest_74 ?_
        refine aj_istore_n (lv' := [some (vO 12 q0), some (vI v1), some (vI v2), some (vI ((m2 (31 :: q0) (m2 (19 :: q0) v2.toNat).toNat) + (m2 (20 :: q0) v2.toNat)))]) C dX12_lightest_75 (by decide) rfl ?_
        refine aj_iload_n C dX12_lightest_76 rfl ?_
        refine aj_iload_n C dX12_lightest_77 rfl ?_
        obtain ⟨r0, r1, h1, h2⟩ := h
        refine aj_icmp_ge (tgt := 85) C dX12_lightest_78 (by decide) r0 r1 (fun e => ?_) (fun e => ?_)
        · have h := h1 e
          refine aj_iload_n C dX12_lightest_85 rfl ?_
          refine aj_istore_n (lv' := [some (vO 12 q0), some (vI v1), some (vI v2), some (vI ((m2 (31 :: q0) (m2 (19 :: q0) v2.toNat).toNat) + (m2 (20 :: q0) v2.toNat)))]) C dX12_lightest_86 (by decide) rfl ?_
          refine aj_iinc (lv' := [some (vO 12 q0), some (vI v1), some (vI (v2 + 1)), some (vI ((m2 (31 :: q0) (m2 (19 :: q0) v2.toNat).toNat) + (m2 (20 :: q0) v2.toNat)))]) C dX12_lightest_87 rfl (by decide) rfl ?_
          refine aj_goto (tgt := 15) C dX12_lightest_90 (by decide) ?_
          refine aj_wk (lv' := [some (vO 12 q0), some (vI v1), some (vI (v2 + 1)), none]) (⟨rfl, ⟨rfl, ⟨rfl, trivial⟩⟩⟩) ?_
          exact ih q0 v1 (v2 + 1) _ hq0 h
        · have h := h2 e
          refine aj_iload_n C dX12_lightest_81 rfl ?_
          refine aj_goto (tgt := 86) C dX12_lightest_82 (by decide) ?_
          refine aj_istore_n (lv' := [some (vO 12 q0), some (vI ((m2 (31 :: q0) (m2 (19 :: q0) v2.toNat).toNat) + (m2 (20 :: q0) v2.toNat))), some (vI v2), some (vI ((m2 (31 :: q0) (m2 (19 :: q0) v2.toNat).toNat) + (m2 (20 :: q0) v2.toNat)))]) C dX12_lightest_86 (by decide) rfl ?_
          refine aj_iinc (lv' := [some (vO 12 q0), some (vI ((m2 (31 :: q0) (m2 (19 :: q0) v2.toNat).toNat) + (m2 (20 :: q0) v2.toNat))), some (vI (v2 + 1)), some (vI ((m2 (31 :: q0) (m2 (19 :: q0) v2.toNat).toNat) + (m2 (20 :: q0) v2.toNat)))]) C dX12_lightest_87 rfl (by decide) rfl ?_
          refine aj_goto (tgt := 15) C dX12_lightest_90 (by decide) ?_
          refine aj_wk (lv' := [some (vO 12 q0), some (vI ((m2 (31 :: q0) (m2 (19 :: q0) v2.toNat).toNat) + (m2 (20 :: q0) v2.toNat))), some (vI (v2 + 1)), none]) (⟨rfl, ⟨rfl, ⟨rfl, trivial⟩⟩⟩) ?_
          exact ih q0 ((m2 (31 :: q0) (m2 (19 :: q0) v2.toNat).toNat) + (m2 (20 :: q0) v2.toNat)) (v2 + 1) _ hq0 h
      · have h := h2 e
        refine aj_ldcw (z := 268435456) C (wd1900) rfl dX12_lightest_51 ?_
        refine aj_goto (tgt := 75) C dX12_lightest_54 (by decide) ?_
        refine aj_istore_n (lv' := [some (vO 12 q0), some (vI v1), some (vI v2), some (vI 268435456)]) C dX12_lightest_75 (by decide) rfl ?_
        refine aj_iload_n C dX12_lightest_76 rfl ?_
        refine aj_iload_n C dX12_lightest_77 rfl ?_
        obtain ⟨r1, h1, h2⟩ := h
        refine aj_icmp_ge (tgt := 85) C dX12_lightest_78 (by decide) (by decide) r1 (fun e => ?_) (fun e => ?_)
        · have h := h1 e
          refine aj_iload_n C dX12_lightest_85 rfl ?_
          refine aj_istore_n (lv' := [some (vO 12 q0), some (vI v1), some (vI v2), some (vI 268435456)]) C dX12_lightest_86 (by decide) rfl ?_
          refine aj_iinc (lv' := [some (vO 12 q0), some (vI v1), some (vI (v2 + 1)), some (vI 268435456)]) C dX12_lightest_87 rfl (by decide) rfl ?_
          refine aj_goto (tgt := 15) C dX12_lightest_90 (by decide) ?_
          refine aj_wk (lv' := [some (vO 12 q0), some (vI v1), some (vI (v2 + 1)), none]) (⟨rfl, ⟨rfl, ⟨rfl, trivial⟩⟩⟩) ?_
          exact ih q0 v1 (v2 + 1) _ hq0 h
        · have h := h2 e
          refine aj_iload_n C dX12_lightest_81 rfl ?_
          refine aj_goto (tgt := 86) C dX12_lightest_82 (by decide) ?_
          refine aj_istore_n (lv' := [some (vO 12 q0), some (vI 268435456), some (vI v2), some (vI 268435456)]) C dX12_lightest_86 (by decide) rfl ?_
          refine aj_iinc (lv' := [some (vO 12 q0), some (vI 268435456), some (vI (v2 + 1)), some (vI 268435456)]) C dX12_lightest_87 rfl (by decide) rfl ?_
          refine aj_goto (tgt := 15) C dX12_lightest_90 (by decide) ?_
          refine aj_wk (lv' := [some (vO 12 q0), some (vI 268435456), some (vI (v2 + 1)), none]) (⟨rfl, ⟨rfl, ⟨rfl, trivial⟩⟩⟩) ?_
          exact ih q0 268435456 (v2 + 1) _ hq0 h
def wX12_lightest (f : Nat) (Φ : Int → aj_M → Prop) (q0 : List Nat) (m : aj_M) : Prop := ∀ m1, m1 = aj_u m q0 0 0 → wX12_laysNet f (fun m2 => hX12_lightest_15 f Φ f q0 268435456 0 m2) q0 m1
set_option maxHeartbeats 4000000 in
set_option maxRecDepth 100000 in
theorem sX12_lightest {n f : Nat} {Φ : Int → aj_M → Prop} {q0 : List Nat} {m : aj_M} (hq0 : (.inl (12, q0) : aj_R) ∈ aj_pls) (h : wX12_lightest f Φ q0 m) : aj_Ct (n + 6) yX12_lightest cX12_lightest 4 (some .int) [vO 12 q0] m (fun r m => ∃ z, r = some (vI z) ∧ Φ z m) := by
  refine aj_met (lv := [some (vO 12 q0), none, none, none]) (by decide +kernel) rfl (Nat.le_of_ble_eq_true rfl) (fun X C K => ?_)
  unfold wX12_lightest at h
  refine aj_aload_n C dX12_lightest_0 rfl ?_
  refine aj_iconst C dX12_lightest_1 ?_
  refine aj_putI C fpX12_1 hq0 rfl dX12_lightest_2 ?_
  refine aj_nm (fun m1 e1 => ?_)
  have h := h m1 e1
  refine aj_aload_n C dX12_lightest_5 rfl ?_
  refine aj_callV (rest := []) C mvX12_336 (sX12_laysNet hq0 h) hq0 (aj_np 0 (by decide +kernel) rfl) (Nat.le_of_ble_eq_true rfl) rfl dX12_lightest_6 (fun r m2 h => ?_)
  obtain ⟨rfl, h⟩ := h
  refine aj_ldcw (z := 268435456) C (wd1900) rfl dX12_lightest_9 ?_
  refine aj_istore_n (lv' := [some (vO 12 q0), some (vI 268435456), none, none]) C dX12_lightest_12 (by decide) rfl ?_
  refine aj_iconst C dX12_lightest_13 ?_
  refine aj_istore_n (lv' := [some (vO 12 q0), some (vI 268435456), some (vI 0), none]) C dX12_lightest_14 (by decide) rfl ?_
  exact tX12_lightest_15 C K f q0 268435456 0 _ hq0 h
theorem dX12_beginOf_0 : decode cX12_beginOf 0 = .ok (.aload_n 0, 1) := by decide +kernel
theorem dX12_beginOf_1 : decode cX12_beginOf 1 = .ok (.getfield 13, 3) := by decide +kernel
theorem dX12_beginOf_4 : decode cX12_beginOf 4 = .ok (.iload_n 1, 1) := by decide +kernel
theorem dX12_beginOf_5 : decode cX12_beginOf 5 = .ok (.iconst 2, 1) := by decide +kernel
theorem dX12_beginOf_6 : decode cX12_beginOf 6 = .ok (.irem, 1) := by decide +kernel
theorem dX12_beginOf_7 : decode cX12_beginOf 7 = .ok (.ifCond .ne 8, 3) := by decide +kernel
theorem dX12_beginOf_10 : decode cX12_beginOf 10 = .ok (.bipush 13, 2) := by decide +kernel
theorem dX12_beginOf_12 : decode cX12_beginOf 12 = .ok (.goto 5, 3) := by decide +kernel
theorem dX12_beginOf_15 : decode cX12_beginOf 15 = .ok (.bipush 25, 2) := by decide +kernel
theorem dX12_beginOf_17 : decode cX12_beginOf 17 = .ok (.iload_n 1, 1) := by decide +kernel
theorem dX12_beginOf_18 : decode cX12_beginOf 18 = .ok (.iconst 2, 1) := by decide +kernel
theorem dX12_beginOf_19 : decode cX12_beginOf 19 = .ok (.idiv, 1) := by decide +kernel
theorem dX12_beginOf_20 : decode cX12_beginOf 20 = .ok (.iadd, 1) := by decide +kernel
theorem dX12_beginOf_21 : decode cX12_beginOf 21 = .ok (.iaload, 1) := by decide +kernel
theorem dX12_beginOf_22 : decode cX12_beginOf 22 = .ok (.ireturn, 1) := by decide +kernel
def wX12_beginOf (f : Nat) (Φ : Int → aj_M → Prop) (q0 : List Nat) (v1 : Int) (m : aj_M) : Prop := (0 ≤ v1 ∧ v1 < 2147483648) ∧ rI (v1 % 2) ∧ (¬ (v1 % 2) = 0 → (0 ≤ v1 ∧ v1 < 2147483648) ∧ (0 ≤ (25 + (v1 / 2)) ∧ (25 + (v1 / 2)) < 3315) ∧ Φ (m (1 :: q0) (25 + (v1 / 2)).toNat) m) ∧ ((v1 % 2) = 0 → (0 ≤ v1 ∧ v1 < 2147483648) ∧ (0 ≤ (13 + (v1 / 2)) ∧ (13 + (v1 / 2)) < 3315) ∧ Φ (m (1 :: q0) (13 + (v1 / 2)).toNat) m)
set_option maxHeartbeats 4000000 in
set_option maxRecDepth 100000 in
theorem sX12_beginOf {n f : Nat} {Φ : Int → aj_M → Prop} {q0 : List Nat} {v1 : Int} {m : aj_M} (hq0 : (.inl (12, q0) : aj_R) ∈ aj_pls) (h : wX12_beginOf f Φ q0 v1 m) : aj_Ct n yX12_beginOf cX12_beginOf 2 (some .int) [vO 12 q0, vI v1] m (fun r m => ∃ z, r = some (vI z) ∧ Φ z m) := by
  refine aj_met (lv := [some (vO 12 q0), some (vI v1)]) (by decide +kernel) rfl (Nat.le_of_ble_eq_true rfl) (fun X C K => ?_)
  unfold wX12_beginOf at h
  refine aj_aload_n C dX12_beginOf_0 rfl ?_
  refine aj_getA (x := 0) (y := 3315) C flX12_13 hq0 rfl dX12_beginOf_1 ?_
  refine aj_iload_n C dX12_beginOf_4 rfl ?_
  refine aj_iconst C dX12_beginOf_5 ?_
  obtain ⟨r0, h⟩ := h
  refine aj_iremN C dX12_beginOf_6 r0 (by decide) ?_
  obtain ⟨r0, h1, h2⟩ := h
  refine aj_if_ne (tgt := 15) C dX12_beginOf_7 (by decide) r0 (fun e => ?_) (fun e => ?_)
  · have h := h1 e
    refine aj_bipush C dX12_beginOf_15 (by decide) ?_
    refine aj_iload_n C dX12_beginOf_17 rfl ?_
    refine aj_iconst C dX12_beginOf_18 ?_
    obtain ⟨r0, h⟩ := h
    refine aj_idivN C dX12_beginOf_19 r0 (by decide) ?_
    refine aj_iadd C dX12_beginOf_20 ?_
    obtain ⟨r0, h⟩ := h
    refine aj_iald C (aj_ca (e := 0) (n := 3315) (j := 1) hq0 (by decide) rfl) (by decide) r0 dX12_beginOf_21 rfl ?_
    exact aj_iret C K dX12_beginOf_22 ⟨_, rfl, h⟩
  · have h := h2 e
    refine aj_bipush C dX12_beginOf_10 (by decide) ?_
    refine aj_goto (tgt := 17) C dX12_beginOf_12 (by decide) ?_
    refine aj_iload_n C dX12_beginOf_17 rfl ?_
    refine aj_iconst C dX12_beginOf_18 ?_
    obtain ⟨r0, h⟩ := h
    refine aj_idivN C dX12_beginOf_19 r0 (by decide) ?_
    refine aj_iadd C dX12_beginOf_20 ?_
    obtain ⟨r0, h⟩ := h
    refine aj_iald C (aj_ca (e := 0) (n := 3315) (j := 1) hq0 (by decide) rfl) (by decide) r0 dX12_beginOf_21 rfl ?_
    exact aj_iret C K dX12_beginOf_22 ⟨_, rfl, h⟩
theorem dX12_endOf_0 : decode cX12_endOf 0 = .ok (.aload_n 0, 1) := by decide +kernel
theorem dX12_endOf_1 : decode cX12_endOf 1 = .ok (.getfield 13, 3) := by decide +kernel
theorem dX12_endOf_4 : decode cX12_endOf 4 = .ok (.iload_n 1, 1) := by decide +kernel
theorem dX12_endOf_5 : decode cX12_endOf 5 = .ok (.iconst 2, 1) := by decide +kernel
theorem dX12_endOf_6 : decode cX12_endOf 6 = .ok (.irem, 1) := by decide +kernel
theorem dX12_endOf_7 : decode cX12_endOf 7 = .ok (.ifCond .ne 8, 3) := by decide +kernel
theorem dX12_endOf_10 : decode cX12_endOf 10 = .ok (.bipush 25, 2) := by decide +kernel
theorem dX12_endOf_12 : decode cX12_endOf 12 = .ok (.goto 5, 3) := by decide +kernel
theorem dX12_endOf_15 : decode cX12_endOf 15 = .ok (.bipush 13, 2) := by decide +kernel
theorem dX12_endOf_17 : decode cX12_endOf 17 = .ok (.iload_n 1, 1) := by decide +kernel
theorem dX12_endOf_18 : decode cX12_endOf 18 = .ok (.iconst 2, 1) := by decide +kernel
theorem dX12_endOf_19 : decode cX12_endOf 19 = .ok (.idiv, 1) := by decide +kernel
theorem dX12_endOf_20 : decode cX12_endOf 20 = .ok (.iadd, 1) := by decide +kernel
theorem dX12_endOf_21 : decode cX12_endOf 21 = .ok (.iaload, 1) := by decide +kernel
theorem dX12_endOf_22 : decode cX12_endOf 22 = .ok (.ireturn, 1) := by decide +kernel
def wX12_endOf (f : Nat) (Φ : Int → aj_M → Prop) (q0 : List Nat) (v1 : Int) (m : aj_M) : Prop := (0 ≤ v1 ∧ v1 < 2147483648) ∧ rI (v1 % 2) ∧ (¬ (v1 % 2) = 0 → (0 ≤ v1 ∧ v1 < 2147483648) ∧ (0 ≤ (13 + (v1 / 2)) ∧ (13 + (v1 / 2)) < 3315) ∧ Φ (m (1 :: q0) (13 + (v1 / 2)).toNat) m) ∧ ((v1 % 2) = 0 → (0 ≤ v1 ∧ v1 < 2147483648) ∧ (0 ≤ (25 + (v1 / 2)) ∧ (25 + (v1 / 2)) < 3315) ∧ Φ (m (1 :: q0) (25 + (v1 / 2)).toNat) m)
set_option maxHeartbeats 4000000 in
set_option maxRecDepth 100000 in
theorem sX12_endOf {n f : Nat} {Φ : Int → aj_M → Prop} {q0 : List Nat} {v1 : Int} {m : aj_M} (hq0 : (.inl (12, q0) : aj_R) ∈ aj_pls) (h : wX12_endOf f Φ q0 v1 m) : aj_Ct n yX12_endOf cX12_endOf 2 (some .int) [vO 12 q0, vI v1] m (fun r m => ∃ z, r = some (vI z) ∧ Φ z m) := by
  refine aj_met (lv := [some (vO 12 q0), some (vI v1)]) (by decide +kernel) rfl (Nat.le_of_ble_eq_true rfl) (fun X C K => ?_)
  unfold wX12_endOf at h
  refine aj_aload_n C dX12_endOf_0 rfl ?_
  refine aj_getA (x := 0) (y := 3315) C flX12_13 hq0 rfl dX12_endOf_1 ?_
  refine aj_iload_n C dX12_endOf_4 rfl ?_
  refine aj_iconst C dX12_endOf_5 ?_
  obtain ⟨r0, h⟩ := h
  refine aj_iremN C dX12_endOf_6 r0 (by decide) ?_
  obtain ⟨r0, h1, h2⟩ := h
  refine aj_if_ne (tgt := 15) C dX12_endOf_7 (by decide) r0 (fun e => ?_) (fun e => ?_)
  · have h := h1 e
    refine aj_bipush C dX12_endOf_15 (by decide) ?_
    refine aj_iload_n C dX12_endOf_17 rfl ?_
    refine aj_iconst C dX12_endOf_18 ?_
    obtain ⟨r0, h⟩ := h
    refine aj_idivN C dX12_endOf_19 r0 (by decide) ?_
    refine aj_iadd C dX12_endOf_20 ?_
    obtain ⟨r0, h⟩ := h
    refine aj_iald C (aj_ca (e := 0) (n := 3315) (j := 1) hq0 (by decide) rfl) (by decide) r0 dX12_endOf_21 rfl ?_
    exact aj_iret C K dX12_endOf_22 ⟨_, rfl, h⟩
  · have h := h2 e
    refine aj_bipush C dX12_endOf_10 (by decide) ?_
    refine aj_goto (tgt := 17) C dX12_endOf_12 (by decide) ?_
    refine aj_iload_n C dX12_endOf_17 rfl ?_
    refine aj_iconst C dX12_endOf_18 ?_
    obtain ⟨r0, h⟩ := h
    refine aj_idivN C dX12_endOf_19 r0 (by decide) ?_
    refine aj_iadd C dX12_endOf_20 ?_
    obtain ⟨r0, h⟩ := h
    refine aj_iald C (aj_ca (e := 0) (n := 3315) (j := 1) hq0 (by decide) rfl) (by decide) r0 dX12_endOf_21 rfl ?_
    exact aj_iret C K dX12_endOf_22 ⟨_, rfl, h⟩
theorem dX12_stepAt_0 : decode cX12_stepAt 0 = .ok (.aload_n 0, 1) := by decide +kernel
theorem dX12_stepAt_1 : decode cX12_stepAt 1 = .ok (.getfield 84, 3) := by decide +kernel
theorem dX12_stepAt_4 : decode cX12_stepAt 4 = .ok (.bipush 40, 2) := by decide +kernel
theorem dX12_stepAt_6 : decode cX12_stepAt 6 = .ok (.iload_n 1, 1) := by decide +kernel
theorem dX12_stepAt_7 : decode cX12_stepAt 7 = .ok (.imul, 1) := by decide +kernel
theorem dX12_stepAt_8 : decode cX12_stepAt 8 = .ok (.iload_n 2, 1) := by decide +kernel
theorem dX12_stepAt_9 : decode cX12_stepAt 9 = .ok (.iadd, 1) := by decide +kernel
theorem dX12_stepAt_10 : decode cX12_stepAt 10 = .ok (.laload, 1) := by decide +kernel
theorem dX12_stepAt_11 : decode cX12_stepAt 11 = .ok (.l2i, 1) := by decide +kernel
theorem dX12_stepAt_12 : decode cX12_stepAt 12 = .ok (.ireturn, 1) := by decide +kernel
def wX12_stepAt (f : Nat) (Φ : Int → aj_M → Prop) (q0 : List Nat) (v1 : Int) (v2 : Int) (m : aj_M) : Prop := (0 ≤ ((40 * v1) + v2) ∧ ((40 * v1) + v2) < 160) ∧ Φ (m (46 :: q0) ((40 * v1) + v2).toNat) m
set_option maxHeartbeats 4000000 in
set_option maxRecDepth 100000 in
theorem sX12_stepAt {n f : Nat} {Φ : Int → aj_M → Prop} {q0 : List Nat} {v1 : Int} {v2 : Int} {m : aj_M} (hq0 : (.inl (12, q0) : aj_R) ∈ aj_pls) (h : wX12_stepAt f Φ q0 v1 v2 m) : aj_Ct n yX12_stepAt cX12_stepAt 3 (some .int) [vO 12 q0, vI v1, vI v2] m (fun r m => ∃ z, r = some (vI z) ∧ Φ z m) := by
  refine aj_met (lv := [some (vO 12 q0), some (vI v1), some (vI v2)]) (by decide +kernel) rfl (Nat.le_of_ble_eq_true rfl) (fun X C K => ?_)
  unfold wX12_stepAt at h
  refine aj_aload_n C dX12_stepAt_0 rfl ?_
  refine aj_getA (x := 3) (y := 160) C flX12_84 hq0 rfl dX12_stepAt_1 ?_
  refine aj_bipush C dX12_stepAt_4 (by decide) ?_
  refine aj_iload_n C dX12_stepAt_6 rfl ?_
  refine aj_imul C dX12_stepAt_7 ?_
  refine aj_iload_n C dX12_stepAt_8 rfl ?_
  refine aj_iadd C dX12_stepAt_9 ?_
  obtain ⟨r0, h⟩ := h
  refine aj_lald C (aj_ca (e := 3) (n := 160) (j := 46) hq0 (by decide) rfl) (by decide) r0 dX12_stepAt_10 rfl ?_
  refine aj_l2i C dX12_stepAt_11 ?_
  exact aj_iret C K dX12_stepAt_12 ⟨_, rfl, h⟩
theorem dX12_noWalk_0 : decode cX12_noWalk 0 = .ok (.aload_n 0, 1) := by decide +kernel
theorem dX12_noWalk_1 : decode cX12_noWalk 1 = .ok (.iload_n 1, 1) := by decide +kernel
theorem dX12_noWalk_2 : decode cX12_noWalk 2 = .ok (.invokevirtual 330, 3) := by decide +kernel
theorem dX12_noWalk_5 : decode cX12_noWalk 5 = .ok (.istore_n 2, 1) := by decide +kernel
theorem dX12_noWalk_6 : decode cX12_noWalk 6 = .ok (.iload_n 2, 1) := by decide +kernel
theorem dX12_noWalk_7 : decode cX12_noWalk 7 = .ok (.ifCond .eq 5, 3) := by decide +kernel
theorem dX12_noWalk_10 : decode cX12_noWalk 10 = .ok (.iload_n 2, 1) := by decide +kernel
theorem dX12_noWalk_11 : decode cX12_noWalk 11 = .ok (.ireturn, 1) := by decide +kernel
theorem dX12_noWalk_12 : decode cX12_noWalk 12 = .ok (.aload_n 0, 1) := by decide +kernel
theorem dX12_noWalk_13 : decode cX12_noWalk 13 = .ok (.getfield 81, 3) := by decide +kernel
theorem dX12_noWalk_16 : decode cX12_noWalk 16 = .ok (.iload_n 1, 1) := by decide +kernel
theorem dX12_noWalk_17 : decode cX12_noWalk 17 = .ok (.iaload, 1) := by decide +kernel
theorem dX12_noWalk_18 : decode cX12_noWalk 18 = .ok (.i2l, 1) := by decide +kernel
theorem dX12_noWalk_19 : decode cX12_noWalk 19 = .ok (.lconst 1, 1) := by decide +kernel
theorem dX12_noWalk_20 : decode cX12_noWalk 20 = .ok (.ldc2_w 387, 3) := by decide +kernel
theorem dX12_noWalk_23 : decode cX12_noWalk 23 = .ok (.invokestatic 154, 3) := by decide +kernel
theorem dX12_noWalk_26 : decode cX12_noWalk 26 = .ok (.ifCond .ne 6, 3) := by decide +kernel
theorem dX12_noWalk_29 : decode cX12_noWalk 29 = .ok (.bipush (-4), 2) := by decide +kernel
theorem dX12_noWalk_31 : decode cX12_noWalk 31 = .ok (.ireturn, 1) := by decide +kernel
theorem dX12_noWalk_32 : decode cX12_noWalk 32 = .ok (.iconst 0, 1) := by decide +kernel
theorem dX12_noWalk_33 : decode cX12_noWalk 33 = .ok (.istore_n 3, 1) := by decide +kernel
theorem dX12_noWalk_34 : decode cX12_noWalk 34 = .ok (.iload_n 3, 1) := by decide +kernel
theorem dX12_noWalk_35 : decode cX12_noWalk 35 = .ok (.aload_n 0, 1) := by decide +kernel
theorem dX12_noWalk_36 : decode cX12_noWalk 36 = .ok (.getfield 81, 3) := by decide +kernel
theorem dX12_noWalk_39 : decode cX12_noWalk 39 = .ok (.iload_n 1, 1) := by decide +kernel
theorem dX12_noWalk_40 : decode cX12_noWalk 40 = .ok (.iaload, 1) := by decide +kernel
theorem dX12_noWalk_41 : decode cX12_noWalk 41 = .ok (.if_icmp .ge 76, 3) := by decide +kernel
theorem dX12_noWalk_44 : decode cX12_noWalk 44 = .ok (.aload_n 0, 1) := by decide +kernel
theorem dX12_noWalk_45 : decode cX12_noWalk 45 = .ok (.getfield 84, 3) := by decide +kernel
theorem dX12_noWalk_48 : decode cX12_noWalk 48 = .ok (.bipush 40, 2) := by decide +kernel
theorem dX12_noWalk_50 : decode cX12_noWalk 50 = .ok (.iload_n 1, 1) := by decide +kernel
theorem dX12_noWalk_51 : decode cX12_noWalk 51 = .ok (.imul, 1) := by decide +kernel
theorem dX12_noWalk_52 : decode cX12_noWalk 52 = .ok (.iload_n 3, 1) := by decide +kernel
theorem dX12_noWalk_53 : decode cX12_noWalk 53 = .ok (.iadd, 1) := by decide +kernel
theorem dX12_noWalk_54 : decode cX12_noWalk 54 = .ok (.laload, 1) := by decide +kernel
theorem dX12_noWalk_55 : decode cX12_noWalk 55 = .ok (.lconst 0, 1) := by decide +kernel
theorem dX12_noWalk_56 : decode cX12_noWalk 56 = .ok (.ldc2_w 385, 3) := by decide +kernel
theorem dX12_noWalk_59 : decode cX12_noWalk 59 = .ok (.aload_n 0, 1) := by decide +kernel
theorem dX12_noWalk_60 : decode cX12_noWalk 60 = .ok (.getfield 13, 3) := by decide +kernel
theorem dX12_noWalk_63 : decode cX12_noWalk 63 = .ok (.bipush 6, 2) := by decide +kernel
theorem dX12_noWalk_65 : decode cX12_noWalk 65 = .ok (.iaload, 1) := by decide +kernel
theorem dX12_noWalk_66 : decode cX12_noWalk 66 = .ok (.i2l, 1) := by decide +kernel
theorem dX12_noWalk_67 : decode cX12_noWalk 67 = .ok (.lmul, 1) := by decide +kernel
theorem dX12_noWalk_68 : decode cX12_noWalk 68 = .ok (.lconst 1, 1) := by decide +kernel
theorem dX12_noWalk_69 : decode cX12_noWalk 69 = .ok (.lsub, 1) := by decide +kernel
theorem dX12_noWalk_70 : decode cX12_noWalk 70 = .ok (.invokestatic 154, 3) := by decide +kernel
theorem dX12_noWalk_73 : decode cX12_noWalk 73 = .ok (.ifCond .ne 6, 3) := by decide +kernel
theorem dX12_noWalk_76 : decode cX12_noWalk 76 = .ok (.bipush (-3), 2) := by decide +kernel
theorem dX12_noWalk_78 : decode cX12_noWalk 78 = .ok (.ireturn, 1) := by decide +kernel
theorem dX12_noWalk_79 : decode cX12_noWalk 79 = .ok (.iload_n 3, 1) := by decide +kernel
theorem dX12_noWalk_80 : decode cX12_noWalk 80 = .ok (.ifCond .le 31, 3) := by decide +kernel
theorem dX12_noWalk_83 : decode cX12_noWalk 83 = .ok (.aload_n 0, 1) := by decide +kernel
theorem dX12_noWalk_84 : decode cX12_noWalk 84 = .ok (.aload_n 0, 1) := by decide +kernel
theorem dX12_noWalk_85 : decode cX12_noWalk 85 = .ok (.iload_n 1, 1) := by decide +kernel
theorem dX12_noWalk_86 : decode cX12_noWalk 86 = .ok (.iload_n 3, 1) := by decide +kernel
theorem dX12_noWalk_87 : decode cX12_noWalk 87 = .ok (.iconst 1, 1) := by decide +kernel
theorem dX12_noWalk_88 : decode cX12_noWalk 88 = .ok (.isub, 1) := by decide +kernel
theorem dX12_noWalk_89 : decode cX12_noWalk 89 = .ok (.invokevirtual 404, 3) := by decide +kernel
theorem dX12_noWalk_92 : decode cX12_noWalk 92 = .ok (.invokevirtual 407, 3) := by decide +kernel
theorem dX12_noWalk_95 : decode cX12_noWalk 95 = .ok (.aload_n 0, 1) := by decide +kernel
theorem dX12_noWalk_96 : decode cX12_noWalk 96 = .ok (.aload_n 0, 1) := by decide +kernel
theorem dX12_noWalk_97 : decode cX12_noWalk 97 = .ok (.iload_n 1, 1) := by decide +kernel
theorem dX12_noWalk_98 : decode cX12_noWalk 98 = .ok (.iload_n 3, 1) := by decide +kernel
theorem dX12_noWalk_99 : decode cX12_noWalk 99 = .ok (.invokevirtual 404, 3) := by decide +kernel
theorem dX12_noWalk_102 : decode cX12_noWalk 102 = .ok (.invokevirtual 410, 3) := by decide +kernel
theorem dX12_noWalk_105 : decode cX12_noWalk 105 = .ok (.if_icmp .eq 6, 3) := by decide +kernel
theorem dX12_noWalk_108 : decode cX12_noWalk 108 = .ok (.bipush (-3), 2) := by decide +kernel
theorem dX12_noWalk_110 : decode cX12_noWalk 110 = .ok (.ireturn, 1) := by decide +kernel
theorem dX12_noWalk_111 : decode cX12_noWalk 111 = .ok (.iinc 3 1, 3) := by decide +kernel
theorem dX12_noWalk_114 : decode cX12_noWalk 114 = .ok (.goto (-80), 3) := by decide +kernel
theorem dX12_noWalk_117 : decode cX12_noWalk 117 = .ok (.iconst 0, 1) := by decide +kernel
theorem dX12_noWalk_118 : decode cX12_noWalk 118 = .ok (.ireturn, 1) := by decide +kernel
def hX12_noWalk_34 (f : Nat) (Φ : Int → aj_M → Prop) : Nat → List Nat → Int → Int → aj_M → Prop
  | 0, _, _, _, _ => False
  | k + 1, q0, v1, v3, m => (0 ≤ v1 ∧ v1 < 4) ∧ rI v3 ∧ rI (m (45 :: q0) v1.toNat) ∧ ((m (45 :: q0) v1.toNat) ≤ v3 → Φ 0 m) ∧ (¬ ((m (45 :: q0) v1.toNat) ≤ v3) → (0 ≤ ((40 * v1) + v3) ∧ ((40 * v1) + v3) < 160) ∧ rI (m (1 :: q0) (6 : Int).toNat) ∧ wX12_within f (fun z1 m1 => rI z1 ∧ (¬ z1 = 0 → rI v3 ∧ (v3 ≤ 0 → hX12_noWalk_34 f Φ k q0 v1 (v3 + 1) m1) ∧ (¬ (v3 ≤ 0) → wX12_stepAt f (fun z2 m2 => wX12_endOf f (fun z3 m3 => wX12_stepAt f (fun z4 m4 => wX12_beginOf f (fun z5 m5 => rI z3 ∧ rI z5 ∧ (z3 = z5 → hX12_noWalk_34 f Φ k q0 v1 (v3 + 1) m5) ∧ (¬ (z3 = z5) → Φ (-3) m5)) q0 z4 m4) q0 v1 v3 m3) q0 z2 m2) q0 v1 (v3 - 1) m1)) ∧ (z1 = 0 → Φ (-3) m1)) (m (46 :: q0) ((40 * v1) + v3).toNat) 0 ((2 * (m (1 :: q0) (6 : Int).toNat)) - 1) m)
set_option maxHeartbeats 4000000 in
set_option maxRecDepth 100000 in
theorem tX12_noWalk_34 {X : aj_T} {n f : Nat} {Φ : Int → aj_M → Prop} (C : aj_Cx X cX12_noWalk RX12 4 (n + 2)) (K : aj_Rt X (some .int) (fun r m => ∃ z, r = some (vI z) ∧ Φ z m)) : ∀ (k : Nat) (q0 : List Nat) (v1 : Int) (v3 : Int) (m : aj_M) (hq0 : (.inl (12, q0) : aj_R) ∈ aj_pls), hX12_noWalk_34 f Φ k q0 v1 v3 m → aj_J X 34 [some (vO 12 q0), some (vI v1), none, some (vI v3)] [] m := by
  intro k
  induction k with
  | zero =>
    intro q0 v1 v3 m _ h
    exact h.elim
  | succ k ih =>
    intro q0 v1 v3 m hq0 h
    unfold hX12_noWalk_34 at h
    refine aj_iload_n C dX12_noWalk_34 rfl ?_
    refine aj_aload_n C dX12_noWalk_35 rfl ?_
    refine aj_getA (x := 0) (y := 4) C flX12_81 hq0 rfl dX12_noWalk_36 ?_
    refine aj_iload_n C dX12_noWalk_39 rfl ?_
    obtain ⟨r0, h⟩ := h
    refine aj_iald C (aj_ca (e := 0) (n := 4) (j := 45) hq0 (by decide) rfl) (by decide) r0 dX12_noWalk_40 rfl ?_
    obtain ⟨r0, r1, h1, h2⟩ := h
    refine aj_icmp_ge (tgt := 117) C dX12_noWalk_41 (by decide) r0 r1 (fun e => ?_) (fun e => ?_)
    · have h := h1 e
      refine aj_iconst C dX12_noWalk_117 ?_
      exact aj_iret C K dX12_noWalk_118 ⟨_, rfl, h⟩
    · have h := h2 e
      refine aj_aload_n C dX12_noWalk_44 rfl ?_
      refine aj_getA (x := 3) (y := 160) C flX12_84 hq0 rfl dX12_noWalk_45 ?_
      refine aj_bipush C dX12_noWalk_48 (by decide) ?_
      refine aj_iload_n C dX12_noWalk_50 rfl ?_
      refine aj_imul C dX12_noWalk_51 ?_
      refine aj_iload_n C dX12_noWalk_52 rfl ?_
      refine aj_iadd C dX12_noWalk_53 ?_
      obtain ⟨r0, h⟩ := h
      refine aj_lald C (aj_ca (e := 3) (n := 160) (j := 46) hq0 (by decide) rfl) (by decide) r0 dX12_noWalk_54 rfl ?_
      refine aj_lconst (z := 0) C dX12_noWalk_55 rfl ?_
      refine aj_ldc2 (z := 2) C (wd2023) rfl dX12_noWalk_56 ?_
      refine aj_aload_n C dX12_noWalk_59 rfl ?_
      refine aj_getA (x := 0) (y := 3315) C flX12_13 hq0 rfl dX12_noWalk_60 ?_
      refine aj_bipush C dX12_noWalk_63 (by decide) ?_
      refine aj_iald C (aj_ca (e := 0) (n := 3315) (j := 1) hq0 (by decide) rfl) (by decide) (by decide) dX12_noWalk_65 rfl ?_
      obtain ⟨r0, h⟩ := h
      refine aj_i2l C dX12_noWalk_66 r0 ?_
      refine aj_lmul C dX12_noWalk_67 ?_
      refine aj_lconst (z := 1) C dX12_noWalk_68 rfl ?_
      refine aj_lsub C dX12_noWalk_69 ?_
      refine aj_callS (rest := []) C msX12_154 (sX12_within  h) (aj_np 3 (by decide +kernel) rfl) (Nat.le_of_ble_eq_true rfl) rfl dX12_noWalk_70 (fun r m1 h => ?_)
      obtain ⟨z1, rfl, h⟩ := h
      obtain ⟨r0, h1, h2⟩ := h
      refine aj_if_ne (tgt := 79) C dX12_noWalk_73 (by decide) r0 (fun e => ?_) (fun e => ?_)
      · have h := h1 e
        refine aj_iload_n C dX12_noWalk_79 rfl ?_
        obtain ⟨r0, h1, h2⟩ := h
        refine aj_if_le (tgt := 111) C dX12_noWalk_80 (by decide) r0 (fun e => ?_) (fun e => ?_)
        · have h := h1 e
          refine aj_iinc (lv' := [some (vO 12 q0), some (vI v1), none, some (vI (v3 + 1))]) C dX12_noWalk_111 rfl (by decide) rfl ?_
          refine aj_goto (tgt := 34) C dX12_noWalk_114 (by decide) ?_
          exact ih q0 v1 (v3 + 1) _ hq0 h
        · have h := h2 e
          refine aj_aload_n C dX12_noWalk_83 rfl ?_
          refine aj_aload_n C dX12_noWalk_84 rfl ?_
          refine aj_iload_n C dX12_noWalk_85 rfl ?_
          refine aj_iload_n C dX12_noWalk_86 rfl ?_
          refine aj_iconst C dX12_noWalk_87 ?_
          refine aj_isub C dX12_noWalk_88 ?_
          refine aj_callV (rest := [vO 12 q0]) C mvX12_404 (sX12_stepAt hq0 h) hq0 (aj_np 2 (by decide +kernel) rfl) (Nat.le_of_ble_eq_true rfl) rfl dX12_noWalk_89 (fun r m2 h => ?_)
          obtain ⟨z2, rfl, h⟩ := h
          refine aj_callV (rest := []) C mvX12_407 (sX12_endOf hq0 h) hq0 (aj_np 1 (by decide +kernel) rfl) (Nat.le_of_ble_eq_true rfl) rfl dX12_noWalk_92 (fun r m3 h => ?_)
          obtain ⟨z3, rfl, h⟩ := h
          refine aj_aload_n C dX12_noWalk_95 rfl ?_
          refine aj_aload_n C dX12_noWalk_96 rfl ?_
          refine aj_iload_n C dX12_noWalk_97 rfl ?_
          refine aj_iload_n C dX12_noWalk_98 rfl ?_
          refine aj_callV (rest := [vO 12 q0, vI z3]) C mvX12_404 (sX12_stepAt hq0 h) hq0 (aj_np 2 (by decide +kernel) rfl) (Nat.le_of_ble_eq_true rfl) rfl dX12_noWalk_99 (fun r m4 h => ?_)
          obtain ⟨z4, rfl, h⟩ := h
          refine aj_callV (rest := [vI z3]) C mvX12_410 (sX12_beginOf hq0 h) hq0 (aj_np 1 (by decide +kernel) rfl) (Nat.le_of_ble_eq_true rfl) rfl dX12_noWalk_102 (fun r m5 h => ?_)
          obtain ⟨z5, rfl, h⟩ := h
          obtain ⟨r0, r1, h1, h2⟩ := h
          refine aj_icmp_eq (tgt := 111) C dX12_noWalk_105 (by decide) r0 r1 (fun e => ?_) (fun e => ?_)
          · have h := h1 e
            refine aj_iinc (lv' := [some (vO 12 q0), some (vI v1), none, some (vI (v3 + 1))]) C dX12_noWalk_111 rfl (by decide) rfl ?_
            refine aj_goto (tgt := 34) C dX12_noWalk_114 (by decide) ?_
            exact ih q0 v1 (v3 + 1) _ hq0 h
          · have h := h2 e
            refine aj_bipush C dX12_noWalk_108 (by decide) ?_
            exact aj_iret C K dX12_noWalk_110 ⟨_, rfl, h⟩
      · have h := h2 e
        refine aj_bipush C dX12_noWalk_76 (by decide) ?_
        exact aj_iret C K dX12_noWalk_78 ⟨_, rfl, h⟩
def wX12_noWalk (f : Nat) (Φ : Int → aj_M → Prop) (q0 : List Nat) (v1 : Int) (m : aj_M) : Prop := wX12_noTray f (fun z1 m1 => rI z1 ∧ (z1 = 0 → (0 ≤ v1 ∧ v1 < 4) ∧ rI (m1 (45 :: q0) v1.toNat) ∧ wX12_within f (fun z2 m2 => rI z2 ∧ (¬ z2 = 0 → hX12_noWalk_34 f Φ f q0 v1 0 m2) ∧ (z2 = 0 → Φ (-4) m2)) (m1 (45 :: q0) v1.toNat) 1 12 m1) ∧ (¬ (z1 = 0) → Φ z1 m1)) q0 v1 m
set_option maxHeartbeats 4000000 in
set_option maxRecDepth 100000 in
theorem sX12_noWalk {n f : Nat} {Φ : Int → aj_M → Prop} {q0 : List Nat} {v1 : Int} {m : aj_M} (hq0 : (.inl (12, q0) : aj_R) ∈ aj_pls) (h : wX12_noWalk f Φ q0 v1 m) : aj_Ct (n + 2) yX12_noWalk cX12_noWalk 4 (some .int) [vO 12 q0, vI v1] m (fun r m => ∃ z, r = some (vI z) ∧ Φ z m) := by
  refine aj_met (lv := [some (vO 12 q0), some (vI v1), none, none]) (by decide +kernel) rfl (Nat.le_of_ble_eq_true rfl) (fun X C K => ?_)
  unfold wX12_noWalk at h
  refine aj_aload_n C dX12_noWalk_0 rfl ?_
  refine aj_iload_n C dX12_noWalk_1 rfl ?_
  refine aj_callV (rest := []) C mvX12_330 (sX12_noTray hq0 h) hq0 (aj_np 1 (by decide +kernel) rfl) (Nat.le_of_ble_eq_true rfl) rfl dX12_noWalk_2 (fun r m1 h => ?_)
  obtain ⟨z1, rfl, h⟩ := h
  refine aj_istore_n (lv' := [some (vO 12 q0), some (vI v1), some (vI z1), none]) C dX12_noWalk_5 (by decide) rfl ?_
  refine aj_iload_n C dX12_noWalk_6 rfl ?_
  obtain ⟨r0, h1, h2⟩ := h
  refine aj_if_eq (tgt := 12) C dX12_noWalk_7 (by decide) r0 (fun e => ?_) (fun e => ?_)
  · have h := h1 e
    refine aj_aload_n C dX12_noWalk_12 rfl ?_
    refine aj_getA (x := 0) (y := 4) C flX12_81 hq0 rfl dX12_noWalk_13 ?_
    refine aj_iload_n C dX12_noWalk_16 rfl ?_
    obtain ⟨r0, h⟩ := h
    refine aj_iald C (aj_ca (e := 0) (n := 4) (j := 45) hq0 (by decide) rfl) (by decide) r0 dX12_noWalk_17 rfl ?_
    obtain ⟨r0, h⟩ := h
    refine aj_i2l C dX12_noWalk_18 r0 ?_
    refine aj_lconst (z := 1) C dX12_noWalk_19 rfl ?_
    refine aj_ldc2 (z := 12) C (wd2024) rfl dX12_noWalk_20 ?_
    refine aj_callS (rest := []) C msX12_154 (sX12_within  h) (aj_np 3 (by decide +kernel) rfl) (Nat.le_of_ble_eq_true rfl) rfl dX12_noWalk_23 (fun r m2 h => ?_)
    obtain ⟨z2, rfl, h⟩ := h
    obtain ⟨r0, h1, h2⟩ := h
    refine aj_if_ne (tgt := 32) C dX12_noWalk_26 (by decide) r0 (fun e => ?_) (fun e => ?_)
    · have h := h1 e
      refine aj_iconst C dX12_noWalk_32 ?_
      refine aj_istore_n (lv' := [some (vO 12 q0), some (vI v1), some (vI z1), some (vI 0)]) C dX12_noWalk_33 (by decide) rfl ?_
      refine aj_wk (lv' := [some (vO 12 q0), some (vI v1), none, some (vI 0)]) (⟨rfl, ⟨rfl, ⟨rfl, trivial⟩⟩⟩) ?_
      exact tX12_noWalk_34 C K f q0 v1 0 _ hq0 h
    · have h := h2 e
      refine aj_bipush C dX12_noWalk_29 (by decide) ?_
      exact aj_iret C K dX12_noWalk_31 ⟨_, rfl, h⟩
  · have h := h2 e
    refine aj_iload_n C dX12_noWalk_10 rfl ?_
    exact aj_iret C K dX12_noWalk_11 ⟨_, rfl, h⟩
theorem dX12_gathered_0 : decode cX12_gathered 0 = .ok (.iconst 0, 1) := by decide +kernel
theorem dX12_gathered_1 : decode cX12_gathered 1 = .ok (.istore_n 2, 1) := by decide +kernel
theorem dX12_gathered_2 : decode cX12_gathered 2 = .ok (.iconst 0, 1) := by decide +kernel
theorem dX12_gathered_3 : decode cX12_gathered 3 = .ok (.istore_n 3, 1) := by decide +kernel
theorem dX12_gathered_4 : decode cX12_gathered 4 = .ok (.iload_n 3, 1) := by decide +kernel
theorem dX12_gathered_5 : decode cX12_gathered 5 = .ok (.aload_n 0, 1) := by decide +kernel
theorem dX12_gathered_6 : decode cX12_gathered 6 = .ok (.getfield 81, 3) := by decide +kernel
theorem dX12_gathered_9 : decode cX12_gathered 9 = .ok (.iload_n 1, 1) := by decide +kernel
theorem dX12_gathered_10 : decode cX12_gathered 10 = .ok (.iaload, 1) := by decide +kernel
theorem dX12_gathered_11 : decode cX12_gathered 11 = .ok (.if_icmp .ge 55, 3) := by decide +kernel
theorem dX12_gathered_14 : decode cX12_gathered 14 = .ok (.aload_n 0, 1) := by decide +kernel
theorem dX12_gathered_15 : decode cX12_gathered 15 = .ok (.iload_n 1, 1) := by decide +kernel
theorem dX12_gathered_16 : decode cX12_gathered 16 = .ok (.iload_n 3, 1) := by decide +kernel
theorem dX12_gathered_17 : decode cX12_gathered 17 = .ok (.invokevirtual 404, 3) := by decide +kernel
theorem dX12_gathered_20 : decode cX12_gathered 20 = .ok (.istore 4, 2) := by decide +kernel
theorem dX12_gathered_22 : decode cX12_gathered 22 = .ok (.aload_n 0, 1) := by decide +kernel
theorem dX12_gathered_23 : decode cX12_gathered 23 = .ok (.getfield 13, 3) := by decide +kernel
theorem dX12_gathered_26 : decode cX12_gathered 26 = .ok (.bipush 49, 2) := by decide +kernel
theorem dX12_gathered_28 : decode cX12_gathered 28 = .ok (.iload 4, 2) := by decide +kernel
theorem dX12_gathered_30 : decode cX12_gathered 30 = .ok (.iconst 2, 1) := by decide +kernel
theorem dX12_gathered_31 : decode cX12_gathered 31 = .ok (.idiv, 1) := by decide +kernel
theorem dX12_gathered_32 : decode cX12_gathered 32 = .ok (.iadd, 1) := by decide +kernel
theorem dX12_gathered_33 : decode cX12_gathered 33 = .ok (.iaload, 1) := by decide +kernel
theorem dX12_gathered_34 : decode cX12_gathered 34 = .ok (.istore 5, 2) := by decide +kernel
theorem dX12_gathered_36 : decode cX12_gathered 36 = .ok (.aload_n 0, 1) := by decide +kernel
theorem dX12_gathered_37 : decode cX12_gathered 37 = .ok (.iload_n 2, 1) := by decide +kernel
theorem dX12_gathered_38 : decode cX12_gathered 38 = .ok (.iload 4, 2) := by decide +kernel
theorem dX12_gathered_40 : decode cX12_gathered 40 = .ok (.iconst 2, 1) := by decide +kernel
theorem dX12_gathered_41 : decode cX12_gathered 41 = .ok (.irem, 1) := by decide +kernel
theorem dX12_gathered_42 : decode cX12_gathered 42 = .ok (.ifCond .ne 8, 3) := by decide +kernel
theorem dX12_gathered_45 : decode cX12_gathered 45 = .ok (.iload 5, 2) := by decide +kernel
theorem dX12_gathered_47 : decode cX12_gathered 47 = .ok (.goto 9, 3) := by decide +kernel
theorem dX12_gathered_50 : decode cX12_gathered 50 = .ok (.aload_n 0, 1) := by decide +kernel
theorem dX12_gathered_51 : decode cX12_gathered 51 = .ok (.iload 5, 2) := by decide +kernel
theorem dX12_gathered_53 : decode cX12_gathered 53 = .ok (.invokevirtual 209, 3) := by decide +kernel
theorem dX12_gathered_56 : decode cX12_gathered 56 = .ok (.invokevirtual 202, 3) := by decide +kernel
theorem dX12_gathered_59 : decode cX12_gathered 59 = .ok (.istore_n 2, 1) := by decide +kernel
theorem dX12_gathered_60 : decode cX12_gathered 60 = .ok (.iinc 3 1, 3) := by decide +kernel
theorem dX12_gathered_63 : decode cX12_gathered 63 = .ok (.goto (-59), 3) := by decide +kernel
theorem dX12_gathered_66 : decode cX12_gathered 66 = .ok (.iload_n 2, 1) := by decide +kernel
theorem dX12_gathered_67 : decode cX12_gathered 67 = .ok (.ireturn, 1) := by decide +kernel
def hX12_gathered_4 (f : Nat) (Φ : Int → aj_M → Prop) : Nat → List Nat → Int → Int → Int → aj_M → Prop
  | 0, _, _, _, _, _ => False
  | k + 1, q0, v1, v2, v3, m => (0 ≤ v1 ∧ v1 < 4) ∧ rI v3 ∧ rI (m (45 :: q0) v1.toNat) ∧ ((m (45 :: q0) v1.toNat) ≤ v3 → Φ v2 m) ∧ (¬ ((m (45 :: q0) v1.toNat) ≤ v3) → wX12_stepAt f (fun z1 m1 => (0 ≤ z1 ∧ z1 < 2147483648) ∧ (0 ≤ (49 + (z1 / 2)) ∧ (49 + (z1 / 2)) < 3315) ∧ (0 ≤ z1 ∧ z1 < 2147483648) ∧ rI (z1 % 2) ∧ (¬ (z1 % 2) = 0 → wX12_inverseOf f (fun z2 m2 => wX12_timesNow f (fun z3 m3 => hX12_gathered_4 f Φ k q0 v1 z3 (v3 + 1) m3) q0 v2 z2 m2) q0 (m1 (1 :: q0) (49 + (z1 / 2)).toNat) m1) ∧ ((z1 % 2) = 0 → wX12_timesNow f (fun z4 m4 => hX12_gathered_4 f Φ k q0 v1 z4 (v3 + 1) m4) q0 v2 (m1 (1 :: q0) (49 + (z1 / 2)).toNat) m1)) q0 v1 v3 m)
set_option maxHeartbeats 4000000 in
set_option maxRecDepth 100000 in
theorem tX12_gathered_4 {X : aj_T} {n f : Nat} {Φ : Int → aj_M → Prop} (C : aj_Cx X cX12_gathered RX12 6 (n + 5)) (K : aj_Rt X (some .int) (fun r m => ∃ z, r = some (vI z) ∧ Φ z m)) : ∀ (k : Nat) (q0 : List Nat) (v1 : Int) (v2 : Int) (v3 : Int) (m : aj_M) (hq0 : (.inl (12, q0) : aj_R) ∈ aj_pls), hX12_gathered_4 f Φ k q0 v1 v2 v3 m → aj_J X 4 [some (vO 12 q0), some (vI v1), some (vI v2), some (vI v3), none, none] [] m := by
  intro k
  induction k with
  | zero =>
    intro q0 v1 v2 v3 m _ h
    exact h.elim
  | succ k ih =>
    intro q0 v1 v2 v3 m hq0 h
    unfold hX12_gathered_4 at h
    refine aj_iload_n C dX12_gathered_4 rfl ?_
    refine aj_aload_n C dX12_gathered_5 rfl ?_
    refine aj_getA (x := 0) (y := 4) C flX12_81 hq0 rfl dX12_gathered_6 ?_
    refine aj_iload_n C dX12_gathered_9 rfl ?_
    obtain ⟨r0, h⟩ := h
    refine aj_iald C (aj_ca (e := 0) (n := 4) (j := 45) hq0 (by decide) rfl) (by decide) r0 dX12_gathered_10 rfl ?_
    obtain ⟨r0, r1, h1, h2⟩ := h
    refine aj_icmp_ge (tgt := 66) C dX12_gathered_11 (by decide) r0 r1 (fun e => ?_) (fun e => ?_)
    · have h := h1 e
      refine aj_iload_n C dX12_gathered_66 rfl ?_
      exact aj_iret C K dX12_gathered_67 ⟨_, rfl, h⟩
    · have h := h2 e
      refine aj_aload_n C dX12_gathered_14 rfl ?_
      refine aj_iload_n C dX12_gathered_15 rfl ?_
      refine aj_iload_n C dX12_gathered_16 rfl ?_
      refine aj_callV (rest := []) C mvX12_404 (sX12_stepAt hq0 h) hq0 (aj_np 2 (by decide +kernel) rfl) (Nat.le_of_ble_eq_true rfl) rfl dX12_gathered_17 (fun r m1 h => ?_)
      obtain ⟨z1, rfl, h⟩ := h
      refine aj_istore (lv' := [some (vO 12 q0), some (vI v1), some (vI v2), some (vI v3), some (vI z1), none]) C dX12_gathered_20 (by decide) rfl ?_
      refine aj_aload_n C dX12_gathered_22 rfl ?_
      refine aj_getA (x := 0) (y := 3315) C flX12_13 hq0 rfl dX12_gathered_23 ?_
      refine aj_bipush C dX12_gathered_26 (by decide) ?_
      refine aj_iload C dX12_gathered_28 rfl ?_
      refine aj_iconst C dX12_gathered_30 ?_
      obtain ⟨r0, h⟩ := h
      refine aj_idivN C dX12_gathered_31 r0 (by decide) ?_
      refine aj_iadd C dX12_gathered_32 ?_
      obtain ⟨r0, h⟩ := h
      refine aj_iald C (aj_ca (e := 0) (n := 3315) (j := 1) hq0 (by decide) rfl) (by decide) r0 dX12_gathered_33 rfl ?_
      refine aj_istore (lv' := [some (vO 12 q0), some (vI v1), some (vI v2), some (vI v3), some (vI z1), some (vI (m1 (1 :: q0) (49 + (z1 / 2)).toNat))]) C dX12_gathered_34 (by decide) rfl ?_
      refine aj_aload_n C dX12_gathered_36 rfl ?_
      refine aj_iload_n C dX12_gathered_37 rfl ?_
      refine aj_iload C dX12_gathered_38 rfl ?_
      refine aj_iconst C dX12_gathered_40 ?_
      obtain ⟨r0, h⟩ := h
      refine aj_iremN C dX12_gathered_41 r0 (by decide) ?_
      obtain ⟨r0, h1, h2⟩ := h
      refine aj_if_ne (tgt := 50) C dX12_gathered_42 (by decide) r0 (fun e => ?_) (fun e => ?_)
      · have h := h1 e
        refine aj_aload_n C dX12_gathered_50 rfl ?_
        refine aj_iload C dX12_gathered_51 rfl ?_
        refine aj_callV (rest := [vI v2, vO 12 q0]) C mvX12_209 (sX12_inverseOf hq0 h) hq0 (aj_np 1 (by decide +kernel) rfl) (Nat.le_of_ble_eq_true rfl) rfl dX12_gathered_53 (fun r m2 h => ?_)
        obtain ⟨z2, rfl, h⟩ := h
        refine aj_callV (rest := []) C mvX12_202 (sX12_timesNow hq0 h) hq0 (aj_np 2 (by decide +kernel) rfl) (Nat.le_of_ble_eq_true rfl) rfl dX12_gathered_56 (fun r m3 h => ?_)
        obtain ⟨z3, rfl, h⟩ := h
        refine aj_istore_n (lv' := [some (vO 12 q0), some (vI v1), some (vI z3), some (vI v3), some (vI z1), some (vI (m1 (1 :: q0) (49 + (z1 / 2)).toNat))]) C dX12_gathered_59 (by decide) rfl ?_
        refine aj_iinc (lv' := [some (vO 12 q0), some (vI v1), some (vI z3), some (vI (v3 + 1)), some (vI z1), some (vI (m1 (1 :: q0) (49 + (z1 / 2)).toNat))]) C dX12_gathered_60 rfl (by decide) rfl ?_
        refine aj_goto (tgt := 4) C dX12_gathered_63 (by decide) ?_
        refine aj_wk (lv' := [some (vO 12 q0), some (vI v1), some (vI z3), some (vI (v3 + 1)), none, none]) (⟨rfl, ⟨rfl, ⟨rfl, ⟨rfl, trivial⟩⟩⟩⟩) ?_
        exact ih q0 v1 z3 (v3 + 1) _ hq0 h
      · have h := h2 e
        refine aj_iload C dX12_gathered_45 rfl ?_
        refine aj_goto (tgt := 56) C dX12_gathered_47 (by decide) ?_
        refine aj_callV (rest := []) C mvX12_202 (sX12_timesNow hq0 h) hq0 (aj_np 2 (by decide +kernel) rfl) (Nat.le_of_ble_eq_true rfl) rfl dX12_gathered_56 (fun r m4 h => ?_)
        obtain ⟨z4, rfl, h⟩ := h
        refine aj_istore_n (lv' := [some (vO 12 q0), some (vI v1), some (vI z4), some (vI v3), some (vI z1), some (vI (m1 (1 :: q0) (49 + (z1 / 2)).toNat))]) C dX12_gathered_59 (by decide) rfl ?_
        refine aj_iinc (lv' := [some (vO 12 q0), some (vI v1), some (vI z4), some (vI (v3 + 1)), some (vI z1), some (vI (m1 (1 :: q0) (49 + (z1 / 2)).toNat))]) C dX12_gathered_60 rfl (by decide) rfl ?_
        refine aj_goto (tgt := 4) C dX12_gathered_63 (by decide) ?_
        refine aj_wk (lv' := [some (vO 12 q0), some (vI v1), some (vI z4), some (vI (v3 + 1)), none, none]) (⟨rfl, ⟨rfl, ⟨rfl, ⟨rfl, trivial⟩⟩⟩⟩) ?_
        exact ih q0 v1 z4 (v3 + 1) _ hq0 h
def wX12_gathered (f : Nat) (Φ : Int → aj_M → Prop) (q0 : List Nat) (v1 : Int) (m : aj_M) : Prop := hX12_gathered_4 f Φ f q0 v1 0 0 m
set_option maxHeartbeats 4000000 in
set_option maxRecDepth 100000 in
theorem sX12_gathered {n f : Nat} {Φ : Int → aj_M → Prop} {q0 : List Nat} {v1 : Int} {m : aj_M} (hq0 : (.inl (12, q0) : aj_R) ∈ aj_pls) (h : wX12_gathered f Φ q0 v1 m) : aj_Ct (n + 5) yX12_gathered cX12_gathered 6 (some .int) [vO 12 q0, vI v1] m (fun r m => ∃ z, r = some (vI z) ∧ Φ z m) := by
  refine aj_met (lv := [some (vO 12 q0), some (vI v1), none, none, none, none]) (by decide +kernel) rfl (Nat.le_of_ble_eq_true rfl) (fun X C K => ?_)
  unfold wX12_gathered at h
  refine aj_iconst C dX12_gathered_0 ?_
  refine aj_istore_n (lv' := [some (vO 12 q0), some (vI v1), some (vI 0), none, none, none]) C dX12_gathered_1 (by decide) rfl ?_
  refine aj_iconst C dX12_gathered_2 ?_
  refine aj_istore_n (lv' := [some (vO 12 q0), some (vI v1), some (vI 0), some (vI 0), none, none]) C dX12_gathered_3 (by decide) rfl ?_
  exact tX12_gathered_4 C K f q0 v1 0 0 _ hq0 h
theorem dX12_walk_0 : decode cX12_walk 0 = .ok (.aload_n 0, 1) := by decide +kernel
theorem dX12_walk_1 : decode cX12_walk 1 = .ok (.iconst 0, 1) := by decide +kernel
theorem dX12_walk_2 : decode cX12_walk 2 = .ok (.putfield 1, 3) := by decide +kernel
theorem dX12_walk_5 : decode cX12_walk 5 = .ok (.aload_n 0, 1) := by decide +kernel
theorem dX12_walk_6 : decode cX12_walk 6 = .ok (.iload_n 1, 1) := by decide +kernel
theorem dX12_walk_7 : decode cX12_walk 7 = .ok (.invokevirtual 413, 3) := by decide +kernel
theorem dX12_walk_10 : decode cX12_walk 10 = .ok (.istore_n 2, 1) := by decide +kernel
theorem dX12_walk_11 : decode cX12_walk 11 = .ok (.iload_n 2, 1) := by decide +kernel
theorem dX12_walk_12 : decode cX12_walk 12 = .ok (.ifCond .eq 7, 3) := by decide +kernel
theorem dX12_walk_15 : decode cX12_walk 15 = .ok (.iload_n 2, 1) := by decide +kernel
theorem dX12_walk_16 : decode cX12_walk 16 = .ok (.goto 8, 3) := by decide +kernel
theorem dX12_walk_19 : decode cX12_walk 19 = .ok (.aload_n 0, 1) := by decide +kernel
theorem dX12_walk_20 : decode cX12_walk 20 = .ok (.iload_n 1, 1) := by decide +kernel
theorem dX12_walk_21 : decode cX12_walk 21 = .ok (.invokevirtual 416, 3) := by decide +kernel
theorem dX12_walk_24 : decode cX12_walk 24 = .ok (.ireturn, 1) := by decide +kernel
def wX12_walk (f : Nat) (Φ : Int → aj_M → Prop) (q0 : List Nat) (v1 : Int) (m : aj_M) : Prop := ∀ m1, m1 = aj_u m q0 0 0 → wX12_noWalk f (fun z1 m2 => rI z1 ∧ (z1 = 0 → wX12_gathered f (fun z2 m3 => Φ z2 m3) q0 v1 m2) ∧ (¬ (z1 = 0) → Φ z1 m2)) q0 v1 m1
set_option maxHeartbeats 4000000 in
set_option maxRecDepth 100000 in
theorem sX12_walk {n f : Nat} {Φ : Int → aj_M → Prop} {q0 : List Nat} {v1 : Int} {m : aj_M} (hq0 : (.inl (12, q0) : aj_R) ∈ aj_pls) (h : wX12_walk f Φ q0 v1 m) : aj_Ct (n + 6) yX12_walk cX12_walk 3 (some .int) [vO 12 q0, vI v1] m (fun r m => ∃ z, r = some (vI z) ∧ Φ z m) := by
  refine aj_met (lv := [some (vO 12 q0), some (vI v1), none]) (by decide +kernel) rfl (Nat.le_of_ble_eq_true rfl) (fun X C K => ?_)
  unfold wX12_walk at h
  refine aj_aload_n C dX12_walk_0 rfl ?_
  refine aj_iconst C dX12_walk_1 ?_
  refine aj_putI C fpX12_1 hq0 rfl dX12_walk_2 ?_
  refine aj_nm (fun m1 e1 => ?_)
  have h := h m1 e1
  refine aj_aload_n C dX12_walk_5 rfl ?_
  refine aj_iload_n C dX12_walk_6 rfl ?_
  refine aj_callV (rest := []) C mvX12_413 (sX12_noWalk hq0 h) hq0 (aj_np 1 (by decide +kernel) rfl) (Nat.le_of_ble_eq_true rfl) rfl dX12_walk_7 (fun r m2 h => ?_)
  obtain ⟨z1, rfl, h⟩ := h
  refine aj_istore_n (lv' := [some (vO 12 q0), some (vI v1), some (vI z1)]) C dX12_walk_10 (by decide) rfl ?_
  refine aj_iload_n C dX12_walk_11 rfl ?_
  obtain ⟨r0, h1, h2⟩ := h
  refine aj_if_eq (tgt := 19) C dX12_walk_12 (by decide) r0 (fun e => ?_) (fun e => ?_)
  · have h := h1 e
    refine aj_aload_n C dX12_walk_19 rfl ?_
    refine aj_iload_n C dX12_walk_20 rfl ?_
    refine aj_callV (rest := []) C mvX12_416 (sX12_gathered hq0 h) hq0 (aj_np 1 (by decide +kernel) rfl) (Nat.le_of_ble_eq_true rfl) rfl dX12_walk_21 (fun r m3 h => ?_)
    obtain ⟨z2, rfl, h⟩ := h
    exact aj_iret C K dX12_walk_24 ⟨_, rfl, h⟩
  · have h := h2 e
    refine aj_iload_n C dX12_walk_15 rfl ?_
    refine aj_goto (tgt := 24) C dX12_walk_16 (by decide) ?_
    exact aj_iret C K dX12_walk_24 ⟨_, rfl, h⟩
theorem dX12_lifted_0 : decode cX12_lifted 0 = .ok (.aload_n 0, 1) := by decide +kernel
theorem dX12_lifted_1 : decode cX12_lifted 1 = .ok (.iconst 0, 1) := by decide +kernel
theorem dX12_lifted_2 : decode cX12_lifted 2 = .ok (.putfield 1, 3) := by decide +kernel
theorem dX12_lifted_5 : decode cX12_lifted 5 = .ok (.aload_n 0, 1) := by decide +kernel
theorem dX12_lifted_6 : decode cX12_lifted 6 = .ok (.iload_n 1, 1) := by decide +kernel
theorem dX12_lifted_7 : decode cX12_lifted 7 = .ok (.invokevirtual 413, 3) := by decide +kernel
theorem dX12_lifted_10 : decode cX12_lifted 10 = .ok (.istore_n 2, 1) := by decide +kernel
theorem dX12_lifted_11 : decode cX12_lifted 11 = .ok (.iload_n 2, 1) := by decide +kernel
theorem dX12_lifted_12 : decode cX12_lifted 12 = .ok (.ifCond .eq 5, 3) := by decide +kernel
theorem dX12_lifted_15 : decode cX12_lifted 15 = .ok (.iload_n 2, 1) := by decide +kernel
theorem dX12_lifted_16 : decode cX12_lifted 16 = .ok (.ireturn, 1) := by decide +kernel
theorem dX12_lifted_17 : decode cX12_lifted 17 = .ok (.aload_n 0, 1) := by decide +kernel
theorem dX12_lifted_18 : decode cX12_lifted 18 = .ok (.getfield 81, 3) := by decide +kernel
theorem dX12_lifted_21 : decode cX12_lifted 21 = .ok (.iload_n 1, 1) := by decide +kernel
theorem dX12_lifted_22 : decode cX12_lifted 22 = .ok (.iaload, 1) := by decide +kernel
theorem dX12_lifted_23 : decode cX12_lifted 23 = .ok (.istore_n 3, 1) := by decide +kernel
theorem dX12_lifted_24 : decode cX12_lifted 24 = .ok (.aload_n 0, 1) := by decide +kernel
theorem dX12_lifted_25 : decode cX12_lifted 25 = .ok (.aload_n 0, 1) := by decide +kernel
theorem dX12_lifted_26 : decode cX12_lifted 26 = .ok (.iload_n 1, 1) := by decide +kernel
theorem dX12_lifted_27 : decode cX12_lifted 27 = .ok (.iload_n 3, 1) := by decide +kernel
theorem dX12_lifted_28 : decode cX12_lifted 28 = .ok (.iconst 1, 1) := by decide +kernel
theorem dX12_lifted_29 : decode cX12_lifted 29 = .ok (.isub, 1) := by decide +kernel
theorem dX12_lifted_30 : decode cX12_lifted 30 = .ok (.invokevirtual 404, 3) := by decide +kernel
theorem dX12_lifted_33 : decode cX12_lifted 33 = .ok (.invokevirtual 407, 3) := by decide +kernel
theorem dX12_lifted_36 : decode cX12_lifted 36 = .ok (.aload_n 0, 1) := by decide +kernel
theorem dX12_lifted_37 : decode cX12_lifted 37 = .ok (.aload_n 0, 1) := by decide +kernel
theorem dX12_lifted_38 : decode cX12_lifted 38 = .ok (.iload_n 1, 1) := by decide +kernel
theorem dX12_lifted_39 : decode cX12_lifted 39 = .ok (.iconst 0, 1) := by decide +kernel
theorem dX12_lifted_40 : decode cX12_lifted 40 = .ok (.invokevirtual 404, 3) := by decide +kernel
theorem dX12_lifted_43 : decode cX12_lifted 43 = .ok (.invokevirtual 410, 3) := by decide +kernel
theorem dX12_lifted_46 : decode cX12_lifted 46 = .ok (.if_icmp .ne 20, 3) := by decide +kernel
theorem dX12_lifted_49 : decode cX12_lifted 49 = .ok (.iload_n 3, 1) := by decide +kernel
theorem dX12_lifted_50 : decode cX12_lifted 50 = .ok (.aload_n 0, 1) := by decide +kernel
theorem dX12_lifted_51 : decode cX12_lifted 51 = .ok (.getfield 13, 3) := by decide +kernel
theorem dX12_lifted_54 : decode cX12_lifted 54 = .ok (.aload_n 0, 1) := by decide +kernel
theorem dX12_lifted_55 : decode cX12_lifted 55 = .ok (.iload_n 1, 1) := by decide +kernel
theorem dX12_lifted_56 : decode cX12_lifted 56 = .ok (.invokevirtual 416, 3) := by decide +kernel
theorem dX12_lifted_59 : decode cX12_lifted 59 = .ok (.invokestatic 212, 3) := by decide +kernel
theorem dX12_lifted_62 : decode cX12_lifted 62 = .ok (.imul, 1) := by decide +kernel
theorem dX12_lifted_63 : decode cX12_lifted 63 = .ok (.goto 4, 3) := by decide +kernel
theorem dX12_lifted_66 : decode cX12_lifted 66 = .ok (.iconst (-1), 1) := by decide +kernel
theorem dX12_lifted_67 : decode cX12_lifted 67 = .ok (.ireturn, 1) := by decide +kernel
def wX12_lifted (f : Nat) (Φ : Int → aj_M → Prop) (q0 : List Nat) (v1 : Int) (m : aj_M) : Prop := ∀ m1, m1 = aj_u m q0 0 0 → wX12_noWalk f (fun z1 m2 => rI z1 ∧ (z1 = 0 → (0 ≤ v1 ∧ v1 < 4) ∧ wX12_stepAt f (fun z2 m3 => wX12_endOf f (fun z3 m4 => wX12_stepAt f (fun z4 m5 => wX12_beginOf f (fun z5 m6 => rI z3 ∧ rI z5 ∧ (¬ z3 = z5 → Φ (-1) m6) ∧ (z3 = z5 → wX12_gathered f (fun z6 m7 => wX12_ordersOf f (fun z7 m8 => Φ ((m2 (45 :: q0) v1.toNat) * z7) m8) 3315 (1 :: q0) z6 m7) q0 v1 m6)) q0 z4 m5) q0 v1 0 m4) q0 z2 m3) q0 v1 ((m2 (45 :: q0) v1.toNat) - 1) m2) ∧ (¬ (z1 = 0) → Φ z1 m2)) q0 v1 m1
set_option maxHeartbeats 4000000 in
set_option maxRecDepth 100000 in
theorem sX12_lifted {n f : Nat} {Φ : Int → aj_M → Prop} {q0 : List Nat} {v1 : Int} {m : aj_M} (hq0 : (.inl (12, q0) : aj_R) ∈ aj_pls) (h : wX12_lifted f Φ q0 v1 m) : aj_Ct (n + 6) yX12_lifted cX12_lifted 4 (some .int) [vO 12 q0, vI v1] m (fun r m => ∃ z, r = some (vI z) ∧ Φ z m) := by
  refine aj_met (lv := [some (vO 12 q0), some (vI v1), none, none]) (by decide +kernel) rfl (Nat.le_of_ble_eq_true rfl) (fun X C K => ?_)
  unfold wX12_lifted at h
  refine aj_aload_n C dX12_lifted_0 rfl ?_
  refine aj_iconst C dX12_lifted_1 ?_
  refine aj_putI C fpX12_1 hq0 rfl dX12_lifted_2 ?_
  refine aj_nm (fun m1 e1 => ?_)
  have h := h m1 e1
  refine aj_aload_n C dX12_lifted_5 rfl ?_
  refine aj_iload_n C dX12_lifted_6 rfl ?_
  refine aj_callV (rest := []) C mvX12_413 (sX12_noWalk hq0 h) hq0 (aj_np 1 (by decide +kernel) rfl) (Nat.le_of_ble_eq_true rfl) rfl dX12_lifted_7 (fun r m2 h => ?_)
  obtain ⟨z1, rfl, h⟩ := h
  refine aj_istore_n (lv' := [some (vO 12 q0), some (vI v1), some (vI z1), none]) C dX12_lifted_10 (by decide) rfl ?_
  refine aj_iload_n C dX12_lifted_11 rfl ?_
  obtain ⟨r0, h1, h2⟩ := h
  refine aj_if_eq (tgt := 17) C dX12_lifted_12 (by decide) r0 (fun e => ?_) (fun e => ?_)
  · have h := h1 e
    refine aj_aload_n C dX12_lifted_17 rfl ?_
    refine aj_getA (x := 0) (y := 4) C flX12_81 hq0 rfl dX12_lifted_18 ?_
    refine aj_iload_n C dX12_lifted_21 rfl ?_
    obtain ⟨r0, h⟩ := h
    refine aj_iald C (aj_ca (e := 0) (n := 4) (j := 45) hq0 (by decide) rfl) (by decide) r0 dX12_lifted_22 rfl ?_
    refine aj_istore_n (lv' := [some (vO 12 q0), some (vI v1), some (vI z1), some (vI (m2 (45 :: q0) v1.toNat))]) C dX12_lifted_23 (by decide) rfl ?_
    refine aj_aload_n C dX12_lifted_24 rfl ?_
    refine aj_aload_n C dX12_lifted_25 rfl ?_
    refine aj_iload_n C dX12_lifted_26 rfl ?_
    refine aj_iload_n C dX12_lifted_27 rfl ?_
    refine aj_iconst C dX12_lifted_28 ?_
    refine aj_isub C dX12_lifted_29 ?_
    refine aj_callV (rest := [vO 12 q0]) C mvX12_404 (sX12_stepAt hq0 h) hq0 (aj_np 2 (by decide +kernel) rfl) (Nat.le_of_ble_eq_true rfl) rfl dX12_lifted_30 (fun r m3 h => ?_)
    obtain ⟨z2, rfl, h⟩ := h
    refine aj_callV (rest := []) C mvX12_407 (sX12_endOf hq0 h) hq0 (aj_np 1 (by decide +kernel) rfl) (Nat.le_of_ble_eq_true rfl) rfl dX12_lifted_33 (fun r m4 h => ?_)
    obtain ⟨z3, rfl, h⟩ := h
    refine aj_aload_n C dX12_lifted_36 rfl ?_
    refine aj_aload_n C dX12_lifted_37 rfl ?_
    refine aj_iload_n C dX12_lifted_38 rfl ?_
    refine aj_iconst C dX12_lifted_39 ?_
    refine aj_callV (rest := [vO 12 q0, vI z3]) C mvX12_404 (sX12_stepAt hq0 h) hq0 (aj_np 2 (by decide +kernel) rfl) (Nat.le_of_ble_eq_true rfl) rfl dX12_lifted_40 (fun r m5 h => ?_)
    obtain ⟨z4, rfl, h⟩ := h
    refine aj_callV (rest := [vI z3]) C mvX12_410 (sX12_beginOf hq0 h) hq0 (aj_np 1 (by decide +kernel) rfl) (Nat.le_of_ble_eq_true rfl) rfl dX12_lifted_43 (fun r m6 h => ?_)
    obtain ⟨z5, rfl, h⟩ := h
    obtain ⟨r0, r1, h1, h2⟩ := h
    refine aj_icmp_ne (tgt := 66) C dX12_lifted_46 (by decide) r0 r1 (fun e => ?_) (fun e => ?_)
    · have h := h1 e
      refine aj_iconst C dX12_lifted_66 ?_
      exact aj_iret C K dX12_lifted_67 ⟨_, rfl, h⟩
    · have h := h2 e
      refine aj_iload_n C dX12_lifted_49 rfl ?_
      refine aj_aload_n C dX12_lifted_50 rfl ?_
      refine aj_getA (x := 0) (y := 3315) C flX12_13 hq0 rfl dX12_lifted_51 ?_
      refine aj_aload_n C dX12_lifted_54 rfl ?_
      refine aj_iload_n C dX12_lifted_55 rfl ?_
      refine aj_callV (rest := [vA 0 3315 (1 :: q0), vI (m2 (45 :: q0) v1.toNat)]) C mvX12_416 (sX12_gathered hq0 h) hq0 (aj_np 1 (by decide +kernel) rfl) (Nat.le_of_ble_eq_true rfl) rfl dX12_lifted_56 (fun r m7 h => ?_)
      obtain ⟨z6, rfl, h⟩ := h
      refine aj_callS (rest := [vI (m2 (45 :: q0) v1.toNat)]) C msX12_212 (sX12_ordersOf (aj_ca (e := 0) (n := 3315) (j := 1) hq0 (by decide) rfl) (by decide) h) (aj_np 2 (by decide +kernel) rfl) (Nat.le_of_ble_eq_true rfl) rfl dX12_lifted_59 (fun r m8 h => ?_)
      obtain ⟨z7, rfl, h⟩ := h
      refine aj_imul C dX12_lifted_62 ?_
      refine aj_goto (tgt := 67) C dX12_lifted_63 (by decide) ?_
      exact aj_iret C K dX12_lifted_67 ⟨_, rfl, h⟩
  · have h := h2 e
    refine aj_iload_n C dX12_lifted_15 rfl ?_
    exact aj_iret C K dX12_lifted_16 ⟨_, rfl, h⟩
