theorem dX5_spread_0 : decode cX5_spread 0 = .ok (.aload_n 0, 1) := by decide +kernel
theorem dX5_spread_1 : decode cX5_spread 1 = .ok (.getfield 44, 3) := by decide +kernel
theorem dX5_spread_4 : decode cX5_spread 4 = .ok (.iconst (-1), 1) := by decide +kernel
theorem dX5_spread_5 : decode cX5_spread 5 = .ok (.invokestatic 125, 3) := by decide +kernel
theorem dX5_spread_8 : decode cX5_spread 8 = .ok (.aload_n 0, 1) := by decide +kernel
theorem dX5_spread_9 : decode cX5_spread 9 = .ok (.getfield 44, 3) := by decide +kernel
theorem dX5_spread_12 : decode cX5_spread 12 = .ok (.iload_n 1, 1) := by decide +kernel
theorem dX5_spread_13 : decode cX5_spread 13 = .ok (.iconst 0, 1) := by decide +kernel
theorem dX5_spread_14 : decode cX5_spread 14 = .ok (.iastore, 1) := by decide +kernel
theorem dX5_spread_15 : decode cX5_spread 15 = .ok (.aload_n 0, 1) := by decide +kernel
theorem dX5_spread_16 : decode cX5_spread 16 = .ok (.getfield 50, 3) := by decide +kernel
theorem dX5_spread_19 : decode cX5_spread 19 = .ok (.iload_n 1, 1) := by decide +kernel
theorem dX5_spread_20 : decode cX5_spread 20 = .ok (.iconst (-1), 1) := by decide +kernel
theorem dX5_spread_21 : decode cX5_spread 21 = .ok (.iastore, 1) := by decide +kernel
theorem dX5_spread_22 : decode cX5_spread 22 = .ok (.aload_n 0, 1) := by decide +kernel
theorem dX5_spread_23 : decode cX5_spread 23 = .ok (.getfield 53, 3) := by decide +kernel
theorem dX5_spread_26 : decode cX5_spread 26 = .ok (.iload_n 1, 1) := by decide +kernel
theorem dX5_spread_27 : decode cX5_spread 27 = .ok (.iload_n 1, 1) := by decide +kernel
theorem dX5_spread_28 : decode cX5_spread 28 = .ok (.iastore, 1) := by decide +kernel
theorem dX5_spread_29 : decode cX5_spread 29 = .ok (.aload_n 0, 1) := by decide +kernel
theorem dX5_spread_30 : decode cX5_spread 30 = .ok (.getfield 56, 3) := by decide +kernel
theorem dX5_spread_33 : decode cX5_spread 33 = .ok (.iconst 0, 1) := by decide +kernel
theorem dX5_spread_34 : decode cX5_spread 34 = .ok (.iload_n 1, 1) := by decide +kernel
theorem dX5_spread_35 : decode cX5_spread 35 = .ok (.iastore, 1) := by decide +kernel
theorem dX5_spread_36 : decode cX5_spread 36 = .ok (.iconst 1, 1) := by decide +kernel
theorem dX5_spread_37 : decode cX5_spread 37 = .ok (.istore_n 2, 1) := by decide +kernel
theorem dX5_spread_38 : decode cX5_spread 38 = .ok (.iconst 0, 1) := by decide +kernel
theorem dX5_spread_39 : decode cX5_spread 39 = .ok (.istore_n 3, 1) := by decide +kernel
theorem dX5_spread_40 : decode cX5_spread 40 = .ok (.iload_n 3, 1) := by decide +kernel
theorem dX5_spread_41 : decode cX5_spread 41 = .ok (.iload_n 2, 1) := by decide +kernel
theorem dX5_spread_42 : decode cX5_spread 42 = .ok (.if_icmp .ge 163, 3) := by decide +kernel
theorem dX5_spread_45 : decode cX5_spread 45 = .ok (.iload_n 3, 1) := by decide +kernel
theorem dX5_spread_46 : decode cX5_spread 46 = .ok (.bipush 60, 2) := by decide +kernel
theorem dX5_spread_48 : decode cX5_spread 48 = .ok (.if_icmp .ge 157, 3) := by decide +kernel
theorem dX5_spread_51 : decode cX5_spread 51 = .ok (.aload_n 0, 1) := by decide +kernel
theorem dX5_spread_52 : decode cX5_spread 52 = .ok (.getfield 56, 3) := by decide +kernel
theorem dX5_spread_55 : decode cX5_spread 55 = .ok (.iload_n 3, 1) := by decide +kernel
theorem dX5_spread_56 : decode cX5_spread 56 = .ok (.iaload, 1) := by decide +kernel
theorem dX5_spread_57 : decode cX5_spread 57 = .ok (.istore 4, 2) := by decide +kernel
theorem dX5_spread_59 : decode cX5_spread 59 = .ok (.aload_n 0, 1) := by decide +kernel
theorem dX5_spread_60 : decode cX5_spread 60 = .ok (.getfield 38, 3) := by decide +kernel
theorem dX5_spread_63 : decode cX5_spread 63 = .ok (.iload 4, 2) := by decide +kernel
theorem dX5_spread_65 : decode cX5_spread 65 = .ok (.iaload, 1) := by decide +kernel
theorem dX5_spread_66 : decode cX5_spread 66 = .ok (.istore 5, 2) := by decide +kernel
theorem dX5_spread_68 : decode cX5_spread 68 = .ok (.iload 5, 2) := by decide +kernel
theorem dX5_spread_70 : decode cX5_spread 70 = .ok (.aload_n 0, 1) := by decide +kernel
theorem dX5_spread_71 : decode cX5_spread 71 = .ok (.getfield 38, 3) := by decide +kernel
theorem dX5_spread_74 : decode cX5_spread 74 = .ok (.iload 4, 2) := by decide +kernel
theorem dX5_spread_76 : decode cX5_spread 76 = .ok (.iconst 1, 1) := by decide +kernel
theorem dX5_spread_77 : decode cX5_spread 77 = .ok (.iadd, 1) := by decide +kernel
theorem dX5_spread_78 : decode cX5_spread 78 = .ok (.iaload, 1) := by decide +kernel
theorem dX5_spread_79 : decode cX5_spread 79 = .ok (.if_icmp .ge 120, 3) := by decide +kernel
theorem dX5_spread_82 : decode cX5_spread 82 = .ok (.aload_n 0, 1) := by decide +kernel
theorem dX5_spread_83 : decode cX5_spread 83 = .ok (.aload_n 0, 1) := by decide +kernel
theorem dX5_spread_84 : decode cX5_spread 84 = .ok (.getfield 41, 3) := by decide +kernel
theorem dX5_spread_87 : decode cX5_spread 87 = .ok (.iload 5, 2) := by decide +kernel
theorem dX5_spread_89 : decode cX5_spread 89 = .ok (.iaload, 1) := by decide +kernel
theorem dX5_spread_90 : decode cX5_spread 90 = .ok (.iload 4, 2) := by decide +kernel
theorem dX5_spread_92 : decode cX5_spread 92 = .ok (.invokevirtual 131, 3) := by decide +kernel
theorem dX5_spread_95 : decode cX5_spread 95 = .ok (.istore 6, 2) := by decide +kernel
theorem dX5_spread_97 : decode cX5_spread 97 = .ok (.aload_n 0, 1) := by decide +kernel
theorem dX5_spread_98 : decode cX5_spread 98 = .ok (.getfield 44, 3) := by decide +kernel
theorem dX5_spread_101 : decode cX5_spread 101 = .ok (.iload 6, 2) := by decide +kernel
theorem dX5_spread_103 : decode cX5_spread 103 = .ok (.iaload, 1) := by decide +kernel
theorem dX5_spread_104 : decode cX5_spread 104 = .ok (.ifCond .ge 89, 3) := by decide +kernel
theorem dX5_spread_107 : decode cX5_spread 107 = .ok (.aload_n 0, 1) := by decide +kernel
theorem dX5_spread_108 : decode cX5_spread 108 = .ok (.getfield 63, 3) := by decide +kernel
theorem dX5_spread_111 : decode cX5_spread 111 = .ok (.iload 6, 2) := by decide +kernel
theorem dX5_spread_113 : decode cX5_spread 113 = .ok (.lshr, 1) := by decide +kernel
theorem dX5_spread_114 : decode cX5_spread 114 = .ok (.lconst 1, 1) := by decide +kernel
theorem dX5_spread_115 : decode cX5_spread 115 = .ok (.land, 1) := by decide +kernel
theorem dX5_spread_116 : decode cX5_spread 116 = .ok (.lconst 0, 1) := by decide +kernel
theorem dX5_spread_117 : decode cX5_spread 117 = .ok (.lcmp, 1) := by decide +kernel
theorem dX5_spread_118 : decode cX5_spread 118 = .ok (.ifCond .ne 75, 3) := by decide +kernel
theorem dX5_spread_121 : decode cX5_spread 121 = .ok (.iload_n 2, 1) := by decide +kernel
theorem dX5_spread_122 : decode cX5_spread 122 = .ok (.bipush 60, 2) := by decide +kernel
theorem dX5_spread_124 : decode cX5_spread 124 = .ok (.if_icmp .ge 69, 3) := by decide +kernel
theorem dX5_spread_127 : decode cX5_spread 127 = .ok (.aload_n 0, 1) := by decide +kernel
theorem dX5_spread_128 : decode cX5_spread 128 = .ok (.getfield 44, 3) := by decide +kernel
theorem dX5_spread_131 : decode cX5_spread 131 = .ok (.iload 6, 2) := by decide +kernel
theorem dX5_spread_133 : decode cX5_spread 133 = .ok (.aload_n 0, 1) := by decide +kernel
theorem dX5_spread_134 : decode cX5_spread 134 = .ok (.getfield 44, 3) := by decide +kernel
theorem dX5_spread_137 : decode cX5_spread 137 = .ok (.iload 4, 2) := by decide +kernel
theorem dX5_spread_139 : decode cX5_spread 139 = .ok (.iaload, 1) := by decide +kernel
theorem dX5_spread_140 : decode cX5_spread 140 = .ok (.iconst 1, 1) := by decide +kernel
theorem dX5_spread_141 : decode cX5_spread 141 = .ok (.iadd, 1) := by decide +kernel
theorem dX5_spread_142 : decode cX5_spread 142 = .ok (.iastore, 1) := by decide +kernel
theorem dX5_spread_143 : decode cX5_spread 143 = .ok (.aload_n 0, 1) := by decide +kernel
theorem dX5_spread_144 : decode cX5_spread 144 = .ok (.getfield 50, 3) := by decide +kernel
theorem dX5_spread_147 : decode cX5_spread 147 = .ok (.iload 6, 2) := by decide +kernel
theorem dX5_spread_149 : decode cX5_spread 149 = .ok (.aload_n 0, 1) := by decide +kernel
theorem dX5_spread_150 : decode cX5_spread 150 = .ok (.getfield 41, 3) := by decide +kernel
theorem dX5_spread_153 : decode cX5_spread 153 = .ok (.iload 5, 2) := by decide +kernel
theorem dX5_spread_155 : decode cX5_spread 155 = .ok (.iaload, 1) := by decide +kernel
theorem dX5_spread_156 : decode cX5_spread 156 = .ok (.iastore, 1) := by decide +kernel
theorem dX5_spread_157 : decode cX5_spread 157 = .ok (.aload_n 0, 1) := by decide +kernel
theorem dX5_spread_158 : decode cX5_spread 158 = .ok (.getfield 53, 3) := by decide +kernel
theorem dX5_spread_161 : decode cX5_spread 161 = .ok (.iload 6, 2) := by decide +kernel
theorem dX5_spread_163 : decode cX5_spread 163 = .ok (.iload 4, 2) := by decide +kernel
theorem dX5_spread_165 : decode cX5_spread 165 = .ok (.iload_n 1, 1) := by decide +kernel
theorem dX5_spread_166 : decode cX5_spread 166 = .ok (.if_icmp .ne 8, 3) := by decide +kernel
theorem dX5_spread_169 : decode cX5_spread 169 = .ok (.iload 6, 2) := by decide +kernel
theorem dX5_spread_171 : decode cX5_spread 171 = .ok (.goto 10, 3) := by decide +kernel
theorem dX5_spread_174 : decode cX5_spread 174 = .ok (.aload_n 0, 1) := by decide +kernel
theorem dX5_spread_175 : decode cX5_spread 175 = .ok (.getfield 53, 3) := by decide +kernel
theorem dX5_spread_178 : decode cX5_spread 178 = .ok (.iload 4, 2) := by decide +kernel
theorem dX5_spread_180 : decode cX5_spread 180 = .ok (.iaload, 1) := by decide +kernel
theorem dX5_spread_181 : decode cX5_spread 181 = .ok (.iastore, 1) := by decide +kernel
theorem dX5_spread_182 : decode cX5_spread 182 = .ok (.aload_n 0, 1) := by decide +kernel
theorem dX5_spread_183 : decode cX5_spread 183 = .ok (.getfield 56, 3) := by decide +kernel
theorem dX5_spread_186 : decode cX5_spread 186 = .ok (.iload_n 2, 1) := by decide +kernel
theorem dX5_spread_187 : decode cX5_spread 187 = .ok (.iload 6, 2) := by decide +kernel
theorem dX5_spread_189 : decode cX5_spread 189 = .ok (.iastore, 1) := by decide +kernel
theorem dX5_spread_190 : decode cX5_spread 190 = .ok (.iinc 2 1, 3) := by decide +kernel
theorem dX5_spread_193 : decode cX5_spread 193 = .ok (.iinc 5 1, 3) := by decide +kernel
theorem dX5_spread_196 : decode cX5_spread 196 = .ok (.goto (-128), 3) := by decide +kernel
theorem dX5_spread_199 : decode cX5_spread 199 = .ok (.iinc 3 1, 3) := by decide +kernel
theorem dX5_spread_202 : decode cX5_spread 202 = .ok (.goto (-162), 3) := by decide +kernel
theorem dX5_spread_205 : decode cX5_spread 205 = .ok (.iload_n 2, 1) := by decide +kernel
theorem dX5_spread_206 : decode cX5_spread 206 = .ok (.ireturn, 1) := by decide +kernel
def hX5_spread_68 (f : Nat) (Φ : Int → aj_M → Prop) (K40 : List Nat → Int → Int → Int → aj_M → Prop) : Nat → List Nat → Int → Int → Int → Int → Int → aj_M → Prop
  | 0, _, _, _, _, _, _, _ => False
  | k + 1, q0, v1, v2, v3, v4, v5, m => (0 ≤ (v4 + 1) ∧ (v4 + 1) < 62) ∧ rI v5 ∧ rI (m (8 :: q0) (v4 + 1).toNat) ∧ ((m (8 :: q0) (v4 + 1).toNat) ≤ v5 → K40 q0 v1 v2 (v3 + 1) m) ∧ (¬ ((m (8 :: q0) (v4 + 1).toNat) ≤ v5) → (0 ≤ v5 ∧ v5 < 288) ∧ wX5_otherEnd f (fun z1 m1 => (0 ≤ z1 ∧ z1 < 60) ∧ rI (m1 (10 :: q0) z1.toNat) ∧ (0 ≤ (m1 (10 :: q0) z1.toNat) → hX5_spread_68 f Φ K40 k q0 v1 v2 v3 v4 (v5 + 1) m1) ∧ (¬ (0 ≤ (m1 (10 :: q0) z1.toNat)) → rL (aj_landL (aj_lshr (m1 q0 16) z1) 1) ∧ (¬ (aj_landL (aj_lshr (m1 q0 16) z1) 1) = 0 → hX5_spread_68 f Φ K40 k q0 v1 v2 v3 v4 (v5 + 1) m1) ∧ ((aj_landL (aj_lshr (m1 q0 16) z1) 1) = 0 → rI v2 ∧ (60 ≤ v2 → hX5_spread_68 f Φ K40 k q0 v1 v2 v3 v4 (v5 + 1) m1) ∧ (¬ (60 ≤ v2) → (0 ≤ v4 ∧ v4 < 60) ∧ (0 ≤ z1 ∧ z1 < 60) ∧ ∀ m2, m2 = aj_u m1 (10 :: q0) z1.toNat ((m1 (10 :: q0) v4.toNat) + 1) → (0 ≤ v5 ∧ v5 < 288) ∧ (0 ≤ z1 ∧ z1 < 60) ∧ ∀ m3, m3 = aj_u m2 (12 :: q0) z1.toNat (m2 (9 :: q0) v5.toNat) → rI v4 ∧ rI v1 ∧ (¬ v4 = v1 → (0 ≤ v4 ∧ v4 < 60) ∧ (0 ≤ z1 ∧ z1 < 60) ∧ ∀ m4, m4 = aj_u m3 (13 :: q0) z1.toNat (m3 (13 :: q0) v4.toNat) → (0 ≤ v2 ∧ v2 < 60) ∧ ∀ m5, m5 = aj_u m4 (14 :: q0) v2.toNat z1 → hX5_spread_68 f Φ K40 k q0 v1 (v2 + 1) v3 v4 (v5 + 1) m5) ∧ (v4 = v1 → (0 ≤ z1 ∧ z1 < 60) ∧ ∀ m6, m6 = aj_u m3 (13 :: q0) z1.toNat z1 → (0 ≤ v2 ∧ v2 < 60) ∧ ∀ m7, m7 = aj_u m6 (14 :: q0) v2.toNat z1 → hX5_spread_68 f Φ K40 k q0 v1 (v2 + 1) v3 v4 (v5 + 1) m7))))) q0 (m (9 :: q0) v5.toNat) v4 m)
set_option maxHeartbeats 4000000 in
set_option maxRecDepth 100000 in
theorem tX5_spread_68 {X : aj_T} {n f : Nat} {Φ : Int → aj_M → Prop} (C : aj_Cx X cX5_spread RX5 7 (n + 1)) (K : aj_Rt X (some .int) (fun r m => ∃ z, r = some (vI z) ∧ Φ z m)) {K40 : List Nat → Int → Int → Int → aj_M → Prop} (HK40 : ∀ (q0 : List Nat) (v1 : Int) (v2 : Int) (v3 : Int) (m : aj_M) (hq0 : (.inl (5, q0) : aj_R) ∈ aj_pls), K40 q0 v1 v2 v3 m → aj_J X 40 [some (vO 5 q0), some (vI v1), some (vI v2), some (vI v3), none, none, none] [] m) : ∀ (k : Nat) (q0 : List Nat) (v1 : Int) (v2 : Int) (v3 : Int) (v4 : Int) (v5 : Int) (m : aj_M) (hq0 : (.inl (5, q0) : aj_R) ∈ aj_pls), hX5_spread_68 f Φ K40 k q0 v1 v2 v3 v4 v5 m → aj_J X 68 [some (vO 5 q0), some (vI v1), some (vI v2), some (vI v3), some (vI v4), some (vI v5), none] [] m := by
  intro k
  induction k with
  | zero =>
    intro q0 v1 v2 v3 v4 v5 m _ h
    exact h.elim
  | succ k ih =>
    intro q0 v1 v2 v3 v4 v5 m hq0 h
    unfold hX5_spread_68 at h
    refine aj_iload C dX5_spread_68 rfl ?_
    refine aj_aload_n C dX5_spread_70 rfl ?_
    refine aj_getA (x := 0) (y := 62) C flX5_38 hq0 rfl dX5_spread_71 ?_
    refine aj_iload C dX5_spread_74 rfl ?_
    refine aj_iconst C dX5_spread_76 ?_
    refine aj_iadd C dX5_spread_77 ?_
    obtain ⟨r0, h⟩ := h
    refine aj_iald C (aj_ca (e := 0) (n := 62) (j := 8) hq0 (by decide) rfl) (by decide) r0 dX5_spread_78 rfl ?_
    obtain ⟨r0, r1, h1, h2⟩ := h
    refine aj_icmp_ge (tgt := 199) C dX5_spread_79 (by decide) r0 r1 (fun e => ?_) (fun e => ?_)
    · have h := h1 e
      refine aj_iinc (lv' := [some (vO 5 q0), some (vI v1), some (vI v2), some (vI (v3 + 1)), some (vI v4), some (vI v5), none]) C dX5_spread_199 rfl (by decide) rfl ?_
      refine aj_goto (tgt := 40) C dX5_spread_202 (by decide) ?_
      refine aj_wk (lv' := [some (vO 5 q0), some (vI v1), some (vI v2), some (vI (v3 + 1)), none, none, none]) (⟨rfl, ⟨rfl, ⟨rfl, ⟨rfl, trivial⟩⟩⟩⟩) ?_
      exact HK40 q0 v1 v2 (v3 + 1) _ hq0 h
    · have h := h2 e
      refine aj_aload_n C dX5_spread_82 rfl ?_
      refine aj_aload_n C dX5_spread_83 rfl ?_
      refine aj_getA (x := 0) (y := 288) C flX5_41 hq0 rfl dX5_spread_84 ?_
      refine aj_iload C dX5_spread_87 rfl ?_
      obtain ⟨r0, h⟩ := h
      refine aj_iald C (aj_ca (e := 0) (n := 288) (j := 9) hq0 (by decide) rfl) (by decide) r0 dX5_spread_89 rfl ?_
      refine aj_iload C dX5_spread_90 rfl ?_
      refine aj_callV (rest := []) C mvX5_131 (sX5_otherEnd hq0 h) hq0 (aj_np 2 (by decide +kernel) rfl) (Nat.le_of_ble_eq_true rfl) rfl dX5_spread_92 (fun r m1 h => ?_)
      obtain ⟨z1, rfl, h⟩ := h
      refine aj_istore (lv' := [some (vO 5 q0), some (vI v1), some (vI v2), some (vI v3), some (vI v4), some (vI v5), some (vI z1)]) C dX5_spread_95 (by decide) rfl ?_
      refine aj_aload_n C dX5_spread_97 rfl ?_
      refine aj_getA (x := 0) (y := 60) C flX5_44 hq0 rfl dX5_spread_98 ?_
      refine aj_iload C dX5_spread_101 rfl ?_
      obtain ⟨r0, h⟩ := h
      refine aj_iald C (aj_ca (e := 0) (n := 60) (j := 10) hq0 (by decide) rfl) (by decide) r0 dX5_spread_103 rfl ?_
      obtain ⟨r0, h1, h2⟩ := h
      refine aj_if_ge (tgt := 193) C dX5_spread_104 (by decide) r0 (fun e => ?_) (fun e => ?_)
      · have h := h1 e
        refine aj_iinc (lv' := [some (vO 5 q0), some (vI v1), some (vI v2), some (vI v3), some (vI v4), some (vI (v5 + 1)), some (vI z1)]) C dX5_spread_193 rfl (by decide) rfl ?_
        refine aj_goto (tgt := 68) C dX5_spread_196 (by decide) ?_
        refine aj_wk (lv' := [some (vO 5 q0), some (vI v1), some (vI v2), some (vI v3), some (vI v4), some (vI (v5 + 1)), none]) (⟨rfl, ⟨rfl, ⟨rfl, ⟨rfl, ⟨rfl, ⟨rfl, trivial⟩⟩⟩⟩⟩⟩) ?_
        exact ih q0 v1 v2 v3 v4 (v5 + 1) _ hq0 h
      · have h := h2 e
        refine aj_aload_n C dX5_spread_107 rfl ?_
        refine aj_getL C flX5_63 hq0 rfl dX5_spread_108 rfl ?_
        refine aj_iload C dX5_spread_111 rfl ?_
        refine aj_lshr_ C dX5_spread_113 ?_
        refine aj_lconst (z := 1) C dX5_spread_114 rfl ?_
        refine aj_land C dX5_spread_115 ?_
        refine aj_lconst (z := 0) C dX5_spread_116 rfl ?_
        obtain ⟨r0, h1, h2⟩ := h
        refine aj_lcmp_ne (tgt := 193) C dX5_spread_117 dX5_spread_118 (by decide) r0 (by decide) (fun e => ?_) (fun e => ?_)
        · have h := h1 e
          refine aj_iinc (lv' := [some (vO 5 q0), some (vI v1), some (vI v2), some (vI v3), some (vI v4), some (vI (v5 + 1)), some (vI z1)]) C dX5_spread_193 rfl (by decide) rfl ?_
          refine aj_goto (tgt := 68) C dX5_spread_196 (by decide) ?_
          refine aj_wk (lv' := [some (vO 5 q0), some (vI v1), some (vI v2), some (vI v3), some (vI v4), some (vI (v5 + 1)), none]) (⟨rfl, ⟨rfl, ⟨rfl, ⟨rfl, ⟨rfl, ⟨rfl, trivial⟩⟩⟩⟩⟩⟩) ?_
          exact ih q0 v1 v2 v3 v4 (v5 + 1) _ hq0 h
        · have h := h2 e
          refine aj_iload_n C dX5_spread_121 rfl ?_
          refine aj_bipush C dX5_spread_122 (by decide) ?_
          obtain ⟨r0, h1, h2⟩ := h
          refine aj_icmp_ge (tgt := 193) C dX5_spread_124 (by decide) r0 (by decide) (fun e => ?_) (fun e => ?_)
          · have h := h1 e
            refine aj_iinc (lv' := [some (vO 5 q0), some (vI v1), some (vI v2), some (vI v3), some (vI v4), some (vI (v5 + 1)), some (vI z1)]) C dX5_spread_193 rfl (by decide) rfl ?_
            refine aj_goto (tgt := 68) C dX5_spread_196 (by decide) ?_
            refine aj_wk (lv' := [some (vO 5 q0), some (vI v1), some (vI v2), some (vI v3), some (vI v4), some (vI (v5 + 1)), none]) (⟨rfl, ⟨rfl, ⟨rfl, ⟨rfl, ⟨rfl, ⟨rfl, trivial⟩⟩⟩⟩⟩⟩) ?_
            exact ih q0 v1 v2 v3 v4 (v5 + 1) _ hq0 h
          · have h := h2 e
            refine aj_aload_n C dX5_spread_127 rfl ?_
            refine aj_getA (x := 0) (y := 60) C flX5_44 hq0 rfl dX5_spread_128 ?_
            refine aj_iload C dX5_spread_131 rfl ?_
            refine aj_aload_n C dX5_spread_133 rfl ?_
            refine aj_getA (x := 0) (y := 60) C flX5_44 hq0 rfl dX5_spread_134 ?_
            refine aj_iload C dX5_spread_137 rfl ?_
            obtain ⟨r0, h⟩ := h
            refine aj_iald C (aj_ca (e := 0) (n := 60) (j := 10) hq0 (by decide) rfl) (by decide) r0 dX5_spread_139 rfl ?_
            refine aj_iconst C dX5_spread_140 ?_
            refine aj_iadd C dX5_spread_141 ?_
            obtain ⟨r0, h⟩ := h
            refine aj_iast C (aj_ca (e := 0) (n := 60) (j := 10) hq0 (by decide) rfl) (by decide) r0 dX5_spread_142 ?_
            refine aj_nm (fun m2 e1 => ?_)
            have h := h m2 e1
            refine aj_aload_n C dX5_spread_143 rfl ?_
            refine aj_getA (x := 0) (y := 60) C flX5_50 hq0 rfl dX5_spread_144 ?_
            refine aj_iload C dX5_spread_147 rfl ?_
            refine aj_aload_n C dX5_spread_149 rfl ?_
            refine aj_getA (x := 0) (y := 288) C flX5_41 hq0 rfl dX5_spread_150 ?_
            refine aj_iload C dX5_spread_153 rfl ?_
            obtain ⟨r0, h⟩ := h
            refine aj_iald C (aj_ca (e := 0) (n := 288) (j := 9) hq0 (by decide) rfl) (by decide) r0 dX5_spread_155 rfl ?_
            obtain ⟨r0, h⟩ := h
            refine aj_iast C (aj_ca (e := 0) (n := 60) (j := 12) hq0 (by decide) rfl) (by decide) r0 dX5_spread_156 ?_
            refine aj_nm (fun m3 e1 => ?_)
            have h := h m3 e1
            refine aj_aload_n C dX5_spread_157 rfl ?_
            refine aj_getA (x := 0) (y := 60) C flX5_53 hq0 rfl dX5_spread_158 ?_
            refine aj_iload C dX5_spread_161 rfl ?_
            refine aj_iload C dX5_spread_163 rfl ?_
            refine aj_iload_n C dX5_spread_165 rfl ?_
            obtain ⟨r0, r1, h1, h2⟩ := h
            refine aj_icmp_ne (tgt := 174) C dX5_spread_166 (by decide) r0 r1 (fun e => ?_) (fun e => ?_)
            · have h := h1 e
              refine aj_aload_n C dX5_spread_174 rfl ?_
              refine aj_getA (x := 0) (y := 60) C flX5_53 hq0 rfl dX5_spread_175 ?_
              refine aj_iload C dX5_spread_178 rfl ?_
              obtain ⟨r0, h⟩ := h
              refine aj_iald C (aj_ca (e := 0) (n := 60) (j := 13) hq0 (by decide) rfl) (by decide) r0 dX5_spread_180 rfl ?_
              obtain ⟨r0, h⟩ := h
              refine aj_iast C (aj_ca (e := 0) (n := 60) (j := 13) hq0 (by decide) rfl) (by decide) r0 dX5_spread_181 ?_
              refine aj_nm (fun m4 e1 => ?_)
              have h := h m4 e1
              refine aj_aload_n C dX5_spread_182 rfl ?_
              refine aj_getA (x := 0) (y := 60) C flX5_56 hq0 rfl dX5_spread_183 ?_
              refine aj_iload_n C dX5_spread_186 rfl ?_
              refine aj_iload C dX5_spread_187 rfl ?_
              obtain ⟨r0, h⟩ := h
              refine aj_iast C (aj_ca (e := 0) (n := 60) (j := 14) hq0 (by decide) rfl) (by decide) r0 dX5_spread_189 ?_
              refine aj_nm (fun m5 e1 => ?_)
              have h := h m5 e1
              refine aj_iinc (lv' := [some (vO 5 q0), some (vI v1), some (vI (v2 + 1)), some (vI v3), some (vI v4), some (vI v5), some (vI z1)]) C dX5_spread_190 rfl (by decide) rfl ?_
              refine aj_iinc (lv' := [some (vO 5 q0), some (vI v1), some (vI (v2 + 1)), some (vI v3), some (vI v4), some (vI (v5 + 1)), some (vI z1)]) C dX5_spread_193 rfl (by decide) rfl ?_
              refine aj_goto (tgt := 68) C dX5_spread_196 (by decide) ?_
              refine aj_wk (lv' := [some (vO 5 q0), some (vI v1), some (vI (v2 + 1)), some (vI v3), some (vI v4), some (vI (v5 + 1)), none]) (⟨rfl, ⟨rfl, ⟨rfl, ⟨rfl, ⟨rfl, ⟨rfl, trivial⟩⟩⟩⟩⟩⟩) ?_
              exact ih q0 v1 (v2 + 1) v3 v4 (v5 + 1) _ hq0 h
            · have h := h2 e
              refine aj_iload C dX5_spread_169 rfl ?_
              refine aj_goto (tgt := 181) C dX5_spread_171 (by decide) ?_
              obtain ⟨r0, h⟩ := h
              refine aj_iast C (aj_ca (e := 0) (n := 60) (j := 13) hq0 (by decide) rfl) (by decide) r0 dX5_spread_181 ?_
              refine aj_nm (fun m6 e1 => ?_)
              have h := h m6 e1
              refine aj_aload_n C dX5_spread_182 rfl ?_
              refine aj_getA (x := 0) (y := 60) C flX5_56 hq0 rfl dX5_spread_183 ?_
              refine aj_iload_n C dX5_spread_186 rfl ?_
              refine aj_iload C dX5_spread_187 rfl ?_
              obtain ⟨r0, h⟩ := h
              refine aj_iast C (aj_ca (e := 0) (n := 60) (j := 14) hq0 (by decide) rfl) (by decide) r0 dX5_spread_189 ?_
              refine aj_nm (fun m7 e1 => ?_)
              have h := h m7 e1
              refine aj_iinc (lv' := [some (vO 5 q0), some (vI v1), some (vI (v2 + 1)), some (vI v3), some (vI v4), some (vI v5), some (vI z1)]) C dX5_spread_190 rfl (by decide) rfl ?_
              refine aj_iinc (lv' := [some (vO 5 q0), some (vI v1), some (vI (v2 + 1)), some (vI v3), some (vI v4), some (vI (v5 + 1)), some (vI z1)]) C dX5_spread_193 rfl (by decide) rfl ?_
              refine aj_goto (tgt := 68) C dX5_spread_196 (by decide) ?_
              refine aj_wk (lv' := [some (vO 5 q0), some (vI v1), some (vI (v2 + 1)), some (vI v3), some (vI v4), some (vI (v5 + 1)), none]) (⟨rfl, ⟨rfl, ⟨rfl, ⟨rfl, ⟨rfl, ⟨rfl, trivial⟩⟩⟩⟩⟩⟩) ?_
              exact ih q0 v1 (v2 + 1) v3 v4 (v5 + 1) _ hq0 h
def hX5_spread_40 (f : Nat) (Φ : Int → aj_M → Prop) : Nat → List Nat → Int → Int → Int → aj_M → Prop
  | 0, _, _, _, _, _ => False
  | k + 1, q0, v1, v2, v3, m => rI v3 ∧ rI v2 ∧ (v2 ≤ v3 → Φ v2 m) ∧ (¬ (v2 ≤ v3) → rI v3 ∧ (60 ≤ v3 → Φ v2 m) ∧ (¬ (60 ≤ v3) → (0 ≤ v3 ∧ v3 < 60) ∧ (0 ≤ (m (14 :: q0) v3.toNat) ∧ (m (14 :: q0) v3.toNat) < 62) ∧ hX5_spread_68 f Φ (fun q0 v1 v2 v3 m => hX5_spread_40 f Φ k q0 v1 v2 v3 m) f q0 v1 v2 v3 (m (14 :: q0) v3.toNat) (m (8 :: q0) (m (14 :: q0) v3.toNat).toNat) m))
set_option maxHeartbeats 4000000 in
set_option maxRecDepth 100000 in
theorem tX5_spread_40 {X : aj_T} {n f : Nat} {Φ : Int → aj_M → Prop} (C : aj_Cx X cX5_spread RX5 7 (n + 1)) (K : aj_Rt X (some .int) (fun r m => ∃ z, r = some (vI z) ∧ Φ z m)) : ∀ (k : Nat) (q0 : List Nat) (v1 : Int) (v2 : Int) (v3 : Int) (m : aj_M) (hq0 : (.inl (5, q0) : aj_R) ∈ aj_pls), hX5_spread_40 f Φ k q0 v1 v2 v3 m → aj_J X 40 [some (vO 5 q0), some (vI v1), some (vI v2), some (vI v3), none, none, none] [] m := by
  intro k
  induction k with
  | zero =>
    intro q0 v1 v2 v3 m _ h
    exact h.elim
  | succ k ih =>
    intro q0 v1 v2 v3 m hq0 h
    unfold hX5_spread_40 at h
    refine aj_iload_n C dX5_spread_40 rfl ?_
    refine aj_iload_n C dX5_spread_41 rfl ?_
    obtain ⟨r0, r1, h1, h2⟩ := h
    refine aj_icmp_ge (tgt := 205) C dX5_spread_42 (by decide) r0 r1 (fun e => ?_) (fun e => ?_)
    · have h := h1 e
      refine aj_iload_n C dX5_spread_205 rfl ?_
      exact aj_iret C K dX5_spread_206 ⟨_, rfl, h⟩
    · have h := h2 e
      refine aj_iload_n C dX5_spread_45 rfl ?_
      refine aj_bipush C dX5_spread_46 (by decide) ?_
      obtain ⟨r0, h1, h2⟩ := h
      refine aj_icmp_ge (tgt := 205) C dX5_spread_48 (by decide) r0 (by decide) (fun e => ?_) (fun e => ?_)
      · have h := h1 e
        refine aj_iload_n C dX5_spread_205 rfl ?_
        exact aj_iret C K dX5_spread_206 ⟨_, rfl, h⟩
      · have h := h2 e
        refine aj_aload_n C dX5_spread_51 rfl ?_
        refine aj_getA (x := 0) (y := 60) C flX5_56 hq0 rfl dX5_spread_52 ?_
        refine aj_iload_n C dX5_spread_55 rfl ?_
        obtain ⟨r0, h⟩ := h
        refine aj_iald C (aj_ca (e := 0) (n := 60) (j := 14) hq0 (by decide) rfl) (by decide) r0 dX5_spread_56 rfl ?_
        refine aj_istore (lv' := [some (vO 5 q0), some (vI v1), some (vI v2), some (vI v3), some (vI (m (14 :: q0) v3.toNat)), none, none]) C dX5_spread_57 (by decide) rfl ?_
        refine aj_aload_n C dX5_spread_59 rfl ?_
        refine aj_getA (x := 0) (y := 62) C flX5_38 hq0 rfl dX5_spread_60 ?_
        refine aj_iload C dX5_spread_63 rfl ?_
        obtain ⟨r0, h⟩ := h
        refine aj_iald C (aj_ca (e := 0) (n := 62) (j := 8) hq0 (by decide) rfl) (by decide) r0 dX5_spread_65 rfl ?_
        refine aj_istore (lv' := [some (vO 5 q0), some (vI v1), some (vI v2), some (vI v3), some (vI (m (14 :: q0) v3.toNat)), some (vI (m (8 :: q0) (m (14 :: q0) v3.toNat).toNat)), none]) C dX5_spread_66 (by decide) rfl ?_
        exact tX5_spread_68 C K (fun q0 v1 v2 v3 m hq0 hh => ih q0 v1 v2 v3 m hq0 hh) f q0 v1 v2 v3 (m (14 :: q0) v3.toNat) (m (8 :: q0) (m (14 :: q0) v3.toNat).toNat) _ hq0 h
def wX5_spread (f : Nat) (Φ : Int → aj_M → Prop) (q0 : List Nat) (v1 : Int) (m : aj_M) : Prop := wJ7_fill_53178 f (fun m1 => (0 ≤ v1 ∧ v1 < 60) ∧ ∀ m2, m2 = aj_u m1 (10 :: q0) v1.toNat 0 → (0 ≤ v1 ∧ v1 < 60) ∧ ∀ m3, m3 = aj_u m2 (12 :: q0) v1.toNat (-1) → (0 ≤ v1 ∧ v1 < 60) ∧ ∀ m4, m4 = aj_u m3 (13 :: q0) v1.toNat v1 → ∀ m5, m5 = aj_u m4 (14 :: q0) (0 : Int).toNat v1 → hX5_spread_40 f Φ f q0 v1 1 0 m5) 60 (10 :: q0) (-1) m
set_option maxHeartbeats 4000000 in
set_option maxRecDepth 100000 in
theorem sX5_spread {n f : Nat} {Φ : Int → aj_M → Prop} {q0 : List Nat} {v1 : Int} {m : aj_M} (hq0 : (.inl (5, q0) : aj_R) ∈ aj_pls) (h : wX5_spread f Φ q0 v1 m) : aj_Ct (n + 1) yX5_spread cX5_spread 7 (some .int) [vO 5 q0, vI v1] m (fun r m => ∃ z, r = some (vI z) ∧ Φ z m) := by
  refine aj_met (lv := [some (vO 5 q0), some (vI v1), none, none, none, none, none]) (by decide +kernel) rfl (Nat.le_of_ble_eq_true rfl) (fun X C K => ?_)
  unfold wX5_spread at h
  refine aj_aload_n C dX5_spread_0 rfl ?_
  refine aj_getA (x := 0) (y := 60) C flX5_44 hq0 rfl dX5_spread_1 ?_
  refine aj_iconst C dX5_spread_4 ?_
  refine aj_callS (rest := []) C msX5_125 (sJ7_fill_53178 (aj_ca (e := 0) (n := 60) (j := 10) hq0 (by decide) rfl) (by decide) h) (aj_np 2 (by decide +kernel) rfl) (Nat.le_of_ble_eq_true rfl) rfl dX5_spread_5 (fun r m1 h => ?_)
  obtain ⟨rfl, h⟩ := h
  refine aj_aload_n C dX5_spread_8 rfl ?_
  refine aj_getA (x := 0) (y := 60) C flX5_44 hq0 rfl dX5_spread_9 ?_
  refine aj_iload_n C dX5_spread_12 rfl ?_
  refine aj_iconst C dX5_spread_13 ?_
  obtain ⟨r0, h⟩ := h
  refine aj_iast C (aj_ca (e := 0) (n := 60) (j := 10) hq0 (by decide) rfl) (by decide) r0 dX5_spread_14 ?_
  refine aj_nm (fun m2 e1 => ?_)
  have h := h m2 e1
  refine aj_aload_n C dX5_spread_15 rfl ?_
  refine aj_getA (x := 0) (y := 60) C flX5_50 hq0 rfl dX5_spread_16 ?_
  refine aj_iload_n C dX5_spread_19 rfl ?_
  refine aj_iconst C dX5_spread_20 ?_
  obtain ⟨r0, h⟩ := h
  refine aj_iast C (aj_ca (e := 0) (n := 60) (j := 12) hq0 (by decide) rfl) (by decide) r0 dX5_spread_21 ?_
  refine aj_nm (fun m3 e1 => ?_)
  have h := h m3 e1
  refine aj_aload_n C dX5_spread_22 rfl ?_
  refine aj_getA (x := 0) (y := 60) C flX5_53 hq0 rfl dX5_spread_23 ?_
  refine aj_iload_n C dX5_spread_26 rfl ?_
  refine aj_iload_n C dX5_spread_27 rfl ?_
  obtain ⟨r0, h⟩ := h
  refine aj_iast C (aj_ca (e := 0) (n := 60) (j := 13) hq0 (by decide) rfl) (by decide) r0 dX5_spread_28 ?_
  refine aj_nm (fun m4 e1 => ?_)
  have h := h m4 e1
  refine aj_aload_n C dX5_spread_29 rfl ?_
  refine aj_getA (x := 0) (y := 60) C flX5_56 hq0 rfl dX5_spread_30 ?_
  refine aj_iconst C dX5_spread_33 ?_
  refine aj_iload_n C dX5_spread_34 rfl ?_
  refine aj_iast C (aj_ca (e := 0) (n := 60) (j := 14) hq0 (by decide) rfl) (by decide) (by decide) dX5_spread_35 ?_
  refine aj_nm (fun m5 e1 => ?_)
  have h := h m5 e1
  refine aj_iconst C dX5_spread_36 ?_
  refine aj_istore_n (lv' := [some (vO 5 q0), some (vI v1), some (vI 1), none, none, none, none]) C dX5_spread_37 (by decide) rfl ?_
  refine aj_iconst C dX5_spread_38 ?_
  refine aj_istore_n (lv' := [some (vO 5 q0), some (vI v1), some (vI 1), some (vI 0), none, none, none]) C dX5_spread_39 (by decide) rfl ?_
  exact tX5_spread_40 C K f q0 v1 1 0 _ hq0 h
theorem dX5_markReached_0 : decode cX5_markReached 0 = .ok (.iconst 0, 1) := by decide +kernel
theorem dX5_markReached_1 : decode cX5_markReached 1 = .ok (.istore_n 2, 1) := by decide +kernel
theorem dX5_markReached_2 : decode cX5_markReached 2 = .ok (.iload_n 2, 1) := by decide +kernel
theorem dX5_markReached_3 : decode cX5_markReached 3 = .ok (.iload_n 1, 1) := by decide +kernel
theorem dX5_markReached_4 : decode cX5_markReached 4 = .ok (.if_icmp .ge 32, 3) := by decide +kernel
theorem dX5_markReached_7 : decode cX5_markReached 7 = .ok (.iload_n 2, 1) := by decide +kernel
theorem dX5_markReached_8 : decode cX5_markReached 8 = .ok (.bipush 60, 2) := by decide +kernel
theorem dX5_markReached_10 : decode cX5_markReached 10 = .ok (.if_icmp .ge 26, 3) := by decide +kernel
theorem dX5_markReached_13 : decode cX5_markReached 13 = .ok (.aload_n 0, 1) := by decide +kernel
theorem dX5_markReached_14 : decode cX5_markReached 14 = .ok (.dup, 1) := by decide +kernel
theorem dX5_markReached_15 : decode cX5_markReached 15 = .ok (.getfield 59, 3) := by decide +kernel
theorem dX5_markReached_18 : decode cX5_markReached 18 = .ok (.lconst 1, 1) := by decide +kernel
theorem dX5_markReached_19 : decode cX5_markReached 19 = .ok (.aload_n 0, 1) := by decide +kernel
theorem dX5_markReached_20 : decode cX5_markReached 20 = .ok (.getfield 56, 3) := by decide +kernel
theorem dX5_markReached_23 : decode cX5_markReached 23 = .ok (.iload_n 2, 1) := by decide +kernel
theorem dX5_markReached_24 : decode cX5_markReached 24 = .ok (.iaload, 1) := by decide +kernel
theorem dX5_markReached_25 : decode cX5_markReached 25 = .ok (.lshl, 1) := by decide +kernel
theorem dX5_markReached_26 : decode cX5_markReached 26 = .ok (.lor, 1) := by decide +kernel
theorem dX5_markReached_27 : decode cX5_markReached 27 = .ok (.putfield 59, 3) := by decide +kernel
theorem dX5_markReached_30 : decode cX5_markReached 30 = .ok (.iinc 2 1, 3) := by decide +kernel
theorem dX5_markReached_33 : decode cX5_markReached 33 = .ok (.goto (-31), 3) := by decide +kernel
theorem dX5_markReached_36 : decode cX5_markReached 36 = .ok (.return_, 1) := by decide +kernel
def hX5_markReached_2 (f : Nat) (Φ : aj_M → Prop) : Nat → List Nat → Int → Int → aj_M → Prop
  | 0, _, _, _, _ => False
  | k + 1, q0, v1, v2, m => rI v2 ∧ rI v1 ∧ (v1 ≤ v2 → Φ m) ∧ (¬ (v1 ≤ v2) → rI v2 ∧ (60 ≤ v2 → Φ m) ∧ (¬ (60 ≤ v2) → (0 ≤ v2 ∧ v2 < 60) ∧ ∀ m1, m1 = aj_u m q0 15 (aj_lorL (m q0 15) (aj_lshl 1 (m (14 :: q0) v2.toNat))) → hX5_markReached_2 f Φ k q0 v1 (v2 + 1) m1))
set_option maxHeartbeats 4000000 in
set_option maxRecDepth 100000 in
theorem tX5_markReached_2 {X : aj_T} {n f : Nat} {Φ : aj_M → Prop} (C : aj_Cx X cX5_markReached RX5 3 n) (K : aj_Rt X none (fun r m => r = none ∧ Φ m)) : ∀ (k : Nat) (q0 : List Nat) (v1 : Int) (v2 : Int) (m : aj_M) (hq0 : (.inl (5, q0) : aj_R) ∈ aj_pls), hX5_markReached_2 f Φ k q0 v1 v2 m → aj_J X 2 [some (vO 5 q0), some (vI v1), some (vI v2)] [] m := by
  intro k
  induction k with
  | zero =>
    intro q0 v1 v2 m _ h
    exact h.elim
  | succ k ih =>
    intro q0 v1 v2 m hq0 h
    unfold hX5_markReached_2 at h
    refine aj_iload_n C dX5_markReached_2 rfl ?_
    refine aj_iload_n C dX5_markReached_3 rfl ?_
    obtain ⟨r0, r1, h1, h2⟩ := h
    refine aj_icmp_ge (tgt := 36) C dX5_markReached_4 (by decide) r0 r1 (fun e => ?_) (fun e => ?_)
    · have h := h1 e
      exact aj_vret C K dX5_markReached_36 ⟨rfl, h⟩
    · have h := h2 e
      refine aj_iload_n C dX5_markReached_7 rfl ?_
      refine aj_bipush C dX5_markReached_8 (by decide) ?_
      obtain ⟨r0, h1, h2⟩ := h
      refine aj_icmp_ge (tgt := 36) C dX5_markReached_10 (by decide) r0 (by decide) (fun e => ?_) (fun e => ?_)
      · have h := h1 e
        exact aj_vret C K dX5_markReached_36 ⟨rfl, h⟩
      · have h := h2 e
        refine aj_aload_n C dX5_markReached_13 rfl ?_
        refine aj_dup C aj_nR dX5_markReached_14 ?_
        refine aj_getL C flX5_59 hq0 rfl dX5_markReached_15 rfl ?_
        refine aj_lconst (z := 1) C dX5_markReached_18 rfl ?_
        refine aj_aload_n C dX5_markReached_19 rfl ?_
        refine aj_getA (x := 0) (y := 60) C flX5_56 hq0 rfl dX5_markReached_20 ?_
        refine aj_iload_n C dX5_markReached_23 rfl ?_
        obtain ⟨r0, h⟩ := h
        refine aj_iald C (aj_ca (e := 0) (n := 60) (j := 14) hq0 (by decide) rfl) (by decide) r0 dX5_markReached_24 rfl ?_
        refine aj_lshl_ C dX5_markReached_25 ?_
        refine aj_lor C dX5_markReached_26 ?_
        refine aj_putL C fpX5_59 hq0 rfl dX5_markReached_27 ?_
        refine aj_nm (fun m1 e1 => ?_)
        have h := h m1 e1
        refine aj_iinc (lv' := [some (vO 5 q0), some (vI v1), some (vI (v2 + 1))]) C dX5_markReached_30 rfl (by decide) rfl ?_
        refine aj_goto (tgt := 2) C dX5_markReached_33 (by decide) ?_
        exact ih q0 v1 (v2 + 1) _ hq0 h
def wX5_markReached (f : Nat) (Φ : aj_M → Prop) (q0 : List Nat) (v1 : Int) (m : aj_M) : Prop := hX5_markReached_2 f Φ f q0 v1 0 m
set_option maxHeartbeats 4000000 in
set_option maxRecDepth 100000 in
theorem sX5_markReached {n f : Nat} {Φ : aj_M → Prop} {q0 : List Nat} {v1 : Int} {m : aj_M} (hq0 : (.inl (5, q0) : aj_R) ∈ aj_pls) (h : wX5_markReached f Φ q0 v1 m) : aj_Ct n yX5_markReached cX5_markReached 3 none [vO 5 q0, vI v1] m (fun r m => r = none ∧ Φ m) := by
  refine aj_met (lv := [some (vO 5 q0), some (vI v1), none]) (by decide +kernel) rfl (Nat.le_of_ble_eq_true rfl) (fun X C K => ?_)
  unfold wX5_markReached at h
  refine aj_iconst C dX5_markReached_0 ?_
  refine aj_istore_n (lv' := [some (vO 5 q0), some (vI v1), some (vI 0)]) C dX5_markReached_1 (by decide) rfl ?_
  exact tX5_markReached_2 C K f q0 v1 0 _ hq0 h
theorem dX5_countParts_0 : decode cX5_countParts 0 = .ok (.iconst 0, 1) := by decide +kernel
theorem dX5_countParts_1 : decode cX5_countParts 1 = .ok (.istore_n 1, 1) := by decide +kernel
theorem dX5_countParts_2 : decode cX5_countParts 2 = .ok (.aload_n 0, 1) := by decide +kernel
theorem dX5_countParts_3 : decode cX5_countParts 3 = .ok (.lconst 0, 1) := by decide +kernel
theorem dX5_countParts_4 : decode cX5_countParts 4 = .ok (.putfield 59, 3) := by decide +kernel
theorem dX5_countParts_7 : decode cX5_countParts 7 = .ok (.iconst 0, 1) := by decide +kernel
theorem dX5_countParts_8 : decode cX5_countParts 8 = .ok (.istore_n 2, 1) := by decide +kernel
theorem dX5_countParts_9 : decode cX5_countParts 9 = .ok (.iload_n 2, 1) := by decide +kernel
theorem dX5_countParts_10 : decode cX5_countParts 10 = .ok (.aload_n 0, 1) := by decide +kernel
theorem dX5_countParts_11 : decode cX5_countParts 11 = .ok (.getfield 9, 3) := by decide +kernel
theorem dX5_countParts_14 : decode cX5_countParts 14 = .ok (.if_icmp .ge 34, 3) := by decide +kernel
theorem dX5_countParts_17 : decode cX5_countParts 17 = .ok (.aload_n 0, 1) := by decide +kernel
theorem dX5_countParts_18 : decode cX5_countParts 18 = .ok (.getfield 59, 3) := by decide +kernel
theorem dX5_countParts_21 : decode cX5_countParts 21 = .ok (.iload_n 2, 1) := by decide +kernel
theorem dX5_countParts_22 : decode cX5_countParts 22 = .ok (.lshr, 1) := by decide +kernel
theorem dX5_countParts_23 : decode cX5_countParts 23 = .ok (.lconst 1, 1) := by decide +kernel
theorem dX5_countParts_24 : decode cX5_countParts 24 = .ok (.land, 1) := by decide +kernel
theorem dX5_countParts_25 : decode cX5_countParts 25 = .ok (.lconst 0, 1) := by decide +kernel
theorem dX5_countParts_26 : decode cX5_countParts 26 = .ok (.lcmp, 1) := by decide +kernel
theorem dX5_countParts_27 : decode cX5_countParts 27 = .ok (.ifCond .ne 15, 3) := by decide +kernel
theorem dX5_countParts_30 : decode cX5_countParts 30 = .ok (.iinc 1 1, 3) := by decide +kernel
theorem dX5_countParts_33 : decode cX5_countParts 33 = .ok (.aload_n 0, 1) := by decide +kernel
theorem dX5_countParts_34 : decode cX5_countParts 34 = .ok (.aload_n 0, 1) := by decide +kernel
theorem dX5_countParts_35 : decode cX5_countParts 35 = .ok (.iload_n 2, 1) := by decide +kernel
theorem dX5_countParts_36 : decode cX5_countParts 36 = .ok (.invokevirtual 140, 3) := by decide +kernel
theorem dX5_countParts_39 : decode cX5_countParts 39 = .ok (.invokevirtual 143, 3) := by decide +kernel
theorem dX5_countParts_42 : decode cX5_countParts 42 = .ok (.iinc 2 1, 3) := by decide +kernel
theorem dX5_countParts_45 : decode cX5_countParts 45 = .ok (.goto (-36), 3) := by decide +kernel
theorem dX5_countParts_48 : decode cX5_countParts 48 = .ok (.iload_n 1, 1) := by decide +kernel
theorem dX5_countParts_49 : decode cX5_countParts 49 = .ok (.ireturn, 1) := by decide +kernel
def hX5_countParts_9 (f : Nat) (Φ : Int → aj_M → Prop) : Nat → List Nat → Int → Int → aj_M → Prop
  | 0, _, _, _, _ => False
  | k + 1, q0, v1, v2, m => rI v2 ∧ rI (m q0 0) ∧ ((m q0 0) ≤ v2 → Φ v1 m) ∧ (¬ ((m q0 0) ≤ v2) → rL (aj_landL (aj_lshr (m q0 15) v2) 1) ∧ (¬ (aj_landL (aj_lshr (m q0 15) v2) 1) = 0 → hX5_countParts_9 f Φ k q0 v1 (v2 + 1) m) ∧ ((aj_landL (aj_lshr (m q0 15) v2) 1) = 0 → wX5_spread f (fun z1 m1 => wX5_markReached f (fun m2 => hX5_countParts_9 f Φ k q0 (v1 + 1) (v2 + 1) m2) q0 z1 m1) q0 v2 m))
set_option maxHeartbeats 4000000 in
set_option maxRecDepth 100000 in
theorem tX5_countParts_9 {X : aj_T} {n f : Nat} {Φ : Int → aj_M → Prop} (C : aj_Cx X cX5_countParts RX5 3 (n + 2)) (K : aj_Rt X (some .int) (fun r m => ∃ z, r = some (vI z) ∧ Φ z m)) : ∀ (k : Nat) (q0 : List Nat) (v1 : Int) (v2 : Int) (m : aj_M) (hq0 : (.inl (5, q0) : aj_R) ∈ aj_pls), hX5_countParts_9 f Φ k q0 v1 v2 m → aj_J X 9 [some (vO 5 q0), some (vI v1), some (vI v2)] [] m := by
  intro k
  induction k with
  | zero =>
    intro q0 v1 v2 m _ h
    exact h.elim
  | succ k ih =>
    intro q0 v1 v2 m hq0 h
    unfold hX5_countParts_9 at h
    refine aj_iload_n C dX5_countParts_9 rfl ?_
    refine aj_aload_n C dX5_countParts_10 rfl ?_
    refine aj_getI C flX5_9 hq0 (by decide) dX5_countParts_11 rfl ?_
    obtain ⟨r0, r1, h1, h2⟩ := h
    refine aj_icmp_ge (tgt := 48) C dX5_countParts_14 (by decide) r0 r1 (fun e => ?_) (fun e => ?_)
    · have h := h1 e
      refine aj_iload_n C dX5_countParts_48 rfl ?_
      exact aj_iret C K dX5_countParts_49 ⟨_, rfl, h⟩
    · have h := h2 e
      refine aj_aload_n C dX5_countParts_17 rfl ?_
      refine aj_getL C flX5_59 hq0 rfl dX5_countParts_18 rfl ?_
      refine aj_iload_n C dX5_countParts_21 rfl ?_
      refine aj_lshr_ C dX5_countParts_22 ?_
      refine aj_lconst (z := 1) C dX5_countParts_23 rfl ?_
      refine aj_land C dX5_countParts_24 ?_
      refine aj_lconst (z := 0) C dX5_countParts_25 rfl ?_
      obtain ⟨r0, h1, h2⟩ := h
      refine aj_lcmp_ne (tgt := 42) C dX5_countParts_26 dX5_countParts_27 (by decide) r0 (by decide) (fun e => ?_) (fun e => ?_)
      · have h := h1 e
        refine aj_iinc (lv' := [some (vO 5 q0), some (vI v1), some (vI (v2 + 1))]) C dX5_countParts_42 rfl (by decide) rfl ?_
        refine aj_goto (tgt := 9) C dX5_countParts_45 (by decide) ?_
        exact ih q0 v1 (v2 + 1) _ hq0 h
      · have h := h2 e
        refine aj_iinc (lv' := [some (vO 5 q0), some (vI (v1 + 1)), some (vI v2)]) C dX5_countParts_30 rfl (by decide) rfl ?_
        refine aj_aload_n C dX5_countParts_33 rfl ?_
        refine aj_aload_n C dX5_countParts_34 rfl ?_
        refine aj_iload_n C dX5_countParts_35 rfl ?_
        refine aj_callV (rest := [vO 5 q0]) C mvX5_140 (sX5_spread hq0 h) hq0 (aj_np 1 (by decide +kernel) rfl) (Nat.le_of_ble_eq_true rfl) rfl dX5_countParts_36 (fun r m1 h => ?_)
        obtain ⟨z1, rfl, h⟩ := h
        refine aj_callV (rest := []) C mvX5_143 (sX5_markReached hq0 h) hq0 (aj_np 1 (by decide +kernel) rfl) (Nat.le_of_ble_eq_true rfl) rfl dX5_countParts_39 (fun r m2 h => ?_)
        obtain ⟨rfl, h⟩ := h
        refine aj_iinc (lv' := [some (vO 5 q0), some (vI (v1 + 1)), some (vI (v2 + 1))]) C dX5_countParts_42 rfl (by decide) rfl ?_
        refine aj_goto (tgt := 9) C dX5_countParts_45 (by decide) ?_
        exact ih q0 (v1 + 1) (v2 + 1) _ hq0 h
def wX5_countParts (f : Nat) (Φ : Int → aj_M → Prop) (q0 : List Nat) (m : aj_M) : Prop := ∀ m1, m1 = aj_u m q0 15 0 → hX5_countParts_9 f Φ f q0 0 0 m1
set_option maxHeartbeats 4000000 in
set_option maxRecDepth 100000 in
theorem sX5_countParts {n f : Nat} {Φ : Int → aj_M → Prop} {q0 : List Nat} {m : aj_M} (hq0 : (.inl (5, q0) : aj_R) ∈ aj_pls) (h : wX5_countParts f Φ q0 m) : aj_Ct (n + 2) yX5_countParts cX5_countParts 3 (some .int) [vO 5 q0] m (fun r m => ∃ z, r = some (vI z) ∧ Φ z m) := by
  refine aj_met (lv := [some (vO 5 q0), none, none]) (by decide +kernel) rfl (Nat.le_of_ble_eq_true rfl) (fun X C K => ?_)
  unfold wX5_countParts at h
  refine aj_iconst C dX5_countParts_0 ?_
  refine aj_istore_n (lv' := [some (vO 5 q0), some (vI 0), none]) C dX5_countParts_1 (by decide) rfl ?_
  refine aj_aload_n C dX5_countParts_2 rfl ?_
  refine aj_lconst (z := 0) C dX5_countParts_3 rfl ?_
  refine aj_putL C fpX5_59 hq0 rfl dX5_countParts_4 ?_
  refine aj_nm (fun m1 e1 => ?_)
  have h := h m1 e1
  refine aj_iconst C dX5_countParts_7 ?_
  refine aj_istore_n (lv' := [some (vO 5 q0), some (vI 0), some (vI 0)]) C dX5_countParts_8 (by decide) rfl ?_
  exact tX5_countParts_9 C K f q0 0 0 _ hq0 h
theorem dX5_isTwoColoured_0 : decode cX5_isTwoColoured 0 = .ok (.aload_n 0, 1) := by decide +kernel
theorem dX5_isTwoColoured_1 : decode cX5_isTwoColoured 1 = .ok (.lconst 0, 1) := by decide +kernel
theorem dX5_isTwoColoured_2 : decode cX5_isTwoColoured 2 = .ok (.putfield 59, 3) := by decide +kernel
theorem dX5_isTwoColoured_5 : decode cX5_isTwoColoured 5 = .ok (.iconst 0, 1) := by decide +kernel
theorem dX5_isTwoColoured_6 : decode cX5_isTwoColoured 6 = .ok (.istore_n 1, 1) := by decide +kernel
theorem dX5_isTwoColoured_7 : decode cX5_isTwoColoured 7 = .ok (.iload_n 1, 1) := by decide +kernel
theorem dX5_isTwoColoured_8 : decode cX5_isTwoColoured 8 = .ok (.aload_n 0, 1) := by decide +kernel
theorem dX5_isTwoColoured_9 : decode cX5_isTwoColoured 9 = .ok (.getfield 9, 3) := by decide +kernel
theorem dX5_isTwoColoured_12 : decode cX5_isTwoColoured 12 = .ok (.if_icmp .ge 83, 3) := by decide +kernel
theorem dX5_isTwoColoured_15 : decode cX5_isTwoColoured 15 = .ok (.aload_n 0, 1) := by decide +kernel
theorem dX5_isTwoColoured_16 : decode cX5_isTwoColoured 16 = .ok (.getfield 59, 3) := by decide +kernel
theorem dX5_isTwoColoured_19 : decode cX5_isTwoColoured 19 = .ok (.iload_n 1, 1) := by decide +kernel
theorem dX5_isTwoColoured_20 : decode cX5_isTwoColoured 20 = .ok (.lshr, 1) := by decide +kernel
theorem dX5_isTwoColoured_21 : decode cX5_isTwoColoured 21 = .ok (.lconst 1, 1) := by decide +kernel
theorem dX5_isTwoColoured_22 : decode cX5_isTwoColoured 22 = .ok (.land, 1) := by decide +kernel
theorem dX5_isTwoColoured_23 : decode cX5_isTwoColoured 23 = .ok (.lconst 0, 1) := by decide +kernel
theorem dX5_isTwoColoured_24 : decode cX5_isTwoColoured 24 = .ok (.lcmp, 1) := by decide +kernel
theorem dX5_isTwoColoured_25 : decode cX5_isTwoColoured 25 = .ok (.ifCond .ne 64, 3) := by decide +kernel
theorem dX5_isTwoColoured_28 : decode cX5_isTwoColoured 28 = .ok (.aload_n 0, 1) := by decide +kernel
theorem dX5_isTwoColoured_29 : decode cX5_isTwoColoured 29 = .ok (.aload_n 0, 1) := by decide +kernel
theorem dX5_isTwoColoured_30 : decode cX5_isTwoColoured 30 = .ok (.iload_n 1, 1) := by decide +kernel
theorem dX5_isTwoColoured_31 : decode cX5_isTwoColoured 31 = .ok (.invokevirtual 140, 3) := by decide +kernel
theorem dX5_isTwoColoured_34 : decode cX5_isTwoColoured 34 = .ok (.invokevirtual 143, 3) := by decide +kernel
theorem dX5_isTwoColoured_37 : decode cX5_isTwoColoured 37 = .ok (.iconst 0, 1) := by decide +kernel
theorem dX5_isTwoColoured_38 : decode cX5_isTwoColoured 38 = .ok (.istore_n 2, 1) := by decide +kernel
theorem dX5_isTwoColoured_39 : decode cX5_isTwoColoured 39 = .ok (.iload_n 2, 1) := by decide +kernel
theorem dX5_isTwoColoured_40 : decode cX5_isTwoColoured 40 = .ok (.aload_n 0, 1) := by decide +kernel
theorem dX5_isTwoColoured_41 : decode cX5_isTwoColoured 41 = .ok (.getfield 15, 3) := by decide +kernel
theorem dX5_isTwoColoured_44 : decode cX5_isTwoColoured 44 = .ok (.if_icmp .ge 45, 3) := by decide +kernel
theorem dX5_isTwoColoured_47 : decode cX5_isTwoColoured 47 = .ok (.aload_n 0, 1) := by decide +kernel
theorem dX5_isTwoColoured_48 : decode cX5_isTwoColoured 48 = .ok (.getfield 44, 3) := by decide +kernel
theorem dX5_isTwoColoured_51 : decode cX5_isTwoColoured 51 = .ok (.aload_n 0, 1) := by decide +kernel
theorem dX5_isTwoColoured_52 : decode cX5_isTwoColoured 52 = .ok (.getfield 18, 3) := by decide +kernel
theorem dX5_isTwoColoured_55 : decode cX5_isTwoColoured 55 = .ok (.iload_n 2, 1) := by decide +kernel
theorem dX5_isTwoColoured_56 : decode cX5_isTwoColoured 56 = .ok (.iaload, 1) := by decide +kernel
theorem dX5_isTwoColoured_57 : decode cX5_isTwoColoured 57 = .ok (.iaload, 1) := by decide +kernel
theorem dX5_isTwoColoured_58 : decode cX5_isTwoColoured 58 = .ok (.istore_n 3, 1) := by decide +kernel
theorem dX5_isTwoColoured_59 : decode cX5_isTwoColoured 59 = .ok (.iload_n 3, 1) := by decide +kernel
theorem dX5_isTwoColoured_60 : decode cX5_isTwoColoured 60 = .ok (.ifCond .lt 23, 3) := by decide +kernel
theorem dX5_isTwoColoured_63 : decode cX5_isTwoColoured 63 = .ok (.iload_n 3, 1) := by decide +kernel
theorem dX5_isTwoColoured_64 : decode cX5_isTwoColoured 64 = .ok (.aload_n 0, 1) := by decide +kernel
theorem dX5_isTwoColoured_65 : decode cX5_isTwoColoured 65 = .ok (.getfield 44, 3) := by decide +kernel
theorem dX5_isTwoColoured_68 : decode cX5_isTwoColoured 68 = .ok (.aload_n 0, 1) := by decide +kernel
theorem dX5_isTwoColoured_69 : decode cX5_isTwoColoured 69 = .ok (.getfield 22, 3) := by decide +kernel
theorem dX5_isTwoColoured_72 : decode cX5_isTwoColoured 72 = .ok (.iload_n 2, 1) := by decide +kernel
theorem dX5_isTwoColoured_73 : decode cX5_isTwoColoured 73 = .ok (.iaload, 1) := by decide +kernel
theorem dX5_isTwoColoured_74 : decode cX5_isTwoColoured 74 = .ok (.iaload, 1) := by decide +kernel
theorem dX5_isTwoColoured_75 : decode cX5_isTwoColoured 75 = .ok (.isub, 1) := by decide +kernel
theorem dX5_isTwoColoured_76 : decode cX5_isTwoColoured 76 = .ok (.iconst 2, 1) := by decide +kernel
theorem dX5_isTwoColoured_77 : decode cX5_isTwoColoured 77 = .ok (.irem, 1) := by decide +kernel
theorem dX5_isTwoColoured_78 : decode cX5_isTwoColoured 78 = .ok (.ifCond .ne 5, 3) := by decide +kernel
theorem dX5_isTwoColoured_81 : decode cX5_isTwoColoured 81 = .ok (.iconst 0, 1) := by decide +kernel
theorem dX5_isTwoColoured_82 : decode cX5_isTwoColoured 82 = .ok (.ireturn, 1) := by decide +kernel
theorem dX5_isTwoColoured_83 : decode cX5_isTwoColoured 83 = .ok (.iinc 2 1, 3) := by decide +kernel
theorem dX5_isTwoColoured_86 : decode cX5_isTwoColoured 86 = .ok (.goto (-47), 3) := by decide +kernel
theorem dX5_isTwoColoured_89 : decode cX5_isTwoColoured 89 = .ok (.iinc 1 1, 3) := by decide +kernel
theorem dX5_isTwoColoured_92 : decode cX5_isTwoColoured 92 = .ok (.goto (-85), 3) := by decide +kernel
theorem dX5_isTwoColoured_95 : decode cX5_isTwoColoured 95 = .ok (.iconst 1, 1) := by decide +kernel
theorem dX5_isTwoColoured_96 : decode cX5_isTwoColoured 96 = .ok (.ireturn, 1) := by decide +kernel
def hX5_isTwoColoured_39 (f : Nat) (Φ : Int → aj_M → Prop) (K7 : List Nat → Int → aj_M → Prop) : Nat → List Nat → Int → Int → aj_M → Prop
  | 0, _, _, _, _ => False
  | k + 1, q0, v1, v2, m => rI v2 ∧ rI (m q0 1) ∧ ((m q0 1) ≤ v2 → K7 q0 (v1 + 1) m) ∧ (¬ ((m q0 1) ≤ v2) → (0 ≤ v2 ∧ v2 < 144) ∧ (0 ≤ (m (2 :: q0) v2.toNat) ∧ (m (2 :: q0) v2.toNat) < 60) ∧ rI (m (10 :: q0) (m (2 :: q0) v2.toNat).toNat) ∧ ((m (10 :: q0) (m (2 :: q0) v2.toNat).toNat) < 0 → hX5_isTwoColoured_39 f Φ K7 k q0 v1 (v2 + 1) m) ∧ (¬ ((m (10 :: q0) (m (2 :: q0) v2.toNat).toNat) < 0) → (0 ≤ v2 ∧ v2 < 144) ∧ (0 ≤ (m (3 :: q0) v2.toNat) ∧ (m (3 :: q0) v2.toNat) < 60) ∧ rI ((m (10 :: q0) (m (2 :: q0) v2.toNat).toNat) - (m (10 :: q0) (m (3 :: q0) v2.toNat).toNat)) ∧ rI (Int.tmod ((m (10 :: q0) (m (2 :: q0) v2.toNat).toNat) - (m (10 :: q0) (m (3 :: q0) v2.toNat).toNat)) 2) ∧ (¬ (Int.tmod ((m (10 :: q0) (m (2 :: q0) v2.toNat).toNat) - (m (10 :: q0) (m (3 :: q0) v2.toNat).toNat)) 2) = 0 → hX5_isTwoColoured_39 f Φ K7 k q0 v1 (v2 + 1) m) ∧ ((Int.tmod ((m (10 :: q0) (m (2 :: q0) v2.toNat).toNat) - (m (10 :: q0) (m (3 :: q0) v2.toNat).toNat)) 2) = 0 → Φ 0 m)))
set_option maxHeartbeats 4000000 in
set_option maxRecDepth 100000 in
theorem tX5_isTwoColoured_39 {X : aj_T} {n f : Nat} {Φ : Int → aj_M → Prop} (C : aj_Cx X cX5_isTwoColoured RX5 4 (n + 2)) (K : aj_Rt X (some .boolean) (fun r m => ∃ z, r = some (vI z) ∧ Φ z m)) {K7 : List Nat → Int → aj_M → Prop} (HK7 : ∀ (q0 : List Nat) (v1 : Int) (m : aj_M) (hq0 : (.inl (5, q0) : aj_R) ∈ aj_pls), K7 q0 v1 m → aj_J X 7 [some (vO 5 q0), some (vI v1), none, none] [] m) : ∀ (k : Nat) (q0 : List Nat) (v1 : Int) (v2 : Int) (m : aj_M) (hq0 : (.inl (5, q0) : aj_R) ∈ aj_pls), hX5_isTwoColoured_39 f Φ K7 k q0 v1 v2 m → aj_J X 39 [some (vO 5 q0), some (vI v1), some (vI v2), none] [] m := by
  intro k
  induction k with
  | zero =>
    intro q0 v1 v2 m _ h
    exact h.elim
  | succ k ih =>
    intro q0 v1 v2 m hq0 h
    unfold hX5_isTwoColoured_39 at h
    refine aj_iload_n C dX5_isTwoColoured_39 rfl ?_
    refine aj_aload_n C dX5_isTwoColoured_40 rfl ?_
    refine aj_getI C flX5_15 hq0 (by decide) dX5_isTwoColoured_41 rfl ?_
    obtain ⟨r0, r1, h1, h2⟩ := h
    refine aj_icmp_ge (tgt := 89) C dX5_isTwoColoured_44 (by decide) r0 r1 (fun e => ?_) (fun e => ?_)
    · have h := h1 e
      refine aj_iinc (lv' := [some (vO 5 q0), some (vI (v1 + 1)), some (vI v2), none]) C dX5_isTwoColoured_89 rfl (by decide) rfl ?_
      refine aj_goto (tgt := 7) C dX5_isTwoColoured_92 (by decide) ?_
      refine aj_wk (lv' := [some (vO 5 q0), some (vI (v1 + 1)), none, none]) (⟨rfl, ⟨rfl, trivial⟩⟩) ?_
      exact HK7 q0 (v1 + 1) _ hq0 h
    · have h := h2 e
      refine aj_aload_n C dX5_isTwoColoured_47 rfl ?_
      refine aj_getA (x := 0) (y := 60) C flX5_44 hq0 rfl dX5_isTwoColoured_48 ?_
      refine aj_aload_n C dX5_isTwoColoured_51 rfl ?_
      refine aj_getA (x := 0) (y := 144) C flX5_18 hq0 rfl dX5_isTwoColoured_52 ?_
      refine aj_iload_n C dX5_isTwoColoured_55 rfl ?_
      obtain ⟨r0, h⟩ := h
      refine aj_iald C (aj_ca (e := 0) (n := 144) (j := 2) hq0 (by decide) rfl) (by decide) r0 dX5_isTwoColoured_56 rfl ?_
      obtain ⟨r0, h⟩ := h
      refine aj_iald C (aj_ca (e := 0) (n := 60) (j := 10) hq0 (by decide) rfl) (by decide) r0 dX5_isTwoColoured_57 rfl ?_
      refine aj_istore_n (lv' := [some (vO 5 q0), some (vI v1), some (vI v2), some (vI (m (10 :: q0) (m (2 :: q0) v2.toNat).toNat))]) C dX5_isTwoColoured_58 (by decide) rfl ?_
      refine aj_iload_n C dX5_isTwoColoured_59 rfl ?_
      obtain ⟨r0, h1, h2⟩ := h
      refine aj_if_lt (tgt := 83) C dX5_isTwoColoured_60 (by decide) r0 (fun e => ?_) (fun e => ?_)
      · have h := h1 e
        refine aj_iinc (lv' := [some (vO 5 q0), some (vI v1), some (vI (v2 + 1)), some (vI (m (10 :: q0) (m (2 :: q0) v2.toNat).toNat))]) C dX5_isTwoColoured_83 rfl (by decide) rfl ?_
        refine aj_goto (tgt := 39) C dX5_isTwoColoured_86 (by decide) ?_
        refine aj_wk (lv' := [some (vO 5 q0), some (vI v1), some (vI (v2 + 1)), none]) (⟨rfl, ⟨rfl, ⟨rfl, trivial⟩⟩⟩) ?_
        exact ih q0 v1 (v2 + 1) _ hq0 h
      · have h := h2 e
        refine aj_iload_n C dX5_isTwoColoured_63 rfl ?_
        refine aj_aload_n C dX5_isTwoColoured_64 rfl ?_
        refine aj_getA (x := 0) (y := 60) C flX5_44 hq0 rfl dX5_isTwoColoured_65 ?_
        refine aj_aload_n C dX5_isTwoColoured_68 rfl ?_
        refine aj_getA (x := 0) (y := 144) C flX5_22 hq0 rfl dX5_isTwoColoured_69 ?_
        refine aj_iload_n C dX5_isTwoColoured_72 rfl ?_
        obtain ⟨r0, h⟩ := h
        refine aj_iald C (aj_ca (e := 0) (n := 144) (j := 3) hq0 (by decide) rfl) (by decide) r0 dX5_isTwoColoured_73 rfl ?_
        obtain ⟨r0, h⟩ := h
        refine aj_iald C (aj_ca (e := 0) (n := 60) (j := 10) hq0 (by decide) rfl) (by decide) r0 dX5_isTwoColoured_74 rfl ?_
        refine aj_isub C dX5_isTwoColoured_75 ?_
        refine aj_iconst C dX5_isTwoColoured_76 ?_
        obtain ⟨r0, h⟩ := h
        refine aj_irem C dX5_isTwoColoured_77 r0 (by decide) (by decide) ?_
        obtain ⟨r0, h1, h2⟩ := h
        refine aj_if_ne (tgt := 83) C dX5_isTwoColoured_78 (by decide) r0 (fun e => ?_) (fun e => ?_)
        · have h := h1 e
          refine aj_iinc (lv' := [some (vO 5 q0), some (vI v1), some (vI (v2 + 1)), some (vI (m (10 :: q0) (m (2 :: q0) v2.toNat).toNat))]) C dX5_isTwoColoured_83 rfl (by decide) rfl ?_
          refine aj_goto (tgt := 39) C dX5_isTwoColoured_86 (by decide) ?_
          refine aj_wk (lv' := [some (vO 5 q0), some (vI v1), some (vI (v2 + 1)), none]) (⟨rfl, ⟨rfl, ⟨rfl, trivial⟩⟩⟩) ?_
          exact ih q0 v1 (v2 + 1) _ hq0 h
        · have h := h2 e
          refine aj_iconst C dX5_isTwoColoured_81 ?_
          exact aj_zret C K (Or.inl rfl) dX5_isTwoColoured_82 ⟨_, rfl, h⟩
def hX5_isTwoColoured_7 (f : Nat) (Φ : Int → aj_M → Prop) : Nat → List Nat → Int → aj_M → Prop
  | 0, _, _, _ => False
  | k + 1, q0, v1, m => rI v1 ∧ rI (m q0 0) ∧ ((m q0 0) ≤ v1 → Φ 1 m) ∧ (¬ ((m q0 0) ≤ v1) → rL (aj_landL (aj_lshr (m q0 15) v1) 1) ∧ (¬ (aj_landL (aj_lshr (m q0 15) v1) 1) = 0 → hX5_isTwoColoured_7 f Φ k q0 (v1 + 1) m) ∧ ((aj_landL (aj_lshr (m q0 15) v1) 1) = 0 → wX5_spread f (fun z1 m1 => wX5_markReached f (fun m2 => hX5_isTwoColoured_39 f Φ (fun q0 v1 m => hX5_isTwoColoured_7 f Φ k q0 v1 m) f q0 v1 0 m2) q0 z1 m1) q0 v1 m))
set_option maxHeartbeats 4000000 in
set_option maxRecDepth 100000 in
theorem tX5_isTwoColoured_7 {X : aj_T} {n f : Nat} {Φ : Int → aj_M → Prop} (C : aj_Cx X cX5_isTwoColoured RX5 4 (n + 2)) (K : aj_Rt X (some .boolean) (fun r m => ∃ z, r = some (vI z) ∧ Φ z m)) : ∀ (k : Nat) (q0 : List Nat) (v1 : Int) (m : aj_M) (hq0 : (.inl (5, q0) : aj_R) ∈ aj_pls), hX5_isTwoColoured_7 f Φ k q0 v1 m → aj_J X 7 [some (vO 5 q0), some (vI v1), none, none] [] m := by
  intro k
  induction k with
  | zero =>
    intro q0 v1 m _ h
    exact h.elim
  | succ k ih =>
    intro q0 v1 m hq0 h
    unfold hX5_isTwoColoured_7 at h
    refine aj_iload_n C dX5_isTwoColoured_7 rfl ?_
    refine aj_aload_n C dX5_isTwoColoured_8 rfl ?_
    refine aj_getI C flX5_9 hq0 (by decide) dX5_isTwoColoured_9 rfl ?_
    obtain ⟨r0, r1, h1, h2⟩ := h
    refine aj_icmp_ge (tgt := 95) C dX5_isTwoColoured_12 (by decide) r0 r1 (fun e => ?_) (fun e => ?_)
    · have h := h1 e
      refine aj_iconst C dX5_isTwoColoured_95 ?_
      exact aj_zret C K (Or.inr rfl) dX5_isTwoColoured_96 ⟨_, rfl, h⟩
    · have h := h2 e
      refine aj_aload_n C dX5_isTwoColoured_15 rfl ?_
      refine aj_getL C flX5_59 hq0 rfl dX5_isTwoColoured_16 rfl ?_
      refine aj_iload_n C dX5_isTwoColoured_19 rfl ?_
      refine aj_lshr_ C dX5_isTwoColoured_20 ?_
      refine aj_lconst (z := 1) C dX5_isTwoColoured_21 rfl ?_
      refine aj_land C dX5_isTwoColoured_22 ?_
      refine aj_lconst (z := 0) C dX5_isTwoColoured_23 rfl ?_
      obtain ⟨r0, h1, h2⟩ := h
      refine aj_lcmp_ne (tgt := 89) C dX5_isTwoColoured_24 dX5_isTwoColoured_25 (by decide) r0 (by decide) (fun e => ?_) (fun e => ?_)
      · have h := h1 e
        refine aj_iinc (lv' := [some (vO 5 q0), some (vI (v1 + 1)), none, none]) C dX5_isTwoColoured_89 rfl (by decide) rfl ?_
        refine aj_goto (tgt := 7) C dX5_isTwoColoured_92 (by decide) ?_
        exact ih q0 (v1 + 1) _ hq0 h
      · have h := h2 e
        refine aj_aload_n C dX5_isTwoColoured_28 rfl ?_
        refine aj_aload_n C dX5_isTwoColoured_29 rfl ?_
        refine aj_iload_n C dX5_isTwoColoured_30 rfl ?_
        refine aj_callV (rest := [vO 5 q0]) C mvX5_140 (sX5_spread hq0 h) hq0 (aj_np 1 (by decide +kernel) rfl) (Nat.le_of_ble_eq_true rfl) rfl dX5_isTwoColoured_31 (fun r m1 h => ?_)
        obtain ⟨z1, rfl, h⟩ := h
        refine aj_callV (rest := []) C mvX5_143 (sX5_markReached hq0 h) hq0 (aj_np 1 (by decide +kernel) rfl) (Nat.le_of_ble_eq_true rfl) rfl dX5_isTwoColoured_34 (fun r m2 h => ?_)
        obtain ⟨rfl, h⟩ := h
        refine aj_iconst C dX5_isTwoColoured_37 ?_
        refine aj_istore_n (lv' := [some (vO 5 q0), some (vI v1), some (vI 0), none]) C dX5_isTwoColoured_38 (by decide) rfl ?_
        exact tX5_isTwoColoured_39 C K (fun q0 v1 m hq0 hh => ih q0 v1 m hq0 hh) f q0 v1 0 _ hq0 h
def wX5_isTwoColoured (f : Nat) (Φ : Int → aj_M → Prop) (q0 : List Nat) (m : aj_M) : Prop := ∀ m1, m1 = aj_u m q0 15 0 → hX5_isTwoColoured_7 f Φ f q0 0 m1
set_option maxHeartbeats 4000000 in
set_option maxRecDepth 100000 in
theorem sX5_isTwoColoured {n f : Nat} {Φ : Int → aj_M → Prop} {q0 : List Nat} {m : aj_M} (hq0 : (.inl (5, q0) : aj_R) ∈ aj_pls) (h : wX5_isTwoColoured f Φ q0 m) : aj_Ct (n + 2) yX5_isTwoColoured cX5_isTwoColoured 4 (some .boolean) [vO 5 q0] m (fun r m => ∃ z, r = some (vI z) ∧ Φ z m) := by
  refine aj_met (lv := [some (vO 5 q0), none, none, none]) (by decide +kernel) rfl (Nat.le_of_ble_eq_true rfl) (fun X C K => ?_)
  unfold wX5_isTwoColoured at h
  refine aj_aload_n C dX5_isTwoColoured_0 rfl ?_
  refine aj_lconst (z := 0) C dX5_isTwoColoured_1 rfl ?_
  refine aj_putL C fpX5_59 hq0 rfl dX5_isTwoColoured_2 ?_
  refine aj_nm (fun m1 e1 => ?_)
  have h := h m1 e1
  refine aj_iconst C dX5_isTwoColoured_5 ?_
  refine aj_istore_n (lv' := [some (vO 5 q0), some (vI 0), none, none]) C dX5_isTwoColoured_6 (by decide) rfl ?_
  exact tX5_isTwoColoured_7 C K f q0 0 _ hq0 h
theorem dX5_widest_0 : decode cX5_widest 0 = .ok (.iconst 0, 1) := by decide +kernel
theorem dX5_widest_1 : decode cX5_widest 1 = .ok (.istore_n 1, 1) := by decide +kernel
theorem dX5_widest_2 : decode cX5_widest 2 = .ok (.iconst 0, 1) := by decide +kernel
theorem dX5_widest_3 : decode cX5_widest 3 = .ok (.istore_n 2, 1) := by decide +kernel
theorem dX5_widest_4 : decode cX5_widest 4 = .ok (.iload_n 2, 1) := by decide +kernel
theorem dX5_widest_5 : decode cX5_widest 5 = .ok (.aload_n 0, 1) := by decide +kernel
theorem dX5_widest_6 : decode cX5_widest 6 = .ok (.getfield 9, 3) := by decide +kernel
theorem dX5_widest_9 : decode cX5_widest 9 = .ok (.if_icmp .ge 43, 3) := by decide +kernel
theorem dX5_widest_12 : decode cX5_widest 12 = .ok (.aload_n 0, 1) := by decide +kernel
theorem dX5_widest_13 : decode cX5_widest 13 = .ok (.iload_n 2, 1) := by decide +kernel
theorem dX5_widest_14 : decode cX5_widest 14 = .ok (.invokevirtual 140, 3) := by decide +kernel
theorem dX5_widest_17 : decode cX5_widest 17 = .ok (.istore_n 3, 1) := by decide +kernel
theorem dX5_widest_18 : decode cX5_widest 18 = .ok (.iload_n 3, 1) := by decide +kernel
theorem dX5_widest_19 : decode cX5_widest 19 = .ok (.aload_n 0, 1) := by decide +kernel
theorem dX5_widest_20 : decode cX5_widest 20 = .ok (.getfield 9, 3) := by decide +kernel
theorem dX5_widest_23 : decode cX5_widest 23 = .ok (.if_icmp .ge 5, 3) := by decide +kernel
theorem dX5_widest_26 : decode cX5_widest 26 = .ok (.iconst (-1), 1) := by decide +kernel
theorem dX5_widest_27 : decode cX5_widest 27 = .ok (.ireturn, 1) := by decide +kernel
theorem dX5_widest_28 : decode cX5_widest 28 = .ok (.iload_n 1, 1) := by decide +kernel
theorem dX5_widest_29 : decode cX5_widest 29 = .ok (.aload_n 0, 1) := by decide +kernel
theorem dX5_widest_30 : decode cX5_widest 30 = .ok (.getfield 44, 3) := by decide +kernel
theorem dX5_widest_33 : decode cX5_widest 33 = .ok (.aload_n 0, 1) := by decide +kernel
theorem dX5_widest_34 : decode cX5_widest 34 = .ok (.getfield 56, 3) := by decide +kernel
theorem dX5_widest_37 : decode cX5_widest 37 = .ok (.iload_n 3, 1) := by decide +kernel
theorem dX5_widest_38 : decode cX5_widest 38 = .ok (.iconst 1, 1) := by decide +kernel
theorem dX5_widest_39 : decode cX5_widest 39 = .ok (.isub, 1) := by decide +kernel
theorem dX5_widest_40 : decode cX5_widest 40 = .ok (.iaload, 1) := by decide +kernel
theorem dX5_widest_41 : decode cX5_widest 41 = .ok (.iaload, 1) := by decide +kernel
theorem dX5_widest_42 : decode cX5_widest 42 = .ok (.invokestatic 146, 3) := by decide +kernel
theorem dX5_widest_45 : decode cX5_widest 45 = .ok (.istore_n 1, 1) := by decide +kernel
theorem dX5_widest_46 : decode cX5_widest 46 = .ok (.iinc 2 1, 3) := by decide +kernel
theorem dX5_widest_49 : decode cX5_widest 49 = .ok (.goto (-45), 3) := by decide +kernel
theorem dX5_widest_52 : decode cX5_widest 52 = .ok (.iload_n 1, 1) := by decide +kernel
theorem dX5_widest_53 : decode cX5_widest 53 = .ok (.ireturn, 1) := by decide +kernel
def hX5_widest_4 (f : Nat) (Φ : Int → aj_M → Prop) : Nat → List Nat → Int → Int → aj_M → Prop
  | 0, _, _, _, _ => False
  | k + 1, q0, v1, v2, m => rI v2 ∧ rI (m q0 0) ∧ ((m q0 0) ≤ v2 → Φ v1 m) ∧ (¬ ((m q0 0) ≤ v2) → wX5_spread f (fun z1 m1 => rI z1 ∧ rI (m1 q0 0) ∧ ((m1 q0 0) ≤ z1 → (0 ≤ (z1 - 1) ∧ (z1 - 1) < 60) ∧ (0 ≤ (m1 (14 :: q0) (z1 - 1).toNat) ∧ (m1 (14 :: q0) (z1 - 1).toNat) < 60) ∧ rI v1 ∧ rI (m1 (10 :: q0) (m1 (14 :: q0) (z1 - 1).toNat).toNat) ∧ hX5_widest_4 f Φ k q0 (max v1 (m1 (10 :: q0) (m1 (14 :: q0) (z1 - 1).toNat).toNat)) (v2 + 1) m1) ∧ (¬ ((m1 q0 0) ≤ z1) → Φ (-1) m1)) q0 v2 m)
set_option maxHeartbeats 4000000 in
set_option maxRecDepth 100000 in
theorem tX5_widest_4 {X : aj_T} {n f : Nat} {Φ : Int → aj_M → Prop} (C : aj_Cx X cX5_widest RX5 4 (n + 2)) (K : aj_Rt X (some .int) (fun r m => ∃ z, r = some (vI z) ∧ Φ z m)) : ∀ (k : Nat) (q0 : List Nat) (v1 : Int) (v2 : Int) (m : aj_M) (hq0 : (.inl (5, q0) : aj_R) ∈ aj_pls), hX5_widest_4 f Φ k q0 v1 v2 m → aj_J X 4 [some (vO 5 q0), some (vI v1), some (vI v2), none] [] m := by
  intro k
  induction k with
  | zero =>
    intro q0 v1 v2 m _ h
    exact h.elim
  | succ k ih =>
    intro q0 v1 v2 m hq0 h
    unfold hX5_widest_4 at h
    refine aj_iload_n C dX5_widest_4 rfl ?_
    refine aj_aload_n C dX5_widest_5 rfl ?_
    refine aj_getI C flX5_9 hq0 (by decide) dX5_widest_6 rfl ?_
    obtain ⟨r0, r1, h1, h2⟩ := h
    refine aj_icmp_ge (tgt := 52) C dX5_widest_9 (by decide) r0 r1 (fun e => ?_) (fun e => ?_)
    · have h := h1 e
      refine aj_iload_n C dX5_widest_52 rfl ?_
      exact aj_iret C K dX5_widest_53 ⟨_, rfl, h⟩
    · have h := h2 e
      refine aj_aload_n C dX5_widest_12 rfl ?_
      refine aj_iload_n C dX5_widest_13 rfl ?_
      refine aj_callV (rest := []) C mvX5_140 (sX5_spread hq0 h) hq0 (aj_np 1 (by decide +kernel) rfl) (Nat.le_of_ble_eq_true rfl) rfl dX5_widest_14 (fun r m1 h => ?_)
      obtain ⟨z1, rfl, h⟩ := h
      refine aj_istore_n (lv' := [some (vO 5 q0), some (vI v1), some (vI v2), some (vI z1)]) C dX5_widest_17 (by decide) rfl ?_
      refine aj_iload_n C dX5_widest_18 rfl ?_
      refine aj_aload_n C dX5_widest_19 rfl ?_
      refine aj_getI C flX5_9 hq0 (by decide) dX5_widest_20 rfl ?_
      obtain ⟨r0, r1, h1, h2⟩ := h
      refine aj_icmp_ge (tgt := 28) C dX5_widest_23 (by decide) r0 r1 (fun e => ?_) (fun e => ?_)
      · have h := h1 e
        refine aj_iload_n C dX5_widest_28 rfl ?_
        refine aj_aload_n C dX5_widest_29 rfl ?_
        refine aj_getA (x := 0) (y := 60) C flX5_44 hq0 rfl dX5_widest_30 ?_
        refine aj_aload_n C dX5_widest_33 rfl ?_
        refine aj_getA (x := 0) (y := 60) C flX5_56 hq0 rfl dX5_widest_34 ?_
        refine aj_iload_n C dX5_widest_37 rfl ?_
        refine aj_iconst C dX5_widest_38 ?_
        refine aj_isub C dX5_widest_39 ?_
        obtain ⟨r0, h⟩ := h
        refine aj_iald C (aj_ca (e := 0) (n := 60) (j := 14) hq0 (by decide) rfl) (by decide) r0 dX5_widest_40 rfl ?_
        obtain ⟨r0, h⟩ := h
        refine aj_iald C (aj_ca (e := 0) (n := 60) (j := 10) hq0 (by decide) rfl) (by decide) r0 dX5_widest_41 rfl ?_
        obtain ⟨r0, r1, h⟩ := h
        refine aj_mmax C msX5_146 (Nat.le_of_ble_eq_true rfl) r0 r1 dX5_widest_42 ?_
        refine aj_istore_n (lv' := [some (vO 5 q0), some (vI (max v1 (m1 (10 :: q0) (m1 (14 :: q0) (z1 - 1).toNat).toNat))), some (vI v2), some (vI z1)]) C dX5_widest_45 (by decide) rfl ?_
        refine aj_iinc (lv' := [some (vO 5 q0), some (vI (max v1 (m1 (10 :: q0) (m1 (14 :: q0) (z1 - 1).toNat).toNat))), some (vI (v2 + 1)), some (vI z1)]) C dX5_widest_46 rfl (by decide) rfl ?_
        refine aj_goto (tgt := 4) C dX5_widest_49 (by decide) ?_
        refine aj_wk (lv' := [some (vO 5 q0), some (vI (max v1 (m1 (10 :: q0) (m1 (14 :: q0) (z1 - 1).toNat).toNat))), some (vI (v2 + 1)), none]) (⟨rfl, ⟨rfl, ⟨rfl, trivial⟩⟩⟩) ?_
        exact ih q0 (max v1 (m1 (10 :: q0) (m1 (14 :: q0) (z1 - 1).toNat).toNat)) (v2 + 1) _ hq0 h
      · have h := h2 e
        refine aj_iconst C dX5_widest_26 ?_
        exact aj_iret C K dX5_widest_27 ⟨_, rfl, h⟩
def wX5_widest (f : Nat) (Φ : Int → aj_M → Prop) (q0 : List Nat) (m : aj_M) : Prop := hX5_widest_4 f Φ f q0 0 0 m
set_option maxHeartbeats 4000000 in
set_option maxRecDepth 100000 in
theorem sX5_widest {n f : Nat} {Φ : Int → aj_M → Prop} {q0 : List Nat} {m : aj_M} (hq0 : (.inl (5, q0) : aj_R) ∈ aj_pls) (h : wX5_widest f Φ q0 m) : aj_Ct (n + 2) yX5_widest cX5_widest 4 (some .int) [vO 5 q0] m (fun r m => ∃ z, r = some (vI z) ∧ Φ z m) := by
  refine aj_met (lv := [some (vO 5 q0), none, none, none]) (by decide +kernel) rfl (Nat.le_of_ble_eq_true rfl) (fun X C K => ?_)
  unfold wX5_widest at h
  refine aj_iconst C dX5_widest_0 ?_
  refine aj_istore_n (lv' := [some (vO 5 q0), some (vI 0), none, none]) C dX5_widest_1 (by decide) rfl ?_
  refine aj_iconst C dX5_widest_2 ?_
  refine aj_istore_n (lv' := [some (vO 5 q0), some (vI 0), some (vI 0), none]) C dX5_widest_3 (by decide) rfl ?_
  exact tX5_widest_4 C K f q0 0 0 _ hq0 h
theorem dX5_within_0 : decode cX5_within 0 = .ok (.aload_n 0, 1) := by decide +kernel
theorem dX5_within_1 : decode cX5_within 1 = .ok (.iload_n 1, 1) := by decide +kernel
theorem dX5_within_2 : decode cX5_within 2 = .ok (.invokevirtual 140, 3) := by decide +kernel
theorem dX5_within_5 : decode cX5_within 5 = .ok (.istore_n 3, 1) := by decide +kernel
theorem dX5_within_6 : decode cX5_within 6 = .ok (.iconst 0, 1) := by decide +kernel
theorem dX5_within_7 : decode cX5_within 7 = .ok (.istore 4, 2) := by decide +kernel
theorem dX5_within_9 : decode cX5_within 9 = .ok (.iconst 0, 1) := by decide +kernel
theorem dX5_within_10 : decode cX5_within 10 = .ok (.istore 5, 2) := by decide +kernel
theorem dX5_within_12 : decode cX5_within 12 = .ok (.iload 5, 2) := by decide +kernel
theorem dX5_within_14 : decode cX5_within 14 = .ok (.iload_n 3, 1) := by decide +kernel
theorem dX5_within_15 : decode cX5_within 15 = .ok (.if_icmp .ge 28, 3) := by decide +kernel
theorem dX5_within_18 : decode cX5_within 18 = .ok (.aload_n 0, 1) := by decide +kernel
theorem dX5_within_19 : decode cX5_within 19 = .ok (.getfield 44, 3) := by decide +kernel
theorem dX5_within_22 : decode cX5_within 22 = .ok (.aload_n 0, 1) := by decide +kernel
theorem dX5_within_23 : decode cX5_within 23 = .ok (.getfield 56, 3) := by decide +kernel
theorem dX5_within_26 : decode cX5_within 26 = .ok (.iload 5, 2) := by decide +kernel
theorem dX5_within_28 : decode cX5_within 28 = .ok (.iaload, 1) := by decide +kernel
theorem dX5_within_29 : decode cX5_within 29 = .ok (.iaload, 1) := by decide +kernel
theorem dX5_within_30 : decode cX5_within 30 = .ok (.iload_n 2, 1) := by decide +kernel
theorem dX5_within_31 : decode cX5_within 31 = .ok (.if_icmp .gt 12, 3) := by decide +kernel
theorem dX5_within_34 : decode cX5_within 34 = .ok (.iinc 4 1, 3) := by decide +kernel
theorem dX5_within_37 : decode cX5_within 37 = .ok (.iinc 5 1, 3) := by decide +kernel
theorem dX5_within_40 : decode cX5_within 40 = .ok (.goto (-28), 3) := by decide +kernel
theorem dX5_within_43 : decode cX5_within 43 = .ok (.iload 4, 2) := by decide +kernel
theorem dX5_within_45 : decode cX5_within 45 = .ok (.ireturn, 1) := by decide +kernel
def hX5_within_12 (f : Nat) (Φ : Int → aj_M → Prop) : Nat → List Nat → Int → Int → Int → Int → aj_M → Prop
  | 0, _, _, _, _, _, _ => False
  | k + 1, q0, v2, v3, v4, v5, m => rI v5 ∧ rI v3 ∧ (v3 ≤ v5 → Φ v4 m) ∧ (¬ (v3 ≤ v5) → (0 ≤ v5 ∧ v5 < 60) ∧ (0 ≤ (m (14 :: q0) v5.toNat) ∧ (m (14 :: q0) v5.toNat) < 60) ∧ rI (m (10 :: q0) (m (14 :: q0) v5.toNat).toNat) ∧ rI v2 ∧ (v2 < (m (10 :: q0) (m (14 :: q0) v5.toNat).toNat) → Φ v4 m) ∧ (¬ (v2 < (m (10 :: q0) (m (14 :: q0) v5.toNat).toNat)) → hX5_within_12 f Φ k q0 v2 v3 (v4 + 1) (v5 + 1) m))
set_option maxHeartbeats 4000000 in
set_option maxRecDepth 100000 in
theorem tX5_within_12 {X : aj_T} {n f : Nat} {Φ : Int → aj_M → Prop} (C : aj_Cx X cX5_within RX5 6 (n + 2)) (K : aj_Rt X (some .int) (fun r m => ∃ z, r = some (vI z) ∧ Φ z m)) : ∀ (k : Nat) (q0 : List Nat) (v2 : Int) (v3 : Int) (v4 : Int) (v5 : Int) (m : aj_M) (hq0 : (.inl (5, q0) : aj_R) ∈ aj_pls), hX5_within_12 f Φ k q0 v2 v3 v4 v5 m → aj_J X 12 [some (vO 5 q0), none, some (vI v2), some (vI v3), some (vI v4), some (vI v5)] [] m := by
  intro k
  induction k with
  | zero =>
    intro q0 v2 v3 v4 v5 m _ h
    exact h.elim
  | succ k ih =>
    intro q0 v2 v3 v4 v5 m hq0 h
    unfold hX5_within_12 at h
    refine aj_iload C dX5_within_12 rfl ?_
    refine aj_iload_n C dX5_within_14 rfl ?_
    obtain ⟨r0, r1, h1, h2⟩ := h
    refine aj_icmp_ge (tgt := 43) C dX5_within_15 (by decide) r0 r1 (fun e => ?_) (fun e => ?_)
    · have h := h1 e
      refine aj_iload C dX5_within_43 rfl ?_
      exact aj_iret C K dX5_within_45 ⟨_, rfl, h⟩
    · have h := h2 e
      refine aj_aload_n C dX5_within_18 rfl ?_
      refine aj_getA (x := 0) (y := 60) C flX5_44 hq0 rfl dX5_within_19 ?_
      refine aj_aload_n C dX5_within_22 rfl ?_
      refine aj_getA (x := 0) (y := 60) C flX5_56 hq0 rfl dX5_within_23 ?_
      refine aj_iload C dX5_within_26 rfl ?_
      obtain ⟨r0, h⟩ := h
      refine aj_iald C (aj_ca (e := 0) (n := 60) (j := 14) hq0 (by decide) rfl) (by decide) r0 dX5_within_28 rfl ?_
      obtain ⟨r0, h⟩ := h
      refine aj_iald C (aj_ca (e := 0) (n := 60) (j := 10) hq0 (by decide) rfl) (by decide) r0 dX5_within_29 rfl ?_
      refine aj_iload_n C dX5_within_30 rfl ?_
      obtain ⟨r0, r1, h1, h2⟩ := h
      refine aj_icmp_gt (tgt := 43) C dX5_within_31 (by decide) r0 r1 (fun e => ?_) (fun e => ?_)
      · have h := h1 e
        refine aj_iload C dX5_within_43 rfl ?_
        exact aj_iret C K dX5_within_45 ⟨_, rfl, h⟩
      · have h := h2 e
        refine aj_iinc (lv' := [some (vO 5 q0), none, some (vI v2), some (vI v3), some (vI (v4 + 1)), some (vI v5)]) C dX5_within_34 rfl (by decide) rfl ?_
        refine aj_iinc (lv' := [some (vO 5 q0), none, some (vI v2), some (vI v3), some (vI (v4 + 1)), some (vI (v5 + 1))]) C dX5_within_37 rfl (by decide) rfl ?_
        refine aj_goto (tgt := 12) C dX5_within_40 (by decide) ?_
        exact ih q0 v2 v3 (v4 + 1) (v5 + 1) _ hq0 h
def wX5_within (f : Nat) (Φ : Int → aj_M → Prop) (q0 : List Nat) (v1 : Int) (v2 : Int) (m : aj_M) : Prop := wX5_spread f (fun z1 m1 => hX5_within_12 f Φ f q0 v2 z1 0 0 m1) q0 v1 m
set_option maxHeartbeats 4000000 in
set_option maxRecDepth 100000 in
theorem sX5_within {n f : Nat} {Φ : Int → aj_M → Prop} {q0 : List Nat} {v1 : Int} {v2 : Int} {m : aj_M} (hq0 : (.inl (5, q0) : aj_R) ∈ aj_pls) (h : wX5_within f Φ q0 v1 v2 m) : aj_Ct (n + 2) yX5_within cX5_within 6 (some .int) [vO 5 q0, vI v1, vI v2] m (fun r m => ∃ z, r = some (vI z) ∧ Φ z m) := by
  refine aj_met (lv := [some (vO 5 q0), some (vI v1), some (vI v2), none, none, none]) (by decide +kernel) rfl (Nat.le_of_ble_eq_true rfl) (fun X C K => ?_)
  unfold wX5_within at h
  refine aj_aload_n C dX5_within_0 rfl ?_
  refine aj_iload_n C dX5_within_1 rfl ?_
  refine aj_callV (rest := []) C mvX5_140 (sX5_spread hq0 h) hq0 (aj_np 1 (by decide +kernel) rfl) (Nat.le_of_ble_eq_true rfl) rfl dX5_within_2 (fun r m1 h => ?_)
  obtain ⟨z1, rfl, h⟩ := h
  refine aj_istore_n (lv' := [some (vO 5 q0), some (vI v1), some (vI v2), some (vI z1), none, none]) C dX5_within_5 (by decide) rfl ?_
  refine aj_iconst C dX5_within_6 ?_
  refine aj_istore (lv' := [some (vO 5 q0), some (vI v1), some (vI v2), some (vI z1), some (vI 0), none]) C dX5_within_7 (by decide) rfl ?_
  refine aj_iconst C dX5_within_9 ?_
  refine aj_istore (lv' := [some (vO 5 q0), some (vI v1), some (vI v2), some (vI z1), some (vI 0), some (vI 0)]) C dX5_within_10 (by decide) rfl ?_
  refine aj_wk (lv' := [some (vO 5 q0), none, some (vI v2), some (vI z1), some (vI 0), some (vI 0)]) (⟨rfl, ⟨rfl, ⟨rfl, ⟨rfl, ⟨rfl, trivial⟩⟩⟩⟩⟩) ?_
  exact tX5_within_12 C K f q0 v2 z1 0 0 _ hq0 h
theorem dX5_shorterFrom_0 : decode cX5_shorterFrom 0 = .ok (.iload_n 2, 1) := by decide +kernel
theorem dX5_shorterFrom_1 : decode cX5_shorterFrom 1 = .ok (.istore_n 3, 1) := by decide +kernel
theorem dX5_shorterFrom_2 : decode cX5_shorterFrom 2 = .ok (.aload_n 0, 1) := by decide +kernel
theorem dX5_shorterFrom_3 : decode cX5_shorterFrom 3 = .ok (.getfield 44, 3) := by decide +kernel
theorem dX5_shorterFrom_6 : decode cX5_shorterFrom 6 = .ok (.iconst (-1), 1) := by decide +kernel
theorem dX5_shorterFrom_7 : decode cX5_shorterFrom 7 = .ok (.invokestatic 125, 3) := by decide +kernel
theorem dX5_shorterFrom_10 : decode cX5_shorterFrom 10 = .ok (.aload_n 0, 1) := by decide +kernel
theorem dX5_shorterFrom_11 : decode cX5_shorterFrom 11 = .ok (.getfield 44, 3) := by decide +kernel
theorem dX5_shorterFrom_14 : decode cX5_shorterFrom 14 = .ok (.iload_n 1, 1) := by decide +kernel
theorem dX5_shorterFrom_15 : decode cX5_shorterFrom 15 = .ok (.iconst 0, 1) := by decide +kernel
theorem dX5_shorterFrom_16 : decode cX5_shorterFrom 16 = .ok (.iastore, 1) := by decide +kernel
theorem dX5_shorterFrom_17 : decode cX5_shorterFrom 17 = .ok (.aload_n 0, 1) := by decide +kernel
theorem dX5_shorterFrom_18 : decode cX5_shorterFrom 18 = .ok (.getfield 50, 3) := by decide +kernel
theorem dX5_shorterFrom_21 : decode cX5_shorterFrom 21 = .ok (.iload_n 1, 1) := by decide +kernel
theorem dX5_shorterFrom_22 : decode cX5_shorterFrom 22 = .ok (.iconst (-1), 1) := by decide +kernel
theorem dX5_shorterFrom_23 : decode cX5_shorterFrom 23 = .ok (.iastore, 1) := by decide +kernel
theorem dX5_shorterFrom_24 : decode cX5_shorterFrom 24 = .ok (.aload_n 0, 1) := by decide +kernel
theorem dX5_shorterFrom_25 : decode cX5_shorterFrom 25 = .ok (.getfield 56, 3) := by decide +kernel
theorem dX5_shorterFrom_28 : decode cX5_shorterFrom 28 = .ok (.iconst 0, 1) := by decide +kernel
theorem dX5_shorterFrom_29 : decode cX5_shorterFrom 29 = .ok (.iload_n 1, 1) := by decide +kernel
theorem dX5_shorterFrom_30 : decode cX5_shorterFrom 30 = .ok (.iastore, 1) := by decide +kernel
theorem dX5_shorterFrom_31 : decode cX5_shorterFrom 31 = .ok (.iconst 1, 1) := by decide +kernel
theorem dX5_shorterFrom_32 : decode cX5_shorterFrom 32 = .ok (.istore 4, 2) := by decide +kernel
theorem dX5_shorterFrom_34 : decode cX5_shorterFrom 34 = .ok (.iconst 0, 1) := by decide +kernel
theorem dX5_shorterFrom_35 : decode cX5_shorterFrom 35 = .ok (.istore 5, 2) := by decide +kernel
theorem dX5_shorterFrom_37 : decode cX5_shorterFrom 37 = .ok (.iload 5, 2) := by decide +kernel
theorem dX5_shorterFrom_39 : decode cX5_shorterFrom 39 = .ok (.iload 4, 2) := by decide +kernel
theorem dX5_shorterFrom_41 : decode cX5_shorterFrom 41 = .ok (.if_icmp .ge 181, 3) := by decide +kernel
theorem dX5_shorterFrom_44 : decode cX5_shorterFrom 44 = .ok (.iconst 2, 1) := by decide +kernel
theorem dX5_shorterFrom_45 : decode cX5_shorterFrom 45 = .ok (.aload_n 0, 1) := by decide +kernel
theorem dX5_shorterFrom_46 : decode cX5_shorterFrom 46 = .ok (.getfield 44, 3) := by decide +kernel
theorem dX5_shorterFrom_49 : decode cX5_shorterFrom 49 = .ok (.aload_n 0, 1) := by decide +kernel
theorem dX5_shorterFrom_50 : decode cX5_shorterFrom 50 = .ok (.getfield 56, 3) := by decide +kernel
theorem dX5_shorterFrom_53 : decode cX5_shorterFrom 53 = .ok (.iload 5, 2) := by decide +kernel
theorem dX5_shorterFrom_55 : decode cX5_shorterFrom 55 = .ok (.iaload, 1) := by decide +kernel
theorem dX5_shorterFrom_56 : decode cX5_shorterFrom 56 = .ok (.iaload, 1) := by decide +kernel
theorem dX5_shorterFrom_57 : decode cX5_shorterFrom 57 = .ok (.imul, 1) := by decide +kernel
theorem dX5_shorterFrom_58 : decode cX5_shorterFrom 58 = .ok (.iconst 1, 1) := by decide +kernel
theorem dX5_shorterFrom_59 : decode cX5_shorterFrom 59 = .ok (.iadd, 1) := by decide +kernel
theorem dX5_shorterFrom_60 : decode cX5_shorterFrom 60 = .ok (.iload_n 3, 1) := by decide +kernel
theorem dX5_shorterFrom_61 : decode cX5_shorterFrom 61 = .ok (.if_icmp .ge 161, 3) := by decide +kernel
theorem dX5_shorterFrom_64 : decode cX5_shorterFrom 64 = .ok (.aload_n 0, 1) := by decide +kernel
theorem dX5_shorterFrom_65 : decode cX5_shorterFrom 65 = .ok (.getfield 56, 3) := by decide +kernel
theorem dX5_shorterFrom_68 : decode cX5_shorterFrom 68 = .ok (.iload 5, 2) := by decide +kernel
theorem dX5_shorterFrom_70 : decode cX5_shorterFrom 70 = .ok (.iaload, 1) := by decide +kernel
theorem dX5_shorterFrom_71 : decode cX5_shorterFrom 71 = .ok (.istore 6, 2) := by decide +kernel
theorem dX5_shorterFrom_73 : decode cX5_shorterFrom 73 = .ok (.aload_n 0, 1) := by decide +kernel
theorem dX5_shorterFrom_74 : decode cX5_shorterFrom 74 = .ok (.getfield 38, 3) := by decide +kernel
theorem dX5_shorterFrom_77 : decode cX5_shorterFrom 77 = .ok (.iload 6, 2) := by decide +kernel
theorem dX5_shorterFrom_79 : decode cX5_shorterFrom 79 = .ok (.iaload, 1) := by decide +kernel
theorem dX5_shorterFrom_80 : decode cX5_shorterFrom 80 = .ok (.istore 7, 2) := by decide +kernel
theorem dX5_shorterFrom_82 : decode cX5_shorterFrom 82 = .ok (.iload 7, 2) := by decide +kernel
theorem dX5_shorterFrom_84 : decode cX5_shorterFrom 84 = .ok (.aload_n 0, 1) := by decide +kernel
theorem dX5_shorterFrom_85 : decode cX5_shorterFrom 85 = .ok (.getfield 38, 3) := by decide +kernel
theorem dX5_shorterFrom_88 : decode cX5_shorterFrom 88 = .ok (.iload 6, 2) := by decide +kernel
theorem dX5_shorterFrom_90 : decode cX5_shorterFrom 90 = .ok (.iconst 1, 1) := by decide +kernel
theorem dX5_shorterFrom_91 : decode cX5_shorterFrom 91 = .ok (.iadd, 1) := by decide +kernel
theorem dX5_shorterFrom_92 : decode cX5_shorterFrom 92 = .ok (.iaload, 1) := by decide +kernel
theorem dX5_shorterFrom_93 : decode cX5_shorterFrom 93 = .ok (.if_icmp .ge 123, 3) := by decide +kernel
theorem dX5_shorterFrom_96 : decode cX5_shorterFrom 96 = .ok (.aload_n 0, 1) := by decide +kernel
theorem dX5_shorterFrom_97 : decode cX5_shorterFrom 97 = .ok (.getfield 41, 3) := by decide +kernel
theorem dX5_shorterFrom_100 : decode cX5_shorterFrom 100 = .ok (.iload 7, 2) := by decide +kernel
theorem dX5_shorterFrom_102 : decode cX5_shorterFrom 102 = .ok (.iaload, 1) := by decide +kernel
theorem dX5_shorterFrom_103 : decode cX5_shorterFrom 103 = .ok (.istore 8, 2) := by decide +kernel
theorem dX5_shorterFrom_105 : decode cX5_shorterFrom 105 = .ok (.aload_n 0, 1) := by decide +kernel
theorem dX5_shorterFrom_106 : decode cX5_shorterFrom 106 = .ok (.iload 8, 2) := by decide +kernel
theorem dX5_shorterFrom_108 : decode cX5_shorterFrom 108 = .ok (.iload 6, 2) := by decide +kernel
theorem dX5_shorterFrom_110 : decode cX5_shorterFrom 110 = .ok (.invokevirtual 131, 3) := by decide +kernel
theorem dX5_shorterFrom_113 : decode cX5_shorterFrom 113 = .ok (.istore 9, 2) := by decide +kernel
theorem dX5_shorterFrom_115 : decode cX5_shorterFrom 115 = .ok (.aload_n 0, 1) := by decide +kernel
theorem dX5_shorterFrom_116 : decode cX5_shorterFrom 116 = .ok (.getfield 44, 3) := by decide +kernel
theorem dX5_shorterFrom_119 : decode cX5_shorterFrom 119 = .ok (.iload 9, 2) := by decide +kernel
theorem dX5_shorterFrom_121 : decode cX5_shorterFrom 121 = .ok (.iaload, 1) := by decide +kernel
theorem dX5_shorterFrom_122 : decode cX5_shorterFrom 122 = .ok (.ifCond .lt 44, 3) := by decide +kernel
theorem dX5_shorterFrom_125 : decode cX5_shorterFrom 125 = .ok (.iload 8, 2) := by decide +kernel
theorem dX5_shorterFrom_127 : decode cX5_shorterFrom 127 = .ok (.aload_n 0, 1) := by decide +kernel
theorem dX5_shorterFrom_128 : decode cX5_shorterFrom 128 = .ok (.getfield 50, 3) := by decide +kernel
theorem dX5_shorterFrom_131 : decode cX5_shorterFrom 131 = .ok (.iload 6, 2) := by decide +kernel
theorem dX5_shorterFrom_133 : decode cX5_shorterFrom 133 = .ok (.iaload, 1) := by decide +kernel
theorem dX5_shorterFrom_134 : decode cX5_shorterFrom 134 = .ok (.if_icmp .ne 7, 3) := by decide +kernel
theorem dX5_shorterFrom_137 : decode cX5_shorterFrom 137 = .ok (.iload_n 3, 1) := by decide +kernel
theorem dX5_shorterFrom_138 : decode cX5_shorterFrom 138 = .ok (.goto 24, 3) := by decide +kernel
theorem dX5_shorterFrom_141 : decode cX5_shorterFrom 141 = .ok (.iload_n 3, 1) := by decide +kernel
theorem dX5_shorterFrom_142 : decode cX5_shorterFrom 142 = .ok (.aload_n 0, 1) := by decide +kernel
theorem dX5_shorterFrom_143 : decode cX5_shorterFrom 143 = .ok (.getfield 44, 3) := by decide +kernel
theorem dX5_shorterFrom_146 : decode cX5_shorterFrom 146 = .ok (.iload 6, 2) := by decide +kernel
theorem dX5_shorterFrom_148 : decode cX5_shorterFrom 148 = .ok (.iaload, 1) := by decide +kernel
theorem dX5_shorterFrom_149 : decode cX5_shorterFrom 149 = .ok (.aload_n 0, 1) := by decide +kernel
theorem dX5_shorterFrom_150 : decode cX5_shorterFrom 150 = .ok (.getfield 44, 3) := by decide +kernel
theorem dX5_shorterFrom_153 : decode cX5_shorterFrom 153 = .ok (.iload 9, 2) := by decide +kernel
theorem dX5_shorterFrom_155 : decode cX5_shorterFrom 155 = .ok (.iaload, 1) := by decide +kernel
theorem dX5_shorterFrom_156 : decode cX5_shorterFrom 156 = .ok (.iadd, 1) := by decide +kernel
theorem dX5_shorterFrom_157 : decode cX5_shorterFrom 157 = .ok (.iconst 1, 1) := by decide +kernel
theorem dX5_shorterFrom_158 : decode cX5_shorterFrom 158 = .ok (.iadd, 1) := by decide +kernel
theorem dX5_shorterFrom_159 : decode cX5_shorterFrom 159 = .ok (.invokestatic 155, 3) := by decide +kernel
theorem dX5_shorterFrom_162 : decode cX5_shorterFrom 162 = .ok (.istore_n 3, 1) := by decide +kernel
theorem dX5_shorterFrom_163 : decode cX5_shorterFrom 163 = .ok (.goto 47, 3) := by decide +kernel
theorem dX5_shorterFrom_166 : decode cX5_shorterFrom 166 = .ok (.iload 4, 2) := by decide +kernel
theorem dX5_shorterFrom_168 : decode cX5_shorterFrom 168 = .ok (.bipush 60, 2) := by decide +kernel
theorem dX5_shorterFrom_170 : decode cX5_shorterFrom 170 = .ok (.if_icmp .ge 40, 3) := by decide +kernel
theorem dX5_shorterFrom_173 : decode cX5_shorterFrom 173 = .ok (.aload_n 0, 1) := by decide +kernel
theorem dX5_shorterFrom_174 : decode cX5_shorterFrom 174 = .ok (.getfield 44, 3) := by decide +kernel
theorem dX5_shorterFrom_177 : decode cX5_shorterFrom 177 = .ok (.iload 9, 2) := by decide +kernel
theorem dX5_shorterFrom_179 : decode cX5_shorterFrom 179 = .ok (.aload_n 0, 1) := by decide +kernel
theorem dX5_shorterFrom_180 : decode cX5_shorterFrom 180 = .ok (.getfield 44, 3) := by decide +kernel
theorem dX5_shorterFrom_183 : decode cX5_shorterFrom 183 = .ok (.iload 6, 2) := by decide +kernel
theorem dX5_shorterFrom_185 : decode cX5_shorterFrom 185 = .ok (.iaload, 1) := by decide +kernel
theorem dX5_shorterFrom_186 : decode cX5_shorterFrom 186 = .ok (.iconst 1, 1) := by decide +kernel
theorem dX5_shorterFrom_187 : decode cX5_shorterFrom 187 = .ok (.iadd, 1) := by decide +kernel
theorem dX5_shorterFrom_188 : decode cX5_shorterFrom 188 = .ok (.iastore, 1) := by decide +kernel
theorem dX5_shorterFrom_189 : decode cX5_shorterFrom 189 = .ok (.aload_n 0, 1) := by decide +kernel
theorem dX5_shorterFrom_190 : decode cX5_shorterFrom 190 = .ok (.getfield 50, 3) := by decide +kernel
theorem dX5_shorterFrom_193 : decode cX5_shorterFrom 193 = .ok (.iload 9, 2) := by decide +kernel
theorem dX5_shorterFrom_195 : decode cX5_shorterFrom 195 = .ok (.iload 8, 2) := by decide +kernel
theorem dX5_shorterFrom_197 : decode cX5_shorterFrom 197 = .ok (.iastore, 1) := by decide +kernel
theorem dX5_shorterFrom_198 : decode cX5_shorterFrom 198 = .ok (.aload_n 0, 1) := by decide +kernel
theorem dX5_shorterFrom_199 : decode cX5_shorterFrom 199 = .ok (.getfield 56, 3) := by decide +kernel
theorem dX5_shorterFrom_202 : decode cX5_shorterFrom 202 = .ok (.iload 4, 2) := by decide +kernel
theorem dX5_shorterFrom_204 : decode cX5_shorterFrom 204 = .ok (.iload 9, 2) := by decide +kernel
theorem dX5_shorterFrom_206 : decode cX5_shorterFrom 206 = .ok (.iastore, 1) := by decide +kernel
theorem dX5_shorterFrom_207 : decode cX5_shorterFrom 207 = .ok (.iinc 4 1, 3) := by decide +kernel
theorem dX5_shorterFrom_210 : decode cX5_shorterFrom 210 = .ok (.iinc 7 1, 3) := by decide +kernel
theorem dX5_shorterFrom_213 : decode cX5_shorterFrom 213 = .ok (.goto (-131), 3) := by decide +kernel
theorem dX5_shorterFrom_216 : decode cX5_shorterFrom 216 = .ok (.iinc 5 1, 3) := by decide +kernel
theorem dX5_shorterFrom_219 : decode cX5_shorterFrom 219 = .ok (.goto (-182), 3) := by decide +kernel
theorem dX5_shorterFrom_222 : decode cX5_shorterFrom 222 = .ok (.iload_n 3, 1) := by decide +kernel
theorem dX5_shorterFrom_223 : decode cX5_shorterFrom 223 = .ok (.ireturn, 1) := by decide +kernel
def hX5_shorterFrom_82 (f : Nat) (Φ : Int → aj_M → Prop) (K37 : List Nat → Int → Int → Int → aj_M → Prop) : Nat → List Nat → Int → Int → Int → Int → Int → aj_M → Prop
  | 0, _, _, _, _, _, _, _ => False
  | k + 1, q0, v3, v4, v5, v6, v7, m => (0 ≤ (v6 + 1) ∧ (v6 + 1) < 62) ∧ rI v7 ∧ rI (m (8 :: q0) (v6 + 1).toNat) ∧ ((m (8 :: q0) (v6 + 1).toNat) ≤ v7 → K37 q0 v3 v4 (v5 + 1) m) ∧ (¬ ((m (8 :: q0) (v6 + 1).toNat) ≤ v7) → (0 ≤ v7 ∧ v7 < 288) ∧ wX5_otherEnd f (fun z1 m1 => (0 ≤ z1 ∧ z1 < 60) ∧ rI (m1 (10 :: q0) z1.toNat) ∧ ((m1 (10 :: q0) z1.toNat) < 0 → rI v4 ∧ (60 ≤ v4 → hX5_shorterFrom_82 f Φ K37 k q0 v3 v4 v5 v6 (v7 + 1) m1) ∧ (¬ (60 ≤ v4) → (0 ≤ v6 ∧ v6 < 60) ∧ (0 ≤ z1 ∧ z1 < 60) ∧ ∀ m2, m2 = aj_u m1 (10 :: q0) z1.toNat ((m1 (10 :: q0) v6.toNat) + 1) → (0 ≤ z1 ∧ z1 < 60) ∧ ∀ m3, m3 = aj_u m2 (12 :: q0) z1.toNat (m (9 :: q0) v7.toNat) → (0 ≤ v4 ∧ v4 < 60) ∧ ∀ m4, m4 = aj_u m3 (14 :: q0) v4.toNat z1 → hX5_shorterFrom_82 f Φ K37 k q0 v3 (v4 + 1) v5 v6 (v7 + 1) m4)) ∧ (¬ ((m1 (10 :: q0) z1.toNat) < 0) → (0 ≤ v6 ∧ v6 < 60) ∧ rI (m (9 :: q0) v7.toNat) ∧ rI (m1 (12 :: q0) v6.toNat) ∧ (¬ (m (9 :: q0) v7.toNat) = (m1 (12 :: q0) v6.toNat) → (0 ≤ v6 ∧ v6 < 60) ∧ (0 ≤ z1 ∧ z1 < 60) ∧ rI v3 ∧ rI (((m1 (10 :: q0) v6.toNat) + (m1 (10 :: q0) z1.toNat)) + 1) ∧ hX5_shorterFrom_82 f Φ K37 k q0 (min v3 (((m1 (10 :: q0) v6.toNat) + (m1 (10 :: q0) z1.toNat)) + 1)) v4 v5 v6 (v7 + 1) m1) ∧ ((m (9 :: q0) v7.toNat) = (m1 (12 :: q0) v6.toNat) → hX5_shorterFrom_82 f Φ K37 k q0 v3 v4 v5 v6 (v7 + 1) m1))) q0 (m (9 :: q0) v7.toNat) v6 m)
set_option maxHeartbeats 4000000 in
set_option maxRecDepth 100000 in
theorem tX5_shorterFrom_82 {X : aj_T} {n f : Nat} {Φ : Int → aj_M → Prop} (C : aj_Cx X cX5_shorterFrom RX5 10 (n + 1)) (K : aj_Rt X (some .int) (fun r m => ∃ z, r = some (vI z) ∧ Φ z m)) {K37 : List Nat → Int → Int → Int → aj_M → Prop} (HK37 : ∀ (q0 : List Nat) (v3 : Int) (v4 : Int) (v5 : Int) (m : aj_M) (hq0 : (.inl (5, q0) : aj_R) ∈ aj_pls), K37 q0 v3 v4 v5 m → aj_J X 37 [some (vO 5 q0), none, none, some (vI v3), some (vI v4), some (vI v5), none, none, none, none] [] m) : ∀ (k : Nat) (q0 : List Nat) (v3 : Int) (v4 : Int) (v5 : Int) (v6 : Int) (v7 : Int) (m : aj_M) (hq0 : (.inl (5, q0) : aj_R) ∈ aj_pls), hX5_shorterFrom_82 f Φ K37 k q0 v3 v4 v5 v6 v7 m → aj_J X 82 [some (vO 5 q0), none, none, some (vI v3), some (vI v4), some (vI v5), some (vI v6), some (vI v7), none, none] [] m := by
  intro k
  induction k with
  | zero =>
    intro q0 v3 v4 v5 v6 v7 m _ h
    exact h.elim
  | succ k ih =>
    intro q0 v3 v4 v5 v6 v7 m hq0 h
    unfold hX5_shorterFrom_82 at h
    refine aj_iload C dX5_shorterFrom_82 rfl ?_
    refine aj_aload_n C dX5_shorterFrom_84 rfl ?_
    refine aj_getA (x := 0) (y := 62) C flX5_38 hq0 rfl dX5_shorterFrom_85 ?_
    refine aj_iload C dX5_shorterFrom_88 rfl ?_
    refine aj_iconst C dX5_shorterFrom_90 ?_
    refine aj_iadd C dX5_shorterFrom_91 ?_
    obtain ⟨r0, h⟩ := h
    refine aj_iald C (aj_ca (e := 0) (n := 62) (j := 8) hq0 (by decide) rfl) (by decide) r0 dX5_shorterFrom_92 rfl ?_
    obtain ⟨r0, r1, h1, h2⟩ := h
    refine aj_icmp_ge (tgt := 216) C dX5_shorterFrom_93 (by decide) r0 r1 (fun e => ?_) (fun e => ?_)
    · have h := h1 e
      refine aj_iinc (lv' := [some (vO 5 q0), none, none, some (vI v3), some (vI v4), some (vI (v5 + 1)), some (vI v6), some (vI v7), none, none]) C dX5_shorterFrom_216 rfl (by decide) rfl ?_
      refine aj_goto (tgt := 37) C dX5_shorterFrom_219 (by decide) ?_
      refine aj_wk (lv' := [some (vO 5 q0), none, none, some (vI v3), some (vI v4), some (vI (v5 + 1)), none, none, none, none]) (⟨rfl, ⟨rfl, ⟨rfl, ⟨rfl, trivial⟩⟩⟩⟩) ?_
      exact HK37 q0 v3 v4 (v5 + 1) _ hq0 h
    · have h := h2 e
      refine aj_aload_n C dX5_shorterFrom_96 rfl ?_
      refine aj_getA (x := 0) (y := 288) C flX5_41 hq0 rfl dX5_shorterFrom_97 ?_
      refine aj_iload C dX5_shorterFrom_100 rfl ?_
      obtain ⟨r0, h⟩ := h
      refine aj_iald C (aj_ca (e := 0) (n := 288) (j := 9) hq0 (by decide) rfl) (by decide) r0 dX5_shorterFrom_102 rfl ?_
      refine aj_istore (lv' := [some (vO 5 q0), none, none, some (vI v3), some (vI v4), some (vI v5), some (vI v6), some (vI v7), some (vI (m (9 :: q0) v7.toNat)), none]) C dX5_shorterFrom_103 (by decide) rfl ?_
      refine aj_aload_n C dX5_shorterFrom_105 rfl ?_
      refine aj_iload C dX5_shorterFrom_106 rfl ?_
      refine aj_iload C dX5_shorterFrom_108 rfl ?_
      refine aj_callV (rest := []) C mvX5_131 (sX5_otherEnd hq0 h) hq0 (aj_np 2 (by decide +kernel) rfl) (Nat.le_of_ble_eq_true rfl) rfl dX5_shorterFrom_110 (fun r m1 h => ?_)
      obtain ⟨z1, rfl, h⟩ := h
      refine aj_istore (lv' := [some (vO 5 q0), none, none, some (vI v3), some (vI v4), some (vI v5), some (vI v6), some (vI v7), some (vI (m (9 :: q0) v7.toNat)), some (vI z1)]) C dX5_shorterFrom_113 (by decide) rfl ?_
      refine aj_aload_n C dX5_shorterFrom_115 rfl ?_
      refine aj_getA (x := 0) (y := 60) C flX5_44 hq0 rfl dX5_shorterFrom_116 ?_
      refine aj_iload C dX5_shorterFrom_119 rfl ?_
      obtain ⟨r0, h⟩ := h
      refine aj_iald C (aj_ca (e := 0) (n := 60) (j := 10) hq0 (by decide) rfl) (by decide) r0 dX5_shorterFrom_121 rfl ?_
      obtain ⟨r0, h1, h2⟩ := h
      refine aj_if_lt (tgt := 166) C dX5_shorterFrom_122 (by decide) r0 (fun e => ?_) (fun e => ?_)
      · have h := h1 e
        refine aj_iload C dX5_shorterFrom_166 rfl ?_
        refine aj_bipush C dX5_shorterFrom_168 (by decide) ?_
        obtain ⟨r0, h1, h2⟩ := h
        refine aj_icmp_ge (tgt := 210) C dX5_shorterFrom_170 (by decide) r0 (by decide) (fun e => ?_) (fun e => ?_)
        · have h := h1 e
          refine aj_iinc (lv' := [some (vO 5 q0), none, none, some (vI v3), some (vI v4), some (vI v5), some (vI v6), some (vI (v7 + 1)), some (vI (m (9 :: q0) v7.toNat)), some (vI z1)]) C dX5_shorterFrom_210 rfl (by decide) rfl ?_
          refine aj_goto (tgt := 82) C dX5_shorterFrom_213 (by decide) ?_
          refine aj_wk (lv' := [some (vO 5 q0), none, none, some (vI v3), some (vI v4), some (vI v5), some (vI v6), some (vI (v7 + 1)), none, none]) (⟨rfl, ⟨rfl, ⟨rfl, ⟨rfl, ⟨rfl, ⟨rfl, trivial⟩⟩⟩⟩⟩⟩) ?_
          exact ih q0 v3 v4 v5 v6 (v7 + 1) _ hq0 h
        · have h := h2 e
          refine aj_aload_n C dX5_shorterFrom_173 rfl ?_
          refine aj_getA (x := 0) (y := 60) C flX5_44 hq0 rfl dX5_shorterFrom_174 ?_
          refine aj_iload C dX5_shorterFrom_177 rfl ?_
          refine aj_aload_n C dX5_shorterFrom_179 rfl ?_
          refine aj_getA (x := 0) (y := 60) C flX5_44 hq0 rfl dX5_shorterFrom_180 ?_
          refine aj_iload C dX5_shorterFrom_183 rfl ?_
          obtain ⟨r0, h⟩ := h
          refine aj_iald C (aj_ca (e := 0) (n := 60) (j := 10) hq0 (by decide) rfl) (by decide) r0 dX5_shorterFrom_185 rfl ?_
          refine aj_iconst C dX5_shorterFrom_186 ?_
          refine aj_iadd C dX5_shorterFrom_187 ?_
          obtain ⟨r0, h⟩ := h
          refine aj_iast C (aj_ca (e := 0) (n := 60) (j := 10) hq0 (by decide) rfl) (by decide) r0 dX5_shorterFrom_188 ?_
          refine aj_nm (fun m2 e1 => ?_)
          have h := h m2 e1
          refine aj_aload_n C dX5_shorterFrom_189 rfl ?_
          refine aj_getA (x := 0) (y := 60) C flX5_50 hq0 rfl dX5_shorterFrom_190 ?_
          refine aj_iload C dX5_shorterFrom_193 rfl ?_
          refine aj_iload C dX5_shorterFrom_195 rfl ?_
          obtain ⟨r0, h⟩ := h
          refine aj_iast C (aj_ca (e := 0) (n := 60) (j := 12) hq0 (by decide) rfl) (by decide) r0 dX5_shorterFrom_197 ?_
          refine aj_nm (fun m3 e1 => ?_)
          have h := h m3 e1
          refine aj_aload_n C dX5_shorterFrom_198 rfl ?_
          refine aj_getA (x := 0) (y := 60) C flX5_56 hq0 rfl dX5_shorterFrom_199 ?_
          refine aj_iload C dX5_shorterFrom_202 rfl ?_
          refine aj_iload C dX5_shorterFrom_204 rfl ?_
          obtain ⟨r0, h⟩ := h
          refine aj_iast C (aj_ca (e := 0) (n := 60) (j := 14) hq0 (by decide) rfl) (by decide) r0 dX5_shorterFrom_206 ?_
          refine aj_nm (fun m4 e1 => ?_)
          have h := h m4 e1
          refine aj_iinc (lv' := [some (vO 5 q0), none, none, some (vI v3), some (vI (v4 + 1)), some (vI v5), some (vI v6), some (vI v7), some (vI (m (9 :: q0) v7.toNat)), some (vI z1)]) C dX5_shorterFrom_207 rfl (by decide) rfl ?_
          refine aj_iinc (lv' := [some (vO 5 q0), none, none, some (vI v3), some (vI (v4 + 1)), some (vI v5), some (vI v6), some (vI (v7 + 1)), some (vI (m (9 :: q0) v7.toNat)), some (vI z1)]) C dX5_shorterFrom_210 rfl (by decide) rfl ?_
          refine aj_goto (tgt := 82) C dX5_shorterFrom_213 (by decide) ?_
          refine aj_wk (lv' := [some (vO 5 q0), none, none, some (vI v3), some (vI (v4 + 1)), some (vI v5), some (vI v6), some (vI (v7 + 1)), none, none]) (⟨rfl, ⟨rfl, ⟨rfl, ⟨rfl, ⟨rfl, ⟨rfl, trivial⟩⟩⟩⟩⟩⟩) ?_
          exact ih q0 v3 (v4 + 1) v5 v6 (v7 + 1) _ hq0 h
      · have h := h2 e
        refine aj_iload C dX5_shorterFrom_125 rfl ?_
        refine aj_aload_n C dX5_shorterFrom_127 rfl ?_
        refine aj_getA (x := 0) (y := 60) C flX5_50 hq0 rfl dX5_shorterFrom_128 ?_
        refine aj_iload C dX5_shorterFrom_131 rfl ?_
        obtain ⟨r0, h⟩ := h
        refine aj_iald C (aj_ca (e := 0) (n := 60) (j := 12) hq0 (by decide) rfl) (by decide) r0 dX5_shorterFrom_133 rfl ?_
        obtain ⟨r0, r1, h1, h2⟩ := h
        refine aj_icmp_ne (tgt := 141) C dX5_shorterFrom_134 (by decide) r0 r1 (fun e => ?_) (fun e => ?_)
        · have h := h1 e
          refine aj_iload_n C dX5_shorterFrom_141 rfl ?_
          refine aj_aload_n C dX5_shorterFrom_142 rfl ?_
          refine aj_getA (x := 0) (y := 60) C flX5_44 hq0 rfl dX5_shorterFrom_143 ?_
          refine aj_iload C dX5_shorterFrom_146 rfl ?_
          obtain ⟨r0, h⟩ := h
          refine aj_iald C (aj_ca (e := 0) (n := 60) (j := 10) hq0 (by decide) rfl) (by decide) r0 dX5_shorterFrom_148 rfl ?_
          refine aj_aload_n C dX5_shorterFrom_149 rfl ?_
          refine aj_getA (x := 0) (y := 60) C flX5_44 hq0 rfl dX5_shorterFrom_150 ?_
          refine aj_iload C dX5_shorterFrom_153 rfl ?_
          obtain ⟨r0, h⟩ := h
          refine aj_iald C (aj_ca (e := 0) (n := 60) (j := 10) hq0 (by decide) rfl) (by decide) r0 dX5_shorterFrom_155 rfl ?_
          refine aj_iadd C dX5_shorterFrom_156 ?_
          refine aj_iconst C dX5_shorterFrom_157 ?_
          refine aj_iadd C dX5_shorterFrom_158 ?_
          obtain ⟨r0, r1, h⟩ := h
          refine aj_mmin C msX5_155 (Nat.le_of_ble_eq_true rfl) r0 r1 dX5_shorterFrom_159 ?_
          refine aj_istore_n (lv' := [some (vO 5 q0), none, none, some (vI (min v3 (((m1 (10 :: q0) v6.toNat) + (m1 (10 :: q0) z1.toNat)) + 1))), some (vI v4), some (vI v5), some (vI v6), some (vI v7), some (vI (m (9 :: q0) v7.toNat)), some (vI z1)]) C dX5_shorterFrom_162 (by decide) rfl ?_
          refine aj_goto (tgt := 210) C dX5_shorterFrom_163 (by decide) ?_
          refine aj_iinc (lv' := [some (vO 5 q0), none, none, some (vI (min v3 (((m1 (10 :: q0) v6.toNat) + (m1 (10 :: q0) z1.toNat)) + 1))), some (vI v4), some (vI v5), some (vI v6), some (vI (v7 + 1)), some (vI (m (9 :: q0) v7.toNat)), some (vI z1)]) C dX5_shorterFrom_210 rfl (by decide) rfl ?_
          refine aj_goto (tgt := 82) C dX5_shorterFrom_213 (by decide) ?_
          refine aj_wk (lv' := [some (vO 5 q0), none, none, some (vI (min v3 (((m1 (10 :: q0) v6.toNat) + (m1 (10 :: q0) z1.toNat)) + 1))), some (vI v4), some (vI v5), some (vI v6), some (vI (v7 + 1)), none, none]) (⟨rfl, ⟨rfl, ⟨rfl, ⟨rfl, ⟨rfl, ⟨rfl, trivial⟩⟩⟩⟩⟩⟩) ?_
          exact ih q0 (min v3 (((m1 (10 :: q0) v6.toNat) + (m1 (10 :: q0) z1.toNat)) + 1)) v4 v5 v6 (v7 + 1) _ hq0 h
        · have h := h2 e
          refine aj_iload_n C dX5_shorterFrom_137 rfl ?_
          refine aj_goto (tgt := 162) C dX5_shorterFrom_138 (by decide) ?_
          refine aj_istore_n (lv' := [some (vO 5 q0), none, none, some (vI v3), some (vI v4), some (vI v5), some (vI v6), some (vI v7), some (vI (m (9 :: q0) v7.toNat)), some (vI z1)]) C dX5_shorterFrom_162 (by decide) rfl ?_
          refine aj_goto (tgt := 210) C dX5_shorterFrom_163 (by decide) ?_
          refine aj_iinc (lv' := [some (vO 5 q0), none, none, some (vI v3), some (vI v4), some (vI v5), some (vI v6), some (vI (v7 + 1)), some (vI (m (9 :: q0) v7.toNat)), some (vI z1)]) C dX5_shorterFrom_210 rfl (by decide) rfl ?_
          refine aj_goto (tgt := 82) C dX5_shorterFrom_213 (by decide) ?_
          refine aj_wk (lv' := [some (vO 5 q0), none, none, some (vI v3), some (vI v4), some (vI v5), some (vI v6), some (vI (v7 + 1)), none, none]) (⟨rfl, ⟨rfl, ⟨rfl, ⟨rfl, ⟨rfl, ⟨rfl, trivial⟩⟩⟩⟩⟩⟩) ?_
          exact ih q0 v3 v4 v5 v6 (v7 + 1) _ hq0 h
def hX5_shorterFrom_37 (f : Nat) (Φ : Int → aj_M → Prop) : Nat → List Nat → Int → Int → Int → aj_M → Prop
  | 0, _, _, _, _, _ => False
  | k + 1, q0, v3, v4, v5, m => rI v5 ∧ rI v4 ∧ (v4 ≤ v5 → Φ v3 m) ∧ (¬ (v4 ≤ v5) → (0 ≤ v5 ∧ v5 < 60) ∧ (0 ≤ (m (14 :: q0) v5.toNat) ∧ (m (14 :: q0) v5.toNat) < 60) ∧ rI ((2 * (m (10 :: q0) (m (14 :: q0) v5.toNat).toNat)) + 1) ∧ rI v3 ∧ (v3 ≤ ((2 * (m (10 :: q0) (m (14 :: q0) v5.toNat).toNat)) + 1) → Φ v3 m) ∧ (¬ (v3 ≤ ((2 * (m (10 :: q0) (m (14 :: q0) v5.toNat).toNat)) + 1)) → (0 ≤ v5 ∧ v5 < 60) ∧ (0 ≤ (m (14 :: q0) v5.toNat) ∧ (m (14 :: q0) v5.toNat) < 62) ∧ hX5_shorterFrom_82 f Φ (fun q0 v3 v4 v5 m => hX5_shorterFrom_37 f Φ k q0 v3 v4 v5 m) f q0 v3 v4 v5 (m (14 :: q0) v5.toNat) (m (8 :: q0) (m (14 :: q0) v5.toNat).toNat) m))
set_option maxHeartbeats 4000000 in
set_option maxRecDepth 100000 in
theorem tX5_shorterFrom_37 {X : aj_T} {n f : Nat} {Φ : Int → aj_M → Prop} (C : aj_Cx X cX5_shorterFrom RX5 10 (n + 1)) (K : aj_Rt X (some .int) (fun r m => ∃ z, r = some (vI z) ∧ Φ z m)) : ∀ (k : Nat) (q0 : List Nat) (v3 : Int) (v4 : Int) (v5 : Int) (m : aj_M) (hq0 : (.inl (5, q0) : aj_R) ∈ aj_pls), hX5_shorterFrom_37 f Φ k q0 v3 v4 v5 m → aj_J X 37 [some (vO 5 q0), none, none, some (vI v3), some (vI v4), some (vI v5), none, none, none, none] [] m := by
  intro k
  induction k with
  | zero =>
    intro q0 v3 v4 v5 m _ h
    exact h.elim
  | succ k ih =>
    intro q0 v3 v4 v5 m hq0 h
    unfold hX5_shorterFrom_37 at h
    refine aj_iload C dX5_shorterFrom_37 rfl ?_
    refine aj_iload C dX5_shorterFrom_39 rfl ?_
    obtain ⟨r0, r1, h1, h2⟩ := h
    refine aj_icmp_ge (tgt := 222) C dX5_shorterFrom_41 (by decide) r0 r1 (fun e => ?_) (fun e => ?_)
    · have h := h1 e
      refine aj_iload_n C dX5_shorterFrom_222 rfl ?_
      exact aj_iret C K dX5_shorterFrom_223 ⟨_, rfl, h⟩
    · have h := h2 e
      refine aj_iconst C dX5_shorterFrom_44 ?_
      refine aj_aload_n C dX5_shorterFrom_45 rfl ?_
      refine aj_getA (x := 0) (y := 60) C flX5_44 hq0 rfl dX5_shorterFrom_46 ?_
      refine aj_aload_n C dX5_shorterFrom_49 rfl ?_
      refine aj_getA (x := 0) (y := 60) C flX5_56 hq0 rfl dX5_shorterFrom_50 ?_
      refine aj_iload C dX5_shorterFrom_53 rfl ?_
      obtain ⟨r0, h⟩ := h
      refine aj_iald C (aj_ca (e := 0) (n := 60) (j := 14) hq0 (by decide) rfl) (by decide) r0 dX5_shorterFrom_55 rfl ?_
      obtain ⟨r0, h⟩ := h
      refine aj_iald C (aj_ca (e := 0) (n := 60) (j := 10) hq0 (by decide) rfl) (by decide) r0 dX5_shorterFrom_56 rfl ?_
      refine aj_imul C dX5_shorterFrom_57 ?_
      refine aj_iconst C dX5_shorterFrom_58 ?_
      refine aj_iadd C dX5_shorterFrom_59 ?_
      refine aj_iload_n C dX5_shorterFrom_60 rfl ?_
      obtain ⟨r0, r1, h1, h2⟩ := h
      refine aj_icmp_ge (tgt := 222) C dX5_shorterFrom_61 (by decide) r0 r1 (fun e => ?_) (fun e => ?_)
      · have h := h1 e
        refine aj_iload_n C dX5_shorterFrom_222 rfl ?_
        exact aj_iret C K dX5_shorterFrom_223 ⟨_, rfl, h⟩
      · have h := h2 e
        refine aj_aload_n C dX5_shorterFrom_64 rfl ?_
        refine aj_getA (x := 0) (y := 60) C flX5_56 hq0 rfl dX5_shorterFrom_65 ?_
        refine aj_iload C dX5_shorterFrom_68 rfl ?_
        obtain ⟨r0, h⟩ := h
        refine aj_iald C (aj_ca (e := 0) (n := 60) (j := 14) hq0 (by decide) rfl) (by decide) r0 dX5_shorterFrom_70 rfl ?_
        refine aj_istore (lv' := [some (vO 5 q0), none, none, some (vI v3), some (vI v4), some (vI v5), some (vI (m (14 :: q0) v5.toNat)), none, none, none]) C dX5_shorterFrom_71 (by decide) rfl ?_
        refine aj_aload_n C dX5_shorterFrom_73 rfl ?_
        refine aj_getA (x := 0) (y := 62) C flX5_38 hq0 rfl dX5_shorterFrom_74 ?_
        refine aj_iload C dX5_shorterFrom_77 rfl ?_
        obtain ⟨r0, h⟩ := h
        refine aj_iald C (aj_ca (e := 0) (n := 62) (j := 8) hq0 (by decide) rfl) (by decide) r0 dX5_shorterFrom_79 rfl ?_
        refine aj_istore (lv' := [some (vO 5 q0), none, none, some (vI v3), some (vI v4), some (vI v5), some (vI (m (14 :: q0) v5.toNat)), some (vI (m (8 :: q0) (m (14 :: q0) v5.toNat).toNat)), none, none]) C dX5_shorterFrom_80 (by decide) rfl ?_
        exact tX5_shorterFrom_82 C K (fun q0 v3 v4 v5 m hq0 hh => ih q0 v3 v4 v5 m hq0 hh) f q0 v3 v4 v5 (m (14 :: q0) v5.toNat) (m (8 :: q0) (m (14 :: q0) v5.toNat).toNat) _ hq0 h
def wX5_shorterFrom (f : Nat) (Φ : Int → aj_M → Prop) (q0 : List Nat) (v1 : Int) (v2 : Int) (m : aj_M) : Prop := wJ7_fill_53178 f (fun m1 => (0 ≤ v1 ∧ v1 < 60) ∧ ∀ m2, m2 = aj_u m1 (10 :: q0) v1.toNat 0 → (0 ≤ v1 ∧ v1 < 60) ∧ ∀ m3, m3 = aj_u m2 (12 :: q0) v1.toNat (-1) → ∀ m4, m4 = aj_u m3 (14 :: q0) (0 : Int).toNat v1 → hX5_shorterFrom_37 f Φ f q0 v2 1 0 m4) 60 (10 :: q0) (-1) m
set_option maxHeartbeats 4000000 in
set_option maxRecDepth 100000 in
theorem sX5_shorterFrom {n f : Nat} {Φ : Int → aj_M → Prop} {q0 : List Nat} {v1 : Int} {v2 : Int} {m : aj_M} (hq0 : (.inl (5, q0) : aj_R) ∈ aj_pls) (h : wX5_shorterFrom f Φ q0 v1 v2 m) : aj_Ct (n + 1) yX5_shorterFrom cX5_shorterFrom 10 (some .int) [vO 5 q0, vI v1, vI v2] m (fun r m => ∃ z, r = some (vI z) ∧ Φ z m) := by
  refine aj_met (lv := [some (vO 5 q0), some (vI v1), some (vI v2), none, none, none, none, none, none, none]) (by decide +kernel) rfl (Nat.le_of_ble_eq_true rfl) (fun X C K => ?_)
  unfold wX5_shorterFrom at h
  refine aj_iload_n C dX5_shorterFrom_0 rfl ?_
  refine aj_istore_n (lv' := [some (vO 5 q0), some (vI v1), some (vI v2), some (vI v2), none, none, none, none, none, none]) C dX5_shorterFrom_1 (by decide) rfl ?_
  refine aj_aload_n C dX5_shorterFrom_2 rfl ?_
  refine aj_getA (x := 0) (y := 60) C flX5_44 hq0 rfl dX5_shorterFrom_3 ?_
  refine aj_iconst C dX5_shorterFrom_6 ?_
  refine aj_callS (rest := []) C msX5_125 (sJ7_fill_53178 (aj_ca (e := 0) (n := 60) (j := 10) hq0 (by decide) rfl) (by decide) h) (aj_np 2 (by decide +kernel) rfl) (Nat.le_of_ble_eq_true rfl) rfl dX5_shorterFrom_7 (fun r m1 h => ?_)
  obtain ⟨rfl, h⟩ := h
  refine aj_aload_n C dX5_shorterFrom_10 rfl ?_
  refine aj_getA (x := 0) (y := 60) C flX5_44 hq0 rfl dX5_shorterFrom_11 ?_
  refine aj_iload_n C dX5_shorterFrom_14 rfl ?_
  refine aj_iconst C dX5_shorterFrom_15 ?_
  obtain ⟨r0, h⟩ := h
  refine aj_iast C (aj_ca (e := 0) (n := 60) (j := 10) hq0 (by decide) rfl) (by decide) r0 dX5_shorterFrom_16 ?_
  refine aj_nm (fun m2 e1 => ?_)
  have h := h m2 e1
  refine aj_aload_n C dX5_shorterFrom_17 rfl ?_
  refine aj_getA (x := 0) (y := 60) C flX5_50 hq0 rfl dX5_shorterFrom_18 ?_
  refine aj_iload_n C dX5_shorterFrom_21 rfl ?_
  refine aj_iconst C dX5_shorterFrom_22 ?_
  obtain ⟨r0, h⟩ := h
  refine aj_iast C (aj_ca (e := 0) (n := 60) (j := 12) hq0 (by decide) rfl) (by decide) r0 dX5_shorterFrom_23 ?_
  refine aj_nm (fun m3 e1 => ?_)
  have h := h m3 e1
  refine aj_aload_n C dX5_shorterFrom_24 rfl ?_
  refine aj_getA (x := 0) (y := 60) C flX5_56 hq0 rfl dX5_shorterFrom_25 ?_
  refine aj_iconst C dX5_shorterFrom_28 ?_
  refine aj_iload_n C dX5_shorterFrom_29 rfl ?_
  refine aj_iast C (aj_ca (e := 0) (n := 60) (j := 14) hq0 (by decide) rfl) (by decide) (by decide) dX5_shorterFrom_30 ?_
  refine aj_nm (fun m4 e1 => ?_)
  have h := h m4 e1
  refine aj_iconst C dX5_shorterFrom_31 ?_
  refine aj_istore (lv' := [some (vO 5 q0), some (vI v1), some (vI v2), some (vI v2), some (vI 1), none, none, none, none, none]) C dX5_shorterFrom_32 (by decide) rfl ?_
  refine aj_iconst C dX5_shorterFrom_34 ?_
  refine aj_istore (lv' := [some (vO 5 q0), some (vI v1), some (vI v2), some (vI v2), some (vI 1), some (vI 0), none, none, none, none]) C dX5_shorterFrom_35 (by decide) rfl ?_
  refine aj_wk (lv' := [some (vO 5 q0), none, none, some (vI v2), some (vI 1), some (vI 0), none, none, none, none]) (⟨rfl, ⟨rfl, ⟨rfl, ⟨rfl, trivial⟩⟩⟩⟩) ?_
  exact tX5_shorterFrom_37 C K f q0 v2 1 0 _ hq0 h
