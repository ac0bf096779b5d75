theorem dX11_judge_0 : decode cX11_judge 0 = .ok (.iload_n 1, 1) := by decide +kernel
theorem dX11_judge_1 : decode cX11_judge 1 = .ok (.invokestatic 187, 3) := by decide +kernel
theorem dX11_judge_4 : decode cX11_judge 4 = .ok (.ifCond .eq 12, 3) := by decide +kernel
theorem dX11_judge_7 : decode cX11_judge 7 = .ok (.iload_n 2, 1) := by decide +kernel
theorem dX11_judge_8 : decode cX11_judge 8 = .ok (.ifCond .lt 8, 3) := by decide +kernel
theorem dX11_judge_11 : decode cX11_judge 11 = .ok (.iload_n 2, 1) := by decide +kernel
theorem dX11_judge_12 : decode cX11_judge 12 = .ok (.iconst 3, 1) := by decide +kernel
theorem dX11_judge_13 : decode cX11_judge 13 = .ok (.if_icmp .le 6, 3) := by decide +kernel
theorem dX11_judge_16 : decode cX11_judge 16 = .ok (.bipush (-2), 2) := by decide +kernel
theorem dX11_judge_18 : decode cX11_judge 18 = .ok (.ireturn, 1) := by decide +kernel
theorem dX11_judge_19 : decode cX11_judge 19 = .ok (.aload_n 0, 1) := by decide +kernel
theorem dX11_judge_20 : decode cX11_judge 20 = .ok (.getfield 51, 3) := by decide +kernel
theorem dX11_judge_23 : decode cX11_judge 23 = .ok (.iload_n 1, 1) := by decide +kernel
theorem dX11_judge_24 : decode cX11_judge 24 = .ok (.aaload, 1) := by decide +kernel
theorem dX11_judge_25 : decode cX11_judge 25 = .ok (.astore_n 3, 1) := by decide +kernel
theorem dX11_judge_26 : decode cX11_judge 26 = .ok (.aload_n 3, 1) := by decide +kernel
theorem dX11_judge_27 : decode cX11_judge 27 = .ok (.invokevirtual 190, 3) := by decide +kernel
theorem dX11_judge_30 : decode cX11_judge 30 = .ok (.ifCond .eq 6, 3) := by decide +kernel
theorem dX11_judge_33 : decode cX11_judge 33 = .ok (.bipush (-6), 2) := by decide +kernel
theorem dX11_judge_35 : decode cX11_judge 35 = .ok (.ireturn, 1) := by decide +kernel
theorem dX11_judge_36 : decode cX11_judge 36 = .ok (.aload_n 0, 1) := by decide +kernel
theorem dX11_judge_37 : decode cX11_judge 37 = .ok (.getfield 33, 3) := by decide +kernel
theorem dX11_judge_40 : decode cX11_judge 40 = .ok (.aload_n 0, 1) := by decide +kernel
theorem dX11_judge_41 : decode cX11_judge 41 = .ok (.getfield 26, 3) := by decide +kernel
theorem dX11_judge_44 : decode cX11_judge 44 = .ok (.invokevirtual 159, 3) := by decide +kernel
theorem dX11_judge_47 : decode cX11_judge 47 = .ok (.aload_n 0, 1) := by decide +kernel
theorem dX11_judge_48 : decode cX11_judge 48 = .ok (.aload_n 3, 1) := by decide +kernel
theorem dX11_judge_49 : decode cX11_judge 49 = .ok (.aload_n 0, 1) := by decide +kernel
theorem dX11_judge_50 : decode cX11_judge 50 = .ok (.getfield 33, 3) := by decide +kernel
theorem dX11_judge_53 : decode cX11_judge 53 = .ok (.invokevirtual 194, 3) := by decide +kernel
theorem dX11_judge_56 : decode cX11_judge 56 = .ok (.istore 4, 2) := by decide +kernel
theorem dX11_judge_58 : decode cX11_judge 58 = .ok (.iload 4, 2) := by decide +kernel
theorem dX11_judge_60 : decode cX11_judge 60 = .ok (.aload_n 3, 1) := by decide +kernel
theorem dX11_judge_61 : decode cX11_judge 61 = .ok (.getfield 198, 3) := by decide +kernel
theorem dX11_judge_64 : decode cX11_judge 64 = .ok (.if_icmp .lt 7, 3) := by decide +kernel
theorem dX11_judge_67 : decode cX11_judge 67 = .ok (.iconst 1, 1) := by decide +kernel
theorem dX11_judge_68 : decode cX11_judge 68 = .ok (.goto 4, 3) := by decide +kernel
theorem dX11_judge_71 : decode cX11_judge 71 = .ok (.iconst 0, 1) := by decide +kernel
theorem dX11_judge_72 : decode cX11_judge 72 = .ok (.istore 5, 2) := by decide +kernel
theorem dX11_judge_74 : decode cX11_judge 74 = .ok (.iload_n 2, 1) := by decide +kernel
theorem dX11_judge_75 : decode cX11_judge 75 = .ok (.tableswitch 91 0 2 #[25, 37, 65], 25) := by decide +kernel
theorem dX11_judge_100 : decode cX11_judge 100 = .ok (.iload 5, 2) := by decide +kernel
theorem dX11_judge_102 : decode cX11_judge 102 = .ok (.ifCond .eq 7, 3) := by decide +kernel
theorem dX11_judge_105 : decode cX11_judge 105 = .ok (.iconst (-1), 1) := by decide +kernel
theorem dX11_judge_106 : decode cX11_judge 106 = .ok (.goto 5, 3) := by decide +kernel
theorem dX11_judge_109 : decode cX11_judge 109 = .ok (.iload 4, 2) := by decide +kernel
theorem dX11_judge_111 : decode cX11_judge 111 = .ok (.ireturn, 1) := by decide +kernel
theorem dX11_judge_112 : decode cX11_judge 112 = .ok (.iload 5, 2) := by decide +kernel
theorem dX11_judge_114 : decode cX11_judge 114 = .ok (.ifCond .eq 7, 3) := by decide +kernel
theorem dX11_judge_117 : decode cX11_judge 117 = .ok (.iconst 0, 1) := by decide +kernel
theorem dX11_judge_118 : decode cX11_judge 118 = .ok (.goto 21, 3) := by decide +kernel
theorem dX11_judge_121 : decode cX11_judge 121 = .ok (.aload_n 0, 1) := by decide +kernel
theorem dX11_judge_122 : decode cX11_judge 122 = .ok (.getfield 33, 3) := by decide +kernel
theorem dX11_judge_125 : decode cX11_judge 125 = .ok (.aload_n 0, 1) := by decide +kernel
theorem dX11_judge_126 : decode cX11_judge 126 = .ok (.getfield 19, 3) := by decide +kernel
theorem dX11_judge_129 : decode cX11_judge 129 = .ok (.aload_n 3, 1) := by decide +kernel
theorem dX11_judge_130 : decode cX11_judge 130 = .ok (.getfield 201, 3) := by decide +kernel
theorem dX11_judge_133 : decode cX11_judge 133 = .ok (.iload 4, 2) := by decide +kernel
theorem dX11_judge_135 : decode cX11_judge 135 = .ok (.laload, 1) := by decide +kernel
theorem dX11_judge_136 : decode cX11_judge 136 = .ok (.invokevirtual 205, 3) := by decide +kernel
theorem dX11_judge_139 : decode cX11_judge 139 = .ok (.ireturn, 1) := by decide +kernel
theorem dX11_judge_140 : decode cX11_judge 140 = .ok (.aload_n 0, 1) := by decide +kernel
theorem dX11_judge_141 : decode cX11_judge 141 = .ok (.getfield 65, 3) := by decide +kernel
theorem dX11_judge_144 : decode cX11_judge 144 = .ok (.aload_n 0, 1) := by decide +kernel
theorem dX11_judge_145 : decode cX11_judge 145 = .ok (.getfield 19, 3) := by decide +kernel
theorem dX11_judge_148 : decode cX11_judge 148 = .ok (.aload_n 0, 1) := by decide +kernel
theorem dX11_judge_149 : decode cX11_judge 149 = .ok (.getfield 33, 3) := by decide +kernel
theorem dX11_judge_152 : decode cX11_judge 152 = .ok (.invokevirtual 209, 3) := by decide +kernel
theorem dX11_judge_155 : decode cX11_judge 155 = .ok (.aload_n 0, 1) := by decide +kernel
theorem dX11_judge_156 : decode cX11_judge 156 = .ok (.getfield 65, 3) := by decide +kernel
theorem dX11_judge_159 : decode cX11_judge 159 = .ok (.invokevirtual 213, 3) := by decide +kernel
theorem dX11_judge_162 : decode cX11_judge 162 = .ok (.invokestatic 216, 3) := by decide +kernel
theorem dX11_judge_165 : decode cX11_judge 165 = .ok (.ireturn, 1) := by decide +kernel
theorem dX11_judge_166 : decode cX11_judge 166 = .ok (.aload_n 0, 1) := by decide +kernel
theorem dX11_judge_167 : decode cX11_judge 167 = .ok (.getfield 65, 3) := by decide +kernel
theorem dX11_judge_170 : decode cX11_judge 170 = .ok (.aload_n 0, 1) := by decide +kernel
theorem dX11_judge_171 : decode cX11_judge 171 = .ok (.getfield 19, 3) := by decide +kernel
theorem dX11_judge_174 : decode cX11_judge 174 = .ok (.aload_n 0, 1) := by decide +kernel
theorem dX11_judge_175 : decode cX11_judge 175 = .ok (.getfield 33, 3) := by decide +kernel
theorem dX11_judge_178 : decode cX11_judge 178 = .ok (.invokevirtual 209, 3) := by decide +kernel
theorem dX11_judge_181 : decode cX11_judge 181 = .ok (.aload_n 0, 1) := by decide +kernel
theorem dX11_judge_182 : decode cX11_judge 182 = .ok (.getfield 65, 3) := by decide +kernel
theorem dX11_judge_185 : decode cX11_judge 185 = .ok (.getfield 219, 3) := by decide +kernel
theorem dX11_judge_188 : decode cX11_judge 188 = .ok (.ireturn, 1) := by decide +kernel
def hX11_judge_72 (f : Nat) (Φ : Int → aj_M → Prop) (q0 : List Nat) (v2 : Int) (q3 : List Nat) (v4 : Int) (vs0 : Int) (m : aj_M) : Prop := rI v2 ∧ (v2 < 0 ∨ 2 < v2 → wX5_build f (fun m1 => Φ (m1 (9 :: q0) 1) m1) (9 :: q0) (1 :: q0) (4 :: q0) m) ∧ (v2 = 0 → rI vs0 ∧ (vs0 = 0 → Φ v4 m) ∧ (¬ (vs0 = 0) → Φ (-1) m)) ∧ (v2 = 1 → rI vs0 ∧ (vs0 = 0 → (0 ≤ v4 ∧ v4 < 40) ∧ wX9_tryDeed f (fun z2 m2 => Φ z2 m2) (4 :: q0) (1 :: q0) (m (0 :: q3) v4.toNat) m) ∧ (¬ (vs0 = 0) → Φ 0 m)) ∧ (v2 = 2 → wX5_build f (fun m3 => wX5_shortestRing f (fun z4 m4 => wX11_orNone f (fun z5 m5 => Φ z5 m5) z4 m4) (9 :: q0) m3) (9 :: q0) (1 :: q0) (4 :: q0) m)
set_option maxHeartbeats 4000000 in
set_option maxRecDepth 100000 in
theorem tX11_judge_72 {X : aj_T} {n f : Nat} {Φ : Int → aj_M → Prop} (C : aj_Cx X cX11_judge RX11 6 (n + 6)) (K : aj_Rt X (some .int) (fun r m => ∃ z, r = some (vI z) ∧ Φ z m)) (q0 : List Nat) (v2 : Int) (q3 : List Nat) (v4 : Int) (vs0 : Int) (m : aj_M) (hq0 : (.inl (11, q0) : aj_R) ∈ aj_pls) (hq3 : (.inl (10, q3) : aj_R) ∈ aj_pls) (h : hX11_judge_72 f Φ q0 v2 q3 v4 vs0 m) : aj_J X 72 [some (vO 11 q0), none, some (vI v2), some (vO 10 q3), some (vI v4), none] [vI vs0] m := by
  unfold hX11_judge_72 at h
  refine aj_istore (lv' := [some (vO 11 q0), none, some (vI v2), some (vO 10 q3), some (vI v4), some (vI vs0)]) C dX11_judge_72 (by decide) rfl ?_
  refine aj_iload_n C dX11_judge_74 rfl ?_
  obtain ⟨r0, hd, hc0, hc1, hc2⟩ := h
  rcases (by omega : (v2 < 0 ∨ 2 < v2) ∨ v2 = 0 ∨ v2 = 1 ∨ v2 = 2) with e | e | e | e
  · have h := hd e
    refine aj_tout (tgt := 166) C dX11_judge_75 r0 e (by decide) ?_
    refine aj_aload_n C dX11_judge_166 rfl ?_
    refine aj_getO (x := 5) (y := 0) C flX11_65 hq0 rfl dX11_judge_167 ?_
    refine aj_aload_n C dX11_judge_170 rfl ?_
    refine aj_getO (x := 6) (y := 0) C flX11_19 hq0 rfl dX11_judge_171 ?_
    refine aj_aload_n C dX11_judge_174 rfl ?_
    refine aj_getO (x := 9) (y := 0) C flX11_33 hq0 rfl dX11_judge_175 ?_
    refine aj_callV (rest := []) C mvX11_209 (sX5_build (aj_cf (x := 5) (y := 0) (j := 9) hq0 (by decide) rfl) (aj_cf (x := 6) (y := 0) (j := 1) hq0 (by decide) rfl) (aj_cf (x := 9) (y := 0) (j := 4) hq0 (by decide) rfl) h) (aj_cf (x := 5) (y := 0) (j := 9) hq0 (by decide) rfl) (aj_np 2 (by decide +kernel) rfl) (Nat.le_of_ble_eq_true rfl) rfl dX11_judge_178 (fun r m1 h => ?_)
    obtain ⟨rfl, h⟩ := h
    refine aj_aload_n C dX11_judge_181 rfl ?_
    refine aj_getO (x := 5) (y := 0) C flX11_65 hq0 rfl dX11_judge_182 ?_
    refine aj_getI C flX11_219 (aj_cf (x := 5) (y := 0) (j := 9) hq0 (by decide) rfl) (by decide) dX11_judge_185 rfl ?_
    exact aj_iret C K dX11_judge_188 ⟨_, rfl, h⟩
  · have h := hc0 e
    refine aj_tin (tgt := 100) (off := 25) C dX11_judge_75 r0 (by omega) (by omega) (by rw [e]; rfl) (by decide) ?_
    refine aj_iload C dX11_judge_100 rfl ?_
    obtain ⟨r0, h1, h2⟩ := h
    refine aj_if_eq (tgt := 109) C dX11_judge_102 (by decide) r0 (fun e => ?_) (fun e => ?_)
    · have h := h1 e
      refine aj_iload C dX11_judge_109 rfl ?_
      exact aj_iret C K dX11_judge_111 ⟨_, rfl, h⟩
    · have h := h2 e
      refine aj_iconst C dX11_judge_105 ?_
      refine aj_goto (tgt := 111) C dX11_judge_106 (by decide) ?_
      exact aj_iret C K dX11_judge_111 ⟨_, rfl, h⟩
  · have h := hc1 e
    refine aj_tin (tgt := 112) (off := 37) C dX11_judge_75 r0 (by omega) (by omega) (by rw [e]; rfl) (by decide) ?_
    refine aj_iload C dX11_judge_112 rfl ?_
    obtain ⟨r0, h1, h2⟩ := h
    refine aj_if_eq (tgt := 121) C dX11_judge_114 (by decide) r0 (fun e => ?_) (fun e => ?_)
    · have h := h1 e
      refine aj_aload_n C dX11_judge_121 rfl ?_
      refine aj_getO (x := 9) (y := 0) C flX11_33 hq0 rfl dX11_judge_122 ?_
      refine aj_aload_n C dX11_judge_125 rfl ?_
      refine aj_getO (x := 6) (y := 0) C flX11_19 hq0 rfl dX11_judge_126 ?_
      refine aj_aload_n C dX11_judge_129 rfl ?_
      refine aj_getA (x := 3) (y := 40) C flX11_201 hq3 rfl dX11_judge_130 ?_
      refine aj_iload C dX11_judge_133 rfl ?_
      obtain ⟨r0, h⟩ := h
      refine aj_lald C (aj_ca (e := 3) (n := 40) (j := 0) hq3 (by decide) rfl) (by decide) r0 dX11_judge_135 rfl ?_
      refine aj_callV (rest := []) C mvX11_205 (sX9_tryDeed (aj_cf (x := 9) (y := 0) (j := 4) hq0 (by decide) rfl) (aj_cf (x := 6) (y := 0) (j := 1) hq0 (by decide) rfl) h) (aj_cf (x := 9) (y := 0) (j := 4) hq0 (by decide) rfl) (aj_np 2 (by decide +kernel) rfl) (Nat.le_of_ble_eq_true rfl) rfl dX11_judge_136 (fun r m2 h => ?_)
      obtain ⟨z2, rfl, h⟩ := h
      exact aj_iret C K dX11_judge_139 ⟨_, rfl, h⟩
    · have h := h2 e
      refine aj_iconst C dX11_judge_117 ?_
      refine aj_goto (tgt := 139) C dX11_judge_118 (by decide) ?_
      exact aj_iret C K dX11_judge_139 ⟨_, rfl, h⟩
  · have h := hc2 e
    refine aj_tin (tgt := 140) (off := 65) C dX11_judge_75 r0 (by omega) (by omega) (by rw [e]; rfl) (by decide) ?_
    refine aj_aload_n C dX11_judge_140 rfl ?_
    refine aj_getO (x := 5) (y := 0) C flX11_65 hq0 rfl dX11_judge_141 ?_
    refine aj_aload_n C dX11_judge_144 rfl ?_
    refine aj_getO (x := 6) (y := 0) C flX11_19 hq0 rfl dX11_judge_145 ?_
    refine aj_aload_n C dX11_judge_148 rfl ?_
    refine aj_getO (x := 9) (y := 0) C flX11_33 hq0 rfl dX11_judge_149 ?_
    refine aj_callV (rest := []) C mvX11_209 (sX5_build (aj_cf (x := 5) (y := 0) (j := 9) hq0 (by decide) rfl) (aj_cf (x := 6) (y := 0) (j := 1) hq0 (by decide) rfl) (aj_cf (x := 9) (y := 0) (j := 4) hq0 (by decide) rfl) h) (aj_cf (x := 5) (y := 0) (j := 9) hq0 (by decide) rfl) (aj_np 2 (by decide +kernel) rfl) (Nat.le_of_ble_eq_true rfl) rfl dX11_judge_152 (fun r m3 h => ?_)
    obtain ⟨rfl, h⟩ := h
    refine aj_aload_n C dX11_judge_155 rfl ?_
    refine aj_getO (x := 5) (y := 0) C flX11_65 hq0 rfl dX11_judge_156 ?_
    refine aj_callV (rest := []) C mvX11_213 (sX5_shortestRing (aj_cf (x := 5) (y := 0) (j := 9) hq0 (by decide) rfl) h) (aj_cf (x := 5) (y := 0) (j := 9) hq0 (by decide) rfl) (aj_np 0 (by decide +kernel) rfl) (Nat.le_of_ble_eq_true rfl) rfl dX11_judge_159 (fun r m4 h => ?_)
    obtain ⟨z4, rfl, h⟩ := h
    refine aj_callS (rest := []) C msX11_216 (sX11_orNone  h) (aj_np 1 (by decide +kernel) rfl) (Nat.le_of_ble_eq_true rfl) rfl dX11_judge_162 (fun r m5 h => ?_)
    obtain ⟨z5, rfl, h⟩ := h
    exact aj_iret C K dX11_judge_165 ⟨_, rfl, h⟩
def wX11_judge (f : Nat) (Φ : Int → aj_M → Prop) (q0 : List Nat) (v1 : Int) (v2 : Int) (m : aj_M) : Prop := wX11_isTray f (fun z1 m1 => rI z1 ∧ (z1 = 0 → Φ (-2) m1) ∧ (¬ (z1 = 0) → rI v2 ∧ (v2 < 0 → Φ (-2) m1) ∧ (¬ (v2 < 0) → rI v2 ∧ (v2 ≤ 3 → (0 ≤ v1 ∧ v1 < 4) ∧ wX10_isMissing f (fun z2 m2 => rI z2 ∧ (z2 = 0 → wX9_copyFrom f (fun m3 => wX11_doAll f (fun z4 m4 => rI z4 ∧ rI (m4 (v1.toNat :: (7 :: q0)) 2) ∧ (z4 < (m4 (v1.toNat :: (7 :: q0)) 2) → hX11_judge_72 f Φ q0 v2 (v1.toNat :: (7 :: q0)) z4 0 m4) ∧ (¬ (z4 < (m4 (v1.toNat :: (7 :: q0)) 2)) → hX11_judge_72 f Φ q0 v2 (v1.toNat :: (7 :: q0)) z4 1 m4)) q0 (v1.toNat :: (7 :: q0)) (4 :: q0) m3) (4 :: q0) (2 :: q0) m2) ∧ (¬ (z2 = 0) → Φ (-6) m2)) (v1.toNat :: (7 :: q0)) m1) ∧ (¬ (v2 ≤ 3) → Φ (-2) m1)))) v1 m
set_option maxHeartbeats 4000000 in
set_option maxRecDepth 100000 in
theorem sX11_judge {n f : Nat} {Φ : Int → aj_M → Prop} {q0 : List Nat} {v1 : Int} {v2 : Int} {m : aj_M} (hq0 : (.inl (11, q0) : aj_R) ∈ aj_pls) (h : wX11_judge f Φ q0 v1 v2 m) : aj_Ct (n + 6) yX11_judge cX11_judge 6 (some .int) [vO 11 q0, vI v1, vI v2] m (fun r m => ∃ z, r = some (vI z) ∧ Φ z m) := by
  refine aj_met (lv := [some (vO 11 q0), some (vI v1), some (vI v2), none, none, none]) (by decide +kernel) rfl (Nat.le_of_ble_eq_true rfl) (fun X C K => ?_)
  unfold wX11_judge at h
  refine aj_iload_n C dX11_judge_0 rfl ?_
  refine aj_callS (rest := []) C msX11_187 (sX11_isTray  h) (aj_np 1 (by decide +kernel) rfl) (Nat.le_of_ble_eq_true rfl) rfl dX11_judge_1 (fun r m1 h => ?_)
  obtain ⟨z1, rfl, h⟩ := h
  obtain ⟨r0, h1, h2⟩ := h
  refine aj_if_eq (tgt := 16) C dX11_judge_4 (by decide) r0 (fun e => ?_) (fun e => ?_)
  · have h := h1 e
    refine aj_bipush C dX11_judge_16 (by decide) ?_
    exact aj_iret C K dX11_judge_18 ⟨_, rfl, h⟩
  · have h := h2 e
    refine aj_iload_n C dX11_judge_7 rfl ?_
    obtain ⟨r0, h1, h2⟩ := h
    refine aj_if_lt (tgt := 16) C dX11_judge_8 (by decide) r0 (fun e => ?_) (fun e => ?_)
    · have h := h1 e
      refine aj_bipush C dX11_judge_16 (by decide) ?_
      exact aj_iret C K dX11_judge_18 ⟨_, rfl, h⟩
    · have h := h2 e
      refine aj_iload_n C dX11_judge_11 rfl ?_
      refine aj_iconst C dX11_judge_12 ?_
      obtain ⟨r0, h1, h2⟩ := h
      refine aj_icmp_le (tgt := 19) C dX11_judge_13 (by decide) r0 (by decide) (fun e => ?_) (fun e => ?_)
      · have h := h1 e
        refine aj_aload_n C dX11_judge_19 rfl ?_
        refine aj_getA (x := 6) (y := 4) C flX11_51 hq0 rfl dX11_judge_20 ?_
        refine aj_iload_n C dX11_judge_23 rfl ?_
        obtain ⟨r0_1, h⟩ := h
        refine aj_aald (c1 := 10) C (aj_ca (e := 6) (n := 4) (j := 7) hq0 (by decide) rfl) (by decide) (fun _ => rfl) (by decide) r0_1 dX11_judge_24 ?_
        refine aj_astore_n (lv' := [some (vO 11 q0), some (vI v1), some (vI v2), some (vO 10 (v1.toNat :: (7 :: q0))), none, none]) C dX11_judge_25 (by decide) rfl ?_
        refine aj_aload_n C dX11_judge_26 rfl ?_
        refine aj_callV (rest := []) C mvX11_190 (sX10_isMissing (aj_ce (i := v1.toNat) (aj_ca (e := 6) (n := 4) (j := 7) hq0 (by decide) rfl) rfl (by omega)) h) (aj_ce (i := v1.toNat) (aj_ca (e := 6) (n := 4) (j := 7) hq0 (by decide) rfl) rfl (by omega)) (aj_np 0 (by decide +kernel) rfl) (Nat.le_of_ble_eq_true rfl) rfl dX11_judge_27 (fun r m2 h => ?_)
        obtain ⟨z2, rfl, h⟩ := h
        obtain ⟨r0, h1, h2⟩ := h
        refine aj_if_eq (tgt := 36) C dX11_judge_30 (by decide) r0 (fun e => ?_) (fun e => ?_)
        · have h := h1 e
          refine aj_aload_n C dX11_judge_36 rfl ?_
          refine aj_getO (x := 9) (y := 0) C flX11_33 hq0 rfl dX11_judge_37 ?_
          refine aj_aload_n C dX11_judge_40 rfl ?_
          refine aj_getO (x := 9) (y := 0) C flX11_26 hq0 rfl dX11_judge_41 ?_
          refine aj_callV (rest := []) C mvX11_159 (sX9_copyFrom (aj_cf (x := 9) (y := 0) (j := 4) hq0 (by decide) rfl) (aj_cf (x := 9) (y := 0) (j := 2) hq0 (by decide) rfl) h) (aj_cf (x := 9) (y := 0) (j := 4) hq0 (by decide) rfl) (aj_np 1 (by decide +kernel) rfl) (Nat.le_of_ble_eq_true rfl) rfl dX11_judge_44 (fun r m3 h => ?_)
          obtain ⟨rfl, h⟩ := h
          refine aj_aload_n C dX11_judge_47 rfl ?_
          refine aj_aload_n C dX11_judge_48 rfl ?_
          refine aj_aload_n C dX11_judge_49 rfl ?_
          refine aj_getO (x := 9) (y := 0) C flX11_33 hq0 rfl dX11_judge_50 ?_
          refine aj_callV (rest := []) C mvX11_194 (sX11_doAll hq0 (aj_ce (i := v1.toNat) (aj_ca (e := 6) (n := 4) (j := 7) hq0 (by decide) rfl) rfl (by omega)) (aj_cf (x := 9) (y := 0) (j := 4) hq0 (by decide) rfl) h) hq0 (aj_np 2 (by decide +kernel) rfl) (Nat.le_of_ble_eq_true rfl) rfl dX11_judge_53 (fun r m4 h => ?_)
          obtain ⟨z4, rfl, h⟩ := h
          refine aj_istore (lv' := [some (vO 11 q0), some (vI v1), some (vI v2), some (vO 10 (v1.toNat :: (7 :: q0))), some (vI z4), none]) C dX11_judge_56 (by decide) rfl ?_
          refine aj_iload C dX11_judge_58 rfl ?_
          refine aj_aload_n C dX11_judge_60 rfl ?_
          refine aj_getI C flX11_198 (aj_ce (i := v1.toNat) (aj_ca (e := 6) (n := 4) (j := 7) hq0 (by decide) rfl) rfl (by omega)) (by decide) dX11_judge_61 rfl ?_
          obtain ⟨r0, r1, h1, h2⟩ := h
          refine aj_icmp_lt (tgt := 71) C dX11_judge_64 (by decide) r0 r1 (fun e => ?_) (fun e => ?_)
          · have h := h1 e
            refine aj_iconst C dX11_judge_71 ?_
            refine aj_wk (lv' := [some (vO 11 q0), none, some (vI v2), some (vO 10 (v1.toNat :: (7 :: q0))), some (vI z4), none]) (⟨rfl, ⟨rfl, ⟨rfl, ⟨rfl, trivial⟩⟩⟩⟩) ?_
            exact tX11_judge_72 C K q0 v2 (v1.toNat :: (7 :: q0)) z4 0 _ hq0 (aj_ce (i := v1.toNat) (aj_ca (e := 6) (n := 4) (j := 7) hq0 (by decide) rfl) rfl (by omega)) h
          · have h := h2 e
            refine aj_iconst C dX11_judge_67 ?_
            refine aj_goto (tgt := 72) C dX11_judge_68 (by decide) ?_
            refine aj_wk (lv' := [some (vO 11 q0), none, some (vI v2), some (vO 10 (v1.toNat :: (7 :: q0))), some (vI z4), none]) (⟨rfl, ⟨rfl, ⟨rfl, ⟨rfl, trivial⟩⟩⟩⟩) ?_
            exact tX11_judge_72 C K q0 v2 (v1.toNat :: (7 :: q0)) z4 1 _ hq0 (aj_ce (i := v1.toNat) (aj_ca (e := 6) (n := 4) (j := 7) hq0 (by decide) rfl) rfl (by omega)) h
        · have h := h2 e
          refine aj_bipush C dX11_judge_33 (by decide) ?_
          exact aj_iret C K dX11_judge_35 ⟨_, rfl, h⟩
      · have h := h2 e
        refine aj_bipush C dX11_judge_16 (by decide) ?_
        exact aj_iret C K dX11_judge_18 ⟨_, rfl, h⟩
theorem dX11_trayCode_0 : decode cX11_trayCode 0 = .ok (.iload_n 1, 1) := by decide +kernel
theorem dX11_trayCode_1 : decode cX11_trayCode 1 = .ok (.invokestatic 187, 3) := by decide +kernel
theorem dX11_trayCode_4 : decode cX11_trayCode 4 = .ok (.ifCond .ne 6, 3) := by decide +kernel
theorem dX11_trayCode_7 : decode cX11_trayCode 7 = .ok (.bipush (-2), 2) := by decide +kernel
theorem dX11_trayCode_9 : decode cX11_trayCode 9 = .ok (.ireturn, 1) := by decide +kernel
theorem dX11_trayCode_10 : decode cX11_trayCode 10 = .ok (.aload_n 0, 1) := by decide +kernel
theorem dX11_trayCode_11 : decode cX11_trayCode 11 = .ok (.getfield 51, 3) := by decide +kernel
theorem dX11_trayCode_14 : decode cX11_trayCode 14 = .ok (.iload_n 1, 1) := by decide +kernel
theorem dX11_trayCode_15 : decode cX11_trayCode 15 = .ok (.aaload, 1) := by decide +kernel
theorem dX11_trayCode_16 : decode cX11_trayCode 16 = .ok (.invokevirtual 190, 3) := by decide +kernel
theorem dX11_trayCode_19 : decode cX11_trayCode 19 = .ok (.ifCond .eq 8, 3) := by decide +kernel
theorem dX11_trayCode_22 : decode cX11_trayCode 22 = .ok (.bipush (-6), 2) := by decide +kernel
theorem dX11_trayCode_24 : decode cX11_trayCode 24 = .ok (.goto 4, 3) := by decide +kernel
theorem dX11_trayCode_27 : decode cX11_trayCode 27 = .ok (.iconst 0, 1) := by decide +kernel
theorem dX11_trayCode_28 : decode cX11_trayCode 28 = .ok (.ireturn, 1) := by decide +kernel
def wX11_trayCode (f : Nat) (Φ : Int → aj_M → Prop) (q0 : List Nat) (v1 : Int) (m : aj_M) : Prop := wX11_isTray f (fun z1 m1 => rI z1 ∧ (¬ z1 = 0 → (0 ≤ v1 ∧ v1 < 4) ∧ wX10_isMissing f (fun z2 m2 => rI z2 ∧ (z2 = 0 → Φ 0 m2) ∧ (¬ (z2 = 0) → Φ (-6) m2)) (v1.toNat :: (7 :: q0)) m1) ∧ (z1 = 0 → Φ (-2) m1)) v1 m
set_option maxHeartbeats 4000000 in
set_option maxRecDepth 100000 in
theorem sX11_trayCode {n f : Nat} {Φ : Int → aj_M → Prop} {q0 : List Nat} {v1 : Int} {m : aj_M} (hq0 : (.inl (11, q0) : aj_R) ∈ aj_pls) (h : wX11_trayCode f Φ q0 v1 m) : aj_Ct (n + 1) yX11_trayCode cX11_trayCode 2 (some .int) [vO 11 q0, vI v1] m (fun r m => ∃ z, r = some (vI z) ∧ Φ z m) := by
  refine aj_met (lv := [some (vO 11 q0), some (vI v1)]) (by decide +kernel) rfl (Nat.le_of_ble_eq_true rfl) (fun X C K => ?_)
  unfold wX11_trayCode at h
  refine aj_iload_n C dX11_trayCode_0 rfl ?_
  refine aj_callS (rest := []) C msX11_187 (sX11_isTray  h) (aj_np 1 (by decide +kernel) rfl) (Nat.le_of_ble_eq_true rfl) rfl dX11_trayCode_1 (fun r m1 h => ?_)
  obtain ⟨z1, rfl, h⟩ := h
  obtain ⟨r0, h1, h2⟩ := h
  refine aj_if_ne (tgt := 10) C dX11_trayCode_4 (by decide) r0 (fun e => ?_) (fun e => ?_)
  · have h := h1 e
    refine aj_aload_n C dX11_trayCode_10 rfl ?_
    refine aj_getA (x := 6) (y := 4) C flX11_51 hq0 rfl dX11_trayCode_11 ?_
    refine aj_iload_n C dX11_trayCode_14 rfl ?_
    obtain ⟨r0_1, h⟩ := h
    refine aj_aald (c1 := 10) C (aj_ca (e := 6) (n := 4) (j := 7) hq0 (by decide) rfl) (by decide) (fun _ => rfl) (by decide) r0_1 dX11_trayCode_15 ?_
    refine aj_callV (rest := []) C mvX11_190 (sX10_isMissing (aj_ce (i := v1.toNat) (aj_ca (e := 6) (n := 4) (j := 7) hq0 (by decide) rfl) rfl (by omega)) h) (aj_ce (i := v1.toNat) (aj_ca (e := 6) (n := 4) (j := 7) hq0 (by decide) rfl) rfl (by omega)) (aj_np 0 (by decide +kernel) rfl) (Nat.le_of_ble_eq_true rfl) rfl dX11_trayCode_16 (fun r m2 h => ?_)
    obtain ⟨z2, rfl, h⟩ := h
    obtain ⟨r0, h1, h2⟩ := h
    refine aj_if_eq (tgt := 27) C dX11_trayCode_19 (by decide) r0 (fun e => ?_) (fun e => ?_)
    · have h := h1 e
      refine aj_iconst C dX11_trayCode_27 ?_
      exact aj_iret C K dX11_trayCode_28 ⟨_, rfl, h⟩
    · have h := h2 e
      refine aj_bipush C dX11_trayCode_22 (by decide) ?_
      refine aj_goto (tgt := 28) C dX11_trayCode_24 (by decide) ?_
      exact aj_iret C K dX11_trayCode_28 ⟨_, rfl, h⟩
  · have h := h2 e
    refine aj_bipush C dX11_trayCode_7 (by decide) ?_
    exact aj_iret C K dX11_trayCode_9 ⟨_, rfl, h⟩
theorem dX11_perform_0 : decode cX11_perform 0 = .ok (.aload_n 0, 1) := by decide +kernel
theorem dX11_perform_1 : decode cX11_perform 1 = .ok (.iload_n 1, 1) := by decide +kernel
theorem dX11_perform_2 : decode cX11_perform 2 = .ok (.invokevirtual 222, 3) := by decide +kernel
theorem dX11_perform_5 : decode cX11_perform 5 = .ok (.istore_n 2, 1) := by decide +kernel
theorem dX11_perform_6 : decode cX11_perform 6 = .ok (.iload_n 2, 1) := by decide +kernel
theorem dX11_perform_7 : decode cX11_perform 7 = .ok (.ifCond .eq 5, 3) := by decide +kernel
theorem dX11_perform_10 : decode cX11_perform 10 = .ok (.iload_n 2, 1) := by decide +kernel
theorem dX11_perform_11 : decode cX11_perform 11 = .ok (.ireturn, 1) := by decide +kernel
theorem dX11_perform_12 : decode cX11_perform 12 = .ok (.aload_n 0, 1) := by decide +kernel
theorem dX11_perform_13 : decode cX11_perform 13 = .ok (.getfield 30, 3) := by decide +kernel
theorem dX11_perform_16 : decode cX11_perform 16 = .ok (.aload_n 0, 1) := by decide +kernel
theorem dX11_perform_17 : decode cX11_perform 17 = .ok (.getfield 26, 3) := by decide +kernel
theorem dX11_perform_20 : decode cX11_perform 20 = .ok (.invokevirtual 159, 3) := by decide +kernel
theorem dX11_perform_23 : decode cX11_perform 23 = .ok (.aload_n 0, 1) := by decide +kernel
theorem dX11_perform_24 : decode cX11_perform 24 = .ok (.aload_n 0, 1) := by decide +kernel
theorem dX11_perform_25 : decode cX11_perform 25 = .ok (.getfield 51, 3) := by decide +kernel
theorem dX11_perform_28 : decode cX11_perform 28 = .ok (.iload_n 1, 1) := by decide +kernel
theorem dX11_perform_29 : decode cX11_perform 29 = .ok (.aaload, 1) := by decide +kernel
theorem dX11_perform_30 : decode cX11_perform 30 = .ok (.aload_n 0, 1) := by decide +kernel
theorem dX11_perform_31 : decode cX11_perform 31 = .ok (.getfield 26, 3) := by decide +kernel
theorem dX11_perform_34 : decode cX11_perform 34 = .ok (.invokevirtual 194, 3) := by decide +kernel
theorem dX11_perform_37 : decode cX11_perform 37 = .ok (.istore_n 3, 1) := by decide +kernel
theorem dX11_perform_38 : decode cX11_perform 38 = .ok (.iload_n 3, 1) := by decide +kernel
theorem dX11_perform_39 : decode cX11_perform 39 = .ok (.ifCond .le 7, 3) := by decide +kernel
theorem dX11_perform_42 : decode cX11_perform 42 = .ok (.aload_n 0, 1) := by decide +kernel
theorem dX11_perform_43 : decode cX11_perform 43 = .ok (.invokevirtual 166, 3) := by decide +kernel
theorem dX11_perform_46 : decode cX11_perform 46 = .ok (.iload_n 3, 1) := by decide +kernel
theorem dX11_perform_47 : decode cX11_perform 47 = .ok (.ireturn, 1) := by decide +kernel
def wX11_perform (f : Nat) (Φ : Int → aj_M → Prop) (q0 : List Nat) (v1 : Int) (m : aj_M) : Prop := wX11_trayCode f (fun z1 m1 => rI z1 ∧ (z1 = 0 → wX9_copyFrom f (fun m2 => (0 ≤ v1 ∧ v1 < 4) ∧ wX11_doAll f (fun z3 m3 => rI z3 ∧ (z3 ≤ 0 → Φ z3 m3) ∧ (¬ (z3 ≤ 0) → wX11_wasDone f (fun m4 => Φ z3 m4) q0 m3)) q0 (v1.toNat :: (7 :: q0)) (2 :: q0) m2) (3 :: q0) (2 :: q0) m1) ∧ (¬ (z1 = 0) → Φ z1 m1)) q0 v1 m
set_option maxHeartbeats 4000000 in
set_option maxRecDepth 100000 in
theorem sX11_perform {n f : Nat} {Φ : Int → aj_M → Prop} {q0 : List Nat} {v1 : Int} {m : aj_M} (hq0 : (.inl (11, q0) : aj_R) ∈ aj_pls) (h : wX11_perform f Φ q0 v1 m) : aj_Ct (n + 6) yX11_perform cX11_perform 4 (some .int) [vO 11 q0, vI v1] m (fun r m => ∃ z, r = some (vI z) ∧ Φ z m) := by
  refine aj_met (lv := [some (vO 11 q0), some (vI v1), none, none]) (by decide +kernel) rfl (Nat.le_of_ble_eq_true rfl) (fun X C K => ?_)
  unfold wX11_perform at h
  refine aj_aload_n C dX11_perform_0 rfl ?_
  refine aj_iload_n C dX11_perform_1 rfl ?_
  refine aj_callV (rest := []) C mvX11_222 (sX11_trayCode hq0 h) hq0 (aj_np 1 (by decide +kernel) rfl) (Nat.le_of_ble_eq_true rfl) rfl dX11_perform_2 (fun r m1 h => ?_)
  obtain ⟨z1, rfl, h⟩ := h
  refine aj_istore_n (lv' := [some (vO 11 q0), some (vI v1), some (vI z1), none]) C dX11_perform_5 (by decide) rfl ?_
  refine aj_iload_n C dX11_perform_6 rfl ?_
  obtain ⟨r0, h1, h2⟩ := h
  refine aj_if_eq (tgt := 12) C dX11_perform_7 (by decide) r0 (fun e => ?_) (fun e => ?_)
  · have h := h1 e
    refine aj_aload_n C dX11_perform_12 rfl ?_
    refine aj_getO (x := 9) (y := 0) C flX11_30 hq0 rfl dX11_perform_13 ?_
    refine aj_aload_n C dX11_perform_16 rfl ?_
    refine aj_getO (x := 9) (y := 0) C flX11_26 hq0 rfl dX11_perform_17 ?_
    refine aj_callV (rest := []) C mvX11_159 (sX9_copyFrom (aj_cf (x := 9) (y := 0) (j := 3) hq0 (by decide) rfl) (aj_cf (x := 9) (y := 0) (j := 2) hq0 (by decide) rfl) h) (aj_cf (x := 9) (y := 0) (j := 3) hq0 (by decide) rfl) (aj_np 1 (by decide +kernel) rfl) (Nat.le_of_ble_eq_true rfl) rfl dX11_perform_20 (fun r m2 h => ?_)
    obtain ⟨rfl, h⟩ := h
    refine aj_aload_n C dX11_perform_23 rfl ?_
    refine aj_aload_n C dX11_perform_24 rfl ?_
    refine aj_getA (x := 6) (y := 4) C flX11_51 hq0 rfl dX11_perform_25 ?_
    refine aj_iload_n C dX11_perform_28 rfl ?_
    obtain ⟨r0_1, h⟩ := h
    refine aj_aald (c1 := 10) C (aj_ca (e := 6) (n := 4) (j := 7) hq0 (by decide) rfl) (by decide) (fun _ => rfl) (by decide) r0_1 dX11_perform_29 ?_
    refine aj_aload_n C dX11_perform_30 rfl ?_
    refine aj_getO (x := 9) (y := 0) C flX11_26 hq0 rfl dX11_perform_31 ?_
    refine aj_callV (rest := []) C mvX11_194 (sX11_doAll hq0 (aj_ce (i := v1.toNat) (aj_ca (e := 6) (n := 4) (j := 7) hq0 (by decide) rfl) rfl (by omega)) (aj_cf (x := 9) (y := 0) (j := 2) hq0 (by decide) rfl) h) hq0 (aj_np 2 (by decide +kernel) rfl) (Nat.le_of_ble_eq_true rfl) rfl dX11_perform_34 (fun r m3 h => ?_)
    obtain ⟨z3, rfl, h⟩ := h
    refine aj_istore_n (lv' := [some (vO 11 q0), some (vI v1), some (vI z1), some (vI z3)]) C dX11_perform_37 (by decide) rfl ?_
    refine aj_iload_n C dX11_perform_38 rfl ?_
    obtain ⟨r0, h1, h2⟩ := h
    refine aj_if_le (tgt := 46) C dX11_perform_39 (by decide) r0 (fun e => ?_) (fun e => ?_)
    · have h := h1 e
      refine aj_iload_n C dX11_perform_46 rfl ?_
      exact aj_iret C K dX11_perform_47 ⟨_, rfl, h⟩
    · have h := h2 e
      refine aj_aload_n C dX11_perform_42 rfl ?_
      refine aj_callV (rest := []) C mvX11_166 (sX11_wasDone hq0 h) hq0 (aj_np 0 (by decide +kernel) rfl) (Nat.le_of_ble_eq_true rfl) rfl dX11_perform_43 (fun r m4 h => ?_)
      obtain ⟨rfl, h⟩ := h
      refine aj_iload_n C dX11_perform_46 rfl ?_
      exact aj_iret C K dX11_perform_47 ⟨_, rfl, h⟩
  · have h := h2 e
    refine aj_iload_n C dX11_perform_10 rfl ?_
    exact aj_iret C K dX11_perform_11 ⟨_, rfl, h⟩
theorem dX11_nextDraw_0 : decode cX11_nextDraw 0 = .ok (.ldc_w 421, 3) := by decide +kernel
theorem dX11_nextDraw_3 : decode cX11_nextDraw 3 = .ok (.iload_n 0, 1) := by decide +kernel
theorem dX11_nextDraw_4 : decode cX11_nextDraw 4 = .ok (.imul, 1) := by decide +kernel
theorem dX11_nextDraw_5 : decode cX11_nextDraw 5 = .ok (.sipush 12345, 3) := by decide +kernel
theorem dX11_nextDraw_8 : decode cX11_nextDraw 8 = .ok (.iadd, 1) := by decide +kernel
theorem dX11_nextDraw_9 : decode cX11_nextDraw 9 = .ok (.ireturn, 1) := by decide +kernel
def wX11_nextDraw (f : Nat) (Φ : Int → aj_M → Prop) (v0 : Int) (m : aj_M) : Prop := Φ ((1103515245 * v0) + 12345) m
set_option maxHeartbeats 4000000 in
set_option maxRecDepth 100000 in
theorem sX11_nextDraw {n f : Nat} {Φ : Int → aj_M → Prop} {v0 : Int} {m : aj_M}  (h : wX11_nextDraw f Φ v0 m) : aj_Ct n yX11_nextDraw cX11_nextDraw 1 (some .int) [vI v0] m (fun r m => ∃ z, r = some (vI z) ∧ Φ z m) := by
  refine aj_met (lv := [some (vI v0)]) (by decide +kernel) rfl (Nat.le_of_ble_eq_true rfl) (fun X C K => ?_)
  unfold wX11_nextDraw at h
  refine aj_ldcw (z := 1103515245) C (wd1098) rfl dX11_nextDraw_0 ?_
  refine aj_iload_n C dX11_nextDraw_3 rfl ?_
  refine aj_imul C dX11_nextDraw_4 ?_
  refine aj_sipush C dX11_nextDraw_5 (by decide) ?_
  refine aj_iadd C dX11_nextDraw_8 ?_
  exact aj_iret C K dX11_nextDraw_9 ⟨_, rfl, h⟩
theorem dX11_drawnDeed_0 : decode cX11_drawnDeed 0 = .ok (.iload_n 0, 1) := by decide +kernel
theorem dX11_drawnDeed_1 : decode cX11_drawnDeed 1 = .ok (.lookupswitch 43 #[(0, 27), (1, 35)], 27) := by decide +kernel
theorem dX11_drawnDeed_28 : decode cX11_drawnDeed 28 = .ok (.bipush 10, 2) := by decide +kernel
theorem dX11_drawnDeed_30 : decode cX11_drawnDeed 30 = .ok (.iload_n 1, 1) := by decide +kernel
theorem dX11_drawnDeed_31 : decode cX11_drawnDeed 31 = .ok (.bipush 10, 2) := by decide +kernel
theorem dX11_drawnDeed_33 : decode cX11_drawnDeed 33 = .ok (.irem, 1) := by decide +kernel
theorem dX11_drawnDeed_34 : decode cX11_drawnDeed 34 = .ok (.iadd, 1) := by decide +kernel
theorem dX11_drawnDeed_35 : decode cX11_drawnDeed 35 = .ok (.ireturn, 1) := by decide +kernel
theorem dX11_drawnDeed_36 : decode cX11_drawnDeed 36 = .ok (.bipush 100, 2) := by decide +kernel
theorem dX11_drawnDeed_38 : decode cX11_drawnDeed 38 = .ok (.iload_n 1, 1) := by decide +kernel
theorem dX11_drawnDeed_39 : decode cX11_drawnDeed 39 = .ok (.bipush 12, 2) := by decide +kernel
theorem dX11_drawnDeed_41 : decode cX11_drawnDeed 41 = .ok (.irem, 1) := by decide +kernel
theorem dX11_drawnDeed_42 : decode cX11_drawnDeed 42 = .ok (.iadd, 1) := by decide +kernel
theorem dX11_drawnDeed_43 : decode cX11_drawnDeed 43 = .ok (.ireturn, 1) := by decide +kernel
theorem dX11_drawnDeed_44 : decode cX11_drawnDeed 44 = .ok (.sipush 1000, 3) := by decide +kernel
theorem dX11_drawnDeed_47 : decode cX11_drawnDeed 47 = .ok (.bipush 100, 2) := by decide +kernel
theorem dX11_drawnDeed_49 : decode cX11_drawnDeed 49 = .ok (.iload_n 1, 1) := by decide +kernel
theorem dX11_drawnDeed_50 : decode cX11_drawnDeed 50 = .ok (.bipush 12, 2) := by decide +kernel
theorem dX11_drawnDeed_52 : decode cX11_drawnDeed 52 = .ok (.irem, 1) := by decide +kernel
theorem dX11_drawnDeed_53 : decode cX11_drawnDeed 53 = .ok (.imul, 1) := by decide +kernel
theorem dX11_drawnDeed_54 : decode cX11_drawnDeed 54 = .ok (.iadd, 1) := by decide +kernel
theorem dX11_drawnDeed_55 : decode cX11_drawnDeed 55 = .ok (.ireturn, 1) := by decide +kernel
def wX11_drawnDeed (f : Nat) (Φ : Int → aj_M → Prop) (v0 : Int) (v1 : Int) (m : aj_M) : Prop := rI v0 ∧ (¬ v0 = 0 ∧ ¬ v0 = 1 → (0 ≤ v1 ∧ v1 < 2147483648) ∧ Φ (1000 + (100 * (v1 % 12))) m) ∧ (v0 = 0 → (0 ≤ v1 ∧ v1 < 2147483648) ∧ Φ (10 + (v1 % 10)) m) ∧ (v0 = 1 → (0 ≤ v1 ∧ v1 < 2147483648) ∧ Φ (100 + (v1 % 12)) m)
set_option maxHeartbeats 4000000 in
set_option maxRecDepth 100000 in
theorem sX11_drawnDeed {n f : Nat} {Φ : Int → aj_M → Prop} {v0 : Int} {v1 : Int} {m : aj_M}  (h : wX11_drawnDeed f Φ v0 v1 m) : aj_Ct n yX11_drawnDeed cX11_drawnDeed 2 (some .int) [vI v0, vI v1] m (fun r m => ∃ z, r = some (vI z) ∧ Φ z m) := by
  refine aj_met (lv := [some (vI v0), some (vI v1)]) (by decide +kernel) rfl (Nat.le_of_ble_eq_true rfl) (fun X C K => ?_)
  unfold wX11_drawnDeed at h
  refine aj_iload_n C dX11_drawnDeed_0 rfl ?_
  obtain ⟨r0, hd, hc0, hc1⟩ := h
  rcases (by omega : (¬ v0 = 0 ∧ ¬ v0 = 1) ∨ v0 = 0 ∨ v0 = 1) with e | e | e
  · have h := hd e
    refine aj_look (tgt := 44) (off := 43) C dX11_drawnDeed_1 (by decide) r0 (by simp [Op.lookupswitch.offset_cons, Op.lookupswitch.offset]; omega) (by decide) ?_
    refine aj_sipush C dX11_drawnDeed_44 (by decide) ?_
    refine aj_bipush C dX11_drawnDeed_47 (by decide) ?_
    refine aj_iload_n C dX11_drawnDeed_49 rfl ?_
    refine aj_bipush C dX11_drawnDeed_50 (by decide) ?_
    obtain ⟨r0, h⟩ := h
    refine aj_iremN C dX11_drawnDeed_52 r0 (by decide) ?_
    refine aj_imul C dX11_drawnDeed_53 ?_
    refine aj_iadd C dX11_drawnDeed_54 ?_
    exact aj_iret C K dX11_drawnDeed_55 ⟨_, rfl, h⟩
  · have h := hc0 e
    refine aj_look (tgt := 28) (off := 27) C dX11_drawnDeed_1 (by decide) r0 (by rw [e]; rfl) (by decide) ?_
    refine aj_bipush C dX11_drawnDeed_28 (by decide) ?_
    refine aj_iload_n C dX11_drawnDeed_30 rfl ?_
    refine aj_bipush C dX11_drawnDeed_31 (by decide) ?_
    obtain ⟨r0, h⟩ := h
    refine aj_iremN C dX11_drawnDeed_33 r0 (by decide) ?_
    refine aj_iadd C dX11_drawnDeed_34 ?_
    exact aj_iret C K dX11_drawnDeed_35 ⟨_, rfl, h⟩
  · have h := hc1 e
    refine aj_look (tgt := 36) (off := 35) C dX11_drawnDeed_1 (by decide) r0 (by rw [e]; rfl) (by decide) ?_
    refine aj_bipush C dX11_drawnDeed_36 (by decide) ?_
    refine aj_iload_n C dX11_drawnDeed_38 rfl ?_
    refine aj_bipush C dX11_drawnDeed_39 (by decide) ?_
    obtain ⟨r0, h⟩ := h
    refine aj_iremN C dX11_drawnDeed_41 r0 (by decide) ?_
    refine aj_iadd C dX11_drawnDeed_42 ?_
    exact aj_iret C K dX11_drawnDeed_43 ⟨_, rfl, h⟩
theorem dX11_day_0 : decode cX11_day 0 = .ok (.iload_n 2, 1) := by decide +kernel
theorem dX11_day_1 : decode cX11_day 1 = .ok (.iconst 1, 1) := by decide +kernel
theorem dX11_day_2 : decode cX11_day 2 = .ok (.if_icmp .lt 9, 3) := by decide +kernel
theorem dX11_day_5 : decode cX11_day 5 = .ok (.iload_n 2, 1) := by decide +kernel
theorem dX11_day_6 : decode cX11_day 6 = .ok (.bipush 40, 2) := by decide +kernel
theorem dX11_day_8 : decode cX11_day 8 = .ok (.if_icmp .le 6, 3) := by decide +kernel
theorem dX11_day_11 : decode cX11_day 11 = .ok (.bipush (-3), 2) := by decide +kernel
theorem dX11_day_13 : decode cX11_day 13 = .ok (.ireturn, 1) := by decide +kernel
theorem dX11_day_14 : decode cX11_day 14 = .ok (.aload_n 0, 1) := by decide +kernel
theorem dX11_day_15 : decode cX11_day 15 = .ok (.getfield 30, 3) := by decide +kernel
theorem dX11_day_18 : decode cX11_day 18 = .ok (.aload_n 0, 1) := by decide +kernel
theorem dX11_day_19 : decode cX11_day 19 = .ok (.getfield 26, 3) := by decide +kernel
theorem dX11_day_22 : decode cX11_day 22 = .ok (.invokevirtual 159, 3) := by decide +kernel
theorem dX11_day_25 : decode cX11_day 25 = .ok (.iload_n 1, 1) := by decide +kernel
theorem dX11_day_26 : decode cX11_day 26 = .ok (.istore_n 3, 1) := by decide +kernel
theorem dX11_day_27 : decode cX11_day 27 = .ok (.iconst 0, 1) := by decide +kernel
theorem dX11_day_28 : decode cX11_day 28 = .ok (.istore 4, 2) := by decide +kernel
theorem dX11_day_30 : decode cX11_day 30 = .ok (.iconst 0, 1) := by decide +kernel
theorem dX11_day_31 : decode cX11_day 31 = .ok (.istore 5, 2) := by decide +kernel
theorem dX11_day_33 : decode cX11_day 33 = .ok (.iload 5, 2) := by decide +kernel
theorem dX11_day_35 : decode cX11_day 35 = .ok (.iload_n 2, 1) := by decide +kernel
theorem dX11_day_36 : decode cX11_day 36 = .ok (.if_icmp .ge 81, 3) := by decide +kernel
theorem dX11_day_39 : decode cX11_day 39 = .ok (.iload_n 3, 1) := by decide +kernel
theorem dX11_day_40 : decode cX11_day 40 = .ok (.invokestatic 225, 3) := by decide +kernel
theorem dX11_day_43 : decode cX11_day 43 = .ok (.istore_n 3, 1) := by decide +kernel
theorem dX11_day_44 : decode cX11_day 44 = .ok (.iload_n 3, 1) := by decide +kernel
theorem dX11_day_45 : decode cX11_day 45 = .ok (.bipush 16, 2) := by decide +kernel
theorem dX11_day_47 : decode cX11_day 47 = .ok (.iushr, 1) := by decide +kernel
theorem dX11_day_48 : decode cX11_day 48 = .ok (.iconst 4, 1) := by decide +kernel
theorem dX11_day_49 : decode cX11_day 49 = .ok (.irem, 1) := by decide +kernel
theorem dX11_day_50 : decode cX11_day 50 = .ok (.istore 6, 2) := by decide +kernel
theorem dX11_day_52 : decode cX11_day 52 = .ok (.iload_n 3, 1) := by decide +kernel
theorem dX11_day_53 : decode cX11_day 53 = .ok (.invokestatic 225, 3) := by decide +kernel
theorem dX11_day_56 : decode cX11_day 56 = .ok (.istore_n 3, 1) := by decide +kernel
theorem dX11_day_57 : decode cX11_day 57 = .ok (.iload 6, 2) := by decide +kernel
theorem dX11_day_59 : decode cX11_day 59 = .ok (.iload_n 3, 1) := by decide +kernel
theorem dX11_day_60 : decode cX11_day 60 = .ok (.bipush 16, 2) := by decide +kernel
theorem dX11_day_62 : decode cX11_day 62 = .ok (.iushr, 1) := by decide +kernel
theorem dX11_day_63 : decode cX11_day 63 = .ok (.invokestatic 228, 3) := by decide +kernel
theorem dX11_day_66 : decode cX11_day 66 = .ok (.istore 7, 2) := by decide +kernel
theorem dX11_day_68 : decode cX11_day 68 = .ok (.iload 6, 2) := by decide +kernel
theorem dX11_day_70 : decode cX11_day 70 = .ok (.iconst 2, 1) := by decide +kernel
theorem dX11_day_71 : decode cX11_day 71 = .ok (.if_icmp .lt 20, 3) := by decide +kernel
theorem dX11_day_74 : decode cX11_day 74 = .ok (.iload_n 3, 1) := by decide +kernel
theorem dX11_day_75 : decode cX11_day 75 = .ok (.invokestatic 225, 3) := by decide +kernel
theorem dX11_day_78 : decode cX11_day 78 = .ok (.istore_n 3, 1) := by decide +kernel
theorem dX11_day_79 : decode cX11_day 79 = .ok (.iload 7, 2) := by decide +kernel
theorem dX11_day_81 : decode cX11_day 81 = .ok (.iload_n 3, 1) := by decide +kernel
theorem dX11_day_82 : decode cX11_day 82 = .ok (.bipush 16, 2) := by decide +kernel
theorem dX11_day_84 : decode cX11_day 84 = .ok (.iushr, 1) := by decide +kernel
theorem dX11_day_85 : decode cX11_day 85 = .ok (.bipush 12, 2) := by decide +kernel
theorem dX11_day_87 : decode cX11_day 87 = .ok (.irem, 1) := by decide +kernel
theorem dX11_day_88 : decode cX11_day 88 = .ok (.iadd, 1) := by decide +kernel
theorem dX11_day_89 : decode cX11_day 89 = .ok (.istore 7, 2) := by decide +kernel
theorem dX11_day_91 : decode cX11_day 91 = .ok (.aload_n 0, 1) := by decide +kernel
theorem dX11_day_92 : decode cX11_day 92 = .ok (.getfield 26, 3) := by decide +kernel
theorem dX11_day_95 : decode cX11_day 95 = .ok (.aload_n 0, 1) := by decide +kernel
theorem dX11_day_96 : decode cX11_day 96 = .ok (.getfield 19, 3) := by decide +kernel
theorem dX11_day_99 : decode cX11_day 99 = .ok (.iload 7, 2) := by decide +kernel
theorem dX11_day_101 : decode cX11_day 101 = .ok (.i2l, 1) := by decide +kernel
theorem dX11_day_102 : decode cX11_day 102 = .ok (.invokevirtual 205, 3) := by decide +kernel
theorem dX11_day_105 : decode cX11_day 105 = .ok (.ifCond .ne 6, 3) := by decide +kernel
theorem dX11_day_108 : decode cX11_day 108 = .ok (.iinc 4 1, 3) := by decide +kernel
theorem dX11_day_111 : decode cX11_day 111 = .ok (.iinc 5 1, 3) := by decide +kernel
theorem dX11_day_114 : decode cX11_day 114 = .ok (.goto (-81), 3) := by decide +kernel
theorem dX11_day_117 : decode cX11_day 117 = .ok (.iload 4, 2) := by decide +kernel
theorem dX11_day_119 : decode cX11_day 119 = .ok (.ifCond .le 7, 3) := by decide +kernel
theorem dX11_day_122 : decode cX11_day 122 = .ok (.aload_n 0, 1) := by decide +kernel
theorem dX11_day_123 : decode cX11_day 123 = .ok (.invokevirtual 166, 3) := by decide +kernel
theorem dX11_day_126 : decode cX11_day 126 = .ok (.iload 4, 2) := by decide +kernel
theorem dX11_day_128 : decode cX11_day 128 = .ok (.ireturn, 1) := by decide +kernel
def hX11_day_33 (f : Nat) (Φ : Int → aj_M → Prop) : Nat → List Nat → Int → Int → Int → Int → aj_M → Prop
  | 0, _, _, _, _, _, _ => False
  | k + 1, q0, v2, v3, v4, v5, m => rI v5 ∧ rI v2 ∧ (v2 ≤ v5 → rI v4 ∧ (v4 ≤ 0 → Φ v4 m) ∧ (¬ (v4 ≤ 0) → wX11_wasDone f (fun m1 => Φ v4 m1) q0 m)) ∧ (¬ (v2 ≤ v5) → wX11_nextDraw f (fun z2 m2 => (0 ≤ (aj_ushr z2 16) ∧ (aj_ushr z2 16) < 2147483648) ∧ wX11_nextDraw f (fun z3 m3 => wX11_drawnDeed f (fun z4 m4 => rI ((aj_ushr z2 16) % 4) ∧ (((aj_ushr z2 16) % 4) < 2 → rI z4 ∧ wX9_tryDeed f (fun z5 m5 => rI z5 ∧ (¬ z5 = 0 → hX11_day_33 f Φ k q0 v2 z3 v4 (v5 + 1) m5) ∧ (z5 = 0 → hX11_day_33 f Φ k q0 v2 z3 (v4 + 1) (v5 + 1) m5)) (2 :: q0) (1 :: q0) z4 m4) ∧ (¬ (((aj_ushr z2 16) % 4) < 2) → wX11_nextDraw f (fun z6 m6 => (0 ≤ (aj_ushr z6 16) ∧ (aj_ushr z6 16) < 2147483648) ∧ rI (z4 + ((aj_ushr z6 16) % 12)) ∧ wX9_tryDeed f (fun z7 m7 => rI z7 ∧ (¬ z7 = 0 → hX11_day_33 f Φ k q0 v2 z6 v4 (v5 + 1) m7) ∧ (z7 = 0 → hX11_day_33 f Φ k q0 v2 z6 (v4 + 1) (v5 + 1) m7)) (2 :: q0) (1 :: q0) (z4 + ((aj_ushr z6 16) % 12)) m6) z3 m4)) ((aj_ushr z2 16) % 4) (aj_ushr z3 16) m3) z2 m2) v3 m)
set_option maxHeartbeats 4000000 in
set_option maxRecDepth 100000 in
theorem tX11_day_33 {X : aj_T} {n f : Nat} {Φ : Int → aj_M → Prop} (C : aj_Cx X cX11_day RX11 8 (n + 5)) (K : aj_Rt X (some .int) (fun r m => ∃ z, r = some (vI z) ∧ Φ z m)) : ∀ (k : Nat) (q0 : List Nat) (v2 : Int) (v3 : Int) (v4 : Int) (v5 : Int) (m : aj_M) (hq0 : (.inl (11, q0) : aj_R) ∈ aj_pls), hX11_day_33 f Φ k q0 v2 v3 v4 v5 m → aj_J X 33 [some (vO 11 q0), none, some (vI v2), some (vI v3), some (vI v4), some (vI v5), none, none] [] m := by
  intro k
  induction k with
  | zero =>
    intro q0 v2 v3 v4 v5 m _ h
    exact h.elim
  | succ k ih =>
    intro q0 v2 v3 v4 v5 m hq0 h
    unfold hX11_day_33 at h
    refine aj_iload C dX11_day_33 rfl ?_
    refine aj_iload_n C dX11_day_35 rfl ?_
    obtain ⟨r0, r1, h1, h2⟩ := h
    refine aj_icmp_ge (tgt := 117) C dX11_day_36 (by decide) r0 r1 (fun e => ?_) (fun e => ?_)
    · have h := h1 e
      refine aj_iload C dX11_day_117 rfl ?_
      obtain ⟨r0, h1, h2⟩ := h
      refine aj_if_le (tgt := 126) C dX11_day_119 (by decide) r0 (fun e => ?_) (fun e => ?_)
      · have h := h1 e
        refine aj_iload C dX11_day_126 rfl ?_
        exact aj_iret C K dX11_day_128 ⟨_, rfl, h⟩
      · have h := h2 e
        refine aj_aload_n C dX11_day_122 rfl ?_
        refine aj_callV (rest := []) C mvX11_166 (sX11_wasDone hq0 h) hq0 (aj_np 0 (by decide +kernel) rfl) (Nat.le_of_ble_eq_true rfl) rfl dX11_day_123 (fun r m1 h => ?_)
        obtain ⟨rfl, h⟩ := h
        refine aj_iload C dX11_day_126 rfl ?_
        exact aj_iret C K dX11_day_128 ⟨_, rfl, h⟩
    · have h := h2 e
      refine aj_iload_n C dX11_day_39 rfl ?_
      refine aj_callS (rest := []) C msX11_225 (sX11_nextDraw  h) (aj_np 1 (by decide +kernel) rfl) (Nat.le_of_ble_eq_true rfl) rfl dX11_day_40 (fun r m2 h => ?_)
      obtain ⟨z2, rfl, h⟩ := h
      refine aj_istore_n (lv' := [some (vO 11 q0), none, some (vI v2), some (vI z2), some (vI v4), some (vI v5), none, none]) C dX11_day_43 (by decide) rfl ?_
      refine aj_iload_n C dX11_day_44 rfl ?_
      refine aj_bipush C dX11_day_45 (by decide) ?_
      refine aj_iushr C dX11_day_47 ?_
      refine aj_iconst C dX11_day_48 ?_
      obtain ⟨r0, h⟩ := h
      refine aj_iremN C dX11_day_49 r0 (by decide) ?_
      refine aj_istore (lv' := [some (vO 11 q0), none, some (vI v2), some (vI z2), some (vI v4), some (vI v5), some (vI ((aj_ushr z2 16) % 4)), none]) C dX11_day_50 (by decide) rfl ?_
      refine aj_iload_n C dX11_day_52 rfl ?_
      refine aj_callS (rest := []) C msX11_225 (sX11_nextDraw  h) (aj_np 1 (by decide +kernel) rfl) (Nat.le_of_ble_eq_true rfl) rfl dX11_day_53 (fun r m3 h => ?_)
      obtain ⟨z3, rfl, h⟩ := h
      refine aj_istore_n (lv' := [some (vO 11 q0), none, some (vI v2), some (vI z3), some (vI v4), some (vI v5), some (vI ((aj_ushr z2 16) % 4)), none]) C dX11_day_56 (by decide) rfl ?_
      refine aj_iload C dX11_day_57 rfl ?_
      refine aj_iload_n C dX11_day_59 rfl ?_
      refine aj_bipush C dX11_day_60 (by decide) ?_
      refine aj_iushr C dX11_day_62 ?_
      refine aj_callS (rest := []) C msX11_228 (sX11_drawnDeed  h) (aj_np 2 (by decide +kernel) rfl) (Nat.le_of_ble_eq_true rfl) rfl dX11_day_63 (fun r m4 h => ?_)
      obtain ⟨z4, rfl, h⟩ := h
      refine aj_istore (lv' := [some (vO 11 q0), none, some (vI v2), some (vI z3), some (vI v4), some (vI v5), some (vI ((aj_ushr z2 16) % 4)), some (vI z4)]) C dX11_day_66 (by decide) rfl ?_
      refine aj_iload C dX11_day_68 rfl ?_
      refine aj_iconst C dX11_day_70 ?_
      obtain ⟨r0, h1, h2⟩ := h
      refine aj_icmp_lt (tgt := 91) C dX11_day_71 (by decide) r0 (by decide) (fun e => ?_) (fun e => ?_)
      · have h := h1 e
        refine aj_aload_n C dX11_day_91 rfl ?_
        refine aj_getO (x := 9) (y := 0) C flX11_26 hq0 rfl dX11_day_92 ?_
        refine aj_aload_n C dX11_day_95 rfl ?_
        refine aj_getO (x := 6) (y := 0) C flX11_19 hq0 rfl dX11_day_96 ?_
        refine aj_iload C dX11_day_99 rfl ?_
        obtain ⟨r0, h⟩ := h
        refine aj_i2l C dX11_day_101 r0 ?_
        refine aj_callV (rest := []) C mvX11_205 (sX9_tryDeed (aj_cf (x := 9) (y := 0) (j := 2) hq0 (by decide) rfl) (aj_cf (x := 6) (y := 0) (j := 1) hq0 (by decide) rfl) h) (aj_cf (x := 9) (y := 0) (j := 2) hq0 (by decide) rfl) (aj_np 2 (by decide +kernel) rfl) (Nat.le_of_ble_eq_true rfl) rfl dX11_day_102 (fun r m5 h => ?_)
        obtain ⟨z5, rfl, h⟩ := h
        obtain ⟨r0, h1, h2⟩ := h
        refine aj_if_ne (tgt := 111) C dX11_day_105 (by decide) r0 (fun e => ?_) (fun e => ?_)
        · have h := h1 e
          refine aj_iinc (lv' := [some (vO 11 q0), none, some (vI v2), some (vI z3), some (vI v4), some (vI (v5 + 1)), some (vI ((aj_ushr z2 16) % 4)), some (vI z4)]) C dX11_day_111 rfl (by decide) rfl ?_
          refine aj_goto (tgt := 33) C dX11_day_114 (by decide) ?_
          refine aj_wk (lv' := [some (vO 11 q0), none, some (vI v2), some (vI z3), some (vI v4), some (vI (v5 + 1)), none, none]) (⟨rfl, ⟨rfl, ⟨rfl, ⟨rfl, ⟨rfl, trivial⟩⟩⟩⟩⟩) ?_
          exact ih q0 v2 z3 v4 (v5 + 1) _ hq0 h
        · have h := h2 e
          refine aj_iinc (lv' := [some (vO 11 q0), none, some (vI v2), some (vI z3), some (vI (v4 + 1)), some (vI v5), some (vI ((aj_ushr z2 16) % 4)), some (vI z4)]) C dX11_day_108 rfl (by decide) rfl ?_
          refine aj_iinc (lv' := [some (vO 11 q0), none, some (vI v2), some (vI z3), some (vI (v4 + 1)), some (vI (v5 + 1)), some (vI ((aj_ushr z2 16) % 4)), some (vI z4)]) C dX11_day_111 rfl (by decide) rfl ?_
          refine aj_goto (tgt := 33) C dX11_day_114 (by decide) ?_
          refine aj_wk (lv' := [some (vO 11 q0), none, some (vI v2), some (vI z3), some (vI (v4 + 1)), some (vI (v5 + 1)), none, none]) (⟨rfl, ⟨rfl, ⟨rfl, ⟨rfl, ⟨rfl, trivial⟩⟩⟩⟩⟩) ?_
          exact ih q0 v2 z3 (v4 + 1) (v5 + 1) _ hq0 h
      · have h := h2 e
        refine aj_iload_n C dX11_day_74 rfl ?_
        refine aj_callS (rest := []) C msX11_225 (sX11_nextDraw  h) (aj_np 1 (by decide +kernel) rfl) (Nat.le_of_ble_eq_true rfl) rfl dX11_day_75 (fun r m6 h => ?_)
        obtain ⟨z6, rfl, h⟩ := h
        refine aj_istore_n (lv' := [some (vO 11 q0), none, some (vI v2), some (vI z6), some (vI v4), some (vI v5), some (vI ((aj_ushr z2 16) % 4)), some (vI z4)]) C dX11_day_78 (by decide) rfl ?_
        refine aj_iload C dX11_day_79 rfl ?_
        refine aj_iload_n C dX11_day_81 rfl ?_
        refine aj_bipush C dX11_day_82 (by decide) ?_
        refine aj_iushr C dX11_day_84 ?_
        refine aj_bipush C dX11_day_85 (by decide) ?_
        obtain ⟨r0, h⟩ := h
        refine aj_iremN C dX11_day_87 r0 (by decide) ?_
        refine aj_iadd C dX11_day_88 ?_
        refine aj_istore (lv' := [some (vO 11 q0), none, some (vI v2), some (vI z6), some (vI v4), some (vI v5), some (vI ((aj_ushr z2 16) % 4)), some (vI (z4 + ((aj_ushr z6 16) % 12)))]) C dX11_day_89 (by decide) rfl ?_
        refine aj_aload_n C dX11_day_91 rfl ?_
        refine aj_getO (x := 9) (y := 0) C flX11_26 hq0 rfl dX11_day_92 ?_
        refine aj_aload_n C dX11_day_95 rfl ?_
        refine aj_getO (x := 6) (y := 0) C flX11_19 hq0 rfl dX11_day_96 ?_
        refine aj_iload C dX11_day_99 rfl ?_
        obtain ⟨r0, h⟩ := h
        refine aj_i2l C dX11_day_101 r0 ?_
        refine aj_callV (rest := []) C mvX11_205 (sX9_tryDeed (aj_cf (x := 9) (y := 0) (j := 2) hq0 (by decide) rfl) (aj_cf (x := 6) (y := 0) (j := 1) hq0 (by decide) rfl) h) (aj_cf (x := 9) (y := 0) (j := 2) hq0 (by decide) rfl) (aj_np 2 (by decide +kernel) rfl) (Nat.le_of_ble_eq_true rfl) rfl dX11_day_102 (fun r m7 h => ?_)
        obtain ⟨z7, rfl, h⟩ := h
        obtain ⟨r0, h1, h2⟩ := h
        refine aj_if_ne (tgt := 111) C dX11_day_105 (by decide) r0 (fun e => ?_) (fun e => ?_)
        · have h := h1 e
          refine aj_iinc (lv' := [some (vO 11 q0), none, some (vI v2), some (vI z6), some (vI v4), some (vI (v5 + 1)), some (vI ((aj_ushr z2 16) % 4)), some (vI (z4 + ((aj_ushr z6 16) % 12)))]) C dX11_day_111 rfl (by decide) rfl ?_
          refine aj_goto (tgt := 33) C dX11_day_114 (by decide) ?_
          refine aj_wk (lv' := [some (vO 11 q0), none, some (vI v2), some (vI z6), some (vI v4), some (vI (v5 + 1)), none, none]) (⟨rfl, ⟨rfl, ⟨rfl, ⟨rfl, ⟨rfl, trivial⟩⟩⟩⟩⟩) ?_
          exact ih q0 v2 z6 v4 (v5 + 1) _ hq0 h
        · have h := h2 e
          refine aj_iinc (lv' := [some (vO 11 q0), none, some (vI v2), some (vI z6), some (vI (v4 + 1)), some (vI v5), some (vI ((aj_ushr z2 16) % 4)), some (vI (z4 + ((aj_ushr z6 16) % 12)))]) C dX11_day_108 rfl (by decide) rfl ?_
          refine aj_iinc (lv' := [some (vO 11 q0), none, some (vI v2), some (vI z6), some (vI (v4 + 1)), some (vI (v5 + 1)), some (vI ((aj_ushr z2 16) % 4)), some (vI (z4 + ((aj_ushr z6 16) % 12)))]) C dX11_day_111 rfl (by decide) rfl ?_
          refine aj_goto (tgt := 33) C dX11_day_114 (by decide) ?_
          refine aj_wk (lv' := [some (vO 11 q0), none, some (vI v2), some (vI z6), some (vI (v4 + 1)), some (vI (v5 + 1)), none, none]) (⟨rfl, ⟨rfl, ⟨rfl, ⟨rfl, ⟨rfl, trivial⟩⟩⟩⟩⟩) ?_
          exact ih q0 v2 z6 (v4 + 1) (v5 + 1) _ hq0 h
def wX11_day (f : Nat) (Φ : Int → aj_M → Prop) (q0 : List Nat) (v1 : Int) (v2 : Int) (m : aj_M) : Prop := rI v2 ∧ (v2 < 1 → Φ (-3) m) ∧ (¬ (v2 < 1) → rI v2 ∧ (v2 ≤ 40 → wX9_copyFrom f (fun m1 => hX11_day_33 f Φ f q0 v2 v1 0 0 m1) (3 :: q0) (2 :: q0) m) ∧ (¬ (v2 ≤ 40) → Φ (-3) m))
set_option maxHeartbeats 4000000 in
set_option maxRecDepth 100000 in
theorem sX11_day {n f : Nat} {Φ : Int → aj_M → Prop} {q0 : List Nat} {v1 : Int} {v2 : Int} {m : aj_M} (hq0 : (.inl (11, q0) : aj_R) ∈ aj_pls) (h : wX11_day f Φ q0 v1 v2 m) : aj_Ct (n + 5) yX11_day cX11_day 8 (some .int) [vO 11 q0, vI v1, vI v2] m (fun r m => ∃ z, r = some (vI z) ∧ Φ z m) := by
  refine aj_met (lv := [some (vO 11 q0), some (vI v1), some (vI v2), none, none, none, none, none]) (by decide +kernel) rfl (Nat.le_of_ble_eq_true rfl) (fun X C K => ?_)
  unfold wX11_day at h
  refine aj_iload_n C dX11_day_0 rfl ?_
  refine aj_iconst C dX11_day_1 ?_
  obtain ⟨r0, h1, h2⟩ := h
  refine aj_icmp_lt (tgt := 11) C dX11_day_2 (by decide) r0 (by decide) (fun e => ?_) (fun e => ?_)
  · have h := h1 e
    refine aj_bipush C dX11_day_11 (by decide) ?_
    exact aj_iret C K dX11_day_13 ⟨_, rfl, h⟩
  · have h := h2 e
    refine aj_iload_n C dX11_day_5 rfl ?_
    refine aj_bipush C dX11_day_6 (by decide) ?_
    obtain ⟨r0, h1, h2⟩ := h
    refine aj_icmp_le (tgt := 14) C dX11_day_8 (by decide) r0 (by decide) (fun e => ?_) (fun e => ?_)
    · have h := h1 e
      refine aj_aload_n C dX11_day_14 rfl ?_
      refine aj_getO (x := 9) (y := 0) C flX11_30 hq0 rfl dX11_day_15 ?_
      refine aj_aload_n C dX11_day_18 rfl ?_
      refine aj_getO (x := 9) (y := 0) C flX11_26 hq0 rfl dX11_day_19 ?_
      refine aj_callV (rest := []) C mvX11_159 (sX9_copyFrom (aj_cf (x := 9) (y := 0) (j := 3) hq0 (by decide) rfl) (aj_cf (x := 9) (y := 0) (j := 2) hq0 (by decide) rfl) h) (aj_cf (x := 9) (y := 0) (j := 3) hq0 (by decide) rfl) (aj_np 1 (by decide +kernel) rfl) (Nat.le_of_ble_eq_true rfl) rfl dX11_day_22 (fun r m1 h => ?_)
      obtain ⟨rfl, h⟩ := h
      refine aj_iload_n C dX11_day_25 rfl ?_
      refine aj_istore_n (lv' := [some (vO 11 q0), some (vI v1), some (vI v2), some (vI v1), none, none, none, none]) C dX11_day_26 (by decide) rfl ?_
      refine aj_iconst C dX11_day_27 ?_
      refine aj_istore (lv' := [some (vO 11 q0), some (vI v1), some (vI v2), some (vI v1), some (vI 0), none, none, none]) C dX11_day_28 (by decide) rfl ?_
      refine aj_iconst C dX11_day_30 ?_
      refine aj_istore (lv' := [some (vO 11 q0), some (vI v1), some (vI v2), some (vI v1), some (vI 0), some (vI 0), none, none]) C dX11_day_31 (by decide) rfl ?_
      refine aj_wk (lv' := [some (vO 11 q0), none, some (vI v2), some (vI v1), some (vI 0), some (vI 0), none, none]) (⟨rfl, ⟨rfl, ⟨rfl, ⟨rfl, ⟨rfl, trivial⟩⟩⟩⟩⟩) ?_
      exact tX11_day_33 C K f q0 v2 v1 0 0 _ hq0 h
    · have h := h2 e
      refine aj_bipush C dX11_day_11 (by decide) ?_
      exact aj_iret C K dX11_day_13 ⟨_, rfl, h⟩
theorem dX11_current_0 : decode cX11_current 0 = .ok (.aload_n 0, 1) := by decide +kernel
theorem dX11_current_1 : decode cX11_current 1 = .ok (.getfield 80, 3) := by decide +kernel
theorem dX11_current_4 : decode cX11_current 4 = .ok (.ifCond .eq 34, 3) := by decide +kernel
theorem dX11_current_7 : decode cX11_current 7 = .ok (.aload_n 0, 1) := by decide +kernel
theorem dX11_current_8 : decode cX11_current 8 = .ok (.getfield 58, 3) := by decide +kernel
theorem dX11_current_11 : decode cX11_current 11 = .ok (.getfield 415, 3) := by decide +kernel
theorem dX11_current_14 : decode cX11_current 14 = .ok (.aload_n 0, 1) := by decide +kernel
theorem dX11_current_15 : decode cX11_current 15 = .ok (.getfield 19, 3) := by decide +kernel
theorem dX11_current_18 : decode cX11_current 18 = .ok (.aload_n 0, 1) := by decide +kernel
theorem dX11_current_19 : decode cX11_current 19 = .ok (.getfield 26, 3) := by decide +kernel
theorem dX11_current_22 : decode cX11_current 22 = .ok (.invokevirtual 209, 3) := by decide +kernel
theorem dX11_current_25 : decode cX11_current 25 = .ok (.aload_n 0, 1) := by decide +kernel
theorem dX11_current_26 : decode cX11_current 26 = .ok (.getfield 58, 3) := by decide +kernel
theorem dX11_current_29 : decode cX11_current 29 = .ok (.iconst 0, 1) := by decide +kernel
theorem dX11_current_30 : decode cX11_current 30 = .ok (.putfield 418, 3) := by decide +kernel
theorem dX11_current_33 : decode cX11_current 33 = .ok (.aload_n 0, 1) := by decide +kernel
theorem dX11_current_34 : decode cX11_current 34 = .ok (.iconst 0, 1) := by decide +kernel
theorem dX11_current_35 : decode cX11_current 35 = .ok (.putfield 80, 3) := by decide +kernel
theorem dX11_current_38 : decode cX11_current 38 = .ok (.aload_n 0, 1) := by decide +kernel
theorem dX11_current_39 : decode cX11_current 39 = .ok (.getfield 58, 3) := by decide +kernel
theorem dX11_current_42 : decode cX11_current 42 = .ok (.getfield 415, 3) := by decide +kernel
theorem dX11_current_45 : decode cX11_current 45 = .ok (.areturn, 1) := by decide +kernel
def wX11_current (f : Nat) (Φ : List Nat → aj_M → Prop) (q0 : List Nat) (m : aj_M) : Prop := rI (m q0 12) ∧ ((m q0 12) = 0 → Φ (3 :: (8 :: q0)) m) ∧ (¬ ((m q0 12) = 0) → wX5_build f (fun m1 => ∀ m2, m2 = aj_u m1 (8 :: q0) 0 0 → ∀ m3, m3 = aj_u m2 q0 12 0 → Φ (3 :: (8 :: q0)) m3) (3 :: (8 :: q0)) (1 :: q0) (2 :: q0) m)
set_option maxHeartbeats 4000000 in
set_option maxRecDepth 100000 in
theorem sX11_current {n f : Nat} {Φ : List Nat → aj_M → Prop} {q0 : List Nat} {m : aj_M} (hq0 : (.inl (11, q0) : aj_R) ∈ aj_pls) (h : wX11_current f Φ q0 m) : aj_Ct (n + 4) yX11_current cX11_current 1 (some (.object "CageLift$Network")) [vO 11 q0] m (fun r m => ∃ q, r = some (vO 5 q) ∧ (.inl (5, q) : aj_R) ∈ aj_pls ∧ Φ q m) := by
  refine aj_met (lv := [some (vO 11 q0)]) (by decide +kernel) rfl (Nat.le_of_ble_eq_true rfl) (fun X C K => ?_)
  unfold wX11_current at h
  refine aj_aload_n C dX11_current_0 rfl ?_
  refine aj_getI C flX11_80 hq0 (by decide) dX11_current_1 rfl ?_
  obtain ⟨r0, h1, h2⟩ := h
  refine aj_if_eq (tgt := 38) C dX11_current_4 (by decide) r0 (fun e => ?_) (fun e => ?_)
  · have h := h1 e
    refine aj_aload_n C dX11_current_38 rfl ?_
    refine aj_getO (x := 8) (y := 0) C flX11_58 hq0 rfl dX11_current_39 ?_
    refine aj_getO (x := 5) (y := 0) C flX11_415 (aj_cf (x := 8) (y := 0) (j := 8) hq0 (by decide) rfl) rfl dX11_current_42 ?_
    exact aj_aret C K dX11_current_45 ⟨_, rfl, (aj_cf (x := 5) (y := 0) (j := 3) (aj_cf (x := 8) (y := 0) (j := 8) hq0 (by decide) rfl) (by decide) rfl), h⟩
  · have h := h2 e
    refine aj_aload_n C dX11_current_7 rfl ?_
    refine aj_getO (x := 8) (y := 0) C flX11_58 hq0 rfl dX11_current_8 ?_
    refine aj_getO (x := 5) (y := 0) C flX11_415 (aj_cf (x := 8) (y := 0) (j := 8) hq0 (by decide) rfl) rfl dX11_current_11 ?_
    refine aj_aload_n C dX11_current_14 rfl ?_
    refine aj_getO (x := 6) (y := 0) C flX11_19 hq0 rfl dX11_current_15 ?_
    refine aj_aload_n C dX11_current_18 rfl ?_
    refine aj_getO (x := 9) (y := 0) C flX11_26 hq0 rfl dX11_current_19 ?_
    refine aj_callV (rest := []) C mvX11_209 (sX5_build (aj_cf (x := 5) (y := 0) (j := 3) (aj_cf (x := 8) (y := 0) (j := 8) hq0 (by decide) rfl) (by decide) rfl) (aj_cf (x := 6) (y := 0) (j := 1) hq0 (by decide) rfl) (aj_cf (x := 9) (y := 0) (j := 2) hq0 (by decide) rfl) h) (aj_cf (x := 5) (y := 0) (j := 3) (aj_cf (x := 8) (y := 0) (j := 8) hq0 (by decide) rfl) (by decide) rfl) (aj_np 2 (by decide +kernel) rfl) (Nat.le_of_ble_eq_true rfl) rfl dX11_current_22 (fun r m1 h => ?_)
    obtain ⟨rfl, h⟩ := h
    refine aj_aload_n C dX11_current_25 rfl ?_
    refine aj_getO (x := 8) (y := 0) C flX11_58 hq0 rfl dX11_current_26 ?_
    refine aj_iconst C dX11_current_29 ?_
    refine aj_putZ C fpX11_418 (aj_cf (x := 8) (y := 0) (j := 8) hq0 (by decide) rfl) (Or.inl rfl) rfl dX11_current_30 ?_
    refine aj_nm (fun m2 e1 => ?_)
    have h := h m2 e1
    refine aj_aload_n C dX11_current_33 rfl ?_
    refine aj_iconst C dX11_current_34 ?_
    refine aj_putZ C fpX11_80 hq0 (Or.inl rfl) rfl dX11_current_35 ?_
    refine aj_nm (fun m3 e1 => ?_)
    have h := h m3 e1
    refine aj_aload_n C dX11_current_38 rfl ?_
    refine aj_getO (x := 8) (y := 0) C flX11_58 hq0 rfl dX11_current_39 ?_
    refine aj_getO (x := 5) (y := 0) C flX11_415 (aj_cf (x := 8) (y := 0) (j := 8) hq0 (by decide) rfl) rfl dX11_current_42 ?_
    exact aj_aret C K dX11_current_45 ⟨_, rfl, (aj_cf (x := 5) (y := 0) (j := 3) (aj_cf (x := 8) (y := 0) (j := 8) hq0 (by decide) rfl) (by decide) rfl), h⟩
theorem dX11_joins_0 : decode cX11_joins 0 = .ok (.aload_n 0, 1) := by decide +kernel
theorem dX11_joins_1 : decode cX11_joins 1 = .ok (.invokevirtual 231, 3) := by decide +kernel
theorem dX11_joins_4 : decode cX11_joins 4 = .ok (.astore_n 3, 1) := by decide +kernel
theorem dX11_joins_5 : decode cX11_joins 5 = .ok (.aload_n 3, 1) := by decide +kernel
theorem dX11_joins_6 : decode cX11_joins 6 = .ok (.iload_n 1, 1) := by decide +kernel
theorem dX11_joins_7 : decode cX11_joins 7 = .ok (.invokevirtual 235, 3) := by decide +kernel
theorem dX11_joins_10 : decode cX11_joins 10 = .ok (.ifCond .eq 11, 3) := by decide +kernel
theorem dX11_joins_13 : decode cX11_joins 13 = .ok (.aload_n 3, 1) := by decide +kernel
theorem dX11_joins_14 : decode cX11_joins 14 = .ok (.iload_n 2, 1) := by decide +kernel
theorem dX11_joins_15 : decode cX11_joins 15 = .ok (.invokevirtual 235, 3) := by decide +kernel
theorem dX11_joins_18 : decode cX11_joins 18 = .ok (.ifCond .ne 6, 3) := by decide +kernel
theorem dX11_joins_21 : decode cX11_joins 21 = .ok (.bipush (-2), 2) := by decide +kernel
theorem dX11_joins_23 : decode cX11_joins 23 = .ok (.ireturn, 1) := by decide +kernel
theorem dX11_joins_24 : decode cX11_joins 24 = .ok (.aload_n 3, 1) := by decide +kernel
theorem dX11_joins_25 : decode cX11_joins 25 = .ok (.iload_n 1, 1) := by decide +kernel
theorem dX11_joins_26 : decode cX11_joins 26 = .ok (.iload_n 2, 1) := by decide +kernel
theorem dX11_joins_27 : decode cX11_joins 27 = .ok (.invokevirtual 236, 3) := by decide +kernel
theorem dX11_joins_30 : decode cX11_joins 30 = .ok (.ireturn, 1) := by decide +kernel
def wX11_joins (f : Nat) (Φ : Int → aj_M → Prop) (q0 : List Nat) (v1 : Int) (v2 : Int) (m : aj_M) : Prop := wX11_current f (fun z1 m1 => wX5_has f (fun z2 m2 => rI z2 ∧ (z2 = 0 → Φ (-2) m2) ∧ (¬ (z2 = 0) → wX5_has f (fun z3 m3 => rI z3 ∧ (¬ z3 = 0 → wX5_linksBetween f (fun z4 m4 => Φ z4 m4) z1 v1 v2 m3) ∧ (z3 = 0 → Φ (-2) m3)) z1 v2 m2)) z1 v1 m1) q0 m
set_option maxHeartbeats 4000000 in
set_option maxRecDepth 100000 in
theorem sX11_joins {n f : Nat} {Φ : Int → aj_M → Prop} {q0 : List Nat} {v1 : Int} {v2 : Int} {m : aj_M} (hq0 : (.inl (11, q0) : aj_R) ∈ aj_pls) (h : wX11_joins f Φ q0 v1 v2 m) : aj_Ct (n + 5) yX11_joins cX11_joins 4 (some .int) [vO 11 q0, vI v1, vI v2] m (fun r m => ∃ z, r = some (vI z) ∧ Φ z m) := by
  refine aj_met (lv := [some (vO 11 q0), some (vI v1), some (vI v2), none]) (by decide +kernel) rfl (Nat.le_of_ble_eq_true rfl) (fun X C K => ?_)
  unfold wX11_joins at h
  refine aj_aload_n C dX11_joins_0 rfl ?_
  refine aj_callV (rest := []) C mvX11_231 (sX11_current hq0 h) hq0 (aj_np 0 (by decide +kernel) rfl) (Nat.le_of_ble_eq_true rfl) rfl dX11_joins_1 (fun r m1 h => ?_)
  obtain ⟨z1, rfl, hz1, h⟩ := h
  refine aj_astore_n (lv' := [some (vO 11 q0), some (vI v1), some (vI v2), some (vO 5 z1)]) C dX11_joins_4 (by decide) rfl ?_
  refine aj_aload_n C dX11_joins_5 rfl ?_
  refine aj_iload_n C dX11_joins_6 rfl ?_
  refine aj_callV (rest := []) C mvX11_235 (sX5_has hz1 h) hz1 (aj_np 1 (by decide +kernel) rfl) (Nat.le_of_ble_eq_true rfl) rfl dX11_joins_7 (fun r m2 h => ?_)
  obtain ⟨z2, rfl, h⟩ := h
  obtain ⟨r0, h1, h2⟩ := h
  refine aj_if_eq (tgt := 21) C dX11_joins_10 (by decide) r0 (fun e => ?_) (fun e => ?_)
  · have h := h1 e
    refine aj_bipush C dX11_joins_21 (by decide) ?_
    exact aj_iret C K dX11_joins_23 ⟨_, rfl, h⟩
  · have h := h2 e
    refine aj_aload_n C dX11_joins_13 rfl ?_
    refine aj_iload_n C dX11_joins_14 rfl ?_
    refine aj_callV (rest := []) C mvX11_235 (sX5_has hz1 h) hz1 (aj_np 1 (by decide +kernel) rfl) (Nat.le_of_ble_eq_true rfl) rfl dX11_joins_15 (fun r m3 h => ?_)
    obtain ⟨z3, rfl, h⟩ := h
    obtain ⟨r0, h1, h2⟩ := h
    refine aj_if_ne (tgt := 24) C dX11_joins_18 (by decide) r0 (fun e => ?_) (fun e => ?_)
    · have h := h1 e
      refine aj_aload_n C dX11_joins_24 rfl ?_
      refine aj_iload_n C dX11_joins_25 rfl ?_
      refine aj_iload_n C dX11_joins_26 rfl ?_
      refine aj_callV (rest := []) C mvX11_236 (sX5_linksBetween hz1 h) hz1 (aj_np 2 (by decide +kernel) rfl) (Nat.le_of_ble_eq_true rfl) rfl dX11_joins_27 (fun r m4 h => ?_)
      obtain ⟨z4, rfl, h⟩ := h
      exact aj_iret C K dX11_joins_30 ⟨_, rfl, h⟩
    · have h := h2 e
      refine aj_bipush C dX11_joins_21 (by decide) ?_
      exact aj_iret C K dX11_joins_23 ⟨_, rfl, h⟩
theorem dX11_degree_0 : decode cX11_degree 0 = .ok (.aload_n 0, 1) := by decide +kernel
theorem dX11_degree_1 : decode cX11_degree 1 = .ok (.invokevirtual 231, 3) := by decide +kernel
theorem dX11_degree_4 : decode cX11_degree 4 = .ok (.astore_n 2, 1) := by decide +kernel
theorem dX11_degree_5 : decode cX11_degree 5 = .ok (.aload_n 2, 1) := by decide +kernel
theorem dX11_degree_6 : decode cX11_degree 6 = .ok (.iload_n 1, 1) := by decide +kernel
theorem dX11_degree_7 : decode cX11_degree 7 = .ok (.invokevirtual 235, 3) := by decide +kernel
theorem dX11_degree_10 : decode cX11_degree 10 = .ok (.ifCond .eq 11, 3) := by decide +kernel
theorem dX11_degree_13 : decode cX11_degree 13 = .ok (.aload_n 2, 1) := by decide +kernel
theorem dX11_degree_14 : decode cX11_degree 14 = .ok (.iload_n 1, 1) := by decide +kernel
theorem dX11_degree_15 : decode cX11_degree 15 = .ok (.invokevirtual 239, 3) := by decide +kernel
theorem dX11_degree_18 : decode cX11_degree 18 = .ok (.goto 5, 3) := by decide +kernel
theorem dX11_degree_21 : decode cX11_degree 21 = .ok (.bipush (-2), 2) := by decide +kernel
theorem dX11_degree_23 : decode cX11_degree 23 = .ok (.ireturn, 1) := by decide +kernel
def wX11_degree (f : Nat) (Φ : Int → aj_M → Prop) (q0 : List Nat) (v1 : Int) (m : aj_M) : Prop := wX11_current f (fun z1 m1 => wX5_has f (fun z2 m2 => rI z2 ∧ (z2 = 0 → Φ (-2) m2) ∧ (¬ (z2 = 0) → wX5_endsAt f (fun z3 m3 => Φ z3 m3) z1 v1 m2)) z1 v1 m1) q0 m
set_option maxHeartbeats 4000000 in
set_option maxRecDepth 100000 in
theorem sX11_degree {n f : Nat} {Φ : Int → aj_M → Prop} {q0 : List Nat} {v1 : Int} {m : aj_M} (hq0 : (.inl (11, q0) : aj_R) ∈ aj_pls) (h : wX11_degree f Φ q0 v1 m) : aj_Ct (n + 5) yX11_degree cX11_degree 3 (some .int) [vO 11 q0, vI v1] m (fun r m => ∃ z, r = some (vI z) ∧ Φ z m) := by
  refine aj_met (lv := [some (vO 11 q0), some (vI v1), none]) (by decide +kernel) rfl (Nat.le_of_ble_eq_true rfl) (fun X C K => ?_)
  unfold wX11_degree at h
  refine aj_aload_n C dX11_degree_0 rfl ?_
  refine aj_callV (rest := []) C mvX11_231 (sX11_current hq0 h) hq0 (aj_np 0 (by decide +kernel) rfl) (Nat.le_of_ble_eq_true rfl) rfl dX11_degree_1 (fun r m1 h => ?_)
  obtain ⟨z1, rfl, hz1, h⟩ := h
  refine aj_astore_n (lv' := [some (vO 11 q0), some (vI v1), some (vO 5 z1)]) C dX11_degree_4 (by decide) rfl ?_
  refine aj_aload_n C dX11_degree_5 rfl ?_
  refine aj_iload_n C dX11_degree_6 rfl ?_
  refine aj_callV (rest := []) C mvX11_235 (sX5_has hz1 h) hz1 (aj_np 1 (by decide +kernel) rfl) (Nat.le_of_ble_eq_true rfl) rfl dX11_degree_7 (fun r m2 h => ?_)
  obtain ⟨z2, rfl, h⟩ := h
  obtain ⟨r0, h1, h2⟩ := h
  refine aj_if_eq (tgt := 21) C dX11_degree_10 (by decide) r0 (fun e => ?_) (fun e => ?_)
  · have h := h1 e
    refine aj_bipush C dX11_degree_21 (by decide) ?_
    exact aj_iret C K dX11_degree_23 ⟨_, rfl, h⟩
  · have h := h2 e
    refine aj_aload_n C dX11_degree_13 rfl ?_
    refine aj_iload_n C dX11_degree_14 rfl ?_
    refine aj_callV (rest := []) C mvX11_239 (sX5_endsAt hz1 h) hz1 (aj_np 1 (by decide +kernel) rfl) (Nat.le_of_ble_eq_true rfl) rfl dX11_degree_15 (fun r m3 h => ?_)
    obtain ⟨z3, rfl, h⟩ := h
    refine aj_goto (tgt := 23) C dX11_degree_18 (by decide) ?_
    exact aj_iret C K dX11_degree_23 ⟨_, rfl, h⟩
theorem dX11_neighbour_0 : decode cX11_neighbour 0 = .ok (.aload_n 0, 1) := by decide +kernel
theorem dX11_neighbour_1 : decode cX11_neighbour 1 = .ok (.invokevirtual 231, 3) := by decide +kernel
theorem dX11_neighbour_4 : decode cX11_neighbour 4 = .ok (.astore_n 3, 1) := by decide +kernel
theorem dX11_neighbour_5 : decode cX11_neighbour 5 = .ok (.aload_n 3, 1) := by decide +kernel
theorem dX11_neighbour_6 : decode cX11_neighbour 6 = .ok (.iload_n 1, 1) := by decide +kernel
theorem dX11_neighbour_7 : decode cX11_neighbour 7 = .ok (.invokevirtual 235, 3) := by decide +kernel
theorem dX11_neighbour_10 : decode cX11_neighbour 10 = .ok (.ifCond .ne 6, 3) := by decide +kernel
theorem dX11_neighbour_13 : decode cX11_neighbour 13 = .ok (.bipush (-2), 2) := by decide +kernel
theorem dX11_neighbour_15 : decode cX11_neighbour 15 = .ok (.ireturn, 1) := by decide +kernel
theorem dX11_neighbour_16 : decode cX11_neighbour 16 = .ok (.iload_n 2, 1) := by decide +kernel
theorem dX11_neighbour_17 : decode cX11_neighbour 17 = .ok (.ifCond .ge 6, 3) := by decide +kernel
theorem dX11_neighbour_20 : decode cX11_neighbour 20 = .ok (.bipush (-3), 2) := by decide +kernel
theorem dX11_neighbour_22 : decode cX11_neighbour 22 = .ok (.ireturn, 1) := by decide +kernel
theorem dX11_neighbour_23 : decode cX11_neighbour 23 = .ok (.aload_n 3, 1) := by decide +kernel
theorem dX11_neighbour_24 : decode cX11_neighbour 24 = .ok (.iload_n 1, 1) := by decide +kernel
theorem dX11_neighbour_25 : decode cX11_neighbour 25 = .ok (.iload_n 2, 1) := by decide +kernel
theorem dX11_neighbour_26 : decode cX11_neighbour 26 = .ok (.invokevirtual 242, 3) := by decide +kernel
theorem dX11_neighbour_29 : decode cX11_neighbour 29 = .ok (.ireturn, 1) := by decide +kernel
def wX11_neighbour (f : Nat) (Φ : Int → aj_M → Prop) (q0 : List Nat) (v1 : Int) (v2 : Int) (m : aj_M) : Prop := wX11_current f (fun z1 m1 => wX5_has f (fun z2 m2 => rI z2 ∧ (¬ z2 = 0 → rI v2 ∧ (0 ≤ v2 → wX5_neighbourAt f (fun z3 m3 => Φ z3 m3) z1 v1 v2 m2) ∧ (¬ (0 ≤ v2) → Φ (-3) m2)) ∧ (z2 = 0 → Φ (-2) m2)) z1 v1 m1) q0 m
set_option maxHeartbeats 4000000 in
set_option maxRecDepth 100000 in
theorem sX11_neighbour {n f : Nat} {Φ : Int → aj_M → Prop} {q0 : List Nat} {v1 : Int} {v2 : Int} {m : aj_M} (hq0 : (.inl (11, q0) : aj_R) ∈ aj_pls) (h : wX11_neighbour f Φ q0 v1 v2 m) : aj_Ct (n + 5) yX11_neighbour cX11_neighbour 4 (some .int) [vO 11 q0, vI v1, vI v2] m (fun r m => ∃ z, r = some (vI z) ∧ Φ z m) := by
  refine aj_met (lv := [some (vO 11 q0), some (vI v1), some (vI v2), none]) (by decide +kernel) rfl (Nat.le_of_ble_eq_true rfl) (fun X C K => ?_)
  unfold wX11_neighbour at h
  refine aj_aload_n C dX11_neighbour_0 rfl ?_
  refine aj_callV (rest := []) C mvX11_231 (sX11_current hq0 h) hq0 (aj_np 0 (by decide +kernel) rfl) (Nat.le_of_ble_eq_true rfl) rfl dX11_neighbour_1 (fun r m1 h => ?_)
  obtain ⟨z1, rfl, hz1, h⟩ := h
  refine aj_astore_n (lv' := [some (vO 11 q0), some (vI v1), some (vI v2), some (vO 5 z1)]) C dX11_neighbour_4 (by decide) rfl ?_
  refine aj_aload_n C dX11_neighbour_5 rfl ?_
  refine aj_iload_n C dX11_neighbour_6 rfl ?_
  refine aj_callV (rest := []) C mvX11_235 (sX5_has hz1 h) hz1 (aj_np 1 (by decide +kernel) rfl) (Nat.le_of_ble_eq_true rfl) rfl dX11_neighbour_7 (fun r m2 h => ?_)
  obtain ⟨z2, rfl, h⟩ := h
  obtain ⟨r0, h1, h2⟩ := h
  refine aj_if_ne (tgt := 16) C dX11_neighbour_10 (by decide) r0 (fun e => ?_) (fun e => ?_)
  · have h := h1 e
    refine aj_iload_n C dX11_neighbour_16 rfl ?_
    obtain ⟨r0, h1, h2⟩ := h
    refine aj_if_ge (tgt := 23) C dX11_neighbour_17 (by decide) r0 (fun e => ?_) (fun e => ?_)
    · have h := h1 e
      refine aj_aload_n C dX11_neighbour_23 rfl ?_
      refine aj_iload_n C dX11_neighbour_24 rfl ?_
      refine aj_iload_n C dX11_neighbour_25 rfl ?_
      refine aj_callV (rest := []) C mvX11_242 (sX5_neighbourAt hz1 h) hz1 (aj_np 2 (by decide +kernel) rfl) (Nat.le_of_ble_eq_true rfl) rfl dX11_neighbour_26 (fun r m3 h => ?_)
      obtain ⟨z3, rfl, h⟩ := h
      exact aj_iret C K dX11_neighbour_29 ⟨_, rfl, h⟩
    · have h := h2 e
      refine aj_bipush C dX11_neighbour_20 (by decide) ?_
      exact aj_iret C K dX11_neighbour_22 ⟨_, rfl, h⟩
  · have h := h2 e
    refine aj_bipush C dX11_neighbour_13 (by decide) ?_
    exact aj_iret C K dX11_neighbour_15 ⟨_, rfl, h⟩
theorem dX11_regular_0 : decode cX11_regular 0 = .ok (.aload_n 0, 1) := by decide +kernel
theorem dX11_regular_1 : decode cX11_regular 1 = .ok (.invokevirtual 231, 3) := by decide +kernel
theorem dX11_regular_4 : decode cX11_regular 4 = .ok (.invokevirtual 245, 3) := by decide +kernel
theorem dX11_regular_7 : decode cX11_regular 7 = .ok (.ireturn, 1) := by decide +kernel
def wX11_regular (f : Nat) (Φ : Int → aj_M → Prop) (q0 : List Nat) (m : aj_M) : Prop := wX11_current f (fun z1 m1 => wX5_commonDegree f (fun z2 m2 => Φ z2 m2) z1 m1) q0 m
set_option maxHeartbeats 4000000 in
set_option maxRecDepth 100000 in
theorem sX11_regular {n f : Nat} {Φ : Int → aj_M → Prop} {q0 : List Nat} {m : aj_M} (hq0 : (.inl (11, q0) : aj_R) ∈ aj_pls) (h : wX11_regular f Φ q0 m) : aj_Ct (n + 5) yX11_regular cX11_regular 1 (some .int) [vO 11 q0] m (fun r m => ∃ z, r = some (vI z) ∧ Φ z m) := by
  refine aj_met (lv := [some (vO 11 q0)]) (by decide +kernel) rfl (Nat.le_of_ble_eq_true rfl) (fun X C K => ?_)
  unfold wX11_regular at h
  refine aj_aload_n C dX11_regular_0 rfl ?_
  refine aj_callV (rest := []) C mvX11_231 (sX11_current hq0 h) hq0 (aj_np 0 (by decide +kernel) rfl) (Nat.le_of_ble_eq_true rfl) rfl dX11_regular_1 (fun r m1 h => ?_)
  obtain ⟨z1, rfl, hz1, h⟩ := h
  refine aj_callV (rest := []) C mvX11_245 (sX5_commonDegree hz1 h) hz1 (aj_np 0 (by decide +kernel) rfl) (Nat.le_of_ble_eq_true rfl) rfl dX11_regular_4 (fun r m2 h => ?_)
  obtain ⟨z2, rfl, h⟩ := h
  exact aj_iret C K dX11_regular_7 ⟨_, rfl, h⟩
theorem dX11_parts_0 : decode cX11_parts 0 = .ok (.aload_n 0, 1) := by decide +kernel
theorem dX11_parts_1 : decode cX11_parts 1 = .ok (.invokevirtual 231, 3) := by decide +kernel
theorem dX11_parts_4 : decode cX11_parts 4 = .ok (.invokevirtual 248, 3) := by decide +kernel
theorem dX11_parts_7 : decode cX11_parts 7 = .ok (.ireturn, 1) := by decide +kernel
def wX11_parts (f : Nat) (Φ : Int → aj_M → Prop) (q0 : List Nat) (m : aj_M) : Prop := wX11_current f (fun z1 m1 => wX5_countParts f (fun z2 m2 => Φ z2 m2) z1 m1) q0 m
set_option maxHeartbeats 4000000 in
set_option maxRecDepth 100000 in
theorem sX11_parts {n f : Nat} {Φ : Int → aj_M → Prop} {q0 : List Nat} {m : aj_M} (hq0 : (.inl (11, q0) : aj_R) ∈ aj_pls) (h : wX11_parts f Φ q0 m) : aj_Ct (n + 5) yX11_parts cX11_parts 1 (some .int) [vO 11 q0] m (fun r m => ∃ z, r = some (vI z) ∧ Φ z m) := by
  refine aj_met (lv := [some (vO 11 q0)]) (by decide +kernel) rfl (Nat.le_of_ble_eq_true rfl) (fun X C K => ?_)
  unfold wX11_parts at h
  refine aj_aload_n C dX11_parts_0 rfl ?_
  refine aj_callV (rest := []) C mvX11_231 (sX11_current hq0 h) hq0 (aj_np 0 (by decide +kernel) rfl) (Nat.le_of_ble_eq_true rfl) rfl dX11_parts_1 (fun r m1 h => ?_)
  obtain ⟨z1, rfl, hz1, h⟩ := h
  refine aj_callV (rest := []) C mvX11_248 (sX5_countParts hz1 h) hz1 (aj_np 0 (by decide +kernel) rfl) (Nat.le_of_ble_eq_true rfl) rfl dX11_parts_4 (fun r m2 h => ?_)
  obtain ⟨z2, rfl, h⟩ := h
  exact aj_iret C K dX11_parts_7 ⟨_, rfl, h⟩
theorem dX11_twoColours_0 : decode cX11_twoColours 0 = .ok (.aload_n 0, 1) := by decide +kernel
theorem dX11_twoColours_1 : decode cX11_twoColours 1 = .ok (.invokevirtual 231, 3) := by decide +kernel
theorem dX11_twoColours_4 : decode cX11_twoColours 4 = .ok (.invokevirtual 251, 3) := by decide +kernel
theorem dX11_twoColours_7 : decode cX11_twoColours 7 = .ok (.ifCond .eq 7, 3) := by decide +kernel
theorem dX11_twoColours_10 : decode cX11_twoColours 10 = .ok (.iconst 1, 1) := by decide +kernel
theorem dX11_twoColours_11 : decode cX11_twoColours 11 = .ok (.goto 4, 3) := by decide +kernel
theorem dX11_twoColours_14 : decode cX11_twoColours 14 = .ok (.iconst 0, 1) := by decide +kernel
theorem dX11_twoColours_15 : decode cX11_twoColours 15 = .ok (.ireturn, 1) := by decide +kernel
def wX11_twoColours (f : Nat) (Φ : Int → aj_M → Prop) (q0 : List Nat) (m : aj_M) : Prop := wX11_current f (fun z1 m1 => wX5_isTwoColoured f (fun z2 m2 => rI z2 ∧ (z2 = 0 → Φ 0 m2) ∧ (¬ (z2 = 0) → Φ 1 m2)) z1 m1) q0 m
set_option maxHeartbeats 4000000 in
set_option maxRecDepth 100000 in
theorem sX11_twoColours {n f : Nat} {Φ : Int → aj_M → Prop} {q0 : List Nat} {m : aj_M} (hq0 : (.inl (11, q0) : aj_R) ∈ aj_pls) (h : wX11_twoColours f Φ q0 m) : aj_Ct (n + 5) yX11_twoColours cX11_twoColours 1 (some .int) [vO 11 q0] m (fun r m => ∃ z, r = some (vI z) ∧ Φ z m) := by
  refine aj_met (lv := [some (vO 11 q0)]) (by decide +kernel) rfl (Nat.le_of_ble_eq_true rfl) (fun X C K => ?_)
  unfold wX11_twoColours at h
  refine aj_aload_n C dX11_twoColours_0 rfl ?_
  refine aj_callV (rest := []) C mvX11_231 (sX11_current hq0 h) hq0 (aj_np 0 (by decide +kernel) rfl) (Nat.le_of_ble_eq_true rfl) rfl dX11_twoColours_1 (fun r m1 h => ?_)
  obtain ⟨z1, rfl, hz1, h⟩ := h
  refine aj_callV (rest := []) C mvX11_251 (sX5_isTwoColoured hz1 h) hz1 (aj_np 0 (by decide +kernel) rfl) (Nat.le_of_ble_eq_true rfl) rfl dX11_twoColours_4 (fun r m2 h => ?_)
  obtain ⟨z2, rfl, h⟩ := h
  obtain ⟨r0, h1, h2⟩ := h
  refine aj_if_eq (tgt := 14) C dX11_twoColours_7 (by decide) r0 (fun e => ?_) (fun e => ?_)
  · have h := h1 e
    refine aj_iconst C dX11_twoColours_14 ?_
    exact aj_iret C K dX11_twoColours_15 ⟨_, rfl, h⟩
  · have h := h2 e
    refine aj_iconst C dX11_twoColours_10 ?_
    refine aj_goto (tgt := 15) C dX11_twoColours_11 (by decide) ?_
    exact aj_iret C K dX11_twoColours_15 ⟨_, rfl, h⟩
theorem dX11_far_0 : decode cX11_far 0 = .ok (.aload_n 0, 1) := by decide +kernel
theorem dX11_far_1 : decode cX11_far 1 = .ok (.invokevirtual 231, 3) := by decide +kernel
theorem dX11_far_4 : decode cX11_far 4 = .ok (.astore_n 3, 1) := by decide +kernel
theorem dX11_far_5 : decode cX11_far 5 = .ok (.aload_n 3, 1) := by decide +kernel
theorem dX11_far_6 : decode cX11_far 6 = .ok (.iload_n 1, 1) := by decide +kernel
theorem dX11_far_7 : decode cX11_far 7 = .ok (.invokevirtual 235, 3) := by decide +kernel
theorem dX11_far_10 : decode cX11_far 10 = .ok (.ifCond .eq 11, 3) := by decide +kernel
theorem dX11_far_13 : decode cX11_far 13 = .ok (.aload_n 3, 1) := by decide +kernel
theorem dX11_far_14 : decode cX11_far 14 = .ok (.iload_n 2, 1) := by decide +kernel
theorem dX11_far_15 : decode cX11_far 15 = .ok (.invokevirtual 235, 3) := by decide +kernel
theorem dX11_far_18 : decode cX11_far 18 = .ok (.ifCond .ne 6, 3) := by decide +kernel
theorem dX11_far_21 : decode cX11_far 21 = .ok (.bipush (-2), 2) := by decide +kernel
theorem dX11_far_23 : decode cX11_far 23 = .ok (.ireturn, 1) := by decide +kernel
theorem dX11_far_24 : decode cX11_far 24 = .ok (.aload_n 3, 1) := by decide +kernel
theorem dX11_far_25 : decode cX11_far 25 = .ok (.iload_n 1, 1) := by decide +kernel
theorem dX11_far_26 : decode cX11_far 26 = .ok (.invokevirtual 254, 3) := by decide +kernel
theorem dX11_far_29 : decode cX11_far 29 = .ok (.pop, 1) := by decide +kernel
theorem dX11_far_30 : decode cX11_far 30 = .ok (.aload_n 3, 1) := by decide +kernel
theorem dX11_far_31 : decode cX11_far 31 = .ok (.getfield 257, 3) := by decide +kernel
theorem dX11_far_34 : decode cX11_far 34 = .ok (.iload_n 2, 1) := by decide +kernel
theorem dX11_far_35 : decode cX11_far 35 = .ok (.iaload, 1) := by decide +kernel
theorem dX11_far_36 : decode cX11_far 36 = .ok (.ireturn, 1) := by decide +kernel
def wX11_far (f : Nat) (Φ : Int → aj_M → Prop) (q0 : List Nat) (v1 : Int) (v2 : Int) (m : aj_M) : Prop := wX11_current f (fun z1 m1 => wX5_has f (fun z2 m2 => rI z2 ∧ (z2 = 0 → Φ (-2) m2) ∧ (¬ (z2 = 0) → wX5_has f (fun z3 m3 => rI z3 ∧ (¬ z3 = 0 → wX5_spread f (fun z4 m4 => (0 ≤ v2 ∧ v2 < 60) ∧ Φ (m4 (10 :: z1) v2.toNat) m4) z1 v1 m3) ∧ (z3 = 0 → Φ (-2) m3)) z1 v2 m2)) z1 v1 m1) q0 m
set_option maxHeartbeats 4000000 in
set_option maxRecDepth 100000 in
theorem sX11_far {n f : Nat} {Φ : Int → aj_M → Prop} {q0 : List Nat} {v1 : Int} {v2 : Int} {m : aj_M} (hq0 : (.inl (11, q0) : aj_R) ∈ aj_pls) (h : wX11_far f Φ q0 v1 v2 m) : aj_Ct (n + 5) yX11_far cX11_far 4 (some .int) [vO 11 q0, vI v1, vI v2] m (fun r m => ∃ z, r = some (vI z) ∧ Φ z m) := by
  refine aj_met (lv := [some (vO 11 q0), some (vI v1), some (vI v2), none]) (by decide +kernel) rfl (Nat.le_of_ble_eq_true rfl) (fun X C K => ?_)
  unfold wX11_far at h
  refine aj_aload_n C dX11_far_0 rfl ?_
  refine aj_callV (rest := []) C mvX11_231 (sX11_current hq0 h) hq0 (aj_np 0 (by decide +kernel) rfl) (Nat.le_of_ble_eq_true rfl) rfl dX11_far_1 (fun r m1 h => ?_)
  obtain ⟨z1, rfl, hz1, h⟩ := h
  refine aj_astore_n (lv' := [some (vO 11 q0), some (vI v1), some (vI v2), some (vO 5 z1)]) C dX11_far_4 (by decide) rfl ?_
  refine aj_aload_n C dX11_far_5 rfl ?_
  refine aj_iload_n C dX11_far_6 rfl ?_
  refine aj_callV (rest := []) C mvX11_235 (sX5_has hz1 h) hz1 (aj_np 1 (by decide +kernel) rfl) (Nat.le_of_ble_eq_true rfl) rfl dX11_far_7 (fun r m2 h => ?_)
  obtain ⟨z2, rfl, h⟩ := h
  obtain ⟨r0, h1, h2⟩ := h
  refine aj_if_eq (tgt := 21) C dX11_far_10 (by decide) r0 (fun e => ?_) (fun e => ?_)
  · have h := h1 e
    refine aj_bipush C dX11_far_21 (by decide) ?_
    exact aj_iret C K dX11_far_23 ⟨_, rfl, h⟩
  · have h := h2 e
    refine aj_aload_n C dX11_far_13 rfl ?_
    refine aj_iload_n C dX11_far_14 rfl ?_
    refine aj_callV (rest := []) C mvX11_235 (sX5_has hz1 h) hz1 (aj_np 1 (by decide +kernel) rfl) (Nat.le_of_ble_eq_true rfl) rfl dX11_far_15 (fun r m3 h => ?_)
    obtain ⟨z3, rfl, h⟩ := h
    obtain ⟨r0, h1, h2⟩ := h
    refine aj_if_ne (tgt := 24) C dX11_far_18 (by decide) r0 (fun e => ?_) (fun e => ?_)
    · have h := h1 e
      refine aj_aload_n C dX11_far_24 rfl ?_
      refine aj_iload_n C dX11_far_25 rfl ?_
      refine aj_callV (rest := []) C mvX11_254 (sX5_spread hz1 h) hz1 (aj_np 1 (by decide +kernel) rfl) (Nat.le_of_ble_eq_true rfl) rfl dX11_far_26 (fun r m4 h => ?_)
      obtain ⟨z4, rfl, h⟩ := h
      refine aj_pop C aj_nI dX11_far_29 ?_
      refine aj_aload_n C dX11_far_30 rfl ?_
      refine aj_getA (x := 0) (y := 60) C flX11_257 hz1 rfl dX11_far_31 ?_
      refine aj_iload_n C dX11_far_34 rfl ?_
      obtain ⟨r0, h⟩ := h
      refine aj_iald C (aj_ca (e := 0) (n := 60) (j := 10) hz1 (by decide) rfl) (by decide) r0 dX11_far_35 rfl ?_
      exact aj_iret C K dX11_far_36 ⟨_, rfl, h⟩
    · have h := h2 e
      refine aj_bipush C dX11_far_21 (by decide) ?_
      exact aj_iret C K dX11_far_23 ⟨_, rfl, h⟩
theorem dX11_diameter_0 : decode cX11_diameter 0 = .ok (.aload_n 0, 1) := by decide +kernel
theorem dX11_diameter_1 : decode cX11_diameter 1 = .ok (.invokevirtual 231, 3) := by decide +kernel
theorem dX11_diameter_4 : decode cX11_diameter 4 = .ok (.invokevirtual 260, 3) := by decide +kernel
theorem dX11_diameter_7 : decode cX11_diameter 7 = .ok (.ireturn, 1) := by decide +kernel
def wX11_diameter (f : Nat) (Φ : Int → aj_M → Prop) (q0 : List Nat) (m : aj_M) : Prop := wX11_current f (fun z1 m1 => wX5_widest f (fun z2 m2 => Φ z2 m2) z1 m1) q0 m
set_option maxHeartbeats 4000000 in
set_option maxRecDepth 100000 in
theorem sX11_diameter {n f : Nat} {Φ : Int → aj_M → Prop} {q0 : List Nat} {m : aj_M} (hq0 : (.inl (11, q0) : aj_R) ∈ aj_pls) (h : wX11_diameter f Φ q0 m) : aj_Ct (n + 5) yX11_diameter cX11_diameter 1 (some .int) [vO 11 q0] m (fun r m => ∃ z, r = some (vI z) ∧ Φ z m) := by
  refine aj_met (lv := [some (vO 11 q0)]) (by decide +kernel) rfl (Nat.le_of_ble_eq_true rfl) (fun X C K => ?_)
  unfold wX11_diameter at h
  refine aj_aload_n C dX11_diameter_0 rfl ?_
  refine aj_callV (rest := []) C mvX11_231 (sX11_current hq0 h) hq0 (aj_np 0 (by decide +kernel) rfl) (Nat.le_of_ble_eq_true rfl) rfl dX11_diameter_1 (fun r m1 h => ?_)
  obtain ⟨z1, rfl, hz1, h⟩ := h
  refine aj_callV (rest := []) C mvX11_260 (sX5_widest hz1 h) hz1 (aj_np 0 (by decide +kernel) rfl) (Nat.le_of_ble_eq_true rfl) rfl dX11_diameter_4 (fun r m2 h => ?_)
  obtain ⟨z2, rfl, h⟩ := h
  exact aj_iret C K dX11_diameter_7 ⟨_, rfl, h⟩
theorem dX11_ball_0 : decode cX11_ball 0 = .ok (.aload_n 0, 1) := by decide +kernel
theorem dX11_ball_1 : decode cX11_ball 1 = .ok (.invokevirtual 231, 3) := by decide +kernel
theorem dX11_ball_4 : decode cX11_ball 4 = .ok (.astore_n 3, 1) := by decide +kernel
theorem dX11_ball_5 : decode cX11_ball 5 = .ok (.aload_n 3, 1) := by decide +kernel
theorem dX11_ball_6 : decode cX11_ball 6 = .ok (.iload_n 1, 1) := by decide +kernel
theorem dX11_ball_7 : decode cX11_ball 7 = .ok (.invokevirtual 235, 3) := by decide +kernel
theorem dX11_ball_10 : decode cX11_ball 10 = .ok (.ifCond .ne 6, 3) := by decide +kernel
theorem dX11_ball_13 : decode cX11_ball 13 = .ok (.bipush (-2), 2) := by decide +kernel
theorem dX11_ball_15 : decode cX11_ball 15 = .ok (.ireturn, 1) := by decide +kernel
theorem dX11_ball_16 : decode cX11_ball 16 = .ok (.iload_n 2, 1) := by decide +kernel
theorem dX11_ball_17 : decode cX11_ball 17 = .ok (.ifCond .lt 9, 3) := by decide +kernel
theorem dX11_ball_20 : decode cX11_ball 20 = .ok (.iload_n 2, 1) := by decide +kernel
theorem dX11_ball_21 : decode cX11_ball 21 = .ok (.bipush 99, 2) := by decide +kernel
theorem dX11_ball_23 : decode cX11_ball 23 = .ok (.if_icmp .le 6, 3) := by decide +kernel
theorem dX11_ball_26 : decode cX11_ball 26 = .ok (.bipush (-3), 2) := by decide +kernel
theorem dX11_ball_28 : decode cX11_ball 28 = .ok (.ireturn, 1) := by decide +kernel
theorem dX11_ball_29 : decode cX11_ball 29 = .ok (.aload_n 3, 1) := by decide +kernel
theorem dX11_ball_30 : decode cX11_ball 30 = .ok (.iload_n 1, 1) := by decide +kernel
theorem dX11_ball_31 : decode cX11_ball 31 = .ok (.iload_n 2, 1) := by decide +kernel
theorem dX11_ball_32 : decode cX11_ball 32 = .ok (.invokevirtual 263, 3) := by decide +kernel
theorem dX11_ball_35 : decode cX11_ball 35 = .ok (.ireturn, 1) := by decide +kernel
def wX11_ball (f : Nat) (Φ : Int → aj_M → Prop) (q0 : List Nat) (v1 : Int) (v2 : Int) (m : aj_M) : Prop := wX11_current f (fun z1 m1 => wX5_has f (fun z2 m2 => rI z2 ∧ (¬ z2 = 0 → rI v2 ∧ (v2 < 0 → Φ (-3) m2) ∧ (¬ (v2 < 0) → rI v2 ∧ (v2 ≤ 99 → wX5_within f (fun z3 m3 => Φ z3 m3) z1 v1 v2 m2) ∧ (¬ (v2 ≤ 99) → Φ (-3) m2))) ∧ (z2 = 0 → Φ (-2) m2)) z1 v1 m1) q0 m
set_option maxHeartbeats 4000000 in
set_option maxRecDepth 100000 in
theorem sX11_ball {n f : Nat} {Φ : Int → aj_M → Prop} {q0 : List Nat} {v1 : Int} {v2 : Int} {m : aj_M} (hq0 : (.inl (11, q0) : aj_R) ∈ aj_pls) (h : wX11_ball f Φ q0 v1 v2 m) : aj_Ct (n + 5) yX11_ball cX11_ball 4 (some .int) [vO 11 q0, vI v1, vI v2] m (fun r m => ∃ z, r = some (vI z) ∧ Φ z m) := by
  refine aj_met (lv := [some (vO 11 q0), some (vI v1), some (vI v2), none]) (by decide +kernel) rfl (Nat.le_of_ble_eq_true rfl) (fun X C K => ?_)
  unfold wX11_ball at h
  refine aj_aload_n C dX11_ball_0 rfl ?_
  refine aj_callV (rest := []) C mvX11_231 (sX11_current hq0 h) hq0 (aj_np 0 (by decide +kernel) rfl) (Nat.le_of_ble_eq_true rfl) rfl dX11_ball_1 (fun r m1 h => ?_)
  obtain ⟨z1, rfl, hz1, h⟩ := h
  refine aj_astore_n (lv' := [some (vO 11 q0), some (vI v1), some (vI v2), some (vO 5 z1)]) C dX11_ball_4 (by decide) rfl ?_
  refine aj_aload_n C dX11_ball_5 rfl ?_
  refine aj_iload_n C dX11_ball_6 rfl ?_
  refine aj_callV (rest := []) C mvX11_235 (sX5_has hz1 h) hz1 (aj_np 1 (by decide +kernel) rfl) (Nat.le_of_ble_eq_true rfl) rfl dX11_ball_7 (fun r m2 h => ?_)
  obtain ⟨z2, rfl, h⟩ := h
  obtain ⟨r0, h1, h2⟩ := h
  refine aj_if_ne (tgt := 16) C dX11_ball_10 (by decide) r0 (fun e => ?_) (fun e => ?_)
  · have h := h1 e
    refine aj_iload_n C dX11_ball_16 rfl ?_
    obtain ⟨r0, h1, h2⟩ := h
    refine aj_if_lt (tgt := 26) C dX11_ball_17 (by decide) r0 (fun e => ?_) (fun e => ?_)
    · have h := h1 e
      refine aj_bipush C dX11_ball_26 (by decide) ?_
      exact aj_iret C K dX11_ball_28 ⟨_, rfl, h⟩
    · have h := h2 e
      refine aj_iload_n C dX11_ball_20 rfl ?_
      refine aj_bipush C dX11_ball_21 (by decide) ?_
      obtain ⟨r0, h1, h2⟩ := h
      refine aj_icmp_le (tgt := 29) C dX11_ball_23 (by decide) r0 (by decide) (fun e => ?_) (fun e => ?_)
      · have h := h1 e
        refine aj_aload_n C dX11_ball_29 rfl ?_
        refine aj_iload_n C dX11_ball_30 rfl ?_
        refine aj_iload_n C dX11_ball_31 rfl ?_
        refine aj_callV (rest := []) C mvX11_263 (sX5_within hz1 h) hz1 (aj_np 2 (by decide +kernel) rfl) (Nat.le_of_ble_eq_true rfl) rfl dX11_ball_32 (fun r m3 h => ?_)
        obtain ⟨z3, rfl, h⟩ := h
        exact aj_iret C K dX11_ball_35 ⟨_, rfl, h⟩
      · have h := h2 e
        refine aj_bipush C dX11_ball_26 (by decide) ?_
        exact aj_iret C K dX11_ball_28 ⟨_, rfl, h⟩
  · have h := h2 e
    refine aj_bipush C dX11_ball_13 (by decide) ?_
    exact aj_iret C K dX11_ball_15 ⟨_, rfl, h⟩
theorem dX11_girth_0 : decode cX11_girth 0 = .ok (.aload_n 0, 1) := by decide +kernel
theorem dX11_girth_1 : decode cX11_girth 1 = .ok (.invokevirtual 231, 3) := by decide +kernel
theorem dX11_girth_4 : decode cX11_girth 4 = .ok (.invokevirtual 213, 3) := by decide +kernel
theorem dX11_girth_7 : decode cX11_girth 7 = .ok (.invokestatic 216, 3) := by decide +kernel
theorem dX11_girth_10 : decode cX11_girth 10 = .ok (.ireturn, 1) := by decide +kernel
def wX11_girth (f : Nat) (Φ : Int → aj_M → Prop) (q0 : List Nat) (m : aj_M) : Prop := wX11_current f (fun z1 m1 => wX5_shortestRing f (fun z2 m2 => wX11_orNone f (fun z3 m3 => Φ z3 m3) z2 m2) z1 m1) q0 m
set_option maxHeartbeats 4000000 in
set_option maxRecDepth 100000 in
theorem sX11_girth {n f : Nat} {Φ : Int → aj_M → Prop} {q0 : List Nat} {m : aj_M} (hq0 : (.inl (11, q0) : aj_R) ∈ aj_pls) (h : wX11_girth f Φ q0 m) : aj_Ct (n + 5) yX11_girth cX11_girth 1 (some .int) [vO 11 q0] m (fun r m => ∃ z, r = some (vI z) ∧ Φ z m) := by
  refine aj_met (lv := [some (vO 11 q0)]) (by decide +kernel) rfl (Nat.le_of_ble_eq_true rfl) (fun X C K => ?_)
  unfold wX11_girth at h
  refine aj_aload_n C dX11_girth_0 rfl ?_
  refine aj_callV (rest := []) C mvX11_231 (sX11_current hq0 h) hq0 (aj_np 0 (by decide +kernel) rfl) (Nat.le_of_ble_eq_true rfl) rfl dX11_girth_1 (fun r m1 h => ?_)
  obtain ⟨z1, rfl, hz1, h⟩ := h
  refine aj_callV (rest := []) C mvX11_213 (sX5_shortestRing hz1 h) hz1 (aj_np 0 (by decide +kernel) rfl) (Nat.le_of_ble_eq_true rfl) rfl dX11_girth_4 (fun r m2 h => ?_)
  obtain ⟨z2, rfl, h⟩ := h
  refine aj_callS (rest := []) C msX11_216 (sX11_orNone  h) (aj_np 1 (by decide +kernel) rfl) (Nat.le_of_ble_eq_true rfl) rfl dX11_girth_7 (fun r m3 h => ?_)
  obtain ⟨z3, rfl, h⟩ := h
  exact aj_iret C K dX11_girth_10 ⟨_, rfl, h⟩
theorem dX11_currentRings_0 : decode cX11_currentRings 0 = .ok (.aload_n 0, 1) := by decide +kernel
theorem dX11_currentRings_1 : decode cX11_currentRings 1 = .ok (.invokevirtual 231, 3) := by decide +kernel
theorem dX11_currentRings_4 : decode cX11_currentRings 4 = .ok (.pop, 1) := by decide +kernel
theorem dX11_currentRings_5 : decode cX11_currentRings 5 = .ok (.aload_n 0, 1) := by decide +kernel
theorem dX11_currentRings_6 : decode cX11_currentRings 6 = .ok (.getfield 58, 3) := by decide +kernel
theorem dX11_currentRings_9 : decode cX11_currentRings 9 = .ok (.areturn, 1) := by decide +kernel
def wX11_currentRings (f : Nat) (Φ : List Nat → aj_M → Prop) (q0 : List Nat) (m : aj_M) : Prop := wX11_current f (fun z1 m1 => Φ (8 :: q0) m1) q0 m
set_option maxHeartbeats 4000000 in
set_option maxRecDepth 100000 in
theorem sX11_currentRings {n f : Nat} {Φ : List Nat → aj_M → Prop} {q0 : List Nat} {m : aj_M} (hq0 : (.inl (11, q0) : aj_R) ∈ aj_pls) (h : wX11_currentRings f Φ q0 m) : aj_Ct (n + 5) yX11_currentRings cX11_currentRings 1 (some (.object "CageLift$Rings")) [vO 11 q0] m (fun r m => ∃ q, r = some (vO 8 q) ∧ (.inl (8, q) : aj_R) ∈ aj_pls ∧ Φ q m) := by
  refine aj_met (lv := [some (vO 11 q0)]) (by decide +kernel) rfl (Nat.le_of_ble_eq_true rfl) (fun X C K => ?_)
  unfold wX11_currentRings at h
  refine aj_aload_n C dX11_currentRings_0 rfl ?_
  refine aj_callV (rest := []) C mvX11_231 (sX11_current hq0 h) hq0 (aj_np 0 (by decide +kernel) rfl) (Nat.le_of_ble_eq_true rfl) rfl dX11_currentRings_1 (fun r m1 h => ?_)
  obtain ⟨z1, rfl, hz1, h⟩ := h
  refine aj_pop C aj_nR dX11_currentRings_4 ?_
  refine aj_aload_n C dX11_currentRings_5 rfl ?_
  refine aj_getO (x := 8) (y := 0) C flX11_58 hq0 rfl dX11_currentRings_6 ?_
  exact aj_aret C K dX11_currentRings_9 ⟨_, rfl, (aj_cf (x := 8) (y := 0) (j := 8) hq0 (by decide) rfl), h⟩
theorem dX11_ring_0 : decode cX11_ring 0 = .ok (.iload_n 1, 1) := by decide +kernel
theorem dX11_ring_1 : decode cX11_ring 1 = .ok (.ifCond .ge 6, 3) := by decide +kernel
theorem dX11_ring_4 : decode cX11_ring 4 = .ok (.bipush (-3), 2) := by decide +kernel
theorem dX11_ring_6 : decode cX11_ring 6 = .ok (.ireturn, 1) := by decide +kernel
theorem dX11_ring_7 : decode cX11_ring 7 = .ok (.aload_n 0, 1) := by decide +kernel
theorem dX11_ring_8 : decode cX11_ring 8 = .ok (.invokevirtual 266, 3) := by decide +kernel
theorem dX11_ring_11 : decode cX11_ring 11 = .ok (.astore_n 2, 1) := by decide +kernel
theorem dX11_ring_12 : decode cX11_ring 12 = .ok (.aload_n 2, 1) := by decide +kernel
theorem dX11_ring_13 : decode cX11_ring 13 = .ok (.invokevirtual 270, 3) := by decide +kernel
theorem dX11_ring_16 : decode cX11_ring 16 = .ok (.iload_n 1, 1) := by decide +kernel
theorem dX11_ring_17 : decode cX11_ring 17 = .ok (.aload_n 2, 1) := by decide +kernel
theorem dX11_ring_18 : decode cX11_ring 18 = .ok (.getfield 273, 3) := by decide +kernel
theorem dX11_ring_21 : decode cX11_ring 21 = .ok (.if_icmp .ge 12, 3) := by decide +kernel
theorem dX11_ring_24 : decode cX11_ring 24 = .ok (.aload_n 2, 1) := by decide +kernel
theorem dX11_ring_25 : decode cX11_ring 25 = .ok (.getfield 276, 3) := by decide +kernel
theorem dX11_ring_28 : decode cX11_ring 28 = .ok (.iload_n 1, 1) := by decide +kernel
theorem dX11_ring_29 : decode cX11_ring 29 = .ok (.iaload, 1) := by decide +kernel
theorem dX11_ring_30 : decode cX11_ring 30 = .ok (.goto 4, 3) := by decide +kernel
theorem dX11_ring_33 : decode cX11_ring 33 = .ok (.iconst (-1), 1) := by decide +kernel
theorem dX11_ring_34 : decode cX11_ring 34 = .ok (.ireturn, 1) := by decide +kernel
def wX11_ring (f : Nat) (Φ : Int → aj_M → Prop) (q0 : List Nat) (v1 : Int) (m : aj_M) : Prop := rI v1 ∧ (0 ≤ v1 → wX11_currentRings f (fun z1 m1 => wX8_findFirst f (fun m2 => rI v1 ∧ rI (m2 z1 1) ∧ ((m2 z1 1) ≤ v1 → Φ (-1) m2) ∧ (¬ ((m2 z1 1) ≤ v1) → (0 ≤ v1 ∧ v1 < 60) ∧ Φ (m2 (2 :: z1) v1.toNat) m2)) z1 m1) q0 m) ∧ (¬ (0 ≤ v1) → Φ (-3) m)
set_option maxHeartbeats 4000000 in
set_option maxRecDepth 100000 in
theorem sX11_ring {n f : Nat} {Φ : Int → aj_M → Prop} {q0 : List Nat} {v1 : Int} {m : aj_M} (hq0 : (.inl (11, q0) : aj_R) ∈ aj_pls) (h : wX11_ring f Φ q0 v1 m) : aj_Ct (n + 6) yX11_ring cX11_ring 3 (some .int) [vO 11 q0, vI v1] m (fun r m => ∃ z, r = some (vI z) ∧ Φ z m) := by
  refine aj_met (lv := [some (vO 11 q0), some (vI v1), none]) (by decide +kernel) rfl (Nat.le_of_ble_eq_true rfl) (fun X C K => ?_)
  unfold wX11_ring at h
  refine aj_iload_n C dX11_ring_0 rfl ?_
  obtain ⟨r0, h1, h2⟩ := h
  refine aj_if_ge (tgt := 7) C dX11_ring_1 (by decide) r0 (fun e => ?_) (fun e => ?_)
  · have h := h1 e
    refine aj_aload_n C dX11_ring_7 rfl ?_
    refine aj_callV (rest := []) C mvX11_266 (sX11_currentRings hq0 h) hq0 (aj_np 0 (by decide +kernel) rfl) (Nat.le_of_ble_eq_true rfl) rfl dX11_ring_8 (fun r m1 h => ?_)
    obtain ⟨z1, rfl, hz1, h⟩ := h
    refine aj_astore_n (lv' := [some (vO 11 q0), some (vI v1), some (vO 8 z1)]) C dX11_ring_11 (by decide) rfl ?_
    refine aj_aload_n C dX11_ring_12 rfl ?_
    refine aj_callV (rest := []) C mvX11_270 (sX8_findFirst hz1 h) hz1 (aj_np 0 (by decide +kernel) rfl) (Nat.le_of_ble_eq_true rfl) rfl dX11_ring_13 (fun r m2 h => ?_)
    obtain ⟨rfl, h⟩ := h
    refine aj_iload_n C dX11_ring_16 rfl ?_
    refine aj_aload_n C dX11_ring_17 rfl ?_
    refine aj_getI C flX11_273 hz1 (by decide) dX11_ring_18 rfl ?_
    obtain ⟨r0, r1, h1, h2⟩ := h
    refine aj_icmp_ge (tgt := 33) C dX11_ring_21 (by decide) r0 r1 (fun e => ?_) (fun e => ?_)
    · have h := h1 e
      refine aj_iconst C dX11_ring_33 ?_
      exact aj_iret C K dX11_ring_34 ⟨_, rfl, h⟩
    · have h := h2 e
      refine aj_aload_n C dX11_ring_24 rfl ?_
      refine aj_getA (x := 0) (y := 60) C flX11_276 hz1 rfl dX11_ring_25 ?_
      refine aj_iload_n C dX11_ring_28 rfl ?_
      obtain ⟨r0, h⟩ := h
      refine aj_iald C (aj_ca (e := 0) (n := 60) (j := 2) hz1 (by decide) rfl) (by decide) r0 dX11_ring_29 rfl ?_
      refine aj_goto (tgt := 34) C dX11_ring_30 (by decide) ?_
      exact aj_iret C K dX11_ring_34 ⟨_, rfl, h⟩
  · have h := h2 e
    refine aj_bipush C dX11_ring_4 (by decide) ?_
    exact aj_iret C K dX11_ring_6 ⟨_, rfl, h⟩
theorem dX11_rings_0 : decode cX11_rings 0 = .ok (.iload_n 1, 1) := by decide +kernel
theorem dX11_rings_1 : decode cX11_rings 1 = .ok (.iconst 1, 1) := by decide +kernel
theorem dX11_rings_2 : decode cX11_rings 2 = .ok (.if_icmp .lt 9, 3) := by decide +kernel
theorem dX11_rings_5 : decode cX11_rings 5 = .ok (.iload_n 1, 1) := by decide +kernel
theorem dX11_rings_6 : decode cX11_rings 6 = .ok (.bipush 6, 2) := by decide +kernel
theorem dX11_rings_8 : decode cX11_rings 8 = .ok (.if_icmp .le 6, 3) := by decide +kernel
theorem dX11_rings_11 : decode cX11_rings 11 = .ok (.bipush (-3), 2) := by decide +kernel
theorem dX11_rings_13 : decode cX11_rings 13 = .ok (.ireturn, 1) := by decide +kernel
theorem dX11_rings_14 : decode cX11_rings 14 = .ok (.aload_n 0, 1) := by decide +kernel
theorem dX11_rings_15 : decode cX11_rings 15 = .ok (.invokevirtual 266, 3) := by decide +kernel
theorem dX11_rings_18 : decode cX11_rings 18 = .ok (.iload_n 1, 1) := by decide +kernel
theorem dX11_rings_19 : decode cX11_rings 19 = .ok (.invokevirtual 279, 3) := by decide +kernel
theorem dX11_rings_22 : decode cX11_rings 22 = .ok (.ireturn, 1) := by decide +kernel
def wX11_rings (f : Nat) (Φ : Int → aj_M → Prop) (q0 : List Nat) (v1 : Int) (m : aj_M) : Prop := rI v1 ∧ (v1 < 1 → Φ (-3) m) ∧ (¬ (v1 < 1) → rI v1 ∧ (v1 ≤ 6 → wX11_currentRings f (fun z1 m1 => wX8_countOf f (fun z2 m2 => Φ z2 m2) z1 v1 m1) q0 m) ∧ (¬ (v1 ≤ 6) → Φ (-3) m))
set_option maxHeartbeats 4000000 in
set_option maxRecDepth 100000 in
theorem sX11_rings {n f : Nat} {Φ : Int → aj_M → Prop} {q0 : List Nat} {v1 : Int} {m : aj_M} (hq0 : (.inl (11, q0) : aj_R) ∈ aj_pls) (h : wX11_rings f Φ q0 v1 m) : aj_Ct (n + 11) yX11_rings cX11_rings 2 (some .int) [vO 11 q0, vI v1] m (fun r m => ∃ z, r = some (vI z) ∧ Φ z m) := by
  refine aj_met (lv := [some (vO 11 q0), some (vI v1)]) (by decide +kernel) rfl (Nat.le_of_ble_eq_true rfl) (fun X C K => ?_)
  unfold wX11_rings at h
  refine aj_iload_n C dX11_rings_0 rfl ?_
  refine aj_iconst C dX11_rings_1 ?_
  obtain ⟨r0, h1, h2⟩ := h
  refine aj_icmp_lt (tgt := 11) C dX11_rings_2 (by decide) r0 (by decide) (fun e => ?_) (fun e => ?_)
  · have h := h1 e
    refine aj_bipush C dX11_rings_11 (by decide) ?_
    exact aj_iret C K dX11_rings_13 ⟨_, rfl, h⟩
  · have h := h2 e
    refine aj_iload_n C dX11_rings_5 rfl ?_
    refine aj_bipush C dX11_rings_6 (by decide) ?_
    obtain ⟨r0, h1, h2⟩ := h
    refine aj_icmp_le (tgt := 14) C dX11_rings_8 (by decide) r0 (by decide) (fun e => ?_) (fun e => ?_)
    · have h := h1 e
      refine aj_aload_n C dX11_rings_14 rfl ?_
      refine aj_callV (rest := []) C mvX11_266 (sX11_currentRings hq0 h) hq0 (aj_np 0 (by decide +kernel) rfl) (Nat.le_of_ble_eq_true rfl) rfl dX11_rings_15 (fun r m1 h => ?_)
      obtain ⟨z1, rfl, hz1, h⟩ := h
      refine aj_iload_n C dX11_rings_18 rfl ?_
      refine aj_callV (rest := []) C mvX11_279 (sX8_countOf hz1 h) hz1 (aj_np 1 (by decide +kernel) rfl) (Nat.le_of_ble_eq_true rfl) rfl dX11_rings_19 (fun r m2 h => ?_)
      obtain ⟨z2, rfl, h⟩ := h
      exact aj_iret C K dX11_rings_22 ⟨_, rfl, h⟩
    · have h := h2 e
      refine aj_bipush C dX11_rings_11 (by decide) ?_
      exact aj_iret C K dX11_rings_13 ⟨_, rfl, h⟩
theorem dX11_through_0 : decode cX11_through 0 = .ok (.aload_n 0, 1) := by decide +kernel
theorem dX11_through_1 : decode cX11_through 1 = .ok (.invokevirtual 231, 3) := by decide +kernel
theorem dX11_through_4 : decode cX11_through 4 = .ok (.astore_n 2, 1) := by decide +kernel
theorem dX11_through_5 : decode cX11_through 5 = .ok (.aload_n 2, 1) := by decide +kernel
theorem dX11_through_6 : decode cX11_through 6 = .ok (.iload_n 1, 1) := by decide +kernel
theorem dX11_through_7 : decode cX11_through 7 = .ok (.invokevirtual 235, 3) := by decide +kernel
theorem dX11_through_10 : decode cX11_through 10 = .ok (.ifCond .ne 6, 3) := by decide +kernel
theorem dX11_through_13 : decode cX11_through 13 = .ok (.bipush (-2), 2) := by decide +kernel
theorem dX11_through_15 : decode cX11_through 15 = .ok (.ireturn, 1) := by decide +kernel
theorem dX11_through_16 : decode cX11_through 16 = .ok (.aload_n 2, 1) := by decide +kernel
theorem dX11_through_17 : decode cX11_through 17 = .ok (.iload_n 1, 1) := by decide +kernel
theorem dX11_through_18 : decode cX11_through 18 = .ok (.invokevirtual 282, 3) := by decide +kernel
theorem dX11_through_21 : decode cX11_through 21 = .ok (.invokestatic 216, 3) := by decide +kernel
theorem dX11_through_24 : decode cX11_through 24 = .ok (.ireturn, 1) := by decide +kernel
def wX11_through (f : Nat) (Φ : Int → aj_M → Prop) (q0 : List Nat) (v1 : Int) (m : aj_M) : Prop := wX11_current f (fun z1 m1 => wX5_has f (fun z2 m2 => rI z2 ∧ (¬ z2 = 0 → wX5_shortestThrough f (fun z3 m3 => wX11_orNone f (fun z4 m4 => Φ z4 m4) z3 m3) z1 v1 m2) ∧ (z2 = 0 → Φ (-2) m2)) z1 v1 m1) q0 m
set_option maxHeartbeats 4000000 in
set_option maxRecDepth 100000 in
theorem sX11_through {n f : Nat} {Φ : Int → aj_M → Prop} {q0 : List Nat} {v1 : Int} {m : aj_M} (hq0 : (.inl (11, q0) : aj_R) ∈ aj_pls) (h : wX11_through f Φ q0 v1 m) : aj_Ct (n + 5) yX11_through cX11_through 3 (some .int) [vO 11 q0, vI v1] m (fun r m => ∃ z, r = some (vI z) ∧ Φ z m) := by
  refine aj_met (lv := [some (vO 11 q0), some (vI v1), none]) (by decide +kernel) rfl (Nat.le_of_ble_eq_true rfl) (fun X C K => ?_)
  unfold wX11_through at h
  refine aj_aload_n C dX11_through_0 rfl ?_
  refine aj_callV (rest := []) C mvX11_231 (sX11_current hq0 h) hq0 (aj_np 0 (by decide +kernel) rfl) (Nat.le_of_ble_eq_true rfl) rfl dX11_through_1 (fun r m1 h => ?_)
  obtain ⟨z1, rfl, hz1, h⟩ := h
  refine aj_astore_n (lv' := [some (vO 11 q0), some (vI v1), some (vO 5 z1)]) C dX11_through_4 (by decide) rfl ?_
  refine aj_aload_n C dX11_through_5 rfl ?_
  refine aj_iload_n C dX11_through_6 rfl ?_
  refine aj_callV (rest := []) C mvX11_235 (sX5_has hz1 h) hz1 (aj_np 1 (by decide +kernel) rfl) (Nat.le_of_ble_eq_true rfl) rfl dX11_through_7 (fun r m2 h => ?_)
  obtain ⟨z2, rfl, h⟩ := h
  obtain ⟨r0, h1, h2⟩ := h
  refine aj_if_ne (tgt := 16) C dX11_through_10 (by decide) r0 (fun e => ?_) (fun e => ?_)
  · have h := h1 e
    refine aj_aload_n C dX11_through_16 rfl ?_
    refine aj_iload_n C dX11_through_17 rfl ?_
    refine aj_callV (rest := []) C mvX11_282 (sX5_shortestThrough hz1 h) hz1 (aj_np 1 (by decide +kernel) rfl) (Nat.le_of_ble_eq_true rfl) rfl dX11_through_18 (fun r m3 h => ?_)
    obtain ⟨z3, rfl, h⟩ := h
    refine aj_callS (rest := []) C msX11_216 (sX11_orNone  h) (aj_np 1 (by decide +kernel) rfl) (Nat.le_of_ble_eq_true rfl) rfl dX11_through_21 (fun r m4 h => ?_)
    obtain ⟨z4, rfl, h⟩ := h
    exact aj_iret C K dX11_through_24 ⟨_, rfl, h⟩
  · have h := h2 e
    refine aj_bipush C dX11_through_13 (by decide) ?_
    exact aj_iret C K dX11_through_15 ⟨_, rfl, h⟩
theorem dX11_isBounded_0 : decode cX11_isBounded 0 = .ok (.iload_n 0, 1) := by decide +kernel
theorem dX11_isBounded_1 : decode cX11_isBounded 1 = .ok (.iconst 2, 1) := by decide +kernel
theorem dX11_isBounded_2 : decode cX11_isBounded 2 = .ok (.if_icmp .lt 24, 3) := by decide +kernel
theorem dX11_isBounded_5 : decode cX11_isBounded 5 = .ok (.iload_n 0, 1) := by decide +kernel
theorem dX11_isBounded_6 : decode cX11_isBounded 6 = .ok (.bipush 9, 2) := by decide +kernel
theorem dX11_isBounded_8 : decode cX11_isBounded 8 = .ok (.if_icmp .gt 18, 3) := by decide +kernel
theorem dX11_isBounded_11 : decode cX11_isBounded 11 = .ok (.iload_n 1, 1) := by decide +kernel
theorem dX11_isBounded_12 : decode cX11_isBounded 12 = .ok (.iconst 3, 1) := by decide +kernel
theorem dX11_isBounded_13 : decode cX11_isBounded 13 = .ok (.if_icmp .lt 13, 3) := by decide +kernel
theorem dX11_isBounded_16 : decode cX11_isBounded 16 = .ok (.iload_n 1, 1) := by decide +kernel
theorem dX11_isBounded_17 : decode cX11_isBounded 17 = .ok (.bipush 12, 2) := by decide +kernel
theorem dX11_isBounded_19 : decode cX11_isBounded 19 = .ok (.if_icmp .gt 7, 3) := by decide +kernel
theorem dX11_isBounded_22 : decode cX11_isBounded 22 = .ok (.iconst 1, 1) := by decide +kernel
theorem dX11_isBounded_23 : decode cX11_isBounded 23 = .ok (.goto 4, 3) := by decide +kernel
theorem dX11_isBounded_26 : decode cX11_isBounded 26 = .ok (.iconst 0, 1) := by decide +kernel
theorem dX11_isBounded_27 : decode cX11_isBounded 27 = .ok (.ireturn, 1) := by decide +kernel
def wX11_isBounded (f : Nat) (Φ : Int → aj_M → Prop) (v0 : Int) (v1 : Int) (m : aj_M) : Prop := rI v0 ∧ (v0 < 2 → Φ 0 m) ∧ (¬ (v0 < 2) → rI v0 ∧ (9 < v0 → Φ 0 m) ∧ (¬ (9 < v0) → rI v1 ∧ (v1 < 3 → Φ 0 m) ∧ (¬ (v1 < 3) → rI v1 ∧ (12 < v1 → Φ 0 m) ∧ (¬ (12 < v1) → Φ 1 m))))
set_option maxHeartbeats 4000000 in
set_option maxRecDepth 100000 in
theorem sX11_isBounded {n f : Nat} {Φ : Int → aj_M → Prop} {v0 : Int} {v1 : Int} {m : aj_M}  (h : wX11_isBounded f Φ v0 v1 m) : aj_Ct n yX11_isBounded cX11_isBounded 2 (some .boolean) [vI v0, vI v1] m (fun r m => ∃ z, r = some (vI z) ∧ Φ z m) := by
  refine aj_met (lv := [some (vI v0), some (vI v1)]) (by decide +kernel) rfl (Nat.le_of_ble_eq_true rfl) (fun X C K => ?_)
  unfold wX11_isBounded at h
  refine aj_iload_n C dX11_isBounded_0 rfl ?_
  refine aj_iconst C dX11_isBounded_1 ?_
  obtain ⟨r0, h1, h2⟩ := h
  refine aj_icmp_lt (tgt := 26) C dX11_isBounded_2 (by decide) r0 (by decide) (fun e => ?_) (fun e => ?_)
  · have h := h1 e
    refine aj_iconst C dX11_isBounded_26 ?_
    exact aj_zret C K (Or.inl rfl) dX11_isBounded_27 ⟨_, rfl, h⟩
  · have h := h2 e
    refine aj_iload_n C dX11_isBounded_5 rfl ?_
    refine aj_bipush C dX11_isBounded_6 (by decide) ?_
    obtain ⟨r0, h1, h2⟩ := h
    refine aj_icmp_gt (tgt := 26) C dX11_isBounded_8 (by decide) r0 (by decide) (fun e => ?_) (fun e => ?_)
    · have h := h1 e
      refine aj_iconst C dX11_isBounded_26 ?_
      exact aj_zret C K (Or.inl rfl) dX11_isBounded_27 ⟨_, rfl, h⟩
    · have h := h2 e
      refine aj_iload_n C dX11_isBounded_11 rfl ?_
      refine aj_iconst C dX11_isBounded_12 ?_
      obtain ⟨r0, h1, h2⟩ := h
      refine aj_icmp_lt (tgt := 26) C dX11_isBounded_13 (by decide) r0 (by decide) (fun e => ?_) (fun e => ?_)
      · have h := h1 e
        refine aj_iconst C dX11_isBounded_26 ?_
        exact aj_zret C K (Or.inl rfl) dX11_isBounded_27 ⟨_, rfl, h⟩
      · have h := h2 e
        refine aj_iload_n C dX11_isBounded_16 rfl ?_
        refine aj_bipush C dX11_isBounded_17 (by decide) ?_
        obtain ⟨r0, h1, h2⟩ := h
        refine aj_icmp_gt (tgt := 26) C dX11_isBounded_19 (by decide) r0 (by decide) (fun e => ?_) (fun e => ?_)
        · have h := h1 e
          refine aj_iconst C dX11_isBounded_26 ?_
          exact aj_zret C K (Or.inl rfl) dX11_isBounded_27 ⟨_, rfl, h⟩
        · have h := h2 e
          refine aj_iconst C dX11_isBounded_22 ?_
          refine aj_goto (tgt := 27) C dX11_isBounded_23 (by decide) ?_
          exact aj_zret C K (Or.inr rfl) dX11_isBounded_27 ⟨_, rfl, h⟩
