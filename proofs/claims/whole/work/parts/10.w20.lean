theorem dX12_count_0 : decode cX12_count 0 = .ok (.aload_n 0, 1) := by decide +kernel
theorem dX12_count_1 : decode cX12_count 1 = .ok (.iconst 0, 1) := by decide +kernel
theorem dX12_count_2 : decode cX12_count 2 = .ok (.putfield 1, 3) := by decide +kernel
theorem dX12_count_5 : decode cX12_count 5 = .ok (.aload_n 0, 1) := by decide +kernel
theorem dX12_count_6 : decode cX12_count 6 = .ok (.invokevirtual 336, 3) := by decide +kernel
theorem dX12_count_9 : decode cX12_count 9 = .ok (.iload_n 1, 1) := by decide +kernel
theorem dX12_count_10 : decode cX12_count 10 = .ok (.tableswitch 122 0 9 #[54, 61, 69, 76, 84, 89, 94, 102, 110, 115], 54) := by decide +kernel
theorem dX12_count_64 : decode cX12_count 64 = .ok (.aload_n 0, 1) := by decide +kernel
theorem dX12_count_65 : decode cX12_count 65 = .ok (.getfield 13, 3) := by decide +kernel
theorem dX12_count_68 : decode cX12_count 68 = .ok (.iconst 5, 1) := by decide +kernel
theorem dX12_count_69 : decode cX12_count 69 = .ok (.iaload, 1) := by decide +kernel
theorem dX12_count_70 : decode cX12_count 70 = .ok (.ireturn, 1) := by decide +kernel
theorem dX12_count_71 : decode cX12_count 71 = .ok (.aload_n 0, 1) := by decide +kernel
theorem dX12_count_72 : decode cX12_count 72 = .ok (.getfield 13, 3) := by decide +kernel
theorem dX12_count_75 : decode cX12_count 75 = .ok (.bipush 6, 2) := by decide +kernel
theorem dX12_count_77 : decode cX12_count 77 = .ok (.iaload, 1) := by decide +kernel
theorem dX12_count_78 : decode cX12_count 78 = .ok (.ireturn, 1) := by decide +kernel
theorem dX12_count_79 : decode cX12_count 79 = .ok (.aload_n 0, 1) := by decide +kernel
theorem dX12_count_80 : decode cX12_count 80 = .ok (.getfield 13, 3) := by decide +kernel
theorem dX12_count_83 : decode cX12_count 83 = .ok (.iconst 4, 1) := by decide +kernel
theorem dX12_count_84 : decode cX12_count 84 = .ok (.iaload, 1) := by decide +kernel
theorem dX12_count_85 : decode cX12_count 85 = .ok (.ireturn, 1) := by decide +kernel
theorem dX12_count_86 : decode cX12_count 86 = .ok (.aload_n 0, 1) := by decide +kernel
theorem dX12_count_87 : decode cX12_count 87 = .ok (.getfield 13, 3) := by decide +kernel
theorem dX12_count_90 : decode cX12_count 90 = .ok (.bipush 62, 2) := by decide +kernel
theorem dX12_count_92 : decode cX12_count 92 = .ok (.iaload, 1) := by decide +kernel
theorem dX12_count_93 : decode cX12_count 93 = .ok (.ireturn, 1) := by decide +kernel
theorem dX12_count_94 : decode cX12_count 94 = .ok (.aload_n 0, 1) := by decide +kernel
theorem dX12_count_95 : decode cX12_count 95 = .ok (.getfield 271, 3) := by decide +kernel
theorem dX12_count_98 : decode cX12_count 98 = .ok (.ireturn, 1) := by decide +kernel
theorem dX12_count_99 : decode cX12_count 99 = .ok (.aload_n 0, 1) := by decide +kernel
theorem dX12_count_100 : decode cX12_count 100 = .ok (.getfield 265, 3) := by decide +kernel
theorem dX12_count_103 : decode cX12_count 103 = .ok (.ireturn, 1) := by decide +kernel
theorem dX12_count_104 : decode cX12_count 104 = .ok (.aload_n 0, 1) := by decide +kernel
theorem dX12_count_105 : decode cX12_count 105 = .ok (.getfield 13, 3) := by decide +kernel
theorem dX12_count_108 : decode cX12_count 108 = .ok (.bipush 61, 2) := by decide +kernel
theorem dX12_count_110 : decode cX12_count 110 = .ok (.iaload, 1) := by decide +kernel
theorem dX12_count_111 : decode cX12_count 111 = .ok (.ireturn, 1) := by decide +kernel
theorem dX12_count_112 : decode cX12_count 112 = .ok (.aload_n 0, 1) := by decide +kernel
theorem dX12_count_113 : decode cX12_count 113 = .ok (.getfield 13, 3) := by decide +kernel
theorem dX12_count_116 : decode cX12_count 116 = .ok (.bipush 63, 2) := by decide +kernel
theorem dX12_count_118 : decode cX12_count 118 = .ok (.iaload, 1) := by decide +kernel
theorem dX12_count_119 : decode cX12_count 119 = .ok (.ireturn, 1) := by decide +kernel
theorem dX12_count_120 : decode cX12_count 120 = .ok (.aload_n 0, 1) := by decide +kernel
theorem dX12_count_121 : decode cX12_count 121 = .ok (.getfield 92, 3) := by decide +kernel
theorem dX12_count_124 : decode cX12_count 124 = .ok (.ireturn, 1) := by decide +kernel
theorem dX12_count_125 : decode cX12_count 125 = .ok (.aload_n 0, 1) := by decide +kernel
theorem dX12_count_126 : decode cX12_count 126 = .ok (.getfield 13, 3) := by decide +kernel
theorem dX12_count_129 : decode cX12_count 129 = .ok (.iconst 0, 1) := by decide +kernel
theorem dX12_count_130 : decode cX12_count 130 = .ok (.iaload, 1) := by decide +kernel
theorem dX12_count_131 : decode cX12_count 131 = .ok (.ireturn, 1) := by decide +kernel
theorem dX12_count_132 : decode cX12_count 132 = .ok (.iconst (-1), 1) := by decide +kernel
theorem dX12_count_133 : decode cX12_count 133 = .ok (.ireturn, 1) := by decide +kernel
def wX12_count (f : Nat) (Φ : Int → aj_M → Prop) (q0 : List Nat) (v1 : Int) (m : aj_M) : Prop := ∀ m1, m1 = aj_u m q0 0 0 → wX12_laysNet f (fun m2 => rI v1 ∧ (v1 < 0 ∨ 9 < v1 → Φ (-1) m2) ∧ (v1 = 0 → Φ (m2 (1 :: q0) (5 : Int).toNat) m2) ∧ (v1 = 1 → Φ (m2 (1 :: q0) (6 : Int).toNat) m2) ∧ (v1 = 2 → Φ (m2 (1 :: q0) (4 : Int).toNat) m2) ∧ (v1 = 3 → Φ (m2 (1 :: q0) (62 : Int).toNat) m2) ∧ (v1 = 4 → Φ (m2 q0 23) m2) ∧ (v1 = 5 → Φ (m2 q0 22) m2) ∧ (v1 = 6 → Φ (m2 (1 :: q0) (61 : Int).toNat) m2) ∧ (v1 = 7 → Φ (m2 (1 :: q0) (63 : Int).toNat) m2) ∧ (v1 = 8 → Φ (m2 q0 5) m2) ∧ (v1 = 9 → Φ (m2 (1 :: q0) (0 : Int).toNat) m2)) q0 m1
set_option maxHeartbeats 4000000 in
set_option maxRecDepth 100000 in
theorem sX12_count {n f : Nat} {Φ : Int → aj_M → Prop} {q0 : List Nat} {v1 : Int} {m : aj_M} (hq0 : (.inl (12, q0) : aj_R) ∈ aj_pls) (h : wX12_count f Φ q0 v1 m) : aj_Ct (n + 6) yX12_count cX12_count 2 (some .int) [vO 12 q0, vI v1] m (fun r m => ∃ z, r = some (vI z) ∧ Φ z m) := by
  refine aj_met (lv := [some (vO 12 q0), some (vI v1)]) (by decide +kernel) rfl (Nat.le_of_ble_eq_true rfl) (fun X C K => ?_)
  unfold wX12_count at h
  refine aj_aload_n C dX12_count_0 rfl ?_
  refine aj_iconst C dX12_count_1 ?_
  refine aj_putI C fpX12_1 hq0 rfl dX12_count_2 ?_
  refine aj_nm (fun m1 e1 => ?_)
  have h := h m1 e1
  refine aj_aload_n C dX12_count_5 rfl ?_
  refine aj_callV (rest := []) C mvX12_336 (sX12_laysNet hq0 h) hq0 (aj_np 0 (by decide +kernel) rfl) (Nat.le_of_ble_eq_true rfl) rfl dX12_count_6 (fun r m2 h => ?_)
  obtain ⟨rfl, h⟩ := h
  refine aj_iload_n C dX12_count_9 rfl ?_
  obtain ⟨r0, hd, hc0, hc1, hc2, hc3, hc4, hc5, hc6, hc7, hc8, hc9⟩ := h
  rcases (by omega : (v1 < 0 ∨ 9 < v1) ∨ v1 = 0 ∨ v1 = 1 ∨ v1 = 2 ∨ v1 = 3 ∨ v1 = 4 ∨ v1 = 5 ∨ v1 = 6 ∨ v1 = 7 ∨ v1 = 8 ∨ v1 = 9) with e | e | e | e | e | e | e | e | e | e | e
  · have h := hd e
    refine aj_tout (tgt := 132) C dX12_count_10 r0 e (by decide) ?_
    refine aj_iconst C dX12_count_132 ?_
    exact aj_iret C K dX12_count_133 ⟨_, rfl, h⟩
  · have h := hc0 e
    refine aj_tin (tgt := 64) (off := 54) C dX12_count_10 r0 (by omega) (by omega) (by rw [e]; rfl) (by decide) ?_
    refine aj_aload_n C dX12_count_64 rfl ?_
    refine aj_getA (x := 0) (y := 3315) C flX12_13 hq0 rfl dX12_count_65 ?_
    refine aj_iconst C dX12_count_68 ?_
    refine aj_iald C (aj_ca (e := 0) (n := 3315) (j := 1) hq0 (by decide) rfl) (by decide) (by decide) dX12_count_69 rfl ?_
    exact aj_iret C K dX12_count_70 ⟨_, rfl, h⟩
  · have h := hc1 e
    refine aj_tin (tgt := 71) (off := 61) C dX12_count_10 r0 (by omega) (by omega) (by rw [e]; rfl) (by decide) ?_
    refine aj_aload_n C dX12_count_71 rfl ?_
    refine aj_getA (x := 0) (y := 3315) C flX12_13 hq0 rfl dX12_count_72 ?_
    refine aj_bipush C dX12_count_75 (by decide) ?_
    refine aj_iald C (aj_ca (e := 0) (n := 3315) (j := 1) hq0 (by decide) rfl) (by decide) (by decide) dX12_count_77 rfl ?_
    exact aj_iret C K dX12_count_78 ⟨_, rfl, h⟩
  · have h := hc2 e
    refine aj_tin (tgt := 79) (off := 69) C dX12_count_10 r0 (by omega) (by omega) (by rw [e]; rfl) (by decide) ?_
    refine aj_aload_n C dX12_count_79 rfl ?_
    refine aj_getA (x := 0) (y := 3315) C flX12_13 hq0 rfl dX12_count_80 ?_
    refine aj_iconst C dX12_count_83 ?_
    refine aj_iald C (aj_ca (e := 0) (n := 3315) (j := 1) hq0 (by decide) rfl) (by decide) (by decide) dX12_count_84 rfl ?_
    exact aj_iret C K dX12_count_85 ⟨_, rfl, h⟩
  · have h := hc3 e
    refine aj_tin (tgt := 86) (off := 76) C dX12_count_10 r0 (by omega) (by omega) (by rw [e]; rfl) (by decide) ?_
    refine aj_aload_n C dX12_count_86 rfl ?_
    refine aj_getA (x := 0) (y := 3315) C flX12_13 hq0 rfl dX12_count_87 ?_
    refine aj_bipush C dX12_count_90 (by decide) ?_
    refine aj_iald C (aj_ca (e := 0) (n := 3315) (j := 1) hq0 (by decide) rfl) (by decide) (by decide) dX12_count_92 rfl ?_
    exact aj_iret C K dX12_count_93 ⟨_, rfl, h⟩
  · have h := hc4 e
    refine aj_tin (tgt := 94) (off := 84) C dX12_count_10 r0 (by omega) (by omega) (by rw [e]; rfl) (by decide) ?_
    refine aj_aload_n C dX12_count_94 rfl ?_
    refine aj_getI C flX12_271 hq0 (by decide) dX12_count_95 rfl ?_
    exact aj_iret C K dX12_count_98 ⟨_, rfl, h⟩
  · have h := hc5 e
    refine aj_tin (tgt := 99) (off := 89) C dX12_count_10 r0 (by omega) (by omega) (by rw [e]; rfl) (by decide) ?_
    refine aj_aload_n C dX12_count_99 rfl ?_
    refine aj_getI C flX12_265 hq0 (by decide) dX12_count_100 rfl ?_
    exact aj_iret C K dX12_count_103 ⟨_, rfl, h⟩
  · have h := hc6 e
    refine aj_tin (tgt := 104) (off := 94) C dX12_count_10 r0 (by omega) (by omega) (by rw [e]; rfl) (by decide) ?_
    refine aj_aload_n C dX12_count_104 rfl ?_
    refine aj_getA (x := 0) (y := 3315) C flX12_13 hq0 rfl dX12_count_105 ?_
    refine aj_bipush C dX12_count_108 (by decide) ?_
    refine aj_iald C (aj_ca (e := 0) (n := 3315) (j := 1) hq0 (by decide) rfl) (by decide) (by decide) dX12_count_110 rfl ?_
    exact aj_iret C K dX12_count_111 ⟨_, rfl, h⟩
  · have h := hc7 e
    refine aj_tin (tgt := 112) (off := 102) C dX12_count_10 r0 (by omega) (by omega) (by rw [e]; rfl) (by decide) ?_
    refine aj_aload_n C dX12_count_112 rfl ?_
    refine aj_getA (x := 0) (y := 3315) C flX12_13 hq0 rfl dX12_count_113 ?_
    refine aj_bipush C dX12_count_116 (by decide) ?_
    refine aj_iald C (aj_ca (e := 0) (n := 3315) (j := 1) hq0 (by decide) rfl) (by decide) (by decide) dX12_count_118 rfl ?_
    exact aj_iret C K dX12_count_119 ⟨_, rfl, h⟩
  · have h := hc8 e
    refine aj_tin (tgt := 120) (off := 110) C dX12_count_10 r0 (by omega) (by omega) (by rw [e]; rfl) (by decide) ?_
    refine aj_aload_n C dX12_count_120 rfl ?_
    refine aj_getI C flX12_92 hq0 (by decide) dX12_count_121 rfl ?_
    exact aj_iret C K dX12_count_124 ⟨_, rfl, h⟩
  · have h := hc9 e
    refine aj_tin (tgt := 125) (off := 115) C dX12_count_10 r0 (by omega) (by omega) (by rw [e]; rfl) (by decide) ?_
    refine aj_aload_n C dX12_count_125 rfl ?_
    refine aj_getA (x := 0) (y := 3315) C flX12_13 hq0 rfl dX12_count_126 ?_
    refine aj_iconst C dX12_count_129 ?_
    refine aj_iald C (aj_ca (e := 0) (n := 3315) (j := 1) hq0 (by decide) rfl) (by decide) (by decide) dX12_count_130 rfl ?_
    exact aj_iret C K dX12_count_131 ⟨_, rfl, h⟩
