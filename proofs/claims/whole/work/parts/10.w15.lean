theorem dX11_drawn_0 : decode cX11_drawn 0 = .ok (.aload_n 0, 1) := by decide +kernel
theorem dX11_drawn_1 : decode cX11_drawn 1 = .ok (.getfield 33, 3) := by decide +kernel
theorem dX11_drawn_4 : decode cX11_drawn 4 = .ok (.aload_n 0, 1) := by decide +kernel
theorem dX11_drawn_5 : decode cX11_drawn 5 = .ok (.getfield 26, 3) := by decide +kernel
theorem dX11_drawn_8 : decode cX11_drawn 8 = .ok (.invokevirtual 159, 3) := by decide +kernel
theorem dX11_drawn_11 : decode cX11_drawn 11 = .ok (.iload_n 1, 1) := by decide +kernel
theorem dX11_drawn_12 : decode cX11_drawn 12 = .ok (.ifCond .ne 9, 3) := by decide +kernel
theorem dX11_drawn_15 : decode cX11_drawn 15 = .ok (.aload_n 0, 1) := by decide +kernel
theorem dX11_drawn_16 : decode cX11_drawn 16 = .ok (.iload_n 2, 1) := by decide +kernel
theorem dX11_drawn_17 : decode cX11_drawn 17 = .ok (.invokevirtual 434, 3) := by decide +kernel
theorem dX11_drawn_20 : decode cX11_drawn 20 = .ok (.ireturn, 1) := by decide +kernel
theorem dX11_drawn_21 : decode cX11_drawn 21 = .ok (.iconst 0, 1) := by decide +kernel
theorem dX11_drawn_22 : decode cX11_drawn 22 = .ok (.istore_n 3, 1) := by decide +kernel
theorem dX11_drawn_23 : decode cX11_drawn 23 = .ok (.iconst 0, 1) := by decide +kernel
theorem dX11_drawn_24 : decode cX11_drawn 24 = .ok (.istore 4, 2) := by decide +kernel
theorem dX11_drawn_26 : decode cX11_drawn 26 = .ok (.iload 4, 2) := by decide +kernel
theorem dX11_drawn_28 : decode cX11_drawn 28 = .ok (.bipush 10, 2) := by decide +kernel
theorem dX11_drawn_30 : decode cX11_drawn 30 = .ok (.if_icmp .ge 125, 3) := by decide +kernel
theorem dX11_drawn_33 : decode cX11_drawn 33 = .ok (.aload_n 0, 1) := by decide +kernel
theorem dX11_drawn_34 : decode cX11_drawn 34 = .ok (.iload 4, 2) := by decide +kernel
theorem dX11_drawn_36 : decode cX11_drawn 36 = .ok (.invokevirtual 437, 3) := by decide +kernel
theorem dX11_drawn_39 : decode cX11_drawn 39 = .ok (.iload_n 1, 1) := by decide +kernel
theorem dX11_drawn_40 : decode cX11_drawn 40 = .ok (.iconst 1, 1) := by decide +kernel
theorem dX11_drawn_41 : decode cX11_drawn 41 = .ok (.if_icmp .ne 11, 3) := by decide +kernel
theorem dX11_drawn_44 : decode cX11_drawn 44 = .ok (.iload_n 3, 1) := by decide +kernel
theorem dX11_drawn_45 : decode cX11_drawn 45 = .ok (.aload_n 0, 1) := by decide +kernel
theorem dX11_drawn_46 : decode cX11_drawn 46 = .ok (.iload_n 2, 1) := by decide +kernel
theorem dX11_drawn_47 : decode cX11_drawn 47 = .ok (.invokevirtual 434, 3) := by decide +kernel
theorem dX11_drawn_50 : decode cX11_drawn 50 = .ok (.iadd, 1) := by decide +kernel
theorem dX11_drawn_51 : decode cX11_drawn 51 = .ok (.istore_n 3, 1) := by decide +kernel
theorem dX11_drawn_52 : decode cX11_drawn 52 = .ok (.iload 4, 2) := by decide +kernel
theorem dX11_drawn_54 : decode cX11_drawn 54 = .ok (.istore 5, 2) := by decide +kernel
theorem dX11_drawn_56 : decode cX11_drawn 56 = .ok (.iload_n 1, 1) := by decide +kernel
theorem dX11_drawn_57 : decode cX11_drawn 57 = .ok (.iconst 2, 1) := by decide +kernel
theorem dX11_drawn_58 : decode cX11_drawn 58 = .ok (.if_icmp .ne 71, 3) := by decide +kernel
theorem dX11_drawn_61 : decode cX11_drawn 61 = .ok (.iload 5, 2) := by decide +kernel
theorem dX11_drawn_63 : decode cX11_drawn 63 = .ok (.bipush 10, 2) := by decide +kernel
theorem dX11_drawn_65 : decode cX11_drawn 65 = .ok (.if_icmp .ge 64, 3) := by decide +kernel
theorem dX11_drawn_68 : decode cX11_drawn 68 = .ok (.aload_n 0, 1) := by decide +kernel
theorem dX11_drawn_69 : decode cX11_drawn 69 = .ok (.getfield 33, 3) := by decide +kernel
theorem dX11_drawn_72 : decode cX11_drawn 72 = .ok (.getfield 127, 3) := by decide +kernel
theorem dX11_drawn_75 : decode cX11_drawn 75 = .ok (.iload 5, 2) := by decide +kernel
theorem dX11_drawn_77 : decode cX11_drawn 77 = .ok (.iaload, 1) := by decide +kernel
theorem dX11_drawn_78 : decode cX11_drawn 78 = .ok (.istore 6, 2) := by decide +kernel
theorem dX11_drawn_80 : decode cX11_drawn 80 = .ok (.aload_n 0, 1) := by decide +kernel
theorem dX11_drawn_81 : decode cX11_drawn 81 = .ok (.iload 5, 2) := by decide +kernel
theorem dX11_drawn_83 : decode cX11_drawn 83 = .ok (.invokevirtual 437, 3) := by decide +kernel
theorem dX11_drawn_86 : decode cX11_drawn 86 = .ok (.iload_n 3, 1) := by decide +kernel
theorem dX11_drawn_87 : decode cX11_drawn 87 = .ok (.iload 5, 2) := by decide +kernel
theorem dX11_drawn_89 : decode cX11_drawn 89 = .ok (.iload 4, 2) := by decide +kernel
theorem dX11_drawn_91 : decode cX11_drawn 91 = .ok (.if_icmp .ne 11, 3) := by decide +kernel
theorem dX11_drawn_94 : decode cX11_drawn 94 = .ok (.aload_n 0, 1) := by decide +kernel
theorem dX11_drawn_95 : decode cX11_drawn 95 = .ok (.iload_n 2, 1) := by decide +kernel
theorem dX11_drawn_96 : decode cX11_drawn 96 = .ok (.invokevirtual 434, 3) := by decide +kernel
theorem dX11_drawn_99 : decode cX11_drawn 99 = .ok (.goto 10, 3) := by decide +kernel
theorem dX11_drawn_102 : decode cX11_drawn 102 = .ok (.iconst 2, 1) := by decide +kernel
theorem dX11_drawn_103 : decode cX11_drawn 103 = .ok (.aload_n 0, 1) := by decide +kernel
theorem dX11_drawn_104 : decode cX11_drawn 104 = .ok (.iload_n 2, 1) := by decide +kernel
theorem dX11_drawn_105 : decode cX11_drawn 105 = .ok (.invokevirtual 434, 3) := by decide +kernel
theorem dX11_drawn_108 : decode cX11_drawn 108 = .ok (.imul, 1) := by decide +kernel
theorem dX11_drawn_109 : decode cX11_drawn 109 = .ok (.iadd, 1) := by decide +kernel
theorem dX11_drawn_110 : decode cX11_drawn 110 = .ok (.istore_n 3, 1) := by decide +kernel
theorem dX11_drawn_111 : decode cX11_drawn 111 = .ok (.aload_n 0, 1) := by decide +kernel
theorem dX11_drawn_112 : decode cX11_drawn 112 = .ok (.getfield 33, 3) := by decide +kernel
theorem dX11_drawn_115 : decode cX11_drawn 115 = .ok (.getfield 127, 3) := by decide +kernel
theorem dX11_drawn_118 : decode cX11_drawn 118 = .ok (.iload 5, 2) := by decide +kernel
theorem dX11_drawn_120 : decode cX11_drawn 120 = .ok (.iload 6, 2) := by decide +kernel
theorem dX11_drawn_122 : decode cX11_drawn 122 = .ok (.iastore, 1) := by decide +kernel
theorem dX11_drawn_123 : decode cX11_drawn 123 = .ok (.iinc 5 1, 3) := by decide +kernel
theorem dX11_drawn_126 : decode cX11_drawn 126 = .ok (.goto (-70), 3) := by decide +kernel
theorem dX11_drawn_129 : decode cX11_drawn 129 = .ok (.aload_n 0, 1) := by decide +kernel
theorem dX11_drawn_130 : decode cX11_drawn 130 = .ok (.getfield 33, 3) := by decide +kernel
theorem dX11_drawn_133 : decode cX11_drawn 133 = .ok (.getfield 127, 3) := by decide +kernel
theorem dX11_drawn_136 : decode cX11_drawn 136 = .ok (.iload 4, 2) := by decide +kernel
theorem dX11_drawn_138 : decode cX11_drawn 138 = .ok (.aload_n 0, 1) := by decide +kernel
theorem dX11_drawn_139 : decode cX11_drawn 139 = .ok (.getfield 26, 3) := by decide +kernel
theorem dX11_drawn_142 : decode cX11_drawn 142 = .ok (.getfield 127, 3) := by decide +kernel
theorem dX11_drawn_145 : decode cX11_drawn 145 = .ok (.iload 4, 2) := by decide +kernel
theorem dX11_drawn_147 : decode cX11_drawn 147 = .ok (.iaload, 1) := by decide +kernel
theorem dX11_drawn_148 : decode cX11_drawn 148 = .ok (.iastore, 1) := by decide +kernel
theorem dX11_drawn_149 : decode cX11_drawn 149 = .ok (.iinc 4 1, 3) := by decide +kernel
theorem dX11_drawn_152 : decode cX11_drawn 152 = .ok (.goto (-126), 3) := by decide +kernel
theorem dX11_drawn_155 : decode cX11_drawn 155 = .ok (.iload_n 3, 1) := by decide +kernel
theorem dX11_drawn_156 : decode cX11_drawn 156 = .ok (.ireturn, 1) := by decide +kernel
def hX11_drawn_56 (f : Nat) (Φ : Int → aj_M → Prop) (K26 : List Nat → Int → Int → Int → Int → aj_M → Prop) : Nat → List Nat → Int → Int → Int → Int → Int → aj_M → Prop
  | 0, _, _, _, _, _, _, _ => False
  | k + 1, q0, v1, v2, v3, v4, v5, m => rI v1 ∧ (¬ v1 = 2 → (0 ≤ v4 ∧ v4 < 12) ∧ (0 ≤ v4 ∧ v4 < 12) ∧ ∀ m1, m1 = aj_u m (0 :: (4 :: q0)) v4.toNat (m (0 :: (2 :: q0)) v4.toNat) → K26 q0 v1 v2 v3 (v4 + 1) m1) ∧ (v1 = 2 → rI v5 ∧ (10 ≤ v5 → (0 ≤ v4 ∧ v4 < 12) ∧ (0 ≤ v4 ∧ v4 < 12) ∧ ∀ m2, m2 = aj_u m (0 :: (4 :: q0)) v4.toNat (m (0 :: (2 :: q0)) v4.toNat) → K26 q0 v1 v2 v3 (v4 + 1) m2) ∧ (¬ (10 ≤ v5) → (0 ≤ v5 ∧ v5 < 12) ∧ wX11_drawLot f (fun m3 => rI v5 ∧ rI v4 ∧ (¬ v5 = v4 → wX11_worth f (fun z2 m4 => (0 ≤ v5 ∧ v5 < 12) ∧ ∀ m5, m5 = aj_u m4 (0 :: (4 :: q0)) v5.toNat (m (0 :: (4 :: q0)) v5.toNat) → hX11_drawn_56 f Φ K26 k q0 v1 v2 (v3 + (2 * z2)) v4 (v5 + 1) m5) q0 v2 m3) ∧ (v5 = v4 → wX11_worth f (fun z3 m6 => (0 ≤ v5 ∧ v5 < 12) ∧ ∀ m7, m7 = aj_u m6 (0 :: (4 :: q0)) v5.toNat (m (0 :: (4 :: q0)) v5.toNat) → hX11_drawn_56 f Φ K26 k q0 v1 v2 (v3 + z3) v4 (v5 + 1) m7) q0 v2 m3)) q0 v5 m))
set_option maxHeartbeats 4000000 in
set_option maxRecDepth 100000 in
theorem tX11_drawn_56 {X : aj_T} {n f : Nat} {Φ : Int → aj_M → Prop} (C : aj_Cx X cX11_drawn RX11 7 (n + 5)) (K : aj_Rt X (some .int) (fun r m => ∃ z, r = some (vI z) ∧ Φ z m)) {K26 : List Nat → Int → Int → Int → Int → aj_M → Prop} (HK26 : ∀ (q0 : List Nat) (v1 : Int) (v2 : Int) (v3 : Int) (v4 : Int) (m : aj_M) (hq0 : (.inl (11, q0) : aj_R) ∈ aj_pls), K26 q0 v1 v2 v3 v4 m → aj_J X 26 [some (vO 11 q0), some (vI v1), some (vI v2), some (vI v3), some (vI v4), none, none] [] m) : ∀ (k : Nat) (q0 : List Nat) (v1 : Int) (v2 : Int) (v3 : Int) (v4 : Int) (v5 : Int) (m : aj_M) (hq0 : (.inl (11, q0) : aj_R) ∈ aj_pls), hX11_drawn_56 f Φ K26 k q0 v1 v2 v3 v4 v5 m → aj_J X 56 [some (vO 11 q0), some (vI v1), some (vI v2), some (vI v3), some (vI v4), some (vI v5), none] [] m := by
  intro k
  induction k with
  | zero =>
    intro q0 v1 v2 v3 v4 v5 m _ h
    exact h.elim
  | succ k ih =>
    intro q0 v1 v2 v3 v4 v5 m hq0 h
    unfold hX11_drawn_56 at h
    refine aj_iload_n C dX11_drawn_56 rfl ?_
    refine aj_iconst C dX11_drawn_57 ?_
    obtain ⟨r0, h1, h2⟩ := h
    refine aj_icmp_ne (tgt := 129) C dX11_drawn_58 (by decide) r0 (by decide) (fun e => ?_) (fun e => ?_)
    · have h := h1 e
      refine aj_aload_n C dX11_drawn_129 rfl ?_
      refine aj_getO (x := 9) (y := 0) C flX11_33 hq0 rfl dX11_drawn_130 ?_
      refine aj_getA (x := 0) (y := 12) C flX11_127 (aj_cf (x := 9) (y := 0) (j := 4) hq0 (by decide) rfl) rfl dX11_drawn_133 ?_
      refine aj_iload C dX11_drawn_136 rfl ?_
      refine aj_aload_n C dX11_drawn_138 rfl ?_
      refine aj_getO (x := 9) (y := 0) C flX11_26 hq0 rfl dX11_drawn_139 ?_
      refine aj_getA (x := 0) (y := 12) C flX11_127 (aj_cf (x := 9) (y := 0) (j := 2) hq0 (by decide) rfl) rfl dX11_drawn_142 ?_
      refine aj_iload C dX11_drawn_145 rfl ?_
      obtain ⟨r0, h⟩ := h
      refine aj_iald C (aj_ca (e := 0) (n := 12) (j := 0) (aj_cf (x := 9) (y := 0) (j := 2) hq0 (by decide) rfl) (by decide) rfl) (by decide) r0 dX11_drawn_147 rfl ?_
      obtain ⟨r0, h⟩ := h
      refine aj_iast C (aj_ca (e := 0) (n := 12) (j := 0) (aj_cf (x := 9) (y := 0) (j := 4) hq0 (by decide) rfl) (by decide) rfl) (by decide) r0 dX11_drawn_148 ?_
      refine aj_nm (fun m1 e1 => ?_)
      have h := h m1 e1
      refine aj_iinc (lv' := [some (vO 11 q0), some (vI v1), some (vI v2), some (vI v3), some (vI (v4 + 1)), some (vI v5), none]) C dX11_drawn_149 rfl (by decide) rfl ?_
      refine aj_goto (tgt := 26) C dX11_drawn_152 (by decide) ?_
      refine aj_wk (lv' := [some (vO 11 q0), some (vI v1), some (vI v2), some (vI v3), some (vI (v4 + 1)), none, none]) (⟨rfl, ⟨rfl, ⟨rfl, ⟨rfl, ⟨rfl, trivial⟩⟩⟩⟩⟩) ?_
      exact HK26 q0 v1 v2 v3 (v4 + 1) _ hq0 h
    · have h := h2 e
      refine aj_iload C dX11_drawn_61 rfl ?_
      refine aj_bipush C dX11_drawn_63 (by decide) ?_
      obtain ⟨r0, h1, h2⟩ := h
      refine aj_icmp_ge (tgt := 129) C dX11_drawn_65 (by decide) r0 (by decide) (fun e => ?_) (fun e => ?_)
      · have h := h1 e
        refine aj_aload_n C dX11_drawn_129 rfl ?_
        refine aj_getO (x := 9) (y := 0) C flX11_33 hq0 rfl dX11_drawn_130 ?_
        refine aj_getA (x := 0) (y := 12) C flX11_127 (aj_cf (x := 9) (y := 0) (j := 4) hq0 (by decide) rfl) rfl dX11_drawn_133 ?_
        refine aj_iload C dX11_drawn_136 rfl ?_
        refine aj_aload_n C dX11_drawn_138 rfl ?_
        refine aj_getO (x := 9) (y := 0) C flX11_26 hq0 rfl dX11_drawn_139 ?_
        refine aj_getA (x := 0) (y := 12) C flX11_127 (aj_cf (x := 9) (y := 0) (j := 2) hq0 (by decide) rfl) rfl dX11_drawn_142 ?_
        refine aj_iload C dX11_drawn_145 rfl ?_
        obtain ⟨r0, h⟩ := h
        refine aj_iald C (aj_ca (e := 0) (n := 12) (j := 0) (aj_cf (x := 9) (y := 0) (j := 2) hq0 (by decide) rfl) (by decide) rfl) (by decide) r0 dX11_drawn_147 rfl ?_
        obtain ⟨r0, h⟩ := h
        refine aj_iast C (aj_ca (e := 0) (n := 12) (j := 0) (aj_cf (x := 9) (y := 0) (j := 4) hq0 (by decide) rfl) (by decide) rfl) (by decide) r0 dX11_drawn_148 ?_
        refine aj_nm (fun m2 e1 => ?_)
        have h := h m2 e1
        refine aj_iinc (lv' := [some (vO 11 q0), some (vI v1), some (vI v2), some (vI v3), some (vI (v4 + 1)), some (vI v5), none]) C dX11_drawn_149 rfl (by decide) rfl ?_
        refine aj_goto (tgt := 26) C dX11_drawn_152 (by decide) ?_
        refine aj_wk (lv' := [some (vO 11 q0), some (vI v1), some (vI v2), some (vI v3), some (vI (v4 + 1)), none, none]) (⟨rfl, ⟨rfl, ⟨rfl, ⟨rfl, ⟨rfl, trivial⟩⟩⟩⟩⟩) ?_
        exact HK26 q0 v1 v2 v3 (v4 + 1) _ hq0 h
      · have h := h2 e
        refine aj_aload_n C dX11_drawn_68 rfl ?_
        refine aj_getO (x := 9) (y := 0) C flX11_33 hq0 rfl dX11_drawn_69 ?_
        refine aj_getA (x := 0) (y := 12) C flX11_127 (aj_cf (x := 9) (y := 0) (j := 4) hq0 (by decide) rfl) rfl dX11_drawn_72 ?_
        refine aj_iload C dX11_drawn_75 rfl ?_
        obtain ⟨r0, h⟩ := h
        refine aj_iald C (aj_ca (e := 0) (n := 12) (j := 0) (aj_cf (x := 9) (y := 0) (j := 4) hq0 (by decide) rfl) (by decide) rfl) (by decide) r0 dX11_drawn_77 rfl ?_
        refine aj_istore (lv' := [some (vO 11 q0), some (vI v1), some (vI v2), some (vI v3), some (vI v4), some (vI v5), some (vI (m (0 :: (4 :: q0)) v5.toNat))]) C dX11_drawn_78 (by decide) rfl ?_
        refine aj_aload_n C dX11_drawn_80 rfl ?_
        refine aj_iload C dX11_drawn_81 rfl ?_
        refine aj_callV (rest := []) C mvX11_437 (sX11_drawLot hq0 h) hq0 (aj_np 1 (by decide +kernel) rfl) (Nat.le_of_ble_eq_true rfl) rfl dX11_drawn_83 (fun r m3 h => ?_)
        obtain ⟨rfl, h⟩ := h
        refine aj_iload_n C dX11_drawn_86 rfl ?_
        refine aj_iload C dX11_drawn_87 rfl ?_
        refine aj_iload C dX11_drawn_89 rfl ?_
        obtain ⟨r0, r1, h1, h2⟩ := h
        refine aj_icmp_ne (tgt := 102) C dX11_drawn_91 (by decide) r0 r1 (fun e => ?_) (fun e => ?_)
        · have h := h1 e
          refine aj_iconst C dX11_drawn_102 ?_
          refine aj_aload_n C dX11_drawn_103 rfl ?_
          refine aj_iload_n C dX11_drawn_104 rfl ?_
          refine aj_callV (rest := [vI 2, vI v3]) C mvX11_434 (sX11_worth hq0 h) hq0 (aj_np 1 (by decide +kernel) rfl) (Nat.le_of_ble_eq_true rfl) rfl dX11_drawn_105 (fun r m4 h => ?_)
          obtain ⟨z2, rfl, h⟩ := h
          refine aj_imul C dX11_drawn_108 ?_
          refine aj_iadd C dX11_drawn_109 ?_
          refine aj_istore_n (lv' := [some (vO 11 q0), some (vI v1), some (vI v2), some (vI (v3 + (2 * z2))), some (vI v4), some (vI v5), some (vI (m (0 :: (4 :: q0)) v5.toNat))]) C dX11_drawn_110 (by decide) rfl ?_
          refine aj_aload_n C dX11_drawn_111 rfl ?_
          refine aj_getO (x := 9) (y := 0) C flX11_33 hq0 rfl dX11_drawn_112 ?_
          refine aj_getA (x := 0) (y := 12) C flX11_127 (aj_cf (x := 9) (y := 0) (j := 4) hq0 (by decide) rfl) rfl dX11_drawn_115 ?_
          refine aj_iload C dX11_drawn_118 rfl ?_
          refine aj_iload C dX11_drawn_120 rfl ?_
          obtain ⟨r0, h⟩ := h
          refine aj_iast C (aj_ca (e := 0) (n := 12) (j := 0) (aj_cf (x := 9) (y := 0) (j := 4) hq0 (by decide) rfl) (by decide) rfl) (by decide) r0 dX11_drawn_122 ?_
          refine aj_nm (fun m5 e1 => ?_)
          have h := h m5 e1
          refine aj_iinc (lv' := [some (vO 11 q0), some (vI v1), some (vI v2), some (vI (v3 + (2 * z2))), some (vI v4), some (vI (v5 + 1)), some (vI (m (0 :: (4 :: q0)) v5.toNat))]) C dX11_drawn_123 rfl (by decide) rfl ?_
          refine aj_goto (tgt := 56) C dX11_drawn_126 (by decide) ?_
          refine aj_wk (lv' := [some (vO 11 q0), some (vI v1), some (vI v2), some (vI (v3 + (2 * z2))), some (vI v4), some (vI (v5 + 1)), none]) (⟨rfl, ⟨rfl, ⟨rfl, ⟨rfl, ⟨rfl, ⟨rfl, trivial⟩⟩⟩⟩⟩⟩) ?_
          exact ih q0 v1 v2 (v3 + (2 * z2)) v4 (v5 + 1) _ hq0 h
        · have h := h2 e
          refine aj_aload_n C dX11_drawn_94 rfl ?_
          refine aj_iload_n C dX11_drawn_95 rfl ?_
          refine aj_callV (rest := [vI v3]) C mvX11_434 (sX11_worth hq0 h) hq0 (aj_np 1 (by decide +kernel) rfl) (Nat.le_of_ble_eq_true rfl) rfl dX11_drawn_96 (fun r m6 h => ?_)
          obtain ⟨z3, rfl, h⟩ := h
          refine aj_goto (tgt := 109) C dX11_drawn_99 (by decide) ?_
          refine aj_iadd C dX11_drawn_109 ?_
          refine aj_istore_n (lv' := [some (vO 11 q0), some (vI v1), some (vI v2), some (vI (v3 + z3)), some (vI v4), some (vI v5), some (vI (m (0 :: (4 :: q0)) v5.toNat))]) C dX11_drawn_110 (by decide) rfl ?_
          refine aj_aload_n C dX11_drawn_111 rfl ?_
          refine aj_getO (x := 9) (y := 0) C flX11_33 hq0 rfl dX11_drawn_112 ?_
          refine aj_getA (x := 0) (y := 12) C flX11_127 (aj_cf (x := 9) (y := 0) (j := 4) hq0 (by decide) rfl) rfl dX11_drawn_115 ?_
          refine aj_iload C dX11_drawn_118 rfl ?_
          refine aj_iload C dX11_drawn_120 rfl ?_
          obtain ⟨r0, h⟩ := h
          refine aj_iast C (aj_ca (e := 0) (n := 12) (j := 0) (aj_cf (x := 9) (y := 0) (j := 4) hq0 (by decide) rfl) (by decide) rfl) (by decide) r0 dX11_drawn_122 ?_
          refine aj_nm (fun m7 e1 => ?_)
          have h := h m7 e1
          refine aj_iinc (lv' := [some (vO 11 q0), some (vI v1), some (vI v2), some (vI (v3 + z3)), some (vI v4), some (vI (v5 + 1)), some (vI (m (0 :: (4 :: q0)) v5.toNat))]) C dX11_drawn_123 rfl (by decide) rfl ?_
          refine aj_goto (tgt := 56) C dX11_drawn_126 (by decide) ?_
          refine aj_wk (lv' := [some (vO 11 q0), some (vI v1), some (vI v2), some (vI (v3 + z3)), some (vI v4), some (vI (v5 + 1)), none]) (⟨rfl, ⟨rfl, ⟨rfl, ⟨rfl, ⟨rfl, ⟨rfl, trivial⟩⟩⟩⟩⟩⟩) ?_
          exact ih q0 v1 v2 (v3 + z3) v4 (v5 + 1) _ hq0 h
def hX11_drawn_26 (f : Nat) (Φ : Int → aj_M → Prop) : Nat → List Nat → Int → Int → Int → Int → aj_M → Prop
  | 0, _, _, _, _, _, _ => False
  | k + 1, q0, v1, v2, v3, v4, m => rI v4 ∧ (10 ≤ v4 → Φ v3 m) ∧ (¬ (10 ≤ v4) → wX11_drawLot f (fun m1 => rI v1 ∧ (¬ v1 = 1 → hX11_drawn_56 f Φ (fun q0 v1 v2 v3 v4 m => hX11_drawn_26 f Φ k q0 v1 v2 v3 v4 m) f q0 v1 v2 v3 v4 v4 m1) ∧ (v1 = 1 → wX11_worth f (fun z2 m2 => hX11_drawn_56 f Φ (fun q0 v1 v2 v3 v4 m => hX11_drawn_26 f Φ k q0 v1 v2 v3 v4 m) f q0 v1 v2 (v3 + z2) v4 v4 m2) q0 v2 m1)) q0 v4 m)
set_option maxHeartbeats 4000000 in
set_option maxRecDepth 100000 in
theorem tX11_drawn_26 {X : aj_T} {n f : Nat} {Φ : Int → aj_M → Prop} (C : aj_Cx X cX11_drawn RX11 7 (n + 5)) (K : aj_Rt X (some .int) (fun r m => ∃ z, r = some (vI z) ∧ Φ z m)) : ∀ (k : Nat) (q0 : List Nat) (v1 : Int) (v2 : Int) (v3 : Int) (v4 : Int) (m : aj_M) (hq0 : (.inl (11, q0) : aj_R) ∈ aj_pls), hX11_drawn_26 f Φ k q0 v1 v2 v3 v4 m → aj_J X 26 [some (vO 11 q0), some (vI v1), some (vI v2), some (vI v3), some (vI v4), none, none] [] m := by
  intro k
  induction k with
  | zero =>
    intro q0 v1 v2 v3 v4 m _ h
    exact h.elim
  | succ k ih =>
    intro q0 v1 v2 v3 v4 m hq0 h
    unfold hX11_drawn_26 at h
    refine aj_iload C dX11_drawn_26 rfl ?_
    refine aj_bipush C dX11_drawn_28 (by decide) ?_
    obtain ⟨r0, h1, h2⟩ := h
    refine aj_icmp_ge (tgt := 155) C dX11_drawn_30 (by decide) r0 (by decide) (fun e => ?_) (fun e => ?_)
    · have h := h1 e
      refine aj_iload_n C dX11_drawn_155 rfl ?_
      exact aj_iret C K dX11_drawn_156 ⟨_, rfl, h⟩
    · have h := h2 e
      refine aj_aload_n C dX11_drawn_33 rfl ?_
      refine aj_iload C dX11_drawn_34 rfl ?_
      refine aj_callV (rest := []) C mvX11_437 (sX11_drawLot hq0 h) hq0 (aj_np 1 (by decide +kernel) rfl) (Nat.le_of_ble_eq_true rfl) rfl dX11_drawn_36 (fun r m1 h => ?_)
      obtain ⟨rfl, h⟩ := h
      refine aj_iload_n C dX11_drawn_39 rfl ?_
      refine aj_iconst C dX11_drawn_40 ?_
      obtain ⟨r0, h1, h2⟩ := h
      refine aj_icmp_ne (tgt := 52) C dX11_drawn_41 (by decide) r0 (by decide) (fun e => ?_) (fun e => ?_)
      · have h := h1 e
        refine aj_iload C dX11_drawn_52 rfl ?_
        refine aj_istore (lv' := [some (vO 11 q0), some (vI v1), some (vI v2), some (vI v3), some (vI v4), some (vI v4), none]) C dX11_drawn_54 (by decide) rfl ?_
        exact tX11_drawn_56 C K (fun q0 v1 v2 v3 v4 m hq0 hh => ih q0 v1 v2 v3 v4 m hq0 hh) f q0 v1 v2 v3 v4 v4 _ hq0 h
      · have h := h2 e
        refine aj_iload_n C dX11_drawn_44 rfl ?_
        refine aj_aload_n C dX11_drawn_45 rfl ?_
        refine aj_iload_n C dX11_drawn_46 rfl ?_
        refine aj_callV (rest := [vI v3]) C mvX11_434 (sX11_worth hq0 h) hq0 (aj_np 1 (by decide +kernel) rfl) (Nat.le_of_ble_eq_true rfl) rfl dX11_drawn_47 (fun r m2 h => ?_)
        obtain ⟨z2, rfl, h⟩ := h
        refine aj_iadd C dX11_drawn_50 ?_
        refine aj_istore_n (lv' := [some (vO 11 q0), some (vI v1), some (vI v2), some (vI (v3 + z2)), some (vI v4), none, none]) C dX11_drawn_51 (by decide) rfl ?_
        refine aj_iload C dX11_drawn_52 rfl ?_
        refine aj_istore (lv' := [some (vO 11 q0), some (vI v1), some (vI v2), some (vI (v3 + z2)), some (vI v4), some (vI v4), none]) C dX11_drawn_54 (by decide) rfl ?_
        exact tX11_drawn_56 C K (fun q0 v1 v2 v3 v4 m hq0 hh => ih q0 v1 v2 v3 v4 m hq0 hh) f q0 v1 v2 (v3 + z2) v4 v4 _ hq0 h
def wX11_drawn (f : Nat) (Φ : Int → aj_M → Prop) (q0 : List Nat) (v1 : Int) (v2 : Int) (m : aj_M) : Prop := wX9_copyFrom f (fun m1 => rI v1 ∧ (¬ v1 = 0 → hX11_drawn_26 f Φ f q0 v1 v2 0 0 m1) ∧ (v1 = 0 → wX11_worth f (fun z2 m2 => Φ z2 m2) q0 v2 m1)) (4 :: q0) (2 :: q0) m
set_option maxHeartbeats 4000000 in
set_option maxRecDepth 100000 in
theorem sX11_drawn {n f : Nat} {Φ : Int → aj_M → Prop} {q0 : List Nat} {v1 : Int} {v2 : Int} {m : aj_M} (hq0 : (.inl (11, q0) : aj_R) ∈ aj_pls) (h : wX11_drawn f Φ q0 v1 v2 m) : aj_Ct (n + 5) yX11_drawn cX11_drawn 7 (some .int) [vO 11 q0, vI v1, vI v2] m (fun r m => ∃ z, r = some (vI z) ∧ Φ z m) := by
  refine aj_met (lv := [some (vO 11 q0), some (vI v1), some (vI v2), none, none, none, none]) (by decide +kernel) rfl (Nat.le_of_ble_eq_true rfl) (fun X C K => ?_)
  unfold wX11_drawn at h
  refine aj_aload_n C dX11_drawn_0 rfl ?_
  refine aj_getO (x := 9) (y := 0) C flX11_33 hq0 rfl dX11_drawn_1 ?_
  refine aj_aload_n C dX11_drawn_4 rfl ?_
  refine aj_getO (x := 9) (y := 0) C flX11_26 hq0 rfl dX11_drawn_5 ?_
  refine aj_callV (rest := []) C mvX11_159 (sX9_copyFrom (aj_cf (x := 9) (y := 0) (j := 4) hq0 (by decide) rfl) (aj_cf (x := 9) (y := 0) (j := 2) hq0 (by decide) rfl) h) (aj_cf (x := 9) (y := 0) (j := 4) hq0 (by decide) rfl) (aj_np 1 (by decide +kernel) rfl) (Nat.le_of_ble_eq_true rfl) rfl dX11_drawn_8 (fun r m1 h => ?_)
  obtain ⟨rfl, h⟩ := h
  refine aj_iload_n C dX11_drawn_11 rfl ?_
  obtain ⟨r0, h1, h2⟩ := h
  refine aj_if_ne (tgt := 21) C dX11_drawn_12 (by decide) r0 (fun e => ?_) (fun e => ?_)
  · have h := h1 e
    refine aj_iconst C dX11_drawn_21 ?_
    refine aj_istore_n (lv' := [some (vO 11 q0), some (vI v1), some (vI v2), some (vI 0), none, none, none]) C dX11_drawn_22 (by decide) rfl ?_
    refine aj_iconst C dX11_drawn_23 ?_
    refine aj_istore (lv' := [some (vO 11 q0), some (vI v1), some (vI v2), some (vI 0), some (vI 0), none, none]) C dX11_drawn_24 (by decide) rfl ?_
    exact tX11_drawn_26 C K f q0 v1 v2 0 0 _ hq0 h
  · have h := h2 e
    refine aj_aload_n C dX11_drawn_15 rfl ?_
    refine aj_iload_n C dX11_drawn_16 rfl ?_
    refine aj_callV (rest := []) C mvX11_434 (sX11_worth hq0 h) hq0 (aj_np 1 (by decide +kernel) rfl) (Nat.le_of_ble_eq_true rfl) rfl dX11_drawn_17 (fun r m2 h => ?_)
    obtain ⟨z2, rfl, h⟩ := h
    exact aj_iret C K dX11_drawn_20 ⟨_, rfl, h⟩
theorem dX11_lowest_0 : decode cX11_lowest 0 = .ok (.iload_n 1, 1) := by decide +kernel
theorem dX11_lowest_1 : decode cX11_lowest 1 = .ok (.ifCond .ne 7, 3) := by decide +kernel
theorem dX11_lowest_4 : decode cX11_lowest 4 = .ok (.iconst 1, 1) := by decide +kernel
theorem dX11_lowest_5 : decode cX11_lowest 5 = .ok (.goto 15, 3) := by decide +kernel
theorem dX11_lowest_8 : decode cX11_lowest 8 = .ok (.iload_n 1, 1) := by decide +kernel
theorem dX11_lowest_9 : decode cX11_lowest 9 = .ok (.iconst 1, 1) := by decide +kernel
theorem dX11_lowest_10 : decode cX11_lowest 10 = .ok (.if_icmp .ne 8, 3) := by decide +kernel
theorem dX11_lowest_13 : decode cX11_lowest 13 = .ok (.bipush 10, 2) := by decide +kernel
theorem dX11_lowest_15 : decode cX11_lowest 15 = .ok (.goto 5, 3) := by decide +kernel
theorem dX11_lowest_18 : decode cX11_lowest 18 = .ok (.bipush 100, 2) := by decide +kernel
theorem dX11_lowest_20 : decode cX11_lowest 20 = .ok (.istore_n 3, 1) := by decide +kernel
theorem dX11_lowest_21 : decode cX11_lowest 21 = .ok (.iload_n 3, 1) := by decide +kernel
theorem dX11_lowest_22 : decode cX11_lowest 22 = .ok (.istore 4, 2) := by decide +kernel
theorem dX11_lowest_24 : decode cX11_lowest 24 = .ok (.iload_n 0, 1) := by decide +kernel
theorem dX11_lowest_25 : decode cX11_lowest 25 = .ok (.istore 5, 2) := by decide +kernel
theorem dX11_lowest_27 : decode cX11_lowest 27 = .ok (.iconst 0, 1) := by decide +kernel
theorem dX11_lowest_28 : decode cX11_lowest 28 = .ok (.istore 6, 2) := by decide +kernel
theorem dX11_lowest_30 : decode cX11_lowest 30 = .ok (.iload 6, 2) := by decide +kernel
theorem dX11_lowest_32 : decode cX11_lowest 32 = .ok (.bipush 100, 2) := by decide +kernel
theorem dX11_lowest_34 : decode cX11_lowest 34 = .ok (.if_icmp .ge 29, 3) := by decide +kernel
theorem dX11_lowest_37 : decode cX11_lowest 37 = .ok (.iload 5, 2) := by decide +kernel
theorem dX11_lowest_39 : decode cX11_lowest 39 = .ok (.ifCond .eq 24, 3) := by decide +kernel
theorem dX11_lowest_42 : decode cX11_lowest 42 = .ok (.iload 4, 2) := by decide +kernel
theorem dX11_lowest_44 : decode cX11_lowest 44 = .ok (.iload 5, 2) := by decide +kernel
theorem dX11_lowest_46 : decode cX11_lowest 46 = .ok (.irem, 1) := by decide +kernel
theorem dX11_lowest_47 : decode cX11_lowest 47 = .ok (.istore 7, 2) := by decide +kernel
theorem dX11_lowest_49 : decode cX11_lowest 49 = .ok (.iload 5, 2) := by decide +kernel
theorem dX11_lowest_51 : decode cX11_lowest 51 = .ok (.istore 4, 2) := by decide +kernel
theorem dX11_lowest_53 : decode cX11_lowest 53 = .ok (.iload 7, 2) := by decide +kernel
theorem dX11_lowest_55 : decode cX11_lowest 55 = .ok (.istore 5, 2) := by decide +kernel
theorem dX11_lowest_57 : decode cX11_lowest 57 = .ok (.iinc 6 1, 3) := by decide +kernel
theorem dX11_lowest_60 : decode cX11_lowest 60 = .ok (.goto (-30), 3) := by decide +kernel
theorem dX11_lowest_63 : decode cX11_lowest 63 = .ok (.iload 4, 2) := by decide +kernel
theorem dX11_lowest_65 : decode cX11_lowest 65 = .ok (.iconst 1, 1) := by decide +kernel
theorem dX11_lowest_66 : decode cX11_lowest 66 = .ok (.if_icmp .ge 13, 3) := by decide +kernel
theorem dX11_lowest_69 : decode cX11_lowest 69 = .ok (.iload_n 2, 1) := by decide +kernel
theorem dX11_lowest_70 : decode cX11_lowest 70 = .ok (.ifCond .ne 7, 3) := by decide +kernel
theorem dX11_lowest_73 : decode cX11_lowest 73 = .ok (.iload_n 0, 1) := by decide +kernel
theorem dX11_lowest_74 : decode cX11_lowest 74 = .ok (.goto 4, 3) := by decide +kernel
theorem dX11_lowest_77 : decode cX11_lowest 77 = .ok (.iload_n 3, 1) := by decide +kernel
theorem dX11_lowest_78 : decode cX11_lowest 78 = .ok (.ireturn, 1) := by decide +kernel
theorem dX11_lowest_79 : decode cX11_lowest 79 = .ok (.iload_n 2, 1) := by decide +kernel
theorem dX11_lowest_80 : decode cX11_lowest 80 = .ok (.ifCond .ne 10, 3) := by decide +kernel
theorem dX11_lowest_83 : decode cX11_lowest 83 = .ok (.iload_n 0, 1) := by decide +kernel
theorem dX11_lowest_84 : decode cX11_lowest 84 = .ok (.iload 4, 2) := by decide +kernel
theorem dX11_lowest_86 : decode cX11_lowest 86 = .ok (.idiv, 1) := by decide +kernel
theorem dX11_lowest_87 : decode cX11_lowest 87 = .ok (.goto 7, 3) := by decide +kernel
theorem dX11_lowest_90 : decode cX11_lowest 90 = .ok (.iload_n 3, 1) := by decide +kernel
theorem dX11_lowest_91 : decode cX11_lowest 91 = .ok (.iload 4, 2) := by decide +kernel
theorem dX11_lowest_93 : decode cX11_lowest 93 = .ok (.idiv, 1) := by decide +kernel
theorem dX11_lowest_94 : decode cX11_lowest 94 = .ok (.ireturn, 1) := by decide +kernel
def hX11_lowest_63 (f : Nat) (Φ : Int → aj_M → Prop) (v0 : Int) (v2 : Int) (v3 : Int) (v4 : Int) (m : aj_M) : Prop := rI v4 ∧ (1 ≤ v4 → rI v2 ∧ (¬ v2 = 0 → (0 ≤ v3 ∧ v3 < 2147483648) ∧ (0 < v4 ∧ v4 < 2147483648) ∧ Φ (v3 / v4) m) ∧ (v2 = 0 → (0 ≤ v0 ∧ v0 < 2147483648) ∧ (0 < v4 ∧ v4 < 2147483648) ∧ Φ (v0 / v4) m)) ∧ (¬ (1 ≤ v4) → rI v2 ∧ (¬ v2 = 0 → Φ v3 m) ∧ (v2 = 0 → Φ v0 m))
set_option maxHeartbeats 4000000 in
set_option maxRecDepth 100000 in
theorem tX11_lowest_63 {X : aj_T} {n f : Nat} {Φ : Int → aj_M → Prop} (C : aj_Cx X cX11_lowest RX11 8 n) (K : aj_Rt X (some .int) (fun r m => ∃ z, r = some (vI z) ∧ Φ z m)) (v0 : Int) (v2 : Int) (v3 : Int) (v4 : Int) (m : aj_M)  (h : hX11_lowest_63 f Φ v0 v2 v3 v4 m) : aj_J X 63 [some (vI v0), none, some (vI v2), some (vI v3), some (vI v4), none, none, none] [] m := by
  unfold hX11_lowest_63 at h
  refine aj_iload C dX11_lowest_63 rfl ?_
  refine aj_iconst C dX11_lowest_65 ?_
  obtain ⟨r0, h1, h2⟩ := h
  refine aj_icmp_ge (tgt := 79) C dX11_lowest_66 (by decide) r0 (by decide) (fun e => ?_) (fun e => ?_)
  · have h := h1 e
    refine aj_iload_n C dX11_lowest_79 rfl ?_
    obtain ⟨r0, h1, h2⟩ := h
    refine aj_if_ne (tgt := 90) C dX11_lowest_80 (by decide) r0 (fun e => ?_) (fun e => ?_)
    · have h := h1 e
      refine aj_iload_n C dX11_lowest_90 rfl ?_
      refine aj_iload C dX11_lowest_91 rfl ?_
      obtain ⟨r0, r1, h⟩ := h
      refine aj_idivN C dX11_lowest_93 r0 r1 ?_
      exact aj_iret C K dX11_lowest_94 ⟨_, rfl, h⟩
    · have h := h2 e
      refine aj_iload_n C dX11_lowest_83 rfl ?_
      refine aj_iload C dX11_lowest_84 rfl ?_
      obtain ⟨r0, r1, h⟩ := h
      refine aj_idivN C dX11_lowest_86 r0 r1 ?_
      refine aj_goto (tgt := 94) C dX11_lowest_87 (by decide) ?_
      exact aj_iret C K dX11_lowest_94 ⟨_, rfl, h⟩
  · have h := h2 e
    refine aj_iload_n C dX11_lowest_69 rfl ?_
    obtain ⟨r0, h1, h2⟩ := h
    refine aj_if_ne (tgt := 77) C dX11_lowest_70 (by decide) r0 (fun e => ?_) (fun e => ?_)
    · have h := h1 e
      refine aj_iload_n C dX11_lowest_77 rfl ?_
      exact aj_iret C K dX11_lowest_78 ⟨_, rfl, h⟩
    · have h := h2 e
      refine aj_iload_n C dX11_lowest_73 rfl ?_
      refine aj_goto (tgt := 78) C dX11_lowest_74 (by decide) ?_
      exact aj_iret C K dX11_lowest_78 ⟨_, rfl, h⟩
def hX11_lowest_30 (f : Nat) (Φ : Int → aj_M → Prop) : Nat → Int → Int → Int → Int → Int → Int → aj_M → Prop
  | 0, _, _, _, _, _, _, _ => False
  | k + 1, v0, v2, v3, v4, v5, v6, m => rI v6 ∧ (100 ≤ v6 → hX11_lowest_63 f Φ v0 v2 v3 v4 m) ∧ (¬ (100 ≤ v6) → rI v5 ∧ (v5 = 0 → hX11_lowest_63 f Φ v0 v2 v3 v4 m) ∧ (¬ (v5 = 0) → (0 ≤ v4 ∧ v4 < 2147483648) ∧ (0 < v5 ∧ v5 < 2147483648) ∧ hX11_lowest_30 f Φ k v0 v2 v3 v5 (v4 % v5) (v6 + 1) m))
set_option maxHeartbeats 4000000 in
set_option maxRecDepth 100000 in
theorem tX11_lowest_30 {X : aj_T} {n f : Nat} {Φ : Int → aj_M → Prop} (C : aj_Cx X cX11_lowest RX11 8 n) (K : aj_Rt X (some .int) (fun r m => ∃ z, r = some (vI z) ∧ Φ z m)) : ∀ (k : Nat) (v0 : Int) (v2 : Int) (v3 : Int) (v4 : Int) (v5 : Int) (v6 : Int) (m : aj_M) , hX11_lowest_30 f Φ k v0 v2 v3 v4 v5 v6 m → aj_J X 30 [some (vI v0), none, some (vI v2), some (vI v3), some (vI v4), some (vI v5), some (vI v6), none] [] m := by
  intro k
  induction k with
  | zero =>
    intro v0 v2 v3 v4 v5 v6 m  h
    exact h.elim
  | succ k ih =>
    intro v0 v2 v3 v4 v5 v6 m  h
    unfold hX11_lowest_30 at h
    refine aj_iload C dX11_lowest_30 rfl ?_
    refine aj_bipush C dX11_lowest_32 (by decide) ?_
    obtain ⟨r0, h1, h2⟩ := h
    refine aj_icmp_ge (tgt := 63) C dX11_lowest_34 (by decide) r0 (by decide) (fun e => ?_) (fun e => ?_)
    · have h := h1 e
      refine aj_wk (lv' := [some (vI v0), none, some (vI v2), some (vI v3), some (vI v4), none, none, none]) (⟨rfl, ⟨rfl, ⟨rfl, ⟨rfl, trivial⟩⟩⟩⟩) ?_
      exact tX11_lowest_63 C K v0 v2 v3 v4 _  h
    · have h := h2 e
      refine aj_iload C dX11_lowest_37 rfl ?_
      obtain ⟨r0, h1, h2⟩ := h
      refine aj_if_eq (tgt := 63) C dX11_lowest_39 (by decide) r0 (fun e => ?_) (fun e => ?_)
      · have h := h1 e
        refine aj_wk (lv' := [some (vI v0), none, some (vI v2), some (vI v3), some (vI v4), none, none, none]) (⟨rfl, ⟨rfl, ⟨rfl, ⟨rfl, trivial⟩⟩⟩⟩) ?_
        exact tX11_lowest_63 C K v0 v2 v3 v4 _  h
      · have h := h2 e
        refine aj_iload C dX11_lowest_42 rfl ?_
        refine aj_iload C dX11_lowest_44 rfl ?_
        obtain ⟨r0, r1, h⟩ := h
        refine aj_iremN C dX11_lowest_46 r0 r1 ?_
        refine aj_istore (lv' := [some (vI v0), none, some (vI v2), some (vI v3), some (vI v4), some (vI v5), some (vI v6), some (vI (v4 % v5))]) C dX11_lowest_47 (by decide) rfl ?_
        refine aj_iload C dX11_lowest_49 rfl ?_
        refine aj_istore (lv' := [some (vI v0), none, some (vI v2), some (vI v3), some (vI v5), some (vI v5), some (vI v6), some (vI (v4 % v5))]) C dX11_lowest_51 (by decide) rfl ?_
        refine aj_iload C dX11_lowest_53 rfl ?_
        refine aj_istore (lv' := [some (vI v0), none, some (vI v2), some (vI v3), some (vI v5), some (vI (v4 % v5)), some (vI v6), some (vI (v4 % v5))]) C dX11_lowest_55 (by decide) rfl ?_
        refine aj_iinc (lv' := [some (vI v0), none, some (vI v2), some (vI v3), some (vI v5), some (vI (v4 % v5)), some (vI (v6 + 1)), some (vI (v4 % v5))]) C dX11_lowest_57 rfl (by decide) rfl ?_
        refine aj_goto (tgt := 30) C dX11_lowest_60 (by decide) ?_
        refine aj_wk (lv' := [some (vI v0), none, some (vI v2), some (vI v3), some (vI v5), some (vI (v4 % v5)), some (vI (v6 + 1)), none]) (⟨rfl, ⟨rfl, ⟨rfl, ⟨rfl, ⟨rfl, ⟨rfl, trivial⟩⟩⟩⟩⟩⟩) ?_
        exact ih v0 v2 v3 v5 (v4 % v5) (v6 + 1) _  h
def wX11_lowest (f : Nat) (Φ : Int → aj_M → Prop) (v0 : Int) (v1 : Int) (v2 : Int) (m : aj_M) : Prop := rI v1 ∧ (¬ v1 = 0 → rI v1 ∧ (¬ v1 = 1 → hX11_lowest_30 f Φ f v0 v2 100 100 v0 0 m) ∧ (v1 = 1 → hX11_lowest_30 f Φ f v0 v2 10 10 v0 0 m)) ∧ (v1 = 0 → hX11_lowest_30 f Φ f v0 v2 1 1 v0 0 m)
set_option maxHeartbeats 4000000 in
set_option maxRecDepth 100000 in
theorem sX11_lowest {n f : Nat} {Φ : Int → aj_M → Prop} {v0 : Int} {v1 : Int} {v2 : Int} {m : aj_M}  (h : wX11_lowest f Φ v0 v1 v2 m) : aj_Ct n yX11_lowest cX11_lowest 8 (some .int) [vI v0, vI v1, vI v2] m (fun r m => ∃ z, r = some (vI z) ∧ Φ z m) := by
  refine aj_met (lv := [some (vI v0), some (vI v1), some (vI v2), none, none, none, none, none]) (by decide +kernel) rfl (Nat.le_of_ble_eq_true rfl) (fun X C K => ?_)
  unfold wX11_lowest at h
  refine aj_iload_n C dX11_lowest_0 rfl ?_
  obtain ⟨r0, h1, h2⟩ := h
  refine aj_if_ne (tgt := 8) C dX11_lowest_1 (by decide) r0 (fun e => ?_) (fun e => ?_)
  · have h := h1 e
    refine aj_iload_n C dX11_lowest_8 rfl ?_
    refine aj_iconst C dX11_lowest_9 ?_
    obtain ⟨r0, h1, h2⟩ := h
    refine aj_icmp_ne (tgt := 18) C dX11_lowest_10 (by decide) r0 (by decide) (fun e => ?_) (fun e => ?_)
    · have h := h1 e
      refine aj_bipush C dX11_lowest_18 (by decide) ?_
      refine aj_istore_n (lv' := [some (vI v0), some (vI v1), some (vI v2), some (vI 100), none, none, none, none]) C dX11_lowest_20 (by decide) rfl ?_
      refine aj_iload_n C dX11_lowest_21 rfl ?_
      refine aj_istore (lv' := [some (vI v0), some (vI v1), some (vI v2), some (vI 100), some (vI 100), none, none, none]) C dX11_lowest_22 (by decide) rfl ?_
      refine aj_iload_n C dX11_lowest_24 rfl ?_
      refine aj_istore (lv' := [some (vI v0), some (vI v1), some (vI v2), some (vI 100), some (vI 100), some (vI v0), none, none]) C dX11_lowest_25 (by decide) rfl ?_
      refine aj_iconst C dX11_lowest_27 ?_
      refine aj_istore (lv' := [some (vI v0), some (vI v1), some (vI v2), some (vI 100), some (vI 100), some (vI v0), some (vI 0), none]) C dX11_lowest_28 (by decide) rfl ?_
      refine aj_wk (lv' := [some (vI v0), none, some (vI v2), some (vI 100), some (vI 100), some (vI v0), some (vI 0), none]) (⟨rfl, ⟨rfl, ⟨rfl, ⟨rfl, ⟨rfl, ⟨rfl, trivial⟩⟩⟩⟩⟩⟩) ?_
      exact tX11_lowest_30 C K f v0 v2 100 100 v0 0 _  h
    · have h := h2 e
      refine aj_bipush C dX11_lowest_13 (by decide) ?_
      refine aj_goto (tgt := 20) C dX11_lowest_15 (by decide) ?_
      refine aj_istore_n (lv' := [some (vI v0), some (vI v1), some (vI v2), some (vI 10), none, none, none, none]) C dX11_lowest_20 (by decide) rfl ?_
      refine aj_iload_n C dX11_lowest_21 rfl ?_
      refine aj_istore (lv' := [some (vI v0), some (vI v1), some (vI v2), some (vI 10), some (vI 10), none, none, none]) C dX11_lowest_22 (by decide) rfl ?_
      refine aj_iload_n C dX11_lowest_24 rfl ?_
      refine aj_istore (lv' := [some (vI v0), some (vI v1), some (vI v2), some (vI 10), some (vI 10), some (vI v0), none, none]) C dX11_lowest_25 (by decide) rfl ?_
      refine aj_iconst C dX11_lowest_27 ?_
      refine aj_istore (lv' := [some (vI v0), some (vI v1), some (vI v2), some (vI 10), some (vI 10), some (vI v0), some (vI 0), none]) C dX11_lowest_28 (by decide) rfl ?_
      refine aj_wk (lv' := [some (vI v0), none, some (vI v2), some (vI 10), some (vI 10), some (vI v0), some (vI 0), none]) (⟨rfl, ⟨rfl, ⟨rfl, ⟨rfl, ⟨rfl, ⟨rfl, trivial⟩⟩⟩⟩⟩⟩) ?_
      exact tX11_lowest_30 C K f v0 v2 10 10 v0 0 _  h
  · have h := h2 e
    refine aj_iconst C dX11_lowest_4 ?_
    refine aj_goto (tgt := 20) C dX11_lowest_5 (by decide) ?_
    refine aj_istore_n (lv' := [some (vI v0), some (vI v1), some (vI v2), some (vI 1), none, none, none, none]) C dX11_lowest_20 (by decide) rfl ?_
    refine aj_iload_n C dX11_lowest_21 rfl ?_
    refine aj_istore (lv' := [some (vI v0), some (vI v1), some (vI v2), some (vI 1), some (vI 1), none, none, none]) C dX11_lowest_22 (by decide) rfl ?_
    refine aj_iload_n C dX11_lowest_24 rfl ?_
    refine aj_istore (lv' := [some (vI v0), some (vI v1), some (vI v2), some (vI 1), some (vI 1), some (vI v0), none, none]) C dX11_lowest_25 (by decide) rfl ?_
    refine aj_iconst C dX11_lowest_27 ?_
    refine aj_istore (lv' := [some (vI v0), some (vI v1), some (vI v2), some (vI 1), some (vI 1), some (vI v0), some (vI 0), none]) C dX11_lowest_28 (by decide) rfl ?_
    refine aj_wk (lv' := [some (vI v0), none, some (vI v2), some (vI 1), some (vI 1), some (vI v0), some (vI 0), none]) (⟨rfl, ⟨rfl, ⟨rfl, ⟨rfl, ⟨rfl, ⟨rfl, trivial⟩⟩⟩⟩⟩⟩) ?_
    exact tX11_lowest_30 C K f v0 v2 1 1 v0 0 _  h
theorem dX11_chance_0 : decode cX11_chance 0 = .ok (.iload_n 3, 1) := by decide +kernel
theorem dX11_chance_1 : decode cX11_chance 1 = .ok (.ifCond .lt 8, 3) := by decide +kernel
theorem dX11_chance_4 : decode cX11_chance 4 = .ok (.iload_n 3, 1) := by decide +kernel
theorem dX11_chance_5 : decode cX11_chance 5 = .ok (.iconst 1, 1) := by decide +kernel
theorem dX11_chance_6 : decode cX11_chance 6 = .ok (.if_icmp .le 6, 3) := by decide +kernel
theorem dX11_chance_9 : decode cX11_chance 9 = .ok (.bipush (-2), 2) := by decide +kernel
theorem dX11_chance_11 : decode cX11_chance 11 = .ok (.ireturn, 1) := by decide +kernel
theorem dX11_chance_12 : decode cX11_chance 12 = .ok (.iload_n 1, 1) := by decide +kernel
theorem dX11_chance_13 : decode cX11_chance 13 = .ok (.iconst 1, 1) := by decide +kernel
theorem dX11_chance_14 : decode cX11_chance 14 = .ok (.if_icmp .lt 18, 3) := by decide +kernel
theorem dX11_chance_17 : decode cX11_chance 17 = .ok (.iload_n 1, 1) := by decide +kernel
theorem dX11_chance_18 : decode cX11_chance 18 = .ok (.bipush 60, 2) := by decide +kernel
theorem dX11_chance_20 : decode cX11_chance 20 = .ok (.if_icmp .gt 12, 3) := by decide +kernel
theorem dX11_chance_23 : decode cX11_chance 23 = .ok (.iload_n 2, 1) := by decide +kernel
theorem dX11_chance_24 : decode cX11_chance 24 = .ok (.ifCond .lt 8, 3) := by decide +kernel
theorem dX11_chance_27 : decode cX11_chance 27 = .ok (.iload_n 2, 1) := by decide +kernel
theorem dX11_chance_28 : decode cX11_chance 28 = .ok (.iconst 2, 1) := by decide +kernel
theorem dX11_chance_29 : decode cX11_chance 29 = .ok (.if_icmp .le 6, 3) := by decide +kernel
theorem dX11_chance_32 : decode cX11_chance 32 = .ok (.bipush (-3), 2) := by decide +kernel
theorem dX11_chance_34 : decode cX11_chance 34 = .ok (.ireturn, 1) := by decide +kernel
theorem dX11_chance_35 : decode cX11_chance 35 = .ok (.aload_n 0, 1) := by decide +kernel
theorem dX11_chance_36 : decode cX11_chance 36 = .ok (.iload_n 2, 1) := by decide +kernel
theorem dX11_chance_37 : decode cX11_chance 37 = .ok (.iload_n 1, 1) := by decide +kernel
theorem dX11_chance_38 : decode cX11_chance 38 = .ok (.invokevirtual 375, 3) := by decide +kernel
theorem dX11_chance_41 : decode cX11_chance 41 = .ok (.iload_n 2, 1) := by decide +kernel
theorem dX11_chance_42 : decode cX11_chance 42 = .ok (.iload_n 3, 1) := by decide +kernel
theorem dX11_chance_43 : decode cX11_chance 43 = .ok (.invokestatic 378, 3) := by decide +kernel
theorem dX11_chance_46 : decode cX11_chance 46 = .ok (.ireturn, 1) := by decide +kernel
def wX11_chance (f : Nat) (Φ : Int → aj_M → Prop) (q0 : List Nat) (v1 : Int) (v2 : Int) (v3 : Int) (m : aj_M) : Prop := rI v3 ∧ (v3 < 0 → Φ (-2) m) ∧ (¬ (v3 < 0) → rI v3 ∧ (v3 ≤ 1 → rI v1 ∧ (v1 < 1 → Φ (-3) m) ∧ (¬ (v1 < 1) → rI v1 ∧ (60 < v1 → Φ (-3) m) ∧ (¬ (60 < v1) → rI v2 ∧ (v2 < 0 → Φ (-3) m) ∧ (¬ (v2 < 0) → rI v2 ∧ (v2 ≤ 2 → wX11_drawn f (fun z1 m1 => wX11_lowest f (fun z2 m2 => Φ z2 m2) z1 v2 v3 m1) q0 v2 v1 m) ∧ (¬ (v2 ≤ 2) → Φ (-3) m))))) ∧ (¬ (v3 ≤ 1) → Φ (-2) m))
set_option maxHeartbeats 4000000 in
set_option maxRecDepth 100000 in
theorem sX11_chance {n f : Nat} {Φ : Int → aj_M → Prop} {q0 : List Nat} {v1 : Int} {v2 : Int} {v3 : Int} {m : aj_M} (hq0 : (.inl (11, q0) : aj_R) ∈ aj_pls) (h : wX11_chance f Φ q0 v1 v2 v3 m) : aj_Ct (n + 6) yX11_chance cX11_chance 4 (some .int) [vO 11 q0, vI v1, vI v2, vI v3] m (fun r m => ∃ z, r = some (vI z) ∧ Φ z m) := by
  refine aj_met (lv := [some (vO 11 q0), some (vI v1), some (vI v2), some (vI v3)]) (by decide +kernel) rfl (Nat.le_of_ble_eq_true rfl) (fun X C K => ?_)
  unfold wX11_chance at h
  refine aj_iload_n C dX11_chance_0 rfl ?_
  obtain ⟨r0, h1, h2⟩ := h
  refine aj_if_lt (tgt := 9) C dX11_chance_1 (by decide) r0 (fun e => ?_) (fun e => ?_)
  · have h := h1 e
    refine aj_bipush C dX11_chance_9 (by decide) ?_
    exact aj_iret C K dX11_chance_11 ⟨_, rfl, h⟩
  · have h := h2 e
    refine aj_iload_n C dX11_chance_4 rfl ?_
    refine aj_iconst C dX11_chance_5 ?_
    obtain ⟨r0, h1, h2⟩ := h
    refine aj_icmp_le (tgt := 12) C dX11_chance_6 (by decide) r0 (by decide) (fun e => ?_) (fun e => ?_)
    · have h := h1 e
      refine aj_iload_n C dX11_chance_12 rfl ?_
      refine aj_iconst C dX11_chance_13 ?_
      obtain ⟨r0, h1, h2⟩ := h
      refine aj_icmp_lt (tgt := 32) C dX11_chance_14 (by decide) r0 (by decide) (fun e => ?_) (fun e => ?_)
      · have h := h1 e
        refine aj_bipush C dX11_chance_32 (by decide) ?_
        exact aj_iret C K dX11_chance_34 ⟨_, rfl, h⟩
      · have h := h2 e
        refine aj_iload_n C dX11_chance_17 rfl ?_
        refine aj_bipush C dX11_chance_18 (by decide) ?_
        obtain ⟨r0, h1, h2⟩ := h
        refine aj_icmp_gt (tgt := 32) C dX11_chance_20 (by decide) r0 (by decide) (fun e => ?_) (fun e => ?_)
        · have h := h1 e
          refine aj_bipush C dX11_chance_32 (by decide) ?_
          exact aj_iret C K dX11_chance_34 ⟨_, rfl, h⟩
        · have h := h2 e
          refine aj_iload_n C dX11_chance_23 rfl ?_
          obtain ⟨r0, h1, h2⟩ := h
          refine aj_if_lt (tgt := 32) C dX11_chance_24 (by decide) r0 (fun e => ?_) (fun e => ?_)
          · have h := h1 e
            refine aj_bipush C dX11_chance_32 (by decide) ?_
            exact aj_iret C K dX11_chance_34 ⟨_, rfl, h⟩
          · have h := h2 e
            refine aj_iload_n C dX11_chance_27 rfl ?_
            refine aj_iconst C dX11_chance_28 ?_
            obtain ⟨r0, h1, h2⟩ := h
            refine aj_icmp_le (tgt := 35) C dX11_chance_29 (by decide) r0 (by decide) (fun e => ?_) (fun e => ?_)
            · have h := h1 e
              refine aj_aload_n C dX11_chance_35 rfl ?_
              refine aj_iload_n C dX11_chance_36 rfl ?_
              refine aj_iload_n C dX11_chance_37 rfl ?_
              refine aj_callV (rest := []) C mvX11_375 (sX11_drawn hq0 h) hq0 (aj_np 2 (by decide +kernel) rfl) (Nat.le_of_ble_eq_true rfl) rfl dX11_chance_38 (fun r m1 h => ?_)
              obtain ⟨z1, rfl, h⟩ := h
              refine aj_iload_n C dX11_chance_41 rfl ?_
              refine aj_iload_n C dX11_chance_42 rfl ?_
              refine aj_callS (rest := []) C msX11_378 (sX11_lowest  h) (aj_np 3 (by decide +kernel) rfl) (Nat.le_of_ble_eq_true rfl) rfl dX11_chance_43 (fun r m2 h => ?_)
              obtain ⟨z2, rfl, h⟩ := h
              exact aj_iret C K dX11_chance_46 ⟨_, rfl, h⟩
            · have h := h2 e
              refine aj_bipush C dX11_chance_32 (by decide) ?_
              exact aj_iret C K dX11_chance_34 ⟨_, rfl, h⟩
    · have h := h2 e
      refine aj_bipush C dX11_chance_9 (by decide) ?_
      exact aj_iret C K dX11_chance_11 ⟨_, rfl, h⟩
theorem dX11_mean_0 : decode cX11_mean 0 = .ok (.iload_n 2, 1) := by decide +kernel
theorem dX11_mean_1 : decode cX11_mean 1 = .ok (.ifCond .lt 8, 3) := by decide +kernel
theorem dX11_mean_4 : decode cX11_mean 4 = .ok (.iload_n 2, 1) := by decide +kernel
theorem dX11_mean_5 : decode cX11_mean 5 = .ok (.iconst 1, 1) := by decide +kernel
theorem dX11_mean_6 : decode cX11_mean 6 = .ok (.if_icmp .le 6, 3) := by decide +kernel
theorem dX11_mean_9 : decode cX11_mean 9 = .ok (.bipush (-2), 2) := by decide +kernel
theorem dX11_mean_11 : decode cX11_mean 11 = .ok (.ireturn, 1) := by decide +kernel
theorem dX11_mean_12 : decode cX11_mean 12 = .ok (.iload_n 1, 1) := by decide +kernel
theorem dX11_mean_13 : decode cX11_mean 13 = .ok (.ifCond .lt 8, 3) := by decide +kernel
theorem dX11_mean_16 : decode cX11_mean 16 = .ok (.iload_n 1, 1) := by decide +kernel
theorem dX11_mean_17 : decode cX11_mean 17 = .ok (.iconst 2, 1) := by decide +kernel
theorem dX11_mean_18 : decode cX11_mean 18 = .ok (.if_icmp .le 6, 3) := by decide +kernel
theorem dX11_mean_21 : decode cX11_mean 21 = .ok (.bipush (-3), 2) := by decide +kernel
theorem dX11_mean_23 : decode cX11_mean 23 = .ok (.ireturn, 1) := by decide +kernel
theorem dX11_mean_24 : decode cX11_mean 24 = .ok (.aload_n 0, 1) := by decide +kernel
theorem dX11_mean_25 : decode cX11_mean 25 = .ok (.iload_n 1, 1) := by decide +kernel
theorem dX11_mean_26 : decode cX11_mean 26 = .ok (.iconst 0, 1) := by decide +kernel
theorem dX11_mean_27 : decode cX11_mean 27 = .ok (.invokevirtual 375, 3) := by decide +kernel
theorem dX11_mean_30 : decode cX11_mean 30 = .ok (.iload_n 1, 1) := by decide +kernel
theorem dX11_mean_31 : decode cX11_mean 31 = .ok (.iload_n 2, 1) := by decide +kernel
theorem dX11_mean_32 : decode cX11_mean 32 = .ok (.invokestatic 378, 3) := by decide +kernel
theorem dX11_mean_35 : decode cX11_mean 35 = .ok (.ireturn, 1) := by decide +kernel
def wX11_mean (f : Nat) (Φ : Int → aj_M → Prop) (q0 : List Nat) (v1 : Int) (v2 : Int) (m : aj_M) : Prop := rI v2 ∧ (v2 < 0 → Φ (-2) m) ∧ (¬ (v2 < 0) → rI v2 ∧ (v2 ≤ 1 → rI v1 ∧ (v1 < 0 → Φ (-3) m) ∧ (¬ (v1 < 0) → rI v1 ∧ (v1 ≤ 2 → wX11_drawn f (fun z1 m1 => wX11_lowest f (fun z2 m2 => Φ z2 m2) z1 v1 v2 m1) q0 v1 0 m) ∧ (¬ (v1 ≤ 2) → Φ (-3) m))) ∧ (¬ (v2 ≤ 1) → Φ (-2) m))
set_option maxHeartbeats 4000000 in
set_option maxRecDepth 100000 in
theorem sX11_mean {n f : Nat} {Φ : Int → aj_M → Prop} {q0 : List Nat} {v1 : Int} {v2 : Int} {m : aj_M} (hq0 : (.inl (11, q0) : aj_R) ∈ aj_pls) (h : wX11_mean f Φ q0 v1 v2 m) : aj_Ct (n + 6) yX11_mean cX11_mean 3 (some .int) [vO 11 q0, vI v1, vI v2] m (fun r m => ∃ z, r = some (vI z) ∧ Φ z m) := by
  refine aj_met (lv := [some (vO 11 q0), some (vI v1), some (vI v2)]) (by decide +kernel) rfl (Nat.le_of_ble_eq_true rfl) (fun X C K => ?_)
  unfold wX11_mean at h
  refine aj_iload_n C dX11_mean_0 rfl ?_
  obtain ⟨r0, h1, h2⟩ := h
  refine aj_if_lt (tgt := 9) C dX11_mean_1 (by decide) r0 (fun e => ?_) (fun e => ?_)
  · have h := h1 e
    refine aj_bipush C dX11_mean_9 (by decide) ?_
    exact aj_iret C K dX11_mean_11 ⟨_, rfl, h⟩
  · have h := h2 e
    refine aj_iload_n C dX11_mean_4 rfl ?_
    refine aj_iconst C dX11_mean_5 ?_
    obtain ⟨r0, h1, h2⟩ := h
    refine aj_icmp_le (tgt := 12) C dX11_mean_6 (by decide) r0 (by decide) (fun e => ?_) (fun e => ?_)
    · have h := h1 e
      refine aj_iload_n C dX11_mean_12 rfl ?_
      obtain ⟨r0, h1, h2⟩ := h
      refine aj_if_lt (tgt := 21) C dX11_mean_13 (by decide) r0 (fun e => ?_) (fun e => ?_)
      · have h := h1 e
        refine aj_bipush C dX11_mean_21 (by decide) ?_
        exact aj_iret C K dX11_mean_23 ⟨_, rfl, h⟩
      · have h := h2 e
        refine aj_iload_n C dX11_mean_16 rfl ?_
        refine aj_iconst C dX11_mean_17 ?_
        obtain ⟨r0, h1, h2⟩ := h
        refine aj_icmp_le (tgt := 24) C dX11_mean_18 (by decide) r0 (by decide) (fun e => ?_) (fun e => ?_)
        · have h := h1 e
          refine aj_aload_n C dX11_mean_24 rfl ?_
          refine aj_iload_n C dX11_mean_25 rfl ?_
          refine aj_iconst C dX11_mean_26 ?_
          refine aj_callV (rest := []) C mvX11_375 (sX11_drawn hq0 h) hq0 (aj_np 2 (by decide +kernel) rfl) (Nat.le_of_ble_eq_true rfl) rfl dX11_mean_27 (fun r m1 h => ?_)
          obtain ⟨z1, rfl, h⟩ := h
          refine aj_iload_n C dX11_mean_30 rfl ?_
          refine aj_iload_n C dX11_mean_31 rfl ?_
          refine aj_callS (rest := []) C msX11_378 (sX11_lowest  h) (aj_np 3 (by decide +kernel) rfl) (Nat.le_of_ble_eq_true rfl) rfl dX11_mean_32 (fun r m2 h => ?_)
          obtain ⟨z2, rfl, h⟩ := h
          exact aj_iret C K dX11_mean_35 ⟨_, rfl, h⟩
        · have h := h2 e
          refine aj_bipush C dX11_mean_21 (by decide) ?_
          exact aj_iret C K dX11_mean_23 ⟨_, rfl, h⟩
    · have h := h2 e
      refine aj_bipush C dX11_mean_9 (by decide) ?_
      exact aj_iret C K dX11_mean_11 ⟨_, rfl, h⟩
theorem dX11_numbers_0 : decode cX11_numbers 0 = .ok (.iload_n 1, 1) := by decide +kernel
theorem dX11_numbers_1 : decode cX11_numbers 1 = .ok (.invokestatic 187, 3) := by decide +kernel
theorem dX11_numbers_4 : decode cX11_numbers 4 = .ok (.ifCond .eq 12, 3) := by decide +kernel
theorem dX11_numbers_7 : decode cX11_numbers 7 = .ok (.iload_n 2, 1) := by decide +kernel
theorem dX11_numbers_8 : decode cX11_numbers 8 = .ok (.ifCond .lt 8, 3) := by decide +kernel
theorem dX11_numbers_11 : decode cX11_numbers 11 = .ok (.iload_n 2, 1) := by decide +kernel
theorem dX11_numbers_12 : decode cX11_numbers 12 = .ok (.iconst 3, 1) := by decide +kernel
theorem dX11_numbers_13 : decode cX11_numbers 13 = .ok (.if_icmp .le 6, 3) := by decide +kernel
theorem dX11_numbers_16 : decode cX11_numbers 16 = .ok (.bipush (-2), 2) := by decide +kernel
theorem dX11_numbers_18 : decode cX11_numbers 18 = .ok (.ireturn, 1) := by decide +kernel
theorem dX11_numbers_19 : decode cX11_numbers 19 = .ok (.iload_n 3, 1) := by decide +kernel
theorem dX11_numbers_20 : decode cX11_numbers 20 = .ok (.ifCond .lt 9, 3) := by decide +kernel
theorem dX11_numbers_23 : decode cX11_numbers 23 = .ok (.iload_n 3, 1) := by decide +kernel
theorem dX11_numbers_24 : decode cX11_numbers 24 = .ok (.bipush 40, 2) := by decide +kernel
theorem dX11_numbers_26 : decode cX11_numbers 26 = .ok (.if_icmp .le 6, 3) := by decide +kernel
theorem dX11_numbers_29 : decode cX11_numbers 29 = .ok (.bipush (-3), 2) := by decide +kernel
theorem dX11_numbers_31 : decode cX11_numbers 31 = .ok (.ireturn, 1) := by decide +kernel
theorem dX11_numbers_32 : decode cX11_numbers 32 = .ok (.aload_n 0, 1) := by decide +kernel
theorem dX11_numbers_33 : decode cX11_numbers 33 = .ok (.getfield 51, 3) := by decide +kernel
theorem dX11_numbers_36 : decode cX11_numbers 36 = .ok (.iload_n 1, 1) := by decide +kernel
theorem dX11_numbers_37 : decode cX11_numbers 37 = .ok (.aaload, 1) := by decide +kernel
theorem dX11_numbers_38 : decode cX11_numbers 38 = .ok (.iload_n 2, 1) := by decide +kernel
theorem dX11_numbers_39 : decode cX11_numbers 39 = .ok (.iload_n 3, 1) := by decide +kernel
theorem dX11_numbers_40 : decode cX11_numbers 40 = .ok (.invokevirtual 381, 3) := by decide +kernel
theorem dX11_numbers_43 : decode cX11_numbers 43 = .ok (.iconst 0, 1) := by decide +kernel
theorem dX11_numbers_44 : decode cX11_numbers 44 = .ok (.ireturn, 1) := by decide +kernel
def wX11_numbers (f : Nat) (Φ : Int → aj_M → Prop) (q0 : List Nat) (v1 : Int) (v2 : Int) (v3 : Int) (m : aj_M) : Prop := wX11_isTray f (fun z1 m1 => rI z1 ∧ (z1 = 0 → Φ (-2) m1) ∧ (¬ (z1 = 0) → rI v2 ∧ (v2 < 0 → Φ (-2) m1) ∧ (¬ (v2 < 0) → rI v2 ∧ (v2 ≤ 3 → rI v3 ∧ (v3 < 0 → Φ (-3) m1) ∧ (¬ (v3 < 0) → rI v3 ∧ (v3 ≤ 40 → (0 ≤ v1 ∧ v1 < 4) ∧ wX10_lay f (fun m2 => Φ 0 m2) (v1.toNat :: (7 :: q0)) v2 v3 m1) ∧ (¬ (v3 ≤ 40) → Φ (-3) m1))) ∧ (¬ (v2 ≤ 3) → Φ (-2) m1)))) v1 m
set_option maxHeartbeats 4000000 in
set_option maxRecDepth 100000 in
theorem sX11_numbers {n f : Nat} {Φ : Int → aj_M → Prop} {q0 : List Nat} {v1 : Int} {v2 : Int} {v3 : Int} {m : aj_M} (hq0 : (.inl (11, q0) : aj_R) ∈ aj_pls) (h : wX11_numbers f Φ q0 v1 v2 v3 m) : aj_Ct (n + 2) yX11_numbers cX11_numbers 4 (some .int) [vO 11 q0, vI v1, vI v2, vI v3] m (fun r m => ∃ z, r = some (vI z) ∧ Φ z m) := by
  refine aj_met (lv := [some (vO 11 q0), some (vI v1), some (vI v2), some (vI v3)]) (by decide +kernel) rfl (Nat.le_of_ble_eq_true rfl) (fun X C K => ?_)
  unfold wX11_numbers at h
  refine aj_iload_n C dX11_numbers_0 rfl ?_
  refine aj_callS (rest := []) C msX11_187 (sX11_isTray  h) (aj_np 1 (by decide +kernel) rfl) (Nat.le_of_ble_eq_true rfl) rfl dX11_numbers_1 (fun r m1 h => ?_)
  obtain ⟨z1, rfl, h⟩ := h
  obtain ⟨r0, h1, h2⟩ := h
  refine aj_if_eq (tgt := 16) C dX11_numbers_4 (by decide) r0 (fun e => ?_) (fun e => ?_)
  · have h := h1 e
    refine aj_bipush C dX11_numbers_16 (by decide) ?_
    exact aj_iret C K dX11_numbers_18 ⟨_, rfl, h⟩
  · have h := h2 e
    refine aj_iload_n C dX11_numbers_7 rfl ?_
    obtain ⟨r0, h1, h2⟩ := h
    refine aj_if_lt (tgt := 16) C dX11_numbers_8 (by decide) r0 (fun e => ?_) (fun e => ?_)
    · have h := h1 e
      refine aj_bipush C dX11_numbers_16 (by decide) ?_
      exact aj_iret C K dX11_numbers_18 ⟨_, rfl, h⟩
    · have h := h2 e
      refine aj_iload_n C dX11_numbers_11 rfl ?_
      refine aj_iconst C dX11_numbers_12 ?_
      obtain ⟨r0, h1, h2⟩ := h
      refine aj_icmp_le (tgt := 19) C dX11_numbers_13 (by decide) r0 (by decide) (fun e => ?_) (fun e => ?_)
      · have h := h1 e
        refine aj_iload_n C dX11_numbers_19 rfl ?_
        obtain ⟨r0, h1, h2⟩ := h
        refine aj_if_lt (tgt := 29) C dX11_numbers_20 (by decide) r0 (fun e => ?_) (fun e => ?_)
        · have h := h1 e
          refine aj_bipush C dX11_numbers_29 (by decide) ?_
          exact aj_iret C K dX11_numbers_31 ⟨_, rfl, h⟩
        · have h := h2 e
          refine aj_iload_n C dX11_numbers_23 rfl ?_
          refine aj_bipush C dX11_numbers_24 (by decide) ?_
          obtain ⟨r0, h1, h2⟩ := h
          refine aj_icmp_le (tgt := 32) C dX11_numbers_26 (by decide) r0 (by decide) (fun e => ?_) (fun e => ?_)
          · have h := h1 e
            refine aj_aload_n C dX11_numbers_32 rfl ?_
            refine aj_getA (x := 6) (y := 4) C flX11_51 hq0 rfl dX11_numbers_33 ?_
            refine aj_iload_n C dX11_numbers_36 rfl ?_
            obtain ⟨r0_1, h⟩ := h
            refine aj_aald (c1 := 10) C (aj_ca (e := 6) (n := 4) (j := 7) hq0 (by decide) rfl) (by decide) (fun _ => rfl) (by decide) r0_1 dX11_numbers_37 ?_
            refine aj_iload_n C dX11_numbers_38 rfl ?_
            refine aj_iload_n C dX11_numbers_39 rfl ?_
            refine aj_callV (rest := []) C mvX11_381 (sX10_lay (aj_ce (i := v1.toNat) (aj_ca (e := 6) (n := 4) (j := 7) hq0 (by decide) rfl) rfl (by omega)) h) (aj_ce (i := v1.toNat) (aj_ca (e := 6) (n := 4) (j := 7) hq0 (by decide) rfl) rfl (by omega)) (aj_np 2 (by decide +kernel) rfl) (Nat.le_of_ble_eq_true rfl) rfl dX11_numbers_40 (fun r m2 h => ?_)
            obtain ⟨rfl, h⟩ := h
            refine aj_iconst C dX11_numbers_43 ?_
            exact aj_iret C K dX11_numbers_44 ⟨_, rfl, h⟩
          · have h := h2 e
            refine aj_bipush C dX11_numbers_29 (by decide) ?_
            exact aj_iret C K dX11_numbers_31 ⟨_, rfl, h⟩
      · have h := h2 e
        refine aj_bipush C dX11_numbers_16 (by decide) ?_
        exact aj_iret C K dX11_numbers_18 ⟨_, rfl, h⟩
theorem dX11_write_0 : decode cX11_write 0 = .ok (.aload_n 0, 1) := by decide +kernel
theorem dX11_write_1 : decode cX11_write 1 = .ok (.iload_n 1, 1) := by decide +kernel
theorem dX11_write_2 : decode cX11_write 2 = .ok (.invokevirtual 222, 3) := by decide +kernel
theorem dX11_write_5 : decode cX11_write 5 = .ok (.istore 5, 2) := by decide +kernel
theorem dX11_write_7 : decode cX11_write 7 = .ok (.iload 5, 2) := by decide +kernel
theorem dX11_write_9 : decode cX11_write 9 = .ok (.ifCond .eq 7, 3) := by decide +kernel
theorem dX11_write_12 : decode cX11_write 12 = .ok (.iload 5, 2) := by decide +kernel
theorem dX11_write_14 : decode cX11_write 14 = .ok (.i2l, 1) := by decide +kernel
theorem dX11_write_15 : decode cX11_write 15 = .ok (.lreturn, 1) := by decide +kernel
theorem dX11_write_16 : decode cX11_write 16 = .ok (.aload_n 0, 1) := by decide +kernel
theorem dX11_write_17 : decode cX11_write 17 = .ok (.getfield 51, 3) := by decide +kernel
theorem dX11_write_20 : decode cX11_write 20 = .ok (.iload_n 1, 1) := by decide +kernel
theorem dX11_write_21 : decode cX11_write 21 = .ok (.aaload, 1) := by decide +kernel
theorem dX11_write_22 : decode cX11_write 22 = .ok (.astore 6, 2) := by decide +kernel
theorem dX11_write_24 : decode cX11_write 24 = .ok (.iload_n 2, 1) := by decide +kernel
theorem dX11_write_25 : decode cX11_write 25 = .ok (.ifCond .lt 12, 3) := by decide +kernel
theorem dX11_write_28 : decode cX11_write 28 = .ok (.iload_n 2, 1) := by decide +kernel
theorem dX11_write_29 : decode cX11_write 29 = .ok (.aload 6, 2) := by decide +kernel
theorem dX11_write_31 : decode cX11_write 31 = .ok (.getfield 198, 3) := by decide +kernel
theorem dX11_write_34 : decode cX11_write 34 = .ok (.if_icmp .lt 7, 3) := by decide +kernel
theorem dX11_write_37 : decode cX11_write 37 = .ok (.ldc2_w 385, 3) := by decide +kernel
theorem dX11_write_40 : decode cX11_write 40 = .ok (.lreturn, 1) := by decide +kernel
theorem dX11_write_41 : decode cX11_write 41 = .ok (.aload 6, 2) := by decide +kernel
theorem dX11_write_43 : decode cX11_write 43 = .ok (.getfield 201, 3) := by decide +kernel
theorem dX11_write_46 : decode cX11_write 46 = .ok (.iload_n 2, 1) := by decide +kernel
theorem dX11_write_47 : decode cX11_write 47 = .ok (.aload 6, 2) := by decide +kernel
theorem dX11_write_49 : decode cX11_write 49 = .ok (.lload_n 3, 1) := by decide +kernel
theorem dX11_write_50 : decode cX11_write 50 = .ok (.invokevirtual 387, 3) := by decide +kernel
theorem dX11_write_53 : decode cX11_write 53 = .ok (.lastore, 1) := by decide +kernel
theorem dX11_write_54 : decode cX11_write 54 = .ok (.aload 6, 2) := by decide +kernel
theorem dX11_write_56 : decode cX11_write 56 = .ok (.getfield 201, 3) := by decide +kernel
theorem dX11_write_59 : decode cX11_write 59 = .ok (.iload_n 2, 1) := by decide +kernel
theorem dX11_write_60 : decode cX11_write 60 = .ok (.laload, 1) := by decide +kernel
theorem dX11_write_61 : decode cX11_write 61 = .ok (.lreturn, 1) := by decide +kernel
def wX11_write (f : Nat) (Φ : Int → aj_M → Prop) (q0 : List Nat) (v1 : Int) (v2 : Int) (w3 : Int) (m : aj_M) : Prop := wX11_trayCode f (fun z1 m1 => rI z1 ∧ (z1 = 0 → (0 ≤ v1 ∧ v1 < 4) ∧ rI v2 ∧ (v2 < 0 → Φ (-7) m1) ∧ (¬ (v2 < 0) → rI v2 ∧ rI (m1 (v1.toNat :: (7 :: q0)) 2) ∧ (v2 < (m1 (v1.toNat :: (7 :: q0)) 2) → wX10_trimmed f (fun z2 m2 => (0 ≤ v2 ∧ v2 < 40) ∧ ∀ m3, m3 = aj_u m2 (0 :: (v1.toNat :: (7 :: q0))) v2.toNat z2 → (0 ≤ v2 ∧ v2 < 40) ∧ Φ (m3 (0 :: (v1.toNat :: (7 :: q0))) v2.toNat) m3) (v1.toNat :: (7 :: q0)) w3 m1) ∧ (¬ (v2 < (m1 (v1.toNat :: (7 :: q0)) 2)) → Φ (-7) m1))) ∧ (¬ (z1 = 0) → rI z1 ∧ Φ z1 m1)) q0 v1 m
set_option maxHeartbeats 4000000 in
set_option maxRecDepth 100000 in
theorem sX11_write {n f : Nat} {Φ : Int → aj_M → Prop} {q0 : List Nat} {v1 : Int} {v2 : Int} {w3 : Int} {m : aj_M} (hq0 : (.inl (11, q0) : aj_R) ∈ aj_pls) (h : wX11_write f Φ q0 v1 v2 w3 m) : aj_Ct (n + 2) yX11_write cX11_write 7 (some .long) [vO 11 q0, vI v1, vI v2, vL w3] m (fun r m => ∃ z, r = some (vL z) ∧ Φ z m) := by
  refine aj_met (lv := [some (vO 11 q0), some (vI v1), some (vI v2), some (vL w3), none, none, none]) (by decide +kernel) rfl (Nat.le_of_ble_eq_true rfl) (fun X C K => ?_)
  unfold wX11_write at h
  refine aj_aload_n C dX11_write_0 rfl ?_
  refine aj_iload_n C dX11_write_1 rfl ?_
  refine aj_callV (rest := []) C mvX11_222 (sX11_trayCode hq0 h) hq0 (aj_np 1 (by decide +kernel) rfl) (Nat.le_of_ble_eq_true rfl) rfl dX11_write_2 (fun r m1 h => ?_)
  obtain ⟨z1, rfl, h⟩ := h
  refine aj_istore (lv' := [some (vO 11 q0), some (vI v1), some (vI v2), some (vL w3), none, some (vI z1), none]) C dX11_write_5 (by decide) rfl ?_
  refine aj_iload C dX11_write_7 rfl ?_
  obtain ⟨r0, h1, h2⟩ := h
  refine aj_if_eq (tgt := 16) C dX11_write_9 (by decide) r0 (fun e => ?_) (fun e => ?_)
  · have h := h1 e
    refine aj_aload_n C dX11_write_16 rfl ?_
    refine aj_getA (x := 6) (y := 4) C flX11_51 hq0 rfl dX11_write_17 ?_
    refine aj_iload_n C dX11_write_20 rfl ?_
    obtain ⟨r0_1, h⟩ := h
    refine aj_aald (c1 := 10) C (aj_ca (e := 6) (n := 4) (j := 7) hq0 (by decide) rfl) (by decide) (fun _ => rfl) (by decide) r0_1 dX11_write_21 ?_
    refine aj_astore (lv' := [some (vO 11 q0), some (vI v1), some (vI v2), some (vL w3), none, some (vI z1), some (vO 10 (v1.toNat :: (7 :: q0)))]) C dX11_write_22 (by decide) rfl ?_
    refine aj_iload_n C dX11_write_24 rfl ?_
    obtain ⟨r0, h1, h2⟩ := h
    refine aj_if_lt (tgt := 37) C dX11_write_25 (by decide) r0 (fun e => ?_) (fun e => ?_)
    · have h := h1 e
      refine aj_ldc2 (z := (-7)) C (wd1455) rfl dX11_write_37 ?_
      exact aj_lret C K dX11_write_40 ⟨_, rfl, h⟩
    · have h := h2 e
      refine aj_iload_n C dX11_write_28 rfl ?_
      refine aj_aload C dX11_write_29 rfl ?_
      refine aj_getI C flX11_198 (aj_ce (i := v1.toNat) (aj_ca (e := 6) (n := 4) (j := 7) hq0 (by decide) rfl) rfl (by omega)) (by decide) dX11_write_31 rfl ?_
      obtain ⟨r0, r1, h1, h2⟩ := h
      refine aj_icmp_lt (tgt := 41) C dX11_write_34 (by decide) r0 r1 (fun e => ?_) (fun e => ?_)
      · have h := h1 e
        refine aj_aload C dX11_write_41 rfl ?_
        refine aj_getA (x := 3) (y := 40) C flX11_201 (aj_ce (i := v1.toNat) (aj_ca (e := 6) (n := 4) (j := 7) hq0 (by decide) rfl) rfl (by omega)) rfl dX11_write_43 ?_
        refine aj_iload_n C dX11_write_46 rfl ?_
        refine aj_aload C dX11_write_47 rfl ?_
        refine aj_lload_n C dX11_write_49 rfl ?_
        refine aj_callV (rest := [vI v2, vA 3 40 (0 :: (v1.toNat :: (7 :: q0)))]) C mvX11_387 (sX10_trimmed (aj_ce (i := v1.toNat) (aj_ca (e := 6) (n := 4) (j := 7) hq0 (by decide) rfl) rfl (by omega)) h) (aj_ce (i := v1.toNat) (aj_ca (e := 6) (n := 4) (j := 7) hq0 (by decide) rfl) rfl (by omega)) (aj_np 1 (by decide +kernel) rfl) (Nat.le_of_ble_eq_true rfl) rfl dX11_write_50 (fun r m2 h => ?_)
        obtain ⟨z2, rfl, h⟩ := h
        obtain ⟨r0, h⟩ := h
        refine aj_last C (aj_ca (e := 3) (n := 40) (j := 0) (aj_ce (i := v1.toNat) (aj_ca (e := 6) (n := 4) (j := 7) hq0 (by decide) rfl) rfl (by omega)) (by decide) rfl) (by decide) r0 dX11_write_53 ?_
        refine aj_nm (fun m3 e1 => ?_)
        have h := h m3 e1
        refine aj_aload C dX11_write_54 rfl ?_
        refine aj_getA (x := 3) (y := 40) C flX11_201 (aj_ce (i := v1.toNat) (aj_ca (e := 6) (n := 4) (j := 7) hq0 (by decide) rfl) rfl (by omega)) rfl dX11_write_56 ?_
        refine aj_iload_n C dX11_write_59 rfl ?_
        obtain ⟨r0, h⟩ := h
        refine aj_lald C (aj_ca (e := 3) (n := 40) (j := 0) (aj_ce (i := v1.toNat) (aj_ca (e := 6) (n := 4) (j := 7) hq0 (by decide) rfl) rfl (by omega)) (by decide) rfl) (by decide) r0 dX11_write_60 rfl ?_
        exact aj_lret C K dX11_write_61 ⟨_, rfl, h⟩
      · have h := h2 e
        refine aj_ldc2 (z := (-7)) C (wd1455) rfl dX11_write_37 ?_
        exact aj_lret C K dX11_write_40 ⟨_, rfl, h⟩
  · have h := h2 e
    refine aj_iload C dX11_write_12 rfl ?_
    obtain ⟨r0, h⟩ := h
    refine aj_i2l C dX11_write_14 r0 ?_
    exact aj_lret C K dX11_write_15 ⟨_, rfl, h⟩
theorem dX11_lists_0 : decode cX11_lists 0 = .ok (.aload_n 0, 1) := by decide +kernel
theorem dX11_lists_1 : decode cX11_lists 1 = .ok (.iload_n 1, 1) := by decide +kernel
theorem dX11_lists_2 : decode cX11_lists 2 = .ok (.invokevirtual 222, 3) := by decide +kernel
theorem dX11_lists_5 : decode cX11_lists 5 = .ok (.istore_n 2, 1) := by decide +kernel
theorem dX11_lists_6 : decode cX11_lists 6 = .ok (.iload_n 2, 1) := by decide +kernel
theorem dX11_lists_7 : decode cX11_lists 7 = .ok (.ifCond .eq 5, 3) := by decide +kernel
theorem dX11_lists_10 : decode cX11_lists 10 = .ok (.iload_n 2, 1) := by decide +kernel
theorem dX11_lists_11 : decode cX11_lists 11 = .ok (.ireturn, 1) := by decide +kernel
theorem dX11_lists_12 : decode cX11_lists 12 = .ok (.aload_n 0, 1) := by decide +kernel
theorem dX11_lists_13 : decode cX11_lists 13 = .ok (.invokevirtual 266, 3) := by decide +kernel
theorem dX11_lists_16 : decode cX11_lists 16 = .ok (.astore_n 3, 1) := by decide +kernel
theorem dX11_lists_17 : decode cX11_lists 17 = .ok (.aload_n 3, 1) := by decide +kernel
theorem dX11_lists_18 : decode cX11_lists 18 = .ok (.invokevirtual 270, 3) := by decide +kernel
theorem dX11_lists_21 : decode cX11_lists 21 = .ok (.aload_n 3, 1) := by decide +kernel
theorem dX11_lists_22 : decode cX11_lists 22 = .ok (.getfield 273, 3) := by decide +kernel
theorem dX11_lists_25 : decode cX11_lists 25 = .ok (.ifCond .ne 6, 3) := by decide +kernel
theorem dX11_lists_28 : decode cX11_lists 28 = .ok (.bipush (-5), 2) := by decide +kernel
theorem dX11_lists_30 : decode cX11_lists 30 = .ok (.ireturn, 1) := by decide +kernel
theorem dX11_lists_31 : decode cX11_lists 31 = .ok (.aload_n 0, 1) := by decide +kernel
theorem dX11_lists_32 : decode cX11_lists 32 = .ok (.getfield 51, 3) := by decide +kernel
theorem dX11_lists_35 : decode cX11_lists 35 = .ok (.iload_n 1, 1) := by decide +kernel
theorem dX11_lists_36 : decode cX11_lists 36 = .ok (.aaload, 1) := by decide +kernel
theorem dX11_lists_37 : decode cX11_lists 37 = .ok (.astore 4, 2) := by decide +kernel
theorem dX11_lists_39 : decode cX11_lists 39 = .ok (.aload 4, 2) := by decide +kernel
theorem dX11_lists_41 : decode cX11_lists 41 = .ok (.getfield 198, 3) := by decide +kernel
theorem dX11_lists_44 : decode cX11_lists 44 = .ok (.aload_n 3, 1) := by decide +kernel
theorem dX11_lists_45 : decode cX11_lists 45 = .ok (.getfield 273, 3) := by decide +kernel
theorem dX11_lists_48 : decode cX11_lists 48 = .ok (.invokestatic 391, 3) := by decide +kernel
theorem dX11_lists_51 : decode cX11_lists 51 = .ok (.istore 5, 2) := by decide +kernel
theorem dX11_lists_53 : decode cX11_lists 53 = .ok (.iconst 0, 1) := by decide +kernel
theorem dX11_lists_54 : decode cX11_lists 54 = .ok (.istore 6, 2) := by decide +kernel
theorem dX11_lists_56 : decode cX11_lists 56 = .ok (.iload 6, 2) := by decide +kernel
theorem dX11_lists_58 : decode cX11_lists 58 = .ok (.iload 5, 2) := by decide +kernel
theorem dX11_lists_60 : decode cX11_lists 60 = .ok (.if_icmp .ge 30, 3) := by decide +kernel
theorem dX11_lists_63 : decode cX11_lists 63 = .ok (.aload 4, 2) := by decide +kernel
theorem dX11_lists_65 : decode cX11_lists 65 = .ok (.getfield 201, 3) := by decide +kernel
theorem dX11_lists_68 : decode cX11_lists 68 = .ok (.iload 6, 2) := by decide +kernel
theorem dX11_lists_70 : decode cX11_lists 70 = .ok (.aload 4, 2) := by decide +kernel
theorem dX11_lists_72 : decode cX11_lists 72 = .ok (.aload_n 3, 1) := by decide +kernel
theorem dX11_lists_73 : decode cX11_lists 73 = .ok (.getfield 276, 3) := by decide +kernel
theorem dX11_lists_76 : decode cX11_lists 76 = .ok (.iload 6, 2) := by decide +kernel
theorem dX11_lists_78 : decode cX11_lists 78 = .ok (.iaload, 1) := by decide +kernel
theorem dX11_lists_79 : decode cX11_lists 79 = .ok (.i2l, 1) := by decide +kernel
theorem dX11_lists_80 : decode cX11_lists 80 = .ok (.invokevirtual 387, 3) := by decide +kernel
theorem dX11_lists_83 : decode cX11_lists 83 = .ok (.lastore, 1) := by decide +kernel
theorem dX11_lists_84 : decode cX11_lists 84 = .ok (.iinc 6 1, 3) := by decide +kernel
theorem dX11_lists_87 : decode cX11_lists 87 = .ok (.goto (-31), 3) := by decide +kernel
theorem dX11_lists_90 : decode cX11_lists 90 = .ok (.iload 5, 2) := by decide +kernel
theorem dX11_lists_92 : decode cX11_lists 92 = .ok (.ireturn, 1) := by decide +kernel
def hX11_lists_56 (f : Nat) (Φ : Int → aj_M → Prop) : Nat → List Nat → List Nat → Int → Int → aj_M → Prop
  | 0, _, _, _, _, _ => False
  | k + 1, q3, q4, v5, v6, m => rI v6 ∧ rI v5 ∧ (v5 ≤ v6 → Φ v5 m) ∧ (¬ (v5 ≤ v6) → (0 ≤ v6 ∧ v6 < 60) ∧ rI (m (2 :: q3) v6.toNat) ∧ wX10_trimmed f (fun z1 m1 => (0 ≤ v6 ∧ v6 < 40) ∧ ∀ m2, m2 = aj_u m1 (0 :: q4) v6.toNat z1 → hX11_lists_56 f Φ k q3 q4 v5 (v6 + 1) m2) q4 (m (2 :: q3) v6.toNat) m)
set_option maxHeartbeats 4000000 in
set_option maxRecDepth 100000 in
theorem tX11_lists_56 {X : aj_T} {n f : Nat} {Φ : Int → aj_M → Prop} (C : aj_Cx X cX11_lists RX11 7 (n + 6)) (K : aj_Rt X (some .int) (fun r m => ∃ z, r = some (vI z) ∧ Φ z m)) : ∀ (k : Nat) (q3 : List Nat) (q4 : List Nat) (v5 : Int) (v6 : Int) (m : aj_M) (hq3 : (.inl (8, q3) : aj_R) ∈ aj_pls) (hq4 : (.inl (10, q4) : aj_R) ∈ aj_pls), hX11_lists_56 f Φ k q3 q4 v5 v6 m → aj_J X 56 [none, none, none, some (vO 8 q3), some (vO 10 q4), some (vI v5), some (vI v6)] [] m := by
  intro k
  induction k with
  | zero =>
    intro q3 q4 v5 v6 m _ _ h
    exact h.elim
  | succ k ih =>
    intro q3 q4 v5 v6 m hq3 hq4 h
    unfold hX11_lists_56 at h
    refine aj_iload C dX11_lists_56 rfl ?_
    refine aj_iload C dX11_lists_58 rfl ?_
    obtain ⟨r0, r1, h1, h2⟩ := h
    refine aj_icmp_ge (tgt := 90) C dX11_lists_60 (by decide) r0 r1 (fun e => ?_) (fun e => ?_)
    · have h := h1 e
      refine aj_iload C dX11_lists_90 rfl ?_
      exact aj_iret C K dX11_lists_92 ⟨_, rfl, h⟩
    · have h := h2 e
      refine aj_aload C dX11_lists_63 rfl ?_
      refine aj_getA (x := 3) (y := 40) C flX11_201 hq4 rfl dX11_lists_65 ?_
      refine aj_iload C dX11_lists_68 rfl ?_
      refine aj_aload C dX11_lists_70 rfl ?_
      refine aj_aload_n C dX11_lists_72 rfl ?_
      refine aj_getA (x := 0) (y := 60) C flX11_276 hq3 rfl dX11_lists_73 ?_
      refine aj_iload C dX11_lists_76 rfl ?_
      obtain ⟨r0, h⟩ := h
      refine aj_iald C (aj_ca (e := 0) (n := 60) (j := 2) hq3 (by decide) rfl) (by decide) r0 dX11_lists_78 rfl ?_
      obtain ⟨r0, h⟩ := h
      refine aj_i2l C dX11_lists_79 r0 ?_
      refine aj_callV (rest := [vI v6, vA 3 40 (0 :: q4)]) C mvX11_387 (sX10_trimmed hq4 h) hq4 (aj_np 1 (by decide +kernel) rfl) (Nat.le_of_ble_eq_true rfl) rfl dX11_lists_80 (fun r m1 h => ?_)
      obtain ⟨z1, rfl, h⟩ := h
      obtain ⟨r0, h⟩ := h
      refine aj_last C (aj_ca (e := 3) (n := 40) (j := 0) hq4 (by decide) rfl) (by decide) r0 dX11_lists_83 ?_
      refine aj_nm (fun m2 e1 => ?_)
      have h := h m2 e1
      refine aj_iinc (lv' := [none, none, none, some (vO 8 q3), some (vO 10 q4), some (vI v5), some (vI (v6 + 1))]) C dX11_lists_84 rfl (by decide) rfl ?_
      refine aj_goto (tgt := 56) C dX11_lists_87 (by decide) ?_
      exact ih q3 q4 v5 (v6 + 1) _ hq3 hq4 h
def wX11_lists (f : Nat) (Φ : Int → aj_M → Prop) (q0 : List Nat) (v1 : Int) (m : aj_M) : Prop := wX11_trayCode f (fun z1 m1 => rI z1 ∧ (z1 = 0 → wX11_currentRings f (fun z2 m2 => wX8_findFirst f (fun m3 => rI (m3 z2 1) ∧ (¬ (m3 z2 1) = 0 → (0 ≤ v1 ∧ v1 < 4) ∧ rI (m3 (v1.toNat :: (7 :: q0)) 2) ∧ rI (m3 z2 1) ∧ hX11_lists_56 f Φ f z2 (v1.toNat :: (7 :: q0)) (min (m3 (v1.toNat :: (7 :: q0)) 2) (m3 z2 1)) 0 m3) ∧ ((m3 z2 1) = 0 → Φ (-5) m3)) z2 m2) q0 m1) ∧ (¬ (z1 = 0) → Φ z1 m1)) q0 v1 m
set_option maxHeartbeats 4000000 in
set_option maxRecDepth 100000 in
theorem sX11_lists {n f : Nat} {Φ : Int → aj_M → Prop} {q0 : List Nat} {v1 : Int} {m : aj_M} (hq0 : (.inl (11, q0) : aj_R) ∈ aj_pls) (h : wX11_lists f Φ q0 v1 m) : aj_Ct (n + 6) yX11_lists cX11_lists 7 (some .int) [vO 11 q0, vI v1] m (fun r m => ∃ z, r = some (vI z) ∧ Φ z m) := by
  refine aj_met (lv := [some (vO 11 q0), some (vI v1), none, none, none, none, none]) (by decide +kernel) rfl (Nat.le_of_ble_eq_true rfl) (fun X C K => ?_)
  unfold wX11_lists at h
  refine aj_aload_n C dX11_lists_0 rfl ?_
  refine aj_iload_n C dX11_lists_1 rfl ?_
  refine aj_callV (rest := []) C mvX11_222 (sX11_trayCode hq0 h) hq0 (aj_np 1 (by decide +kernel) rfl) (Nat.le_of_ble_eq_true rfl) rfl dX11_lists_2 (fun r m1 h => ?_)
  obtain ⟨z1, rfl, h⟩ := h
  refine aj_istore_n (lv' := [some (vO 11 q0), some (vI v1), some (vI z1), none, none, none, none]) C dX11_lists_5 (by decide) rfl ?_
  refine aj_iload_n C dX11_lists_6 rfl ?_
  obtain ⟨r0, h1, h2⟩ := h
  refine aj_if_eq (tgt := 12) C dX11_lists_7 (by decide) r0 (fun e => ?_) (fun e => ?_)
  · have h := h1 e
    refine aj_aload_n C dX11_lists_12 rfl ?_
    refine aj_callV (rest := []) C mvX11_266 (sX11_currentRings hq0 h) hq0 (aj_np 0 (by decide +kernel) rfl) (Nat.le_of_ble_eq_true rfl) rfl dX11_lists_13 (fun r m2 h => ?_)
    obtain ⟨z2, rfl, hz2, h⟩ := h
    refine aj_astore_n (lv' := [some (vO 11 q0), some (vI v1), some (vI z1), some (vO 8 z2), none, none, none]) C dX11_lists_16 (by decide) rfl ?_
    refine aj_aload_n C dX11_lists_17 rfl ?_
    refine aj_callV (rest := []) C mvX11_270 (sX8_findFirst hz2 h) hz2 (aj_np 0 (by decide +kernel) rfl) (Nat.le_of_ble_eq_true rfl) rfl dX11_lists_18 (fun r m3 h => ?_)
    obtain ⟨rfl, h⟩ := h
    refine aj_aload_n C dX11_lists_21 rfl ?_
    refine aj_getI C flX11_273 hz2 (by decide) dX11_lists_22 rfl ?_
    obtain ⟨r0, h1, h2⟩ := h
    refine aj_if_ne (tgt := 31) C dX11_lists_25 (by decide) r0 (fun e => ?_) (fun e => ?_)
    · have h := h1 e
      refine aj_aload_n C dX11_lists_31 rfl ?_
      refine aj_getA (x := 6) (y := 4) C flX11_51 hq0 rfl dX11_lists_32 ?_
      refine aj_iload_n C dX11_lists_35 rfl ?_
      obtain ⟨r0_1, h⟩ := h
      refine aj_aald (c1 := 10) C (aj_ca (e := 6) (n := 4) (j := 7) hq0 (by decide) rfl) (by decide) (fun _ => rfl) (by decide) r0_1 dX11_lists_36 ?_
      refine aj_astore (lv' := [some (vO 11 q0), some (vI v1), some (vI z1), some (vO 8 z2), some (vO 10 (v1.toNat :: (7 :: q0))), none, none]) C dX11_lists_37 (by decide) rfl ?_
      refine aj_aload C dX11_lists_39 rfl ?_
      refine aj_getI C flX11_198 (aj_ce (i := v1.toNat) (aj_ca (e := 6) (n := 4) (j := 7) hq0 (by decide) rfl) rfl (by omega)) (by decide) dX11_lists_41 rfl ?_
      refine aj_aload_n C dX11_lists_44 rfl ?_
      refine aj_getI C flX11_273 hz2 (by decide) dX11_lists_45 rfl ?_
      obtain ⟨r0, r1, h⟩ := h
      refine aj_mmin C msX11_391 (Nat.le_of_ble_eq_true rfl) r0 r1 dX11_lists_48 ?_
      refine aj_istore (lv' := [some (vO 11 q0), some (vI v1), some (vI z1), some (vO 8 z2), some (vO 10 (v1.toNat :: (7 :: q0))), some (vI (min (m3 (v1.toNat :: (7 :: q0)) 2) (m3 z2 1))), none]) C dX11_lists_51 (by decide) rfl ?_
      refine aj_iconst C dX11_lists_53 ?_
      refine aj_istore (lv' := [some (vO 11 q0), some (vI v1), some (vI z1), some (vO 8 z2), some (vO 10 (v1.toNat :: (7 :: q0))), some (vI (min (m3 (v1.toNat :: (7 :: q0)) 2) (m3 z2 1))), some (vI 0)]) C dX11_lists_54 (by decide) rfl ?_
      refine aj_wk (lv' := [none, none, none, some (vO 8 z2), some (vO 10 (v1.toNat :: (7 :: q0))), some (vI (min (m3 (v1.toNat :: (7 :: q0)) 2) (m3 z2 1))), some (vI 0)]) (⟨rfl, ⟨rfl, ⟨rfl, ⟨rfl, trivial⟩⟩⟩⟩) ?_
      exact tX11_lists_56 C K f z2 (v1.toNat :: (7 :: q0)) (min (m3 (v1.toNat :: (7 :: q0)) 2) (m3 z2 1)) 0 _ hz2 (aj_ce (i := v1.toNat) (aj_ca (e := 6) (n := 4) (j := 7) hq0 (by decide) rfl) rfl (by omega)) h
    · have h := h2 e
      refine aj_bipush C dX11_lists_28 (by decide) ?_
      exact aj_iret C K dX11_lists_30 ⟨_, rfl, h⟩
  · have h := h2 e
    refine aj_iload_n C dX11_lists_10 rfl ?_
    exact aj_iret C K dX11_lists_11 ⟨_, rfl, h⟩
theorem dX11_image_0 : decode cX11_image 0 = .ok (.iload_n 1, 1) := by decide +kernel
theorem dX11_image_1 : decode cX11_image 1 = .ok (.ifCond .lt 8, 3) := by decide +kernel
theorem dX11_image_4 : decode cX11_image 4 = .ok (.iload_n 1, 1) := by decide +kernel
theorem dX11_image_5 : decode cX11_image 5 = .ok (.iconst 2, 1) := by decide +kernel
theorem dX11_image_6 : decode cX11_image 6 = .ok (.if_icmp .lt 6, 3) := by decide +kernel
theorem dX11_image_9 : decode cX11_image 9 = .ok (.bipush (-2), 2) := by decide +kernel
theorem dX11_image_11 : decode cX11_image 11 = .ok (.ireturn, 1) := by decide +kernel
theorem dX11_image_12 : decode cX11_image 12 = .ok (.aload_n 0, 1) := by decide +kernel
theorem dX11_image_13 : decode cX11_image 13 = .ok (.getfield 45, 3) := by decide +kernel
theorem dX11_image_16 : decode cX11_image 16 = .ok (.iload_n 1, 1) := by decide +kernel
theorem dX11_image_17 : decode cX11_image 17 = .ok (.aaload, 1) := by decide +kernel
theorem dX11_image_18 : decode cX11_image 18 = .ok (.aload_n 0, 1) := by decide +kernel
theorem dX11_image_19 : decode cX11_image 19 = .ok (.getfield 19, 3) := by decide +kernel
theorem dX11_image_22 : decode cX11_image 22 = .ok (.aload_n 0, 1) := by decide +kernel
theorem dX11_image_23 : decode cX11_image 23 = .ok (.getfield 26, 3) := by decide +kernel
theorem dX11_image_26 : decode cX11_image 26 = .ok (.invokevirtual 396, 3) := by decide +kernel
theorem dX11_image_29 : decode cX11_image 29 = .ok (.iconst 0, 1) := by decide +kernel
theorem dX11_image_30 : decode cX11_image 30 = .ok (.ireturn, 1) := by decide +kernel
def wX11_image (f : Nat) (Φ : Int → aj_M → Prop) (q0 : List Nat) (v1 : Int) (m : aj_M) : Prop := rI v1 ∧ (v1 < 0 → Φ (-2) m) ∧ (¬ (v1 < 0) → rI v1 ∧ (v1 < 2 → (0 ≤ v1 ∧ v1 < 2) ∧ wX3_take f (fun m1 => Φ 0 m1) (v1.toNat :: (6 :: q0)) (1 :: q0) (2 :: q0) m) ∧ (¬ (v1 < 2) → Φ (-2) m))
set_option maxHeartbeats 4000000 in
set_option maxRecDepth 100000 in
theorem sX11_image {n f : Nat} {Φ : Int → aj_M → Prop} {q0 : List Nat} {v1 : Int} {m : aj_M} (hq0 : (.inl (11, q0) : aj_R) ∈ aj_pls) (h : wX11_image f Φ q0 v1 m) : aj_Ct (n + 4) yX11_image cX11_image 2 (some .int) [vO 11 q0, vI v1] m (fun r m => ∃ z, r = some (vI z) ∧ Φ z m) := by
  refine aj_met (lv := [some (vO 11 q0), some (vI v1)]) (by decide +kernel) rfl (Nat.le_of_ble_eq_true rfl) (fun X C K => ?_)
  unfold wX11_image at h
  refine aj_iload_n C dX11_image_0 rfl ?_
  obtain ⟨r0, h1, h2⟩ := h
  refine aj_if_lt (tgt := 9) C dX11_image_1 (by decide) r0 (fun e => ?_) (fun e => ?_)
  · have h := h1 e
    refine aj_bipush C dX11_image_9 (by decide) ?_
    exact aj_iret C K dX11_image_11 ⟨_, rfl, h⟩
  · have h := h2 e
    refine aj_iload_n C dX11_image_4 rfl ?_
    refine aj_iconst C dX11_image_5 ?_
    obtain ⟨r0, h1, h2⟩ := h
    refine aj_icmp_lt (tgt := 12) C dX11_image_6 (by decide) r0 (by decide) (fun e => ?_) (fun e => ?_)
    · have h := h1 e
      refine aj_aload_n C dX11_image_12 rfl ?_
      refine aj_getA (x := 5) (y := 2) C flX11_45 hq0 rfl dX11_image_13 ?_
      refine aj_iload_n C dX11_image_16 rfl ?_
      obtain ⟨r0_1, h⟩ := h
      refine aj_aald (c1 := 3) C (aj_ca (e := 5) (n := 2) (j := 6) hq0 (by decide) rfl) (by decide) (fun _ => rfl) (by decide) r0_1 dX11_image_17 ?_
      refine aj_aload_n C dX11_image_18 rfl ?_
      refine aj_getO (x := 6) (y := 0) C flX11_19 hq0 rfl dX11_image_19 ?_
      refine aj_aload_n C dX11_image_22 rfl ?_
      refine aj_getO (x := 9) (y := 0) C flX11_26 hq0 rfl dX11_image_23 ?_
      refine aj_callV (rest := []) C mvX11_396 (sX3_take (aj_ce (i := v1.toNat) (aj_ca (e := 5) (n := 2) (j := 6) hq0 (by decide) rfl) rfl (by omega)) (aj_cf (x := 6) (y := 0) (j := 1) hq0 (by decide) rfl) (aj_cf (x := 9) (y := 0) (j := 2) hq0 (by decide) rfl) h) (aj_ce (i := v1.toNat) (aj_ca (e := 5) (n := 2) (j := 6) hq0 (by decide) rfl) rfl (by omega)) (aj_np 2 (by decide +kernel) rfl) (Nat.le_of_ble_eq_true rfl) rfl dX11_image_26 (fun r m1 h => ?_)
      obtain ⟨rfl, h⟩ := h
      refine aj_iconst C dX11_image_29 ?_
      exact aj_iret C K dX11_image_30 ⟨_, rfl, h⟩
    · have h := h2 e
      refine aj_bipush C dX11_image_9 (by decide) ?_
      exact aj_iret C K dX11_image_11 ⟨_, rfl, h⟩
theorem dX11_restore_0 : decode cX11_restore 0 = .ok (.iload_n 1, 1) := by decide +kernel
theorem dX11_restore_1 : decode cX11_restore 1 = .ok (.ifCond .lt 8, 3) := by decide +kernel
theorem dX11_restore_4 : decode cX11_restore 4 = .ok (.iload_n 1, 1) := by decide +kernel
theorem dX11_restore_5 : decode cX11_restore 5 = .ok (.iconst 2, 1) := by decide +kernel
theorem dX11_restore_6 : decode cX11_restore 6 = .ok (.if_icmp .lt 6, 3) := by decide +kernel
theorem dX11_restore_9 : decode cX11_restore 9 = .ok (.bipush (-2), 2) := by decide +kernel
theorem dX11_restore_11 : decode cX11_restore 11 = .ok (.ireturn, 1) := by decide +kernel
theorem dX11_restore_12 : decode cX11_restore 12 = .ok (.aload_n 0, 1) := by decide +kernel
theorem dX11_restore_13 : decode cX11_restore 13 = .ok (.getfield 45, 3) := by decide +kernel
theorem dX11_restore_16 : decode cX11_restore 16 = .ok (.iload_n 1, 1) := by decide +kernel
theorem dX11_restore_17 : decode cX11_restore 17 = .ok (.aaload, 1) := by decide +kernel
theorem dX11_restore_18 : decode cX11_restore 18 = .ok (.getfield 399, 3) := by decide +kernel
theorem dX11_restore_21 : decode cX11_restore 21 = .ok (.ifCond .ne 6, 3) := by decide +kernel
theorem dX11_restore_24 : decode cX11_restore 24 = .ok (.bipush (-5), 2) := by decide +kernel
theorem dX11_restore_26 : decode cX11_restore 26 = .ok (.ireturn, 1) := by decide +kernel
theorem dX11_restore_27 : decode cX11_restore 27 = .ok (.aload_n 0, 1) := by decide +kernel
theorem dX11_restore_28 : decode cX11_restore 28 = .ok (.getfield 45, 3) := by decide +kernel
theorem dX11_restore_31 : decode cX11_restore 31 = .ok (.iload_n 1, 1) := by decide +kernel
theorem dX11_restore_32 : decode cX11_restore 32 = .ok (.aaload, 1) := by decide +kernel
theorem dX11_restore_33 : decode cX11_restore 33 = .ok (.aload_n 0, 1) := by decide +kernel
theorem dX11_restore_34 : decode cX11_restore 34 = .ok (.getfield 19, 3) := by decide +kernel
theorem dX11_restore_37 : decode cX11_restore 37 = .ok (.aload_n 0, 1) := by decide +kernel
theorem dX11_restore_38 : decode cX11_restore 38 = .ok (.getfield 26, 3) := by decide +kernel
theorem dX11_restore_41 : decode cX11_restore 41 = .ok (.invokevirtual 402, 3) := by decide +kernel
theorem dX11_restore_44 : decode cX11_restore 44 = .ok (.aload_n 0, 1) := by decide +kernel
theorem dX11_restore_45 : decode cX11_restore 45 = .ok (.getfield 39, 3) := by decide +kernel
theorem dX11_restore_48 : decode cX11_restore 48 = .ok (.invokevirtual 109, 3) := by decide +kernel
theorem dX11_restore_51 : decode cX11_restore 51 = .ok (.aload_n 0, 1) := by decide +kernel
theorem dX11_restore_52 : decode cX11_restore 52 = .ok (.iconst 1, 1) := by decide +kernel
theorem dX11_restore_53 : decode cX11_restore 53 = .ok (.putfield 80, 3) := by decide +kernel
theorem dX11_restore_56 : decode cX11_restore 56 = .ok (.iconst 0, 1) := by decide +kernel
theorem dX11_restore_57 : decode cX11_restore 57 = .ok (.ireturn, 1) := by decide +kernel
def wX11_restore (f : Nat) (Φ : Int → aj_M → Prop) (q0 : List Nat) (v1 : Int) (m : aj_M) : Prop := rI v1 ∧ (v1 < 0 → Φ (-2) m) ∧ (¬ (v1 < 0) → rI v1 ∧ (v1 < 2 → (0 ≤ v1 ∧ v1 < 2) ∧ rI (m (v1.toNat :: (6 :: q0)) 2) ∧ (¬ (m (v1.toNat :: (6 :: q0)) 2) = 0 → (0 ≤ v1 ∧ v1 < 2) ∧ wX3_giveBack f (fun m1 => wX1_forget f (fun m2 => ∀ m3, m3 = aj_u m2 q0 12 1 → Φ 0 m3) (5 :: q0) m1) (v1.toNat :: (6 :: q0)) (1 :: q0) (2 :: q0) m) ∧ ((m (v1.toNat :: (6 :: q0)) 2) = 0 → Φ (-5) m)) ∧ (¬ (v1 < 2) → Φ (-2) m))
set_option maxHeartbeats 4000000 in
set_option maxRecDepth 100000 in
theorem sX11_restore {n f : Nat} {Φ : Int → aj_M → Prop} {q0 : List Nat} {v1 : Int} {m : aj_M} (hq0 : (.inl (11, q0) : aj_R) ∈ aj_pls) (h : wX11_restore f Φ q0 v1 m) : aj_Ct (n + 4) yX11_restore cX11_restore 2 (some .int) [vO 11 q0, vI v1] m (fun r m => ∃ z, r = some (vI z) ∧ Φ z m) := by
  refine aj_met (lv := [some (vO 11 q0), some (vI v1)]) (by decide +kernel) rfl (Nat.le_of_ble_eq_true rfl) (fun X C K => ?_)
  unfold wX11_restore at h
  refine aj_iload_n C dX11_restore_0 rfl ?_
  obtain ⟨r0, h1, h2⟩ := h
  refine aj_if_lt (tgt := 9) C dX11_restore_1 (by decide) r0 (fun e => ?_) (fun e => ?_)
  · have h := h1 e
    refine aj_bipush C dX11_restore_9 (by decide) ?_
    exact aj_iret C K dX11_restore_11 ⟨_, rfl, h⟩
  · have h := h2 e
    refine aj_iload_n C dX11_restore_4 rfl ?_
    refine aj_iconst C dX11_restore_5 ?_
    obtain ⟨r0, h1, h2⟩ := h
    refine aj_icmp_lt (tgt := 12) C dX11_restore_6 (by decide) r0 (by decide) (fun e => ?_) (fun e => ?_)
    · have h := h1 e
      refine aj_aload_n C dX11_restore_12 rfl ?_
      refine aj_getA (x := 5) (y := 2) C flX11_45 hq0 rfl dX11_restore_13 ?_
      refine aj_iload_n C dX11_restore_16 rfl ?_
      obtain ⟨r0_1, h⟩ := h
      refine aj_aald (c1 := 3) C (aj_ca (e := 5) (n := 2) (j := 6) hq0 (by decide) rfl) (by decide) (fun _ => rfl) (by decide) r0_1 dX11_restore_17 ?_
      refine aj_getI C flX11_399 (aj_ce (i := v1.toNat) (aj_ca (e := 5) (n := 2) (j := 6) hq0 (by decide) rfl) rfl (by omega)) (by decide) dX11_restore_18 rfl ?_
      obtain ⟨r0, h1, h2⟩ := h
      refine aj_if_ne (tgt := 27) C dX11_restore_21 (by decide) r0 (fun e => ?_) (fun e => ?_)
      · have h := h1 e
        refine aj_aload_n C dX11_restore_27 rfl ?_
        refine aj_getA (x := 5) (y := 2) C flX11_45 hq0 rfl dX11_restore_28 ?_
        refine aj_iload_n C dX11_restore_31 rfl ?_
        obtain ⟨r0_2, h⟩ := h
        refine aj_aald (c1 := 3) C (aj_ca (e := 5) (n := 2) (j := 6) hq0 (by decide) rfl) (by decide) (fun _ => rfl) (by decide) r0_2 dX11_restore_32 ?_
        refine aj_aload_n C dX11_restore_33 rfl ?_
        refine aj_getO (x := 6) (y := 0) C flX11_19 hq0 rfl dX11_restore_34 ?_
        refine aj_aload_n C dX11_restore_37 rfl ?_
        refine aj_getO (x := 9) (y := 0) C flX11_26 hq0 rfl dX11_restore_38 ?_
        refine aj_callV (rest := []) C mvX11_402 (sX3_giveBack (aj_ce (i := v1.toNat) (aj_ca (e := 5) (n := 2) (j := 6) hq0 (by decide) rfl) rfl (by omega)) (aj_cf (x := 6) (y := 0) (j := 1) hq0 (by decide) rfl) (aj_cf (x := 9) (y := 0) (j := 2) hq0 (by decide) rfl) h) (aj_ce (i := v1.toNat) (aj_ca (e := 5) (n := 2) (j := 6) hq0 (by decide) rfl) rfl (by omega)) (aj_np 2 (by decide +kernel) rfl) (Nat.le_of_ble_eq_true rfl) rfl dX11_restore_41 (fun r m1 h => ?_)
        obtain ⟨rfl, h⟩ := h
        refine aj_aload_n C dX11_restore_44 rfl ?_
        refine aj_getO (x := 1) (y := 0) C flX11_39 hq0 rfl dX11_restore_45 ?_
        refine aj_callV (rest := []) C mvX11_109 (sX1_forget (aj_cf (x := 1) (y := 0) (j := 5) hq0 (by decide) rfl) h) (aj_cf (x := 1) (y := 0) (j := 5) hq0 (by decide) rfl) (aj_np 0 (by decide +kernel) rfl) (Nat.le_of_ble_eq_true rfl) rfl dX11_restore_48 (fun r m2 h => ?_)
        obtain ⟨rfl, h⟩ := h
        refine aj_aload_n C dX11_restore_51 rfl ?_
        refine aj_iconst C dX11_restore_52 ?_
        refine aj_putZ C fpX11_80 hq0 (Or.inr rfl) rfl dX11_restore_53 ?_
        refine aj_nm (fun m3 e1 => ?_)
        have h := h m3 e1
        refine aj_iconst C dX11_restore_56 ?_
        exact aj_iret C K dX11_restore_57 ⟨_, rfl, h⟩
      · have h := h2 e
        refine aj_bipush C dX11_restore_24 (by decide) ?_
        exact aj_iret C K dX11_restore_26 ⟨_, rfl, h⟩
    · have h := h2 e
      refine aj_bipush C dX11_restore_9 (by decide) ?_
      exact aj_iret C K dX11_restore_11 ⟨_, rfl, h⟩
theorem dX11_count_0 : decode cX11_count 0 = .ok (.iload_n 1, 1) := by decide +kernel
theorem dX11_count_1 : decode cX11_count 1 = .ok (.tableswitch 149 0 9 #[55, 63, 71, 82, 90, 109, 117, 125, 133, 141], 55) := by decide +kernel
theorem dX11_count_56 : decode cX11_count 56 = .ok (.aload_n 0, 1) := by decide +kernel
theorem dX11_count_57 : decode cX11_count 57 = .ok (.getfield 19, 3) := by decide +kernel
theorem dX11_count_60 : decode cX11_count 60 = .ok (.getfield 405, 3) := by decide +kernel
theorem dX11_count_63 : decode cX11_count 63 = .ok (.ireturn, 1) := by decide +kernel
theorem dX11_count_64 : decode cX11_count 64 = .ok (.aload_n 0, 1) := by decide +kernel
theorem dX11_count_65 : decode cX11_count 65 = .ok (.getfield 19, 3) := by decide +kernel
theorem dX11_count_68 : decode cX11_count 68 = .ok (.getfield 368, 3) := by decide +kernel
theorem dX11_count_71 : decode cX11_count 71 = .ok (.ireturn, 1) := by decide +kernel
theorem dX11_count_72 : decode cX11_count 72 = .ok (.aload_n 0, 1) := by decide +kernel
theorem dX11_count_73 : decode cX11_count 73 = .ok (.getfield 19, 3) := by decide +kernel
theorem dX11_count_76 : decode cX11_count 76 = .ok (.getfield 136, 3) := by decide +kernel
theorem dX11_count_79 : decode cX11_count 79 = .ok (.getfield 327, 3) := by decide +kernel
theorem dX11_count_82 : decode cX11_count 82 = .ok (.ireturn, 1) := by decide +kernel
theorem dX11_count_83 : decode cX11_count 83 = .ok (.aload_n 0, 1) := by decide +kernel
theorem dX11_count_84 : decode cX11_count 84 = .ok (.getfield 26, 3) := by decide +kernel
theorem dX11_count_87 : decode cX11_count 87 = .ok (.getfield 177, 3) := by decide +kernel
theorem dX11_count_90 : decode cX11_count 90 = .ok (.ireturn, 1) := by decide +kernel
theorem dX11_count_91 : decode cX11_count 91 = .ok (.aload_n 0, 1) := by decide +kernel
theorem dX11_count_92 : decode cX11_count 92 = .ok (.getfield 19, 3) := by decide +kernel
theorem dX11_count_95 : decode cX11_count 95 = .ok (.getfield 405, 3) := by decide +kernel
theorem dX11_count_98 : decode cX11_count 98 = .ok (.aload_n 0, 1) := by decide +kernel
theorem dX11_count_99 : decode cX11_count 99 = .ok (.getfield 19, 3) := by decide +kernel
theorem dX11_count_102 : decode cX11_count 102 = .ok (.getfield 136, 3) := by decide +kernel
theorem dX11_count_105 : decode cX11_count 105 = .ok (.getfield 327, 3) := by decide +kernel
theorem dX11_count_108 : decode cX11_count 108 = .ok (.imul, 1) := by decide +kernel
theorem dX11_count_109 : decode cX11_count 109 = .ok (.ireturn, 1) := by decide +kernel
theorem dX11_count_110 : decode cX11_count 110 = .ok (.aload_n 0, 1) := by decide +kernel
theorem dX11_count_111 : decode cX11_count 111 = .ok (.invokevirtual 231, 3) := by decide +kernel
theorem dX11_count_114 : decode cX11_count 114 = .ok (.getfield 219, 3) := by decide +kernel
theorem dX11_count_117 : decode cX11_count 117 = .ok (.ireturn, 1) := by decide +kernel
theorem dX11_count_118 : decode cX11_count 118 = .ok (.aload_n 0, 1) := by decide +kernel
theorem dX11_count_119 : decode cX11_count 119 = .ok (.getfield 26, 3) := by decide +kernel
theorem dX11_count_122 : decode cX11_count 122 = .ok (.getfield 408, 3) := by decide +kernel
theorem dX11_count_125 : decode cX11_count 125 = .ok (.ireturn, 1) := by decide +kernel
theorem dX11_count_126 : decode cX11_count 126 = .ok (.aload_n 0, 1) := by decide +kernel
theorem dX11_count_127 : decode cX11_count 127 = .ok (.getfield 39, 3) := by decide +kernel
theorem dX11_count_130 : decode cX11_count 130 = .ok (.getfield 180, 3) := by decide +kernel
theorem dX11_count_133 : decode cX11_count 133 = .ok (.ireturn, 1) := by decide +kernel
theorem dX11_count_134 : decode cX11_count 134 = .ok (.aload_n 0, 1) := by decide +kernel
theorem dX11_count_135 : decode cX11_count 135 = .ok (.getfield 12, 3) := by decide +kernel
theorem dX11_count_138 : decode cX11_count 138 = .ok (.getfield 86, 3) := by decide +kernel
theorem dX11_count_141 : decode cX11_count 141 = .ok (.ireturn, 1) := by decide +kernel
theorem dX11_count_142 : decode cX11_count 142 = .ok (.aload_n 0, 1) := by decide +kernel
theorem dX11_count_143 : decode cX11_count 143 = .ok (.getfield 19, 3) := by decide +kernel
theorem dX11_count_146 : decode cX11_count 146 = .ok (.getfield 112, 3) := by decide +kernel
theorem dX11_count_149 : decode cX11_count 149 = .ok (.ireturn, 1) := by decide +kernel
theorem dX11_count_150 : decode cX11_count 150 = .ok (.iconst (-1), 1) := by decide +kernel
theorem dX11_count_151 : decode cX11_count 151 = .ok (.ireturn, 1) := by decide +kernel
def wX11_count (f : Nat) (Φ : Int → aj_M → Prop) (q0 : List Nat) (v1 : Int) (m : aj_M) : Prop := rI v1 ∧ (v1 < 0 ∨ 9 < v1 → Φ (-1) m) ∧ (v1 = 0 → Φ (m (1 :: q0) 3) m) ∧ (v1 = 1 → Φ (m (1 :: q0) 4) m) ∧ (v1 = 2 → Φ (m (0 :: (1 :: q0)) 0) m) ∧ (v1 = 3 → Φ (m (2 :: q0) 2) m) ∧ (v1 = 4 → Φ ((m (1 :: q0) 3) * (m (0 :: (1 :: q0)) 0)) m) ∧ (v1 = 5 → wX11_current f (fun z1 m1 => Φ (m1 z1 1) m1) q0 m) ∧ (v1 = 6 → Φ (m (2 :: q0) 1) m) ∧ (v1 = 7 → Φ (m (5 :: q0) 2) m) ∧ (v1 = 8 → Φ (m (0 :: q0) 1) m) ∧ (v1 = 9 → Φ (m (1 :: q0) 5) m)
set_option maxHeartbeats 4000000 in
set_option maxRecDepth 100000 in
theorem sX11_count {n f : Nat} {Φ : Int → aj_M → Prop} {q0 : List Nat} {v1 : Int} {m : aj_M} (hq0 : (.inl (11, q0) : aj_R) ∈ aj_pls) (h : wX11_count f Φ q0 v1 m) : aj_Ct (n + 5) yX11_count cX11_count 2 (some .int) [vO 11 q0, vI v1] m (fun r m => ∃ z, r = some (vI z) ∧ Φ z m) := by
  refine aj_met (lv := [some (vO 11 q0), some (vI v1)]) (by decide +kernel) rfl (Nat.le_of_ble_eq_true rfl) (fun X C K => ?_)
  unfold wX11_count at h
  refine aj_iload_n C dX11_count_0 rfl ?_
  obtain ⟨r0, hd, hc0, hc1, hc2, hc3, hc4, hc5, hc6, hc7, hc8, hc9⟩ := h
  rcases (by omega : (v1 < 0 ∨ 9 < v1) ∨ v1 = 0 ∨ v1 = 1 ∨ v1 = 2 ∨ v1 = 3 ∨ v1 = 4 ∨ v1 = 5 ∨ v1 = 6 ∨ v1 = 7 ∨ v1 = 8 ∨ v1 = 9) with e | e | e | e | e | e | e | e | e | e | e
  · have h := hd e
    refine aj_tout (tgt := 150) C dX11_count_1 r0 e (by decide) ?_
    refine aj_iconst C dX11_count_150 ?_
    exact aj_iret C K dX11_count_151 ⟨_, rfl, h⟩
  · have h := hc0 e
    refine aj_tin (tgt := 56) (off := 55) C dX11_count_1 r0 (by omega) (by omega) (by rw [e]; rfl) (by decide) ?_
    refine aj_aload_n C dX11_count_56 rfl ?_
    refine aj_getO (x := 6) (y := 0) C flX11_19 hq0 rfl dX11_count_57 ?_
    refine aj_getI C flX11_405 (aj_cf (x := 6) (y := 0) (j := 1) hq0 (by decide) rfl) (by decide) dX11_count_60 rfl ?_
    exact aj_iret C K dX11_count_63 ⟨_, rfl, h⟩
  · have h := hc1 e
    refine aj_tin (tgt := 64) (off := 63) C dX11_count_1 r0 (by omega) (by omega) (by rw [e]; rfl) (by decide) ?_
    refine aj_aload_n C dX11_count_64 rfl ?_
    refine aj_getO (x := 6) (y := 0) C flX11_19 hq0 rfl dX11_count_65 ?_
    refine aj_getI C flX11_368 (aj_cf (x := 6) (y := 0) (j := 1) hq0 (by decide) rfl) (by decide) dX11_count_68 rfl ?_
    exact aj_iret C K dX11_count_71 ⟨_, rfl, h⟩
  · have h := hc2 e
    refine aj_tin (tgt := 72) (off := 71) C dX11_count_1 r0 (by omega) (by omega) (by rw [e]; rfl) (by decide) ?_
    refine aj_aload_n C dX11_count_72 rfl ?_
    refine aj_getO (x := 6) (y := 0) C flX11_19 hq0 rfl dX11_count_73 ?_
    refine aj_getO (x := 0) (y := 0) C flX11_136 (aj_cf (x := 6) (y := 0) (j := 1) hq0 (by decide) rfl) rfl dX11_count_76 ?_
    refine aj_getI C flX11_327 (aj_cf (x := 0) (y := 0) (j := 0) (aj_cf (x := 6) (y := 0) (j := 1) hq0 (by decide) rfl) (by decide) rfl) (by decide) dX11_count_79 rfl ?_
    exact aj_iret C K dX11_count_82 ⟨_, rfl, h⟩
  · have h := hc3 e
    refine aj_tin (tgt := 83) (off := 82) C dX11_count_1 r0 (by omega) (by omega) (by rw [e]; rfl) (by decide) ?_
    refine aj_aload_n C dX11_count_83 rfl ?_
    refine aj_getO (x := 9) (y := 0) C flX11_26 hq0 rfl dX11_count_84 ?_
    refine aj_getI C flX11_177 (aj_cf (x := 9) (y := 0) (j := 2) hq0 (by decide) rfl) (by decide) dX11_count_87 rfl ?_
    exact aj_iret C K dX11_count_90 ⟨_, rfl, h⟩
  · have h := hc4 e
    refine aj_tin (tgt := 91) (off := 90) C dX11_count_1 r0 (by omega) (by omega) (by rw [e]; rfl) (by decide) ?_
    refine aj_aload_n C dX11_count_91 rfl ?_
    refine aj_getO (x := 6) (y := 0) C flX11_19 hq0 rfl dX11_count_92 ?_
    refine aj_getI C flX11_405 (aj_cf (x := 6) (y := 0) (j := 1) hq0 (by decide) rfl) (by decide) dX11_count_95 rfl ?_
    refine aj_aload_n C dX11_count_98 rfl ?_
    refine aj_getO (x := 6) (y := 0) C flX11_19 hq0 rfl dX11_count_99 ?_
    refine aj_getO (x := 0) (y := 0) C flX11_136 (aj_cf (x := 6) (y := 0) (j := 1) hq0 (by decide) rfl) rfl dX11_count_102 ?_
    refine aj_getI C flX11_327 (aj_cf (x := 0) (y := 0) (j := 0) (aj_cf (x := 6) (y := 0) (j := 1) hq0 (by decide) rfl) (by decide) rfl) (by decide) dX11_count_105 rfl ?_
    refine aj_imul C dX11_count_108 ?_
    exact aj_iret C K dX11_count_109 ⟨_, rfl, h⟩
  · have h := hc5 e
    refine aj_tin (tgt := 110) (off := 109) C dX11_count_1 r0 (by omega) (by omega) (by rw [e]; rfl) (by decide) ?_
    refine aj_aload_n C dX11_count_110 rfl ?_
    refine aj_callV (rest := []) C mvX11_231 (sX11_current hq0 h) hq0 (aj_np 0 (by decide +kernel) rfl) (Nat.le_of_ble_eq_true rfl) rfl dX11_count_111 (fun r m1 h => ?_)
    obtain ⟨z1, rfl, hz1, h⟩ := h
    refine aj_getI C flX11_219 hz1 (by decide) dX11_count_114 rfl ?_
    exact aj_iret C K dX11_count_117 ⟨_, rfl, h⟩
  · have h := hc6 e
    refine aj_tin (tgt := 118) (off := 117) C dX11_count_1 r0 (by omega) (by omega) (by rw [e]; rfl) (by decide) ?_
    refine aj_aload_n C dX11_count_118 rfl ?_
    refine aj_getO (x := 9) (y := 0) C flX11_26 hq0 rfl dX11_count_119 ?_
    refine aj_getI C flX11_408 (aj_cf (x := 9) (y := 0) (j := 2) hq0 (by decide) rfl) (by decide) dX11_count_122 rfl ?_
    exact aj_iret C K dX11_count_125 ⟨_, rfl, h⟩
  · have h := hc7 e
    refine aj_tin (tgt := 126) (off := 125) C dX11_count_1 r0 (by omega) (by omega) (by rw [e]; rfl) (by decide) ?_
    refine aj_aload_n C dX11_count_126 rfl ?_
    refine aj_getO (x := 1) (y := 0) C flX11_39 hq0 rfl dX11_count_127 ?_
    refine aj_getI C flX11_180 (aj_cf (x := 1) (y := 0) (j := 5) hq0 (by decide) rfl) (by decide) dX11_count_130 rfl ?_
    exact aj_iret C K dX11_count_133 ⟨_, rfl, h⟩
  · have h := hc8 e
    refine aj_tin (tgt := 134) (off := 133) C dX11_count_1 r0 (by omega) (by omega) (by rw [e]; rfl) (by decide) ?_
    refine aj_aload_n C dX11_count_134 rfl ?_
    refine aj_getO (x := 7) (y := 0) C flX11_12 hq0 rfl dX11_count_135 ?_
    refine aj_getI C flX11_86 (aj_cf (x := 7) (y := 0) (j := 0) hq0 (by decide) rfl) (by decide) dX11_count_138 rfl ?_
    exact aj_iret C K dX11_count_141 ⟨_, rfl, h⟩
  · have h := hc9 e
    refine aj_tin (tgt := 142) (off := 141) C dX11_count_1 r0 (by omega) (by omega) (by rw [e]; rfl) (by decide) ?_
    refine aj_aload_n C dX11_count_142 rfl ?_
    refine aj_getO (x := 6) (y := 0) C flX11_19 hq0 rfl dX11_count_143 ?_
    refine aj_getI C flX11_112 (aj_cf (x := 6) (y := 0) (j := 1) hq0 (by decide) rfl) (by decide) dX11_count_146 rfl ?_
    exact aj_iret C K dX11_count_149 ⟨_, rfl, h⟩
theorem dX12_within_0 : decode cX12_within 0 = .ok (.lload_n 0, 1) := by decide +kernel
theorem dX12_within_1 : decode cX12_within 1 = .ok (.lload_n 2, 1) := by decide +kernel
theorem dX12_within_2 : decode cX12_within 2 = .ok (.lcmp, 1) := by decide +kernel
theorem dX12_within_3 : decode cX12_within 3 = .ok (.ifCond .lt 14, 3) := by decide +kernel
theorem dX12_within_6 : decode cX12_within 6 = .ok (.lload_n 0, 1) := by decide +kernel
theorem dX12_within_7 : decode cX12_within 7 = .ok (.lload 4, 2) := by decide +kernel
theorem dX12_within_9 : decode cX12_within 9 = .ok (.lcmp, 1) := by decide +kernel
theorem dX12_within_10 : decode cX12_within 10 = .ok (.ifCond .gt 7, 3) := by decide +kernel
theorem dX12_within_13 : decode cX12_within 13 = .ok (.iconst 1, 1) := by decide +kernel
theorem dX12_within_14 : decode cX12_within 14 = .ok (.goto 4, 3) := by decide +kernel
theorem dX12_within_17 : decode cX12_within 17 = .ok (.iconst 0, 1) := by decide +kernel
theorem dX12_within_18 : decode cX12_within 18 = .ok (.ireturn, 1) := by decide +kernel
def wX12_within (f : Nat) (Φ : Int → aj_M → Prop) (w0 : Int) (w2 : Int) (w4 : Int) (m : aj_M) : Prop := rL w0 ∧ rL w2 ∧ (w0 < w2 → Φ 0 m) ∧ (¬ (w0 < w2) → rL w0 ∧ rL w4 ∧ (w4 < w0 → Φ 0 m) ∧ (¬ (w4 < w0) → Φ 1 m))
set_option maxHeartbeats 4000000 in
set_option maxRecDepth 100000 in
theorem sX12_within {n f : Nat} {Φ : Int → aj_M → Prop} {w0 : Int} {w2 : Int} {w4 : Int} {m : aj_M}  (h : wX12_within f Φ w0 w2 w4 m) : aj_Ct n yX12_within cX12_within 6 (some .boolean) [vL w0, vL w2, vL w4] m (fun r m => ∃ z, r = some (vI z) ∧ Φ z m) := by
  refine aj_met (lv := [some (vL w0), none, some (vL w2), none, some (vL w4), none]) (by decide +kernel) rfl (Nat.le_of_ble_eq_true rfl) (fun X C K => ?_)
  unfold wX12_within at h
  refine aj_lload_n C dX12_within_0 rfl ?_
  refine aj_lload_n C dX12_within_1 rfl ?_
  obtain ⟨r0, r1, h1, h2⟩ := h
  refine aj_lcmp_lt (tgt := 17) C dX12_within_2 dX12_within_3 (by decide) r0 r1 (fun e => ?_) (fun e => ?_)
  · have h := h1 e
    refine aj_iconst C dX12_within_17 ?_
    exact aj_zret C K (Or.inl rfl) dX12_within_18 ⟨_, rfl, h⟩
  · have h := h2 e
    refine aj_lload_n C dX12_within_6 rfl ?_
    refine aj_lload C dX12_within_7 rfl ?_
    obtain ⟨r0, r1, h1, h2⟩ := h
    refine aj_lcmp_gt (tgt := 17) C dX12_within_9 dX12_within_10 (by decide) r0 r1 (fun e => ?_) (fun e => ?_)
    · have h := h1 e
      refine aj_iconst C dX12_within_17 ?_
      exact aj_zret C K (Or.inl rfl) dX12_within_18 ⟨_, rfl, h⟩
    · have h := h2 e
      refine aj_iconst C dX12_within_13 ?_
      refine aj_goto (tgt := 18) C dX12_within_14 (by decide) ?_
      exact aj_zret C K (Or.inr rfl) dX12_within_18 ⟨_, rfl, h⟩
theorem dX12_plain_0 : decode cX12_plain 0 = .ok (.iconst 0, 1) := by decide +kernel
theorem dX12_plain_1 : decode cX12_plain 1 = .ok (.istore_n 1, 1) := by decide +kernel
theorem dX12_plain_2 : decode cX12_plain 2 = .ok (.iload_n 1, 1) := by decide +kernel
theorem dX12_plain_3 : decode cX12_plain 3 = .ok (.sipush 1105, 3) := by decide +kernel
theorem dX12_plain_6 : decode cX12_plain 6 = .ok (.if_icmp .ge 13, 3) := by decide +kernel
theorem dX12_plain_9 : decode cX12_plain 9 = .ok (.aload_n 0, 1) := by decide +kernel
theorem dX12_plain_10 : decode cX12_plain 10 = .ok (.iload_n 1, 1) := by decide +kernel
theorem dX12_plain_11 : decode cX12_plain 11 = .ok (.iconst 0, 1) := by decide +kernel
theorem dX12_plain_12 : decode cX12_plain 12 = .ok (.iastore, 1) := by decide +kernel
theorem dX12_plain_13 : decode cX12_plain 13 = .ok (.iinc 1 1, 3) := by decide +kernel
theorem dX12_plain_16 : decode cX12_plain 16 = .ok (.goto (-14), 3) := by decide +kernel
theorem dX12_plain_19 : decode cX12_plain 19 = .ok (.aload_n 0, 1) := by decide +kernel
theorem dX12_plain_20 : decode cX12_plain 20 = .ok (.iconst 1, 1) := by decide +kernel
theorem dX12_plain_21 : decode cX12_plain 21 = .ok (.iconst 1, 1) := by decide +kernel
theorem dX12_plain_22 : decode cX12_plain 22 = .ok (.iastore, 1) := by decide +kernel
theorem dX12_plain_23 : decode cX12_plain 23 = .ok (.aload_n 0, 1) := by decide +kernel
theorem dX12_plain_24 : decode cX12_plain 24 = .ok (.iconst 2, 1) := by decide +kernel
theorem dX12_plain_25 : decode cX12_plain 25 = .ok (.iconst 1, 1) := by decide +kernel
theorem dX12_plain_26 : decode cX12_plain 26 = .ok (.iastore, 1) := by decide +kernel
theorem dX12_plain_27 : decode cX12_plain 27 = .ok (.aload_n 0, 1) := by decide +kernel
theorem dX12_plain_28 : decode cX12_plain 28 = .ok (.iconst 4, 1) := by decide +kernel
theorem dX12_plain_29 : decode cX12_plain 29 = .ok (.iconst 1, 1) := by decide +kernel
theorem dX12_plain_30 : decode cX12_plain 30 = .ok (.iastore, 1) := by decide +kernel
theorem dX12_plain_31 : decode cX12_plain 31 = .ok (.aload_n 0, 1) := by decide +kernel
theorem dX12_plain_32 : decode cX12_plain 32 = .ok (.iconst 5, 1) := by decide +kernel
theorem dX12_plain_33 : decode cX12_plain 33 = .ok (.iconst 1, 1) := by decide +kernel
theorem dX12_plain_34 : decode cX12_plain 34 = .ok (.iastore, 1) := by decide +kernel
theorem dX12_plain_35 : decode cX12_plain 35 = .ok (.return_, 1) := by decide +kernel
def hX12_plain_2 (f : Nat) (Φ : aj_M → Prop) : Nat → Nat → List Nat → Int → aj_M → Prop
  | 0, _, _, _, _ => False
  | k + 1, ba0, a0, v1, m => rI v1 ∧ (1105 ≤ v1 → ((0 : Int) ≤ 1 ∧ 1 < (ba0 : Int)) ∧ ∀ m1, m1 = aj_u m a0 (1 : Int).toNat 1 → ((0 : Int) ≤ 2 ∧ 2 < (ba0 : Int)) ∧ ∀ m2, m2 = aj_u m1 a0 (2 : Int).toNat 1 → ((0 : Int) ≤ 4 ∧ 4 < (ba0 : Int)) ∧ ∀ m3, m3 = aj_u m2 a0 (4 : Int).toNat 1 → ((0 : Int) ≤ 5 ∧ 5 < (ba0 : Int)) ∧ ∀ m4, m4 = aj_u m3 a0 (5 : Int).toNat 1 → Φ m4) ∧ (¬ (1105 ≤ v1) → (0 ≤ v1 ∧ v1 < (ba0 : Int)) ∧ ∀ m5, m5 = aj_u m a0 v1.toNat 0 → hX12_plain_2 f Φ k ba0 a0 (v1 + 1) m5)
set_option maxHeartbeats 4000000 in
set_option maxRecDepth 100000 in
theorem tX12_plain_2 {X : aj_T} {n f : Nat} {Φ : aj_M → Prop} (C : aj_Cx X cX12_plain RX12 2 n) (K : aj_Rt X none (fun r m => r = none ∧ Φ m)) : ∀ (k : Nat) (ba0 : Nat) (a0 : List Nat) (v1 : Int) (m : aj_M) (ha0 : (.inr (0, ba0, a0) : aj_R) ∈ aj_pls) (hba0 : ba0 < 2147483648), hX12_plain_2 f Φ k ba0 a0 v1 m → aj_J X 2 [some (vA 0 ba0 a0), some (vI v1)] [] m := by
  intro k
  induction k with
  | zero =>
    intro ba0 a0 v1 m _ _ h
    exact h.elim
  | succ k ih =>
    intro ba0 a0 v1 m ha0 hba0 h
    unfold hX12_plain_2 at h
    refine aj_iload_n C dX12_plain_2 rfl ?_
    refine aj_sipush C dX12_plain_3 (by decide) ?_
    obtain ⟨r0, h1, h2⟩ := h
    refine aj_icmp_ge (tgt := 19) C dX12_plain_6 (by decide) r0 (by decide) (fun e => ?_) (fun e => ?_)
    · have h := h1 e
      refine aj_aload_n C dX12_plain_19 rfl ?_
      refine aj_iconst C dX12_plain_20 ?_
      refine aj_iconst C dX12_plain_21 ?_
      obtain ⟨r0, h⟩ := h
      refine aj_iast C ha0 hba0 r0 dX12_plain_22 ?_
      refine aj_nm (fun m1 e1 => ?_)
      have h := h m1 e1
      refine aj_aload_n C dX12_plain_23 rfl ?_
      refine aj_iconst C dX12_plain_24 ?_
      refine aj_iconst C dX12_plain_25 ?_
      obtain ⟨r0, h⟩ := h
      refine aj_iast C ha0 hba0 r0 dX12_plain_26 ?_
      refine aj_nm (fun m2 e1 => ?_)
      have h := h m2 e1
      refine aj_aload_n C dX12_plain_27 rfl ?_
      refine aj_iconst C dX12_plain_28 ?_
      refine aj_iconst C dX12_plain_29 ?_
      obtain ⟨r0, h⟩ := h
      refine aj_iast C ha0 hba0 r0 dX12_plain_30 ?_
      refine aj_nm (fun m3 e1 => ?_)
      have h := h m3 e1
      refine aj_aload_n C dX12_plain_31 rfl ?_
      refine aj_iconst C dX12_plain_32 ?_
      refine aj_iconst C dX12_plain_33 ?_
      obtain ⟨r0, h⟩ := h
      refine aj_iast C ha0 hba0 r0 dX12_plain_34 ?_
      refine aj_nm (fun m4 e1 => ?_)
      have h := h m4 e1
      exact aj_vret C K dX12_plain_35 ⟨rfl, h⟩
    · have h := h2 e
      refine aj_aload_n C dX12_plain_9 rfl ?_
      refine aj_iload_n C dX12_plain_10 rfl ?_
      refine aj_iconst C dX12_plain_11 ?_
      obtain ⟨r0, h⟩ := h
      refine aj_iast C ha0 hba0 r0 dX12_plain_12 ?_
      refine aj_nm (fun m5 e1 => ?_)
      have h := h m5 e1
      refine aj_iinc (lv' := [some (vA 0 ba0 a0), some (vI (v1 + 1))]) C dX12_plain_13 rfl (by decide) rfl ?_
      refine aj_goto (tgt := 2) C dX12_plain_16 (by decide) ?_
      exact ih ba0 a0 (v1 + 1) _ ha0 hba0 h
def wX12_plain (f : Nat) (Φ : aj_M → Prop) (ba0 : Nat) (a0 : List Nat) (m : aj_M) : Prop := hX12_plain_2 f Φ f ba0 a0 0 m
set_option maxHeartbeats 4000000 in
set_option maxRecDepth 100000 in
theorem sX12_plain {n f : Nat} {Φ : aj_M → Prop} {ba0 : Nat} {a0 : List Nat} {m : aj_M} (ha0 : (.inr (0, ba0, a0) : aj_R) ∈ aj_pls) (hba0 : ba0 < 2147483648) (h : wX12_plain f Φ ba0 a0 m) : aj_Ct n yX12_plain cX12_plain 2 none [vA 0 ba0 a0] m (fun r m => r = none ∧ Φ m) := by
  refine aj_met (lv := [some (vA 0 ba0 a0), none]) (by decide +kernel) rfl (Nat.le_of_ble_eq_true rfl) (fun X C K => ?_)
  unfold wX12_plain at h
  refine aj_iconst C dX12_plain_0 ?_
  refine aj_istore_n (lv' := [some (vA 0 ba0 a0), some (vI 0)]) C dX12_plain_1 (by decide) rfl ?_
  exact tX12_plain_2 C K f ba0 a0 0 _ ha0 hba0 h
