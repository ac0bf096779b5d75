theorem dX5_build_0 : decode cX5_build 0 = .ok (.aload_n 1, 1) := by decide +kernel
theorem dX5_build_1 : decode cX5_build 1 = .ok (.getfield 66, 3) := by decide +kernel
theorem dX5_build_4 : decode cX5_build 4 = .ok (.getfield 72, 3) := by decide +kernel
theorem dX5_build_7 : decode cX5_build 7 = .ok (.istore_n 3, 1) := by decide +kernel
theorem dX5_build_8 : decode cX5_build 8 = .ok (.aload_n 0, 1) := by decide +kernel
theorem dX5_build_9 : decode cX5_build 9 = .ok (.aload_n 1, 1) := by decide +kernel
theorem dX5_build_10 : decode cX5_build 10 = .ok (.getfield 77, 3) := by decide +kernel
theorem dX5_build_13 : decode cX5_build 13 = .ok (.iload_n 3, 1) := by decide +kernel
theorem dX5_build_14 : decode cX5_build 14 = .ok (.imul, 1) := by decide +kernel
theorem dX5_build_15 : decode cX5_build 15 = .ok (.putfield 9, 3) := by decide +kernel
theorem dX5_build_18 : decode cX5_build 18 = .ok (.aload_n 0, 1) := by decide +kernel
theorem dX5_build_19 : decode cX5_build 19 = .ok (.iconst 0, 1) := by decide +kernel
theorem dX5_build_20 : decode cX5_build 20 = .ok (.putfield 15, 3) := by decide +kernel
theorem dX5_build_23 : decode cX5_build 23 = .ok (.aload_n 0, 1) := by decide +kernel
theorem dX5_build_24 : decode cX5_build 24 = .ok (.iconst 0, 1) := by decide +kernel
theorem dX5_build_25 : decode cX5_build 25 = .ok (.putfield 34, 3) := by decide +kernel
theorem dX5_build_28 : decode cX5_build 28 = .ok (.aload_n 1, 1) := by decide +kernel
theorem dX5_build_29 : decode cX5_build 29 = .ok (.aload_n 2, 1) := by decide +kernel
theorem dX5_build_30 : decode cX5_build 30 = .ok (.getfield 80, 3) := by decide +kernel
theorem dX5_build_33 : decode cX5_build 33 = .ok (.invokevirtual 85, 3) := by decide +kernel
theorem dX5_build_36 : decode cX5_build 36 = .ok (.iconst 0, 1) := by decide +kernel
theorem dX5_build_37 : decode cX5_build 37 = .ok (.istore 4, 2) := by decide +kernel
theorem dX5_build_39 : decode cX5_build 39 = .ok (.iload 4, 2) := by decide +kernel
theorem dX5_build_41 : decode cX5_build 41 = .ok (.aload_n 1, 1) := by decide +kernel
theorem dX5_build_42 : decode cX5_build 42 = .ok (.getfield 89, 3) := by decide +kernel
theorem dX5_build_45 : decode cX5_build 45 = .ok (.if_icmp .ge 122, 3) := by decide +kernel
theorem dX5_build_48 : decode cX5_build 48 = .ok (.aload_n 2, 1) := by decide +kernel
theorem dX5_build_49 : decode cX5_build 49 = .ok (.iload 4, 2) := by decide +kernel
theorem dX5_build_51 : decode cX5_build 51 = .ok (.invokevirtual 92, 3) := by decide +kernel
theorem dX5_build_54 : decode cX5_build 54 = .ok (.ifCond .eq 6, 3) := by decide +kernel
theorem dX5_build_57 : decode cX5_build 57 = .ok (.goto 104, 3) := by decide +kernel
theorem dX5_build_60 : decode cX5_build 60 = .ok (.aload_n 1, 1) := by decide +kernel
theorem dX5_build_61 : decode cX5_build 61 = .ok (.iload 4, 2) := by decide +kernel
theorem dX5_build_63 : decode cX5_build 63 = .ok (.invokevirtual 96, 3) := by decide +kernel
theorem dX5_build_66 : decode cX5_build 66 = .ok (.istore 5, 2) := by decide +kernel
theorem dX5_build_68 : decode cX5_build 68 = .ok (.iconst 0, 1) := by decide +kernel
theorem dX5_build_69 : decode cX5_build 69 = .ok (.istore 6, 2) := by decide +kernel
theorem dX5_build_71 : decode cX5_build 71 = .ok (.iload 6, 2) := by decide +kernel
theorem dX5_build_73 : decode cX5_build 73 = .ok (.iload_n 3, 1) := by decide +kernel
theorem dX5_build_74 : decode cX5_build 74 = .ok (.if_icmp .ge 87, 3) := by decide +kernel
theorem dX5_build_77 : decode cX5_build 77 = .ok (.aload_n 1, 1) := by decide +kernel
theorem dX5_build_78 : decode cX5_build 78 = .ok (.getfield 66, 3) := by decide +kernel
theorem dX5_build_81 : decode cX5_build 81 = .ok (.iload 6, 2) := by decide +kernel
theorem dX5_build_83 : decode cX5_build 83 = .ok (.aload_n 2, 1) := by decide +kernel
theorem dX5_build_84 : decode cX5_build 84 = .ok (.getfield 99, 3) := by decide +kernel
theorem dX5_build_87 : decode cX5_build 87 = .ok (.iload 4, 2) := by decide +kernel
theorem dX5_build_89 : decode cX5_build 89 = .ok (.iaload, 1) := by decide +kernel
theorem dX5_build_90 : decode cX5_build 90 = .ok (.invokevirtual 102, 3) := by decide +kernel
theorem dX5_build_93 : decode cX5_build 93 = .ok (.istore 7, 2) := by decide +kernel
theorem dX5_build_95 : decode cX5_build 95 = .ok (.aload_n 1, 1) := by decide +kernel
theorem dX5_build_96 : decode cX5_build 96 = .ok (.getfield 106, 3) := by decide +kernel
theorem dX5_build_99 : decode cX5_build 99 = .ok (.iload 4, 2) := by decide +kernel
theorem dX5_build_101 : decode cX5_build 101 = .ok (.iaload, 1) := by decide +kernel
theorem dX5_build_102 : decode cX5_build 102 = .ok (.iload 6, 2) := by decide +kernel
theorem dX5_build_104 : decode cX5_build 104 = .ok (.ishr, 1) := by decide +kernel
theorem dX5_build_105 : decode cX5_build 105 = .ok (.iconst 1, 1) := by decide +kernel
theorem dX5_build_106 : decode cX5_build 106 = .ok (.iand, 1) := by decide +kernel
theorem dX5_build_107 : decode cX5_build 107 = .ok (.iconst 1, 1) := by decide +kernel
theorem dX5_build_108 : decode cX5_build 108 = .ok (.if_icmp .ne 47, 3) := by decide +kernel
theorem dX5_build_111 : decode cX5_build 111 = .ok (.iload 5, 2) := by decide +kernel
theorem dX5_build_113 : decode cX5_build 113 = .ok (.ifCond .eq 10, 3) := by decide +kernel
theorem dX5_build_116 : decode cX5_build 116 = .ok (.iload 6, 2) := by decide +kernel
theorem dX5_build_118 : decode cX5_build 118 = .ok (.iload 7, 2) := by decide +kernel
theorem dX5_build_120 : decode cX5_build 120 = .ok (.if_icmp .ge 35, 3) := by decide +kernel
theorem dX5_build_123 : decode cX5_build 123 = .ok (.aload_n 0, 1) := by decide +kernel
theorem dX5_build_124 : decode cX5_build 124 = .ok (.aload_n 1, 1) := by decide +kernel
theorem dX5_build_125 : decode cX5_build 125 = .ok (.getfield 109, 3) := by decide +kernel
theorem dX5_build_128 : decode cX5_build 128 = .ok (.iload 4, 2) := by decide +kernel
theorem dX5_build_130 : decode cX5_build 130 = .ok (.iaload, 1) := by decide +kernel
theorem dX5_build_131 : decode cX5_build 131 = .ok (.iload_n 3, 1) := by decide +kernel
theorem dX5_build_132 : decode cX5_build 132 = .ok (.imul, 1) := by decide +kernel
theorem dX5_build_133 : decode cX5_build 133 = .ok (.iload 6, 2) := by decide +kernel
theorem dX5_build_135 : decode cX5_build 135 = .ok (.iadd, 1) := by decide +kernel
theorem dX5_build_136 : decode cX5_build 136 = .ok (.aload_n 1, 1) := by decide +kernel
theorem dX5_build_137 : decode cX5_build 137 = .ok (.getfield 112, 3) := by decide +kernel
theorem dX5_build_140 : decode cX5_build 140 = .ok (.iload 4, 2) := by decide +kernel
theorem dX5_build_142 : decode cX5_build 142 = .ok (.iaload, 1) := by decide +kernel
theorem dX5_build_143 : decode cX5_build 143 = .ok (.iload_n 3, 1) := by decide +kernel
theorem dX5_build_144 : decode cX5_build 144 = .ok (.imul, 1) := by decide +kernel
theorem dX5_build_145 : decode cX5_build 145 = .ok (.iload 7, 2) := by decide +kernel
theorem dX5_build_147 : decode cX5_build 147 = .ok (.iadd, 1) := by decide +kernel
theorem dX5_build_148 : decode cX5_build 148 = .ok (.iload 4, 2) := by decide +kernel
theorem dX5_build_150 : decode cX5_build 150 = .ok (.iload 6, 2) := by decide +kernel
theorem dX5_build_152 : decode cX5_build 152 = .ok (.invokevirtual 115, 3) := by decide +kernel
theorem dX5_build_155 : decode cX5_build 155 = .ok (.iinc 6 1, 3) := by decide +kernel
theorem dX5_build_158 : decode cX5_build 158 = .ok (.goto (-87), 3) := by decide +kernel
theorem dX5_build_161 : decode cX5_build 161 = .ok (.iinc 4 1, 3) := by decide +kernel
theorem dX5_build_164 : decode cX5_build 164 = .ok (.goto (-125), 3) := by decide +kernel
theorem dX5_build_167 : decode cX5_build 167 = .ok (.aload_n 0, 1) := by decide +kernel
theorem dX5_build_168 : decode cX5_build 168 = .ok (.invokevirtual 119, 3) := by decide +kernel
theorem dX5_build_171 : decode cX5_build 171 = .ok (.return_, 1) := by decide +kernel
def hX5_build_123 (f : Nat) (Φ : aj_M → Prop) (K39 : List Nat → List Nat → List Nat → Int → Int → aj_M → Prop) (K71 : List Nat → List Nat → List Nat → Int → Int → Int → Int → aj_M → Prop) (q0 : List Nat) (q1 : List Nat) (q2 : List Nat) (v3 : Int) (v4 : Int) (v5 : Int) (v6 : Int) (v7 : Int) (m : aj_M) : Prop := (0 ≤ v4 ∧ v4 < 12) ∧ (0 ≤ v4 ∧ v4 < 12) ∧ wX5_addLink f (fun m1 => K71 q0 q1 q2 v3 v4 v5 (v6 + 1) m1) q0 (((m (7 :: q1) v4.toNat) * v3) + v6) (((m (8 :: q1) v4.toNat) * v3) + v7) v4 v6 m
set_option maxHeartbeats 4000000 in
set_option maxRecDepth 100000 in
theorem tX5_build_123 {X : aj_T} {n f : Nat} {Φ : aj_M → Prop} (C : aj_Cx X cX5_build RX5 8 (n + 3)) (K : aj_Rt X none (fun r m => r = none ∧ Φ m)) {K39 : List Nat → List Nat → List Nat → Int → Int → aj_M → Prop} (HK39 : ∀ (q0 : List Nat) (q1 : List Nat) (q2 : List Nat) (v3 : Int) (v4 : Int) (m : aj_M) (hq0 : (.inl (5, q0) : aj_R) ∈ aj_pls) (hq1 : (.inl (6, q1) : aj_R) ∈ aj_pls) (hq2 : (.inl (9, q2) : aj_R) ∈ aj_pls), K39 q0 q1 q2 v3 v4 m → aj_J X 39 [some (vO 5 q0), some (vO 6 q1), some (vO 9 q2), some (vI v3), some (vI v4), none, none, none] [] m) {K71 : List Nat → List Nat → List Nat → Int → Int → Int → Int → aj_M → Prop} (HK71 : ∀ (q0 : List Nat) (q1 : List Nat) (q2 : List Nat) (v3 : Int) (v4 : Int) (v5 : Int) (v6 : Int) (m : aj_M) (hq0 : (.inl (5, q0) : aj_R) ∈ aj_pls) (hq1 : (.inl (6, q1) : aj_R) ∈ aj_pls) (hq2 : (.inl (9, q2) : aj_R) ∈ aj_pls), K71 q0 q1 q2 v3 v4 v5 v6 m → aj_J X 71 [some (vO 5 q0), some (vO 6 q1), some (vO 9 q2), some (vI v3), some (vI v4), some (vI v5), some (vI v6), none] [] m) (q0 : List Nat) (q1 : List Nat) (q2 : List Nat) (v3 : Int) (v4 : Int) (v5 : Int) (v6 : Int) (v7 : Int) (m : aj_M) (hq0 : (.inl (5, q0) : aj_R) ∈ aj_pls) (hq1 : (.inl (6, q1) : aj_R) ∈ aj_pls) (hq2 : (.inl (9, q2) : aj_R) ∈ aj_pls) (h : hX5_build_123 f Φ K39 K71 q0 q1 q2 v3 v4 v5 v6 v7 m) : aj_J X 123 [some (vO 5 q0), some (vO 6 q1), some (vO 9 q2), some (vI v3), some (vI v4), some (vI v5), some (vI v6), some (vI v7)] [] m := by
  unfold hX5_build_123 at h
  refine aj_aload_n C dX5_build_123 rfl ?_
  refine aj_aload_n C dX5_build_124 rfl ?_
  refine aj_getA (x := 0) (y := 12) C flX5_109 hq1 rfl dX5_build_125 ?_
  refine aj_iload C dX5_build_128 rfl ?_
  obtain ⟨r0, h⟩ := h
  refine aj_iald C (aj_ca (e := 0) (n := 12) (j := 7) hq1 (by decide) rfl) (by decide) r0 dX5_build_130 rfl ?_
  refine aj_iload_n C dX5_build_131 rfl ?_
  refine aj_imul C dX5_build_132 ?_
  refine aj_iload C dX5_build_133 rfl ?_
  refine aj_iadd C dX5_build_135 ?_
  refine aj_aload_n C dX5_build_136 rfl ?_
  refine aj_getA (x := 0) (y := 12) C flX5_112 hq1 rfl dX5_build_137 ?_
  refine aj_iload C dX5_build_140 rfl ?_
  obtain ⟨r0, h⟩ := h
  refine aj_iald C (aj_ca (e := 0) (n := 12) (j := 8) hq1 (by decide) rfl) (by decide) r0 dX5_build_142 rfl ?_
  refine aj_iload_n C dX5_build_143 rfl ?_
  refine aj_imul C dX5_build_144 ?_
  refine aj_iload C dX5_build_145 rfl ?_
  refine aj_iadd C dX5_build_147 ?_
  refine aj_iload C dX5_build_148 rfl ?_
  refine aj_iload C dX5_build_150 rfl ?_
  refine aj_callV (rest := []) C mvX5_115 (sX5_addLink hq0 h) hq0 (aj_np 4 (by decide +kernel) rfl) (Nat.le_of_ble_eq_true rfl) rfl dX5_build_152 (fun r m1 h => ?_)
  obtain ⟨rfl, h⟩ := h
  refine aj_iinc (lv' := [some (vO 5 q0), some (vO 6 q1), some (vO 9 q2), some (vI v3), some (vI v4), some (vI v5), some (vI (v6 + 1)), some (vI v7)]) C dX5_build_155 rfl (by decide) rfl ?_
  refine aj_goto (tgt := 71) C dX5_build_158 (by decide) ?_
  refine aj_wk (lv' := [some (vO 5 q0), some (vO 6 q1), some (vO 9 q2), some (vI v3), some (vI v4), some (vI v5), some (vI (v6 + 1)), none]) (⟨rfl, ⟨rfl, ⟨rfl, ⟨rfl, ⟨rfl, ⟨rfl, ⟨rfl, trivial⟩⟩⟩⟩⟩⟩⟩) ?_
  exact HK71 q0 q1 q2 v3 v4 v5 (v6 + 1) _ hq0 hq1 hq2 h
def hX5_build_71 (f : Nat) (Φ : aj_M → Prop) (K39 : List Nat → List Nat → List Nat → Int → Int → aj_M → Prop) : Nat → List Nat → List Nat → List Nat → Int → Int → Int → Int → aj_M → Prop
  | 0, _, _, _, _, _, _, _, _ => False
  | k + 1, q0, q1, q2, v3, v4, v5, v6, m => rI v6 ∧ rI v3 ∧ (v3 ≤ v6 → K39 q0 q1 q2 v3 (v4 + 1) m) ∧ (¬ (v3 ≤ v6) → (0 ≤ v4 ∧ v4 < 12) ∧ wX0_times f (fun z1 m1 => (0 ≤ v4 ∧ v4 < 12) ∧ rI (aj_and (aj_shr (m1 (11 :: q1) v4.toNat) v6) 1) ∧ (¬ (aj_and (aj_shr (m1 (11 :: q1) v4.toNat) v6) 1) = 1 → hX5_build_71 f Φ K39 k q0 q1 q2 v3 v4 v5 (v6 + 1) m1) ∧ ((aj_and (aj_shr (m1 (11 :: q1) v4.toNat) v6) 1) = 1 → rI v5 ∧ (v5 = 0 → hX5_build_123 f Φ K39 (fun q0 q1 q2 v3 v4 v5 v6 m => hX5_build_71 f Φ K39 k q0 q1 q2 v3 v4 v5 v6 m) q0 q1 q2 v3 v4 v5 v6 z1 m1) ∧ (¬ (v5 = 0) → rI v6 ∧ rI z1 ∧ (z1 ≤ v6 → hX5_build_71 f Φ K39 k q0 q1 q2 v3 v4 v5 (v6 + 1) m1) ∧ (¬ (z1 ≤ v6) → hX5_build_123 f Φ K39 (fun q0 q1 q2 v3 v4 v5 v6 m => hX5_build_71 f Φ K39 k q0 q1 q2 v3 v4 v5 v6 m) q0 q1 q2 v3 v4 v5 v6 z1 m1)))) (0 :: q1) v6 (m (0 :: q2) v4.toNat) m)
set_option maxHeartbeats 4000000 in
set_option maxRecDepth 100000 in
theorem tX5_build_71 {X : aj_T} {n f : Nat} {Φ : aj_M → Prop} (C : aj_Cx X cX5_build RX5 8 (n + 3)) (K : aj_Rt X none (fun r m => r = none ∧ Φ m)) {K39 : List Nat → List Nat → List Nat → Int → Int → aj_M → Prop} (HK39 : ∀ (q0 : List Nat) (q1 : List Nat) (q2 : List Nat) (v3 : Int) (v4 : Int) (m : aj_M) (hq0 : (.inl (5, q0) : aj_R) ∈ aj_pls) (hq1 : (.inl (6, q1) : aj_R) ∈ aj_pls) (hq2 : (.inl (9, q2) : aj_R) ∈ aj_pls), K39 q0 q1 q2 v3 v4 m → aj_J X 39 [some (vO 5 q0), some (vO 6 q1), some (vO 9 q2), some (vI v3), some (vI v4), none, none, none] [] m) : ∀ (k : Nat) (q0 : List Nat) (q1 : List Nat) (q2 : List Nat) (v3 : Int) (v4 : Int) (v5 : Int) (v6 : Int) (m : aj_M) (hq0 : (.inl (5, q0) : aj_R) ∈ aj_pls) (hq1 : (.inl (6, q1) : aj_R) ∈ aj_pls) (hq2 : (.inl (9, q2) : aj_R) ∈ aj_pls), hX5_build_71 f Φ K39 k q0 q1 q2 v3 v4 v5 v6 m → aj_J X 71 [some (vO 5 q0), some (vO 6 q1), some (vO 9 q2), some (vI v3), some (vI v4), some (vI v5), some (vI v6), none] [] m := by
  intro k
  induction k with
  | zero =>
    intro q0 q1 q2 v3 v4 v5 v6 m _ _ _ h
    exact h.elim
  | succ k ih =>
    intro q0 q1 q2 v3 v4 v5 v6 m hq0 hq1 hq2 h
    unfold hX5_build_71 at h
    refine aj_iload C dX5_build_71 rfl ?_
    refine aj_iload_n C dX5_build_73 rfl ?_
    obtain ⟨r0, r1, h1, h2⟩ := h
    refine aj_icmp_ge (tgt := 161) C dX5_build_74 (by decide) r0 r1 (fun e => ?_) (fun e => ?_)
    · have h := h1 e
      refine aj_iinc (lv' := [some (vO 5 q0), some (vO 6 q1), some (vO 9 q2), some (vI v3), some (vI (v4 + 1)), some (vI v5), some (vI v6), none]) C dX5_build_161 rfl (by decide) rfl ?_
      refine aj_goto (tgt := 39) C dX5_build_164 (by decide) ?_
      refine aj_wk (lv' := [some (vO 5 q0), some (vO 6 q1), some (vO 9 q2), some (vI v3), some (vI (v4 + 1)), none, none, none]) (⟨rfl, ⟨rfl, ⟨rfl, ⟨rfl, ⟨rfl, trivial⟩⟩⟩⟩⟩) ?_
      exact HK39 q0 q1 q2 v3 (v4 + 1) _ hq0 hq1 hq2 h
    · have h := h2 e
      refine aj_aload_n C dX5_build_77 rfl ?_
      refine aj_getO (x := 0) (y := 0) C flX5_66 hq1 rfl dX5_build_78 ?_
      refine aj_iload C dX5_build_81 rfl ?_
      refine aj_aload_n C dX5_build_83 rfl ?_
      refine aj_getA (x := 0) (y := 12) C flX5_99 hq2 rfl dX5_build_84 ?_
      refine aj_iload C dX5_build_87 rfl ?_
      obtain ⟨r0, h⟩ := h
      refine aj_iald C (aj_ca (e := 0) (n := 12) (j := 0) hq2 (by decide) rfl) (by decide) r0 dX5_build_89 rfl ?_
      refine aj_callV (rest := []) C mvX5_102 (sX0_times (aj_cf (x := 0) (y := 0) (j := 0) hq1 (by decide) rfl) h) (aj_cf (x := 0) (y := 0) (j := 0) hq1 (by decide) rfl) (aj_np 2 (by decide +kernel) rfl) (Nat.le_of_ble_eq_true rfl) rfl dX5_build_90 (fun r m1 h => ?_)
      obtain ⟨z1, rfl, h⟩ := h
      refine aj_istore (lv' := [some (vO 5 q0), some (vO 6 q1), some (vO 9 q2), some (vI v3), some (vI v4), some (vI v5), some (vI v6), some (vI z1)]) C dX5_build_93 (by decide) rfl ?_
      refine aj_aload_n C dX5_build_95 rfl ?_
      refine aj_getA (x := 0) (y := 12) C flX5_106 hq1 rfl dX5_build_96 ?_
      refine aj_iload C dX5_build_99 rfl ?_
      obtain ⟨r0, h⟩ := h
      refine aj_iald C (aj_ca (e := 0) (n := 12) (j := 11) hq1 (by decide) rfl) (by decide) r0 dX5_build_101 rfl ?_
      refine aj_iload C dX5_build_102 rfl ?_
      refine aj_ishr C dX5_build_104 ?_
      refine aj_iconst C dX5_build_105 ?_
      refine aj_iand C dX5_build_106 ?_
      refine aj_iconst C dX5_build_107 ?_
      obtain ⟨r0, h1, h2⟩ := h
      refine aj_icmp_ne (tgt := 155) C dX5_build_108 (by decide) r0 (by decide) (fun e => ?_) (fun e => ?_)
      · have h := h1 e
        refine aj_iinc (lv' := [some (vO 5 q0), some (vO 6 q1), some (vO 9 q2), some (vI v3), some (vI v4), some (vI v5), some (vI (v6 + 1)), some (vI z1)]) C dX5_build_155 rfl (by decide) rfl ?_
        refine aj_goto (tgt := 71) C dX5_build_158 (by decide) ?_
        refine aj_wk (lv' := [some (vO 5 q0), some (vO 6 q1), some (vO 9 q2), some (vI v3), some (vI v4), some (vI v5), some (vI (v6 + 1)), none]) (⟨rfl, ⟨rfl, ⟨rfl, ⟨rfl, ⟨rfl, ⟨rfl, ⟨rfl, trivial⟩⟩⟩⟩⟩⟩⟩) ?_
        exact ih q0 q1 q2 v3 v4 v5 (v6 + 1) _ hq0 hq1 hq2 h
      · have h := h2 e
        refine aj_iload C dX5_build_111 rfl ?_
        obtain ⟨r0, h1, h2⟩ := h
        refine aj_if_eq (tgt := 123) C dX5_build_113 (by decide) r0 (fun e => ?_) (fun e => ?_)
        · have h := h1 e
          exact tX5_build_123 C K HK39 (fun q0 q1 q2 v3 v4 v5 v6 m hq0 hq1 hq2 hh => ih q0 q1 q2 v3 v4 v5 v6 m hq0 hq1 hq2 hh) q0 q1 q2 v3 v4 v5 v6 z1 _ hq0 hq1 hq2 h
        · have h := h2 e
          refine aj_iload C dX5_build_116 rfl ?_
          refine aj_iload C dX5_build_118 rfl ?_
          obtain ⟨r0, r1, h1, h2⟩ := h
          refine aj_icmp_ge (tgt := 155) C dX5_build_120 (by decide) r0 r1 (fun e => ?_) (fun e => ?_)
          · have h := h1 e
            refine aj_iinc (lv' := [some (vO 5 q0), some (vO 6 q1), some (vO 9 q2), some (vI v3), some (vI v4), some (vI v5), some (vI (v6 + 1)), some (vI z1)]) C dX5_build_155 rfl (by decide) rfl ?_
            refine aj_goto (tgt := 71) C dX5_build_158 (by decide) ?_
            refine aj_wk (lv' := [some (vO 5 q0), some (vO 6 q1), some (vO 9 q2), some (vI v3), some (vI v4), some (vI v5), some (vI (v6 + 1)), none]) (⟨rfl, ⟨rfl, ⟨rfl, ⟨rfl, ⟨rfl, ⟨rfl, ⟨rfl, trivial⟩⟩⟩⟩⟩⟩⟩) ?_
            exact ih q0 q1 q2 v3 v4 v5 (v6 + 1) _ hq0 hq1 hq2 h
          · have h := h2 e
            exact tX5_build_123 C K HK39 (fun q0 q1 q2 v3 v4 v5 v6 m hq0 hq1 hq2 hh => ih q0 q1 q2 v3 v4 v5 v6 m hq0 hq1 hq2 hh) q0 q1 q2 v3 v4 v5 v6 z1 _ hq0 hq1 hq2 h
def hX5_build_39 (f : Nat) (Φ : aj_M → Prop) : Nat → List Nat → List Nat → List Nat → Int → Int → aj_M → Prop
  | 0, _, _, _, _, _, _ => False
  | k + 1, q0, q1, q2, v3, v4, m => rI v4 ∧ rI (m q1 4) ∧ ((m q1 4) ≤ v4 → wX5_sortEnds f (fun m1 => Φ m1) q0 m) ∧ (¬ ((m q1 4) ≤ v4) → wX9_isOut f (fun z2 m2 => rI z2 ∧ (z2 = 0 → wX6_isHalf f (fun z3 m3 => hX5_build_71 f Φ (fun q0 q1 q2 v3 v4 m => hX5_build_39 f Φ k q0 q1 q2 v3 v4 m) f q0 q1 q2 v3 v4 z3 0 m3) q1 v4 m2) ∧ (¬ (z2 = 0) → hX5_build_39 f Φ k q0 q1 q2 v3 (v4 + 1) m2)) q2 v4 m)
set_option maxHeartbeats 4000000 in
set_option maxRecDepth 100000 in
theorem tX5_build_39 {X : aj_T} {n f : Nat} {Φ : aj_M → Prop} (C : aj_Cx X cX5_build RX5 8 (n + 3)) (K : aj_Rt X none (fun r m => r = none ∧ Φ m)) : ∀ (k : Nat) (q0 : List Nat) (q1 : List Nat) (q2 : List Nat) (v3 : Int) (v4 : Int) (m : aj_M) (hq0 : (.inl (5, q0) : aj_R) ∈ aj_pls) (hq1 : (.inl (6, q1) : aj_R) ∈ aj_pls) (hq2 : (.inl (9, q2) : aj_R) ∈ aj_pls), hX5_build_39 f Φ k q0 q1 q2 v3 v4 m → aj_J X 39 [some (vO 5 q0), some (vO 6 q1), some (vO 9 q2), some (vI v3), some (vI v4), none, none, none] [] m := by
  intro k
  induction k with
  | zero =>
    intro q0 q1 q2 v3 v4 m _ _ _ h
    exact h.elim
  | succ k ih =>
    intro q0 q1 q2 v3 v4 m hq0 hq1 hq2 h
    unfold hX5_build_39 at h
    refine aj_iload C dX5_build_39 rfl ?_
    refine aj_aload_n C dX5_build_41 rfl ?_
    refine aj_getI C flX5_89 hq1 (by decide) dX5_build_42 rfl ?_
    obtain ⟨r0, r1, h1, h2⟩ := h
    refine aj_icmp_ge (tgt := 167) C dX5_build_45 (by decide) r0 r1 (fun e => ?_) (fun e => ?_)
    · have h := h1 e
      refine aj_aload_n C dX5_build_167 rfl ?_
      refine aj_callV (rest := []) C mvX5_119 (sX5_sortEnds hq0 h) hq0 (aj_np 0 (by decide +kernel) rfl) (Nat.le_of_ble_eq_true rfl) rfl dX5_build_168 (fun r m1 h => ?_)
      obtain ⟨rfl, h⟩ := h
      exact aj_vret C K dX5_build_171 ⟨rfl, h⟩
    · have h := h2 e
      refine aj_aload_n C dX5_build_48 rfl ?_
      refine aj_iload C dX5_build_49 rfl ?_
      refine aj_callV (rest := []) C mvX5_92 (sX9_isOut hq2 h) hq2 (aj_np 1 (by decide +kernel) rfl) (Nat.le_of_ble_eq_true rfl) rfl dX5_build_51 (fun r m2 h => ?_)
      obtain ⟨z2, rfl, h⟩ := h
      obtain ⟨r0, h1, h2⟩ := h
      refine aj_if_eq (tgt := 60) C dX5_build_54 (by decide) r0 (fun e => ?_) (fun e => ?_)
      · have h := h1 e
        refine aj_aload_n C dX5_build_60 rfl ?_
        refine aj_iload C dX5_build_61 rfl ?_
        refine aj_callV (rest := []) C mvX5_96 (sX6_isHalf hq1 h) hq1 (aj_np 1 (by decide +kernel) rfl) (Nat.le_of_ble_eq_true rfl) rfl dX5_build_63 (fun r m3 h => ?_)
        obtain ⟨z3, rfl, h⟩ := h
        refine aj_istore (lv' := [some (vO 5 q0), some (vO 6 q1), some (vO 9 q2), some (vI v3), some (vI v4), some (vI z3), none, none]) C dX5_build_66 (by decide) rfl ?_
        refine aj_iconst C dX5_build_68 ?_
        refine aj_istore (lv' := [some (vO 5 q0), some (vO 6 q1), some (vO 9 q2), some (vI v3), some (vI v4), some (vI z3), some (vI 0), none]) C dX5_build_69 (by decide) rfl ?_
        exact tX5_build_71 C K (fun q0 q1 q2 v3 v4 m hq0 hq1 hq2 hh => ih q0 q1 q2 v3 v4 m hq0 hq1 hq2 hh) f q0 q1 q2 v3 v4 z3 0 _ hq0 hq1 hq2 h
      · have h := h2 e
        refine aj_goto (tgt := 161) C dX5_build_57 (by decide) ?_
        refine aj_iinc (lv' := [some (vO 5 q0), some (vO 6 q1), some (vO 9 q2), some (vI v3), some (vI (v4 + 1)), none, none, none]) C dX5_build_161 rfl (by decide) rfl ?_
        refine aj_goto (tgt := 39) C dX5_build_164 (by decide) ?_
        exact ih q0 q1 q2 v3 (v4 + 1) _ hq0 hq1 hq2 h
def wX5_build (f : Nat) (Φ : aj_M → Prop) (q0 : List Nat) (q1 : List Nat) (q2 : List Nat) (m : aj_M) : Prop := ∀ m1, m1 = aj_u m q0 0 ((m q1 3) * (m (0 :: q1) 0)) → ∀ m2, m2 = aj_u m1 q0 1 0 → ∀ m3, m3 = aj_u m2 q0 7 0 → wX6_knowKept f (fun m4 => hX5_build_39 f Φ f q0 q1 q2 (m (0 :: q1) 0) 0 m4) q1 (m3 q2 2) m3
set_option maxHeartbeats 4000000 in
set_option maxRecDepth 100000 in
theorem sX5_build {n f : Nat} {Φ : aj_M → Prop} {q0 : List Nat} {q1 : List Nat} {q2 : List Nat} {m : aj_M} (hq0 : (.inl (5, q0) : aj_R) ∈ aj_pls) (hq1 : (.inl (6, q1) : aj_R) ∈ aj_pls) (hq2 : (.inl (9, q2) : aj_R) ∈ aj_pls) (h : wX5_build f Φ q0 q1 q2 m) : aj_Ct (n + 3) yX5_build cX5_build 8 none [vO 5 q0, vO 6 q1, vO 9 q2] m (fun r m => r = none ∧ Φ m) := by
  refine aj_met (lv := [some (vO 5 q0), some (vO 6 q1), some (vO 9 q2), none, none, none, none, none]) (by decide +kernel) rfl (Nat.le_of_ble_eq_true rfl) (fun X C K => ?_)
  unfold wX5_build at h
  refine aj_aload_n C dX5_build_0 rfl ?_
  refine aj_getO (x := 0) (y := 0) C flX5_66 hq1 rfl dX5_build_1 ?_
  refine aj_getI C flX5_72 (aj_cf (x := 0) (y := 0) (j := 0) hq1 (by decide) rfl) (by decide) dX5_build_4 rfl ?_
  refine aj_istore_n (lv' := [some (vO 5 q0), some (vO 6 q1), some (vO 9 q2), some (vI (m (0 :: q1) 0)), none, none, none, none]) C dX5_build_7 (by decide) rfl ?_
  refine aj_aload_n C dX5_build_8 rfl ?_
  refine aj_aload_n C dX5_build_9 rfl ?_
  refine aj_getI C flX5_77 hq1 (by decide) dX5_build_10 rfl ?_
  refine aj_iload_n C dX5_build_13 rfl ?_
  refine aj_imul C dX5_build_14 ?_
  refine aj_putI C fpX5_9 hq0 rfl dX5_build_15 ?_
  refine aj_nm (fun m1 e1 => ?_)
  have h := h m1 e1
  refine aj_aload_n C dX5_build_18 rfl ?_
  refine aj_iconst C dX5_build_19 ?_
  refine aj_putI C fpX5_15 hq0 rfl dX5_build_20 ?_
  refine aj_nm (fun m2 e1 => ?_)
  have h := h m2 e1
  refine aj_aload_n C dX5_build_23 rfl ?_
  refine aj_iconst C dX5_build_24 ?_
  refine aj_putZ C fpX5_34 hq0 (Or.inl rfl) rfl dX5_build_25 ?_
  refine aj_nm (fun m3 e1 => ?_)
  have h := h m3 e1
  refine aj_aload_n C dX5_build_28 rfl ?_
  refine aj_aload_n C dX5_build_29 rfl ?_
  refine aj_getI C flX5_80 hq2 (by decide) dX5_build_30 rfl ?_
  refine aj_callV (rest := []) C mvX5_85 (sX6_knowKept hq1 h) hq1 (aj_np 1 (by decide +kernel) rfl) (Nat.le_of_ble_eq_true rfl) rfl dX5_build_33 (fun r m4 h => ?_)
  obtain ⟨rfl, h⟩ := h
  refine aj_iconst C dX5_build_36 ?_
  refine aj_istore (lv' := [some (vO 5 q0), some (vO 6 q1), some (vO 9 q2), some (vI (m (0 :: q1) 0)), some (vI 0), none, none, none]) C dX5_build_37 (by decide) rfl ?_
  exact tX5_build_39 C K f q0 q1 q2 (m (0 :: q1) 0) 0 _ hq0 hq1 hq2 h
theorem dX5_otherEnd_0 : decode cX5_otherEnd 0 = .ok (.aload_n 0, 1) := by decide +kernel
theorem dX5_otherEnd_1 : decode cX5_otherEnd 1 = .ok (.getfield 18, 3) := by decide +kernel
theorem dX5_otherEnd_4 : decode cX5_otherEnd 4 = .ok (.iload_n 1, 1) := by decide +kernel
theorem dX5_otherEnd_5 : decode cX5_otherEnd 5 = .ok (.iaload, 1) := by decide +kernel
theorem dX5_otherEnd_6 : decode cX5_otherEnd 6 = .ok (.iload_n 2, 1) := by decide +kernel
theorem dX5_otherEnd_7 : decode cX5_otherEnd 7 = .ok (.if_icmp .ne 12, 3) := by decide +kernel
theorem dX5_otherEnd_10 : decode cX5_otherEnd 10 = .ok (.aload_n 0, 1) := by decide +kernel
theorem dX5_otherEnd_11 : decode cX5_otherEnd 11 = .ok (.getfield 22, 3) := by decide +kernel
theorem dX5_otherEnd_14 : decode cX5_otherEnd 14 = .ok (.iload_n 1, 1) := by decide +kernel
theorem dX5_otherEnd_15 : decode cX5_otherEnd 15 = .ok (.iaload, 1) := by decide +kernel
theorem dX5_otherEnd_16 : decode cX5_otherEnd 16 = .ok (.goto 9, 3) := by decide +kernel
theorem dX5_otherEnd_19 : decode cX5_otherEnd 19 = .ok (.aload_n 0, 1) := by decide +kernel
theorem dX5_otherEnd_20 : decode cX5_otherEnd 20 = .ok (.getfield 18, 3) := by decide +kernel
theorem dX5_otherEnd_23 : decode cX5_otherEnd 23 = .ok (.iload_n 1, 1) := by decide +kernel
theorem dX5_otherEnd_24 : decode cX5_otherEnd 24 = .ok (.iaload, 1) := by decide +kernel
theorem dX5_otherEnd_25 : decode cX5_otherEnd 25 = .ok (.ireturn, 1) := by decide +kernel
def wX5_otherEnd (f : Nat) (Φ : Int → aj_M → Prop) (q0 : List Nat) (v1 : Int) (v2 : Int) (m : aj_M) : Prop := (0 ≤ v1 ∧ v1 < 144) ∧ rI (m (2 :: q0) v1.toNat) ∧ rI v2 ∧ (¬ (m (2 :: q0) v1.toNat) = v2 → (0 ≤ v1 ∧ v1 < 144) ∧ Φ (m (2 :: q0) v1.toNat) m) ∧ ((m (2 :: q0) v1.toNat) = v2 → (0 ≤ v1 ∧ v1 < 144) ∧ Φ (m (3 :: q0) v1.toNat) m)
set_option maxHeartbeats 4000000 in
set_option maxRecDepth 100000 in
theorem sX5_otherEnd {n f : Nat} {Φ : Int → aj_M → Prop} {q0 : List Nat} {v1 : Int} {v2 : Int} {m : aj_M} (hq0 : (.inl (5, q0) : aj_R) ∈ aj_pls) (h : wX5_otherEnd f Φ q0 v1 v2 m) : aj_Ct n yX5_otherEnd cX5_otherEnd 3 (some .int) [vO 5 q0, vI v1, vI v2] m (fun r m => ∃ z, r = some (vI z) ∧ Φ z m) := by
  refine aj_met (lv := [some (vO 5 q0), some (vI v1), some (vI v2)]) (by decide +kernel) rfl (Nat.le_of_ble_eq_true rfl) (fun X C K => ?_)
  unfold wX5_otherEnd at h
  refine aj_aload_n C dX5_otherEnd_0 rfl ?_
  refine aj_getA (x := 0) (y := 144) C flX5_18 hq0 rfl dX5_otherEnd_1 ?_
  refine aj_iload_n C dX5_otherEnd_4 rfl ?_
  obtain ⟨r0, h⟩ := h
  refine aj_iald C (aj_ca (e := 0) (n := 144) (j := 2) hq0 (by decide) rfl) (by decide) r0 dX5_otherEnd_5 rfl ?_
  refine aj_iload_n C dX5_otherEnd_6 rfl ?_
  obtain ⟨r0, r1, h1, h2⟩ := h
  refine aj_icmp_ne (tgt := 19) C dX5_otherEnd_7 (by decide) r0 r1 (fun e => ?_) (fun e => ?_)
  · have h := h1 e
    refine aj_aload_n C dX5_otherEnd_19 rfl ?_
    refine aj_getA (x := 0) (y := 144) C flX5_18 hq0 rfl dX5_otherEnd_20 ?_
    refine aj_iload_n C dX5_otherEnd_23 rfl ?_
    obtain ⟨r0, h⟩ := h
    refine aj_iald C (aj_ca (e := 0) (n := 144) (j := 2) hq0 (by decide) rfl) (by decide) r0 dX5_otherEnd_24 rfl ?_
    exact aj_iret C K dX5_otherEnd_25 ⟨_, rfl, h⟩
  · have h := h2 e
    refine aj_aload_n C dX5_otherEnd_10 rfl ?_
    refine aj_getA (x := 0) (y := 144) C flX5_22 hq0 rfl dX5_otherEnd_11 ?_
    refine aj_iload_n C dX5_otherEnd_14 rfl ?_
    obtain ⟨r0, h⟩ := h
    refine aj_iald C (aj_ca (e := 0) (n := 144) (j := 3) hq0 (by decide) rfl) (by decide) r0 dX5_otherEnd_15 rfl ?_
    refine aj_goto (tgt := 25) C dX5_otherEnd_16 (by decide) ?_
    exact aj_iret C K dX5_otherEnd_25 ⟨_, rfl, h⟩
theorem dX5_endsAt_0 : decode cX5_endsAt 0 = .ok (.aload_n 0, 1) := by decide +kernel
theorem dX5_endsAt_1 : decode cX5_endsAt 1 = .ok (.getfield 38, 3) := by decide +kernel
theorem dX5_endsAt_4 : decode cX5_endsAt 4 = .ok (.iload_n 1, 1) := by decide +kernel
theorem dX5_endsAt_5 : decode cX5_endsAt 5 = .ok (.iconst 1, 1) := by decide +kernel
theorem dX5_endsAt_6 : decode cX5_endsAt 6 = .ok (.iadd, 1) := by decide +kernel
theorem dX5_endsAt_7 : decode cX5_endsAt 7 = .ok (.iaload, 1) := by decide +kernel
theorem dX5_endsAt_8 : decode cX5_endsAt 8 = .ok (.aload_n 0, 1) := by decide +kernel
theorem dX5_endsAt_9 : decode cX5_endsAt 9 = .ok (.getfield 38, 3) := by decide +kernel
theorem dX5_endsAt_12 : decode cX5_endsAt 12 = .ok (.iload_n 1, 1) := by decide +kernel
theorem dX5_endsAt_13 : decode cX5_endsAt 13 = .ok (.iaload, 1) := by decide +kernel
theorem dX5_endsAt_14 : decode cX5_endsAt 14 = .ok (.isub, 1) := by decide +kernel
theorem dX5_endsAt_15 : decode cX5_endsAt 15 = .ok (.ireturn, 1) := by decide +kernel
def wX5_endsAt (f : Nat) (Φ : Int → aj_M → Prop) (q0 : List Nat) (v1 : Int) (m : aj_M) : Prop := (0 ≤ (v1 + 1) ∧ (v1 + 1) < 62) ∧ (0 ≤ v1 ∧ v1 < 62) ∧ Φ ((m (8 :: q0) (v1 + 1).toNat) - (m (8 :: q0) v1.toNat)) m
set_option maxHeartbeats 4000000 in
set_option maxRecDepth 100000 in
theorem sX5_endsAt {n f : Nat} {Φ : Int → aj_M → Prop} {q0 : List Nat} {v1 : Int} {m : aj_M} (hq0 : (.inl (5, q0) : aj_R) ∈ aj_pls) (h : wX5_endsAt f Φ q0 v1 m) : aj_Ct n yX5_endsAt cX5_endsAt 2 (some .int) [vO 5 q0, vI v1] m (fun r m => ∃ z, r = some (vI z) ∧ Φ z m) := by
  refine aj_met (lv := [some (vO 5 q0), some (vI v1)]) (by decide +kernel) rfl (Nat.le_of_ble_eq_true rfl) (fun X C K => ?_)
  unfold wX5_endsAt at h
  refine aj_aload_n C dX5_endsAt_0 rfl ?_
  refine aj_getA (x := 0) (y := 62) C flX5_38 hq0 rfl dX5_endsAt_1 ?_
  refine aj_iload_n C dX5_endsAt_4 rfl ?_
  refine aj_iconst C dX5_endsAt_5 ?_
  refine aj_iadd C dX5_endsAt_6 ?_
  obtain ⟨r0, h⟩ := h
  refine aj_iald C (aj_ca (e := 0) (n := 62) (j := 8) hq0 (by decide) rfl) (by decide) r0 dX5_endsAt_7 rfl ?_
  refine aj_aload_n C dX5_endsAt_8 rfl ?_
  refine aj_getA (x := 0) (y := 62) C flX5_38 hq0 rfl dX5_endsAt_9 ?_
  refine aj_iload_n C dX5_endsAt_12 rfl ?_
  obtain ⟨r0, h⟩ := h
  refine aj_iald C (aj_ca (e := 0) (n := 62) (j := 8) hq0 (by decide) rfl) (by decide) r0 dX5_endsAt_13 rfl ?_
  refine aj_isub C dX5_endsAt_14 ?_
  exact aj_iret C K dX5_endsAt_15 ⟨_, rfl, h⟩
theorem dX5_linksBetween_0 : decode cX5_linksBetween 0 = .ok (.iconst 0, 1) := by decide +kernel
theorem dX5_linksBetween_1 : decode cX5_linksBetween 1 = .ok (.istore_n 3, 1) := by decide +kernel
theorem dX5_linksBetween_2 : decode cX5_linksBetween 2 = .ok (.iconst 0, 1) := by decide +kernel
theorem dX5_linksBetween_3 : decode cX5_linksBetween 3 = .ok (.istore 4, 2) := by decide +kernel
theorem dX5_linksBetween_5 : decode cX5_linksBetween 5 = .ok (.iload 4, 2) := by decide +kernel
theorem dX5_linksBetween_7 : decode cX5_linksBetween 7 = .ok (.aload_n 0, 1) := by decide +kernel
theorem dX5_linksBetween_8 : decode cX5_linksBetween 8 = .ok (.getfield 15, 3) := by decide +kernel
theorem dX5_linksBetween_11 : decode cX5_linksBetween 11 = .ok (.if_icmp .ge 56, 3) := by decide +kernel
theorem dX5_linksBetween_14 : decode cX5_linksBetween 14 = .ok (.aload_n 0, 1) := by decide +kernel
theorem dX5_linksBetween_15 : decode cX5_linksBetween 15 = .ok (.getfield 18, 3) := by decide +kernel
theorem dX5_linksBetween_18 : decode cX5_linksBetween 18 = .ok (.iload 4, 2) := by decide +kernel
theorem dX5_linksBetween_20 : decode cX5_linksBetween 20 = .ok (.iaload, 1) := by decide +kernel
theorem dX5_linksBetween_21 : decode cX5_linksBetween 21 = .ok (.iload_n 1, 1) := by decide +kernel
theorem dX5_linksBetween_22 : decode cX5_linksBetween 22 = .ok (.if_icmp .ne 14, 3) := by decide +kernel
theorem dX5_linksBetween_25 : decode cX5_linksBetween 25 = .ok (.aload_n 0, 1) := by decide +kernel
theorem dX5_linksBetween_26 : decode cX5_linksBetween 26 = .ok (.getfield 22, 3) := by decide +kernel
theorem dX5_linksBetween_29 : decode cX5_linksBetween 29 = .ok (.iload 4, 2) := by decide +kernel
theorem dX5_linksBetween_31 : decode cX5_linksBetween 31 = .ok (.iaload, 1) := by decide +kernel
theorem dX5_linksBetween_32 : decode cX5_linksBetween 32 = .ok (.iload_n 2, 1) := by decide +kernel
theorem dX5_linksBetween_33 : decode cX5_linksBetween 33 = .ok (.if_icmp .eq 25, 3) := by decide +kernel
theorem dX5_linksBetween_36 : decode cX5_linksBetween 36 = .ok (.aload_n 0, 1) := by decide +kernel
theorem dX5_linksBetween_37 : decode cX5_linksBetween 37 = .ok (.getfield 18, 3) := by decide +kernel
theorem dX5_linksBetween_40 : decode cX5_linksBetween 40 = .ok (.iload 4, 2) := by decide +kernel
theorem dX5_linksBetween_42 : decode cX5_linksBetween 42 = .ok (.iaload, 1) := by decide +kernel
theorem dX5_linksBetween_43 : decode cX5_linksBetween 43 = .ok (.iload_n 2, 1) := by decide +kernel
theorem dX5_linksBetween_44 : decode cX5_linksBetween 44 = .ok (.if_icmp .ne 17, 3) := by decide +kernel
theorem dX5_linksBetween_47 : decode cX5_linksBetween 47 = .ok (.aload_n 0, 1) := by decide +kernel
theorem dX5_linksBetween_48 : decode cX5_linksBetween 48 = .ok (.getfield 22, 3) := by decide +kernel
theorem dX5_linksBetween_51 : decode cX5_linksBetween 51 = .ok (.iload 4, 2) := by decide +kernel
theorem dX5_linksBetween_53 : decode cX5_linksBetween 53 = .ok (.iaload, 1) := by decide +kernel
theorem dX5_linksBetween_54 : decode cX5_linksBetween 54 = .ok (.iload_n 1, 1) := by decide +kernel
theorem dX5_linksBetween_55 : decode cX5_linksBetween 55 = .ok (.if_icmp .ne 6, 3) := by decide +kernel
theorem dX5_linksBetween_58 : decode cX5_linksBetween 58 = .ok (.iinc 3 1, 3) := by decide +kernel
theorem dX5_linksBetween_61 : decode cX5_linksBetween 61 = .ok (.iinc 4 1, 3) := by decide +kernel
theorem dX5_linksBetween_64 : decode cX5_linksBetween 64 = .ok (.goto (-59), 3) := by decide +kernel
theorem dX5_linksBetween_67 : decode cX5_linksBetween 67 = .ok (.iload_n 3, 1) := by decide +kernel
theorem dX5_linksBetween_68 : decode cX5_linksBetween 68 = .ok (.ireturn, 1) := by decide +kernel
def hX5_linksBetween_36 (f : Nat) (Φ : Int → aj_M → Prop) (K5 : List Nat → Int → Int → Int → Int → aj_M → Prop) (q0 : List Nat) (v1 : Int) (v2 : Int) (v3 : Int) (v4 : Int) (m : aj_M) : Prop := (0 ≤ v4 ∧ v4 < 144) ∧ rI (m (2 :: q0) v4.toNat) ∧ rI v2 ∧ (¬ (m (2 :: q0) v4.toNat) = v2 → K5 q0 v1 v2 v3 (v4 + 1) m) ∧ ((m (2 :: q0) v4.toNat) = v2 → (0 ≤ v4 ∧ v4 < 144) ∧ rI (m (3 :: q0) v4.toNat) ∧ rI v1 ∧ (¬ (m (3 :: q0) v4.toNat) = v1 → K5 q0 v1 v2 v3 (v4 + 1) m) ∧ ((m (3 :: q0) v4.toNat) = v1 → K5 q0 v1 v2 (v3 + 1) (v4 + 1) m))
set_option maxHeartbeats 4000000 in
set_option maxRecDepth 100000 in
theorem tX5_linksBetween_36 {X : aj_T} {n f : Nat} {Φ : Int → aj_M → Prop} (C : aj_Cx X cX5_linksBetween RX5 5 n) (K : aj_Rt X (some .int) (fun r m => ∃ z, r = some (vI z) ∧ Φ z m)) {K5 : List Nat → Int → Int → Int → Int → aj_M → Prop} (HK5 : ∀ (q0 : List Nat) (v1 : Int) (v2 : Int) (v3 : Int) (v4 : Int) (m : aj_M) (hq0 : (.inl (5, q0) : aj_R) ∈ aj_pls), K5 q0 v1 v2 v3 v4 m → aj_J X 5 [some (vO 5 q0), some (vI v1), some (vI v2), some (vI v3), some (vI v4)] [] m) (q0 : List Nat) (v1 : Int) (v2 : Int) (v3 : Int) (v4 : Int) (m : aj_M) (hq0 : (.inl (5, q0) : aj_R) ∈ aj_pls) (h : hX5_linksBetween_36 f Φ K5 q0 v1 v2 v3 v4 m) : aj_J X 36 [some (vO 5 q0), some (vI v1), some (vI v2), some (vI v3), some (vI v4)] [] m := by
  unfold hX5_linksBetween_36 at h
  refine aj_aload_n C dX5_linksBetween_36 rfl ?_
  refine aj_getA (x := 0) (y := 144) C flX5_18 hq0 rfl dX5_linksBetween_37 ?_
  refine aj_iload C dX5_linksBetween_40 rfl ?_
  obtain ⟨r0, h⟩ := h
  refine aj_iald C (aj_ca (e := 0) (n := 144) (j := 2) hq0 (by decide) rfl) (by decide) r0 dX5_linksBetween_42 rfl ?_
  refine aj_iload_n C dX5_linksBetween_43 rfl ?_
  obtain ⟨r0, r1, h1, h2⟩ := h
  refine aj_icmp_ne (tgt := 61) C dX5_linksBetween_44 (by decide) r0 r1 (fun e => ?_) (fun e => ?_)
  · have h := h1 e
    refine aj_iinc (lv' := [some (vO 5 q0), some (vI v1), some (vI v2), some (vI v3), some (vI (v4 + 1))]) C dX5_linksBetween_61 rfl (by decide) rfl ?_
    refine aj_goto (tgt := 5) C dX5_linksBetween_64 (by decide) ?_
    exact HK5 q0 v1 v2 v3 (v4 + 1) _ hq0 h
  · have h := h2 e
    refine aj_aload_n C dX5_linksBetween_47 rfl ?_
    refine aj_getA (x := 0) (y := 144) C flX5_22 hq0 rfl dX5_linksBetween_48 ?_
    refine aj_iload C dX5_linksBetween_51 rfl ?_
    obtain ⟨r0, h⟩ := h
    refine aj_iald C (aj_ca (e := 0) (n := 144) (j := 3) hq0 (by decide) rfl) (by decide) r0 dX5_linksBetween_53 rfl ?_
    refine aj_iload_n C dX5_linksBetween_54 rfl ?_
    obtain ⟨r0, r1, h1, h2⟩ := h
    refine aj_icmp_ne (tgt := 61) C dX5_linksBetween_55 (by decide) r0 r1 (fun e => ?_) (fun e => ?_)
    · have h := h1 e
      refine aj_iinc (lv' := [some (vO 5 q0), some (vI v1), some (vI v2), some (vI v3), some (vI (v4 + 1))]) C dX5_linksBetween_61 rfl (by decide) rfl ?_
      refine aj_goto (tgt := 5) C dX5_linksBetween_64 (by decide) ?_
      exact HK5 q0 v1 v2 v3 (v4 + 1) _ hq0 h
    · have h := h2 e
      refine aj_iinc (lv' := [some (vO 5 q0), some (vI v1), some (vI v2), some (vI (v3 + 1)), some (vI v4)]) C dX5_linksBetween_58 rfl (by decide) rfl ?_
      refine aj_iinc (lv' := [some (vO 5 q0), some (vI v1), some (vI v2), some (vI (v3 + 1)), some (vI (v4 + 1))]) C dX5_linksBetween_61 rfl (by decide) rfl ?_
      refine aj_goto (tgt := 5) C dX5_linksBetween_64 (by decide) ?_
      exact HK5 q0 v1 v2 (v3 + 1) (v4 + 1) _ hq0 h
def hX5_linksBetween_5 (f : Nat) (Φ : Int → aj_M → Prop) : Nat → List Nat → Int → Int → Int → Int → aj_M → Prop
  | 0, _, _, _, _, _, _ => False
  | k + 1, q0, v1, v2, v3, v4, m => rI v4 ∧ rI (m q0 1) ∧ ((m q0 1) ≤ v4 → Φ v3 m) ∧ (¬ ((m q0 1) ≤ v4) → (0 ≤ v4 ∧ v4 < 144) ∧ rI (m (2 :: q0) v4.toNat) ∧ rI v1 ∧ (¬ (m (2 :: q0) v4.toNat) = v1 → hX5_linksBetween_36 f Φ (fun q0 v1 v2 v3 v4 m => hX5_linksBetween_5 f Φ k q0 v1 v2 v3 v4 m) q0 v1 v2 v3 v4 m) ∧ ((m (2 :: q0) v4.toNat) = v1 → (0 ≤ v4 ∧ v4 < 144) ∧ rI (m (3 :: q0) v4.toNat) ∧ rI v2 ∧ ((m (3 :: q0) v4.toNat) = v2 → hX5_linksBetween_5 f Φ k q0 v1 v2 (v3 + 1) (v4 + 1) m) ∧ (¬ ((m (3 :: q0) v4.toNat) = v2) → hX5_linksBetween_36 f Φ (fun q0 v1 v2 v3 v4 m => hX5_linksBetween_5 f Φ k q0 v1 v2 v3 v4 m) q0 v1 v2 v3 v4 m)))
set_option maxHeartbeats 4000000 in
set_option maxRecDepth 100000 in
theorem tX5_linksBetween_5 {X : aj_T} {n f : Nat} {Φ : Int → aj_M → Prop} (C : aj_Cx X cX5_linksBetween RX5 5 n) (K : aj_Rt X (some .int) (fun r m => ∃ z, r = some (vI z) ∧ Φ z m)) : ∀ (k : Nat) (q0 : List Nat) (v1 : Int) (v2 : Int) (v3 : Int) (v4 : Int) (m : aj_M) (hq0 : (.inl (5, q0) : aj_R) ∈ aj_pls), hX5_linksBetween_5 f Φ k q0 v1 v2 v3 v4 m → aj_J X 5 [some (vO 5 q0), some (vI v1), some (vI v2), some (vI v3), some (vI v4)] [] m := by
  intro k
  induction k with
  | zero =>
    intro q0 v1 v2 v3 v4 m _ h
    exact h.elim
  | succ k ih =>
    intro q0 v1 v2 v3 v4 m hq0 h
    unfold hX5_linksBetween_5 at h
    refine aj_iload C dX5_linksBetween_5 rfl ?_
    refine aj_aload_n C dX5_linksBetween_7 rfl ?_
    refine aj_getI C flX5_15 hq0 (by decide) dX5_linksBetween_8 rfl ?_
    obtain ⟨r0, r1, h1, h2⟩ := h
    refine aj_icmp_ge (tgt := 67) C dX5_linksBetween_11 (by decide) r0 r1 (fun e => ?_) (fun e => ?_)
    · have h := h1 e
      refine aj_iload_n C dX5_linksBetween_67 rfl ?_
      exact aj_iret C K dX5_linksBetween_68 ⟨_, rfl, h⟩
    · have h := h2 e
      refine aj_aload_n C dX5_linksBetween_14 rfl ?_
      refine aj_getA (x := 0) (y := 144) C flX5_18 hq0 rfl dX5_linksBetween_15 ?_
      refine aj_iload C dX5_linksBetween_18 rfl ?_
      obtain ⟨r0, h⟩ := h
      refine aj_iald C (aj_ca (e := 0) (n := 144) (j := 2) hq0 (by decide) rfl) (by decide) r0 dX5_linksBetween_20 rfl ?_
      refine aj_iload_n C dX5_linksBetween_21 rfl ?_
      obtain ⟨r0, r1, h1, h2⟩ := h
      refine aj_icmp_ne (tgt := 36) C dX5_linksBetween_22 (by decide) r0 r1 (fun e => ?_) (fun e => ?_)
      · have h := h1 e
        exact tX5_linksBetween_36 C K (fun q0 v1 v2 v3 v4 m hq0 hh => ih q0 v1 v2 v3 v4 m hq0 hh) q0 v1 v2 v3 v4 _ hq0 h
      · have h := h2 e
        refine aj_aload_n C dX5_linksBetween_25 rfl ?_
        refine aj_getA (x := 0) (y := 144) C flX5_22 hq0 rfl dX5_linksBetween_26 ?_
        refine aj_iload C dX5_linksBetween_29 rfl ?_
        obtain ⟨r0, h⟩ := h
        refine aj_iald C (aj_ca (e := 0) (n := 144) (j := 3) hq0 (by decide) rfl) (by decide) r0 dX5_linksBetween_31 rfl ?_
        refine aj_iload_n C dX5_linksBetween_32 rfl ?_
        obtain ⟨r0, r1, h1, h2⟩ := h
        refine aj_icmp_eq (tgt := 58) C dX5_linksBetween_33 (by decide) r0 r1 (fun e => ?_) (fun e => ?_)
        · have h := h1 e
          refine aj_iinc (lv' := [some (vO 5 q0), some (vI v1), some (vI v2), some (vI (v3 + 1)), some (vI v4)]) C dX5_linksBetween_58 rfl (by decide) rfl ?_
          refine aj_iinc (lv' := [some (vO 5 q0), some (vI v1), some (vI v2), some (vI (v3 + 1)), some (vI (v4 + 1))]) C dX5_linksBetween_61 rfl (by decide) rfl ?_
          refine aj_goto (tgt := 5) C dX5_linksBetween_64 (by decide) ?_
          exact ih q0 v1 v2 (v3 + 1) (v4 + 1) _ hq0 h
        · have h := h2 e
          exact tX5_linksBetween_36 C K (fun q0 v1 v2 v3 v4 m hq0 hh => ih q0 v1 v2 v3 v4 m hq0 hh) q0 v1 v2 v3 v4 _ hq0 h
def wX5_linksBetween (f : Nat) (Φ : Int → aj_M → Prop) (q0 : List Nat) (v1 : Int) (v2 : Int) (m : aj_M) : Prop := hX5_linksBetween_5 f Φ f q0 v1 v2 0 0 m
set_option maxHeartbeats 4000000 in
set_option maxRecDepth 100000 in
theorem sX5_linksBetween {n f : Nat} {Φ : Int → aj_M → Prop} {q0 : List Nat} {v1 : Int} {v2 : Int} {m : aj_M} (hq0 : (.inl (5, q0) : aj_R) ∈ aj_pls) (h : wX5_linksBetween f Φ q0 v1 v2 m) : aj_Ct n yX5_linksBetween cX5_linksBetween 5 (some .int) [vO 5 q0, vI v1, vI v2] m (fun r m => ∃ z, r = some (vI z) ∧ Φ z m) := by
  refine aj_met (lv := [some (vO 5 q0), some (vI v1), some (vI v2), none, none]) (by decide +kernel) rfl (Nat.le_of_ble_eq_true rfl) (fun X C K => ?_)
  unfold wX5_linksBetween at h
  refine aj_iconst C dX5_linksBetween_0 ?_
  refine aj_istore_n (lv' := [some (vO 5 q0), some (vI v1), some (vI v2), some (vI 0), none]) C dX5_linksBetween_1 (by decide) rfl ?_
  refine aj_iconst C dX5_linksBetween_2 ?_
  refine aj_istore (lv' := [some (vO 5 q0), some (vI v1), some (vI v2), some (vI 0), some (vI 0)]) C dX5_linksBetween_3 (by decide) rfl ?_
  exact tX5_linksBetween_5 C K f q0 v1 v2 0 0 _ hq0 h
theorem dX5_neighbourAt_0 : decode cX5_neighbourAt 0 = .ok (.aload_n 0, 1) := by decide +kernel
theorem dX5_neighbourAt_1 : decode cX5_neighbourAt 1 = .ok (.lconst 0, 1) := by decide +kernel
theorem dX5_neighbourAt_2 : decode cX5_neighbourAt 2 = .ok (.putfield 59, 3) := by decide +kernel
theorem dX5_neighbourAt_5 : decode cX5_neighbourAt 5 = .ok (.aload_n 0, 1) := by decide +kernel
theorem dX5_neighbourAt_6 : decode cX5_neighbourAt 6 = .ok (.getfield 38, 3) := by decide +kernel
theorem dX5_neighbourAt_9 : decode cX5_neighbourAt 9 = .ok (.iload_n 1, 1) := by decide +kernel
theorem dX5_neighbourAt_10 : decode cX5_neighbourAt 10 = .ok (.iaload, 1) := by decide +kernel
theorem dX5_neighbourAt_11 : decode cX5_neighbourAt 11 = .ok (.istore_n 3, 1) := by decide +kernel
theorem dX5_neighbourAt_12 : decode cX5_neighbourAt 12 = .ok (.iload_n 3, 1) := by decide +kernel
theorem dX5_neighbourAt_13 : decode cX5_neighbourAt 13 = .ok (.aload_n 0, 1) := by decide +kernel
theorem dX5_neighbourAt_14 : decode cX5_neighbourAt 14 = .ok (.getfield 38, 3) := by decide +kernel
theorem dX5_neighbourAt_17 : decode cX5_neighbourAt 17 = .ok (.iload_n 1, 1) := by decide +kernel
theorem dX5_neighbourAt_18 : decode cX5_neighbourAt 18 = .ok (.iconst 1, 1) := by decide +kernel
theorem dX5_neighbourAt_19 : decode cX5_neighbourAt 19 = .ok (.iadd, 1) := by decide +kernel
theorem dX5_neighbourAt_20 : decode cX5_neighbourAt 20 = .ok (.iaload, 1) := by decide +kernel
theorem dX5_neighbourAt_21 : decode cX5_neighbourAt 21 = .ok (.if_icmp .ge 31, 3) := by decide +kernel
theorem dX5_neighbourAt_24 : decode cX5_neighbourAt 24 = .ok (.aload_n 0, 1) := by decide +kernel
theorem dX5_neighbourAt_25 : decode cX5_neighbourAt 25 = .ok (.dup, 1) := by decide +kernel
theorem dX5_neighbourAt_26 : decode cX5_neighbourAt 26 = .ok (.getfield 59, 3) := by decide +kernel
theorem dX5_neighbourAt_29 : decode cX5_neighbourAt 29 = .ok (.lconst 1, 1) := by decide +kernel
theorem dX5_neighbourAt_30 : decode cX5_neighbourAt 30 = .ok (.aload_n 0, 1) := by decide +kernel
theorem dX5_neighbourAt_31 : decode cX5_neighbourAt 31 = .ok (.aload_n 0, 1) := by decide +kernel
theorem dX5_neighbourAt_32 : decode cX5_neighbourAt 32 = .ok (.getfield 41, 3) := by decide +kernel
theorem dX5_neighbourAt_35 : decode cX5_neighbourAt 35 = .ok (.iload_n 3, 1) := by decide +kernel
theorem dX5_neighbourAt_36 : decode cX5_neighbourAt 36 = .ok (.iaload, 1) := by decide +kernel
theorem dX5_neighbourAt_37 : decode cX5_neighbourAt 37 = .ok (.iload_n 1, 1) := by decide +kernel
theorem dX5_neighbourAt_38 : decode cX5_neighbourAt 38 = .ok (.invokevirtual 131, 3) := by decide +kernel
theorem dX5_neighbourAt_41 : decode cX5_neighbourAt 41 = .ok (.lshl, 1) := by decide +kernel
theorem dX5_neighbourAt_42 : decode cX5_neighbourAt 42 = .ok (.lor, 1) := by decide +kernel
theorem dX5_neighbourAt_43 : decode cX5_neighbourAt 43 = .ok (.putfield 59, 3) := by decide +kernel
theorem dX5_neighbourAt_46 : decode cX5_neighbourAt 46 = .ok (.iinc 3 1, 3) := by decide +kernel
theorem dX5_neighbourAt_49 : decode cX5_neighbourAt 49 = .ok (.goto (-37), 3) := by decide +kernel
theorem dX5_neighbourAt_52 : decode cX5_neighbourAt 52 = .ok (.aload_n 0, 1) := by decide +kernel
theorem dX5_neighbourAt_53 : decode cX5_neighbourAt 53 = .ok (.dup, 1) := by decide +kernel
theorem dX5_neighbourAt_54 : decode cX5_neighbourAt 54 = .ok (.getfield 59, 3) := by decide +kernel
theorem dX5_neighbourAt_57 : decode cX5_neighbourAt 57 = .ok (.lconst 1, 1) := by decide +kernel
theorem dX5_neighbourAt_58 : decode cX5_neighbourAt 58 = .ok (.iload_n 1, 1) := by decide +kernel
theorem dX5_neighbourAt_59 : decode cX5_neighbourAt 59 = .ok (.lshl, 1) := by decide +kernel
theorem dX5_neighbourAt_60 : decode cX5_neighbourAt 60 = .ok (.ldc2_w 134, 3) := by decide +kernel
theorem dX5_neighbourAt_63 : decode cX5_neighbourAt 63 = .ok (.lxor, 1) := by decide +kernel
theorem dX5_neighbourAt_64 : decode cX5_neighbourAt 64 = .ok (.land, 1) := by decide +kernel
theorem dX5_neighbourAt_65 : decode cX5_neighbourAt 65 = .ok (.putfield 59, 3) := by decide +kernel
theorem dX5_neighbourAt_68 : decode cX5_neighbourAt 68 = .ok (.iload_n 2, 1) := by decide +kernel
theorem dX5_neighbourAt_69 : decode cX5_neighbourAt 69 = .ok (.istore_n 3, 1) := by decide +kernel
theorem dX5_neighbourAt_70 : decode cX5_neighbourAt 70 = .ok (.iconst 0, 1) := by decide +kernel
theorem dX5_neighbourAt_71 : decode cX5_neighbourAt 71 = .ok (.istore 4, 2) := by decide +kernel
theorem dX5_neighbourAt_73 : decode cX5_neighbourAt 73 = .ok (.iload 4, 2) := by decide +kernel
theorem dX5_neighbourAt_75 : decode cX5_neighbourAt 75 = .ok (.aload_n 0, 1) := by decide +kernel
theorem dX5_neighbourAt_76 : decode cX5_neighbourAt 76 = .ok (.getfield 9, 3) := by decide +kernel
theorem dX5_neighbourAt_79 : decode cX5_neighbourAt 79 = .ok (.if_icmp .ge 33, 3) := by decide +kernel
theorem dX5_neighbourAt_82 : decode cX5_neighbourAt 82 = .ok (.aload_n 0, 1) := by decide +kernel
theorem dX5_neighbourAt_83 : decode cX5_neighbourAt 83 = .ok (.getfield 59, 3) := by decide +kernel
theorem dX5_neighbourAt_86 : decode cX5_neighbourAt 86 = .ok (.iload 4, 2) := by decide +kernel
theorem dX5_neighbourAt_88 : decode cX5_neighbourAt 88 = .ok (.lshr, 1) := by decide +kernel
theorem dX5_neighbourAt_89 : decode cX5_neighbourAt 89 = .ok (.lconst 1, 1) := by decide +kernel
theorem dX5_neighbourAt_90 : decode cX5_neighbourAt 90 = .ok (.land, 1) := by decide +kernel
theorem dX5_neighbourAt_91 : decode cX5_neighbourAt 91 = .ok (.lconst 1, 1) := by decide +kernel
theorem dX5_neighbourAt_92 : decode cX5_neighbourAt 92 = .ok (.lcmp, 1) := by decide +kernel
theorem dX5_neighbourAt_93 : decode cX5_neighbourAt 93 = .ok (.ifCond .ne 13, 3) := by decide +kernel
theorem dX5_neighbourAt_96 : decode cX5_neighbourAt 96 = .ok (.iload_n 3, 1) := by decide +kernel
theorem dX5_neighbourAt_97 : decode cX5_neighbourAt 97 = .ok (.ifCond .ne 6, 3) := by decide +kernel
theorem dX5_neighbourAt_100 : decode cX5_neighbourAt 100 = .ok (.iload 4, 2) := by decide +kernel
theorem dX5_neighbourAt_102 : decode cX5_neighbourAt 102 = .ok (.ireturn, 1) := by decide +kernel
theorem dX5_neighbourAt_103 : decode cX5_neighbourAt 103 = .ok (.iinc 3 (-1), 3) := by decide +kernel
theorem dX5_neighbourAt_106 : decode cX5_neighbourAt 106 = .ok (.iinc 4 1, 3) := by decide +kernel
theorem dX5_neighbourAt_109 : decode cX5_neighbourAt 109 = .ok (.goto (-36), 3) := by decide +kernel
theorem dX5_neighbourAt_112 : decode cX5_neighbourAt 112 = .ok (.iconst (-1), 1) := by decide +kernel
theorem dX5_neighbourAt_113 : decode cX5_neighbourAt 113 = .ok (.ireturn, 1) := by decide +kernel
def hX5_neighbourAt_73 (f : Nat) (Φ : Int → aj_M → Prop) : Nat → List Nat → Int → Int → aj_M → Prop
  | 0, _, _, _, _ => False
  | k + 1, q0, v3, v4, m => rI v4 ∧ rI (m q0 0) ∧ ((m q0 0) ≤ v4 → Φ (-1) m) ∧ (¬ ((m q0 0) ≤ v4) → rL (aj_landL (aj_lshr (m q0 15) v4) 1) ∧ (¬ (aj_landL (aj_lshr (m q0 15) v4) 1) = 1 → hX5_neighbourAt_73 f Φ k q0 v3 (v4 + 1) m) ∧ ((aj_landL (aj_lshr (m q0 15) v4) 1) = 1 → rI v3 ∧ (¬ v3 = 0 → hX5_neighbourAt_73 f Φ k q0 (v3 + (-1)) (v4 + 1) m) ∧ (v3 = 0 → Φ v4 m)))
set_option maxHeartbeats 4000000 in
set_option maxRecDepth 100000 in
theorem tX5_neighbourAt_73 {X : aj_T} {n f : Nat} {Φ : Int → aj_M → Prop} (C : aj_Cx X cX5_neighbourAt RX5 5 (n + 1)) (K : aj_Rt X (some .int) (fun r m => ∃ z, r = some (vI z) ∧ Φ z m)) : ∀ (k : Nat) (q0 : List Nat) (v3 : Int) (v4 : Int) (m : aj_M) (hq0 : (.inl (5, q0) : aj_R) ∈ aj_pls), hX5_neighbourAt_73 f Φ k q0 v3 v4 m → aj_J X 73 [some (vO 5 q0), none, none, some (vI v3), some (vI v4)] [] m := by
  intro k
  induction k with
  | zero =>
    intro q0 v3 v4 m _ h
    exact h.elim
  | succ k ih =>
    intro q0 v3 v4 m hq0 h
    unfold hX5_neighbourAt_73 at h
    refine aj_iload C dX5_neighbourAt_73 rfl ?_
    refine aj_aload_n C dX5_neighbourAt_75 rfl ?_
    refine aj_getI C flX5_9 hq0 (by decide) dX5_neighbourAt_76 rfl ?_
    obtain ⟨r0, r1, h1, h2⟩ := h
    refine aj_icmp_ge (tgt := 112) C dX5_neighbourAt_79 (by decide) r0 r1 (fun e => ?_) (fun e => ?_)
    · have h := h1 e
      refine aj_iconst C dX5_neighbourAt_112 ?_
      exact aj_iret C K dX5_neighbourAt_113 ⟨_, rfl, h⟩
    · have h := h2 e
      refine aj_aload_n C dX5_neighbourAt_82 rfl ?_
      refine aj_getL C flX5_59 hq0 rfl dX5_neighbourAt_83 rfl ?_
      refine aj_iload C dX5_neighbourAt_86 rfl ?_
      refine aj_lshr_ C dX5_neighbourAt_88 ?_
      refine aj_lconst (z := 1) C dX5_neighbourAt_89 rfl ?_
      refine aj_land C dX5_neighbourAt_90 ?_
      refine aj_lconst (z := 1) C dX5_neighbourAt_91 rfl ?_
      obtain ⟨r0, h1, h2⟩ := h
      refine aj_lcmp_ne (tgt := 106) C dX5_neighbourAt_92 dX5_neighbourAt_93 (by decide) r0 (by decide) (fun e => ?_) (fun e => ?_)
      · have h := h1 e
        refine aj_iinc (lv' := [some (vO 5 q0), none, none, some (vI v3), some (vI (v4 + 1))]) C dX5_neighbourAt_106 rfl (by decide) rfl ?_
        refine aj_goto (tgt := 73) C dX5_neighbourAt_109 (by decide) ?_
        exact ih q0 v3 (v4 + 1) _ hq0 h
      · have h := h2 e
        refine aj_iload_n C dX5_neighbourAt_96 rfl ?_
        obtain ⟨r0, h1, h2⟩ := h
        refine aj_if_ne (tgt := 103) C dX5_neighbourAt_97 (by decide) r0 (fun e => ?_) (fun e => ?_)
        · have h := h1 e
          refine aj_iinc (lv' := [some (vO 5 q0), none, none, some (vI (v3 + (-1))), some (vI v4)]) C dX5_neighbourAt_103 rfl (by decide) rfl ?_
          refine aj_iinc (lv' := [some (vO 5 q0), none, none, some (vI (v3 + (-1))), some (vI (v4 + 1))]) C dX5_neighbourAt_106 rfl (by decide) rfl ?_
          refine aj_goto (tgt := 73) C dX5_neighbourAt_109 (by decide) ?_
          exact ih q0 (v3 + (-1)) (v4 + 1) _ hq0 h
        · have h := h2 e
          refine aj_iload C dX5_neighbourAt_100 rfl ?_
          exact aj_iret C K dX5_neighbourAt_102 ⟨_, rfl, h⟩
def hX5_neighbourAt_12 (f : Nat) (Φ : Int → aj_M → Prop) : Nat → List Nat → Int → Int → Int → aj_M → Prop
  | 0, _, _, _, _, _ => False
  | k + 1, q0, v1, v2, v3, m => (0 ≤ (v1 + 1) ∧ (v1 + 1) < 62) ∧ rI v3 ∧ rI (m (8 :: q0) (v1 + 1).toNat) ∧ ((m (8 :: q0) (v1 + 1).toNat) ≤ v3 → ∀ m1, m1 = aj_u m q0 15 (aj_landL (m q0 15) (aj_lxorL (aj_lshl 1 v1) (-1))) → hX5_neighbourAt_73 f Φ f q0 v2 0 m1) ∧ (¬ ((m (8 :: q0) (v1 + 1).toNat) ≤ v3) → (0 ≤ v3 ∧ v3 < 288) ∧ wX5_otherEnd f (fun z1 m2 => ∀ m3, m3 = aj_u m2 q0 15 (aj_lorL (m q0 15) (aj_lshl 1 z1)) → hX5_neighbourAt_12 f Φ k q0 v1 v2 (v3 + 1) m3) q0 (m (9 :: q0) v3.toNat) v1 m)
set_option maxHeartbeats 4000000 in
set_option maxRecDepth 100000 in
theorem tX5_neighbourAt_12 {X : aj_T} {n f : Nat} {Φ : Int → aj_M → Prop} (C : aj_Cx X cX5_neighbourAt RX5 5 (n + 1)) (K : aj_Rt X (some .int) (fun r m => ∃ z, r = some (vI z) ∧ Φ z m)) : ∀ (k : Nat) (q0 : List Nat) (v1 : Int) (v2 : Int) (v3 : Int) (m : aj_M) (hq0 : (.inl (5, q0) : aj_R) ∈ aj_pls), hX5_neighbourAt_12 f Φ k q0 v1 v2 v3 m → aj_J X 12 [some (vO 5 q0), some (vI v1), some (vI v2), some (vI v3), none] [] m := by
  intro k
  induction k with
  | zero =>
    intro q0 v1 v2 v3 m _ h
    exact h.elim
  | succ k ih =>
    intro q0 v1 v2 v3 m hq0 h
    unfold hX5_neighbourAt_12 at h
    refine aj_iload_n C dX5_neighbourAt_12 rfl ?_
    refine aj_aload_n C dX5_neighbourAt_13 rfl ?_
    refine aj_getA (x := 0) (y := 62) C flX5_38 hq0 rfl dX5_neighbourAt_14 ?_
    refine aj_iload_n C dX5_neighbourAt_17 rfl ?_
    refine aj_iconst C dX5_neighbourAt_18 ?_
    refine aj_iadd C dX5_neighbourAt_19 ?_
    obtain ⟨r0, h⟩ := h
    refine aj_iald C (aj_ca (e := 0) (n := 62) (j := 8) hq0 (by decide) rfl) (by decide) r0 dX5_neighbourAt_20 rfl ?_
    obtain ⟨r0, r1, h1, h2⟩ := h
    refine aj_icmp_ge (tgt := 52) C dX5_neighbourAt_21 (by decide) r0 r1 (fun e => ?_) (fun e => ?_)
    · have h := h1 e
      refine aj_aload_n C dX5_neighbourAt_52 rfl ?_
      refine aj_dup C aj_nR dX5_neighbourAt_53 ?_
      refine aj_getL C flX5_59 hq0 rfl dX5_neighbourAt_54 rfl ?_
      refine aj_lconst (z := 1) C dX5_neighbourAt_57 rfl ?_
      refine aj_iload_n C dX5_neighbourAt_58 rfl ?_
      refine aj_lshl_ C dX5_neighbourAt_59 ?_
      refine aj_ldc2 (z := (-1)) C (aj_mem 1131 (by decide +kernel) (by decide +kernel)) rfl dX5_neighbourAt_60 ?_
      refine aj_lxor C dX5_neighbourAt_63 ?_
      refine aj_land C dX5_neighbourAt_64 ?_
      refine aj_putL C fpX5_59 hq0 rfl dX5_neighbourAt_65 ?_
      refine aj_nm (fun m1 e1 => ?_)
      have h := h m1 e1
      refine aj_iload_n C dX5_neighbourAt_68 rfl ?_
      refine aj_istore_n (lv' := [some (vO 5 q0), some (vI v1), some (vI v2), some (vI v2), none]) C dX5_neighbourAt_69 (by decide) rfl ?_
      refine aj_iconst C dX5_neighbourAt_70 ?_
      refine aj_istore (lv' := [some (vO 5 q0), some (vI v1), some (vI v2), some (vI v2), some (vI 0)]) C dX5_neighbourAt_71 (by decide) rfl ?_
      refine aj_wk (lv' := [some (vO 5 q0), none, none, some (vI v2), some (vI 0)]) (⟨rfl, ⟨rfl, ⟨rfl, trivial⟩⟩⟩) ?_
      exact tX5_neighbourAt_73 C K f q0 v2 0 _ hq0 h
    · have h := h2 e
      refine aj_aload_n C dX5_neighbourAt_24 rfl ?_
      refine aj_dup C aj_nR dX5_neighbourAt_25 ?_
      refine aj_getL C flX5_59 hq0 rfl dX5_neighbourAt_26 rfl ?_
      refine aj_lconst (z := 1) C dX5_neighbourAt_29 rfl ?_
      refine aj_aload_n C dX5_neighbourAt_30 rfl ?_
      refine aj_aload_n C dX5_neighbourAt_31 rfl ?_
      refine aj_getA (x := 0) (y := 288) C flX5_41 hq0 rfl dX5_neighbourAt_32 ?_
      refine aj_iload_n C dX5_neighbourAt_35 rfl ?_
      obtain ⟨r0, h⟩ := h
      refine aj_iald C (aj_ca (e := 0) (n := 288) (j := 9) hq0 (by decide) rfl) (by decide) r0 dX5_neighbourAt_36 rfl ?_
      refine aj_iload_n C dX5_neighbourAt_37 rfl ?_
      refine aj_callV (rest := [vL 1, vL (m q0 15), vO 5 q0]) C mvX5_131 (sX5_otherEnd hq0 h) hq0 (aj_np 2 (by decide +kernel) rfl) (Nat.le_of_ble_eq_true rfl) rfl dX5_neighbourAt_38 (fun r m2 h => ?_)
      obtain ⟨z1, rfl, h⟩ := h
      refine aj_lshl_ C dX5_neighbourAt_41 ?_
      refine aj_lor C dX5_neighbourAt_42 ?_
      refine aj_putL C fpX5_59 hq0 rfl dX5_neighbourAt_43 ?_
      refine aj_nm (fun m3 e1 => ?_)
      have h := h m3 e1
      refine aj_iinc (lv' := [some (vO 5 q0), some (vI v1), some (vI v2), some (vI (v3 + 1)), none]) C dX5_neighbourAt_46 rfl (by decide) rfl ?_
      refine aj_goto (tgt := 12) C dX5_neighbourAt_49 (by decide) ?_
      exact ih q0 v1 v2 (v3 + 1) _ hq0 h
def wX5_neighbourAt (f : Nat) (Φ : Int → aj_M → Prop) (q0 : List Nat) (v1 : Int) (v2 : Int) (m : aj_M) : Prop := ∀ m1, m1 = aj_u m q0 15 0 → (0 ≤ v1 ∧ v1 < 62) ∧ hX5_neighbourAt_12 f Φ f q0 v1 v2 (m1 (8 :: q0) v1.toNat) m1
set_option maxHeartbeats 4000000 in
set_option maxRecDepth 100000 in
theorem sX5_neighbourAt {n f : Nat} {Φ : Int → aj_M → Prop} {q0 : List Nat} {v1 : Int} {v2 : Int} {m : aj_M} (hq0 : (.inl (5, q0) : aj_R) ∈ aj_pls) (h : wX5_neighbourAt f Φ q0 v1 v2 m) : aj_Ct (n + 1) yX5_neighbourAt cX5_neighbourAt 5 (some .int) [vO 5 q0, vI v1, vI v2] m (fun r m => ∃ z, r = some (vI z) ∧ Φ z m) := by
  refine aj_met (lv := [some (vO 5 q0), some (vI v1), some (vI v2), none, none]) (by decide +kernel) rfl (Nat.le_of_ble_eq_true rfl) (fun X C K => ?_)
  unfold wX5_neighbourAt at h
  refine aj_aload_n C dX5_neighbourAt_0 rfl ?_
  refine aj_lconst (z := 0) C dX5_neighbourAt_1 rfl ?_
  refine aj_putL C fpX5_59 hq0 rfl dX5_neighbourAt_2 ?_
  refine aj_nm (fun m1 e1 => ?_)
  have h := h m1 e1
  refine aj_aload_n C dX5_neighbourAt_5 rfl ?_
  refine aj_getA (x := 0) (y := 62) C flX5_38 hq0 rfl dX5_neighbourAt_6 ?_
  refine aj_iload_n C dX5_neighbourAt_9 rfl ?_
  obtain ⟨r0, h⟩ := h
  refine aj_iald C (aj_ca (e := 0) (n := 62) (j := 8) hq0 (by decide) rfl) (by decide) r0 dX5_neighbourAt_10 rfl ?_
  refine aj_istore_n (lv' := [some (vO 5 q0), some (vI v1), some (vI v2), some (vI (m1 (8 :: q0) v1.toNat)), none]) C dX5_neighbourAt_11 (by decide) rfl ?_
  exact tX5_neighbourAt_12 C K f q0 v1 v2 (m1 (8 :: q0) v1.toNat) _ hq0 h
theorem dX5_commonDegree_0 : decode cX5_commonDegree 0 = .ok (.iconst 1, 1) := by decide +kernel
theorem dX5_commonDegree_1 : decode cX5_commonDegree 1 = .ok (.istore_n 1, 1) := by decide +kernel
theorem dX5_commonDegree_2 : decode cX5_commonDegree 2 = .ok (.iload_n 1, 1) := by decide +kernel
theorem dX5_commonDegree_3 : decode cX5_commonDegree 3 = .ok (.aload_n 0, 1) := by decide +kernel
theorem dX5_commonDegree_4 : decode cX5_commonDegree 4 = .ok (.getfield 9, 3) := by decide +kernel
theorem dX5_commonDegree_7 : decode cX5_commonDegree 7 = .ok (.if_icmp .ge 24, 3) := by decide +kernel
theorem dX5_commonDegree_10 : decode cX5_commonDegree 10 = .ok (.aload_n 0, 1) := by decide +kernel
theorem dX5_commonDegree_11 : decode cX5_commonDegree 11 = .ok (.iload_n 1, 1) := by decide +kernel
theorem dX5_commonDegree_12 : decode cX5_commonDegree 12 = .ok (.invokevirtual 136, 3) := by decide +kernel
theorem dX5_commonDegree_15 : decode cX5_commonDegree 15 = .ok (.aload_n 0, 1) := by decide +kernel
theorem dX5_commonDegree_16 : decode cX5_commonDegree 16 = .ok (.iconst 0, 1) := by decide +kernel
theorem dX5_commonDegree_17 : decode cX5_commonDegree 17 = .ok (.invokevirtual 136, 3) := by decide +kernel
theorem dX5_commonDegree_20 : decode cX5_commonDegree 20 = .ok (.if_icmp .eq 5, 3) := by decide +kernel
theorem dX5_commonDegree_23 : decode cX5_commonDegree 23 = .ok (.iconst (-1), 1) := by decide +kernel
theorem dX5_commonDegree_24 : decode cX5_commonDegree 24 = .ok (.ireturn, 1) := by decide +kernel
theorem dX5_commonDegree_25 : decode cX5_commonDegree 25 = .ok (.iinc 1 1, 3) := by decide +kernel
theorem dX5_commonDegree_28 : decode cX5_commonDegree 28 = .ok (.goto (-26), 3) := by decide +kernel
theorem dX5_commonDegree_31 : decode cX5_commonDegree 31 = .ok (.aload_n 0, 1) := by decide +kernel
theorem dX5_commonDegree_32 : decode cX5_commonDegree 32 = .ok (.iconst 0, 1) := by decide +kernel
theorem dX5_commonDegree_33 : decode cX5_commonDegree 33 = .ok (.invokevirtual 136, 3) := by decide +kernel
theorem dX5_commonDegree_36 : decode cX5_commonDegree 36 = .ok (.ireturn, 1) := by decide +kernel
def hX5_commonDegree_2 (f : Nat) (Φ : Int → aj_M → Prop) : Nat → List Nat → Int → aj_M → Prop
  | 0, _, _, _ => False
  | k + 1, q0, v1, m => rI v1 ∧ rI (m q0 0) ∧ ((m q0 0) ≤ v1 → wX5_endsAt f (fun z1 m1 => Φ z1 m1) q0 0 m) ∧ (¬ ((m q0 0) ≤ v1) → wX5_endsAt f (fun z2 m2 => wX5_endsAt f (fun z3 m3 => rI z2 ∧ rI z3 ∧ (z2 = z3 → hX5_commonDegree_2 f Φ k q0 (v1 + 1) m3) ∧ (¬ (z2 = z3) → Φ (-1) m3)) q0 0 m2) q0 v1 m)
set_option maxHeartbeats 4000000 in
set_option maxRecDepth 100000 in
theorem tX5_commonDegree_2 {X : aj_T} {n f : Nat} {Φ : Int → aj_M → Prop} (C : aj_Cx X cX5_commonDegree RX5 2 (n + 1)) (K : aj_Rt X (some .int) (fun r m => ∃ z, r = some (vI z) ∧ Φ z m)) : ∀ (k : Nat) (q0 : List Nat) (v1 : Int) (m : aj_M) (hq0 : (.inl (5, q0) : aj_R) ∈ aj_pls), hX5_commonDegree_2 f Φ k q0 v1 m → aj_J X 2 [some (vO 5 q0), some (vI v1)] [] m := by
  intro k
  induction k with
  | zero =>
    intro q0 v1 m _ h
    exact h.elim
  | succ k ih =>
    intro q0 v1 m hq0 h
    unfold hX5_commonDegree_2 at h
    refine aj_iload_n C dX5_commonDegree_2 rfl ?_
    refine aj_aload_n C dX5_commonDegree_3 rfl ?_
    refine aj_getI C flX5_9 hq0 (by decide) dX5_commonDegree_4 rfl ?_
    obtain ⟨r0, r1, h1, h2⟩ := h
    refine aj_icmp_ge (tgt := 31) C dX5_commonDegree_7 (by decide) r0 r1 (fun e => ?_) (fun e => ?_)
    · have h := h1 e
      refine aj_aload_n C dX5_commonDegree_31 rfl ?_
      refine aj_iconst C dX5_commonDegree_32 ?_
      refine aj_callV (rest := []) C mvX5_136 (sX5_endsAt hq0 h) hq0 (aj_np 1 (by decide +kernel) rfl) (Nat.le_of_ble_eq_true rfl) rfl dX5_commonDegree_33 (fun r m1 h => ?_)
      obtain ⟨z1, rfl, h⟩ := h
      exact aj_iret C K dX5_commonDegree_36 ⟨_, rfl, h⟩
    · have h := h2 e
      refine aj_aload_n C dX5_commonDegree_10 rfl ?_
      refine aj_iload_n C dX5_commonDegree_11 rfl ?_
      refine aj_callV (rest := []) C mvX5_136 (sX5_endsAt hq0 h) hq0 (aj_np 1 (by decide +kernel) rfl) (Nat.le_of_ble_eq_true rfl) rfl dX5_commonDegree_12 (fun r m2 h => ?_)
      obtain ⟨z2, rfl, h⟩ := h
      refine aj_aload_n C dX5_commonDegree_15 rfl ?_
      refine aj_iconst C dX5_commonDegree_16 ?_
      refine aj_callV (rest := [vI z2]) C mvX5_136 (sX5_endsAt hq0 h) hq0 (aj_np 1 (by decide +kernel) rfl) (Nat.le_of_ble_eq_true rfl) rfl dX5_commonDegree_17 (fun r m3 h => ?_)
      obtain ⟨z3, rfl, h⟩ := h
      obtain ⟨r0, r1, h1, h2⟩ := h
      refine aj_icmp_eq (tgt := 25) C dX5_commonDegree_20 (by decide) r0 r1 (fun e => ?_) (fun e => ?_)
      · have h := h1 e
        refine aj_iinc (lv' := [some (vO 5 q0), some (vI (v1 + 1))]) C dX5_commonDegree_25 rfl (by decide) rfl ?_
        refine aj_goto (tgt := 2) C dX5_commonDegree_28 (by decide) ?_
        exact ih q0 (v1 + 1) _ hq0 h
      · have h := h2 e
        refine aj_iconst C dX5_commonDegree_23 ?_
        exact aj_iret C K dX5_commonDegree_24 ⟨_, rfl, h⟩
def wX5_commonDegree (f : Nat) (Φ : Int → aj_M → Prop) (q0 : List Nat) (m : aj_M) : Prop := hX5_commonDegree_2 f Φ f q0 1 m
set_option maxHeartbeats 4000000 in
set_option maxRecDepth 100000 in
theorem sX5_commonDegree {n f : Nat} {Φ : Int → aj_M → Prop} {q0 : List Nat} {m : aj_M} (hq0 : (.inl (5, q0) : aj_R) ∈ aj_pls) (h : wX5_commonDegree f Φ q0 m) : aj_Ct (n + 1) yX5_commonDegree cX5_commonDegree 2 (some .int) [vO 5 q0] m (fun r m => ∃ z, r = some (vI z) ∧ Φ z m) := by
  refine aj_met (lv := [some (vO 5 q0), none]) (by decide +kernel) rfl (Nat.le_of_ble_eq_true rfl) (fun X C K => ?_)
  unfold wX5_commonDegree at h
  refine aj_iconst C dX5_commonDegree_0 ?_
  refine aj_istore_n (lv' := [some (vO 5 q0), some (vI 1)]) C dX5_commonDegree_1 (by decide) rfl ?_
  exact tX5_commonDegree_2 C K f q0 1 _ hq0 h
theorem dX5_spread_0 : decode cX5_spread 0 = .ok (.aload_n 0, 1) := by decide +kernel
theorem dX5_spread_1 : decode cX5_spread 1 = .ok (.getfield 44, 3) := by decide +kernel
theorem dX5_spread_4 : decode cX5_spread 4 = .ok (.iconst (-1), 1) := by decide +kernel
theorem dX5_spread_5 : decode cX5_spread 5 = .ok (.invokestatic 125, 3) := by decide +kernel
theorem dX5_spread_8 : decode cX5_spread 8 = .ok (.aload_n 0, 1) := by decide +kernel
theorem dX5_spread_9 : decode cX5_spread 9 = .ok (.getfield 44, 3) := by decide +kernel
theorem dX5_spread_12 : decode cX5_spread 12 = .ok (.iload_n 1, 1) := by decide +kernel
theorem dX5_spread_13 : decode cX5_spread 13 = .ok (.iconst 0, 1) := by decide +kernel
theorem dX5_spread_14 : decode cX5_spread 14 = .ok (.iastore, 1) := by decide +kernel
theorem dX5_spread_15 : decode cX5_spread 15 = .ok (.aload_n 0, 1) := by decide +kernel
theorem dX5_spread_16 : decode cX5_spread 16 = .ok (.getfield 50, 3) := by decide +kernel
theorem dX5_spread_19 : decode cX5_spread 19 = .ok (.iload_n 1, 1) := by decide +kernel
theorem dX5_spread_20 : decode cX5_spread 20 = .ok (.iconst (-1), 1) := by decide +kernel
theorem dX5_spread_21 : decode cX5_spread 21 = .ok (.iastore, 1) := by decide +kernel
theorem dX5_spread_22 : decode cX5_spread 22 = .ok (.aload_n 0, 1) := by decide +kernel
theorem dX5_spread_23 : decode cX5_spread 23 = .ok (.getfield 53, 3) := by decide +kernel
theorem dX5_spread_26 : decode cX5_spread 26 = .ok (.iload_n 1, 1) := by decide +kernel
theorem dX5_spread_27 : decode cX5_spread 27 = .ok (.iload_n 1, 1) := by decide +kernel
theorem dX5_spread_28 : decode cX5_spread 28 = .ok (.iastore, 1) := by decide +kernel
theorem dX5_spread_29 : decode cX5_spread 29 = .ok (.aload_n 0, 1) := by decide +kernel
theorem dX5_spread_30 : decode cX5_spread 30 = .ok (.getfield 56, 3) := by decide +kernel
theorem dX5_spread_33 : decode cX5_spread 33 = .ok (.iconst 0, 1) := by decide +kernel
theorem dX5_spread_34 : decode cX5_spread 34 = .ok (.iload_n 1, 1) := by decide +kernel
theorem dX5_spread_35 : decode cX5_spread 35 = .ok (.iastore, 1) := by decide +kernel
theorem dX5_spread_36 : decode cX5_spread 36 = .ok (.iconst 1, 1) := by decide +kernel
theorem dX5_spread_37 : decode cX5_spread 37 = .ok (.istore_n 2, 1) := by decide +kernel
theorem dX5_spread_38 : decode cX5_spread 38 = .ok (.iconst 0, 1) := by decide +kernel
theorem dX5_spread_39 : decode cX5_spread 39 = .ok (.istore_n 3, 1) := by decide +kernel
theorem dX5_spread_40 : decode cX5_spread 40 = .ok (.iload_n 3, 1) := by decide +kernel
theorem dX5_spread_41 : decode cX5_spread 41 = .ok (.iload_n 2, 1) := by decide +kernel
theorem dX5_spread_42 : decode cX5_spread 42 = .ok (.if_icmp .ge 163, 3) := by decide +kernel
theorem dX5_spread_45 : decode cX5_spread 45 = .ok (.iload_n 3, 1) := by decide +kernel
theorem dX5_spread_46 : decode cX5_spread 46 = .ok (.bipush 60, 2) := by decide +kernel
theorem dX5_spread_48 : decode cX5_spread 48 = .ok (.if_icmp .ge 157, 3) := by decide +kernel
theorem dX5_spread_51 : decode cX5_spread 51 = .ok (.aload_n 0, 1) := by decide +kernel
theorem dX5_spread_52 : decode cX5_spread 52 = .ok (.getfield 56, 3) := by decide +kernel
theorem dX5_spread_55 : decode cX5_spread 55 = .ok (.iload_n 3, 1) := by decide +kernel
theorem dX5_spread_56 : decode cX5_spread 56 = .ok (.iaload, 1) := by decide +kernel
theorem dX5_spread_57 : decode cX5_spread 57 = .ok (.istore 4, 2) := by decide +kernel
theorem dX5_spread_59 : decode cX5_spread 59 = .ok (.aload_n 0, 1) := by decide +kernel
theorem dX5_spread_60 : decode cX5_spread 60 = .ok (.getfield 38, 3) := by decide +kernel
theorem dX5_spread_63 : decode cX5_spread 63 = .ok (.iload 4, 2) := by decide +kernel
theorem dX5_spread_65 : decode cX5_spread 65 = .ok (.iaload, 1) := by decide +kernel
theorem dX5_spread_66 : decode cX5_spread 66 = .ok (.istore 5, 2) := by decide +kernel
theorem dX5_spread_68 : decode cX5_spread 68 = .ok (.iload 5, 2) := by decide +kernel
theorem dX5_spread_70 : decode cX5_spread 70 = .ok (.aload_n 0, 1) := by decide +kernel
theorem dX5_spread_71 : decode cX5_spread 71 = .ok (.getfield 38, 3) := by decide +kernel
theorem dX5_spread_74 : decode cX5_spread 74 = .ok (.iload 4, 2) := by decide +kernel
theorem dX5_spread_76 : decode cX5_spread 76 = .ok (.iconst 1, 1) := by decide +kernel
theorem dX5_spread_77 : decode cX5_spread 77 = .ok (.iadd, 1) := by decide +kernel
theorem dX5_spread_78 : decode cX5_spread 78 = .ok (.iaload, 1) := by decide +kernel
theorem dX5_spread_79 : decode cX5_spread 79 = .ok (.if_icmp .ge 120, 3) := by decide +kernel
theorem dX5_spread_82 : decode cX5_spread 82 = .ok (.aload_n 0, 1) := by decide +kernel
theorem dX5_spread_83 : decode cX5_spread 83 = .ok (.aload_n 0, 1) := by decide +kernel
theorem dX5_spread_84 : decode cX5_spread 84 = .ok (.getfield 41, 3) := by decide +kernel
theorem dX5_spread_87 : decode cX5_spread 87 = .ok (.iload 5, 2) := by decide +kernel
theorem dX5_spread_89 : decode cX5_spread 89 = .ok (.iaload, 1) := by decide +kernel
theorem dX5_spread_90 : decode cX5_spread 90 = .ok (.iload 4, 2) := by decide +kernel
theorem dX5_spread_92 : decode cX5_spread 92 = .ok (.invokevirtual 131, 3) := by decide +kernel
theorem dX5_spread_95 : decode cX5_spread 95 = .ok (.istore 6, 2) := by decide +kernel
theorem dX5_spread_97 : decode cX5_spread 97 = .ok (.aload_n 0, 1) := by decide +kernel
theorem dX5_spread_98 : decode cX5_spread 98 = .ok (.getfield 44, 3) := by decide +kernel
theorem dX5_spread_101 : decode cX5_spread 101 = .ok (.iload 6, 2) := by decide +kernel
theorem dX5_spread_103 : decode cX5_spread 103 = .ok (.iaload, 1) := by decide +kernel
theorem dX5_spread_104 : decode cX5_spread 104 = .ok (.ifCond .ge 89, 3) := by decide +kernel
theorem dX5_spread_107 : decode cX5_spread 107 = .ok (.aload_n 0, 1) := by decide +kernel
theorem dX5_spread_108 : decode cX5_spread 108 = .ok (.getfield 63, 3) := by decide +kernel
theorem dX5_spread_111 : decode cX5_spread 111 = .ok (.iload 6, 2) := by decide +kernel
theorem dX5_spread_113 : decode cX5_spread 113 = .ok (.lshr, 1) := by decide +kernel
theorem dX5_spread_114 : decode cX5_spread 114 = .ok (.lconst 1, 1) := by decide +kernel
theorem dX5_spread_115 : decode cX5_spread 115 = .ok (.land, 1) := by decide +kernel
theorem dX5_spread_116 : decode cX5_spread 116 = .ok (.lconst 0, 1) := by decide +kernel
theorem dX5_spread_117 : decode cX5_spread 117 = .ok (.lcmp, 1) := by decide +kernel
theorem dX5_spread_118 : decode cX5_spread 118 = .ok (.ifCond .ne 75, 3) := by decide +kernel
theorem dX5_spread_121 : decode cX5_spread 121 = .ok (.iload_n 2, 1) := by decide +kernel
theorem dX5_spread_122 : decode cX5_spread 122 = .ok (.bipush 60, 2) := by decide +kernel
theorem dX5_spread_124 : decode cX5_spread 124 = .ok (.if_icmp .ge 69, 3) := by decide +kernel
theorem dX5_spread_127 : decode cX5_spread 127 = .ok (.aload_n 0, 1) := by decide +kernel
theorem dX5_spread_128 : decode cX5_spread 128 = .ok (.getfield 44, 3) := by decide +kernel
theorem dX5_spread_131 : decode cX5_spread 131 = .ok (.iload 6, 2) := by decide +kernel
theorem dX5_spread_133 : decode cX5_spread 133 = .ok (.aload_n 0, 1) := by decide +kernel
theorem dX5_spread_134 : decode cX5_spread 134 = .ok (.getfield 44, 3) := by decide +kernel
theorem dX5_spread_137 : decode cX5_spread 137 = .ok (.iload 4, 2) := by decide +kernel
theorem dX5_spread_139 : decode cX5_spread 139 = .ok (.iaload, 1) := by decide +kernel
theorem dX5_spread_140 : decode cX5_spread 140 = .ok (.iconst 1, 1) := by decide +kernel
theorem dX5_spread_141 : decode cX5_spread 141 = .ok (.iadd, 1) := by decide +kernel
theorem dX5_spread_142 : decode cX5_spread 142 = .ok (.iastore, 1) := by decide +kernel
theorem dX5_spread_143 : decode cX5_spread 143 = .ok (.aload_n 0, 1) := by decide +kernel
theorem dX5_spread_144 : decode cX5_spread 144 = .ok (.getfield 50, 3) := by decide +kernel
theorem dX5_spread_147 : decode cX5_spread 147 = .ok (.iload 6, 2) := by decide +kernel
theorem dX5_spread_149 : decode cX5_spread 149 = .ok (.aload_n 0, 1) := by decide +kernel
theorem dX5_spread_150 : decode cX5_spread 150 = .ok (.getfield 41, 3) := by decide +kernel
theorem dX5_spread_153 : decode cX5_spread 153 = .ok (.iload 5, 2) := by decide +kernel
theorem dX5_spread_155 : decode cX5_spread 155 = .ok (.iaload, 1) := by decide +kernel
theorem dX5_spread_156 : decode cX5_spread 156 = .ok (.iastore, 1) := by decide +kernel
theorem dX5_spread_157 : decode cX5_spread 157 = .ok (.aload_n 0, 1) := by decide +kernel
theorem dX5_spread_158 : decode cX5_spread 158 = .ok (.getfield 53, 3) := by decide +kernel
theorem dX5_spread_161 : decode cX5_spread 161 = .ok (.iload 6, 2) := by decide +kernel
theorem dX5_spread_163 : decode cX5_spread 163 = .ok (.iload 4, 2) := by decide +kernel
theorem dX5_spread_165 : decode cX5_spread 165 = .ok (.iload_n 1, 1) := by decide +kernel
theorem dX5_spread_166 : decode cX5_spread 166 = .ok (.if_icmp .ne 8, 3) := by decide +kernel
theorem dX5_spread_169 : decode cX5_spread 169 = .ok (.iload 6, 2) := by decide +kernel
theorem dX5_spread_171 : decode cX5_spread 171 = .ok (.goto 10, 3) := by decide +kernel
theorem dX5_spread_174 : decode cX5_spread 174 = .ok (.aload_n 0, 1) := by decide +kernel
theorem dX5_spread_175 : decode cX5_spread 175 = .ok (.getfield 53, 3) := by decide +kernel
theorem dX5_spread_178 : decode cX5_spread 178 = .ok (.iload 4, 2) := by decide +kernel
theorem dX5_spread_180 : decode cX5_spread 180 = .ok (.iaload, 1) := by decide +kernel
theorem dX5_spread_181 : decode cX5_spread 181 = .ok (.iastore, 1) := by decide +kernel
theorem dX5_spread_182 : decode cX5_spread 182 = .ok (.aload_n 0, 1) := by decide +kernel
theorem dX5_spread_183 : decode cX5_spread 183 = .ok (.getfield 56, 3) := by decide +kernel
theorem dX5_spread_186 : decode cX5_spread 186 = .ok (.iload_n 2, 1) := by decide +kernel
theorem dX5_spread_187 : decode cX5_spread 187 = .ok (.iload 6, 2) := by decide +kernel
theorem dX5_spread_189 : decode cX5_spread 189 = .ok (.iastore, 1) := by decide +kernel
theorem dX5_spread_190 : decode cX5_spread 190 = .ok (.iinc 2 1, 3) := by decide +kernel
theorem dX5_spread_193 : decode cX5_spread 193 = .ok (.iinc 5 1, 3) := by decide +kernel
theorem dX5_spread_196 : decode cX5_spread 196 = .ok (.goto (-128), 3) := by decide +kernel
theorem dX5_spread_199 : decode cX5_spread 199 = .ok (.iinc 3 1, 3) := by decide +kernel
theorem dX5_spread_202 : decode cX5_spread 202 = .ok (.goto (-162), 3) := by decide +kernel
theorem dX5_spread_205 : decode cX5_spread 205 = .ok (.iload_n 2, 1) := by decide +kernel
theorem dX5_spread_206 : decode cX5_spread 206 = .ok (.ireturn, 1) := by decide +kernel
def hX5_spread_68 (f : Nat) (Φ : Int → aj_M → Prop) (K40 : List Nat → Int → Int → Int → aj_M → Prop) : Nat → List Nat → Int → Int → Int → Int → Int → aj_M → Prop
  | 0, _, _, _, _, _, _, _ => False
  | k + 1, q0, v1, v2, v3, v4, v5, m => (0 ≤ (v4 + 1) ∧ (v4 + 1) < 62) ∧ rI v5 ∧ rI (m (8 :: q0) (v4 + 1).toNat) ∧ ((m (8 :: q0) (v4 + 1).toNat) ≤ v5 → K40 q0 v1 v2 (v3 + 1) m) ∧ (¬ ((m (8 :: q0) (v4 + 1).toNat) ≤ v5) → (0 ≤ v5 ∧ v5 < 288) ∧ wX5_otherEnd f (fun z1 m1 => (0 ≤ z1 ∧ z1 < 60) ∧ rI (m1 (10 :: q0) z1.toNat) ∧ (0 ≤ (m1 (10 :: q0) z1.toNat) → hX5_spread_68 f Φ K40 k q0 v1 v2 v3 v4 (v5 + 1) m1) ∧ (¬ (0 ≤ (m1 (10 :: q0) z1.toNat)) → rL (aj_landL (aj_lshr (m1 q0 16) z1) 1) ∧ (¬ (aj_landL (aj_lshr (m1 q0 16) z1) 1) = 0 → hX5_spread_68 f Φ K40 k q0 v1 v2 v3 v4 (v5 + 1) m1) ∧ ((aj_landL (aj_lshr (m1 q0 16) z1) 1) = 0 → rI v2 ∧ (60 ≤ v2 → hX5_spread_68 f Φ K40 k q0 v1 v2 v3 v4 (v5 + 1) m1) ∧ (¬ (60 ≤ v2) → (0 ≤ v4 ∧ v4 < 60) ∧ (0 ≤ z1 ∧ z1 < 60) ∧ ∀ m2, m2 = aj_u m1 (10 :: q0) z1.toNat ((m1 (10 :: q0) v4.toNat) + 1) → (0 ≤ v5 ∧ v5 < 288) ∧ (0 ≤ z1 ∧ z1 < 60) ∧ ∀ m3, m3 = aj_u m2 (12 :: q0) z1.toNat (m2 (9 :: q0) v5.toNat) → rI v4 ∧ rI v1 ∧ (¬ v4 = v1 → (0 ≤ v4 ∧ v4 < 60) ∧ (0 ≤ z1 ∧ z1 < 60) ∧ ∀ m4, m4 = aj_u m3 (13 :: q0) z1.toNat (m3 (13 :: q0) v4.toNat) → (0 ≤ v2 ∧ v2 < 60) ∧ ∀ m5, m5 = aj_u m4 (14 :: q0) v2.toNat z1 → hX5_spread_68 f Φ K40 k q0 v1 (v2 + 1) v3 v4 (v5 + 1) m5) ∧ (v4 = v1 → (0 ≤ z1 ∧ z1 < 60) ∧ ∀ m6, m6 = aj_u m3 (13 :: q0) z1.toNat z1 → (0 ≤ v2 ∧ v2 < 60) ∧ ∀ m7, m7 = aj_u m6 (14 :: q0) v2.toNat z1 → hX5_spread_68 f Φ K40 k q0 v1 (v2 + 1) v3 v4 (v5 + 1) m7))))) q0 (m (9 :: q0) v5.toNat) v4 m)
set_option maxHeartbeats 4000000 in
set_option maxRecDepth 100000 in
theorem tX5_spread_68 {X : aj_T} {n f : Nat} {Φ : Int → aj_M → Prop} (C : aj_Cx X cX5_spread RX5 7 (n + 1)) (K : aj_Rt X (some .int) (fun r m => ∃ z, r = some (vI z) ∧ Φ z m)) {K40 : List Nat → Int → Int → Int → aj_M → Prop} (HK40 : ∀ (q0 : List Nat) (v1 : Int) (v2 : Int) (v3 : Int) (m : aj_M) (hq0 : (.inl (5, q0) : aj_R) ∈ aj_pls), K40 q0 v1 v2 v3 m → aj_J X 40 [some (vO 5 q0), some (vI v1), some (vI v2), some (vI v3), none, none, none] [] m) : ∀ (k : Nat) (q0 : List Nat) (v1 : Int) (v2 : Int) (v3 : Int) (v4 : Int) (v5 : Int) (m : aj_M) (hq0 : (.inl (5, q0) : aj_R) ∈ aj_pls), hX5_spread_68 f Φ K40 k q0 v1 v2 v3 v4 v5 m → aj_J X 68 [some (vO 5 q0), some (vI v1), some (vI v2), some (vI v3), some (vI v4), some (vI v5), none] [] m := by
  intro k
  induction k with
  | zero =>
    intro q0 v1 v2 v3 v4 v5 m _ h
    exact h.elim
  | succ k ih =>
    intro q0 v1 v2 v3 v4 v5 m hq0 h
    unfold hX5_spread_68 at h
    refine aj_iload C dX5_spread_68 rfl ?_
    refine aj_aload_n C dX5_spread_70 rfl ?_
    refine aj_getA (x := 0) (y := 62) C flX5_38 hq0 rfl dX5_spread_71 ?_
    refine aj_iload C dX5_spread_74 rfl ?_
    refine aj_iconst C dX5_spread_76 ?_
    refine aj_iadd C dX5_spread_77 ?_
    obtain ⟨r0, h⟩ := h
    refine aj_iald C (aj_ca (e := 0) (n := 62) (j := 8) hq0 (by decide) rfl) (by decide) r0 dX5_spread_78 rfl ?_
    obtain ⟨r0, r1, h1, h2⟩ := h
    refine aj_icmp_ge (tgt := 199) C dX5_spread_79 (by decide) r0 r1 (fun e => ?_) (fun e => ?_)
    · have h := h1 e
      refine aj_iinc (lv' := [some (vO 5 q0), some (vI v1), some (vI v2), some (vI (v3 + 1)), some (vI v4), some (vI v5), none]) C dX5_spread_199 rfl (by decide) rfl ?_
      refine aj_goto (tgt := 40) C dX5_spread_202 (by decide) ?_
      refine aj_wk (lv' := [some (vO 5 q0), some (vI v1), some (vI v2), some (vI (v3 + 1)), none, none, none]) (⟨rfl, ⟨rfl, ⟨rfl, ⟨rfl, trivial⟩⟩⟩⟩) ?_
      exact HK40 q0 v1 v2 (v3 + 1) _ hq0 h
    · have h := h2 e
      refine aj_aload_n C dX5_spread_82 rfl ?_
      refine aj_aload_n C dX5_spread_83 rfl ?_
      refine aj_getA (x := 0) (y := 288) C flX5_41 hq0 rfl dX5_spread_84 ?_
      refine aj_iload C dX5_spread_87 rfl ?_
      obtain ⟨r0, h⟩ := h
      refine aj_iald C (aj_ca (e := 0) (n := 288) (j := 9) hq0 (by decide) rfl) (by decide) r0 dX5_spread_89 rfl ?_
      refine aj_iload C dX5_spread_90 rfl ?_
      refine aj_callV (rest := []) C mvX5_131 (sX5_otherEnd hq0 h) hq0 (aj_np 2 (by decide +kernel) rfl) (Nat.le_of_ble_eq_true rfl) rfl dX5_spread_92 (fun r m1 h => ?_)
      obtain ⟨z1, rfl, h⟩ := h
      refine aj_istore (lv' := [some (vO 5 q0), some (vI v1), some (vI v2), some (vI v3), some (vI v4), some (vI v5), some (vI z1)]) C dX5_spread_95 (by decide) rfl ?_
      refine aj_aload_n C dX5_spread_97 rfl ?_
      refine aj_getA (x := 0) (y := 60) C flX5_44 hq0 rfl dX5_spread_98 ?_
      refine aj_iload C dX5_spread_101 rfl ?_
      obtain ⟨r0, h⟩ := h
      refine aj_iald C (aj_ca (e := 0) (n := 60) (j := 10) hq0 (by decide) rfl) (by decide) r0 dX5_spread_103 rfl ?_
      obtain ⟨r0, h1, h2⟩ := h
      refine aj_if_ge (tgt := 193) C dX5_spread_104 (by decide) r0 (fun e => ?_) (fun e => ?_)
      · have h := h1 e
        refine aj_iinc (lv' := [some (vO 5 q0), some (vI v1), some (vI v2), some (vI v3), some (vI v4), some (vI (v5 + 1)), some (vI z1)]) C dX5_spread_193 rfl (by decide) rfl ?_
        refine aj_goto (tgt := 68) C dX5_spread_196 (by decide) ?_
        refine aj_wk (lv' := [some (vO 5 q0), some (vI v1), some (vI v2), some (vI v3), some (vI v4), some (vI (v5 + 1)), none]) (⟨rfl, ⟨rfl, ⟨rfl, ⟨rfl, ⟨rfl, ⟨rfl, trivial⟩⟩⟩⟩⟩⟩) ?_
        exact ih q0 v1 v2 v3 v4 (v5 + 1) _ hq0 h
      · have h := h2 e
        refine aj_aload_n C dX5_spread_107 rfl ?_
        refine aj_getL C flX5_63 hq0 rfl dX5_spread_108 rfl ?_
        refine aj_iload C dX5_spread_111 rfl ?_
        refine aj_lshr_ C dX5_spread_113 ?_
        refine aj_lconst (z := 1) C dX5_spread_114 rfl ?_
        refine aj_land C dX5_spread_115 ?_
        refine aj_lconst (z := 0) C dX5_spread_116 rfl ?_
        obtain ⟨r0, h1, h2⟩ := h
        refine aj_lcmp_ne (tgt := 193) C dX5_spread_117 dX5_spread_118 (by decide) r0 (by decide) (fun e => ?_) (fun e => ?_)
        · have h := h1 e
          refine aj_iinc (lv' := [some (vO 5 q0), some (vI v1), some (vI v2), some (vI v3), some (vI v4), some (vI (v5 + 1)), some (vI z1)]) C dX5_spread_193 rfl (by decide) rfl ?_
          refine aj_goto (tgt := 68) C dX5_spread_196 (by decide) ?_
          refine aj_wk (lv' := [some (vO 5 q0), some (vI v1), some (vI v2), some (vI v3), some (vI v4), some (vI (v5 + 1)), none]) (⟨rfl, ⟨rfl, ⟨rfl, ⟨rfl, ⟨rfl, ⟨rfl, trivial⟩⟩⟩⟩⟩⟩) ?_
          exact ih q0 v1 v2 v3 v4 (v5 + 1) _ hq0 h
        · have h := h2 e
          refine aj_iload_n C dX5_spread_121 rfl ?_
          refine aj_bipush C dX5_spread_122 (by decide) ?_
          obtain ⟨r0, h1, h2⟩ := h
          refine aj_icmp_ge (tgt := 193) C dX5_spread_124 (by decide) r0 (by decide) (fun e => ?_) (fun e => ?_)
          · have h := h1 e
            refine aj_iinc (lv' := [some (vO 5 q0), some (vI v1), some (vI v2), some (vI v3), some (vI v4), some (vI (v5 + 1)), some (vI z1)]) C dX5_spread_193 rfl (by decide) rfl ?_
            refine aj_goto (tgt := 68) C dX5_spread_196 (by decide) ?_
            refine aj_wk (lv' := [some (vO 5 q0), some (vI v1), some (vI v2), some (vI v3), some (vI v4), some (vI (v5 + 1)), none]) (⟨rfl, ⟨rfl, ⟨rfl, ⟨rfl, ⟨rfl, ⟨rfl, trivial⟩⟩⟩⟩⟩⟩) ?_
            exact ih q0 v1 v2 v3 v4 (v5 + 1) _ hq0 h
          · have h := h2 e
            refine aj_aload_n C dX5_spread_127 rfl ?_
            refine aj_getA (x := 0) (y := 60) C flX5_44 hq0 rfl dX5_spread_128 ?_
            refine aj_iload C dX5_spread_131 rfl ?_
            refine aj_aload_n C dX5_spread_133 rfl ?_
            refine aj_getA (x := 0) (y := 60) C flX5_44 hq0 rfl dX5_spread_134 ?_
            refine aj_iload C dX5_spread_137 rfl ?_
            obtain ⟨r0, h⟩ := h
            refine aj_iald C (aj_ca (e := 0) (n := 60) (j := 10) hq0 (by decide) rfl) (by decide) r0 dX5_spread_139 rfl ?_
            refine aj_iconst C dX5_spread_140 ?_
            refine aj_iadd C dX5_spread_141 ?_
            obtain ⟨r0, h⟩ := h
            refine aj_iast C (aj_ca (e := 0) (n := 60) (j := 10) hq0 (by decide) rfl) (by decide) r0 dX5_spread_142 ?_
            refine aj_nm (fun m2 e1 => ?_)
            have h := h m2 e1
            refine aj_aload_n C dX5_spread_143 rfl ?_
            refine aj_getA (x := 0) (y := 60) C flX5_50 hq0 rfl dX5_spread_144 ?_
            refine aj_iload C dX5_spread_147 rfl ?_
            refine aj_aload_n C dX5_spread_149 rfl ?_
            refine aj_getA (x := 0) (y := 288) C flX5_41 hq0 rfl dX5_spread_150 ?_
            refine aj_iload C dX5_spread_153 rfl ?_
            obtain ⟨r0, h⟩ := h
            refine aj_iald C (aj_ca (e := 0) (n := 288) (j := 9) hq0 (by decide) rfl) (by decide) r0 dX5_spread_155 rfl ?_
            obtain ⟨r0, h⟩ := h
            refine aj_iast C (aj_ca (e := 0) (n := 60) (j := 12) hq0 (by decide) rfl) (by decide) r0 dX5_spread_156 ?_
            refine aj_nm (fun m3 e1 => ?_)
            have h := h m3 e1
            refine aj_aload_n C dX5_spread_157 rfl ?_
            refine aj_getA (x := 0) (y := 60) C flX5_53 hq0 rfl dX5_spread_158 ?_
            refine aj_iload C dX5_spread_161 rfl ?_
            refine aj_iload C dX5_spread_163 rfl ?_
            refine aj_iload_n C dX5_spread_165 rfl ?_
            obtain ⟨r0, r1, h1, h2⟩ := h
            refine aj_icmp_ne (tgt := 174) C dX5_spread_166 (by decide) r0 r1 (fun e => ?_) (fun e => ?_)
            · have h := h1 e
              refine aj_aload_n C dX5_spread_174 rfl ?_
              refine aj_getA (x := 0) (y := 60) C flX5_53 hq0 rfl dX5_spread_175 ?_
              refine aj_iload C dX5_spread_178 rfl ?_
              obtain ⟨r0, h⟩ := h
              refine aj_iald C (aj_ca (e := 0) (n := 60) (j := 13) hq0 (by decide) rfl) (by decide) r0 dX5_spread_180 rfl ?_
              obtain ⟨r0, h⟩ := h
              refine aj_iast C (aj_ca (e := 0) (n := 60) (j := 13) hq0 (by decide) rfl) (by decide) r0 dX5_spread_181 ?_
              refine aj_nm (fun m4 e1 => ?_)
              have h := h m4 e1
              refine aj_aload_n C dX5_spread_182 rfl ?_
              refine aj_getA (x := 0) (y := 60) C flX5_56 hq0 rfl dX5_spread_183 ?_
              refine aj_iload_n C dX5_spread_186 rfl ?_
              refine aj_iload C dX5_spread_187 rfl ?_
              obtain ⟨r0, h⟩ := h
              refine aj_iast C (aj_ca (e := 0) (n := 60) (j := 14) hq0 (by decide) rfl) (by decide) r0 dX5_spread_189 ?_
              refine aj_nm (fun m5 e1 => ?_)
              have h := h m5 e1
              refine aj_iinc (lv' := [some (vO 5 q0), some (vI v1), some (vI (v2 + 1)), some (vI v3), some (vI v4), some (vI v5), some (vI z1)]) C dX5_spread_190 rfl (by decide) rfl ?_
              refine aj_iinc (lv' := [some (vO 5 q0), some (vI v1), some (vI (v2 + 1)), some (vI v3), some (vI v4), some (vI (v5 + 1)), some (vI z1)]) C dX5_spread_193 rfl (by decide) rfl ?_
              refine aj_goto (tgt := 68) C dX5_spread_196 (by decide) ?_
              refine aj_wk (lv' := [some (vO 5 q0), some (vI v1), some (vI (v2 + 1)), some (vI v3), some (vI v4), some (vI (v5 + 1)), none]) (⟨rfl, ⟨rfl, ⟨rfl, ⟨rfl, ⟨rfl, ⟨rfl, trivial⟩⟩⟩⟩⟩⟩) ?_
              exact ih q0 v1 (v2 + 1) v3 v4 (v5 + 1) _ hq0 h
            · have h := h2 e
              refine aj_iload C dX5_spread_169 rfl ?_
              refine aj_goto (tgt := 181) C dX5_spread_171 (by decide) ?_
              obtain ⟨r0, h⟩ := h
              refine aj_iast C (aj_ca (e := 0) (n := 60) (j := 13) hq0 (by decide) rfl) (by decide) r0 dX5_spread_181 ?_
              refine aj_nm (fun m6 e1 => ?_)
              have h := h m6 e1
              refine aj_aload_n C dX5_spread_182 rfl ?_
              refine aj_getA (x := 0) (y := 60) C flX5_56 hq0 rfl dX5_spread_183 ?_
              refine aj_iload_n C dX5_spread_186 rfl ?_
              refine aj_iload C dX5_spread_187 rfl ?_
              obtain ⟨r0, h⟩ := h
              refine aj_iast C (aj_ca (e := 0) (n := 60) (j := 14) hq0 (by decide) rfl) (by decide) r0 dX5_spread_189 ?_
              refine aj_nm (fun m7 e1 => ?_)
              have h := h m7 e1
              refine aj_iinc (lv' := [some (vO 5 q0), some (vI v1), some (vI (v2 + 1)), some (vI v3), some (vI v4), some (vI v5), some (vI z1)]) C dX5_spread_190 rfl (by decide) rfl ?_
              refine aj_iinc (lv' := [some (vO 5 q0), some (vI v1), some (vI (v2 + 1)), some (vI v3), some (vI v4), some (vI (v5 + 1)), some (vI z1)]) C dX5_spread_193 rfl (by decide) rfl ?_
              refine aj_goto (tgt := 68) C dX5_spread_196 (by decide) ?_
              refine aj_wk (lv' := [some (vO 5 q0), some (vI v1), some (vI (v2 + 1)), some (vI v3), some (vI v4), some (vI (v5 + 1)), none]) (⟨rfl, ⟨rfl, ⟨rfl, ⟨rfl, ⟨rfl, ⟨rfl, trivial⟩⟩⟩⟩⟩⟩) ?_
              exact ih q0 v1 (v2 + 1) v3 v4 (v5 + 1) _ hq0 h
def hX5_spread_40 (f : Nat) (Φ : Int → aj_M → Prop) : Nat → List Nat → Int → Int → Int → aj_M → Prop
  | 0, _, _, _, _, _ => False
  | k + 1, q0, v1, v2, v3, m => rI v3 ∧ rI v2 ∧ (v2 ≤ v3 → Φ v2 m) ∧ (¬ (v2 ≤ v3) → rI v3 ∧ (60 ≤ v3 → Φ v2 m) ∧ (¬ (60 ≤ v3) → (0 ≤ v3 ∧ v3 < 60) ∧ (0 ≤ (m (14 :: q0) v3.toNat) ∧ (m (14 :: q0) v3.toNat) < 62) ∧ hX5_spread_68 f Φ (fun q0 v1 v2 v3 m => hX5_spread_40 f Φ k q0 v1 v2 v3 m) f q0 v1 v2 v3 (m (14 :: q0) v3.toNat) (m (8 :: q0) (m (14 :: q0) v3.toNat).toNat) m))
set_option maxHeartbeats 4000000 in
set_option maxRecDepth 100000 in
theorem tX5_spread_40 {X : aj_T} {n f : Nat} {Φ : Int → aj_M → Prop} (C : aj_Cx X cX5_spread RX5 7 (n + 1)) (K : aj_Rt X (some .int) (fun r m => ∃ z, r = some (vI z) ∧ Φ z m)) : ∀ (k : Nat) (q0 : List Nat) (v1 : Int) (v2 : Int) (v3 : Int) (m : aj_M) (hq0 : (.inl (5, q0) : aj_R) ∈ aj_pls), hX5_spread_40 f Φ k q0 v1 v2 v3 m → aj_J X 40 [some (vO 5 q0), some (vI v1), some (vI v2), some (vI v3), none, none, none] [] m := by
  intro k
  induction k with
  | zero =>
    intro q0 v1 v2 v3 m _ h
    exact h.elim
  | succ k ih =>
    intro q0 v1 v2 v3 m hq0 h
    unfold hX5_spread_40 at h
    refine aj_iload_n C dX5_spread_40 rfl ?_
    refine aj_iload_n C dX5_spread_41 rfl ?_
    obtain ⟨r0, r1, h1, h2⟩ := h
    refine aj_icmp_ge (tgt := 205) C dX5_spread_42 (by decide) r0 r1 (fun e => ?_) (fun e => ?_)
    · have h := h1 e
      refine aj_iload_n C dX5_spread_205 rfl ?_
      exact aj_iret C K dX5_spread_206 ⟨_, rfl, h⟩
    · have h := h2 e
      refine aj_iload_n C dX5_spread_45 rfl ?_
      refine aj_bipush C dX5_spread_46 (by decide) ?_
      obtain ⟨r0, h1, h2⟩ := h
      refine aj_icmp_ge (tgt := 205) C dX5_spread_48 (by decide) r0 (by decide) (fun e => ?_) (fun e => ?_)
      · have h := h1 e
        refine aj_iload_n C dX5_spread_205 rfl ?_
        exact aj_iret C K dX5_spread_206 ⟨_, rfl, h⟩
      · have h := h2 e
        refine aj_aload_n C dX5_spread_51 rfl ?_
        refine aj_getA (x := 0) (y := 60) C flX5_56 hq0 rfl dX5_spread_52 ?_
        refine aj_iload_n C dX5_spread_55 rfl ?_
        obtain ⟨r0, h⟩ := h
        refine aj_iald C (aj_ca (e := 0) (n := 60) (j := 14) hq0 (by decide) rfl) (by decide) r0 dX5_spread_56 rfl ?_
        refine aj_istore (lv' := [some (vO 5 q0), some (vI v1), some (vI v2), some (vI v3), some (vI (m (14 :: q0) v3.toNat)), none, none]) C dX5_spread_57 (by decide) rfl ?_
        refine aj_aload_n C dX5_spread_59 rfl ?_
        refine aj_getA (x := 0) (y := 62) C flX5_38 hq0 rfl dX5_spread_60 ?_
        refine aj_iload C dX5_spread_63 rfl ?_
        obtain ⟨r0, h⟩ := h
        refine aj_iald C (aj_ca (e := 0) (n := 62) (j := 8) hq0 (by decide) rfl) (by decide) r0 dX5_spread_65 rfl ?_
        refine aj_istore (lv' := [some (vO 5 q0), some (vI v1), some (vI v2), some (vI v3), some (vI (m (14 :: q0) v3.toNat)), some (vI (m (8 :: q0) (m (14 :: q0) v3.toNat).toNat)), none]) C dX5_spread_66 (by decide) rfl ?_
        exact tX5_spread_68 C K (fun q0 v1 v2 v3 m hq0 hh => ih q0 v1 v2 v3 m hq0 hh) f q0 v1 v2 v3 (m (14 :: q0) v3.toNat) (m (8 :: q0) (m (14 :: q0) v3.toNat).toNat) _ hq0 h
def wX5_spread (f : Nat) (Φ : Int → aj_M → Prop) (q0 : List Nat) (v1 : Int) (m : aj_M) : Prop := wJ7_fill_53178 f (fun m1 => (0 ≤ v1 ∧ v1 < 60) ∧ ∀ m2, m2 = aj_u m1 (10 :: q0) v1.toNat 0 → (0 ≤ v1 ∧ v1 < 60) ∧ ∀ m3, m3 = aj_u m2 (12 :: q0) v1.toNat (-1) → (0 ≤ v1 ∧ v1 < 60) ∧ ∀ m4, m4 = aj_u m3 (13 :: q0) v1.toNat v1 → ∀ m5, m5 = aj_u m4 (14 :: q0) (0 : Int).toNat v1 → hX5_spread_40 f Φ f q0 v1 1 0 m5) 60 (10 :: q0) (-1) m
set_option maxHeartbeats 4000000 in
set_option maxRecDepth 100000 in
theorem sX5_spread {n f : Nat} {Φ : Int → aj_M → Prop} {q0 : List Nat} {v1 : Int} {m : aj_M} (hq0 : (.inl (5, q0) : aj_R) ∈ aj_pls) (h : wX5_spread f Φ q0 v1 m) : aj_Ct (n + 1) yX5_spread cX5_spread 7 (some .int) [vO 5 q0, vI v1] m (fun r m => ∃ z, r = some (vI z) ∧ Φ z m) := by
  refine aj_met (lv := [some (vO 5 q0), some (vI v1), none, none, none, none, none]) (by decide +kernel) rfl (Nat.le_of_ble_eq_true rfl) (fun X C K => ?_)
  unfold wX5_spread at h
  refine aj_aload_n C dX5_spread_0 rfl ?_
  refine aj_getA (x := 0) (y := 60) C flX5_44 hq0 rfl dX5_spread_1 ?_
  refine aj_iconst C dX5_spread_4 ?_
  refine aj_callS (rest := []) C msX5_125 (sJ7_fill_53178 (aj_ca (e := 0) (n := 60) (j := 10) hq0 (by decide) rfl) (by decide) h) (aj_np 2 (by decide +kernel) rfl) (Nat.le_of_ble_eq_true rfl) rfl dX5_spread_5 (fun r m1 h => ?_)
  obtain ⟨rfl, h⟩ := h
  refine aj_aload_n C dX5_spread_8 rfl ?_
  refine aj_getA (x := 0) (y := 60) C flX5_44 hq0 rfl dX5_spread_9 ?_
  refine aj_iload_n C dX5_spread_12 rfl ?_
  refine aj_iconst C dX5_spread_13 ?_
  obtain ⟨r0, h⟩ := h
  refine aj_iast C (aj_ca (e := 0) (n := 60) (j := 10) hq0 (by decide) rfl) (by decide) r0 dX5_spread_14 ?_
  refine aj_nm (fun m2 e1 => ?_)
  have h := h m2 e1
  refine aj_aload_n C dX5_spread_15 rfl ?_
  refine aj_getA (x := 0) (y := 60) C flX5_50 hq0 rfl dX5_spread_16 ?_
  refine aj_iload_n C dX5_spread_19 rfl ?_
  refine aj_iconst C dX5_spread_20 ?_
  obtain ⟨r0, h⟩ := h
  refine aj_iast C (aj_ca (e := 0) (n := 60) (j := 12) hq0 (by decide) rfl) (by decide) r0 dX5_spread_21 ?_
  refine aj_nm (fun m3 e1 => ?_)
  have h := h m3 e1
  refine aj_aload_n C dX5_spread_22 rfl ?_
  refine aj_getA (x := 0) (y := 60) C flX5_53 hq0 rfl dX5_spread_23 ?_
  refine aj_iload_n C dX5_spread_26 rfl ?_
  refine aj_iload_n C dX5_spread_27 rfl ?_
  obtain ⟨r0, h⟩ := h
  refine aj_iast C (aj_ca (e := 0) (n := 60) (j := 13) hq0 (by decide) rfl) (by decide) r0 dX5_spread_28 ?_
  refine aj_nm (fun m4 e1 => ?_)
  have h := h m4 e1
  refine aj_aload_n C dX5_spread_29 rfl ?_
  refine aj_getA (x := 0) (y := 60) C flX5_56 hq0 rfl dX5_spread_30 ?_
  refine aj_iconst C dX5_spread_33 ?_
  refine aj_iload_n C dX5_spread_34 rfl ?_
  refine aj_iast C (aj_ca (e := 0) (n := 60) (j := 14) hq0 (by decide) rfl) (by decide) (by decide) dX5_spread_35 ?_
  refine aj_nm (fun m5 e1 => ?_)
  have h := h m5 e1
  refine aj_iconst C dX5_spread_36 ?_
  refine aj_istore_n (lv' := [some (vO 5 q0), some (vI v1), some (vI 1), none, none, none, none]) C dX5_spread_37 (by decide) rfl ?_
  refine aj_iconst C dX5_spread_38 ?_
  refine aj_istore_n (lv' := [some (vO 5 q0), some (vI v1), some (vI 1), some (vI 0), none, none, none]) C dX5_spread_39 (by decide) rfl ?_
  exact tX5_spread_40 C K f q0 v1 1 0 _ hq0 h
theorem dX5_markReached_0 : decode cX5_markReached 0 = .ok (.iconst 0, 1) := by decide +kernel
theorem dX5_markReached_1 : decode cX5_markReached 1 = .ok (.istore_n 2, 1) := by decide +kernel
theorem dX5_markReached_2 : decode cX5_markReached 2 = .ok (.iload_n 2, 1) := by decide +kernel
theorem dX5_markReached_3 : decode cX5_markReached 3 = .ok (.iload_n 1, 1) := by decide +kernel
theorem dX5_markReached_4 : decode cX5_markReached 4 = .ok (.if_icmp .ge 32, 3) := by decide +kernel
theorem dX5_markReached_7 : decode cX5_markReached 7 = .ok (.iload_n 2, 1) := by decide +kernel
theorem dX5_markReached_8 : decode cX5_markReached 8 = .ok (.bipush 60, 2) := by decide +kernel
theorem dX5_markReached_10 : decode cX5_markReached 10 = .ok (.if_icmp .ge 26, 3) := by decide +kernel
theorem dX5_markReached_13 : decode cX5_markReached 13 = .ok (.aload_n 0, 1) := by decide +kernel
theorem dX5_markReached_14 : decode cX5_markReached 14 = .ok (.dup, 1) := by decide +kernel
theorem dX5_markReached_15 : decode cX5_markReached 15 = .ok (.getfield 59, 3) := by decide +kernel
theorem dX5_markReached_18 : decode cX5_markReached 18 = .ok (.lconst 1, 1) := by decide +kernel
theorem dX5_markReached_19 : decode cX5_markReached 19 = .ok (.aload_n 0, 1) := by decide +kernel
theorem dX5_markReached_20 : decode cX5_markReached 20 = .ok (.getfield 56, 3) := by decide +kernel
theorem dX5_markReached_23 : decode cX5_markReached 23 = .ok (.iload_n 2, 1) := by decide +kernel
theorem dX5_markReached_24 : decode cX5_markReached 24 = .ok (.iaload, 1) := by decide +kernel
theorem dX5_markReached_25 : decode cX5_markReached 25 = .ok (.lshl, 1) := by decide +kernel
theorem dX5_markReached_26 : decode cX5_markReached 26 = .ok (.lor, 1) := by decide +kernel
theorem dX5_markReached_27 : decode cX5_markReached 27 = .ok (.putfield 59, 3) := by decide +kernel
theorem dX5_markReached_30 : decode cX5_markReached 30 = .ok (.iinc 2 1, 3) := by decide +kernel
theorem dX5_markReached_33 : decode cX5_markReached 33 = .ok (.goto (-31), 3) := by decide +kernel
theorem dX5_markReached_36 : decode cX5_markReached 36 = .ok (.return_, 1) := by decide +kernel
def hX5_markReached_2 (f : Nat) (Φ : aj_M → Prop) : Nat → List Nat → Int → Int → aj_M → Prop
  | 0, _, _, _, _ => False
  | k + 1, q0, v1, v2, m => rI v2 ∧ rI v1 ∧ (v1 ≤ v2 → Φ m) ∧ (¬ (v1 ≤ v2) → rI v2 ∧ (60 ≤ v2 → Φ m) ∧ (¬ (60 ≤ v2) → (0 ≤ v2 ∧ v2 < 60) ∧ ∀ m1, m1 = aj_u m q0 15 (aj_lorL (m q0 15) (aj_lshl 1 (m (14 :: q0) v2.toNat))) → hX5_markReached_2 f Φ k q0 v1 (v2 + 1) m1))
set_option maxHeartbeats 4000000 in
set_option maxRecDepth 100000 in
theorem tX5_markReached_2 {X : aj_T} {n f : Nat} {Φ : aj_M → Prop} (C : aj_Cx X cX5_markReached RX5 3 n) (K : aj_Rt X none (fun r m => r = none ∧ Φ m)) : ∀ (k : Nat) (q0 : List Nat) (v1 : Int) (v2 : Int) (m : aj_M) (hq0 : (.inl (5, q0) : aj_R) ∈ aj_pls), hX5_markReached_2 f Φ k q0 v1 v2 m → aj_J X 2 [some (vO 5 q0), some (vI v1), some (vI v2)] [] m := by
  intro k
  induction k with
  | zero =>
    intro q0 v1 v2 m _ h
    exact h.elim
  | succ k ih =>
    intro q0 v1 v2 m hq0 h
    unfold hX5_markReached_2 at h
    refine aj_iload_n C dX5_markReached_2 rfl ?_
    refine aj_iload_n C dX5_markReached_3 rfl ?_
    obtain ⟨r0, r1, h1, h2⟩ := h
    refine aj_icmp_ge (tgt := 36) C dX5_markReached_4 (by decide) r0 r1 (fun e => ?_) (fun e => ?_)
    · have h := h1 e
      exact aj_vret C K dX5_markReached_36 ⟨rfl, h⟩
    · have h := h2 e
      refine aj_iload_n C dX5_markReached_7 rfl ?_
      refine aj_bipush C dX5_markReached_8 (by decide) ?_
      obtain ⟨r0, h1, h2⟩ := h
      refine aj_icmp_ge (tgt := 36) C dX5_markReached_10 (by decide) r0 (by decide) (fun e => ?_) (fun e => ?_)
      · have h := h1 e
        exact aj_vret C K dX5_markReached_36 ⟨rfl, h⟩
      · have h := h2 e
        refine aj_aload_n C dX5_markReached_13 rfl ?_
        refine aj_dup C aj_nR dX5_markReached_14 ?_
        refine aj_getL C flX5_59 hq0 rfl dX5_markReached_15 rfl ?_
        refine aj_lconst (z := 1) C dX5_markReached_18 rfl ?_
        refine aj_aload_n C dX5_markReached_19 rfl ?_
        refine aj_getA (x := 0) (y := 60) C flX5_56 hq0 rfl dX5_markReached_20 ?_
        refine aj_iload_n C dX5_markReached_23 rfl ?_
        obtain ⟨r0, h⟩ := h
        refine aj_iald C (aj_ca (e := 0) (n := 60) (j := 14) hq0 (by decide) rfl) (by decide) r0 dX5_markReached_24 rfl ?_
        refine aj_lshl_ C dX5_markReached_25 ?_
        refine aj_lor C dX5_markReached_26 ?_
        refine aj_putL C fpX5_59 hq0 rfl dX5_markReached_27 ?_
        refine aj_nm (fun m1 e1 => ?_)
        have h := h m1 e1
        refine aj_iinc (lv' := [some (vO 5 q0), some (vI v1), some (vI (v2 + 1))]) C dX5_markReached_30 rfl (by decide) rfl ?_
        refine aj_goto (tgt := 2) C dX5_markReached_33 (by decide) ?_
        exact ih q0 v1 (v2 + 1) _ hq0 h
def wX5_markReached (f : Nat) (Φ : aj_M → Prop) (q0 : List Nat) (v1 : Int) (m : aj_M) : Prop := hX5_markReached_2 f Φ f q0 v1 0 m
set_option maxHeartbeats 4000000 in
set_option maxRecDepth 100000 in
theorem sX5_markReached {n f : Nat} {Φ : aj_M → Prop} {q0 : List Nat} {v1 : Int} {m : aj_M} (hq0 : (.inl (5, q0) : aj_R) ∈ aj_pls) (h : wX5_markReached f Φ q0 v1 m) : aj_Ct n yX5_markReached cX5_markReached 3 none [vO 5 q0, vI v1] m (fun r m => r = none ∧ Φ m) := by
  refine aj_met (lv := [some (vO 5 q0), some (vI v1), none]) (by decide +kernel) rfl (Nat.le_of_ble_eq_true rfl) (fun X C K => ?_)
  unfold wX5_markReached at h
  refine aj_iconst C dX5_markReached_0 ?_
  refine aj_istore_n (lv' := [some (vO 5 q0), some (vI v1), some (vI 0)]) C dX5_markReached_1 (by decide) rfl ?_
  exact tX5_markReached_2 C K f q0 v1 0 _ hq0 h
theorem dX5_countParts_0 : decode cX5_countParts 0 = .ok (.iconst 0, 1) := by decide +kernel
theorem dX5_countParts_1 : decode cX5_countParts 1 = .ok (.istore_n 1, 1) := by decide +kernel
theorem dX5_countParts_2 : decode cX5_countParts 2 = .ok (.aload_n 0, 1) := by decide +kernel
theorem dX5_countParts_3 : decode cX5_countParts 3 = .ok (.lconst 0, 1) := by decide +kernel
theorem dX5_countParts_4 : decode cX5_countParts 4 = .ok (.putfield 59, 3) := by decide +kernel
theorem dX5_countParts_7 : decode cX5_countParts 7 = .ok (.iconst 0, 1) := by decide +kernel
theorem dX5_countParts_8 : decode cX5_countParts 8 = .ok (.istore_n 2, 1) := by decide +kernel
theorem dX5_countParts_9 : decode cX5_countParts 9 = .ok (.iload_n 2, 1) := by decide +kernel
theorem dX5_countParts_10 : decode cX5_countParts 10 = .ok (.aload_n 0, 1) := by decide +kernel
theorem dX5_countParts_11 : decode cX5_countParts 11 = .ok (.getfield 9, 3) := by decide +kernel
theorem dX5_countParts_14 : decode cX5_countParts 14 = .ok (.if_icmp .ge 34, 3) := by decide +kernel
theorem dX5_countParts_17 : decode cX5_countParts 17 = .ok (.aload_n 0, 1) := by decide +kernel
theorem dX5_countParts_18 : decode cX5_countParts 18 = .ok (.getfield 59, 3) := by decide +kernel
theorem dX5_countParts_21 : decode cX5_countParts 21 = .ok (.iload_n 2, 1) := by decide +kernel
theorem dX5_countParts_22 : decode cX5_countParts 22 = .ok (.lshr, 1) := by decide +kernel
theorem dX5_countParts_23 : decode cX5_countParts 23 = .ok (.lconst 1, 1) := by decide +kernel
theorem dX5_countParts_24 : decode cX5_countParts 24 = .ok (.land, 1) := by decide +kernel
theorem dX5_countParts_25 : decode cX5_countParts 25 = .ok (.lconst 0, 1) := by decide +kernel
theorem dX5_countParts_26 : decode cX5_countParts 26 = .ok (.lcmp, 1) := by decide +kernel
theorem dX5_countParts_27 : decode cX5_countParts 27 = .ok (.ifCond .ne 15, 3) := by decide +kernel
theorem dX5_countParts_30 : decode cX5_countParts 30 = .ok (.iinc 1 1, 3) := by decide +kernel
theorem dX5_countParts_33 : decode cX5_countParts 33 = .ok (.aload_n 0, 1) := by decide +kernel
theorem dX5_countParts_34 : decode cX5_countParts 34 = .ok (.aload_n 0, 1) := by decide +kernel
theorem dX5_countParts_35 : decode cX5_countParts 35 = .ok (.iload_n 2, 1) := by decide +kernel
theorem dX5_countParts_36 : decode cX5_countParts 36 = .ok (.invokevirtual 140, 3) := by decide +kernel
theorem dX5_countParts_39 : decode cX5_countParts 39 = .ok (.invokevirtual 143, 3) := by decide +kernel
theorem dX5_countParts_42 : decode cX5_countParts 42 = .ok (.iinc 2 1, 3) := by decide +kernel
theorem dX5_countParts_45 : decode cX5_countParts 45 = .ok (.goto (-36), 3) := by decide +kernel
theorem dX5_countParts_48 : decode cX5_countParts 48 = .ok (.iload_n 1, 1) := by decide +kernel
theorem dX5_countParts_49 : decode cX5_countParts 49 = .ok (.ireturn, 1) := by decide +kernel
def hX5_countParts_9 (f : Nat) (Φ : Int → aj_M → Prop) : Nat → List Nat → Int → Int → aj_M → Prop
  | 0, _, _, _, _ => False
  | k + 1, q0, v1, v2, m => rI v2 ∧ rI (m q0 0) ∧ ((m q0 0) ≤ v2 → Φ v1 m) ∧ (¬ ((m q0 0) ≤ v2) → rL (aj_landL (aj_lshr (m q0 15) v2) 1) ∧ (¬ (aj_landL (aj_lshr (m q0 15) v2) 1) = 0 → hX5_countParts_9 f Φ k q0 v1 (v2 + 1) m) ∧ ((aj_landL (aj_lshr (m q0 15) v2) 1) = 0 → wX5_spread f (fun z1 m1 => wX5_markReached f (fun m2 => hX5_countParts_9 f Φ k q0 (v1 + 1) (v2 + 1) m2) q0 z1 m1) q0 v2 m))
set_option maxHeartbeats 4000000 in
set_option maxRecDepth 100000 in
theorem tX5_countParts_9 {X : aj_T} {n f : Nat} {Φ : Int → aj_M → Prop} (C : aj_Cx X cX5_countParts RX5 3 (n + 2)) (K : aj_Rt X (some .int) (fun r m => ∃ z, r = some (vI z) ∧ Φ z m)) : ∀ (k : Nat) (q0 : List Nat) (v1 : Int) (v2 : Int) (m : aj_M) (hq0 : (.inl (5, q0) : aj_R) ∈ aj_pls), hX5_countParts_9 f Φ k q0 v1 v2 m → aj_J X 9 [some (vO 5 q0), some (vI v1), some (vI v2)] [] m := by
  intro k
  induction k with
  | zero =>
    intro q0 v1 v2 m _ h
    exact h.elim
  | succ k ih =>
    intro q0 v1 v2 m hq0 h
    unfold hX5_countParts_9 at h
    refine aj_iload_n C dX5_countParts_9 rfl ?_
    refine aj_aload_n C dX5_countParts_10 rfl ?_
    refine aj_getI C flX5_9 hq0 (by decide) dX5_countParts_11 rfl ?_
    obtain ⟨r0, r1, h1, h2⟩ := h
    refine aj_icmp_ge (tgt := 48) C dX5_countParts_14 (by decide) r0 r1 (fun e => ?_) (fun e => ?_)
    · have h := h1 e
      refine aj_iload_n C dX5_countParts_48 rfl ?_
      exact aj_iret C K dX5_countParts_49 ⟨_, rfl, h⟩
    · have h := h2 e
      refine aj_aload_n C dX5_countParts_17 rfl ?_
      refine aj_getL C flX5_59 hq0 rfl dX5_countParts_18 rfl ?_
      refine aj_iload_n C dX5_countParts_21 rfl ?_
      refine aj_lshr_ C dX5_countParts_22 ?_
      refine aj_lconst (z := 1) C dX5_countParts_23 rfl ?_
      refine aj_land C dX5_countParts_24 ?_
      refine aj_lconst (z := 0) C dX5_countParts_25 rfl ?_
      obtain ⟨r0, h1, h2⟩ := h
      refine aj_lcmp_ne (tgt := 42) C dX5_countParts_26 dX5_countParts_27 (by decide) r0 (by decide) (fun e => ?_) (fun e => ?_)
      · have h := h1 e
        refine aj_iinc (lv' := [some (vO 5 q0), some (vI v1), some (vI (v2 + 1))]) C dX5_countParts_42 rfl (by decide) rfl ?_
        refine aj_goto (tgt := 9) C dX5_countParts_45 (by decide) ?_
        exact ih q0 v1 (v2 + 1) _ hq0 h
      · have h := h2 e
        refine aj_iinc (lv' := [some (vO 5 q0), some (vI (v1 + 1)), some (vI v2)]) C dX5_countParts_30 rfl (by decide) rfl ?_
        refine aj_aload_n C dX5_countParts_33 rfl ?_
        refine aj_aload_n C dX5_countParts_34 rfl ?_
        refine aj_iload_n C dX5_countParts_35 rfl ?_
        refine aj_callV (rest := [vO 5 q0]) C mvX5_140 (sX5_spread hq0 h) hq0 (aj_np 1 (by decide +kernel) rfl) (Nat.le_of_ble_eq_true rfl) rfl dX5_countParts_36 (fun r m1 h => ?_)
        obtain ⟨z1, rfl, h⟩ := h
        refine aj_callV (rest := []) C mvX5_143 (sX5_markReached hq0 h) hq0 (aj_np 1 (by decide +kernel) rfl) (Nat.le_of_ble_eq_true rfl) rfl dX5_countParts_39 (fun r m2 h => ?_)
        obtain ⟨rfl, h⟩ := h
        refine aj_iinc (lv' := [some (vO 5 q0), some (vI (v1 + 1)), some (vI (v2 + 1))]) C dX5_countParts_42 rfl (by decide) rfl ?_
        refine aj_goto (tgt := 9) C dX5_countParts_45 (by decide) ?_
        exact ih q0 (v1 + 1) (v2 + 1) _ hq0 h
def wX5_countParts (f : Nat) (Φ : Int → aj_M → Prop) (q0 : List Nat) (m : aj_M) : Prop := ∀ m1, m1 = aj_u m q0 15 0 → hX5_countParts_9 f Φ f q0 0 0 m1
set_option maxHeartbeats 4000000 in
set_option maxRecDepth 100000 in
theorem sX5_countParts {n f : Nat} {Φ : Int → aj_M → Prop} {q0 : List Nat} {m : aj_M} (hq0 : (.inl (5, q0) : aj_R) ∈ aj_pls) (h : wX5_countParts f Φ q0 m) : aj_Ct (n + 2) yX5_countParts cX5_countParts 3 (some .int) [vO 5 q0] m (fun r m => ∃ z, r = some (vI z) ∧ Φ z m) := by
  refine aj_met (lv := [some (vO 5 q0), none, none]) (by decide +kernel) rfl (Nat.le_of_ble_eq_true rfl) (fun X C K => ?_)
  unfold wX5_countParts at h
  refine aj_iconst C dX5_countParts_0 ?_
  refine aj_istore_n (lv' := [some (vO 5 q0), some (vI 0), none]) C dX5_countParts_1 (by decide) rfl ?_
  refine aj_aload_n C dX5_countParts_2 rfl ?_
  refine aj_lconst (z := 0) C dX5_countParts_3 rfl ?_
  refine aj_putL C fpX5_59 hq0 rfl dX5_countParts_4 ?_
  refine aj_nm (fun m1 e1 => ?_)
  have h := h m1 e1
  refine aj_iconst C dX5_countParts_7 ?_
  refine aj_istore_n (lv' := [some (vO 5 q0), some (vI 0), some (vI 0)]) C dX5_countParts_8 (by decide) rfl ?_
  exact tX5_countParts_9 C K f q0 0 0 _ hq0 h
