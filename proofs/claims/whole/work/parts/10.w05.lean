theorem dX5_shortestRing_0 : decode cX5_shortestRing 0 = .ok (.ldc 151, 2) := by decide +kernel
theorem dX5_shortestRing_2 : decode cX5_shortestRing 2 = .ok (.istore_n 1, 1) := by decide +kernel
theorem dX5_shortestRing_3 : decode cX5_shortestRing 3 = .ok (.iconst 0, 1) := by decide +kernel
theorem dX5_shortestRing_4 : decode cX5_shortestRing 4 = .ok (.istore_n 2, 1) := by decide +kernel
theorem dX5_shortestRing_5 : decode cX5_shortestRing 5 = .ok (.iload_n 2, 1) := by decide +kernel
theorem dX5_shortestRing_6 : decode cX5_shortestRing 6 = .ok (.aload_n 0, 1) := by decide +kernel
theorem dX5_shortestRing_7 : decode cX5_shortestRing 7 = .ok (.getfield 9, 3) := by decide +kernel
theorem dX5_shortestRing_10 : decode cX5_shortestRing 10 = .ok (.if_icmp .ge 16, 3) := by decide +kernel
theorem dX5_shortestRing_13 : decode cX5_shortestRing 13 = .ok (.aload_n 0, 1) := by decide +kernel
theorem dX5_shortestRing_14 : decode cX5_shortestRing 14 = .ok (.iload_n 2, 1) := by decide +kernel
theorem dX5_shortestRing_15 : decode cX5_shortestRing 15 = .ok (.iload_n 1, 1) := by decide +kernel
theorem dX5_shortestRing_16 : decode cX5_shortestRing 16 = .ok (.invokevirtual 152, 3) := by decide +kernel
theorem dX5_shortestRing_19 : decode cX5_shortestRing 19 = .ok (.istore_n 1, 1) := by decide +kernel
theorem dX5_shortestRing_20 : decode cX5_shortestRing 20 = .ok (.iinc 2 1, 3) := by decide +kernel
theorem dX5_shortestRing_23 : decode cX5_shortestRing 23 = .ok (.goto (-18), 3) := by decide +kernel
theorem dX5_shortestRing_26 : decode cX5_shortestRing 26 = .ok (.iload_n 1, 1) := by decide +kernel
theorem dX5_shortestRing_27 : decode cX5_shortestRing 27 = .ok (.ireturn, 1) := by decide +kernel
def hX5_shortestRing_5 (f : Nat) (Φ : Int → aj_M → Prop) : Nat → List Nat → Int → Int → aj_M → Prop
  | 0, _, _, _, _ => False
  | k + 1, q0, v1, v2, m => rI v2 ∧ rI (m q0 0) ∧ ((m q0 0) ≤ v2 → Φ v1 m) ∧ (¬ ((m q0 0) ≤ v2) → wX5_shorterFrom f (fun z1 m1 => hX5_shortestRing_5 f Φ k q0 z1 (v2 + 1) m1) q0 v2 v1 m)
set_option maxHeartbeats 4000000 in
set_option maxRecDepth 100000 in
theorem tX5_shortestRing_5 {X : aj_T} {n f : Nat} {Φ : Int → aj_M → Prop} (C : aj_Cx X cX5_shortestRing RX5 3 (n + 2)) (K : aj_Rt X (some .int) (fun r m => ∃ z, r = some (vI z) ∧ Φ z m)) : ∀ (k : Nat) (q0 : List Nat) (v1 : Int) (v2 : Int) (m : aj_M) (hq0 : (.inl (5, q0) : aj_R) ∈ aj_pls), hX5_shortestRing_5 f Φ k q0 v1 v2 m → aj_J X 5 [some (vO 5 q0), some (vI v1), some (vI v2)] [] m := by
  intro k
  induction k with
  | zero =>
    intro q0 v1 v2 m _ h
    exact h.elim
  | succ k ih =>
    intro q0 v1 v2 m hq0 h
    unfold hX5_shortestRing_5 at h
    refine aj_iload_n C dX5_shortestRing_5 rfl ?_
    refine aj_aload_n C dX5_shortestRing_6 rfl ?_
    refine aj_getI C flX5_9 hq0 (by decide) dX5_shortestRing_7 rfl ?_
    obtain ⟨r0, r1, h1, h2⟩ := h
    refine aj_icmp_ge (tgt := 26) C dX5_shortestRing_10 (by decide) r0 r1 (fun e => ?_) (fun e => ?_)
    · have h := h1 e
      refine aj_iload_n C dX5_shortestRing_26 rfl ?_
      exact aj_iret C K dX5_shortestRing_27 ⟨_, rfl, h⟩
    · have h := h2 e
      refine aj_aload_n C dX5_shortestRing_13 rfl ?_
      refine aj_iload_n C dX5_shortestRing_14 rfl ?_
      refine aj_iload_n C dX5_shortestRing_15 rfl ?_
      refine aj_callV (rest := []) C mvX5_152 (sX5_shorterFrom hq0 h) hq0 (aj_np 2 (by decide +kernel) rfl) (Nat.le_of_ble_eq_true rfl) rfl dX5_shortestRing_16 (fun r m1 h => ?_)
      obtain ⟨z1, rfl, h⟩ := h
      refine aj_istore_n (lv' := [some (vO 5 q0), some (vI z1), some (vI v2)]) C dX5_shortestRing_19 (by decide) rfl ?_
      refine aj_iinc (lv' := [some (vO 5 q0), some (vI z1), some (vI (v2 + 1))]) C dX5_shortestRing_20 rfl (by decide) rfl ?_
      refine aj_goto (tgt := 5) C dX5_shortestRing_23 (by decide) ?_
      exact ih q0 z1 (v2 + 1) _ hq0 h
def wX5_shortestRing (f : Nat) (Φ : Int → aj_M → Prop) (q0 : List Nat) (m : aj_M) : Prop := hX5_shortestRing_5 f Φ f q0 1000000 0 m
set_option maxHeartbeats 4000000 in
set_option maxRecDepth 100000 in
theorem sX5_shortestRing {n f : Nat} {Φ : Int → aj_M → Prop} {q0 : List Nat} {m : aj_M} (hq0 : (.inl (5, q0) : aj_R) ∈ aj_pls) (h : wX5_shortestRing f Φ q0 m) : aj_Ct (n + 2) yX5_shortestRing cX5_shortestRing 3 (some .int) [vO 5 q0] m (fun r m => ∃ z, r = some (vI z) ∧ Φ z m) := by
  refine aj_met (lv := [some (vO 5 q0), none, none]) (by decide +kernel) rfl (Nat.le_of_ble_eq_true rfl) (fun X C K => ?_)
  unfold wX5_shortestRing at h
  refine aj_ldc (z := 1000000) C (wd1069) rfl dX5_shortestRing_0 ?_
  refine aj_istore_n (lv' := [some (vO 5 q0), some (vI 1000000), none]) C dX5_shortestRing_2 (by decide) rfl ?_
  refine aj_iconst C dX5_shortestRing_3 ?_
  refine aj_istore_n (lv' := [some (vO 5 q0), some (vI 1000000), some (vI 0)]) C dX5_shortestRing_4 (by decide) rfl ?_
  exact tX5_shortestRing_5 C K f q0 1000000 0 _ hq0 h
theorem dX5_shortestThrough_0 : decode cX5_shortestThrough 0 = .ok (.aload_n 0, 1) := by decide +kernel
theorem dX5_shortestThrough_1 : decode cX5_shortestThrough 1 = .ok (.iload_n 1, 1) := by decide +kernel
theorem dX5_shortestThrough_2 : decode cX5_shortestThrough 2 = .ok (.invokevirtual 140, 3) := by decide +kernel
theorem dX5_shortestThrough_5 : decode cX5_shortestThrough 5 = .ok (.pop, 1) := by decide +kernel
theorem dX5_shortestThrough_6 : decode cX5_shortestThrough 6 = .ok (.ldc 151, 2) := by decide +kernel
theorem dX5_shortestThrough_8 : decode cX5_shortestThrough 8 = .ok (.istore_n 2, 1) := by decide +kernel
theorem dX5_shortestThrough_9 : decode cX5_shortestThrough 9 = .ok (.iconst 0, 1) := by decide +kernel
theorem dX5_shortestThrough_10 : decode cX5_shortestThrough 10 = .ok (.istore_n 3, 1) := by decide +kernel
theorem dX5_shortestThrough_11 : decode cX5_shortestThrough 11 = .ok (.iload_n 3, 1) := by decide +kernel
theorem dX5_shortestThrough_12 : decode cX5_shortestThrough 12 = .ok (.aload_n 0, 1) := by decide +kernel
theorem dX5_shortestThrough_13 : decode cX5_shortestThrough 13 = .ok (.getfield 15, 3) := by decide +kernel
theorem dX5_shortestThrough_16 : decode cX5_shortestThrough 16 = .ok (.if_icmp .ge 132, 3) := by decide +kernel
theorem dX5_shortestThrough_19 : decode cX5_shortestThrough 19 = .ok (.aload_n 0, 1) := by decide +kernel
theorem dX5_shortestThrough_20 : decode cX5_shortestThrough 20 = .ok (.getfield 18, 3) := by decide +kernel
theorem dX5_shortestThrough_23 : decode cX5_shortestThrough 23 = .ok (.iload_n 3, 1) := by decide +kernel
theorem dX5_shortestThrough_24 : decode cX5_shortestThrough 24 = .ok (.iaload, 1) := by decide +kernel
theorem dX5_shortestThrough_25 : decode cX5_shortestThrough 25 = .ok (.istore 4, 2) := by decide +kernel
theorem dX5_shortestThrough_27 : decode cX5_shortestThrough 27 = .ok (.aload_n 0, 1) := by decide +kernel
theorem dX5_shortestThrough_28 : decode cX5_shortestThrough 28 = .ok (.getfield 22, 3) := by decide +kernel
theorem dX5_shortestThrough_31 : decode cX5_shortestThrough 31 = .ok (.iload_n 3, 1) := by decide +kernel
theorem dX5_shortestThrough_32 : decode cX5_shortestThrough 32 = .ok (.iaload, 1) := by decide +kernel
theorem dX5_shortestThrough_33 : decode cX5_shortestThrough 33 = .ok (.istore 5, 2) := by decide +kernel
theorem dX5_shortestThrough_35 : decode cX5_shortestThrough 35 = .ok (.iload 4, 2) := by decide +kernel
theorem dX5_shortestThrough_37 : decode cX5_shortestThrough 37 = .ok (.iload_n 1, 1) := by decide +kernel
theorem dX5_shortestThrough_38 : decode cX5_shortestThrough 38 = .ok (.if_icmp .ne 11, 3) := by decide +kernel
theorem dX5_shortestThrough_41 : decode cX5_shortestThrough 41 = .ok (.iload 5, 2) := by decide +kernel
theorem dX5_shortestThrough_43 : decode cX5_shortestThrough 43 = .ok (.iload_n 1, 1) := by decide +kernel
theorem dX5_shortestThrough_44 : decode cX5_shortestThrough 44 = .ok (.if_icmp .ne 5, 3) := by decide +kernel
theorem dX5_shortestThrough_47 : decode cX5_shortestThrough 47 = .ok (.iconst 1, 1) := by decide +kernel
theorem dX5_shortestThrough_48 : decode cX5_shortestThrough 48 = .ok (.ireturn, 1) := by decide +kernel
theorem dX5_shortestThrough_49 : decode cX5_shortestThrough 49 = .ok (.aload_n 0, 1) := by decide +kernel
theorem dX5_shortestThrough_50 : decode cX5_shortestThrough 50 = .ok (.getfield 50, 3) := by decide +kernel
theorem dX5_shortestThrough_53 : decode cX5_shortestThrough 53 = .ok (.iload 4, 2) := by decide +kernel
theorem dX5_shortestThrough_55 : decode cX5_shortestThrough 55 = .ok (.iaload, 1) := by decide +kernel
theorem dX5_shortestThrough_56 : decode cX5_shortestThrough 56 = .ok (.iload_n 3, 1) := by decide +kernel
theorem dX5_shortestThrough_57 : decode cX5_shortestThrough 57 = .ok (.if_icmp .eq 14, 3) := by decide +kernel
theorem dX5_shortestThrough_60 : decode cX5_shortestThrough 60 = .ok (.aload_n 0, 1) := by decide +kernel
theorem dX5_shortestThrough_61 : decode cX5_shortestThrough 61 = .ok (.getfield 50, 3) := by decide +kernel
theorem dX5_shortestThrough_64 : decode cX5_shortestThrough 64 = .ok (.iload 5, 2) := by decide +kernel
theorem dX5_shortestThrough_66 : decode cX5_shortestThrough 66 = .ok (.iaload, 1) := by decide +kernel
theorem dX5_shortestThrough_67 : decode cX5_shortestThrough 67 = .ok (.iload_n 3, 1) := by decide +kernel
theorem dX5_shortestThrough_68 : decode cX5_shortestThrough 68 = .ok (.if_icmp .ne 7, 3) := by decide +kernel
theorem dX5_shortestThrough_71 : decode cX5_shortestThrough 71 = .ok (.iconst 1, 1) := by decide +kernel
theorem dX5_shortestThrough_72 : decode cX5_shortestThrough 72 = .ok (.goto 4, 3) := by decide +kernel
theorem dX5_shortestThrough_75 : decode cX5_shortestThrough 75 = .ok (.iconst 0, 1) := by decide +kernel
theorem dX5_shortestThrough_76 : decode cX5_shortestThrough 76 = .ok (.istore 6, 2) := by decide +kernel
theorem dX5_shortestThrough_78 : decode cX5_shortestThrough 78 = .ok (.aload_n 0, 1) := by decide +kernel
theorem dX5_shortestThrough_79 : decode cX5_shortestThrough 79 = .ok (.getfield 44, 3) := by decide +kernel
theorem dX5_shortestThrough_82 : decode cX5_shortestThrough 82 = .ok (.iload 4, 2) := by decide +kernel
theorem dX5_shortestThrough_84 : decode cX5_shortestThrough 84 = .ok (.iaload, 1) := by decide +kernel
theorem dX5_shortestThrough_85 : decode cX5_shortestThrough 85 = .ok (.ifCond .lt 57, 3) := by decide +kernel
theorem dX5_shortestThrough_88 : decode cX5_shortestThrough 88 = .ok (.aload_n 0, 1) := by decide +kernel
theorem dX5_shortestThrough_89 : decode cX5_shortestThrough 89 = .ok (.getfield 44, 3) := by decide +kernel
theorem dX5_shortestThrough_92 : decode cX5_shortestThrough 92 = .ok (.iload 5, 2) := by decide +kernel
theorem dX5_shortestThrough_94 : decode cX5_shortestThrough 94 = .ok (.iaload, 1) := by decide +kernel
theorem dX5_shortestThrough_95 : decode cX5_shortestThrough 95 = .ok (.ifCond .lt 47, 3) := by decide +kernel
theorem dX5_shortestThrough_98 : decode cX5_shortestThrough 98 = .ok (.iload 6, 2) := by decide +kernel
theorem dX5_shortestThrough_100 : decode cX5_shortestThrough 100 = .ok (.ifCond .ne 42, 3) := by decide +kernel
theorem dX5_shortestThrough_103 : decode cX5_shortestThrough 103 = .ok (.aload_n 0, 1) := by decide +kernel
theorem dX5_shortestThrough_104 : decode cX5_shortestThrough 104 = .ok (.getfield 53, 3) := by decide +kernel
theorem dX5_shortestThrough_107 : decode cX5_shortestThrough 107 = .ok (.iload 4, 2) := by decide +kernel
theorem dX5_shortestThrough_109 : decode cX5_shortestThrough 109 = .ok (.iaload, 1) := by decide +kernel
theorem dX5_shortestThrough_110 : decode cX5_shortestThrough 110 = .ok (.aload_n 0, 1) := by decide +kernel
theorem dX5_shortestThrough_111 : decode cX5_shortestThrough 111 = .ok (.getfield 53, 3) := by decide +kernel
theorem dX5_shortestThrough_114 : decode cX5_shortestThrough 114 = .ok (.iload 5, 2) := by decide +kernel
theorem dX5_shortestThrough_116 : decode cX5_shortestThrough 116 = .ok (.iaload, 1) := by decide +kernel
theorem dX5_shortestThrough_117 : decode cX5_shortestThrough 117 = .ok (.if_icmp .eq 25, 3) := by decide +kernel
theorem dX5_shortestThrough_120 : decode cX5_shortestThrough 120 = .ok (.iload_n 2, 1) := by decide +kernel
theorem dX5_shortestThrough_121 : decode cX5_shortestThrough 121 = .ok (.aload_n 0, 1) := by decide +kernel
theorem dX5_shortestThrough_122 : decode cX5_shortestThrough 122 = .ok (.getfield 44, 3) := by decide +kernel
theorem dX5_shortestThrough_125 : decode cX5_shortestThrough 125 = .ok (.iload 4, 2) := by decide +kernel
theorem dX5_shortestThrough_127 : decode cX5_shortestThrough 127 = .ok (.iaload, 1) := by decide +kernel
theorem dX5_shortestThrough_128 : decode cX5_shortestThrough 128 = .ok (.aload_n 0, 1) := by decide +kernel
theorem dX5_shortestThrough_129 : decode cX5_shortestThrough 129 = .ok (.getfield 44, 3) := by decide +kernel
theorem dX5_shortestThrough_132 : decode cX5_shortestThrough 132 = .ok (.iload 5, 2) := by decide +kernel
theorem dX5_shortestThrough_134 : decode cX5_shortestThrough 134 = .ok (.iaload, 1) := by decide +kernel
theorem dX5_shortestThrough_135 : decode cX5_shortestThrough 135 = .ok (.iadd, 1) := by decide +kernel
theorem dX5_shortestThrough_136 : decode cX5_shortestThrough 136 = .ok (.iconst 1, 1) := by decide +kernel
theorem dX5_shortestThrough_137 : decode cX5_shortestThrough 137 = .ok (.iadd, 1) := by decide +kernel
theorem dX5_shortestThrough_138 : decode cX5_shortestThrough 138 = .ok (.invokestatic 155, 3) := by decide +kernel
theorem dX5_shortestThrough_141 : decode cX5_shortestThrough 141 = .ok (.istore_n 2, 1) := by decide +kernel
theorem dX5_shortestThrough_142 : decode cX5_shortestThrough 142 = .ok (.iinc 3 1, 3) := by decide +kernel
theorem dX5_shortestThrough_145 : decode cX5_shortestThrough 145 = .ok (.goto (-134), 3) := by decide +kernel
theorem dX5_shortestThrough_148 : decode cX5_shortestThrough 148 = .ok (.iload_n 2, 1) := by decide +kernel
theorem dX5_shortestThrough_149 : decode cX5_shortestThrough 149 = .ok (.ireturn, 1) := by decide +kernel
def hX5_shortestThrough_76 (f : Nat) (Φ : Int → aj_M → Prop) (K11 : List Nat → Int → Int → Int → aj_M → Prop) (q0 : List Nat) (v1 : Int) (v2 : Int) (v3 : Int) (v4 : Int) (v5 : Int) (vs0 : Int) (m : aj_M) : Prop := (0 ≤ v4 ∧ v4 < 60) ∧ rI (m (10 :: q0) v4.toNat) ∧ ((m (10 :: q0) v4.toNat) < 0 → K11 q0 v1 v2 (v3 + 1) m) ∧ (¬ ((m (10 :: q0) v4.toNat) < 0) → (0 ≤ v5 ∧ v5 < 60) ∧ rI (m (10 :: q0) v5.toNat) ∧ ((m (10 :: q0) v5.toNat) < 0 → K11 q0 v1 v2 (v3 + 1) m) ∧ (¬ ((m (10 :: q0) v5.toNat) < 0) → rI vs0 ∧ (¬ vs0 = 0 → K11 q0 v1 v2 (v3 + 1) m) ∧ (vs0 = 0 → (0 ≤ v4 ∧ v4 < 60) ∧ (0 ≤ v5 ∧ v5 < 60) ∧ rI (m (13 :: q0) v4.toNat) ∧ rI (m (13 :: q0) v5.toNat) ∧ ((m (13 :: q0) v4.toNat) = (m (13 :: q0) v5.toNat) → K11 q0 v1 v2 (v3 + 1) m) ∧ (¬ ((m (13 :: q0) v4.toNat) = (m (13 :: q0) v5.toNat)) → (0 ≤ v4 ∧ v4 < 60) ∧ (0 ≤ v5 ∧ v5 < 60) ∧ rI v2 ∧ rI (((m (10 :: q0) v4.toNat) + (m (10 :: q0) v5.toNat)) + 1) ∧ K11 q0 v1 (min v2 (((m (10 :: q0) v4.toNat) + (m (10 :: q0) v5.toNat)) + 1)) (v3 + 1) m))))
set_option maxHeartbeats 4000000 in
set_option maxRecDepth 100000 in
theorem tX5_shortestThrough_76 {X : aj_T} {n f : Nat} {Φ : Int → aj_M → Prop} (C : aj_Cx X cX5_shortestThrough RX5 7 (n + 2)) (K : aj_Rt X (some .int) (fun r m => ∃ z, r = some (vI z) ∧ Φ z m)) {K11 : List Nat → Int → Int → Int → aj_M → Prop} (HK11 : ∀ (q0 : List Nat) (v1 : Int) (v2 : Int) (v3 : Int) (m : aj_M) (hq0 : (.inl (5, q0) : aj_R) ∈ aj_pls), K11 q0 v1 v2 v3 m → aj_J X 11 [some (vO 5 q0), some (vI v1), some (vI v2), some (vI v3), none, none, none] [] m) (q0 : List Nat) (v1 : Int) (v2 : Int) (v3 : Int) (v4 : Int) (v5 : Int) (vs0 : Int) (m : aj_M) (hq0 : (.inl (5, q0) : aj_R) ∈ aj_pls) (h : hX5_shortestThrough_76 f Φ K11 q0 v1 v2 v3 v4 v5 vs0 m) : aj_J X 76 [some (vO 5 q0), some (vI v1), some (vI v2), some (vI v3), some (vI v4), some (vI v5), none] [vI vs0] m := by
  unfold hX5_shortestThrough_76 at h
  refine aj_istore (lv' := [some (vO 5 q0), some (vI v1), some (vI v2), some (vI v3), some (vI v4), some (vI v5), some (vI vs0)]) C dX5_shortestThrough_76 (by decide) rfl ?_
  refine aj_aload_n C dX5_shortestThrough_78 rfl ?_
  refine aj_getA (x := 0) (y := 60) C flX5_44 hq0 rfl dX5_shortestThrough_79 ?_
  refine aj_iload C dX5_shortestThrough_82 rfl ?_
  obtain ⟨r0, h⟩ := h
  refine aj_iald C (aj_ca (e := 0) (n := 60) (j := 10) hq0 (by decide) rfl) (by decide) r0 dX5_shortestThrough_84 rfl ?_
  obtain ⟨r0, h1, h2⟩ := h
  refine aj_if_lt (tgt := 142) C dX5_shortestThrough_85 (by decide) r0 (fun e => ?_) (fun e => ?_)
  · have h := h1 e
    refine aj_iinc (lv' := [some (vO 5 q0), some (vI v1), some (vI v2), some (vI (v3 + 1)), some (vI v4), some (vI v5), some (vI vs0)]) C dX5_shortestThrough_142 rfl (by decide) rfl ?_
    refine aj_goto (tgt := 11) C dX5_shortestThrough_145 (by decide) ?_
    refine aj_wk (lv' := [some (vO 5 q0), some (vI v1), some (vI v2), some (vI (v3 + 1)), none, none, none]) (⟨rfl, ⟨rfl, ⟨rfl, ⟨rfl, trivial⟩⟩⟩⟩) ?_
    exact HK11 q0 v1 v2 (v3 + 1) _ hq0 h
  · have h := h2 e
    refine aj_aload_n C dX5_shortestThrough_88 rfl ?_
    refine aj_getA (x := 0) (y := 60) C flX5_44 hq0 rfl dX5_shortestThrough_89 ?_
    refine aj_iload C dX5_shortestThrough_92 rfl ?_
    obtain ⟨r0, h⟩ := h
    refine aj_iald C (aj_ca (e := 0) (n := 60) (j := 10) hq0 (by decide) rfl) (by decide) r0 dX5_shortestThrough_94 rfl ?_
    obtain ⟨r0, h1, h2⟩ := h
    refine aj_if_lt (tgt := 142) C dX5_shortestThrough_95 (by decide) r0 (fun e => ?_) (fun e => ?_)
    · have h := h1 e
      refine aj_iinc (lv' := [some (vO 5 q0), some (vI v1), some (vI v2), some (vI (v3 + 1)), some (vI v4), some (vI v5), some (vI vs0)]) C dX5_shortestThrough_142 rfl (by decide) rfl ?_
      refine aj_goto (tgt := 11) C dX5_shortestThrough_145 (by decide) ?_
      refine aj_wk (lv' := [some (vO 5 q0), some (vI v1), some (vI v2), some (vI (v3 + 1)), none, none, none]) (⟨rfl, ⟨rfl, ⟨rfl, ⟨rfl, trivial⟩⟩⟩⟩) ?_
      exact HK11 q0 v1 v2 (v3 + 1) _ hq0 h
    · have h := h2 e
      refine aj_iload C dX5_shortestThrough_98 rfl ?_
      obtain ⟨r0, h1, h2⟩ := h
      refine aj_if_ne (tgt := 142) C dX5_shortestThrough_100 (by decide) r0 (fun e => ?_) (fun e => ?_)
      · have h := h1 e
        refine aj_iinc (lv' := [some (vO 5 q0), some (vI v1), some (vI v2), some (vI (v3 + 1)), some (vI v4), some (vI v5), some (vI vs0)]) C dX5_shortestThrough_142 rfl (by decide) rfl ?_
        refine aj_goto (tgt := 11) C dX5_shortestThrough_145 (by decide) ?_
        refine aj_wk (lv' := [some (vO 5 q0), some (vI v1), some (vI v2), some (vI (v3 + 1)), none, none, none]) (⟨rfl, ⟨rfl, ⟨rfl, ⟨rfl, trivial⟩⟩⟩⟩) ?_
        exact HK11 q0 v1 v2 (v3 + 1) _ hq0 h
      · have h := h2 e
        refine aj_aload_n C dX5_shortestThrough_103 rfl ?_
        refine aj_getA (x := 0) (y := 60) C flX5_53 hq0 rfl dX5_shortestThrough_104 ?_
        refine aj_iload C dX5_shortestThrough_107 rfl ?_
        obtain ⟨r0, h⟩ := h
        refine aj_iald C (aj_ca (e := 0) (n := 60) (j := 13) hq0 (by decide) rfl) (by decide) r0 dX5_shortestThrough_109 rfl ?_
        refine aj_aload_n C dX5_shortestThrough_110 rfl ?_
        refine aj_getA (x := 0) (y := 60) C flX5_53 hq0 rfl dX5_shortestThrough_111 ?_
        refine aj_iload C dX5_shortestThrough_114 rfl ?_
        obtain ⟨r0, h⟩ := h
        refine aj_iald C (aj_ca (e := 0) (n := 60) (j := 13) hq0 (by decide) rfl) (by decide) r0 dX5_shortestThrough_116 rfl ?_
        obtain ⟨r0, r1, h1, h2⟩ := h
        refine aj_icmp_eq (tgt := 142) C dX5_shortestThrough_117 (by decide) r0 r1 (fun e => ?_) (fun e => ?_)
        · have h := h1 e
          refine aj_iinc (lv' := [some (vO 5 q0), some (vI v1), some (vI v2), some (vI (v3 + 1)), some (vI v4), some (vI v5), some (vI vs0)]) C dX5_shortestThrough_142 rfl (by decide) rfl ?_
          refine aj_goto (tgt := 11) C dX5_shortestThrough_145 (by decide) ?_
          refine aj_wk (lv' := [some (vO 5 q0), some (vI v1), some (vI v2), some (vI (v3 + 1)), none, none, none]) (⟨rfl, ⟨rfl, ⟨rfl, ⟨rfl, trivial⟩⟩⟩⟩) ?_
          exact HK11 q0 v1 v2 (v3 + 1) _ hq0 h
        · have h := h2 e
          refine aj_iload_n C dX5_shortestThrough_120 rfl ?_
          refine aj_aload_n C dX5_shortestThrough_121 rfl ?_
          refine aj_getA (x := 0) (y := 60) C flX5_44 hq0 rfl dX5_shortestThrough_122 ?_
          refine aj_iload C dX5_shortestThrough_125 rfl ?_
          obtain ⟨r0, h⟩ := h
          refine aj_iald C (aj_ca (e := 0) (n := 60) (j := 10) hq0 (by decide) rfl) (by decide) r0 dX5_shortestThrough_127 rfl ?_
          refine aj_aload_n C dX5_shortestThrough_128 rfl ?_
          refine aj_getA (x := 0) (y := 60) C flX5_44 hq0 rfl dX5_shortestThrough_129 ?_
          refine aj_iload C dX5_shortestThrough_132 rfl ?_
          obtain ⟨r0, h⟩ := h
          refine aj_iald C (aj_ca (e := 0) (n := 60) (j := 10) hq0 (by decide) rfl) (by decide) r0 dX5_shortestThrough_134 rfl ?_
          refine aj_iadd C dX5_shortestThrough_135 ?_
          refine aj_iconst C dX5_shortestThrough_136 ?_
          refine aj_iadd C dX5_shortestThrough_137 ?_
          obtain ⟨r0, r1, h⟩ := h
          refine aj_mmin C msX5_155 (Nat.le_of_ble_eq_true rfl) r0 r1 dX5_shortestThrough_138 ?_
          refine aj_istore_n (lv' := [some (vO 5 q0), some (vI v1), some (vI (min v2 (((m (10 :: q0) v4.toNat) + (m (10 :: q0) v5.toNat)) + 1))), some (vI v3), some (vI v4), some (vI v5), some (vI vs0)]) C dX5_shortestThrough_141 (by decide) rfl ?_
          refine aj_iinc (lv' := [some (vO 5 q0), some (vI v1), some (vI (min v2 (((m (10 :: q0) v4.toNat) + (m (10 :: q0) v5.toNat)) + 1))), some (vI (v3 + 1)), some (vI v4), some (vI v5), some (vI vs0)]) C dX5_shortestThrough_142 rfl (by decide) rfl ?_
          refine aj_goto (tgt := 11) C dX5_shortestThrough_145 (by decide) ?_
          refine aj_wk (lv' := [some (vO 5 q0), some (vI v1), some (vI (min v2 (((m (10 :: q0) v4.toNat) + (m (10 :: q0) v5.toNat)) + 1))), some (vI (v3 + 1)), none, none, none]) (⟨rfl, ⟨rfl, ⟨rfl, ⟨rfl, trivial⟩⟩⟩⟩) ?_
          exact HK11 q0 v1 (min v2 (((m (10 :: q0) v4.toNat) + (m (10 :: q0) v5.toNat)) + 1)) (v3 + 1) _ hq0 h
def hX5_shortestThrough_49 (f : Nat) (Φ : Int → aj_M → Prop) (K11 : List Nat → Int → Int → Int → aj_M → Prop) (q0 : List Nat) (v1 : Int) (v2 : Int) (v3 : Int) (v4 : Int) (v5 : Int) (m : aj_M) : Prop := (0 ≤ v4 ∧ v4 < 60) ∧ rI (m (12 :: q0) v4.toNat) ∧ rI v3 ∧ ((m (12 :: q0) v4.toNat) = v3 → hX5_shortestThrough_76 f Φ K11 q0 v1 v2 v3 v4 v5 1 m) ∧ (¬ ((m (12 :: q0) v4.toNat) = v3) → (0 ≤ v5 ∧ v5 < 60) ∧ rI (m (12 :: q0) v5.toNat) ∧ rI v3 ∧ (¬ (m (12 :: q0) v5.toNat) = v3 → hX5_shortestThrough_76 f Φ K11 q0 v1 v2 v3 v4 v5 0 m) ∧ ((m (12 :: q0) v5.toNat) = v3 → hX5_shortestThrough_76 f Φ K11 q0 v1 v2 v3 v4 v5 1 m))
set_option maxHeartbeats 4000000 in
set_option maxRecDepth 100000 in
theorem tX5_shortestThrough_49 {X : aj_T} {n f : Nat} {Φ : Int → aj_M → Prop} (C : aj_Cx X cX5_shortestThrough RX5 7 (n + 2)) (K : aj_Rt X (some .int) (fun r m => ∃ z, r = some (vI z) ∧ Φ z m)) {K11 : List Nat → Int → Int → Int → aj_M → Prop} (HK11 : ∀ (q0 : List Nat) (v1 : Int) (v2 : Int) (v3 : Int) (m : aj_M) (hq0 : (.inl (5, q0) : aj_R) ∈ aj_pls), K11 q0 v1 v2 v3 m → aj_J X 11 [some (vO 5 q0), some (vI v1), some (vI v2), some (vI v3), none, none, none] [] m) (q0 : List Nat) (v1 : Int) (v2 : Int) (v3 : Int) (v4 : Int) (v5 : Int) (m : aj_M) (hq0 : (.inl (5, q0) : aj_R) ∈ aj_pls) (h : hX5_shortestThrough_49 f Φ K11 q0 v1 v2 v3 v4 v5 m) : aj_J X 49 [some (vO 5 q0), some (vI v1), some (vI v2), some (vI v3), some (vI v4), some (vI v5), none] [] m := by
  unfold hX5_shortestThrough_49 at h
  refine aj_aload_n C dX5_shortestThrough_49 rfl ?_
  refine aj_getA (x := 0) (y := 60) C flX5_50 hq0 rfl dX5_shortestThrough_50 ?_
  refine aj_iload C dX5_shortestThrough_53 rfl ?_
  obtain ⟨r0, h⟩ := h
  refine aj_iald C (aj_ca (e := 0) (n := 60) (j := 12) hq0 (by decide) rfl) (by decide) r0 dX5_shortestThrough_55 rfl ?_
  refine aj_iload_n C dX5_shortestThrough_56 rfl ?_
  obtain ⟨r0, r1, h1, h2⟩ := h
  refine aj_icmp_eq (tgt := 71) C dX5_shortestThrough_57 (by decide) r0 r1 (fun e => ?_) (fun e => ?_)
  · have h := h1 e
    refine aj_iconst C dX5_shortestThrough_71 ?_
    refine aj_goto (tgt := 76) C dX5_shortestThrough_72 (by decide) ?_
    exact tX5_shortestThrough_76 C K HK11 q0 v1 v2 v3 v4 v5 1 _ hq0 h
  · have h := h2 e
    refine aj_aload_n C dX5_shortestThrough_60 rfl ?_
    refine aj_getA (x := 0) (y := 60) C flX5_50 hq0 rfl dX5_shortestThrough_61 ?_
    refine aj_iload C dX5_shortestThrough_64 rfl ?_
    obtain ⟨r0, h⟩ := h
    refine aj_iald C (aj_ca (e := 0) (n := 60) (j := 12) hq0 (by decide) rfl) (by decide) r0 dX5_shortestThrough_66 rfl ?_
    refine aj_iload_n C dX5_shortestThrough_67 rfl ?_
    obtain ⟨r0, r1, h1, h2⟩ := h
    refine aj_icmp_ne (tgt := 75) C dX5_shortestThrough_68 (by decide) r0 r1 (fun e => ?_) (fun e => ?_)
    · have h := h1 e
      refine aj_iconst C dX5_shortestThrough_75 ?_
      exact tX5_shortestThrough_76 C K HK11 q0 v1 v2 v3 v4 v5 0 _ hq0 h
    · have h := h2 e
      refine aj_iconst C dX5_shortestThrough_71 ?_
      refine aj_goto (tgt := 76) C dX5_shortestThrough_72 (by decide) ?_
      exact tX5_shortestThrough_76 C K HK11 q0 v1 v2 v3 v4 v5 1 _ hq0 h
def hX5_shortestThrough_11 (f : Nat) (Φ : Int → aj_M → Prop) : Nat → List Nat → Int → Int → Int → aj_M → Prop
  | 0, _, _, _, _, _ => False
  | k + 1, q0, v1, v2, v3, m => rI v3 ∧ rI (m q0 1) ∧ ((m q0 1) ≤ v3 → Φ v2 m) ∧ (¬ ((m q0 1) ≤ v3) → (0 ≤ v3 ∧ v3 < 144) ∧ (0 ≤ v3 ∧ v3 < 144) ∧ rI (m (2 :: q0) v3.toNat) ∧ rI v1 ∧ (¬ (m (2 :: q0) v3.toNat) = v1 → hX5_shortestThrough_49 f Φ (fun q0 v1 v2 v3 m => hX5_shortestThrough_11 f Φ k q0 v1 v2 v3 m) q0 v1 v2 v3 (m (2 :: q0) v3.toNat) (m (3 :: q0) v3.toNat) m) ∧ ((m (2 :: q0) v3.toNat) = v1 → rI (m (3 :: q0) v3.toNat) ∧ rI v1 ∧ (¬ (m (3 :: q0) v3.toNat) = v1 → hX5_shortestThrough_49 f Φ (fun q0 v1 v2 v3 m => hX5_shortestThrough_11 f Φ k q0 v1 v2 v3 m) q0 v1 v2 v3 (m (2 :: q0) v3.toNat) (m (3 :: q0) v3.toNat) m) ∧ ((m (3 :: q0) v3.toNat) = v1 → Φ 1 m)))
set_option maxHeartbeats 4000000 in
set_option maxRecDepth 100000 in
theorem tX5_shortestThrough_11 {X : aj_T} {n f : Nat} {Φ : Int → aj_M → Prop} (C : aj_Cx X cX5_shortestThrough RX5 7 (n + 2)) (K : aj_Rt X (some .int) (fun r m => ∃ z, r = some (vI z) ∧ Φ z m)) : ∀ (k : Nat) (q0 : List Nat) (v1 : Int) (v2 : Int) (v3 : Int) (m : aj_M) (hq0 : (.inl (5, q0) : aj_R) ∈ aj_pls), hX5_shortestThrough_11 f Φ k q0 v1 v2 v3 m → aj_J X 11 [some (vO 5 q0), some (vI v1), some (vI v2), some (vI v3), none, none, none] [] m := by
  intro k
  induction k with
  | zero =>
    intro q0 v1 v2 v3 m _ h
    exact h.elim
  | succ k ih =>
    intro q0 v1 v2 v3 m hq0 h
    unfold hX5_shortestThrough_11 at h
    refine aj_iload_n C dX5_shortestThrough_11 rfl ?_
    refine aj_aload_n C dX5_shortestThrough_12 rfl ?_
    refine aj_getI C flX5_15 hq0 (by decide) dX5_shortestThrough_13 rfl ?_
    obtain ⟨r0, r1, h1, h2⟩ := h
    refine aj_icmp_ge (tgt := 148) C dX5_shortestThrough_16 (by decide) r0 r1 (fun e => ?_) (fun e => ?_)
    · have h := h1 e
      refine aj_iload_n C dX5_shortestThrough_148 rfl ?_
      exact aj_iret C K dX5_shortestThrough_149 ⟨_, rfl, h⟩
    · have h := h2 e
      refine aj_aload_n C dX5_shortestThrough_19 rfl ?_
      refine aj_getA (x := 0) (y := 144) C flX5_18 hq0 rfl dX5_shortestThrough_20 ?_
      refine aj_iload_n C dX5_shortestThrough_23 rfl ?_
      obtain ⟨r0, h⟩ := h
      refine aj_iald C (aj_ca (e := 0) (n := 144) (j := 2) hq0 (by decide) rfl) (by decide) r0 dX5_shortestThrough_24 rfl ?_
      refine aj_istore (lv' := [some (vO 5 q0), some (vI v1), some (vI v2), some (vI v3), some (vI (m (2 :: q0) v3.toNat)), none, none]) C dX5_shortestThrough_25 (by decide) rfl ?_
      refine aj_aload_n C dX5_shortestThrough_27 rfl ?_
      refine aj_getA (x := 0) (y := 144) C flX5_22 hq0 rfl dX5_shortestThrough_28 ?_
      refine aj_iload_n C dX5_shortestThrough_31 rfl ?_
      obtain ⟨r0, h⟩ := h
      refine aj_iald C (aj_ca (e := 0) (n := 144) (j := 3) hq0 (by decide) rfl) (by decide) r0 dX5_shortestThrough_32 rfl ?_
      refine aj_istore (lv' := [some (vO 5 q0), some (vI v1), some (vI v2), some (vI v3), some (vI (m (2 :: q0) v3.toNat)), some (vI (m (3 :: q0) v3.toNat)), none]) C dX5_shortestThrough_33 (by decide) rfl ?_
      refine aj_iload C dX5_shortestThrough_35 rfl ?_
      refine aj_iload_n C dX5_shortestThrough_37 rfl ?_
      obtain ⟨r0, r1, h1, h2⟩ := h
      refine aj_icmp_ne (tgt := 49) C dX5_shortestThrough_38 (by decide) r0 r1 (fun e => ?_) (fun e => ?_)
      · have h := h1 e
        exact tX5_shortestThrough_49 C K (fun q0 v1 v2 v3 m hq0 hh => ih q0 v1 v2 v3 m hq0 hh) q0 v1 v2 v3 (m (2 :: q0) v3.toNat) (m (3 :: q0) v3.toNat) _ hq0 h
      · have h := h2 e
        refine aj_iload C dX5_shortestThrough_41 rfl ?_
        refine aj_iload_n C dX5_shortestThrough_43 rfl ?_
        obtain ⟨r0, r1, h1, h2⟩ := h
        refine aj_icmp_ne (tgt := 49) C dX5_shortestThrough_44 (by decide) r0 r1 (fun e => ?_) (fun e => ?_)
        · have h := h1 e
          exact tX5_shortestThrough_49 C K (fun q0 v1 v2 v3 m hq0 hh => ih q0 v1 v2 v3 m hq0 hh) q0 v1 v2 v3 (m (2 :: q0) v3.toNat) (m (3 :: q0) v3.toNat) _ hq0 h
        · have h := h2 e
          refine aj_iconst C dX5_shortestThrough_47 ?_
          exact aj_iret C K dX5_shortestThrough_48 ⟨_, rfl, h⟩
def wX5_shortestThrough (f : Nat) (Φ : Int → aj_M → Prop) (q0 : List Nat) (v1 : Int) (m : aj_M) : Prop := wX5_spread f (fun z1 m1 => hX5_shortestThrough_11 f Φ f q0 v1 1000000 0 m1) q0 v1 m
set_option maxHeartbeats 4000000 in
set_option maxRecDepth 100000 in
theorem sX5_shortestThrough {n f : Nat} {Φ : Int → aj_M → Prop} {q0 : List Nat} {v1 : Int} {m : aj_M} (hq0 : (.inl (5, q0) : aj_R) ∈ aj_pls) (h : wX5_shortestThrough f Φ q0 v1 m) : aj_Ct (n + 2) yX5_shortestThrough cX5_shortestThrough 7 (some .int) [vO 5 q0, vI v1] m (fun r m => ∃ z, r = some (vI z) ∧ Φ z m) := by
  refine aj_met (lv := [some (vO 5 q0), some (vI v1), none, none, none, none, none]) (by decide +kernel) rfl (Nat.le_of_ble_eq_true rfl) (fun X C K => ?_)
  unfold wX5_shortestThrough at h
  refine aj_aload_n C dX5_shortestThrough_0 rfl ?_
  refine aj_iload_n C dX5_shortestThrough_1 rfl ?_
  refine aj_callV (rest := []) C mvX5_140 (sX5_spread hq0 h) hq0 (aj_np 1 (by decide +kernel) rfl) (Nat.le_of_ble_eq_true rfl) rfl dX5_shortestThrough_2 (fun r m1 h => ?_)
  obtain ⟨z1, rfl, h⟩ := h
  refine aj_pop C aj_nI dX5_shortestThrough_5 ?_
  refine aj_ldc (z := 1000000) C (wd1069) rfl dX5_shortestThrough_6 ?_
  refine aj_istore_n (lv' := [some (vO 5 q0), some (vI v1), some (vI 1000000), none, none, none, none]) C dX5_shortestThrough_8 (by decide) rfl ?_
  refine aj_iconst C dX5_shortestThrough_9 ?_
  refine aj_istore_n (lv' := [some (vO 5 q0), some (vI v1), some (vI 1000000), some (vI 0), none, none, none]) C dX5_shortestThrough_10 (by decide) rfl ?_
  exact tX5_shortestThrough_11 C K f q0 v1 1000000 0 _ hq0 h
theorem dX6_weightOf_0 : decode cX6_weightOf 0 = .ok (.aload_n 0, 1) := by decide +kernel
theorem dX6_weightOf_1 : decode cX6_weightOf 1 = .ok (.iload_n 1, 1) := by decide +kernel
theorem dX6_weightOf_2 : decode cX6_weightOf 2 = .ok (.invokevirtual 77, 3) := by decide +kernel
theorem dX6_weightOf_5 : decode cX6_weightOf 5 = .ok (.ifCond .eq 20, 3) := by decide +kernel
theorem dX6_weightOf_8 : decode cX6_weightOf 8 = .ok (.aload_n 0, 1) := by decide +kernel
theorem dX6_weightOf_9 : decode cX6_weightOf 9 = .ok (.getfield 21, 3) := by decide +kernel
theorem dX6_weightOf_12 : decode cX6_weightOf 12 = .ok (.getfield 103, 3) := by decide +kernel
theorem dX6_weightOf_15 : decode cX6_weightOf 15 = .ok (.aload_n 0, 1) := by decide +kernel
theorem dX6_weightOf_16 : decode cX6_weightOf 16 = .ok (.getfield 21, 3) := by decide +kernel
theorem dX6_weightOf_19 : decode cX6_weightOf 19 = .ok (.getfield 106, 3) := by decide +kernel
theorem dX6_weightOf_22 : decode cX6_weightOf 22 = .ok (.if_icmp .gt 5, 3) := by decide +kernel
theorem dX6_weightOf_25 : decode cX6_weightOf 25 = .ok (.iconst 1, 1) := by decide +kernel
theorem dX6_weightOf_26 : decode cX6_weightOf 26 = .ok (.ireturn, 1) := by decide +kernel
theorem dX6_weightOf_27 : decode cX6_weightOf 27 = .ok (.aload_n 0, 1) := by decide +kernel
theorem dX6_weightOf_28 : decode cX6_weightOf 28 = .ok (.getfield 21, 3) := by decide +kernel
theorem dX6_weightOf_31 : decode cX6_weightOf 31 = .ok (.aload_n 0, 1) := by decide +kernel
theorem dX6_weightOf_32 : decode cX6_weightOf 32 = .ok (.getfield 21, 3) := by decide +kernel
theorem dX6_weightOf_35 : decode cX6_weightOf 35 = .ok (.getfield 106, 3) := by decide +kernel
theorem dX6_weightOf_38 : decode cX6_weightOf 38 = .ok (.aload_n 0, 1) := by decide +kernel
theorem dX6_weightOf_39 : decode cX6_weightOf 39 = .ok (.getfield 21, 3) := by decide +kernel
theorem dX6_weightOf_42 : decode cX6_weightOf 42 = .ok (.getfield 103, 3) := by decide +kernel
theorem dX6_weightOf_45 : decode cX6_weightOf 45 = .ok (.aload_n 0, 1) := by decide +kernel
theorem dX6_weightOf_46 : decode cX6_weightOf 46 = .ok (.iload_n 1, 1) := by decide +kernel
theorem dX6_weightOf_47 : decode cX6_weightOf 47 = .ok (.iload_n 2, 1) := by decide +kernel
theorem dX6_weightOf_48 : decode cX6_weightOf 48 = .ok (.iload_n 3, 1) := by decide +kernel
theorem dX6_weightOf_49 : decode cX6_weightOf 49 = .ok (.invokevirtual 99, 3) := by decide +kernel
theorem dX6_weightOf_52 : decode cX6_weightOf 52 = .ok (.istore 4, 2) := by decide +kernel
theorem dX6_weightOf_54 : decode cX6_weightOf 54 = .ok (.iconst 1, 1) := by decide +kernel
theorem dX6_weightOf_55 : decode cX6_weightOf 55 = .ok (.bipush 99, 2) := by decide +kernel
theorem dX6_weightOf_57 : decode cX6_weightOf 57 = .ok (.iload 4, 2) := by decide +kernel
theorem dX6_weightOf_59 : decode cX6_weightOf 59 = .ok (.invokestatic 109, 3) := by decide +kernel
theorem dX6_weightOf_62 : decode cX6_weightOf 62 = .ok (.invokestatic 115, 3) := by decide +kernel
theorem dX6_weightOf_65 : decode cX6_weightOf 65 = .ok (.ireturn, 1) := by decide +kernel
def wX6_weightOf (f : Nat) (Φ : Int → aj_M → Prop) (q0 : List Nat) (v1 : Int) (v2 : Int) (v3 : Int) (m : aj_M) : Prop := wX6_hasArc f (fun z1 m1 => rI z1 ∧ (z1 = 0 → Φ 1 m1) ∧ (¬ (z1 = 0) → rI (m1 (1 :: q0) 5) ∧ rI (m1 (1 :: q0) 4) ∧ ((m1 (1 :: q0) 4) < (m1 (1 :: q0) 5) → wX4_value f (fun z2 m2 => rI z2 ∧ rI (min 99 z2) ∧ Φ (max 1 (min 99 z2)) m2) (1 :: q0) (m1 (1 :: q0) 4) (m1 (1 :: q0) 5) q0 v1 v2 v3 m1) ∧ (¬ ((m1 (1 :: q0) 4) < (m1 (1 :: q0) 5)) → Φ 1 m1))) q0 v1 m
set_option maxHeartbeats 4000000 in
set_option maxRecDepth 100000 in
theorem sX6_weightOf {n f : Nat} {Φ : Int → aj_M → Prop} {q0 : List Nat} {v1 : Int} {v2 : Int} {v3 : Int} {m : aj_M} (hq0 : (.inl (6, q0) : aj_R) ∈ aj_pls) (h : wX6_weightOf f Φ q0 v1 v2 v3 m) : aj_Ct (n + 2) yX6_weightOf cX6_weightOf 5 (some .int) [vO 6 q0, vI v1, vI v2, vI v3] m (fun r m => ∃ z, r = some (vI z) ∧ Φ z m) := by
  refine aj_met (lv := [some (vO 6 q0), some (vI v1), some (vI v2), some (vI v3), none]) (by decide +kernel) rfl (Nat.le_of_ble_eq_true rfl) (fun X C K => ?_)
  unfold wX6_weightOf at h
  refine aj_aload_n C dX6_weightOf_0 rfl ?_
  refine aj_iload_n C dX6_weightOf_1 rfl ?_
  refine aj_callV (rest := []) C mvX6_77 (sX6_hasArc hq0 h) hq0 (aj_np 1 (by decide +kernel) rfl) (Nat.le_of_ble_eq_true rfl) rfl dX6_weightOf_2 (fun r m1 h => ?_)
  obtain ⟨z1, rfl, h⟩ := h
  obtain ⟨r0, h1, h2⟩ := h
  refine aj_if_eq (tgt := 25) C dX6_weightOf_5 (by decide) r0 (fun e => ?_) (fun e => ?_)
  · have h := h1 e
    refine aj_iconst C dX6_weightOf_25 ?_
    exact aj_iret C K dX6_weightOf_26 ⟨_, rfl, h⟩
  · have h := h2 e
    refine aj_aload_n C dX6_weightOf_8 rfl ?_
    refine aj_getO (x := 4) (y := 0) C flX6_21 hq0 rfl dX6_weightOf_9 ?_
    refine aj_getI C flX6_103 (aj_cf (x := 4) (y := 0) (j := 1) hq0 (by decide) rfl) (by decide) dX6_weightOf_12 rfl ?_
    refine aj_aload_n C dX6_weightOf_15 rfl ?_
    refine aj_getO (x := 4) (y := 0) C flX6_21 hq0 rfl dX6_weightOf_16 ?_
    refine aj_getI C flX6_106 (aj_cf (x := 4) (y := 0) (j := 1) hq0 (by decide) rfl) (by decide) dX6_weightOf_19 rfl ?_
    obtain ⟨r0, r1, h1, h2⟩ := h
    refine aj_icmp_gt (tgt := 27) C dX6_weightOf_22 (by decide) r0 r1 (fun e => ?_) (fun e => ?_)
    · have h := h1 e
      refine aj_aload_n C dX6_weightOf_27 rfl ?_
      refine aj_getO (x := 4) (y := 0) C flX6_21 hq0 rfl dX6_weightOf_28 ?_
      refine aj_aload_n C dX6_weightOf_31 rfl ?_
      refine aj_getO (x := 4) (y := 0) C flX6_21 hq0 rfl dX6_weightOf_32 ?_
      refine aj_getI C flX6_106 (aj_cf (x := 4) (y := 0) (j := 1) hq0 (by decide) rfl) (by decide) dX6_weightOf_35 rfl ?_
      refine aj_aload_n C dX6_weightOf_38 rfl ?_
      refine aj_getO (x := 4) (y := 0) C flX6_21 hq0 rfl dX6_weightOf_39 ?_
      refine aj_getI C flX6_103 (aj_cf (x := 4) (y := 0) (j := 1) hq0 (by decide) rfl) (by decide) dX6_weightOf_42 rfl ?_
      refine aj_aload_n C dX6_weightOf_45 rfl ?_
      refine aj_iload_n C dX6_weightOf_46 rfl ?_
      refine aj_iload_n C dX6_weightOf_47 rfl ?_
      refine aj_iload_n C dX6_weightOf_48 rfl ?_
      refine aj_callV (rest := []) C mvX6_99 (sX4_value (aj_cf (x := 4) (y := 0) (j := 1) hq0 (by decide) rfl) hq0 h) (aj_cf (x := 4) (y := 0) (j := 1) hq0 (by decide) rfl) (aj_np 6 (by decide +kernel) rfl) (Nat.le_of_ble_eq_true rfl) rfl dX6_weightOf_49 (fun r m2 h => ?_)
      obtain ⟨z2, rfl, h⟩ := h
      refine aj_istore (lv' := [some (vO 6 q0), some (vI v1), some (vI v2), some (vI v3), some (vI z2)]) C dX6_weightOf_52 (by decide) rfl ?_
      refine aj_iconst C dX6_weightOf_54 ?_
      refine aj_bipush C dX6_weightOf_55 (by decide) ?_
      refine aj_iload C dX6_weightOf_57 rfl ?_
      obtain ⟨r1, h⟩ := h
      refine aj_mmin C msX6_109 (Nat.le_of_ble_eq_true rfl) (by decide) r1 dX6_weightOf_59 ?_
      obtain ⟨r1, h⟩ := h
      refine aj_mmax C msX6_115 (Nat.le_of_ble_eq_true rfl) (by decide) r1 dX6_weightOf_62 ?_
      exact aj_iret C K dX6_weightOf_65 ⟨_, rfl, h⟩
    · have h := h2 e
      refine aj_iconst C dX6_weightOf_25 ?_
      exact aj_iret C K dX6_weightOf_26 ⟨_, rfl, h⟩
theorem dX5_weighLinks_0 : decode cX5_weighLinks 0 = .ok (.aload_n 0, 1) := by decide +kernel
theorem dX5_weighLinks_1 : decode cX5_weighLinks 1 = .ok (.getfield 34, 3) := by decide +kernel
theorem dX5_weighLinks_4 : decode cX5_weighLinks 4 = .ok (.ifCond .eq 4, 3) := by decide +kernel
theorem dX5_weighLinks_7 : decode cX5_weighLinks 7 = .ok (.return_, 1) := by decide +kernel
theorem dX5_weighLinks_8 : decode cX5_weighLinks 8 = .ok (.iconst 0, 1) := by decide +kernel
theorem dX5_weighLinks_9 : decode cX5_weighLinks 9 = .ok (.istore_n 3, 1) := by decide +kernel
theorem dX5_weighLinks_10 : decode cX5_weighLinks 10 = .ok (.iload_n 3, 1) := by decide +kernel
theorem dX5_weighLinks_11 : decode cX5_weighLinks 11 = .ok (.aload_n 0, 1) := by decide +kernel
theorem dX5_weighLinks_12 : decode cX5_weighLinks 12 = .ok (.getfield 15, 3) := by decide +kernel
theorem dX5_weighLinks_15 : decode cX5_weighLinks 15 = .ok (.if_icmp .ge 32, 3) := by decide +kernel
theorem dX5_weighLinks_18 : decode cX5_weighLinks 18 = .ok (.aload_n 0, 1) := by decide +kernel
theorem dX5_weighLinks_19 : decode cX5_weighLinks 19 = .ok (.getfield 31, 3) := by decide +kernel
theorem dX5_weighLinks_22 : decode cX5_weighLinks 22 = .ok (.iload_n 3, 1) := by decide +kernel
theorem dX5_weighLinks_23 : decode cX5_weighLinks 23 = .ok (.aload_n 1, 1) := by decide +kernel
theorem dX5_weighLinks_24 : decode cX5_weighLinks 24 = .ok (.aload_n 0, 1) := by decide +kernel
theorem dX5_weighLinks_25 : decode cX5_weighLinks 25 = .ok (.getfield 25, 3) := by decide +kernel
theorem dX5_weighLinks_28 : decode cX5_weighLinks 28 = .ok (.iload_n 3, 1) := by decide +kernel
theorem dX5_weighLinks_29 : decode cX5_weighLinks 29 = .ok (.iaload, 1) := by decide +kernel
theorem dX5_weighLinks_30 : decode cX5_weighLinks 30 = .ok (.aload_n 0, 1) := by decide +kernel
theorem dX5_weighLinks_31 : decode cX5_weighLinks 31 = .ok (.getfield 28, 3) := by decide +kernel
theorem dX5_weighLinks_34 : decode cX5_weighLinks 34 = .ok (.iload_n 3, 1) := by decide +kernel
theorem dX5_weighLinks_35 : decode cX5_weighLinks 35 = .ok (.iaload, 1) := by decide +kernel
theorem dX5_weighLinks_36 : decode cX5_weighLinks 36 = .ok (.iload_n 2, 1) := by decide +kernel
theorem dX5_weighLinks_37 : decode cX5_weighLinks 37 = .ok (.invokevirtual 158, 3) := by decide +kernel
theorem dX5_weighLinks_40 : decode cX5_weighLinks 40 = .ok (.iastore, 1) := by decide +kernel
theorem dX5_weighLinks_41 : decode cX5_weighLinks 41 = .ok (.iinc 3 1, 3) := by decide +kernel
theorem dX5_weighLinks_44 : decode cX5_weighLinks 44 = .ok (.goto (-34), 3) := by decide +kernel
theorem dX5_weighLinks_47 : decode cX5_weighLinks 47 = .ok (.aload_n 0, 1) := by decide +kernel
theorem dX5_weighLinks_48 : decode cX5_weighLinks 48 = .ok (.iconst 1, 1) := by decide +kernel
theorem dX5_weighLinks_49 : decode cX5_weighLinks 49 = .ok (.putfield 34, 3) := by decide +kernel
theorem dX5_weighLinks_52 : decode cX5_weighLinks 52 = .ok (.return_, 1) := by decide +kernel
def hX5_weighLinks_10 (f : Nat) (Φ : aj_M → Prop) : Nat → List Nat → List Nat → Int → Int → aj_M → Prop
  | 0, _, _, _, _, _ => False
  | k + 1, q0, q1, v2, v3, m => rI v3 ∧ rI (m q0 1) ∧ ((m q0 1) ≤ v3 → ∀ m1, m1 = aj_u m q0 7 1 → Φ m1) ∧ (¬ ((m q0 1) ≤ v3) → (0 ≤ v3 ∧ v3 < 144) ∧ (0 ≤ v3 ∧ v3 < 144) ∧ wX6_weightOf f (fun z1 m2 => (0 ≤ v3 ∧ v3 < 144) ∧ ∀ m3, m3 = aj_u m2 (6 :: q0) v3.toNat z1 → hX5_weighLinks_10 f Φ k q0 q1 v2 (v3 + 1) m3) q1 (m (4 :: q0) v3.toNat) (m (5 :: q0) v3.toNat) v2 m)
set_option maxHeartbeats 4000000 in
set_option maxRecDepth 100000 in
theorem tX5_weighLinks_10 {X : aj_T} {n f : Nat} {Φ : aj_M → Prop} (C : aj_Cx X cX5_weighLinks RX5 4 (n + 3)) (K : aj_Rt X none (fun r m => r = none ∧ Φ m)) : ∀ (k : Nat) (q0 : List Nat) (q1 : List Nat) (v2 : Int) (v3 : Int) (m : aj_M) (hq0 : (.inl (5, q0) : aj_R) ∈ aj_pls) (hq1 : (.inl (6, q1) : aj_R) ∈ aj_pls), hX5_weighLinks_10 f Φ k q0 q1 v2 v3 m → aj_J X 10 [some (vO 5 q0), some (vO 6 q1), some (vI v2), some (vI v3)] [] m := by
  intro k
  induction k with
  | zero =>
    intro q0 q1 v2 v3 m _ _ h
    exact h.elim
  | succ k ih =>
    intro q0 q1 v2 v3 m hq0 hq1 h
    unfold hX5_weighLinks_10 at h
    refine aj_iload_n C dX5_weighLinks_10 rfl ?_
    refine aj_aload_n C dX5_weighLinks_11 rfl ?_
    refine aj_getI C flX5_15 hq0 (by decide) dX5_weighLinks_12 rfl ?_
    obtain ⟨r0, r1, h1, h2⟩ := h
    refine aj_icmp_ge (tgt := 47) C dX5_weighLinks_15 (by decide) r0 r1 (fun e => ?_) (fun e => ?_)
    · have h := h1 e
      refine aj_aload_n C dX5_weighLinks_47 rfl ?_
      refine aj_iconst C dX5_weighLinks_48 ?_
      refine aj_putZ C fpX5_34 hq0 (Or.inr rfl) rfl dX5_weighLinks_49 ?_
      refine aj_nm (fun m1 e1 => ?_)
      have h := h m1 e1
      exact aj_vret C K dX5_weighLinks_52 ⟨rfl, h⟩
    · have h := h2 e
      refine aj_aload_n C dX5_weighLinks_18 rfl ?_
      refine aj_getA (x := 0) (y := 144) C flX5_31 hq0 rfl dX5_weighLinks_19 ?_
      refine aj_iload_n C dX5_weighLinks_22 rfl ?_
      refine aj_aload_n C dX5_weighLinks_23 rfl ?_
      refine aj_aload_n C dX5_weighLinks_24 rfl ?_
      refine aj_getA (x := 0) (y := 144) C flX5_25 hq0 rfl dX5_weighLinks_25 ?_
      refine aj_iload_n C dX5_weighLinks_28 rfl ?_
      obtain ⟨r0, h⟩ := h
      refine aj_iald C (aj_ca (e := 0) (n := 144) (j := 4) hq0 (by decide) rfl) (by decide) r0 dX5_weighLinks_29 rfl ?_
      refine aj_aload_n C dX5_weighLinks_30 rfl ?_
      refine aj_getA (x := 0) (y := 144) C flX5_28 hq0 rfl dX5_weighLinks_31 ?_
      refine aj_iload_n C dX5_weighLinks_34 rfl ?_
      obtain ⟨r0, h⟩ := h
      refine aj_iald C (aj_ca (e := 0) (n := 144) (j := 5) hq0 (by decide) rfl) (by decide) r0 dX5_weighLinks_35 rfl ?_
      refine aj_iload_n C dX5_weighLinks_36 rfl ?_
      refine aj_callV (rest := [vI v3, vA 0 144 (6 :: q0)]) C mvX5_158 (sX6_weightOf hq1 h) hq1 (aj_np 3 (by decide +kernel) rfl) (Nat.le_of_ble_eq_true rfl) rfl dX5_weighLinks_37 (fun r m2 h => ?_)
      obtain ⟨z1, rfl, h⟩ := h
      obtain ⟨r0, h⟩ := h
      refine aj_iast C (aj_ca (e := 0) (n := 144) (j := 6) hq0 (by decide) rfl) (by decide) r0 dX5_weighLinks_40 ?_
      refine aj_nm (fun m3 e1 => ?_)
      have h := h m3 e1
      refine aj_iinc (lv' := [some (vO 5 q0), some (vO 6 q1), some (vI v2), some (vI (v3 + 1))]) C dX5_weighLinks_41 rfl (by decide) rfl ?_
      refine aj_goto (tgt := 10) C dX5_weighLinks_44 (by decide) ?_
      exact ih q0 q1 v2 (v3 + 1) _ hq0 hq1 h
def wX5_weighLinks (f : Nat) (Φ : aj_M → Prop) (q0 : List Nat) (q1 : List Nat) (v2 : Int) (m : aj_M) : Prop := rI (m q0 7) ∧ ((m q0 7) = 0 → hX5_weighLinks_10 f Φ f q0 q1 v2 0 m) ∧ (¬ ((m q0 7) = 0) → Φ m)
set_option maxHeartbeats 4000000 in
set_option maxRecDepth 100000 in
theorem sX5_weighLinks {n f : Nat} {Φ : aj_M → Prop} {q0 : List Nat} {q1 : List Nat} {v2 : Int} {m : aj_M} (hq0 : (.inl (5, q0) : aj_R) ∈ aj_pls) (hq1 : (.inl (6, q1) : aj_R) ∈ aj_pls) (h : wX5_weighLinks f Φ q0 q1 v2 m) : aj_Ct (n + 3) yX5_weighLinks cX5_weighLinks 4 none [vO 5 q0, vO 6 q1, vI v2] m (fun r m => r = none ∧ Φ m) := by
  refine aj_met (lv := [some (vO 5 q0), some (vO 6 q1), some (vI v2), none]) (by decide +kernel) rfl (Nat.le_of_ble_eq_true rfl) (fun X C K => ?_)
  unfold wX5_weighLinks at h
  refine aj_aload_n C dX5_weighLinks_0 rfl ?_
  refine aj_getI C flX5_34 hq0 (by decide) dX5_weighLinks_1 rfl ?_
  obtain ⟨r0, h1, h2⟩ := h
  refine aj_if_eq (tgt := 8) C dX5_weighLinks_4 (by decide) r0 (fun e => ?_) (fun e => ?_)
  · have h := h1 e
    refine aj_iconst C dX5_weighLinks_8 ?_
    refine aj_istore_n (lv' := [some (vO 5 q0), some (vO 6 q1), some (vI v2), some (vI 0)]) C dX5_weighLinks_9 (by decide) rfl ?_
    exact tX5_weighLinks_10 C K f q0 q1 v2 0 _ hq0 hq1 h
  · have h := h2 e
    exact aj_vret C K dX5_weighLinks_7 ⟨rfl, h⟩
theorem dX5_lightestUnseen_0 : decode cX5_lightestUnseen 0 = .ok (.iconst (-1), 1) := by decide +kernel
theorem dX5_lightestUnseen_1 : decode cX5_lightestUnseen 1 = .ok (.istore_n 1, 1) := by decide +kernel
theorem dX5_lightestUnseen_2 : decode cX5_lightestUnseen 2 = .ok (.ldc 151, 2) := by decide +kernel
theorem dX5_lightestUnseen_4 : decode cX5_lightestUnseen 4 = .ok (.istore_n 2, 1) := by decide +kernel
theorem dX5_lightestUnseen_5 : decode cX5_lightestUnseen 5 = .ok (.iconst 0, 1) := by decide +kernel
theorem dX5_lightestUnseen_6 : decode cX5_lightestUnseen 6 = .ok (.istore_n 3, 1) := by decide +kernel
theorem dX5_lightestUnseen_7 : decode cX5_lightestUnseen 7 = .ok (.iload_n 3, 1) := by decide +kernel
theorem dX5_lightestUnseen_8 : decode cX5_lightestUnseen 8 = .ok (.aload_n 0, 1) := by decide +kernel
theorem dX5_lightestUnseen_9 : decode cX5_lightestUnseen 9 = .ok (.getfield 9, 3) := by decide +kernel
theorem dX5_lightestUnseen_12 : decode cX5_lightestUnseen 12 = .ok (.if_icmp .ge 41, 3) := by decide +kernel
theorem dX5_lightestUnseen_15 : decode cX5_lightestUnseen 15 = .ok (.aload_n 0, 1) := by decide +kernel
theorem dX5_lightestUnseen_16 : decode cX5_lightestUnseen 16 = .ok (.getfield 59, 3) := by decide +kernel
theorem dX5_lightestUnseen_19 : decode cX5_lightestUnseen 19 = .ok (.iload_n 3, 1) := by decide +kernel
theorem dX5_lightestUnseen_20 : decode cX5_lightestUnseen 20 = .ok (.lshr, 1) := by decide +kernel
theorem dX5_lightestUnseen_21 : decode cX5_lightestUnseen 21 = .ok (.lconst 1, 1) := by decide +kernel
theorem dX5_lightestUnseen_22 : decode cX5_lightestUnseen 22 = .ok (.land, 1) := by decide +kernel
theorem dX5_lightestUnseen_23 : decode cX5_lightestUnseen 23 = .ok (.lconst 0, 1) := by decide +kernel
theorem dX5_lightestUnseen_24 : decode cX5_lightestUnseen 24 = .ok (.lcmp, 1) := by decide +kernel
theorem dX5_lightestUnseen_25 : decode cX5_lightestUnseen 25 = .ok (.ifCond .ne 22, 3) := by decide +kernel
theorem dX5_lightestUnseen_28 : decode cX5_lightestUnseen 28 = .ok (.aload_n 0, 1) := by decide +kernel
theorem dX5_lightestUnseen_29 : decode cX5_lightestUnseen 29 = .ok (.getfield 47, 3) := by decide +kernel
theorem dX5_lightestUnseen_32 : decode cX5_lightestUnseen 32 = .ok (.iload_n 3, 1) := by decide +kernel
theorem dX5_lightestUnseen_33 : decode cX5_lightestUnseen 33 = .ok (.iaload, 1) := by decide +kernel
theorem dX5_lightestUnseen_34 : decode cX5_lightestUnseen 34 = .ok (.iload_n 2, 1) := by decide +kernel
theorem dX5_lightestUnseen_35 : decode cX5_lightestUnseen 35 = .ok (.if_icmp .ge 12, 3) := by decide +kernel
theorem dX5_lightestUnseen_38 : decode cX5_lightestUnseen 38 = .ok (.iload_n 3, 1) := by decide +kernel
theorem dX5_lightestUnseen_39 : decode cX5_lightestUnseen 39 = .ok (.istore_n 1, 1) := by decide +kernel
theorem dX5_lightestUnseen_40 : decode cX5_lightestUnseen 40 = .ok (.aload_n 0, 1) := by decide +kernel
theorem dX5_lightestUnseen_41 : decode cX5_lightestUnseen 41 = .ok (.getfield 47, 3) := by decide +kernel
theorem dX5_lightestUnseen_44 : decode cX5_lightestUnseen 44 = .ok (.iload_n 3, 1) := by decide +kernel
theorem dX5_lightestUnseen_45 : decode cX5_lightestUnseen 45 = .ok (.iaload, 1) := by decide +kernel
theorem dX5_lightestUnseen_46 : decode cX5_lightestUnseen 46 = .ok (.istore_n 2, 1) := by decide +kernel
theorem dX5_lightestUnseen_47 : decode cX5_lightestUnseen 47 = .ok (.iinc 3 1, 3) := by decide +kernel
theorem dX5_lightestUnseen_50 : decode cX5_lightestUnseen 50 = .ok (.goto (-43), 3) := by decide +kernel
theorem dX5_lightestUnseen_53 : decode cX5_lightestUnseen 53 = .ok (.iload_n 1, 1) := by decide +kernel
theorem dX5_lightestUnseen_54 : decode cX5_lightestUnseen 54 = .ok (.ireturn, 1) := by decide +kernel
def hX5_lightestUnseen_7 (f : Nat) (Φ : Int → aj_M → Prop) : Nat → List Nat → Int → Int → Int → aj_M → Prop
  | 0, _, _, _, _, _ => False
  | k + 1, q0, v1, v2, v3, m => rI v3 ∧ rI (m q0 0) ∧ ((m q0 0) ≤ v3 → Φ v1 m) ∧ (¬ ((m q0 0) ≤ v3) → rL (aj_landL (aj_lshr (m q0 15) v3) 1) ∧ (¬ (aj_landL (aj_lshr (m q0 15) v3) 1) = 0 → hX5_lightestUnseen_7 f Φ k q0 v1 v2 (v3 + 1) m) ∧ ((aj_landL (aj_lshr (m q0 15) v3) 1) = 0 → (0 ≤ v3 ∧ v3 < 60) ∧ rI (m (11 :: q0) v3.toNat) ∧ rI v2 ∧ (v2 ≤ (m (11 :: q0) v3.toNat) → hX5_lightestUnseen_7 f Φ k q0 v1 v2 (v3 + 1) m) ∧ (¬ (v2 ≤ (m (11 :: q0) v3.toNat)) → (0 ≤ v3 ∧ v3 < 60) ∧ hX5_lightestUnseen_7 f Φ k q0 v3 (m (11 :: q0) v3.toNat) (v3 + 1) m)))
set_option maxHeartbeats 4000000 in
set_option maxRecDepth 100000 in
theorem tX5_lightestUnseen_7 {X : aj_T} {n f : Nat} {Φ : Int → aj_M → Prop} (C : aj_Cx X cX5_lightestUnseen RX5 4 n) (K : aj_Rt X (some .int) (fun r m => ∃ z, r = some (vI z) ∧ Φ z m)) : ∀ (k : Nat) (q0 : List Nat) (v1 : Int) (v2 : Int) (v3 : Int) (m : aj_M) (hq0 : (.inl (5, q0) : aj_R) ∈ aj_pls), hX5_lightestUnseen_7 f Φ k q0 v1 v2 v3 m → aj_J X 7 [some (vO 5 q0), some (vI v1), some (vI v2), some (vI v3)] [] m := by
  intro k
  induction k with
  | zero =>
    intro q0 v1 v2 v3 m _ h
    exact h.elim
  | succ k ih =>
    intro q0 v1 v2 v3 m hq0 h
    unfold hX5_lightestUnseen_7 at h
    refine aj_iload_n C dX5_lightestUnseen_7 rfl ?_
    refine aj_aload_n C dX5_lightestUnseen_8 rfl ?_
    refine aj_getI C flX5_9 hq0 (by decide) dX5_lightestUnseen_9 rfl ?_
    obtain ⟨r0, r1, h1, h2⟩ := h
    refine aj_icmp_ge (tgt := 53) C dX5_lightestUnseen_12 (by decide) r0 r1 (fun e => ?_) (fun e => ?_)
    · have h := h1 e
      refine aj_iload_n C dX5_lightestUnseen_53 rfl ?_
      exact aj_iret C K dX5_lightestUnseen_54 ⟨_, rfl, h⟩
    · have h := h2 e
      refine aj_aload_n C dX5_lightestUnseen_15 rfl ?_
      refine aj_getL C flX5_59 hq0 rfl dX5_lightestUnseen_16 rfl ?_
      refine aj_iload_n C dX5_lightestUnseen_19 rfl ?_
      refine aj_lshr_ C dX5_lightestUnseen_20 ?_
      refine aj_lconst (z := 1) C dX5_lightestUnseen_21 rfl ?_
      refine aj_land C dX5_lightestUnseen_22 ?_
      refine aj_lconst (z := 0) C dX5_lightestUnseen_23 rfl ?_
      obtain ⟨r0, h1, h2⟩ := h
      refine aj_lcmp_ne (tgt := 47) C dX5_lightestUnseen_24 dX5_lightestUnseen_25 (by decide) r0 (by decide) (fun e => ?_) (fun e => ?_)
      · have h := h1 e
        refine aj_iinc (lv' := [some (vO 5 q0), some (vI v1), some (vI v2), some (vI (v3 + 1))]) C dX5_lightestUnseen_47 rfl (by decide) rfl ?_
        refine aj_goto (tgt := 7) C dX5_lightestUnseen_50 (by decide) ?_
        exact ih q0 v1 v2 (v3 + 1) _ hq0 h
      · have h := h2 e
        refine aj_aload_n C dX5_lightestUnseen_28 rfl ?_
        refine aj_getA (x := 0) (y := 60) C flX5_47 hq0 rfl dX5_lightestUnseen_29 ?_
        refine aj_iload_n C dX5_lightestUnseen_32 rfl ?_
        obtain ⟨r0, h⟩ := h
        refine aj_iald C (aj_ca (e := 0) (n := 60) (j := 11) hq0 (by decide) rfl) (by decide) r0 dX5_lightestUnseen_33 rfl ?_
        refine aj_iload_n C dX5_lightestUnseen_34 rfl ?_
        obtain ⟨r0, r1, h1, h2⟩ := h
        refine aj_icmp_ge (tgt := 47) C dX5_lightestUnseen_35 (by decide) r0 r1 (fun e => ?_) (fun e => ?_)
        · have h := h1 e
          refine aj_iinc (lv' := [some (vO 5 q0), some (vI v1), some (vI v2), some (vI (v3 + 1))]) C dX5_lightestUnseen_47 rfl (by decide) rfl ?_
          refine aj_goto (tgt := 7) C dX5_lightestUnseen_50 (by decide) ?_
          exact ih q0 v1 v2 (v3 + 1) _ hq0 h
        · have h := h2 e
          refine aj_iload_n C dX5_lightestUnseen_38 rfl ?_
          refine aj_istore_n (lv' := [some (vO 5 q0), some (vI v3), some (vI v2), some (vI v3)]) C dX5_lightestUnseen_39 (by decide) rfl ?_
          refine aj_aload_n C dX5_lightestUnseen_40 rfl ?_
          refine aj_getA (x := 0) (y := 60) C flX5_47 hq0 rfl dX5_lightestUnseen_41 ?_
          refine aj_iload_n C dX5_lightestUnseen_44 rfl ?_
          obtain ⟨r0, h⟩ := h
          refine aj_iald C (aj_ca (e := 0) (n := 60) (j := 11) hq0 (by decide) rfl) (by decide) r0 dX5_lightestUnseen_45 rfl ?_
          refine aj_istore_n (lv' := [some (vO 5 q0), some (vI v3), some (vI (m (11 :: q0) v3.toNat)), some (vI v3)]) C dX5_lightestUnseen_46 (by decide) rfl ?_
          refine aj_iinc (lv' := [some (vO 5 q0), some (vI v3), some (vI (m (11 :: q0) v3.toNat)), some (vI (v3 + 1))]) C dX5_lightestUnseen_47 rfl (by decide) rfl ?_
          refine aj_goto (tgt := 7) C dX5_lightestUnseen_50 (by decide) ?_
          exact ih q0 v3 (m (11 :: q0) v3.toNat) (v3 + 1) _ hq0 h
def wX5_lightestUnseen (f : Nat) (Φ : Int → aj_M → Prop) (q0 : List Nat) (m : aj_M) : Prop := hX5_lightestUnseen_7 f Φ f q0 (-1) 1000000 0 m
set_option maxHeartbeats 4000000 in
set_option maxRecDepth 100000 in
theorem sX5_lightestUnseen {n f : Nat} {Φ : Int → aj_M → Prop} {q0 : List Nat} {m : aj_M} (hq0 : (.inl (5, q0) : aj_R) ∈ aj_pls) (h : wX5_lightestUnseen f Φ q0 m) : aj_Ct n yX5_lightestUnseen cX5_lightestUnseen 4 (some .int) [vO 5 q0] m (fun r m => ∃ z, r = some (vI z) ∧ Φ z m) := by
  refine aj_met (lv := [some (vO 5 q0), none, none, none]) (by decide +kernel) rfl (Nat.le_of_ble_eq_true rfl) (fun X C K => ?_)
  unfold wX5_lightestUnseen at h
  refine aj_iconst C dX5_lightestUnseen_0 ?_
  refine aj_istore_n (lv' := [some (vO 5 q0), some (vI (-1)), none, none]) C dX5_lightestUnseen_1 (by decide) rfl ?_
  refine aj_ldc (z := 1000000) C (wd1069) rfl dX5_lightestUnseen_2 ?_
  refine aj_istore_n (lv' := [some (vO 5 q0), some (vI (-1)), some (vI 1000000), none]) C dX5_lightestUnseen_4 (by decide) rfl ?_
  refine aj_iconst C dX5_lightestUnseen_5 ?_
  refine aj_istore_n (lv' := [some (vO 5 q0), some (vI (-1)), some (vI 1000000), some (vI 0)]) C dX5_lightestUnseen_6 (by decide) rfl ?_
  exact tX5_lightestUnseen_7 C K f q0 (-1) 1000000 0 _ hq0 h
theorem dX5_lightFrom_0 : decode cX5_lightFrom 0 = .ok (.aload_n 0, 1) := by decide +kernel
theorem dX5_lightFrom_1 : decode cX5_lightFrom 1 = .ok (.getfield 47, 3) := by decide +kernel
theorem dX5_lightFrom_4 : decode cX5_lightFrom 4 = .ok (.ldc 151, 2) := by decide +kernel
theorem dX5_lightFrom_6 : decode cX5_lightFrom 6 = .ok (.invokestatic 125, 3) := by decide +kernel
theorem dX5_lightFrom_9 : decode cX5_lightFrom 9 = .ok (.aload_n 0, 1) := by decide +kernel
theorem dX5_lightFrom_10 : decode cX5_lightFrom 10 = .ok (.getfield 50, 3) := by decide +kernel
theorem dX5_lightFrom_13 : decode cX5_lightFrom 13 = .ok (.iconst (-1), 1) := by decide +kernel
theorem dX5_lightFrom_14 : decode cX5_lightFrom 14 = .ok (.invokestatic 125, 3) := by decide +kernel
theorem dX5_lightFrom_17 : decode cX5_lightFrom 17 = .ok (.aload_n 0, 1) := by decide +kernel
theorem dX5_lightFrom_18 : decode cX5_lightFrom 18 = .ok (.lconst 0, 1) := by decide +kernel
theorem dX5_lightFrom_19 : decode cX5_lightFrom 19 = .ok (.putfield 59, 3) := by decide +kernel
theorem dX5_lightFrom_22 : decode cX5_lightFrom 22 = .ok (.aload_n 0, 1) := by decide +kernel
theorem dX5_lightFrom_23 : decode cX5_lightFrom 23 = .ok (.getfield 47, 3) := by decide +kernel
theorem dX5_lightFrom_26 : decode cX5_lightFrom 26 = .ok (.iload_n 1, 1) := by decide +kernel
theorem dX5_lightFrom_27 : decode cX5_lightFrom 27 = .ok (.iconst 0, 1) := by decide +kernel
theorem dX5_lightFrom_28 : decode cX5_lightFrom 28 = .ok (.iastore, 1) := by decide +kernel
theorem dX5_lightFrom_29 : decode cX5_lightFrom 29 = .ok (.iconst 0, 1) := by decide +kernel
theorem dX5_lightFrom_30 : decode cX5_lightFrom 30 = .ok (.istore_n 2, 1) := by decide +kernel
theorem dX5_lightFrom_31 : decode cX5_lightFrom 31 = .ok (.iload_n 2, 1) := by decide +kernel
theorem dX5_lightFrom_32 : decode cX5_lightFrom 32 = .ok (.aload_n 0, 1) := by decide +kernel
theorem dX5_lightFrom_33 : decode cX5_lightFrom 33 = .ok (.getfield 9, 3) := by decide +kernel
theorem dX5_lightFrom_36 : decode cX5_lightFrom 36 = .ok (.if_icmp .ge 130, 3) := by decide +kernel
theorem dX5_lightFrom_39 : decode cX5_lightFrom 39 = .ok (.aload_n 0, 1) := by decide +kernel
theorem dX5_lightFrom_40 : decode cX5_lightFrom 40 = .ok (.invokevirtual 162, 3) := by decide +kernel
theorem dX5_lightFrom_43 : decode cX5_lightFrom 43 = .ok (.istore_n 3, 1) := by decide +kernel
theorem dX5_lightFrom_44 : decode cX5_lightFrom 44 = .ok (.iload_n 3, 1) := by decide +kernel
theorem dX5_lightFrom_45 : decode cX5_lightFrom 45 = .ok (.ifCond .ge 4, 3) := by decide +kernel
theorem dX5_lightFrom_48 : decode cX5_lightFrom 48 = .ok (.return_, 1) := by decide +kernel
theorem dX5_lightFrom_49 : decode cX5_lightFrom 49 = .ok (.aload_n 0, 1) := by decide +kernel
theorem dX5_lightFrom_50 : decode cX5_lightFrom 50 = .ok (.dup, 1) := by decide +kernel
theorem dX5_lightFrom_51 : decode cX5_lightFrom 51 = .ok (.getfield 59, 3) := by decide +kernel
theorem dX5_lightFrom_54 : decode cX5_lightFrom 54 = .ok (.lconst 1, 1) := by decide +kernel
theorem dX5_lightFrom_55 : decode cX5_lightFrom 55 = .ok (.iload_n 3, 1) := by decide +kernel
theorem dX5_lightFrom_56 : decode cX5_lightFrom 56 = .ok (.lshl, 1) := by decide +kernel
theorem dX5_lightFrom_57 : decode cX5_lightFrom 57 = .ok (.lor, 1) := by decide +kernel
theorem dX5_lightFrom_58 : decode cX5_lightFrom 58 = .ok (.putfield 59, 3) := by decide +kernel
theorem dX5_lightFrom_61 : decode cX5_lightFrom 61 = .ok (.aload_n 0, 1) := by decide +kernel
theorem dX5_lightFrom_62 : decode cX5_lightFrom 62 = .ok (.getfield 38, 3) := by decide +kernel
theorem dX5_lightFrom_65 : decode cX5_lightFrom 65 = .ok (.iload_n 3, 1) := by decide +kernel
theorem dX5_lightFrom_66 : decode cX5_lightFrom 66 = .ok (.iaload, 1) := by decide +kernel
theorem dX5_lightFrom_67 : decode cX5_lightFrom 67 = .ok (.istore 4, 2) := by decide +kernel
theorem dX5_lightFrom_69 : decode cX5_lightFrom 69 = .ok (.iload 4, 2) := by decide +kernel
theorem dX5_lightFrom_71 : decode cX5_lightFrom 71 = .ok (.aload_n 0, 1) := by decide +kernel
theorem dX5_lightFrom_72 : decode cX5_lightFrom 72 = .ok (.getfield 38, 3) := by decide +kernel
theorem dX5_lightFrom_75 : decode cX5_lightFrom 75 = .ok (.iload_n 3, 1) := by decide +kernel
theorem dX5_lightFrom_76 : decode cX5_lightFrom 76 = .ok (.iconst 1, 1) := by decide +kernel
theorem dX5_lightFrom_77 : decode cX5_lightFrom 77 = .ok (.iadd, 1) := by decide +kernel
theorem dX5_lightFrom_78 : decode cX5_lightFrom 78 = .ok (.iaload, 1) := by decide +kernel
theorem dX5_lightFrom_79 : decode cX5_lightFrom 79 = .ok (.if_icmp .ge 81, 3) := by decide +kernel
theorem dX5_lightFrom_82 : decode cX5_lightFrom 82 = .ok (.aload_n 0, 1) := by decide +kernel
theorem dX5_lightFrom_83 : decode cX5_lightFrom 83 = .ok (.getfield 41, 3) := by decide +kernel
theorem dX5_lightFrom_86 : decode cX5_lightFrom 86 = .ok (.iload 4, 2) := by decide +kernel
theorem dX5_lightFrom_88 : decode cX5_lightFrom 88 = .ok (.iaload, 1) := by decide +kernel
theorem dX5_lightFrom_89 : decode cX5_lightFrom 89 = .ok (.istore 5, 2) := by decide +kernel
theorem dX5_lightFrom_91 : decode cX5_lightFrom 91 = .ok (.aload_n 0, 1) := by decide +kernel
theorem dX5_lightFrom_92 : decode cX5_lightFrom 92 = .ok (.iload 5, 2) := by decide +kernel
theorem dX5_lightFrom_94 : decode cX5_lightFrom 94 = .ok (.iload_n 3, 1) := by decide +kernel
theorem dX5_lightFrom_95 : decode cX5_lightFrom 95 = .ok (.invokevirtual 131, 3) := by decide +kernel
theorem dX5_lightFrom_98 : decode cX5_lightFrom 98 = .ok (.istore 6, 2) := by decide +kernel
theorem dX5_lightFrom_100 : decode cX5_lightFrom 100 = .ok (.aload_n 0, 1) := by decide +kernel
theorem dX5_lightFrom_101 : decode cX5_lightFrom 101 = .ok (.getfield 47, 3) := by decide +kernel
theorem dX5_lightFrom_104 : decode cX5_lightFrom 104 = .ok (.iload_n 3, 1) := by decide +kernel
theorem dX5_lightFrom_105 : decode cX5_lightFrom 105 = .ok (.iaload, 1) := by decide +kernel
theorem dX5_lightFrom_106 : decode cX5_lightFrom 106 = .ok (.aload_n 0, 1) := by decide +kernel
theorem dX5_lightFrom_107 : decode cX5_lightFrom 107 = .ok (.getfield 31, 3) := by decide +kernel
theorem dX5_lightFrom_110 : decode cX5_lightFrom 110 = .ok (.iload 5, 2) := by decide +kernel
theorem dX5_lightFrom_112 : decode cX5_lightFrom 112 = .ok (.iaload, 1) := by decide +kernel
theorem dX5_lightFrom_113 : decode cX5_lightFrom 113 = .ok (.iadd, 1) := by decide +kernel
theorem dX5_lightFrom_114 : decode cX5_lightFrom 114 = .ok (.aload_n 0, 1) := by decide +kernel
theorem dX5_lightFrom_115 : decode cX5_lightFrom 115 = .ok (.getfield 47, 3) := by decide +kernel
theorem dX5_lightFrom_118 : decode cX5_lightFrom 118 = .ok (.iload 6, 2) := by decide +kernel
theorem dX5_lightFrom_120 : decode cX5_lightFrom 120 = .ok (.iaload, 1) := by decide +kernel
theorem dX5_lightFrom_121 : decode cX5_lightFrom 121 = .ok (.if_icmp .ge 33, 3) := by decide +kernel
theorem dX5_lightFrom_124 : decode cX5_lightFrom 124 = .ok (.aload_n 0, 1) := by decide +kernel
theorem dX5_lightFrom_125 : decode cX5_lightFrom 125 = .ok (.getfield 47, 3) := by decide +kernel
theorem dX5_lightFrom_128 : decode cX5_lightFrom 128 = .ok (.iload 6, 2) := by decide +kernel
theorem dX5_lightFrom_130 : decode cX5_lightFrom 130 = .ok (.aload_n 0, 1) := by decide +kernel
theorem dX5_lightFrom_131 : decode cX5_lightFrom 131 = .ok (.getfield 47, 3) := by decide +kernel
theorem dX5_lightFrom_134 : decode cX5_lightFrom 134 = .ok (.iload_n 3, 1) := by decide +kernel
theorem dX5_lightFrom_135 : decode cX5_lightFrom 135 = .ok (.iaload, 1) := by decide +kernel
theorem dX5_lightFrom_136 : decode cX5_lightFrom 136 = .ok (.aload_n 0, 1) := by decide +kernel
theorem dX5_lightFrom_137 : decode cX5_lightFrom 137 = .ok (.getfield 31, 3) := by decide +kernel
theorem dX5_lightFrom_140 : decode cX5_lightFrom 140 = .ok (.iload 5, 2) := by decide +kernel
theorem dX5_lightFrom_142 : decode cX5_lightFrom 142 = .ok (.iaload, 1) := by decide +kernel
theorem dX5_lightFrom_143 : decode cX5_lightFrom 143 = .ok (.iadd, 1) := by decide +kernel
theorem dX5_lightFrom_144 : decode cX5_lightFrom 144 = .ok (.iastore, 1) := by decide +kernel
theorem dX5_lightFrom_145 : decode cX5_lightFrom 145 = .ok (.aload_n 0, 1) := by decide +kernel
theorem dX5_lightFrom_146 : decode cX5_lightFrom 146 = .ok (.getfield 50, 3) := by decide +kernel
theorem dX5_lightFrom_149 : decode cX5_lightFrom 149 = .ok (.iload 6, 2) := by decide +kernel
theorem dX5_lightFrom_151 : decode cX5_lightFrom 151 = .ok (.iload 5, 2) := by decide +kernel
theorem dX5_lightFrom_153 : decode cX5_lightFrom 153 = .ok (.iastore, 1) := by decide +kernel
theorem dX5_lightFrom_154 : decode cX5_lightFrom 154 = .ok (.iinc 4 1, 3) := by decide +kernel
theorem dX5_lightFrom_157 : decode cX5_lightFrom 157 = .ok (.goto (-88), 3) := by decide +kernel
theorem dX5_lightFrom_160 : decode cX5_lightFrom 160 = .ok (.iinc 2 1, 3) := by decide +kernel
theorem dX5_lightFrom_163 : decode cX5_lightFrom 163 = .ok (.goto (-132), 3) := by decide +kernel
theorem dX5_lightFrom_166 : decode cX5_lightFrom 166 = .ok (.return_, 1) := by decide +kernel
def hX5_lightFrom_69 (f : Nat) (Φ : aj_M → Prop) (K31 : List Nat → Int → aj_M → Prop) : Nat → List Nat → Int → Int → Int → aj_M → Prop
  | 0, _, _, _, _, _ => False
  | k + 1, q0, v2, v3, v4, m => (0 ≤ (v3 + 1) ∧ (v3 + 1) < 62) ∧ rI v4 ∧ rI (m (8 :: q0) (v3 + 1).toNat) ∧ ((m (8 :: q0) (v3 + 1).toNat) ≤ v4 → K31 q0 (v2 + 1) m) ∧ (¬ ((m (8 :: q0) (v3 + 1).toNat) ≤ v4) → (0 ≤ v4 ∧ v4 < 288) ∧ wX5_otherEnd f (fun z1 m1 => (0 ≤ v3 ∧ v3 < 60) ∧ (0 ≤ (m (9 :: q0) v4.toNat) ∧ (m (9 :: q0) v4.toNat) < 144) ∧ (0 ≤ z1 ∧ z1 < 60) ∧ rI ((m1 (11 :: q0) v3.toNat) + (m1 (6 :: q0) (m (9 :: q0) v4.toNat).toNat)) ∧ rI (m1 (11 :: q0) z1.toNat) ∧ ((m1 (11 :: q0) z1.toNat) ≤ ((m1 (11 :: q0) v3.toNat) + (m1 (6 :: q0) (m (9 :: q0) v4.toNat).toNat)) → hX5_lightFrom_69 f Φ K31 k q0 v2 v3 (v4 + 1) m1) ∧ (¬ ((m1 (11 :: q0) z1.toNat) ≤ ((m1 (11 :: q0) v3.toNat) + (m1 (6 :: q0) (m (9 :: q0) v4.toNat).toNat))) → (0 ≤ v3 ∧ v3 < 60) ∧ (0 ≤ (m (9 :: q0) v4.toNat) ∧ (m (9 :: q0) v4.toNat) < 144) ∧ (0 ≤ z1 ∧ z1 < 60) ∧ ∀ m2, m2 = aj_u m1 (11 :: q0) z1.toNat ((m1 (11 :: q0) v3.toNat) + (m1 (6 :: q0) (m (9 :: q0) v4.toNat).toNat)) → (0 ≤ z1 ∧ z1 < 60) ∧ ∀ m3, m3 = aj_u m2 (12 :: q0) z1.toNat (m (9 :: q0) v4.toNat) → hX5_lightFrom_69 f Φ K31 k q0 v2 v3 (v4 + 1) m3)) q0 (m (9 :: q0) v4.toNat) v3 m)
set_option maxHeartbeats 4000000 in
set_option maxRecDepth 100000 in
theorem tX5_lightFrom_69 {X : aj_T} {n f : Nat} {Φ : aj_M → Prop} (C : aj_Cx X cX5_lightFrom RX5 7 (n + 1)) (K : aj_Rt X none (fun r m => r = none ∧ Φ m)) {K31 : List Nat → Int → aj_M → Prop} (HK31 : ∀ (q0 : List Nat) (v2 : Int) (m : aj_M) (hq0 : (.inl (5, q0) : aj_R) ∈ aj_pls), K31 q0 v2 m → aj_J X 31 [some (vO 5 q0), none, some (vI v2), none, none, none, none] [] m) : ∀ (k : Nat) (q0 : List Nat) (v2 : Int) (v3 : Int) (v4 : Int) (m : aj_M) (hq0 : (.inl (5, q0) : aj_R) ∈ aj_pls), hX5_lightFrom_69 f Φ K31 k q0 v2 v3 v4 m → aj_J X 69 [some (vO 5 q0), none, some (vI v2), some (vI v3), some (vI v4), none, none] [] m := by
  intro k
  induction k with
  | zero =>
    intro q0 v2 v3 v4 m _ h
    exact h.elim
  | succ k ih =>
    intro q0 v2 v3 v4 m hq0 h
    unfold hX5_lightFrom_69 at h
    refine aj_iload C dX5_lightFrom_69 rfl ?_
    refine aj_aload_n C dX5_lightFrom_71 rfl ?_
    refine aj_getA (x := 0) (y := 62) C flX5_38 hq0 rfl dX5_lightFrom_72 ?_
    refine aj_iload_n C dX5_lightFrom_75 rfl ?_
    refine aj_iconst C dX5_lightFrom_76 ?_
    refine aj_iadd C dX5_lightFrom_77 ?_
    obtain ⟨r0, h⟩ := h
    refine aj_iald C (aj_ca (e := 0) (n := 62) (j := 8) hq0 (by decide) rfl) (by decide) r0 dX5_lightFrom_78 rfl ?_
    obtain ⟨r0, r1, h1, h2⟩ := h
    refine aj_icmp_ge (tgt := 160) C dX5_lightFrom_79 (by decide) r0 r1 (fun e => ?_) (fun e => ?_)
    · have h := h1 e
      refine aj_iinc (lv' := [some (vO 5 q0), none, some (vI (v2 + 1)), some (vI v3), some (vI v4), none, none]) C dX5_lightFrom_160 rfl (by decide) rfl ?_
      refine aj_goto (tgt := 31) C dX5_lightFrom_163 (by decide) ?_
      refine aj_wk (lv' := [some (vO 5 q0), none, some (vI (v2 + 1)), none, none, none, none]) (⟨rfl, ⟨rfl, trivial⟩⟩) ?_
      exact HK31 q0 (v2 + 1) _ hq0 h
    · have h := h2 e
      refine aj_aload_n C dX5_lightFrom_82 rfl ?_
      refine aj_getA (x := 0) (y := 288) C flX5_41 hq0 rfl dX5_lightFrom_83 ?_
      refine aj_iload C dX5_lightFrom_86 rfl ?_
      obtain ⟨r0, h⟩ := h
      refine aj_iald C (aj_ca (e := 0) (n := 288) (j := 9) hq0 (by decide) rfl) (by decide) r0 dX5_lightFrom_88 rfl ?_
      refine aj_istore (lv' := [some (vO 5 q0), none, some (vI v2), some (vI v3), some (vI v4), some (vI (m (9 :: q0) v4.toNat)), none]) C dX5_lightFrom_89 (by decide) rfl ?_
      refine aj_aload_n C dX5_lightFrom_91 rfl ?_
      refine aj_iload C dX5_lightFrom_92 rfl ?_
      refine aj_iload_n C dX5_lightFrom_94 rfl ?_
      refine aj_callV (rest := []) C mvX5_131 (sX5_otherEnd hq0 h) hq0 (aj_np 2 (by decide +kernel) rfl) (Nat.le_of_ble_eq_true rfl) rfl dX5_lightFrom_95 (fun r m1 h => ?_)
      obtain ⟨z1, rfl, h⟩ := h
      refine aj_istore (lv' := [some (vO 5 q0), none, some (vI v2), some (vI v3), some (vI v4), some (vI (m (9 :: q0) v4.toNat)), some (vI z1)]) C dX5_lightFrom_98 (by decide) rfl ?_
      refine aj_aload_n C dX5_lightFrom_100 rfl ?_
      refine aj_getA (x := 0) (y := 60) C flX5_47 hq0 rfl dX5_lightFrom_101 ?_
      refine aj_iload_n C dX5_lightFrom_104 rfl ?_
      obtain ⟨r0, h⟩ := h
      refine aj_iald C (aj_ca (e := 0) (n := 60) (j := 11) hq0 (by decide) rfl) (by decide) r0 dX5_lightFrom_105 rfl ?_
      refine aj_aload_n C dX5_lightFrom_106 rfl ?_
      refine aj_getA (x := 0) (y := 144) C flX5_31 hq0 rfl dX5_lightFrom_107 ?_
      refine aj_iload C dX5_lightFrom_110 rfl ?_
      obtain ⟨r0, h⟩ := h
      refine aj_iald C (aj_ca (e := 0) (n := 144) (j := 6) hq0 (by decide) rfl) (by decide) r0 dX5_lightFrom_112 rfl ?_
      refine aj_iadd C dX5_lightFrom_113 ?_
      refine aj_aload_n C dX5_lightFrom_114 rfl ?_
      refine aj_getA (x := 0) (y := 60) C flX5_47 hq0 rfl dX5_lightFrom_115 ?_
      refine aj_iload C dX5_lightFrom_118 rfl ?_
      obtain ⟨r0, h⟩ := h
      refine aj_iald C (aj_ca (e := 0) (n := 60) (j := 11) hq0 (by decide) rfl) (by decide) r0 dX5_lightFrom_120 rfl ?_
      obtain ⟨r0, r1, h1, h2⟩ := h
      refine aj_icmp_ge (tgt := 154) C dX5_lightFrom_121 (by decide) r0 r1 (fun e => ?_) (fun e => ?_)
      · have h := h1 e
        refine aj_iinc (lv' := [some (vO 5 q0), none, some (vI v2), some (vI v3), some (vI (v4 + 1)), some (vI (m (9 :: q0) v4.toNat)), some (vI z1)]) C dX5_lightFrom_154 rfl (by decide) rfl ?_
        refine aj_goto (tgt := 69) C dX5_lightFrom_157 (by decide) ?_
        refine aj_wk (lv' := [some (vO 5 q0), none, some (vI v2), some (vI v3), some (vI (v4 + 1)), none, none]) (⟨rfl, ⟨rfl, ⟨rfl, ⟨rfl, trivial⟩⟩⟩⟩) ?_
        exact ih q0 v2 v3 (v4 + 1) _ hq0 h
      · have h := h2 e
        refine aj_aload_n C dX5_lightFrom_124 rfl ?_
        refine aj_getA (x := 0) (y := 60) C flX5_47 hq0 rfl dX5_lightFrom_125 ?_
        refine aj_iload C dX5_lightFrom_128 rfl ?_
        refine aj_aload_n C dX5_lightFrom_130 rfl ?_
        refine aj_getA (x := 0) (y := 60) C flX5_47 hq0 rfl dX5_lightFrom_131 ?_
        refine aj_iload_n C dX5_lightFrom_134 rfl ?_
        obtain ⟨r0, h⟩ := h
        refine aj_iald C (aj_ca (e := 0) (n := 60) (j := 11) hq0 (by decide) rfl) (by decide) r0 dX5_lightFrom_135 rfl ?_
        refine aj_aload_n C dX5_lightFrom_136 rfl ?_
        refine aj_getA (x := 0) (y := 144) C flX5_31 hq0 rfl dX5_lightFrom_137 ?_
        refine aj_iload C dX5_lightFrom_140 rfl ?_
        obtain ⟨r0, h⟩ := h
        refine aj_iald C (aj_ca (e := 0) (n := 144) (j := 6) hq0 (by decide) rfl) (by decide) r0 dX5_lightFrom_142 rfl ?_
        refine aj_iadd C dX5_lightFrom_143 ?_
        obtain ⟨r0, h⟩ := h
        refine aj_iast C (aj_ca (e := 0) (n := 60) (j := 11) hq0 (by decide) rfl) (by decide) r0 dX5_lightFrom_144 ?_
        refine aj_nm (fun m2 e1 => ?_)
        have h := h m2 e1
        refine aj_aload_n C dX5_lightFrom_145 rfl ?_
        refine aj_getA (x := 0) (y := 60) C flX5_50 hq0 rfl dX5_lightFrom_146 ?_
        refine aj_iload C dX5_lightFrom_149 rfl ?_
        refine aj_iload C dX5_lightFrom_151 rfl ?_
        obtain ⟨r0, h⟩ := h
        refine aj_iast C (aj_ca (e := 0) (n := 60) (j := 12) hq0 (by decide) rfl) (by decide) r0 dX5_lightFrom_153 ?_
        refine aj_nm (fun m3 e1 => ?_)
        have h := h m3 e1
        refine aj_iinc (lv' := [some (vO 5 q0), none, some (vI v2), some (vI v3), some (vI (v4 + 1)), some (vI (m (9 :: q0) v4.toNat)), some (vI z1)]) C dX5_lightFrom_154 rfl (by decide) rfl ?_
        refine aj_goto (tgt := 69) C dX5_lightFrom_157 (by decide) ?_
        refine aj_wk (lv' := [some (vO 5 q0), none, some (vI v2), some (vI v3), some (vI (v4 + 1)), none, none]) (⟨rfl, ⟨rfl, ⟨rfl, ⟨rfl, trivial⟩⟩⟩⟩) ?_
        exact ih q0 v2 v3 (v4 + 1) _ hq0 h
def hX5_lightFrom_31 (f : Nat) (Φ : aj_M → Prop) : Nat → List Nat → Int → aj_M → Prop
  | 0, _, _, _ => False
  | k + 1, q0, v2, m => rI v2 ∧ rI (m q0 0) ∧ ((m q0 0) ≤ v2 → Φ m) ∧ (¬ ((m q0 0) ≤ v2) → wX5_lightestUnseen f (fun z1 m1 => rI z1 ∧ (0 ≤ z1 → ∀ m2, m2 = aj_u m1 q0 15 (aj_lorL (m1 q0 15) (aj_lshl 1 z1)) → (0 ≤ z1 ∧ z1 < 62) ∧ hX5_lightFrom_69 f Φ (fun q0 v2 m => hX5_lightFrom_31 f Φ k q0 v2 m) f q0 v2 z1 (m2 (8 :: q0) z1.toNat) m2) ∧ (¬ (0 ≤ z1) → Φ m1)) q0 m)
set_option maxHeartbeats 4000000 in
set_option maxRecDepth 100000 in
theorem tX5_lightFrom_31 {X : aj_T} {n f : Nat} {Φ : aj_M → Prop} (C : aj_Cx X cX5_lightFrom RX5 7 (n + 1)) (K : aj_Rt X none (fun r m => r = none ∧ Φ m)) : ∀ (k : Nat) (q0 : List Nat) (v2 : Int) (m : aj_M) (hq0 : (.inl (5, q0) : aj_R) ∈ aj_pls), hX5_lightFrom_31 f Φ k q0 v2 m → aj_J X 31 [some (vO 5 q0), none, some (vI v2), none, none, none, none] [] m := by
  intro k
  induction k with
  | zero =>
    intro q0 v2 m _ h
    exact h.elim
  | succ k ih =>
    intro q0 v2 m hq0 h
    unfold hX5_lightFrom_31 at h
    refine aj_iload_n C dX5_lightFrom_31 rfl ?_
    refine aj_aload_n C dX5_lightFrom_32 rfl ?_
    refine aj_getI C flX5_9 hq0 (by decide) dX5_lightFrom_33 rfl ?_
    obtain ⟨r0, r1, h1, h2⟩ := h
    refine aj_icmp_ge (tgt := 166) C dX5_lightFrom_36 (by decide) r0 r1 (fun e => ?_) (fun e => ?_)
    · have h := h1 e
      exact aj_vret C K dX5_lightFrom_166 ⟨rfl, h⟩
    · have h := h2 e
      refine aj_aload_n C dX5_lightFrom_39 rfl ?_
      refine aj_callV (rest := []) C mvX5_162 (sX5_lightestUnseen hq0 h) hq0 (aj_np 0 (by decide +kernel) rfl) (Nat.le_of_ble_eq_true rfl) rfl dX5_lightFrom_40 (fun r m1 h => ?_)
      obtain ⟨z1, rfl, h⟩ := h
      refine aj_istore_n (lv' := [some (vO 5 q0), none, some (vI v2), some (vI z1), none, none, none]) C dX5_lightFrom_43 (by decide) rfl ?_
      refine aj_iload_n C dX5_lightFrom_44 rfl ?_
      obtain ⟨r0, h1, h2⟩ := h
      refine aj_if_ge (tgt := 49) C dX5_lightFrom_45 (by decide) r0 (fun e => ?_) (fun e => ?_)
      · have h := h1 e
        refine aj_aload_n C dX5_lightFrom_49 rfl ?_
        refine aj_dup C aj_nR dX5_lightFrom_50 ?_
        refine aj_getL C flX5_59 hq0 rfl dX5_lightFrom_51 rfl ?_
        refine aj_lconst (z := 1) C dX5_lightFrom_54 rfl ?_
        refine aj_iload_n C dX5_lightFrom_55 rfl ?_
        refine aj_lshl_ C dX5_lightFrom_56 ?_
        refine aj_lor C dX5_lightFrom_57 ?_
        refine aj_putL C fpX5_59 hq0 rfl dX5_lightFrom_58 ?_
        refine aj_nm (fun m2 e1 => ?_)
        have h := h m2 e1
        refine aj_aload_n C dX5_lightFrom_61 rfl ?_
        refine aj_getA (x := 0) (y := 62) C flX5_38 hq0 rfl dX5_lightFrom_62 ?_
        refine aj_iload_n C dX5_lightFrom_65 rfl ?_
        obtain ⟨r0, h⟩ := h
        refine aj_iald C (aj_ca (e := 0) (n := 62) (j := 8) hq0 (by decide) rfl) (by decide) r0 dX5_lightFrom_66 rfl ?_
        refine aj_istore (lv' := [some (vO 5 q0), none, some (vI v2), some (vI z1), some (vI (m2 (8 :: q0) z1.toNat)), none, none]) C dX5_lightFrom_67 (by decide) rfl ?_
        exact tX5_lightFrom_69 C K (fun q0 v2 m hq0 hh => ih q0 v2 m hq0 hh) f q0 v2 z1 (m2 (8 :: q0) z1.toNat) _ hq0 h
      · have h := h2 e
        exact aj_vret C K dX5_lightFrom_48 ⟨rfl, h⟩
def wX5_lightFrom (f : Nat) (Φ : aj_M → Prop) (q0 : List Nat) (v1 : Int) (m : aj_M) : Prop := wJ7_fill_53178 f (fun m1 => wJ7_fill_53178 f (fun m2 => ∀ m3, m3 = aj_u m2 q0 15 0 → (0 ≤ v1 ∧ v1 < 60) ∧ ∀ m4, m4 = aj_u m3 (11 :: q0) v1.toNat 0 → hX5_lightFrom_31 f Φ f q0 0 m4) 60 (12 :: q0) (-1) m1) 60 (11 :: q0) 1000000 m
set_option maxHeartbeats 4000000 in
set_option maxRecDepth 100000 in
theorem sX5_lightFrom {n f : Nat} {Φ : aj_M → Prop} {q0 : List Nat} {v1 : Int} {m : aj_M} (hq0 : (.inl (5, q0) : aj_R) ∈ aj_pls) (h : wX5_lightFrom f Φ q0 v1 m) : aj_Ct (n + 1) yX5_lightFrom cX5_lightFrom 7 none [vO 5 q0, vI v1] m (fun r m => r = none ∧ Φ m) := by
  refine aj_met (lv := [some (vO 5 q0), some (vI v1), none, none, none, none, none]) (by decide +kernel) rfl (Nat.le_of_ble_eq_true rfl) (fun X C K => ?_)
  unfold wX5_lightFrom at h
  refine aj_aload_n C dX5_lightFrom_0 rfl ?_
  refine aj_getA (x := 0) (y := 60) C flX5_47 hq0 rfl dX5_lightFrom_1 ?_
  refine aj_ldc (z := 1000000) C (wd1069) rfl dX5_lightFrom_4 ?_
  refine aj_callS (rest := []) C msX5_125 (sJ7_fill_53178 (aj_ca (e := 0) (n := 60) (j := 11) hq0 (by decide) rfl) (by decide) h) (aj_np 2 (by decide +kernel) rfl) (Nat.le_of_ble_eq_true rfl) rfl dX5_lightFrom_6 (fun r m1 h => ?_)
  obtain ⟨rfl, h⟩ := h
  refine aj_aload_n C dX5_lightFrom_9 rfl ?_
  refine aj_getA (x := 0) (y := 60) C flX5_50 hq0 rfl dX5_lightFrom_10 ?_
  refine aj_iconst C dX5_lightFrom_13 ?_
  refine aj_callS (rest := []) C msX5_125 (sJ7_fill_53178 (aj_ca (e := 0) (n := 60) (j := 12) hq0 (by decide) rfl) (by decide) h) (aj_np 2 (by decide +kernel) rfl) (Nat.le_of_ble_eq_true rfl) rfl dX5_lightFrom_14 (fun r m2 h => ?_)
  obtain ⟨rfl, h⟩ := h
  refine aj_aload_n C dX5_lightFrom_17 rfl ?_
  refine aj_lconst (z := 0) C dX5_lightFrom_18 rfl ?_
  refine aj_putL C fpX5_59 hq0 rfl dX5_lightFrom_19 ?_
  refine aj_nm (fun m3 e1 => ?_)
  have h := h m3 e1
  refine aj_aload_n C dX5_lightFrom_22 rfl ?_
  refine aj_getA (x := 0) (y := 60) C flX5_47 hq0 rfl dX5_lightFrom_23 ?_
  refine aj_iload_n C dX5_lightFrom_26 rfl ?_
  refine aj_iconst C dX5_lightFrom_27 ?_
  obtain ⟨r0, h⟩ := h
  refine aj_iast C (aj_ca (e := 0) (n := 60) (j := 11) hq0 (by decide) rfl) (by decide) r0 dX5_lightFrom_28 ?_
  refine aj_nm (fun m4 e1 => ?_)
  have h := h m4 e1
  refine aj_iconst C dX5_lightFrom_29 ?_
  refine aj_istore_n (lv' := [some (vO 5 q0), some (vI v1), some (vI 0), none, none, none, none]) C dX5_lightFrom_30 (by decide) rfl ?_
  refine aj_wk (lv' := [some (vO 5 q0), none, some (vI 0), none, none, none, none]) (⟨rfl, ⟨rfl, trivial⟩⟩) ?_
  exact tX5_lightFrom_31 C K f q0 0 _ hq0 h
theorem dX5_lightestRing_0 : decode cX5_lightestRing 0 = .ok (.ldc 151, 2) := by decide +kernel
theorem dX5_lightestRing_2 : decode cX5_lightestRing 2 = .ok (.istore_n 1, 1) := by decide +kernel
theorem dX5_lightestRing_3 : decode cX5_lightestRing 3 = .ok (.iconst 0, 1) := by decide +kernel
theorem dX5_lightestRing_4 : decode cX5_lightestRing 4 = .ok (.istore_n 2, 1) := by decide +kernel
theorem dX5_lightestRing_5 : decode cX5_lightestRing 5 = .ok (.iload_n 2, 1) := by decide +kernel
theorem dX5_lightestRing_6 : decode cX5_lightestRing 6 = .ok (.aload_n 0, 1) := by decide +kernel
theorem dX5_lightestRing_7 : decode cX5_lightestRing 7 = .ok (.getfield 9, 3) := by decide +kernel
theorem dX5_lightestRing_10 : decode cX5_lightestRing 10 = .ok (.if_icmp .ge 95, 3) := by decide +kernel
theorem dX5_lightestRing_13 : decode cX5_lightestRing 13 = .ok (.aload_n 0, 1) := by decide +kernel
theorem dX5_lightestRing_14 : decode cX5_lightestRing 14 = .ok (.iload_n 2, 1) := by decide +kernel
theorem dX5_lightestRing_15 : decode cX5_lightestRing 15 = .ok (.invokevirtual 166, 3) := by decide +kernel
theorem dX5_lightestRing_18 : decode cX5_lightestRing 18 = .ok (.iconst 0, 1) := by decide +kernel
theorem dX5_lightestRing_19 : decode cX5_lightestRing 19 = .ok (.istore_n 3, 1) := by decide +kernel
theorem dX5_lightestRing_20 : decode cX5_lightestRing 20 = .ok (.iload_n 3, 1) := by decide +kernel
theorem dX5_lightestRing_21 : decode cX5_lightestRing 21 = .ok (.aload_n 0, 1) := by decide +kernel
theorem dX5_lightestRing_22 : decode cX5_lightestRing 22 = .ok (.getfield 15, 3) := by decide +kernel
theorem dX5_lightestRing_25 : decode cX5_lightestRing 25 = .ok (.if_icmp .ge 74, 3) := by decide +kernel
theorem dX5_lightestRing_28 : decode cX5_lightestRing 28 = .ok (.aload_n 0, 1) := by decide +kernel
theorem dX5_lightestRing_29 : decode cX5_lightestRing 29 = .ok (.getfield 18, 3) := by decide +kernel
theorem dX5_lightestRing_32 : decode cX5_lightestRing 32 = .ok (.iload_n 3, 1) := by decide +kernel
theorem dX5_lightestRing_33 : decode cX5_lightestRing 33 = .ok (.iaload, 1) := by decide +kernel
theorem dX5_lightestRing_34 : decode cX5_lightestRing 34 = .ok (.istore 4, 2) := by decide +kernel
theorem dX5_lightestRing_36 : decode cX5_lightestRing 36 = .ok (.aload_n 0, 1) := by decide +kernel
theorem dX5_lightestRing_37 : decode cX5_lightestRing 37 = .ok (.getfield 22, 3) := by decide +kernel
theorem dX5_lightestRing_40 : decode cX5_lightestRing 40 = .ok (.iload_n 3, 1) := by decide +kernel
theorem dX5_lightestRing_41 : decode cX5_lightestRing 41 = .ok (.iaload, 1) := by decide +kernel
theorem dX5_lightestRing_42 : decode cX5_lightestRing 42 = .ok (.istore 5, 2) := by decide +kernel
theorem dX5_lightestRing_44 : decode cX5_lightestRing 44 = .ok (.aload_n 0, 1) := by decide +kernel
theorem dX5_lightestRing_45 : decode cX5_lightestRing 45 = .ok (.getfield 50, 3) := by decide +kernel
theorem dX5_lightestRing_48 : decode cX5_lightestRing 48 = .ok (.iload 4, 2) := by decide +kernel
theorem dX5_lightestRing_50 : decode cX5_lightestRing 50 = .ok (.iaload, 1) := by decide +kernel
theorem dX5_lightestRing_51 : decode cX5_lightestRing 51 = .ok (.iload_n 3, 1) := by decide +kernel
theorem dX5_lightestRing_52 : decode cX5_lightestRing 52 = .ok (.if_icmp .eq 41, 3) := by decide +kernel
theorem dX5_lightestRing_55 : decode cX5_lightestRing 55 = .ok (.aload_n 0, 1) := by decide +kernel
theorem dX5_lightestRing_56 : decode cX5_lightestRing 56 = .ok (.getfield 50, 3) := by decide +kernel
theorem dX5_lightestRing_59 : decode cX5_lightestRing 59 = .ok (.iload 5, 2) := by decide +kernel
theorem dX5_lightestRing_61 : decode cX5_lightestRing 61 = .ok (.iaload, 1) := by decide +kernel
theorem dX5_lightestRing_62 : decode cX5_lightestRing 62 = .ok (.iload_n 3, 1) := by decide +kernel
theorem dX5_lightestRing_63 : decode cX5_lightestRing 63 = .ok (.if_icmp .eq 30, 3) := by decide +kernel
theorem dX5_lightestRing_66 : decode cX5_lightestRing 66 = .ok (.iload_n 1, 1) := by decide +kernel
theorem dX5_lightestRing_67 : decode cX5_lightestRing 67 = .ok (.aload_n 0, 1) := by decide +kernel
theorem dX5_lightestRing_68 : decode cX5_lightestRing 68 = .ok (.getfield 47, 3) := by decide +kernel
theorem dX5_lightestRing_71 : decode cX5_lightestRing 71 = .ok (.iload 4, 2) := by decide +kernel
theorem dX5_lightestRing_73 : decode cX5_lightestRing 73 = .ok (.iaload, 1) := by decide +kernel
theorem dX5_lightestRing_74 : decode cX5_lightestRing 74 = .ok (.aload_n 0, 1) := by decide +kernel
theorem dX5_lightestRing_75 : decode cX5_lightestRing 75 = .ok (.getfield 47, 3) := by decide +kernel
theorem dX5_lightestRing_78 : decode cX5_lightestRing 78 = .ok (.iload 5, 2) := by decide +kernel
theorem dX5_lightestRing_80 : decode cX5_lightestRing 80 = .ok (.iaload, 1) := by decide +kernel
theorem dX5_lightestRing_81 : decode cX5_lightestRing 81 = .ok (.iadd, 1) := by decide +kernel
theorem dX5_lightestRing_82 : decode cX5_lightestRing 82 = .ok (.aload_n 0, 1) := by decide +kernel
theorem dX5_lightestRing_83 : decode cX5_lightestRing 83 = .ok (.getfield 31, 3) := by decide +kernel
theorem dX5_lightestRing_86 : decode cX5_lightestRing 86 = .ok (.iload_n 3, 1) := by decide +kernel
theorem dX5_lightestRing_87 : decode cX5_lightestRing 87 = .ok (.iaload, 1) := by decide +kernel
theorem dX5_lightestRing_88 : decode cX5_lightestRing 88 = .ok (.iadd, 1) := by decide +kernel
theorem dX5_lightestRing_89 : decode cX5_lightestRing 89 = .ok (.invokestatic 155, 3) := by decide +kernel
theorem dX5_lightestRing_92 : decode cX5_lightestRing 92 = .ok (.istore_n 1, 1) := by decide +kernel
theorem dX5_lightestRing_93 : decode cX5_lightestRing 93 = .ok (.iinc 3 1, 3) := by decide +kernel
theorem dX5_lightestRing_96 : decode cX5_lightestRing 96 = .ok (.goto (-76), 3) := by decide +kernel
theorem dX5_lightestRing_99 : decode cX5_lightestRing 99 = .ok (.iinc 2 1, 3) := by decide +kernel
theorem dX5_lightestRing_102 : decode cX5_lightestRing 102 = .ok (.goto (-97), 3) := by decide +kernel
theorem dX5_lightestRing_105 : decode cX5_lightestRing 105 = .ok (.iload_n 1, 1) := by decide +kernel
theorem dX5_lightestRing_106 : decode cX5_lightestRing 106 = .ok (.ireturn, 1) := by decide +kernel
def hX5_lightestRing_20 (f : Nat) (Φ : Int → aj_M → Prop) (K5 : List Nat → Int → Int → aj_M → Prop) : Nat → List Nat → Int → Int → Int → aj_M → Prop
  | 0, _, _, _, _, _ => False
  | k + 1, q0, v1, v2, v3, m => rI v3 ∧ rI (m q0 1) ∧ ((m q0 1) ≤ v3 → K5 q0 v1 (v2 + 1) m) ∧ (¬ ((m q0 1) ≤ v3) → (0 ≤ v3 ∧ v3 < 144) ∧ (0 ≤ v3 ∧ v3 < 144) ∧ (0 ≤ (m (2 :: q0) v3.toNat) ∧ (m (2 :: q0) v3.toNat) < 60) ∧ rI (m (12 :: q0) (m (2 :: q0) v3.toNat).toNat) ∧ rI v3 ∧ ((m (12 :: q0) (m (2 :: q0) v3.toNat).toNat) = v3 → hX5_lightestRing_20 f Φ K5 k q0 v1 v2 (v3 + 1) m) ∧ (¬ ((m (12 :: q0) (m (2 :: q0) v3.toNat).toNat) = v3) → (0 ≤ (m (3 :: q0) v3.toNat) ∧ (m (3 :: q0) v3.toNat) < 60) ∧ rI (m (12 :: q0) (m (3 :: q0) v3.toNat).toNat) ∧ rI v3 ∧ ((m (12 :: q0) (m (3 :: q0) v3.toNat).toNat) = v3 → hX5_lightestRing_20 f Φ K5 k q0 v1 v2 (v3 + 1) m) ∧ (¬ ((m (12 :: q0) (m (3 :: q0) v3.toNat).toNat) = v3) → (0 ≤ (m (2 :: q0) v3.toNat) ∧ (m (2 :: q0) v3.toNat) < 60) ∧ (0 ≤ (m (3 :: q0) v3.toNat) ∧ (m (3 :: q0) v3.toNat) < 60) ∧ (0 ≤ v3 ∧ v3 < 144) ∧ rI v1 ∧ rI (((m (11 :: q0) (m (2 :: q0) v3.toNat).toNat) + (m (11 :: q0) (m (3 :: q0) v3.toNat).toNat)) + (m (6 :: q0) v3.toNat)) ∧ hX5_lightestRing_20 f Φ K5 k q0 (min v1 (((m (11 :: q0) (m (2 :: q0) v3.toNat).toNat) + (m (11 :: q0) (m (3 :: q0) v3.toNat).toNat)) + (m (6 :: q0) v3.toNat))) v2 (v3 + 1) m)))
set_option maxHeartbeats 4000000 in
set_option maxRecDepth 100000 in
theorem tX5_lightestRing_20 {X : aj_T} {n f : Nat} {Φ : Int → aj_M → Prop} (C : aj_Cx X cX5_lightestRing RX5 6 (n + 2)) (K : aj_Rt X (some .int) (fun r m => ∃ z, r = some (vI z) ∧ Φ z m)) {K5 : List Nat → Int → Int → aj_M → Prop} (HK5 : ∀ (q0 : List Nat) (v1 : Int) (v2 : Int) (m : aj_M) (hq0 : (.inl (5, q0) : aj_R) ∈ aj_pls), K5 q0 v1 v2 m → aj_J X 5 [some (vO 5 q0), some (vI v1), some (vI v2), none, none, none] [] m) : ∀ (k : Nat) (q0 : List Nat) (v1 : Int) (v2 : Int) (v3 : Int) (m : aj_M) (hq0 : (.inl (5, q0) : aj_R) ∈ aj_pls), hX5_lightestRing_20 f Φ K5 k q0 v1 v2 v3 m → aj_J X 20 [some (vO 5 q0), some (vI v1), some (vI v2), some (vI v3), none, none] [] m := by
  intro k
  induction k with
  | zero =>
    intro q0 v1 v2 v3 m _ h
    exact h.elim
  | succ k ih =>
    intro q0 v1 v2 v3 m hq0 h
    unfold hX5_lightestRing_20 at h
    refine aj_iload_n C dX5_lightestRing_20 rfl ?_
    refine aj_aload_n C dX5_lightestRing_21 rfl ?_
    refine aj_getI C flX5_15 hq0 (by decide) dX5_lightestRing_22 rfl ?_
    obtain ⟨r0, r1, h1, h2⟩ := h
    refine aj_icmp_ge (tgt := 99) C dX5_lightestRing_25 (by decide) r0 r1 (fun e => ?_) (fun e => ?_)
    · have h := h1 e
      refine aj_iinc (lv' := [some (vO 5 q0), some (vI v1), some (vI (v2 + 1)), some (vI v3), none, none]) C dX5_lightestRing_99 rfl (by decide) rfl ?_
      refine aj_goto (tgt := 5) C dX5_lightestRing_102 (by decide) ?_
      refine aj_wk (lv' := [some (vO 5 q0), some (vI v1), some (vI (v2 + 1)), none, none, none]) (⟨rfl, ⟨rfl, ⟨rfl, trivial⟩⟩⟩) ?_
      exact HK5 q0 v1 (v2 + 1) _ hq0 h
    · have h := h2 e
      refine aj_aload_n C dX5_lightestRing_28 rfl ?_
      refine aj_getA (x := 0) (y := 144) C flX5_18 hq0 rfl dX5_lightestRing_29 ?_
      refine aj_iload_n C dX5_lightestRing_32 rfl ?_
      obtain ⟨r0, h⟩ := h
      refine aj_iald C (aj_ca (e := 0) (n := 144) (j := 2) hq0 (by decide) rfl) (by decide) r0 dX5_lightestRing_33 rfl ?_
      refine aj_istore (lv' := [some (vO 5 q0), some (vI v1), some (vI v2), some (vI v3), some (vI (m (2 :: q0) v3.toNat)), none]) C dX5_lightestRing_34 (by decide) rfl ?_
      refine aj_aload_n C dX5_lightestRing_36 rfl ?_
      refine aj_getA (x := 0) (y := 144) C flX5_22 hq0 rfl dX5_lightestRing_37 ?_
      refine aj_iload_n C dX5_lightestRing_40 rfl ?_
      obtain ⟨r0, h⟩ := h
      refine aj_iald C (aj_ca (e := 0) (n := 144) (j := 3) hq0 (by decide) rfl) (by decide) r0 dX5_lightestRing_41 rfl ?_
      refine aj_istore (lv' := [some (vO 5 q0), some (vI v1), some (vI v2), some (vI v3), some (vI (m (2 :: q0) v3.toNat)), some (vI (m (3 :: q0) v3.toNat))]) C dX5_lightestRing_42 (by decide) rfl ?_
      refine aj_aload_n C dX5_lightestRing_44 rfl ?_
      refine aj_getA (x := 0) (y := 60) C flX5_50 hq0 rfl dX5_lightestRing_45 ?_
      refine aj_iload C dX5_lightestRing_48 rfl ?_
      obtain ⟨r0, h⟩ := h
      refine aj_iald C (aj_ca (e := 0) (n := 60) (j := 12) hq0 (by decide) rfl) (by decide) r0 dX5_lightestRing_50 rfl ?_
      refine aj_iload_n C dX5_lightestRing_51 rfl ?_
      obtain ⟨r0, r1, h1, h2⟩ := h
      refine aj_icmp_eq (tgt := 93) C dX5_lightestRing_52 (by decide) r0 r1 (fun e => ?_) (fun e => ?_)
      · have h := h1 e
        refine aj_iinc (lv' := [some (vO 5 q0), some (vI v1), some (vI v2), some (vI (v3 + 1)), some (vI (m (2 :: q0) v3.toNat)), some (vI (m (3 :: q0) v3.toNat))]) C dX5_lightestRing_93 rfl (by decide) rfl ?_
        refine aj_goto (tgt := 20) C dX5_lightestRing_96 (by decide) ?_
        refine aj_wk (lv' := [some (vO 5 q0), some (vI v1), some (vI v2), some (vI (v3 + 1)), none, none]) (⟨rfl, ⟨rfl, ⟨rfl, ⟨rfl, trivial⟩⟩⟩⟩) ?_
        exact ih q0 v1 v2 (v3 + 1) _ hq0 h
      · have h := h2 e
        refine aj_aload_n C dX5_lightestRing_55 rfl ?_
        refine aj_getA (x := 0) (y := 60) C flX5_50 hq0 rfl dX5_lightestRing_56 ?_
        refine aj_iload C dX5_lightestRing_59 rfl ?_
        obtain ⟨r0, h⟩ := h
        refine aj_iald C (aj_ca (e := 0) (n := 60) (j := 12) hq0 (by decide) rfl) (by decide) r0 dX5_lightestRing_61 rfl ?_
        refine aj_iload_n C dX5_lightestRing_62 rfl ?_
        obtain ⟨r0, r1, h1, h2⟩ := h
        refine aj_icmp_eq (tgt := 93) C dX5_lightestRing_63 (by decide) r0 r1 (fun e => ?_) (fun e => ?_)
        · have h := h1 e
          refine aj_iinc (lv' := [some (vO 5 q0), some (vI v1), some (vI v2), some (vI (v3 + 1)), some (vI (m (2 :: q0) v3.toNat)), some (vI (m (3 :: q0) v3.toNat))]) C dX5_lightestRing_93 rfl (by decide) rfl ?_
          refine aj_goto (tgt := 20) C dX5_lightestRing_96 (by decide) ?_
          refine aj_wk (lv' := [some (vO 5 q0), some (vI v1), some (vI v2), some (vI (v3 + 1)), none, none]) (⟨rfl, ⟨rfl, ⟨rfl, ⟨rfl, trivial⟩⟩⟩⟩) ?_
          exact ih q0 v1 v2 (v3 + 1) _ hq0 h
        · have h := h2 e
          refine aj_iload_n C dX5_lightestRing_66 rfl ?_
          refine aj_aload_n C dX5_lightestRing_67 rfl ?_
          refine aj_getA (x := 0) (y := 60) C flX5_47 hq0 rfl dX5_lightestRing_68 ?_
          refine aj_iload C dX5_lightestRing_71 rfl ?_
          obtain ⟨r0, h⟩ := h
          refine aj_iald C (aj_ca (e := 0) (n := 60) (j := 11) hq0 (by decide) rfl) (by decide) r0 dX5_lightestRing_73 rfl ?_
          refine aj_aload_n C dX5_lightestRing_74 rfl ?_
          refine aj_getA (x := 0) (y := 60) C flX5_47 hq0 rfl dX5_lightestRing_75 ?_
          refine aj_iload C dX5_lightestRing_78 rfl ?_
          obtain ⟨r0, h⟩ := h
          refine aj_iald C (aj_ca (e := 0) (n := 60) (j := 11) hq0 (by decide) rfl) (by decide) r0 dX5_lightestRing_80 rfl ?_
          refine aj_iadd C dX5_lightestRing_81 ?_
          refine aj_aload_n C dX5_lightestRing_82 rfl ?_
          refine aj_getA (x := 0) (y := 144) C flX5_31 hq0 rfl dX5_lightestRing_83 ?_
          refine aj_iload_n C dX5_lightestRing_86 rfl ?_
          obtain ⟨r0, h⟩ := h
          refine aj_iald C (aj_ca (e := 0) (n := 144) (j := 6) hq0 (by decide) rfl) (by decide) r0 dX5_lightestRing_87 rfl ?_
          refine aj_iadd C dX5_lightestRing_88 ?_
          obtain ⟨r0, r1, h⟩ := h
          refine aj_mmin C msX5_155 (Nat.le_of_ble_eq_true rfl) r0 r1 dX5_lightestRing_89 ?_
          refine aj_istore_n (lv' := [some (vO 5 q0), some (vI (min v1 (((m (11 :: q0) (m (2 :: q0) v3.toNat).toNat) + (m (11 :: q0) (m (3 :: q0) v3.toNat).toNat)) + (m (6 :: q0) v3.toNat)))), some (vI v2), some (vI v3), some (vI (m (2 :: q0) v3.toNat)), some (vI (m (3 :: q0) v3.toNat))]) C dX5_lightestRing_92 (by decide) rfl ?_
          refine aj_iinc (lv' := [some (vO 5 q0), some (vI (min v1 (((m (11 :: q0) (m (2 :: q0) v3.toNat).toNat) + (m (11 :: q0) (m (3 :: q0) v3.toNat).toNat)) + (m (6 :: q0) v3.toNat)))), some (vI v2), some (vI (v3 + 1)), some (vI (m (2 :: q0) v3.toNat)), some (vI (m (3 :: q0) v3.toNat))]) C dX5_lightestRing_93 rfl (by decide) rfl ?_
          refine aj_goto (tgt := 20) C dX5_lightestRing_96 (by decide) ?_
          refine aj_wk (lv' := [some (vO 5 q0), some (vI (min v1 (((m (11 :: q0) (m (2 :: q0) v3.toNat).toNat) + (m (11 :: q0) (m (3 :: q0) v3.toNat).toNat)) + (m (6 :: q0) v3.toNat)))), some (vI v2), some (vI (v3 + 1)), none, none]) (⟨rfl, ⟨rfl, ⟨rfl, ⟨rfl, trivial⟩⟩⟩⟩) ?_
          exact ih q0 (min v1 (((m (11 :: q0) (m (2 :: q0) v3.toNat).toNat) + (m (11 :: q0) (m (3 :: q0) v3.toNat).toNat)) + (m (6 :: q0) v3.toNat))) v2 (v3 + 1) _ hq0 h
def hX5_lightestRing_5 (f : Nat) (Φ : Int → aj_M → Prop) : Nat → List Nat → Int → Int → aj_M → Prop
  | 0, _, _, _, _ => False
  | k + 1, q0, v1, v2, m => rI v2 ∧ rI (m q0 0) ∧ ((m q0 0) ≤ v2 → Φ v1 m) ∧ (¬ ((m q0 0) ≤ v2) → wX5_lightFrom f (fun m1 => hX5_lightestRing_20 f Φ (fun q0 v1 v2 m => hX5_lightestRing_5 f Φ k q0 v1 v2 m) f q0 v1 v2 0 m1) q0 v2 m)
set_option maxHeartbeats 4000000 in
set_option maxRecDepth 100000 in
theorem tX5_lightestRing_5 {X : aj_T} {n f : Nat} {Φ : Int → aj_M → Prop} (C : aj_Cx X cX5_lightestRing RX5 6 (n + 2)) (K : aj_Rt X (some .int) (fun r m => ∃ z, r = some (vI z) ∧ Φ z m)) : ∀ (k : Nat) (q0 : List Nat) (v1 : Int) (v2 : Int) (m : aj_M) (hq0 : (.inl (5, q0) : aj_R) ∈ aj_pls), hX5_lightestRing_5 f Φ k q0 v1 v2 m → aj_J X 5 [some (vO 5 q0), some (vI v1), some (vI v2), none, none, none] [] m := by
  intro k
  induction k with
  | zero =>
    intro q0 v1 v2 m _ h
    exact h.elim
  | succ k ih =>
    intro q0 v1 v2 m hq0 h
    unfold hX5_lightestRing_5 at h
    refine aj_iload_n C dX5_lightestRing_5 rfl ?_
    refine aj_aload_n C dX5_lightestRing_6 rfl ?_
    refine aj_getI C flX5_9 hq0 (by decide) dX5_lightestRing_7 rfl ?_
    obtain ⟨r0, r1, h1, h2⟩ := h
    refine aj_icmp_ge (tgt := 105) C dX5_lightestRing_10 (by decide) r0 r1 (fun e => ?_) (fun e => ?_)
    · have h := h1 e
      refine aj_iload_n C dX5_lightestRing_105 rfl ?_
      exact aj_iret C K dX5_lightestRing_106 ⟨_, rfl, h⟩
    · have h := h2 e
      refine aj_aload_n C dX5_lightestRing_13 rfl ?_
      refine aj_iload_n C dX5_lightestRing_14 rfl ?_
      refine aj_callV (rest := []) C mvX5_166 (sX5_lightFrom hq0 h) hq0 (aj_np 1 (by decide +kernel) rfl) (Nat.le_of_ble_eq_true rfl) rfl dX5_lightestRing_15 (fun r m1 h => ?_)
      obtain ⟨rfl, h⟩ := h
      refine aj_iconst C dX5_lightestRing_18 ?_
      refine aj_istore_n (lv' := [some (vO 5 q0), some (vI v1), some (vI v2), some (vI 0), none, none]) C dX5_lightestRing_19 (by decide) rfl ?_
      exact tX5_lightestRing_20 C K (fun q0 v1 v2 m hq0 hh => ih q0 v1 v2 m hq0 hh) f q0 v1 v2 0 _ hq0 h
def wX5_lightestRing (f : Nat) (Φ : Int → aj_M → Prop) (q0 : List Nat) (m : aj_M) : Prop := hX5_lightestRing_5 f Φ f q0 1000000 0 m
set_option maxHeartbeats 4000000 in
set_option maxRecDepth 100000 in
theorem sX5_lightestRing {n f : Nat} {Φ : Int → aj_M → Prop} {q0 : List Nat} {m : aj_M} (hq0 : (.inl (5, q0) : aj_R) ∈ aj_pls) (h : wX5_lightestRing f Φ q0 m) : aj_Ct (n + 2) yX5_lightestRing cX5_lightestRing 6 (some .int) [vO 5 q0] m (fun r m => ∃ z, r = some (vI z) ∧ Φ z m) := by
  refine aj_met (lv := [some (vO 5 q0), none, none, none, none, none]) (by decide +kernel) rfl (Nat.le_of_ble_eq_true rfl) (fun X C K => ?_)
  unfold wX5_lightestRing at h
  refine aj_ldc (z := 1000000) C (wd1069) rfl dX5_lightestRing_0 ?_
  refine aj_istore_n (lv' := [some (vO 5 q0), some (vI 1000000), none, none, none, none]) C dX5_lightestRing_2 (by decide) rfl ?_
  refine aj_iconst C dX5_lightestRing_3 ?_
  refine aj_istore_n (lv' := [some (vO 5 q0), some (vI 1000000), some (vI 0), none, none, none]) C dX5_lightestRing_4 (by decide) rfl ?_
  exact tX5_lightestRing_5 C K f q0 1000000 0 _ hq0 h
theorem dX6_clear_0 : decode cX6_clear 0 = .ok (.aload_n 0, 1) := by decide +kernel
theorem dX6_clear_1 : decode cX6_clear 1 = .ok (.getfield 12, 3) := by decide +kernel
theorem dX6_clear_4 : decode cX6_clear 4 = .ok (.iconst 1, 1) := by decide +kernel
theorem dX6_clear_5 : decode cX6_clear 5 = .ok (.iconst 1, 1) := by decide +kernel
theorem dX6_clear_6 : decode cX6_clear 6 = .ok (.invokevirtual 57, 3) := by decide +kernel
theorem dX6_clear_9 : decode cX6_clear 9 = .ok (.aload_n 0, 1) := by decide +kernel
theorem dX6_clear_10 : decode cX6_clear 10 = .ok (.getfield 21, 3) := by decide +kernel
theorem dX6_clear_13 : decode cX6_clear 13 = .ok (.invokevirtual 61, 3) := by decide +kernel
theorem dX6_clear_16 : decode cX6_clear 16 = .ok (.aload_n 0, 1) := by decide +kernel
theorem dX6_clear_17 : decode cX6_clear 17 = .ok (.iconst 0, 1) := by decide +kernel
theorem dX6_clear_18 : decode cX6_clear 18 = .ok (.putfield 25, 3) := by decide +kernel
theorem dX6_clear_21 : decode cX6_clear 21 = .ok (.aload_n 0, 1) := by decide +kernel
theorem dX6_clear_22 : decode cX6_clear 22 = .ok (.iconst 1, 1) := by decide +kernel
theorem dX6_clear_23 : decode cX6_clear 23 = .ok (.putfield 29, 3) := by decide +kernel
theorem dX6_clear_26 : decode cX6_clear 26 = .ok (.aload_n 0, 1) := by decide +kernel
theorem dX6_clear_27 : decode cX6_clear 27 = .ok (.iconst 0, 1) := by decide +kernel
theorem dX6_clear_28 : decode cX6_clear 28 = .ok (.putfield 32, 3) := by decide +kernel
theorem dX6_clear_31 : decode cX6_clear 31 = .ok (.aload_n 0, 1) := by decide +kernel
theorem dX6_clear_32 : decode cX6_clear 32 = .ok (.iconst 0, 1) := by decide +kernel
theorem dX6_clear_33 : decode cX6_clear 33 = .ok (.putfield 35, 3) := by decide +kernel
theorem dX6_clear_36 : decode cX6_clear 36 = .ok (.aload_n 0, 1) := by decide +kernel
theorem dX6_clear_37 : decode cX6_clear 37 = .ok (.iconst 0, 1) := by decide +kernel
theorem dX6_clear_38 : decode cX6_clear 38 = .ok (.putfield 38, 3) := by decide +kernel
theorem dX6_clear_41 : decode cX6_clear 41 = .ok (.aload_n 0, 1) := by decide +kernel
theorem dX6_clear_42 : decode cX6_clear 42 = .ok (.iconst (-1), 1) := by decide +kernel
theorem dX6_clear_43 : decode cX6_clear 43 = .ok (.putfield 51, 3) := by decide +kernel
theorem dX6_clear_46 : decode cX6_clear 46 = .ok (.return_, 1) := by decide +kernel
def wX6_clear (f : Nat) (Φ : aj_M → Prop) (q0 : List Nat) (m : aj_M) : Prop := wX0_makeProduct f (fun m1 => wX4_clear f (fun m2 => ∀ m3, m3 = aj_u m2 q0 2 0 → ∀ m4, m4 = aj_u m3 q0 3 1 → ∀ m5, m5 = aj_u m4 q0 4 0 → ∀ m6, m6 = aj_u m5 q0 5 0 → ∀ m7, m7 = aj_u m6 q0 6 0 → ∀ m8, m8 = aj_u m7 q0 10 (-1) → Φ m8) (1 :: q0) m1) (0 :: q0) 1 1 m
set_option maxHeartbeats 4000000 in
set_option maxRecDepth 100000 in
theorem sX6_clear {n f : Nat} {Φ : aj_M → Prop} {q0 : List Nat} {m : aj_M} (hq0 : (.inl (6, q0) : aj_R) ∈ aj_pls) (h : wX6_clear f Φ q0 m) : aj_Ct (n + 4) yX6_clear cX6_clear 1 none [vO 6 q0] m (fun r m => r = none ∧ Φ m) := by
  refine aj_met (lv := [some (vO 6 q0)]) (by decide +kernel) rfl (Nat.le_of_ble_eq_true rfl) (fun X C K => ?_)
  unfold wX6_clear at h
  refine aj_aload_n C dX6_clear_0 rfl ?_
  refine aj_getO (x := 0) (y := 0) C flX6_12 hq0 rfl dX6_clear_1 ?_
  refine aj_iconst C dX6_clear_4 ?_
  refine aj_iconst C dX6_clear_5 ?_
  refine aj_callV (rest := []) C mvX6_57 (sX0_makeProduct (aj_cf (x := 0) (y := 0) (j := 0) hq0 (by decide) rfl) h) (aj_cf (x := 0) (y := 0) (j := 0) hq0 (by decide) rfl) (aj_np 2 (by decide +kernel) rfl) (Nat.le_of_ble_eq_true rfl) rfl dX6_clear_6 (fun r m1 h => ?_)
  obtain ⟨rfl, h⟩ := h
  refine aj_aload_n C dX6_clear_9 rfl ?_
  refine aj_getO (x := 4) (y := 0) C flX6_21 hq0 rfl dX6_clear_10 ?_
  refine aj_callV (rest := []) C mvX6_61 (sX4_clear (aj_cf (x := 4) (y := 0) (j := 1) hq0 (by decide) rfl) h) (aj_cf (x := 4) (y := 0) (j := 1) hq0 (by decide) rfl) (aj_np 0 (by decide +kernel) rfl) (Nat.le_of_ble_eq_true rfl) rfl dX6_clear_13 (fun r m2 h => ?_)
  obtain ⟨rfl, h⟩ := h
  refine aj_aload_n C dX6_clear_16 rfl ?_
  refine aj_iconst C dX6_clear_17 ?_
  refine aj_putI C fpX6_25 hq0 rfl dX6_clear_18 ?_
  refine aj_nm (fun m3 e1 => ?_)
  have h := h m3 e1
  refine aj_aload_n C dX6_clear_21 rfl ?_
  refine aj_iconst C dX6_clear_22 ?_
  refine aj_putI C fpX6_29 hq0 rfl dX6_clear_23 ?_
  refine aj_nm (fun m4 e1 => ?_)
  have h := h m4 e1
  refine aj_aload_n C dX6_clear_26 rfl ?_
  refine aj_iconst C dX6_clear_27 ?_
  refine aj_putI C fpX6_32 hq0 rfl dX6_clear_28 ?_
  refine aj_nm (fun m5 e1 => ?_)
  have h := h m5 e1
  refine aj_aload_n C dX6_clear_31 rfl ?_
  refine aj_iconst C dX6_clear_32 ?_
  refine aj_putI C fpX6_35 hq0 rfl dX6_clear_33 ?_
  refine aj_nm (fun m6 e1 => ?_)
  have h := h m6 e1
  refine aj_aload_n C dX6_clear_36 rfl ?_
  refine aj_iconst C dX6_clear_37 ?_
  refine aj_putI C fpX6_38 hq0 rfl dX6_clear_38 ?_
  refine aj_nm (fun m7 e1 => ?_)
  have h := h m7 e1
  refine aj_aload_n C dX6_clear_41 rfl ?_
  refine aj_iconst C dX6_clear_42 ?_
  refine aj_putI C fpX6_51 hq0 rfl dX6_clear_43 ?_
  refine aj_nm (fun m8 e1 => ?_)
  have h := h m8 e1
  exact aj_vret C K dX6_clear_46 ⟨rfl, h⟩
theorem dX6_addArc_0 : decode cX6_addArc 0 = .ok (.aload_n 0, 1) := by decide +kernel
theorem dX6_addArc_1 : decode cX6_addArc 1 = .ok (.getfield 32, 3) := by decide +kernel
theorem dX6_addArc_4 : decode cX6_addArc 4 = .ok (.bipush 12, 2) := by decide +kernel
theorem dX6_addArc_6 : decode cX6_addArc 6 = .ok (.if_icmp .lt 4, 3) := by decide +kernel
theorem dX6_addArc_9 : decode cX6_addArc 9 = .ok (.return_, 1) := by decide +kernel
theorem dX6_addArc_10 : decode cX6_addArc 10 = .ok (.aload_n 0, 1) := by decide +kernel
theorem dX6_addArc_11 : decode cX6_addArc 11 = .ok (.getfield 41, 3) := by decide +kernel
theorem dX6_addArc_14 : decode cX6_addArc 14 = .ok (.aload_n 0, 1) := by decide +kernel
theorem dX6_addArc_15 : decode cX6_addArc 15 = .ok (.getfield 32, 3) := by decide +kernel
theorem dX6_addArc_18 : decode cX6_addArc 18 = .ok (.iload_n 1, 1) := by decide +kernel
theorem dX6_addArc_19 : decode cX6_addArc 19 = .ok (.iastore, 1) := by decide +kernel
theorem dX6_addArc_20 : decode cX6_addArc 20 = .ok (.aload_n 0, 1) := by decide +kernel
theorem dX6_addArc_21 : decode cX6_addArc 21 = .ok (.getfield 45, 3) := by decide +kernel
theorem dX6_addArc_24 : decode cX6_addArc 24 = .ok (.aload_n 0, 1) := by decide +kernel
theorem dX6_addArc_25 : decode cX6_addArc 25 = .ok (.getfield 32, 3) := by decide +kernel
theorem dX6_addArc_28 : decode cX6_addArc 28 = .ok (.iload_n 2, 1) := by decide +kernel
theorem dX6_addArc_29 : decode cX6_addArc 29 = .ok (.iastore, 1) := by decide +kernel
theorem dX6_addArc_30 : decode cX6_addArc 30 = .ok (.aload_n 0, 1) := by decide +kernel
theorem dX6_addArc_31 : decode cX6_addArc 31 = .ok (.getfield 48, 3) := by decide +kernel
theorem dX6_addArc_34 : decode cX6_addArc 34 = .ok (.aload_n 0, 1) := by decide +kernel
theorem dX6_addArc_35 : decode cX6_addArc 35 = .ok (.getfield 32, 3) := by decide +kernel
theorem dX6_addArc_38 : decode cX6_addArc 38 = .ok (.iload_n 3, 1) := by decide +kernel
theorem dX6_addArc_39 : decode cX6_addArc 39 = .ok (.iastore, 1) := by decide +kernel
theorem dX6_addArc_40 : decode cX6_addArc 40 = .ok (.aload_n 0, 1) := by decide +kernel
theorem dX6_addArc_41 : decode cX6_addArc 41 = .ok (.dup, 1) := by decide +kernel
theorem dX6_addArc_42 : decode cX6_addArc 42 = .ok (.getfield 38, 3) := by decide +kernel
theorem dX6_addArc_45 : decode cX6_addArc 45 = .ok (.iload 4, 2) := by decide +kernel
theorem dX6_addArc_47 : decode cX6_addArc 47 = .ok (.ifCond .eq 12, 3) := by decide +kernel
theorem dX6_addArc_50 : decode cX6_addArc 50 = .ok (.iconst 1, 1) := by decide +kernel
theorem dX6_addArc_51 : decode cX6_addArc 51 = .ok (.aload_n 0, 1) := by decide +kernel
theorem dX6_addArc_52 : decode cX6_addArc 52 = .ok (.getfield 32, 3) := by decide +kernel
theorem dX6_addArc_55 : decode cX6_addArc 55 = .ok (.ishl, 1) := by decide +kernel
theorem dX6_addArc_56 : decode cX6_addArc 56 = .ok (.goto 4, 3) := by decide +kernel
theorem dX6_addArc_59 : decode cX6_addArc 59 = .ok (.iconst 0, 1) := by decide +kernel
theorem dX6_addArc_60 : decode cX6_addArc 60 = .ok (.ior, 1) := by decide +kernel
theorem dX6_addArc_61 : decode cX6_addArc 61 = .ok (.putfield 38, 3) := by decide +kernel
theorem dX6_addArc_64 : decode cX6_addArc 64 = .ok (.aload_n 0, 1) := by decide +kernel
theorem dX6_addArc_65 : decode cX6_addArc 65 = .ok (.dup, 1) := by decide +kernel
theorem dX6_addArc_66 : decode cX6_addArc 66 = .ok (.getfield 32, 3) := by decide +kernel
theorem dX6_addArc_69 : decode cX6_addArc 69 = .ok (.iconst 1, 1) := by decide +kernel
theorem dX6_addArc_70 : decode cX6_addArc 70 = .ok (.iadd, 1) := by decide +kernel
theorem dX6_addArc_71 : decode cX6_addArc 71 = .ok (.putfield 32, 3) := by decide +kernel
theorem dX6_addArc_74 : decode cX6_addArc 74 = .ok (.return_, 1) := by decide +kernel
def wX6_addArc (f : Nat) (Φ : aj_M → Prop) (q0 : List Nat) (v1 : Int) (v2 : Int) (v3 : Int) (v4 : Int) (m : aj_M) : Prop := rI (m q0 4) ∧ ((m q0 4) < 12 → (0 ≤ (m q0 4) ∧ (m q0 4) < 12) ∧ ∀ m1, m1 = aj_u m (7 :: q0) (m q0 4).toNat v1 → (0 ≤ (m1 q0 4) ∧ (m1 q0 4) < 12) ∧ ∀ m2, m2 = aj_u m1 (8 :: q0) (m1 q0 4).toNat v2 → (0 ≤ (m2 q0 4) ∧ (m2 q0 4) < 12) ∧ ∀ m3, m3 = aj_u m2 (9 :: q0) (m2 q0 4).toNat v3 → rI v4 ∧ (v4 = 0 → ∀ m4, m4 = aj_u m3 q0 6 (aj_or (m3 q0 6) 0) → ∀ m5, m5 = aj_u m4 q0 4 ((m4 q0 4) + 1) → Φ m5) ∧ (¬ (v4 = 0) → ∀ m6, m6 = aj_u m3 q0 6 (aj_or (m3 q0 6) (aj_shl 1 (m3 q0 4))) → ∀ m7, m7 = aj_u m6 q0 4 ((m6 q0 4) + 1) → Φ m7)) ∧ (¬ ((m q0 4) < 12) → Φ m)
set_option maxHeartbeats 4000000 in
set_option maxRecDepth 100000 in
theorem sX6_addArc {n f : Nat} {Φ : aj_M → Prop} {q0 : List Nat} {v1 : Int} {v2 : Int} {v3 : Int} {v4 : Int} {m : aj_M} (hq0 : (.inl (6, q0) : aj_R) ∈ aj_pls) (h : wX6_addArc f Φ q0 v1 v2 v3 v4 m) : aj_Ct n yX6_addArc cX6_addArc 5 none [vO 6 q0, vI v1, vI v2, vI v3, vI v4] m (fun r m => r = none ∧ Φ m) := by
  refine aj_met (lv := [some (vO 6 q0), some (vI v1), some (vI v2), some (vI v3), some (vI v4)]) (by decide +kernel) rfl (Nat.le_of_ble_eq_true rfl) (fun X C K => ?_)
  unfold wX6_addArc at h
  refine aj_aload_n C dX6_addArc_0 rfl ?_
  refine aj_getI C flX6_32 hq0 (by decide) dX6_addArc_1 rfl ?_
  refine aj_bipush C dX6_addArc_4 (by decide) ?_
  obtain ⟨r0, h1, h2⟩ := h
  refine aj_icmp_lt (tgt := 10) C dX6_addArc_6 (by decide) r0 (by decide) (fun e => ?_) (fun e => ?_)
  · have h := h1 e
    refine aj_aload_n C dX6_addArc_10 rfl ?_
    refine aj_getA (x := 0) (y := 12) C flX6_41 hq0 rfl dX6_addArc_11 ?_
    refine aj_aload_n C dX6_addArc_14 rfl ?_
    refine aj_getI C flX6_32 hq0 (by decide) dX6_addArc_15 rfl ?_
    refine aj_iload_n C dX6_addArc_18 rfl ?_
    obtain ⟨r0, h⟩ := h
    refine aj_iast C (aj_ca (e := 0) (n := 12) (j := 7) hq0 (by decide) rfl) (by decide) r0 dX6_addArc_19 ?_
    refine aj_nm (fun m1 e1 => ?_)
    have h := h m1 e1
    refine aj_aload_n C dX6_addArc_20 rfl ?_
    refine aj_getA (x := 0) (y := 12) C flX6_45 hq0 rfl dX6_addArc_21 ?_
    refine aj_aload_n C dX6_addArc_24 rfl ?_
    refine aj_getI C flX6_32 hq0 (by decide) dX6_addArc_25 rfl ?_
    refine aj_iload_n C dX6_addArc_28 rfl ?_
    obtain ⟨r0, h⟩ := h
    refine aj_iast C (aj_ca (e := 0) (n := 12) (j := 8) hq0 (by decide) rfl) (by decide) r0 dX6_addArc_29 ?_
    refine aj_nm (fun m2 e1 => ?_)
    have h := h m2 e1
    refine aj_aload_n C dX6_addArc_30 rfl ?_
    refine aj_getA (x := 0) (y := 12) C flX6_48 hq0 rfl dX6_addArc_31 ?_
    refine aj_aload_n C dX6_addArc_34 rfl ?_
    refine aj_getI C flX6_32 hq0 (by decide) dX6_addArc_35 rfl ?_
    refine aj_iload_n C dX6_addArc_38 rfl ?_
    obtain ⟨r0, h⟩ := h
    refine aj_iast C (aj_ca (e := 0) (n := 12) (j := 9) hq0 (by decide) rfl) (by decide) r0 dX6_addArc_39 ?_
    refine aj_nm (fun m3 e1 => ?_)
    have h := h m3 e1
    refine aj_aload_n C dX6_addArc_40 rfl ?_
    refine aj_dup C aj_nR dX6_addArc_41 ?_
    refine aj_getI C flX6_38 hq0 (by decide) dX6_addArc_42 rfl ?_
    refine aj_iload C dX6_addArc_45 rfl ?_
    obtain ⟨r0, h1, h2⟩ := h
    refine aj_if_eq (tgt := 59) C dX6_addArc_47 (by decide) r0 (fun e => ?_) (fun e => ?_)
    · have h := h1 e
      refine aj_iconst C dX6_addArc_59 ?_
      refine aj_ior C dX6_addArc_60 ?_
      refine aj_putI C fpX6_38 hq0 rfl dX6_addArc_61 ?_
      refine aj_nm (fun m4 e1 => ?_)
      have h := h m4 e1
      refine aj_aload_n C dX6_addArc_64 rfl ?_
      refine aj_dup C aj_nR dX6_addArc_65 ?_
      refine aj_getI C flX6_32 hq0 (by decide) dX6_addArc_66 rfl ?_
      refine aj_iconst C dX6_addArc_69 ?_
      refine aj_iadd C dX6_addArc_70 ?_
      refine aj_putI C fpX6_32 hq0 rfl dX6_addArc_71 ?_
      refine aj_nm (fun m5 e1 => ?_)
      have h := h m5 e1
      exact aj_vret C K dX6_addArc_74 ⟨rfl, h⟩
    · have h := h2 e
      refine aj_iconst C dX6_addArc_50 ?_
      refine aj_aload_n C dX6_addArc_51 rfl ?_
      refine aj_getI C flX6_32 hq0 (by decide) dX6_addArc_52 rfl ?_
      refine aj_ishl C dX6_addArc_55 ?_
      refine aj_goto (tgt := 60) C dX6_addArc_56 (by decide) ?_
      refine aj_ior C dX6_addArc_60 ?_
      refine aj_putI C fpX6_38 hq0 rfl dX6_addArc_61 ?_
      refine aj_nm (fun m6 e1 => ?_)
      have h := h m6 e1
      refine aj_aload_n C dX6_addArc_64 rfl ?_
      refine aj_dup C aj_nR dX6_addArc_65 ?_
      refine aj_getI C flX6_32 hq0 (by decide) dX6_addArc_66 rfl ?_
      refine aj_iconst C dX6_addArc_69 ?_
      refine aj_iadd C dX6_addArc_70 ?_
      refine aj_putI C fpX6_32 hq0 rfl dX6_addArc_71 ?_
      refine aj_nm (fun m7 e1 => ?_)
      have h := h m7 e1
      exact aj_vret C K dX6_addArc_74 ⟨rfl, h⟩
  · have h := h2 e
    exact aj_vret C K dX6_addArc_9 ⟨rfl, h⟩
