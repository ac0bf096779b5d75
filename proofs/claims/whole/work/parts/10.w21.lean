theorem dX12_degreeOf_0 : decode cX12_degreeOf 0 = .ok (.iconst 0, 1) := by decide +kernel
theorem dX12_degreeOf_1 : decode cX12_degreeOf 1 = .ok (.istore_n 2, 1) := by decide +kernel
theorem dX12_degreeOf_2 : decode cX12_degreeOf 2 = .ok (.iconst 0, 1) := by decide +kernel
theorem dX12_degreeOf_3 : decode cX12_degreeOf 3 = .ok (.istore_n 3, 1) := by decide +kernel
theorem dX12_degreeOf_4 : decode cX12_degreeOf 4 = .ok (.iload_n 3, 1) := by decide +kernel
theorem dX12_degreeOf_5 : decode cX12_degreeOf 5 = .ok (.aload_n 0, 1) := by decide +kernel
theorem dX12_degreeOf_6 : decode cX12_degreeOf 6 = .ok (.getfield 265, 3) := by decide +kernel
theorem dX12_degreeOf_9 : decode cX12_degreeOf 9 = .ok (.if_icmp .ge 43, 3) := by decide +kernel
theorem dX12_degreeOf_12 : decode cX12_degreeOf 12 = .ok (.iload_n 2, 1) := by decide +kernel
theorem dX12_degreeOf_13 : decode cX12_degreeOf 13 = .ok (.aload_n 0, 1) := by decide +kernel
theorem dX12_degreeOf_14 : decode cX12_degreeOf 14 = .ok (.getfield 36, 3) := by decide +kernel
theorem dX12_degreeOf_17 : decode cX12_degreeOf 17 = .ok (.iload_n 3, 1) := by decide +kernel
theorem dX12_degreeOf_18 : decode cX12_degreeOf 18 = .ok (.iaload, 1) := by decide +kernel
theorem dX12_degreeOf_19 : decode cX12_degreeOf 19 = .ok (.iload_n 1, 1) := by decide +kernel
theorem dX12_degreeOf_20 : decode cX12_degreeOf 20 = .ok (.if_icmp .ne 7, 3) := by decide +kernel
theorem dX12_degreeOf_23 : decode cX12_degreeOf 23 = .ok (.iconst 1, 1) := by decide +kernel
theorem dX12_degreeOf_24 : decode cX12_degreeOf 24 = .ok (.goto 4, 3) := by decide +kernel
theorem dX12_degreeOf_27 : decode cX12_degreeOf 27 = .ok (.iconst 0, 1) := by decide +kernel
theorem dX12_degreeOf_28 : decode cX12_degreeOf 28 = .ok (.aload_n 0, 1) := by decide +kernel
theorem dX12_degreeOf_29 : decode cX12_degreeOf 29 = .ok (.getfield 39, 3) := by decide +kernel
theorem dX12_degreeOf_32 : decode cX12_degreeOf 32 = .ok (.iload_n 3, 1) := by decide +kernel
theorem dX12_degreeOf_33 : decode cX12_degreeOf 33 = .ok (.iaload, 1) := by decide +kernel
theorem dX12_degreeOf_34 : decode cX12_degreeOf 34 = .ok (.iload_n 1, 1) := by decide +kernel
theorem dX12_degreeOf_35 : decode cX12_degreeOf 35 = .ok (.if_icmp .ne 7, 3) := by decide +kernel
theorem dX12_degreeOf_38 : decode cX12_degreeOf 38 = .ok (.iconst 1, 1) := by decide +kernel
theorem dX12_degreeOf_39 : decode cX12_degreeOf 39 = .ok (.goto 4, 3) := by decide +kernel
theorem dX12_degreeOf_42 : decode cX12_degreeOf 42 = .ok (.iconst 0, 1) := by decide +kernel
theorem dX12_degreeOf_43 : decode cX12_degreeOf 43 = .ok (.iadd, 1) := by decide +kernel
theorem dX12_degreeOf_44 : decode cX12_degreeOf 44 = .ok (.iadd, 1) := by decide +kernel
theorem dX12_degreeOf_45 : decode cX12_degreeOf 45 = .ok (.istore_n 2, 1) := by decide +kernel
theorem dX12_degreeOf_46 : decode cX12_degreeOf 46 = .ok (.iinc 3 1, 3) := by decide +kernel
theorem dX12_degreeOf_49 : decode cX12_degreeOf 49 = .ok (.goto (-45), 3) := by decide +kernel
theorem dX12_degreeOf_52 : decode cX12_degreeOf 52 = .ok (.iload_n 2, 1) := by decide +kernel
theorem dX12_degreeOf_53 : decode cX12_degreeOf 53 = .ok (.ireturn, 1) := by decide +kernel
def hX12_degreeOf_28 (f : Nat) (Φ : Int → aj_M → Prop) (K4 : List Nat → Int → Int → Int → aj_M → Prop) (q0 : List Nat) (v1 : Int) (v3 : Int) (vs0 : Int) (vs1 : Int) (m : aj_M) : Prop := (0 ≤ v3 ∧ v3 < 144) ∧ rI (m (19 :: q0) v3.toNat) ∧ rI v1 ∧ (¬ (m (19 :: q0) v3.toNat) = v1 → K4 q0 v1 (vs0 + (vs1 + 0)) (v3 + 1) m) ∧ ((m (19 :: q0) v3.toNat) = v1 → K4 q0 v1 (vs0 + (vs1 + 1)) (v3 + 1) m)
set_option maxHeartbeats 4000000 in
set_option maxRecDepth 100000 in
theorem tX12_degreeOf_28 {X : aj_T} {n f : Nat} {Φ : Int → aj_M → Prop} (C : aj_Cx X cX12_degreeOf RX12 4 n) (K : aj_Rt X (some .int) (fun r m => ∃ z, r = some (vI z) ∧ Φ z m)) {K4 : List Nat → Int → Int → Int → aj_M → Prop} (HK4 : ∀ (q0 : List Nat) (v1 : Int) (v2 : Int) (v3 : Int) (m : aj_M) (hq0 : (.inl (12, q0) : aj_R) ∈ aj_pls), K4 q0 v1 v2 v3 m → aj_J X 4 [some (vO 12 q0), some (vI v1), some (vI v2), some (vI v3)] [] m) (q0 : List Nat) (v1 : Int) (v3 : Int) (vs0 : Int) (vs1 : Int) (m : aj_M) (hq0 : (.inl (12, q0) : aj_R) ∈ aj_pls) (h : hX12_degreeOf_28 f Φ K4 q0 v1 v3 vs0 vs1 m) : aj_J X 28 [some (vO 12 q0), some (vI v1), none, some (vI v3)] [vI vs1, vI vs0] m := by
  unfold hX12_degreeOf_28 at h
  refine aj_aload_n C dX12_degreeOf_28 rfl ?_
  refine aj_getA (x := 0) (y := 144) C flX12_39 hq0 rfl dX12_degreeOf_29 ?_
  refine aj_iload_n C dX12_degreeOf_32 rfl ?_
  obtain ⟨r0, h⟩ := h
  refine aj_iald C (aj_ca (e := 0) (n := 144) (j := 19) hq0 (by decide) rfl) (by decide) r0 dX12_degreeOf_33 rfl ?_
  refine aj_iload_n C dX12_degreeOf_34 rfl ?_
  obtain ⟨r0, r1, h1, h2⟩ := h
  refine aj_icmp_ne (tgt := 42) C dX12_degreeOf_35 (by decide) r0 r1 (fun e => ?_) (fun e => ?_)
  · have h := h1 e
    refine aj_iconst C dX12_degreeOf_42 ?_
    refine aj_iadd C dX12_degreeOf_43 ?_
    refine aj_iadd C dX12_degreeOf_44 ?_
    refine aj_istore_n (lv' := [some (vO 12 q0), some (vI v1), some (vI (vs0 + (vs1 + 0))), some (vI v3)]) C dX12_degreeOf_45 (by decide) rfl ?_
    refine aj_iinc (lv' := [some (vO 12 q0), some (vI v1), some (vI (vs0 + (vs1 + 0))), some (vI (v3 + 1))]) C dX12_degreeOf_46 rfl (by decide) rfl ?_
    refine aj_goto (tgt := 4) C dX12_degreeOf_49 (by decide) ?_
    exact HK4 q0 v1 (vs0 + (vs1 + 0)) (v3 + 1) _ hq0 h
  · have h := h2 e
    refine aj_iconst C dX12_degreeOf_38 ?_
    refine aj_goto (tgt := 43) C dX12_degreeOf_39 (by decide) ?_
    refine aj_iadd C dX12_degreeOf_43 ?_
    refine aj_iadd C dX12_degreeOf_44 ?_
    refine aj_istore_n (lv' := [some (vO 12 q0), some (vI v1), some (vI (vs0 + (vs1 + 1))), some (vI v3)]) C dX12_degreeOf_45 (by decide) rfl ?_
    refine aj_iinc (lv' := [some (vO 12 q0), some (vI v1), some (vI (vs0 + (vs1 + 1))), some (vI (v3 + 1))]) C dX12_degreeOf_46 rfl (by decide) rfl ?_
    refine aj_goto (tgt := 4) C dX12_degreeOf_49 (by decide) ?_
    exact HK4 q0 v1 (vs0 + (vs1 + 1)) (v3 + 1) _ hq0 h
def hX12_degreeOf_4 (f : Nat) (Φ : Int → aj_M → Prop) : Nat → List Nat → Int → Int → Int → aj_M → Prop
  | 0, _, _, _, _, _ => False
  | k + 1, q0, v1, v2, v3, m => rI v3 ∧ rI (m q0 22) ∧ ((m q0 22) ≤ v3 → Φ v2 m) ∧ (¬ ((m q0 22) ≤ v3) → (0 ≤ v3 ∧ v3 < 144) ∧ rI (m (18 :: q0) v3.toNat) ∧ rI v1 ∧ (¬ (m (18 :: q0) v3.toNat) = v1 → hX12_degreeOf_28 f Φ (fun q0 v1 v2 v3 m => hX12_degreeOf_4 f Φ k q0 v1 v2 v3 m) q0 v1 v3 v2 0 m) ∧ ((m (18 :: q0) v3.toNat) = v1 → hX12_degreeOf_28 f Φ (fun q0 v1 v2 v3 m => hX12_degreeOf_4 f Φ k q0 v1 v2 v3 m) q0 v1 v3 v2 1 m))
set_option maxHeartbeats 4000000 in
set_option maxRecDepth 100000 in
theorem tX12_degreeOf_4 {X : aj_T} {n f : Nat} {Φ : Int → aj_M → Prop} (C : aj_Cx X cX12_degreeOf RX12 4 n) (K : aj_Rt X (some .int) (fun r m => ∃ z, r = some (vI z) ∧ Φ z m)) : ∀ (k : Nat) (q0 : List Nat) (v1 : Int) (v2 : Int) (v3 : Int) (m : aj_M) (hq0 : (.inl (12, q0) : aj_R) ∈ aj_pls), hX12_degreeOf_4 f Φ k q0 v1 v2 v3 m → aj_J X 4 [some (vO 12 q0), some (vI v1), some (vI v2), some (vI v3)] [] m := by
  intro k
  induction k with
  | zero =>
    intro q0 v1 v2 v3 m _ h
    exact h.elim
  | succ k ih =>
    intro q0 v1 v2 v3 m hq0 h
    unfold hX12_degreeOf_4 at h
    refine aj_iload_n C dX12_degreeOf_4 rfl ?_
    refine aj_aload_n C dX12_degreeOf_5 rfl ?_
    refine aj_getI C flX12_265 hq0 (by decide) dX12_degreeOf_6 rfl ?_
    obtain ⟨r0, r1, h1, h2⟩ := h
    refine aj_icmp_ge (tgt := 52) C dX12_degreeOf_9 (by decide) r0 r1 (fun e => ?_) (fun e => ?_)
    · have h := h1 e
      refine aj_iload_n C dX12_degreeOf_52 rfl ?_
      exact aj_iret C K dX12_degreeOf_53 ⟨_, rfl, h⟩
    · have h := h2 e
      refine aj_iload_n C dX12_degreeOf_12 rfl ?_
      refine aj_aload_n C dX12_degreeOf_13 rfl ?_
      refine aj_getA (x := 0) (y := 144) C flX12_36 hq0 rfl dX12_degreeOf_14 ?_
      refine aj_iload_n C dX12_degreeOf_17 rfl ?_
      obtain ⟨r0, h⟩ := h
      refine aj_iald C (aj_ca (e := 0) (n := 144) (j := 18) hq0 (by decide) rfl) (by decide) r0 dX12_degreeOf_18 rfl ?_
      refine aj_iload_n C dX12_degreeOf_19 rfl ?_
      obtain ⟨r0, r1, h1, h2⟩ := h
      refine aj_icmp_ne (tgt := 27) C dX12_degreeOf_20 (by decide) r0 r1 (fun e => ?_) (fun e => ?_)
      · have h := h1 e
        refine aj_iconst C dX12_degreeOf_27 ?_
        refine aj_wk (lv' := [some (vO 12 q0), some (vI v1), none, some (vI v3)]) (⟨rfl, ⟨rfl, ⟨rfl, trivial⟩⟩⟩) ?_
        exact tX12_degreeOf_28 C K (fun q0 v1 v2 v3 m hq0 hh => ih q0 v1 v2 v3 m hq0 hh) q0 v1 v3 v2 0 _ hq0 h
      · have h := h2 e
        refine aj_iconst C dX12_degreeOf_23 ?_
        refine aj_goto (tgt := 28) C dX12_degreeOf_24 (by decide) ?_
        refine aj_wk (lv' := [some (vO 12 q0), some (vI v1), none, some (vI v3)]) (⟨rfl, ⟨rfl, ⟨rfl, trivial⟩⟩⟩) ?_
        exact tX12_degreeOf_28 C K (fun q0 v1 v2 v3 m hq0 hh => ih q0 v1 v2 v3 m hq0 hh) q0 v1 v3 v2 1 _ hq0 h
def wX12_degreeOf (f : Nat) (Φ : Int → aj_M → Prop) (q0 : List Nat) (v1 : Int) (m : aj_M) : Prop := hX12_degreeOf_4 f Φ f q0 v1 0 0 m
set_option maxHeartbeats 4000000 in
set_option maxRecDepth 100000 in
theorem sX12_degreeOf {n f : Nat} {Φ : Int → aj_M → Prop} {q0 : List Nat} {v1 : Int} {m : aj_M} (hq0 : (.inl (12, q0) : aj_R) ∈ aj_pls) (h : wX12_degreeOf f Φ q0 v1 m) : aj_Ct n yX12_degreeOf cX12_degreeOf 4 (some .int) [vO 12 q0, vI v1] m (fun r m => ∃ z, r = some (vI z) ∧ Φ z m) := by
  refine aj_met (lv := [some (vO 12 q0), some (vI v1), none, none]) (by decide +kernel) rfl (Nat.le_of_ble_eq_true rfl) (fun X C K => ?_)
  unfold wX12_degreeOf at h
  refine aj_iconst C dX12_degreeOf_0 ?_
  refine aj_istore_n (lv' := [some (vO 12 q0), some (vI v1), some (vI 0), none]) C dX12_degreeOf_1 (by decide) rfl ?_
  refine aj_iconst C dX12_degreeOf_2 ?_
  refine aj_istore_n (lv' := [some (vO 12 q0), some (vI v1), some (vI 0), some (vI 0)]) C dX12_degreeOf_3 (by decide) rfl ?_
  exact tX12_degreeOf_4 C K f q0 v1 0 0 _ hq0 h
theorem dX12_laysFar_0 : decode cX12_laysFar 0 = .ok (.iconst 0, 1) := by decide +kernel
theorem dX12_laysFar_1 : decode cX12_laysFar 1 = .ok (.istore_n 2, 1) := by decide +kernel
theorem dX12_laysFar_2 : decode cX12_laysFar 2 = .ok (.iload_n 2, 1) := by decide +kernel
theorem dX12_laysFar_3 : decode cX12_laysFar 3 = .ok (.aload_n 0, 1) := by decide +kernel
theorem dX12_laysFar_4 : decode cX12_laysFar 4 = .ok (.getfield 271, 3) := by decide +kernel
theorem dX12_laysFar_7 : decode cX12_laysFar 7 = .ok (.if_icmp .ge 18, 3) := by decide +kernel
theorem dX12_laysFar_10 : decode cX12_laysFar 10 = .ok (.aload_n 0, 1) := by decide +kernel
theorem dX12_laysFar_11 : decode cX12_laysFar 11 = .ok (.getfield 48, 3) := by decide +kernel
theorem dX12_laysFar_14 : decode cX12_laysFar 14 = .ok (.iload_n 2, 1) := by decide +kernel
theorem dX12_laysFar_15 : decode cX12_laysFar 15 = .ok (.ldc_w 281, 3) := by decide +kernel
theorem dX12_laysFar_18 : decode cX12_laysFar 18 = .ok (.iastore, 1) := by decide +kernel
theorem dX12_laysFar_19 : decode cX12_laysFar 19 = .ok (.iinc 2 1, 3) := by decide +kernel
theorem dX12_laysFar_22 : decode cX12_laysFar 22 = .ok (.goto (-20), 3) := by decide +kernel
theorem dX12_laysFar_25 : decode cX12_laysFar 25 = .ok (.aload_n 0, 1) := by decide +kernel
theorem dX12_laysFar_26 : decode cX12_laysFar 26 = .ok (.getfield 48, 3) := by decide +kernel
theorem dX12_laysFar_29 : decode cX12_laysFar 29 = .ok (.iload_n 1, 1) := by decide +kernel
theorem dX12_laysFar_30 : decode cX12_laysFar 30 = .ok (.iconst 0, 1) := by decide +kernel
theorem dX12_laysFar_31 : decode cX12_laysFar 31 = .ok (.iastore, 1) := by decide +kernel
theorem dX12_laysFar_32 : decode cX12_laysFar 32 = .ok (.aload_n 0, 1) := by decide +kernel
theorem dX12_laysFar_33 : decode cX12_laysFar 33 = .ok (.getfield 51, 3) := by decide +kernel
theorem dX12_laysFar_36 : decode cX12_laysFar 36 = .ok (.iload_n 1, 1) := by decide +kernel
theorem dX12_laysFar_37 : decode cX12_laysFar 37 = .ok (.iconst (-1), 1) := by decide +kernel
theorem dX12_laysFar_38 : decode cX12_laysFar 38 = .ok (.iastore, 1) := by decide +kernel
theorem dX12_laysFar_39 : decode cX12_laysFar 39 = .ok (.aload_n 0, 1) := by decide +kernel
theorem dX12_laysFar_40 : decode cX12_laysFar 40 = .ok (.getfield 54, 3) := by decide +kernel
theorem dX12_laysFar_43 : decode cX12_laysFar 43 = .ok (.iconst 0, 1) := by decide +kernel
theorem dX12_laysFar_44 : decode cX12_laysFar 44 = .ok (.iload_n 1, 1) := by decide +kernel
theorem dX12_laysFar_45 : decode cX12_laysFar 45 = .ok (.iastore, 1) := by decide +kernel
theorem dX12_laysFar_46 : decode cX12_laysFar 46 = .ok (.iconst 1, 1) := by decide +kernel
theorem dX12_laysFar_47 : decode cX12_laysFar 47 = .ok (.istore_n 2, 1) := by decide +kernel
theorem dX12_laysFar_48 : decode cX12_laysFar 48 = .ok (.iconst 0, 1) := by decide +kernel
theorem dX12_laysFar_49 : decode cX12_laysFar 49 = .ok (.istore_n 3, 1) := by decide +kernel
theorem dX12_laysFar_50 : decode cX12_laysFar 50 = .ok (.iload_n 3, 1) := by decide +kernel
theorem dX12_laysFar_51 : decode cX12_laysFar 51 = .ok (.iload_n 2, 1) := by decide +kernel
theorem dX12_laysFar_52 : decode cX12_laysFar 52 = .ok (.if_icmp .ge 121, 3) := by decide +kernel
theorem dX12_laysFar_55 : decode cX12_laysFar 55 = .ok (.iconst 0, 1) := by decide +kernel
theorem dX12_laysFar_56 : decode cX12_laysFar 56 = .ok (.istore 4, 2) := by decide +kernel
theorem dX12_laysFar_58 : decode cX12_laysFar 58 = .ok (.iload 4, 2) := by decide +kernel
theorem dX12_laysFar_60 : decode cX12_laysFar 60 = .ok (.aload_n 0, 1) := by decide +kernel
theorem dX12_laysFar_61 : decode cX12_laysFar 61 = .ok (.getfield 265, 3) := by decide +kernel
theorem dX12_laysFar_64 : decode cX12_laysFar 64 = .ok (.if_icmp .ge 103, 3) := by decide +kernel
theorem dX12_laysFar_67 : decode cX12_laysFar 67 = .ok (.aload_n 0, 1) := by decide +kernel
theorem dX12_laysFar_68 : decode cX12_laysFar 68 = .ok (.iload 4, 2) := by decide +kernel
theorem dX12_laysFar_70 : decode cX12_laysFar 70 = .ok (.aload_n 0, 1) := by decide +kernel
theorem dX12_laysFar_71 : decode cX12_laysFar 71 = .ok (.getfield 54, 3) := by decide +kernel
theorem dX12_laysFar_74 : decode cX12_laysFar 74 = .ok (.iload_n 3, 1) := by decide +kernel
theorem dX12_laysFar_75 : decode cX12_laysFar 75 = .ok (.iaload, 1) := by decide +kernel
theorem dX12_laysFar_76 : decode cX12_laysFar 76 = .ok (.invokevirtual 282, 3) := by decide +kernel
theorem dX12_laysFar_79 : decode cX12_laysFar 79 = .ok (.istore 5, 2) := by decide +kernel
theorem dX12_laysFar_81 : decode cX12_laysFar 81 = .ok (.iload 5, 2) := by decide +kernel
theorem dX12_laysFar_83 : decode cX12_laysFar 83 = .ok (.iconst (-1), 1) := by decide +kernel
theorem dX12_laysFar_84 : decode cX12_laysFar 84 = .ok (.if_icmp .eq 77, 3) := by decide +kernel
theorem dX12_laysFar_87 : decode cX12_laysFar 87 = .ok (.aload_n 0, 1) := by decide +kernel
theorem dX12_laysFar_88 : decode cX12_laysFar 88 = .ok (.getfield 48, 3) := by decide +kernel
theorem dX12_laysFar_91 : decode cX12_laysFar 91 = .ok (.iload 5, 2) := by decide +kernel
theorem dX12_laysFar_93 : decode cX12_laysFar 93 = .ok (.iaload, 1) := by decide +kernel
theorem dX12_laysFar_94 : decode cX12_laysFar 94 = .ok (.ldc_w 281, 3) := by decide +kernel
theorem dX12_laysFar_97 : decode cX12_laysFar 97 = .ok (.if_icmp .eq 6, 3) := by decide +kernel
theorem dX12_laysFar_100 : decode cX12_laysFar 100 = .ok (.goto 61, 3) := by decide +kernel
theorem dX12_laysFar_103 : decode cX12_laysFar 103 = .ok (.aload_n 0, 1) := by decide +kernel
theorem dX12_laysFar_104 : decode cX12_laysFar 104 = .ok (.getfield 48, 3) := by decide +kernel
theorem dX12_laysFar_107 : decode cX12_laysFar 107 = .ok (.iload 5, 2) := by decide +kernel
theorem dX12_laysFar_109 : decode cX12_laysFar 109 = .ok (.aload_n 0, 1) := by decide +kernel
theorem dX12_laysFar_110 : decode cX12_laysFar 110 = .ok (.getfield 48, 3) := by decide +kernel
theorem dX12_laysFar_113 : decode cX12_laysFar 113 = .ok (.aload_n 0, 1) := by decide +kernel
theorem dX12_laysFar_114 : decode cX12_laysFar 114 = .ok (.getfield 54, 3) := by decide +kernel
theorem dX12_laysFar_117 : decode cX12_laysFar 117 = .ok (.iload_n 3, 1) := by decide +kernel
theorem dX12_laysFar_118 : decode cX12_laysFar 118 = .ok (.iaload, 1) := by decide +kernel
theorem dX12_laysFar_119 : decode cX12_laysFar 119 = .ok (.iaload, 1) := by decide +kernel
theorem dX12_laysFar_120 : decode cX12_laysFar 120 = .ok (.iconst 1, 1) := by decide +kernel
theorem dX12_laysFar_121 : decode cX12_laysFar 121 = .ok (.iadd, 1) := by decide +kernel
theorem dX12_laysFar_122 : decode cX12_laysFar 122 = .ok (.iastore, 1) := by decide +kernel
theorem dX12_laysFar_123 : decode cX12_laysFar 123 = .ok (.aload_n 0, 1) := by decide +kernel
theorem dX12_laysFar_124 : decode cX12_laysFar 124 = .ok (.getfield 51, 3) := by decide +kernel
theorem dX12_laysFar_127 : decode cX12_laysFar 127 = .ok (.iload 5, 2) := by decide +kernel
theorem dX12_laysFar_129 : decode cX12_laysFar 129 = .ok (.iload_n 3, 1) := by decide +kernel
theorem dX12_laysFar_130 : decode cX12_laysFar 130 = .ok (.ifCond .ne 8, 3) := by decide +kernel
theorem dX12_laysFar_133 : decode cX12_laysFar 133 = .ok (.iload 4, 2) := by decide +kernel
theorem dX12_laysFar_135 : decode cX12_laysFar 135 = .ok (.goto 14, 3) := by decide +kernel
theorem dX12_laysFar_138 : decode cX12_laysFar 138 = .ok (.aload_n 0, 1) := by decide +kernel
theorem dX12_laysFar_139 : decode cX12_laysFar 139 = .ok (.getfield 51, 3) := by decide +kernel
theorem dX12_laysFar_142 : decode cX12_laysFar 142 = .ok (.aload_n 0, 1) := by decide +kernel
theorem dX12_laysFar_143 : decode cX12_laysFar 143 = .ok (.getfield 54, 3) := by decide +kernel
theorem dX12_laysFar_146 : decode cX12_laysFar 146 = .ok (.iload_n 3, 1) := by decide +kernel
theorem dX12_laysFar_147 : decode cX12_laysFar 147 = .ok (.iaload, 1) := by decide +kernel
theorem dX12_laysFar_148 : decode cX12_laysFar 148 = .ok (.iaload, 1) := by decide +kernel
theorem dX12_laysFar_149 : decode cX12_laysFar 149 = .ok (.iastore, 1) := by decide +kernel
theorem dX12_laysFar_150 : decode cX12_laysFar 150 = .ok (.aload_n 0, 1) := by decide +kernel
theorem dX12_laysFar_151 : decode cX12_laysFar 151 = .ok (.getfield 54, 3) := by decide +kernel
theorem dX12_laysFar_154 : decode cX12_laysFar 154 = .ok (.iload_n 2, 1) := by decide +kernel
theorem dX12_laysFar_155 : decode cX12_laysFar 155 = .ok (.iload 5, 2) := by decide +kernel
theorem dX12_laysFar_157 : decode cX12_laysFar 157 = .ok (.iastore, 1) := by decide +kernel
theorem dX12_laysFar_158 : decode cX12_laysFar 158 = .ok (.iinc 2 1, 3) := by decide +kernel
theorem dX12_laysFar_161 : decode cX12_laysFar 161 = .ok (.iinc 4 1, 3) := by decide +kernel
theorem dX12_laysFar_164 : decode cX12_laysFar 164 = .ok (.goto (-106), 3) := by decide +kernel
theorem dX12_laysFar_167 : decode cX12_laysFar 167 = .ok (.iinc 3 1, 3) := by decide +kernel
theorem dX12_laysFar_170 : decode cX12_laysFar 170 = .ok (.goto (-120), 3) := by decide +kernel
theorem dX12_laysFar_173 : decode cX12_laysFar 173 = .ok (.iload_n 2, 1) := by decide +kernel
theorem dX12_laysFar_174 : decode cX12_laysFar 174 = .ok (.ireturn, 1) := by decide +kernel
def hX12_laysFar_58 (f : Nat) (Φ : Int → aj_M → Prop) (K50 : List Nat → Int → Int → aj_M → Prop) : Nat → List Nat → Int → Int → Int → aj_M → Prop
  | 0, _, _, _, _, _ => False
  | k + 1, q0, v2, v3, v4, m => rI v4 ∧ rI (m q0 22) ∧ ((m q0 22) ≤ v4 → K50 q0 v2 (v3 + 1) m) ∧ (¬ ((m q0 22) ≤ v4) → (0 ≤ v3 ∧ v3 < 60) ∧ wX12_overFrom f (fun z1 m1 => rI z1 ∧ (z1 = (-1) → hX12_laysFar_58 f Φ K50 k q0 v2 v3 (v4 + 1) m1) ∧ (¬ (z1 = (-1)) → (0 ≤ z1 ∧ z1 < 60) ∧ rI (m1 (24 :: q0) z1.toNat) ∧ ((m1 (24 :: q0) z1.toNat) = 268435456 → (0 ≤ v3 ∧ v3 < 60) ∧ (0 ≤ (m1 (26 :: q0) v3.toNat) ∧ (m1 (26 :: q0) v3.toNat) < 60) ∧ (0 ≤ z1 ∧ z1 < 60) ∧ ∀ m2, m2 = aj_u m1 (24 :: q0) z1.toNat ((m1 (24 :: q0) (m1 (26 :: q0) v3.toNat).toNat) + 1) → rI v3 ∧ (¬ v3 = 0 → (0 ≤ v3 ∧ v3 < 60) ∧ (0 ≤ (m2 (26 :: q0) v3.toNat) ∧ (m2 (26 :: q0) v3.toNat) < 60) ∧ (0 ≤ z1 ∧ z1 < 60) ∧ ∀ m3, m3 = aj_u m2 (25 :: q0) z1.toNat (m2 (25 :: q0) (m2 (26 :: q0) v3.toNat).toNat) → (0 ≤ v2 ∧ v2 < 60) ∧ ∀ m4, m4 = aj_u m3 (26 :: q0) v2.toNat z1 → hX12_laysFar_58 f Φ K50 k q0 (v2 + 1) v3 (v4 + 1) m4) ∧ (v3 = 0 → (0 ≤ z1 ∧ z1 < 60) ∧ ∀ m5, m5 = aj_u m2 (25 :: q0) z1.toNat v4 → (0 ≤ v2 ∧ v2 < 60) ∧ ∀ m6, m6 = aj_u m5 (26 :: q0) v2.toNat z1 → hX12_laysFar_58 f Φ K50 k q0 (v2 + 1) v3 (v4 + 1) m6)) ∧ (¬ ((m1 (24 :: q0) z1.toNat) = 268435456) → hX12_laysFar_58 f Φ K50 k q0 v2 v3 (v4 + 1) m1))) q0 v4 (m (26 :: q0) v3.toNat) m)
set_option maxHeartbeats 4000000 in
set_option maxRecDepth 100000 in
theorem tX12_laysFar_58 {X : aj_T} {n f : Nat} {Φ : Int → aj_M → Prop} (C : aj_Cx X cX12_laysFar RX12 6 (n + 1)) (K : aj_Rt X (some .int) (fun r m => ∃ z, r = some (vI z) ∧ Φ z m)) {K50 : List Nat → Int → Int → aj_M → Prop} (HK50 : ∀ (q0 : List Nat) (v2 : Int) (v3 : Int) (m : aj_M) (hq0 : (.inl (12, q0) : aj_R) ∈ aj_pls), K50 q0 v2 v3 m → aj_J X 50 [some (vO 12 q0), none, some (vI v2), some (vI v3), none, none] [] m) : ∀ (k : Nat) (q0 : List Nat) (v2 : Int) (v3 : Int) (v4 : Int) (m : aj_M) (hq0 : (.inl (12, q0) : aj_R) ∈ aj_pls), hX12_laysFar_58 f Φ K50 k q0 v2 v3 v4 m → aj_J X 58 [some (vO 12 q0), none, some (vI v2), some (vI v3), some (vI v4), none] [] m := by
  intro k
  induction k with
  | zero =>
    intro q0 v2 v3 v4 m _ h
    exact h.elim
  | succ k ih =>
    intro q0 v2 v3 v4 m hq0 h
    unfold hX12_laysFar_58 at h
    refine aj_iload C dX12_laysFar_58 rfl ?_
    refine aj_aload_n C dX12_laysFar_60 rfl ?_
    refine aj_getI C flX12_265 hq0 (by decide) dX12_laysFar_61 rfl ?_
    obtain ⟨r0, r1, h1, h2⟩ := h
    refine aj_icmp_ge (tgt := 167) C dX12_laysFar_64 (by decide) r0 r1 (fun e => ?_) (fun e => ?_)
    · have h := h1 e
      refine aj_iinc (lv' := [some (vO 12 q0), none, some (vI v2), some (vI (v3 + 1)), some (vI v4), none]) C dX12_laysFar_167 rfl (by decide) rfl ?_
      refine aj_goto (tgt := 50) C dX12_laysFar_170 (by decide) ?_
      refine aj_wk (lv' := [some (vO 12 q0), none, some (vI v2), some (vI (v3 + 1)), none, none]) (⟨rfl, ⟨rfl, ⟨rfl, trivial⟩⟩⟩) ?_
      exact HK50 q0 v2 (v3 + 1) _ hq0 h
    · have h := h2 e
      refine aj_aload_n C dX12_laysFar_67 rfl ?_
      refine aj_iload C dX12_laysFar_68 rfl ?_
      refine aj_aload_n C dX12_laysFar_70 rfl ?_
      refine aj_getA (x := 0) (y := 60) C flX12_54 hq0 rfl dX12_laysFar_71 ?_
      refine aj_iload_n C dX12_laysFar_74 rfl ?_
      obtain ⟨r0, h⟩ := h
      refine aj_iald C (aj_ca (e := 0) (n := 60) (j := 26) hq0 (by decide) rfl) (by decide) r0 dX12_laysFar_75 rfl ?_
      refine aj_callV (rest := []) C mvX12_282 (sX12_overFrom hq0 h) hq0 (aj_np 2 (by decide +kernel) rfl) (Nat.le_of_ble_eq_true rfl) rfl dX12_laysFar_76 (fun r m1 h => ?_)
      obtain ⟨z1, rfl, h⟩ := h
      refine aj_istore (lv' := [some (vO 12 q0), none, some (vI v2), some (vI v3), some (vI v4), some (vI z1)]) C dX12_laysFar_79 (by decide) rfl ?_
      refine aj_iload C dX12_laysFar_81 rfl ?_
      refine aj_iconst C dX12_laysFar_83 ?_
      obtain ⟨r0, h1, h2⟩ := h
      refine aj_icmp_eq (tgt := 161) C dX12_laysFar_84 (by decide) r0 (by decide) (fun e => ?_) (fun e => ?_)
      · have h := h1 e
        refine aj_iinc (lv' := [some (vO 12 q0), none, some (vI v2), some (vI v3), some (vI (v4 + 1)), some (vI z1)]) C dX12_laysFar_161 rfl (by decide) rfl ?_
        refine aj_goto (tgt := 58) C dX12_laysFar_164 (by decide) ?_
        refine aj_wk (lv' := [some (vO 12 q0), none, some (vI v2), some (vI v3), some (vI (v4 + 1)), none]) (⟨rfl, ⟨rfl, ⟨rfl, ⟨rfl, trivial⟩⟩⟩⟩) ?_
        exact ih q0 v2 v3 (v4 + 1) _ hq0 h
      · have h := h2 e
        refine aj_aload_n C dX12_laysFar_87 rfl ?_
        refine aj_getA (x := 0) (y := 60) C flX12_48 hq0 rfl dX12_laysFar_88 ?_
        refine aj_iload C dX12_laysFar_91 rfl ?_
        obtain ⟨r0, h⟩ := h
        refine aj_iald C (aj_ca (e := 0) (n := 60) (j := 24) hq0 (by decide) rfl) (by decide) r0 dX12_laysFar_93 rfl ?_
        refine aj_ldcw (z := 268435456) C (wd1900) rfl dX12_laysFar_94 ?_
        obtain ⟨r0, h1, h2⟩ := h
        refine aj_icmp_eq (tgt := 103) C dX12_laysFar_97 (by decide) r0 (by decide) (fun e => ?_) (fun e => ?_)
        · have h := h1 e
          refine aj_aload_n C dX12_laysFar_103 rfl ?_
          refine aj_getA (x := 0) (y := 60) C flX12_48 hq0 rfl dX12_laysFar_104 ?_
          refine aj_iload C dX12_laysFar_107 rfl ?_
          refine aj_aload_n C dX12_laysFar_109 rfl ?_
          refine aj_getA (x := 0) (y := 60) C flX12_48 hq0 rfl dX12_laysFar_110 ?_
          refine aj_aload_n C dX12_laysFar_113 rfl ?_
          refine aj_getA (x := 0) (y := 60) C flX12_54 hq0 rfl dX12_laysFar_114 ?_
          refine aj_iload_n C dX12_laysFar_117 rfl ?_
          obtain ⟨r0, h⟩ := h
          refine aj_iald C (aj_ca (e := 0) (n := 60) (j := 26) hq0 (by decide) rfl) (by decide) r0 dX12_laysFar_118 rfl ?_
          obtain ⟨r0, h⟩ := h
          refine aj_iald C (aj_ca (e := 0) (n := 60) (j := 24) hq0 (by decide) rfl) (by decide) r0 dX12_laysFar_119 rfl ?_
          refine aj_iconst C dX12_laysFar_120 ?_
          refine aj_iadd C dX12_laysFar_121 ?_
          obtain ⟨r0, h⟩ := h
          refine aj_iast C (aj_ca (e := 0) (n := 60) (j := 24) hq0 (by decide) rfl) (by decide) r0 dX12_laysFar_122 ?_
          refine aj_nm (fun m2 e1 => ?_)
          have h := h m2 e1
          refine aj_aload_n C dX12_laysFar_123 rfl ?_
          refine aj_getA (x := 0) (y := 60) C flX12_51 hq0 rfl dX12_laysFar_124 ?_
          refine aj_iload C dX12_laysFar_127 rfl ?_
          refine aj_iload_n C dX12_laysFar_129 rfl ?_
          obtain ⟨r0, h1, h2⟩ := h
          refine aj_if_ne (tgt := 138) C dX12_laysFar_130 (by decide) r0 (fun e => ?_) (fun e => ?_)
          · have h := h1 e
            refine aj_aload_n C dX12_laysFar_138 rfl ?_
            refine aj_getA (x := 0) (y := 60) C flX12_51 hq0 rfl dX12_laysFar_139 ?_
            refine aj_aload_n C dX12_laysFar_142 rfl ?_
            refine aj_getA (x := 0) (y := 60) C flX12_54 hq0 rfl dX12_laysFar_143 ?_
            refine aj_iload_n C dX12_laysFar_146 rfl ?_
            obtain ⟨r0, h⟩ := h
            refine aj_iald C (aj_ca (e := 0) (n := 60) (j := 26) hq0 (by decide) rfl) (by decide) r0 dX12_laysFar_147 rfl ?_
            obtain ⟨r0, h⟩ := h
            refine aj_iald C (aj_ca (e := 0) (n := 60) (j := 25) hq0 (by decide) rfl) (by decide) r0 dX12_laysFar_148 rfl ?_
            obtain ⟨r0, h⟩ := h
            refine aj_iast C (aj_ca (e := 0) (n := 60) (j := 25) hq0 (by decide) rfl) (by decide) r0 dX12_laysFar_149 ?_
            refine aj_nm (fun m3 e1 => ?_)
            have h := h m3 e1
            refine aj_aload_n C dX12_laysFar_150 rfl ?_
            refine aj_getA (x := 0) (y := 60) C flX12_54 hq0 rfl dX12_laysFar_151 ?_
            refine aj_iload_n C dX12_laysFar_154 rfl ?_
            refine aj_iload C dX12_laysFar_155 rfl ?_
            obtain ⟨r0, h⟩ := h
            refine aj_iast C (aj_ca (e := 0) (n := 60) (j := 26) hq0 (by decide) rfl) (by decide) r0 dX12_laysFar_157 ?_
            refine aj_nm (fun m4 e1 => ?_)
            have h := h m4 e1
            refine aj_iinc (lv' := [some (vO 12 q0), none, some (vI (v2 + 1)), some (vI v3), some (vI v4), some (vI z1)]) C dX12_laysFar_158 rfl (by decide) rfl ?_
            refine aj_iinc (lv' := [some (vO 12 q0), none, some (vI (v2 + 1)), some (vI v3), some (vI (v4 + 1)), some (vI z1)]) C dX12_laysFar_161 rfl (by decide) rfl ?_
            refine aj_goto (tgt := 58) C dX12_laysFar_164 (by decide) ?_
            refine aj_wk (lv' := [some (vO 12 q0), none, some (vI (v2 + 1)), some (vI v3), some (vI (v4 + 1)), none]) (⟨rfl, ⟨rfl, ⟨rfl, ⟨rfl, trivial⟩⟩⟩⟩) ?_
            exact ih q0 (v2 + 1) v3 (v4 + 1) _ hq0 h
          · have h := h2 e
            refine aj_iload C dX12_laysFar_133 rfl ?_
            refine aj_goto (tgt := 149) C dX12_laysFar_135 (by decide) ?_
            obtain ⟨r0, h⟩ := h
            refine aj_iast C (aj_ca (e := 0) (n := 60) (j := 25) hq0 (by decide) rfl) (by decide) r0 dX12_laysFar_149 ?_
            refine aj_nm (fun m5 e1 => ?_)
            have h := h m5 e1
            refine aj_aload_n C dX12_laysFar_150 rfl ?_
            refine aj_getA (x := 0) (y := 60) C flX12_54 hq0 rfl dX12_laysFar_151 ?_
            refine aj_iload_n C dX12_laysFar_154 rfl ?_
            refine aj_iload C dX12_laysFar_155 rfl ?_
            obtain ⟨r0, h⟩ := h
            refine aj_iast C (aj_ca (e := 0) (n := 60) (j := 26) hq0 (by decide) rfl) (by decide) r0 dX12_laysFar_157 ?_
            refine aj_nm (fun m6 e1 => ?_)
            have h := h m6 e1
            refine aj_iinc (lv' := [some (vO 12 q0), none, some (vI (v2 + 1)), some (vI v3), some (vI v4), some (vI z1)]) C dX12_laysFar_158 rfl (by decide) rfl ?_
            refine aj_iinc (lv' := [some (vO 12 q0), none, some (vI (v2 + 1)), some (vI v3), some (vI (v4 + 1)), some (vI z1)]) C dX12_laysFar_161 rfl (by decide) rfl ?_
            refine aj_goto (tgt := 58) C dX12_laysFar_164 (by decide) ?_
            refine aj_wk (lv' := [some (vO 12 q0), none, some (vI (v2 + 1)), some (vI v3), some (vI (v4 + 1)), none]) (⟨rfl, ⟨rfl, ⟨rfl, ⟨rfl, trivial⟩⟩⟩⟩) ?_
            exact ih q0 (v2 + 1) v3 (v4 + 1) _ hq0 h
        · have h := h2 e
          refine aj_goto (tgt := 161) C dX12_laysFar_100 (by decide) ?_
          refine aj_iinc (lv' := [some (vO 12 q0), none, some (vI v2), some (vI v3), some (vI (v4 + 1)), some (vI z1)]) C dX12_laysFar_161 rfl (by decide) rfl ?_
          refine aj_goto (tgt := 58) C dX12_laysFar_164 (by decide) ?_
          refine aj_wk (lv' := [some (vO 12 q0), none, some (vI v2), some (vI v3), some (vI (v4 + 1)), none]) (⟨rfl, ⟨rfl, ⟨rfl, ⟨rfl, trivial⟩⟩⟩⟩) ?_
          exact ih q0 v2 v3 (v4 + 1) _ hq0 h
def hX12_laysFar_50 (f : Nat) (Φ : Int → aj_M → Prop) : Nat → List Nat → Int → Int → aj_M → Prop
  | 0, _, _, _, _ => False
  | k + 1, q0, v2, v3, m => rI v3 ∧ rI v2 ∧ (v2 ≤ v3 → Φ v2 m) ∧ (¬ (v2 ≤ v3) → hX12_laysFar_58 f Φ (fun q0 v2 v3 m => hX12_laysFar_50 f Φ k q0 v2 v3 m) f q0 v2 v3 0 m)
set_option maxHeartbeats 4000000 in
set_option maxRecDepth 100000 in
theorem tX12_laysFar_50 {X : aj_T} {n f : Nat} {Φ : Int → aj_M → Prop} (C : aj_Cx X cX12_laysFar RX12 6 (n + 1)) (K : aj_Rt X (some .int) (fun r m => ∃ z, r = some (vI z) ∧ Φ z m)) : ∀ (k : Nat) (q0 : List Nat) (v2 : Int) (v3 : Int) (m : aj_M) (hq0 : (.inl (12, q0) : aj_R) ∈ aj_pls), hX12_laysFar_50 f Φ k q0 v2 v3 m → aj_J X 50 [some (vO 12 q0), none, some (vI v2), some (vI v3), none, none] [] m := by
  intro k
  induction k with
  | zero =>
    intro q0 v2 v3 m _ h
    exact h.elim
  | succ k ih =>
    intro q0 v2 v3 m hq0 h
    unfold hX12_laysFar_50 at h
    refine aj_iload_n C dX12_laysFar_50 rfl ?_
    refine aj_iload_n C dX12_laysFar_51 rfl ?_
    obtain ⟨r0, r1, h1, h2⟩ := h
    refine aj_icmp_ge (tgt := 173) C dX12_laysFar_52 (by decide) r0 r1 (fun e => ?_) (fun e => ?_)
    · have h := h1 e
      refine aj_iload_n C dX12_laysFar_173 rfl ?_
      exact aj_iret C K dX12_laysFar_174 ⟨_, rfl, h⟩
    · have h := h2 e
      refine aj_iconst C dX12_laysFar_55 ?_
      refine aj_istore (lv' := [some (vO 12 q0), none, some (vI v2), some (vI v3), some (vI 0), none]) C dX12_laysFar_56 (by decide) rfl ?_
      exact tX12_laysFar_58 C K (fun q0 v2 v3 m hq0 hh => ih q0 v2 v3 m hq0 hh) f q0 v2 v3 0 _ hq0 h
def hX12_laysFar_2 (f : Nat) (Φ : Int → aj_M → Prop) : Nat → List Nat → Int → Int → aj_M → Prop
  | 0, _, _, _, _ => False
  | k + 1, q0, v1, v2, m => rI v2 ∧ rI (m q0 23) ∧ ((m q0 23) ≤ v2 → (0 ≤ v1 ∧ v1 < 60) ∧ ∀ m1, m1 = aj_u m (24 :: q0) v1.toNat 0 → (0 ≤ v1 ∧ v1 < 60) ∧ ∀ m2, m2 = aj_u m1 (25 :: q0) v1.toNat (-1) → ∀ m3, m3 = aj_u m2 (26 :: q0) (0 : Int).toNat v1 → hX12_laysFar_50 f Φ f q0 1 0 m3) ∧ (¬ ((m q0 23) ≤ v2) → (0 ≤ v2 ∧ v2 < 60) ∧ ∀ m4, m4 = aj_u m (24 :: q0) v2.toNat 268435456 → hX12_laysFar_2 f Φ k q0 v1 (v2 + 1) m4)
set_option maxHeartbeats 4000000 in
set_option maxRecDepth 100000 in
theorem tX12_laysFar_2 {X : aj_T} {n f : Nat} {Φ : Int → aj_M → Prop} (C : aj_Cx X cX12_laysFar RX12 6 (n + 1)) (K : aj_Rt X (some .int) (fun r m => ∃ z, r = some (vI z) ∧ Φ z m)) : ∀ (k : Nat) (q0 : List Nat) (v1 : Int) (v2 : Int) (m : aj_M) (hq0 : (.inl (12, q0) : aj_R) ∈ aj_pls), hX12_laysFar_2 f Φ k q0 v1 v2 m → aj_J X 2 [some (vO 12 q0), some (vI v1), some (vI v2), none, none, none] [] m := by
  intro k
  induction k with
  | zero =>
    intro q0 v1 v2 m _ h
    exact h.elim
  | succ k ih =>
    intro q0 v1 v2 m hq0 h
    unfold hX12_laysFar_2 at h
    refine aj_iload_n C dX12_laysFar_2 rfl ?_
    refine aj_aload_n C dX12_laysFar_3 rfl ?_
    refine aj_getI C flX12_271 hq0 (by decide) dX12_laysFar_4 rfl ?_
    obtain ⟨r0, r1, h1, h2⟩ := h
    refine aj_icmp_ge (tgt := 25) C dX12_laysFar_7 (by decide) r0 r1 (fun e => ?_) (fun e => ?_)
    · have h := h1 e
      refine aj_aload_n C dX12_laysFar_25 rfl ?_
      refine aj_getA (x := 0) (y := 60) C flX12_48 hq0 rfl dX12_laysFar_26 ?_
      refine aj_iload_n C dX12_laysFar_29 rfl ?_
      refine aj_iconst C dX12_laysFar_30 ?_
      obtain ⟨r0, h⟩ := h
      refine aj_iast C (aj_ca (e := 0) (n := 60) (j := 24) hq0 (by decide) rfl) (by decide) r0 dX12_laysFar_31 ?_
      refine aj_nm (fun m1 e1 => ?_)
      have h := h m1 e1
      refine aj_aload_n C dX12_laysFar_32 rfl ?_
      refine aj_getA (x := 0) (y := 60) C flX12_51 hq0 rfl dX12_laysFar_33 ?_
      refine aj_iload_n C dX12_laysFar_36 rfl ?_
      refine aj_iconst C dX12_laysFar_37 ?_
      obtain ⟨r0, h⟩ := h
      refine aj_iast C (aj_ca (e := 0) (n := 60) (j := 25) hq0 (by decide) rfl) (by decide) r0 dX12_laysFar_38 ?_
      refine aj_nm (fun m2 e1 => ?_)
      have h := h m2 e1
      refine aj_aload_n C dX12_laysFar_39 rfl ?_
      refine aj_getA (x := 0) (y := 60) C flX12_54 hq0 rfl dX12_laysFar_40 ?_
      refine aj_iconst C dX12_laysFar_43 ?_
      refine aj_iload_n C dX12_laysFar_44 rfl ?_
      refine aj_iast C (aj_ca (e := 0) (n := 60) (j := 26) hq0 (by decide) rfl) (by decide) (by decide) dX12_laysFar_45 ?_
      refine aj_nm (fun m3 e1 => ?_)
      have h := h m3 e1
      refine aj_iconst C dX12_laysFar_46 ?_
      refine aj_istore_n (lv' := [some (vO 12 q0), some (vI v1), some (vI 1), none, none, none]) C dX12_laysFar_47 (by decide) rfl ?_
      refine aj_iconst C dX12_laysFar_48 ?_
      refine aj_istore_n (lv' := [some (vO 12 q0), some (vI v1), some (vI 1), some (vI 0), none, none]) C dX12_laysFar_49 (by decide) rfl ?_
      refine aj_wk (lv' := [some (vO 12 q0), none, some (vI 1), some (vI 0), none, none]) (⟨rfl, ⟨rfl, ⟨rfl, trivial⟩⟩⟩) ?_
      exact tX12_laysFar_50 C K f q0 1 0 _ hq0 h
    · have h := h2 e
      refine aj_aload_n C dX12_laysFar_10 rfl ?_
      refine aj_getA (x := 0) (y := 60) C flX12_48 hq0 rfl dX12_laysFar_11 ?_
      refine aj_iload_n C dX12_laysFar_14 rfl ?_
      refine aj_ldcw (z := 268435456) C (wd1900) rfl dX12_laysFar_15 ?_
      obtain ⟨r0, h⟩ := h
      refine aj_iast C (aj_ca (e := 0) (n := 60) (j := 24) hq0 (by decide) rfl) (by decide) r0 dX12_laysFar_18 ?_
      refine aj_nm (fun m4 e1 => ?_)
      have h := h m4 e1
      refine aj_iinc (lv' := [some (vO 12 q0), some (vI v1), some (vI (v2 + 1)), none, none, none]) C dX12_laysFar_19 rfl (by decide) rfl ?_
      refine aj_goto (tgt := 2) C dX12_laysFar_22 (by decide) ?_
      exact ih q0 v1 (v2 + 1) _ hq0 h
def wX12_laysFar (f : Nat) (Φ : Int → aj_M → Prop) (q0 : List Nat) (v1 : Int) (m : aj_M) : Prop := hX12_laysFar_2 f Φ f q0 v1 0 m
set_option maxHeartbeats 4000000 in
set_option maxRecDepth 100000 in
theorem sX12_laysFar {n f : Nat} {Φ : Int → aj_M → Prop} {q0 : List Nat} {v1 : Int} {m : aj_M} (hq0 : (.inl (12, q0) : aj_R) ∈ aj_pls) (h : wX12_laysFar f Φ q0 v1 m) : aj_Ct (n + 1) yX12_laysFar cX12_laysFar 6 (some .int) [vO 12 q0, vI v1] m (fun r m => ∃ z, r = some (vI z) ∧ Φ z m) := by
  refine aj_met (lv := [some (vO 12 q0), some (vI v1), none, none, none, none]) (by decide +kernel) rfl (Nat.le_of_ble_eq_true rfl) (fun X C K => ?_)
  unfold wX12_laysFar at h
  refine aj_iconst C dX12_laysFar_0 ?_
  refine aj_istore_n (lv' := [some (vO 12 q0), some (vI v1), some (vI 0), none, none, none]) C dX12_laysFar_1 (by decide) rfl ?_
  exact tX12_laysFar_2 C K f q0 v1 0 _ hq0 h
theorem dX12_throughOf_0 : decode cX12_throughOf 0 = .ok (.aload_n 0, 1) := by decide +kernel
theorem dX12_throughOf_1 : decode cX12_throughOf 1 = .ok (.iload_n 1, 1) := by decide +kernel
theorem dX12_throughOf_2 : decode cX12_throughOf 2 = .ok (.invokevirtual 285, 3) := by decide +kernel
theorem dX12_throughOf_5 : decode cX12_throughOf 5 = .ok (.pop, 1) := by decide +kernel
theorem dX12_throughOf_6 : decode cX12_throughOf 6 = .ok (.ldc_w 281, 3) := by decide +kernel
theorem dX12_throughOf_9 : decode cX12_throughOf 9 = .ok (.istore_n 2, 1) := by decide +kernel
theorem dX12_throughOf_10 : decode cX12_throughOf 10 = .ok (.iconst 0, 1) := by decide +kernel
theorem dX12_throughOf_11 : decode cX12_throughOf 11 = .ok (.istore_n 3, 1) := by decide +kernel
theorem dX12_throughOf_12 : decode cX12_throughOf 12 = .ok (.iload_n 3, 1) := by decide +kernel
theorem dX12_throughOf_13 : decode cX12_throughOf 13 = .ok (.aload_n 0, 1) := by decide +kernel
theorem dX12_throughOf_14 : decode cX12_throughOf 14 = .ok (.getfield 265, 3) := by decide +kernel
theorem dX12_throughOf_17 : decode cX12_throughOf 17 = .ok (.if_icmp .ge 159, 3) := by decide +kernel
theorem dX12_throughOf_20 : decode cX12_throughOf 20 = .ok (.aload_n 0, 1) := by decide +kernel
theorem dX12_throughOf_21 : decode cX12_throughOf 21 = .ok (.getfield 36, 3) := by decide +kernel
theorem dX12_throughOf_24 : decode cX12_throughOf 24 = .ok (.iload_n 3, 1) := by decide +kernel
theorem dX12_throughOf_25 : decode cX12_throughOf 25 = .ok (.iaload, 1) := by decide +kernel
theorem dX12_throughOf_26 : decode cX12_throughOf 26 = .ok (.istore 4, 2) := by decide +kernel
theorem dX12_throughOf_28 : decode cX12_throughOf 28 = .ok (.aload_n 0, 1) := by decide +kernel
theorem dX12_throughOf_29 : decode cX12_throughOf 29 = .ok (.getfield 39, 3) := by decide +kernel
theorem dX12_throughOf_32 : decode cX12_throughOf 32 = .ok (.iload_n 3, 1) := by decide +kernel
theorem dX12_throughOf_33 : decode cX12_throughOf 33 = .ok (.iaload, 1) := by decide +kernel
theorem dX12_throughOf_34 : decode cX12_throughOf 34 = .ok (.istore 5, 2) := by decide +kernel
theorem dX12_throughOf_36 : decode cX12_throughOf 36 = .ok (.aload_n 0, 1) := by decide +kernel
theorem dX12_throughOf_37 : decode cX12_throughOf 37 = .ok (.getfield 48, 3) := by decide +kernel
theorem dX12_throughOf_40 : decode cX12_throughOf 40 = .ok (.iload 4, 2) := by decide +kernel
theorem dX12_throughOf_42 : decode cX12_throughOf 42 = .ok (.iaload, 1) := by decide +kernel
theorem dX12_throughOf_43 : decode cX12_throughOf 43 = .ok (.ldc_w 281, 3) := by decide +kernel
theorem dX12_throughOf_46 : decode cX12_throughOf 46 = .ok (.if_icmp .ne 6, 3) := by decide +kernel
theorem dX12_throughOf_49 : decode cX12_throughOf 49 = .ok (.goto 121, 3) := by decide +kernel
theorem dX12_throughOf_52 : decode cX12_throughOf 52 = .ok (.ldc_w 281, 3) := by decide +kernel
theorem dX12_throughOf_55 : decode cX12_throughOf 55 = .ok (.istore 6, 2) := by decide +kernel
theorem dX12_throughOf_57 : decode cX12_throughOf 57 = .ok (.iload 4, 2) := by decide +kernel
theorem dX12_throughOf_59 : decode cX12_throughOf 59 = .ok (.iload_n 1, 1) := by decide +kernel
theorem dX12_throughOf_60 : decode cX12_throughOf 60 = .ok (.if_icmp .ne 15, 3) := by decide +kernel
theorem dX12_throughOf_63 : decode cX12_throughOf 63 = .ok (.iload 5, 2) := by decide +kernel
theorem dX12_throughOf_65 : decode cX12_throughOf 65 = .ok (.iload_n 1, 1) := by decide +kernel
theorem dX12_throughOf_66 : decode cX12_throughOf 66 = .ok (.if_icmp .ne 9, 3) := by decide +kernel
theorem dX12_throughOf_69 : decode cX12_throughOf 69 = .ok (.iconst 1, 1) := by decide +kernel
theorem dX12_throughOf_70 : decode cX12_throughOf 70 = .ok (.istore 6, 2) := by decide +kernel
theorem dX12_throughOf_72 : decode cX12_throughOf 72 = .ok (.goto 85, 3) := by decide +kernel
theorem dX12_throughOf_75 : decode cX12_throughOf 75 = .ok (.iload 4, 2) := by decide +kernel
theorem dX12_throughOf_77 : decode cX12_throughOf 77 = .ok (.iload_n 1, 1) := by decide +kernel
theorem dX12_throughOf_78 : decode cX12_throughOf 78 = .ok (.if_icmp .eq 9, 3) := by decide +kernel
theorem dX12_throughOf_81 : decode cX12_throughOf 81 = .ok (.iload 5, 2) := by decide +kernel
theorem dX12_throughOf_83 : decode cX12_throughOf 83 = .ok (.iload_n 1, 1) := by decide +kernel
theorem dX12_throughOf_84 : decode cX12_throughOf 84 = .ok (.if_icmp .ne 37, 3) := by decide +kernel
theorem dX12_throughOf_87 : decode cX12_throughOf 87 = .ok (.aload_n 0, 1) := by decide +kernel
theorem dX12_throughOf_88 : decode cX12_throughOf 88 = .ok (.getfield 51, 3) := by decide +kernel
theorem dX12_throughOf_91 : decode cX12_throughOf 91 = .ok (.iload 4, 2) := by decide +kernel
theorem dX12_throughOf_93 : decode cX12_throughOf 93 = .ok (.iload_n 1, 1) := by decide +kernel
theorem dX12_throughOf_94 : decode cX12_throughOf 94 = .ok (.if_icmp .ne 8, 3) := by decide +kernel
theorem dX12_throughOf_97 : decode cX12_throughOf 97 = .ok (.iload 5, 2) := by decide +kernel
theorem dX12_throughOf_99 : decode cX12_throughOf 99 = .ok (.goto 5, 3) := by decide +kernel
theorem dX12_throughOf_102 : decode cX12_throughOf 102 = .ok (.iload 4, 2) := by decide +kernel
theorem dX12_throughOf_104 : decode cX12_throughOf 104 = .ok (.iaload, 1) := by decide +kernel
theorem dX12_throughOf_105 : decode cX12_throughOf 105 = .ok (.iload_n 3, 1) := by decide +kernel
theorem dX12_throughOf_106 : decode cX12_throughOf 106 = .ok (.if_icmp .ne 9, 3) := by decide +kernel
theorem dX12_throughOf_109 : decode cX12_throughOf 109 = .ok (.ldc_w 281, 3) := by decide +kernel
theorem dX12_throughOf_112 : decode cX12_throughOf 112 = .ok (.goto 4, 3) := by decide +kernel
theorem dX12_throughOf_115 : decode cX12_throughOf 115 = .ok (.iconst 2, 1) := by decide +kernel
theorem dX12_throughOf_116 : decode cX12_throughOf 116 = .ok (.istore 6, 2) := by decide +kernel
theorem dX12_throughOf_118 : decode cX12_throughOf 118 = .ok (.goto 39, 3) := by decide +kernel
theorem dX12_throughOf_121 : decode cX12_throughOf 121 = .ok (.aload_n 0, 1) := by decide +kernel
theorem dX12_throughOf_122 : decode cX12_throughOf 122 = .ok (.getfield 51, 3) := by decide +kernel
theorem dX12_throughOf_125 : decode cX12_throughOf 125 = .ok (.iload 4, 2) := by decide +kernel
theorem dX12_throughOf_127 : decode cX12_throughOf 127 = .ok (.iaload, 1) := by decide +kernel
theorem dX12_throughOf_128 : decode cX12_throughOf 128 = .ok (.aload_n 0, 1) := by decide +kernel
theorem dX12_throughOf_129 : decode cX12_throughOf 129 = .ok (.getfield 51, 3) := by decide +kernel
theorem dX12_throughOf_132 : decode cX12_throughOf 132 = .ok (.iload 5, 2) := by decide +kernel
theorem dX12_throughOf_134 : decode cX12_throughOf 134 = .ok (.iaload, 1) := by decide +kernel
theorem dX12_throughOf_135 : decode cX12_throughOf 135 = .ok (.if_icmp .eq 22, 3) := by decide +kernel
theorem dX12_throughOf_138 : decode cX12_throughOf 138 = .ok (.aload_n 0, 1) := by decide +kernel
theorem dX12_throughOf_139 : decode cX12_throughOf 139 = .ok (.getfield 48, 3) := by decide +kernel
theorem dX12_throughOf_142 : decode cX12_throughOf 142 = .ok (.iload 4, 2) := by decide +kernel
theorem dX12_throughOf_144 : decode cX12_throughOf 144 = .ok (.iaload, 1) := by decide +kernel
theorem dX12_throughOf_145 : decode cX12_throughOf 145 = .ok (.aload_n 0, 1) := by decide +kernel
theorem dX12_throughOf_146 : decode cX12_throughOf 146 = .ok (.getfield 48, 3) := by decide +kernel
theorem dX12_throughOf_149 : decode cX12_throughOf 149 = .ok (.iload 5, 2) := by decide +kernel
theorem dX12_throughOf_151 : decode cX12_throughOf 151 = .ok (.iaload, 1) := by decide +kernel
theorem dX12_throughOf_152 : decode cX12_throughOf 152 = .ok (.iadd, 1) := by decide +kernel
theorem dX12_throughOf_153 : decode cX12_throughOf 153 = .ok (.iconst 1, 1) := by decide +kernel
theorem dX12_throughOf_154 : decode cX12_throughOf 154 = .ok (.iadd, 1) := by decide +kernel
theorem dX12_throughOf_155 : decode cX12_throughOf 155 = .ok (.istore 6, 2) := by decide +kernel
theorem dX12_throughOf_157 : decode cX12_throughOf 157 = .ok (.iload 6, 2) := by decide +kernel
theorem dX12_throughOf_159 : decode cX12_throughOf 159 = .ok (.iload_n 2, 1) := by decide +kernel
theorem dX12_throughOf_160 : decode cX12_throughOf 160 = .ok (.if_icmp .ge 8, 3) := by decide +kernel
theorem dX12_throughOf_163 : decode cX12_throughOf 163 = .ok (.iload 6, 2) := by decide +kernel
theorem dX12_throughOf_165 : decode cX12_throughOf 165 = .ok (.goto 4, 3) := by decide +kernel
theorem dX12_throughOf_168 : decode cX12_throughOf 168 = .ok (.iload_n 2, 1) := by decide +kernel
theorem dX12_throughOf_169 : decode cX12_throughOf 169 = .ok (.istore_n 2, 1) := by decide +kernel
theorem dX12_throughOf_170 : decode cX12_throughOf 170 = .ok (.iinc 3 1, 3) := by decide +kernel
theorem dX12_throughOf_173 : decode cX12_throughOf 173 = .ok (.goto (-161), 3) := by decide +kernel
theorem dX12_throughOf_176 : decode cX12_throughOf 176 = .ok (.iload_n 2, 1) := by decide +kernel
theorem dX12_throughOf_177 : decode cX12_throughOf 177 = .ok (.ireturn, 1) := by decide +kernel
def hX12_throughOf_104 (f : Nat) (Φ : Int → aj_M → Prop) (K12 : List Nat → Int → Int → Int → aj_M → Prop) (q0 : List Nat) (v1 : Int) (v2 : Int) (v3 : Int) (as0 : List Nat) (vs1 : Int) (m : aj_M) : Prop := (0 ≤ vs1 ∧ vs1 < 60) ∧ rI (m as0 vs1.toNat) ∧ rI v3 ∧ (¬ (m as0 vs1.toNat) = v3 → rI v2 ∧ (v2 ≤ 2 → K12 q0 v1 v2 (v3 + 1) m) ∧ (¬ (v2 ≤ 2) → K12 q0 v1 2 (v3 + 1) m)) ∧ ((m as0 vs1.toNat) = v3 → rI v2 ∧ (v2 ≤ 268435456 → K12 q0 v1 v2 (v3 + 1) m) ∧ (¬ (v2 ≤ 268435456) → K12 q0 v1 268435456 (v3 + 1) m))
set_option maxHeartbeats 4000000 in
set_option maxRecDepth 100000 in
theorem tX12_throughOf_104 {X : aj_T} {n f : Nat} {Φ : Int → aj_M → Prop} (C : aj_Cx X cX12_throughOf RX12 7 (n + 2)) (K : aj_Rt X (some .int) (fun r m => ∃ z, r = some (vI z) ∧ Φ z m)) {K12 : List Nat → Int → Int → Int → aj_M → Prop} (HK12 : ∀ (q0 : List Nat) (v1 : Int) (v2 : Int) (v3 : Int) (m : aj_M) (hq0 : (.inl (12, q0) : aj_R) ∈ aj_pls), K12 q0 v1 v2 v3 m → aj_J X 12 [some (vO 12 q0), some (vI v1), some (vI v2), some (vI v3), none, none, none] [] m) (q0 : List Nat) (v1 : Int) (v2 : Int) (v3 : Int) (as0 : List Nat) (vs1 : Int) (m : aj_M) (hq0 : (.inl (12, q0) : aj_R) ∈ aj_pls) (has0 : (.inr (0, 60, as0) : aj_R) ∈ aj_pls) (h : hX12_throughOf_104 f Φ K12 q0 v1 v2 v3 as0 vs1 m) : aj_J X 104 [some (vO 12 q0), some (vI v1), some (vI v2), some (vI v3), none, none, none] [vI vs1, vA 0 60 as0] m := by
  unfold hX12_throughOf_104 at h
  obtain ⟨r0, h⟩ := h
  refine aj_iald C has0 (by decide) r0 dX12_throughOf_104 rfl ?_
  refine aj_iload_n C dX12_throughOf_105 rfl ?_
  obtain ⟨r0, r1, h1, h2⟩ := h
  refine aj_icmp_ne (tgt := 115) C dX12_throughOf_106 (by decide) r0 r1 (fun e => ?_) (fun e => ?_)
  · have h := h1 e
    refine aj_iconst C dX12_throughOf_115 ?_
    refine aj_istore (lv' := [some (vO 12 q0), some (vI v1), some (vI v2), some (vI v3), none, none, some (vI 2)]) C dX12_throughOf_116 (by decide) rfl ?_
    refine aj_goto (tgt := 157) C dX12_throughOf_118 (by decide) ?_
    refine aj_iload C dX12_throughOf_157 rfl ?_
    refine aj_iload_n C dX12_throughOf_159 rfl ?_
    obtain ⟨r1, h1, h2⟩ := h
    refine aj_icmp_ge (tgt := 168) C dX12_throughOf_160 (by decide) (by decide) r1 (fun e => ?_) (fun e => ?_)
    · have h := h1 e
      refine aj_iload_n C dX12_throughOf_168 rfl ?_
      refine aj_istore_n (lv' := [some (vO 12 q0), some (vI v1), some (vI v2), some (vI v3), none, none, some (vI 2)]) C dX12_throughOf_169 (by decide) rfl ?_
      refine aj_iinc (lv' := [some (vO 12 q0), some (vI v1), some (vI v2), some (vI (v3 + 1)), none, none, some (vI 2)]) C dX12_throughOf_170 rfl (by decide) rfl ?_
      refine aj_goto (tgt := 12) C dX12_throughOf_173 (by decide) ?_
      refine aj_wk (lv' := [some (vO 12 q0), some (vI v1), some (vI v2), some (vI (v3 + 1)), none, none, none]) (⟨rfl, ⟨rfl, ⟨rfl, ⟨rfl, trivial⟩⟩⟩⟩) ?_
      exact HK12 q0 v1 v2 (v3 + 1) _ hq0 h
    · have h := h2 e
      refine aj_iload C dX12_throughOf_163 rfl ?_
      refine aj_goto (tgt := 169) C dX12_throughOf_165 (by decide) ?_
      refine aj_istore_n (lv' := [some (vO 12 q0), some (vI v1), some (vI 2), some (vI v3), none, none, some (vI 2)]) C dX12_throughOf_169 (by decide) rfl ?_
      refine aj_iinc (lv' := [some (vO 12 q0), some (vI v1), some (vI 2), some (vI (v3 + 1)), none, none, some (vI 2)]) C dX12_throughOf_170 rfl (by decide) rfl ?_
      refine aj_goto (tgt := 12) C dX12_throughOf_173 (by decide) ?_
      refine aj_wk (lv' := [some (vO 12 q0), some (vI v1), some (vI 2), some (vI (v3 + 1)), none, none, none]) (⟨rfl, ⟨rfl, ⟨rfl, ⟨rfl, trivial⟩⟩⟩⟩) ?_
      exact HK12 q0 v1 2 (v3 + 1) _ hq0 h
  · have h := h2 e
    refine aj_ldcw (z := 268435456) C (wd1900) rfl dX12_throughOf_109 ?_
    refine aj_goto (tgt := 116) C dX12_throughOf_112 (by decide) ?_
    refine aj_istore (lv' := [some (vO 12 q0), some (vI v1), some (vI v2), some (vI v3), none, none, some (vI 268435456)]) C dX12_throughOf_116 (by decide) rfl ?_
    refine aj_goto (tgt := 157) C dX12_throughOf_118 (by decide) ?_
    refine aj_iload C dX12_throughOf_157 rfl ?_
    refine aj_iload_n C dX12_throughOf_159 rfl ?_
    obtain ⟨r1, h1, h2⟩ := h
    refine aj_icmp_ge (tgt := 168) C dX12_throughOf_160 (by decide) (by decide) r1 (fun e => ?_) (fun e => ?_)
    · have h := h1 e
      refine aj_iload_n C dX12_throughOf_168 rfl ?_
      refine aj_istore_n (lv' := [some (vO 12 q0), some (vI v1), some (vI v2), some (vI v3), none, none, some (vI 268435456)]) C dX12_throughOf_169 (by decide) rfl ?_
      refine aj_iinc (lv' := [some (vO 12 q0), some (vI v1), some (vI v2), some (vI (v3 + 1)), none, none, some (vI 268435456)]) C dX12_throughOf_170 rfl (by decide) rfl ?_
      refine aj_goto (tgt := 12) C dX12_throughOf_173 (by decide) ?_
      refine aj_wk (lv' := [some (vO 12 q0), some (vI v1), some (vI v2), some (vI (v3 + 1)), none, none, none]) (⟨rfl, ⟨rfl, ⟨rfl, ⟨rfl, trivial⟩⟩⟩⟩) ?_
      exact HK12 q0 v1 v2 (v3 + 1) _ hq0 h
    · have h := h2 e
      refine aj_iload C dX12_throughOf_163 rfl ?_
      refine aj_goto (tgt := 169) C dX12_throughOf_165 (by decide) ?_
      refine aj_istore_n (lv' := [some (vO 12 q0), some (vI v1), some (vI 268435456), some (vI v3), none, none, some (vI 268435456)]) C dX12_throughOf_169 (by decide) rfl ?_
      refine aj_iinc (lv' := [some (vO 12 q0), some (vI v1), some (vI 268435456), some (vI (v3 + 1)), none, none, some (vI 268435456)]) C dX12_throughOf_170 rfl (by decide) rfl ?_
      refine aj_goto (tgt := 12) C dX12_throughOf_173 (by decide) ?_
      refine aj_wk (lv' := [some (vO 12 q0), some (vI v1), some (vI 268435456), some (vI (v3 + 1)), none, none, none]) (⟨rfl, ⟨rfl, ⟨rfl, ⟨rfl, trivial⟩⟩⟩⟩) ?_
      exact HK12 q0 v1 268435456 (v3 + 1) _ hq0 h
def hX12_throughOf_75 (f : Nat) (Φ : Int → aj_M → Prop) (K12 : List Nat → Int → Int → Int → aj_M → Prop) (q0 : List Nat) (v1 : Int) (v2 : Int) (v3 : Int) (v4 : Int) (v5 : Int) (v6 : Int) (m : aj_M) : Prop := rI v4 ∧ rI v1 ∧ (v4 = v1 → rI v4 ∧ rI v1 ∧ (¬ v4 = v1 → hX12_throughOf_104 f Φ K12 q0 v1 v2 v3 (25 :: q0) v4 m) ∧ (v4 = v1 → hX12_throughOf_104 f Φ K12 q0 v1 v2 v3 (25 :: q0) v5 m)) ∧ (¬ (v4 = v1) → rI v5 ∧ rI v1 ∧ (¬ v5 = v1 → (0 ≤ v4 ∧ v4 < 60) ∧ (0 ≤ v5 ∧ v5 < 60) ∧ rI (m (25 :: q0) v4.toNat) ∧ rI (m (25 :: q0) v5.toNat) ∧ ((m (25 :: q0) v4.toNat) = (m (25 :: q0) v5.toNat) → rI v6 ∧ rI v2 ∧ (v2 ≤ v6 → K12 q0 v1 v2 (v3 + 1) m) ∧ (¬ (v2 ≤ v6) → K12 q0 v1 v6 (v3 + 1) m)) ∧ (¬ ((m (25 :: q0) v4.toNat) = (m (25 :: q0) v5.toNat)) → (0 ≤ v4 ∧ v4 < 60) ∧ (0 ≤ v5 ∧ v5 < 60) ∧ rI (((m (24 :: q0) v4.toNat) + (m (24 :: q0) v5.toNat)) + 1) ∧ rI v2 ∧ (v2 ≤ (((m (24 :: q0) v4.toNat) + (m (24 :: q0) v5.toNat)) + 1) → K12 q0 v1 v2 (v3 + 1) m) ∧ (¬ (v2 ≤ (((m (24 :: q0) v4.toNat) + (m (24 :: q0) v5.toNat)) + 1)) → K12 q0 v1 (((m (24 :: q0) v4.toNat) + (m (24 :: q0) v5.toNat)) + 1) (v3 + 1) m))) ∧ (v5 = v1 → rI v4 ∧ rI v1 ∧ (¬ v4 = v1 → hX12_throughOf_104 f Φ K12 q0 v1 v2 v3 (25 :: q0) v4 m) ∧ (v4 = v1 → hX12_throughOf_104 f Φ K12 q0 v1 v2 v3 (25 :: q0) v5 m)))
set_option maxHeartbeats 4000000 in
set_option maxRecDepth 100000 in
theorem tX12_throughOf_75 {X : aj_T} {n f : Nat} {Φ : Int → aj_M → Prop} (C : aj_Cx X cX12_throughOf RX12 7 (n + 2)) (K : aj_Rt X (some .int) (fun r m => ∃ z, r = some (vI z) ∧ Φ z m)) {K12 : List Nat → Int → Int → Int → aj_M → Prop} (HK12 : ∀ (q0 : List Nat) (v1 : Int) (v2 : Int) (v3 : Int) (m : aj_M) (hq0 : (.inl (12, q0) : aj_R) ∈ aj_pls), K12 q0 v1 v2 v3 m → aj_J X 12 [some (vO 12 q0), some (vI v1), some (vI v2), some (vI v3), none, none, none] [] m) (q0 : List Nat) (v1 : Int) (v2 : Int) (v3 : Int) (v4 : Int) (v5 : Int) (v6 : Int) (m : aj_M) (hq0 : (.inl (12, q0) : aj_R) ∈ aj_pls) (h : hX12_throughOf_75 f Φ K12 q0 v1 v2 v3 v4 v5 v6 m) : aj_J X 75 [some (vO 12 q0), some (vI v1), some (vI v2), some (vI v3), some (vI v4), some (vI v5), some (vI v6)] [] m := by
  unfold hX12_throughOf_75 at h
  refine aj_iload C dX12_throughOf_75 rfl ?_
  refine aj_iload_n C dX12_throughOf_77 rfl ?_
  obtain ⟨r0, r1, h1, h2⟩ := h
  refine aj_icmp_eq (tgt := 87) C dX12_throughOf_78 (by decide) r0 r1 (fun e => ?_) (fun e => ?_)
  · have h := h1 e
    refine aj_aload_n C dX12_throughOf_87 rfl ?_
    refine aj_getA (x := 0) (y := 60) C flX12_51 hq0 rfl dX12_throughOf_88 ?_
    refine aj_iload C dX12_throughOf_91 rfl ?_
    refine aj_iload_n C dX12_throughOf_93 rfl ?_
    obtain ⟨r0, r1, h1, h2⟩ := h
    refine aj_icmp_ne (tgt := 102) C dX12_throughOf_94 (by decide) r0 r1 (fun e => ?_) (fun e => ?_)
    · have h := h1 e
      refine aj_iload C dX12_throughOf_102 rfl ?_
      refine aj_wk (lv' := [some (vO 12 q0), some (vI v1), some (vI v2), some (vI v3), none, none, none]) (⟨rfl, ⟨rfl, ⟨rfl, ⟨rfl, trivial⟩⟩⟩⟩) ?_
      exact tX12_throughOf_104 C K HK12 q0 v1 v2 v3 (25 :: q0) v4 _ hq0 (aj_ca (e := 0) (n := 60) (j := 25) hq0 (by decide) rfl) h
    · have h := h2 e
      refine aj_iload C dX12_throughOf_97 rfl ?_
      refine aj_goto (tgt := 104) C dX12_throughOf_99 (by decide) ?_
      refine aj_wk (lv' := [some (vO 12 q0), some (vI v1), some (vI v2), some (vI v3), none, none, none]) (⟨rfl, ⟨rfl, ⟨rfl, ⟨rfl, trivial⟩⟩⟩⟩) ?_
      exact tX12_throughOf_104 C K HK12 q0 v1 v2 v3 (25 :: q0) v5 _ hq0 (aj_ca (e := 0) (n := 60) (j := 25) hq0 (by decide) rfl) h
  · have h := h2 e
    refine aj_iload C dX12_throughOf_81 rfl ?_
    refine aj_iload_n C dX12_throughOf_83 rfl ?_
    obtain ⟨r0, r1, h1, h2⟩ := h
    refine aj_icmp_ne (tgt := 121) C dX12_throughOf_84 (by decide) r0 r1 (fun e => ?_) (fun e => ?_)
    · have h := h1 e
      refine aj_aload_n C dX12_throughOf_121 rfl ?_
      refine aj_getA (x := 0) (y := 60) C flX12_51 hq0 rfl dX12_throughOf_122 ?_
      refine aj_iload C dX12_throughOf_125 rfl ?_
      obtain ⟨r0, h⟩ := h
      refine aj_iald C (aj_ca (e := 0) (n := 60) (j := 25) hq0 (by decide) rfl) (by decide) r0 dX12_throughOf_127 rfl ?_
      refine aj_aload_n C dX12_throughOf_128 rfl ?_
      refine aj_getA (x := 0) (y := 60) C flX12_51 hq0 rfl dX12_throughOf_129 ?_
      refine aj_iload C dX12_throughOf_132 rfl ?_
      obtain ⟨r0, h⟩ := h
      refine aj_iald C (aj_ca (e := 0) (n := 60) (j := 25) hq0 (by decide) rfl) (by decide) r0 dX12_throughOf_134 rfl ?_
      obtain ⟨r0, r1, h1, h2⟩ := h
      refine aj_icmp_eq (tgt := 157) C dX12_throughOf_135 (by decide) r0 r1 (fun e => ?_) (fun e => ?_)
      · have h := h1 e
        refine aj_iload C dX12_throughOf_157 rfl ?_
        refine aj_iload_n C dX12_throughOf_159 rfl ?_
        obtain ⟨r0, r1, h1, h2⟩ := h
        refine aj_icmp_ge (tgt := 168) C dX12_throughOf_160 (by decide) r0 r1 (fun e => ?_) (fun e => ?_)
        · have h := h1 e
          refine aj_iload_n C dX12_throughOf_168 rfl ?_
          refine aj_istore_n (lv' := [some (vO 12 q0), some (vI v1), some (vI v2), some (vI v3), some (vI v4), some (vI v5), some (vI v6)]) C dX12_throughOf_169 (by decide) rfl ?_
          refine aj_iinc (lv' := [some (vO 12 q0), some (vI v1), some (vI v2), some (vI (v3 + 1)), some (vI v4), some (vI v5), some (vI v6)]) C dX12_throughOf_170 rfl (by decide) rfl ?_
          refine aj_goto (tgt := 12) C dX12_throughOf_173 (by decide) ?_
          refine aj_wk (lv' := [some (vO 12 q0), some (vI v1), some (vI v2), some (vI (v3 + 1)), none, none, none]) (⟨rfl, ⟨rfl, ⟨rfl, ⟨rfl, trivial⟩⟩⟩⟩) ?_
          exact HK12 q0 v1 v2 (v3 + 1) _ hq0 h
        · have h := h2 e
          refine aj_iload C dX12_throughOf_163 rfl ?_
          refine aj_goto (tgt := 169) C dX12_throughOf_165 (by decide) ?_
          refine aj_istore_n (lv' := [some (vO 12 q0), some (vI v1), some (vI v6), some (vI v3), some (vI v4), some (vI v5), some (vI v6)]) C dX12_throughOf_169 (by decide) rfl ?_
          refine aj_iinc (lv' := [some (vO 12 q0), some (vI v1), some (vI v6), some (vI (v3 + 1)), some (vI v4), some (vI v5), some (vI v6)]) C dX12_throughOf_170 rfl (by decide) rfl ?_
          refine aj_goto (tgt := 12) C dX12_throughOf_173 (by decide) ?_
          refine aj_wk (lv' := [some (vO 12 q0), some (vI v1), some (vI v6), some (vI (v3 + 1)), none, none, none]) (⟨rfl, ⟨rfl, ⟨rfl, ⟨rfl, trivial⟩⟩⟩⟩) ?_
          exact HK12 q0 v1 v6 (v3 + 1) _ hq0 h
      · have h := h2 e
        refine aj_aload_n C dX12_throughOf_138 rfl ?_
        refine aj_getA (x := 0) (y := 60) C flX12_48 hq0 rfl dX12_throughOf_139 ?_
        refine aj_iload C dX12_throughOf_142 rfl ?_
        obtain ⟨r0, h⟩ := h
        refine aj_iald C (aj_ca (e := 0) (n := 60) (j := 24) hq0 (by decide) rfl) (by decide) r0 dX12_throughOf_144 rfl ?_
        refine aj_aload_n C dX12_throughOf_145 rfl ?_
        refine aj_getA (x := 0) (y := 60) C flX12_48 hq0 rfl dX12_throughOf_146 ?_
        refine aj_iload C dX12_throughOf_149 rfl ?_
        obtain ⟨r0, h⟩ := h
        refine aj_iald C (aj_ca (e := 0) (n := 60) (j := 24) hq0 (by decide) rfl) (by decide) r0 dX12_throughOf_151 rfl ?_
        refine aj_iadd C dX12_throughOf_152 ?_
        refine aj_iconst C dX12_throughOf_153 ?_
        refine aj_iadd C dX12_throughOf_154 ?_
        refine aj_istore (lv' := [some (vO 12 q0), some (vI v1), some (vI v2), some (vI v3), some (vI v4), some (vI v5), some (vI (((m (24 :: q0) v4.toNat) + (m (24 :: q0) v5.toNat)) + 1))]) C dX12_throughOf_155 (by decide) rfl ?_
        refine aj_iload C dX12_throughOf_157 rfl ?_
        refine aj_iload_n C dX12_throughOf_159 rfl ?_
        obtain ⟨r0, r1, h1, h2⟩ := h
        refine aj_icmp_ge (tgt := 168) C dX12_throughOf_160 (by decide) r0 r1 (fun e => ?_) (fun e => ?_)
        · have h := h1 e
          refine aj_iload_n C dX12_throughOf_168 rfl ?_
          refine aj_istore_n (lv' := [some (vO 12 q0), some (vI v1), some (vI v2), some (vI v3), some (vI v4), some (vI v5), some (vI (((m (24 :: q0) v4.toNat) + (m (24 :: q0) v5.toNat)) + 1))]) C dX12_throughOf_169 (by decide) rfl ?_
          refine aj_iinc (lv' := [some (vO 12 q0), some (vI v1), some (vI v2), some (vI (v3 + 1)), some (vI v4), some (vI v5), some (vI (((m (24 :: q0) v4.toNat) + (m (24 :: q0) v5.toNat)) + 1))]) C dX12_throughOf_170 rfl (by decide) rfl ?_
          refine aj_goto (tgt := 12) C dX12_throughOf_173 (by decide) ?_
          refine aj_wk (lv' := [some (vO 12 q0), some (vI v1), some (vI v2), some (vI (v3 + 1)), none, none, none]) (⟨rfl, ⟨rfl, ⟨rfl, ⟨rfl, trivial⟩⟩⟩⟩) ?_
          exact HK12 q0 v1 v2 (v3 + 1) _ hq0 h
        · have h := h2 e
          refine aj_iload C dX12_throughOf_163 rfl ?_
          refine aj_goto (tgt := 169) C dX12_throughOf_165 (by decide) ?_
          refine aj_istore_n (lv' := [some (vO 12 q0), some (vI v1), some (vI (((m (24 :: q0) v4.toNat) + (m (24 :: q0) v5.toNat)) + 1)), some (vI v3), some (vI v4), some (vI v5), some (vI (((m (24 :: q0) v4.toNat) + (m (24 :: q0) v5.toNat)) + 1))]) C dX12_throughOf_169 (by decide) rfl ?_
          refine aj_iinc (lv' := [some (vO 12 q0), some (vI v1), some (vI (((m (24 :: q0) v4.toNat) + (m (24 :: q0) v5.toNat)) + 1)), some (vI (v3 + 1)), some (vI v4), some (vI v5), some (vI (((m (24 :: q0) v4.toNat) + (m (24 :: q0) v5.toNat)) + 1))]) C dX12_throughOf_170 rfl (by decide) rfl ?_
          refine aj_goto (tgt := 12) C dX12_throughOf_173 (by decide) ?_
          refine aj_wk (lv' := [some (vO 12 q0), some (vI v1), some (vI (((m (24 :: q0) v4.toNat) + (m (24 :: q0) v5.toNat)) + 1)), some (vI (v3 + 1)), none, none, none]) (⟨rfl, ⟨rfl, ⟨rfl, ⟨rfl, trivial⟩⟩⟩⟩) ?_
          exact HK12 q0 v1 (((m (24 :: q0) v4.toNat) + (m (24 :: q0) v5.toNat)) + 1) (v3 + 1) _ hq0 h
    · have h := h2 e
      refine aj_aload_n C dX12_throughOf_87 rfl ?_
      refine aj_getA (x := 0) (y := 60) C flX12_51 hq0 rfl dX12_throughOf_88 ?_
      refine aj_iload C dX12_throughOf_91 rfl ?_
      refine aj_iload_n C dX12_throughOf_93 rfl ?_
      obtain ⟨r0, r1, h1, h2⟩ := h
      refine aj_icmp_ne (tgt := 102) C dX12_throughOf_94 (by decide) r0 r1 (fun e => ?_) (fun e => ?_)
      · have h := h1 e
        refine aj_iload C dX12_throughOf_102 rfl ?_
        refine aj_wk (lv' := [some (vO 12 q0), some (vI v1), some (vI v2), some (vI v3), none, none, none]) (⟨rfl, ⟨rfl, ⟨rfl, ⟨rfl, trivial⟩⟩⟩⟩) ?_
        exact tX12_throughOf_104 C K HK12 q0 v1 v2 v3 (25 :: q0) v4 _ hq0 (aj_ca (e := 0) (n := 60) (j := 25) hq0 (by decide) rfl) h
      · have h := h2 e
        refine aj_iload C dX12_throughOf_97 rfl ?_
        refine aj_goto (tgt := 104) C dX12_throughOf_99 (by decide) ?_
        refine aj_wk (lv' := [some (vO 12 q0), some (vI v1), some (vI v2), some (vI v3), none, none, none]) (⟨rfl, ⟨rfl, ⟨rfl, ⟨rfl, trivial⟩⟩⟩⟩) ?_
        exact tX12_throughOf_104 C K HK12 q0 v1 v2 v3 (25 :: q0) v5 _ hq0 (aj_ca (e := 0) (n := 60) (j := 25) hq0 (by decide) rfl) h
def hX12_throughOf_12 (f : Nat) (Φ : Int → aj_M → Prop) : Nat → List Nat → Int → Int → Int → aj_M → Prop
  | 0, _, _, _, _, _ => False
  | k + 1, q0, v1, v2, v3, m => rI v3 ∧ rI (m q0 22) ∧ ((m q0 22) ≤ v3 → Φ v2 m) ∧ (¬ ((m q0 22) ≤ v3) → (0 ≤ v3 ∧ v3 < 144) ∧ (0 ≤ v3 ∧ v3 < 144) ∧ (0 ≤ (m (18 :: q0) v3.toNat) ∧ (m (18 :: q0) v3.toNat) < 60) ∧ rI (m (24 :: q0) (m (18 :: q0) v3.toNat).toNat) ∧ (¬ (m (24 :: q0) (m (18 :: q0) v3.toNat).toNat) = 268435456 → rI (m (18 :: q0) v3.toNat) ∧ rI v1 ∧ (¬ (m (18 :: q0) v3.toNat) = v1 → hX12_throughOf_75 f Φ (fun q0 v1 v2 v3 m => hX12_throughOf_12 f Φ k q0 v1 v2 v3 m) q0 v1 v2 v3 (m (18 :: q0) v3.toNat) (m (19 :: q0) v3.toNat) 268435456 m) ∧ ((m (18 :: q0) v3.toNat) = v1 → rI (m (19 :: q0) v3.toNat) ∧ rI v1 ∧ (¬ (m (19 :: q0) v3.toNat) = v1 → hX12_throughOf_75 f Φ (fun q0 v1 v2 v3 m => hX12_throughOf_12 f Φ k q0 v1 v2 v3 m) q0 v1 v2 v3 (m (18 :: q0) v3.toNat) (m (19 :: q0) v3.toNat) 268435456 m) ∧ ((m (19 :: q0) v3.toNat) = v1 → rI v2 ∧ (v2 ≤ 1 → hX12_throughOf_12 f Φ k q0 v1 v2 (v3 + 1) m) ∧ (¬ (v2 ≤ 1) → hX12_throughOf_12 f Φ k q0 v1 1 (v3 + 1) m)))) ∧ ((m (24 :: q0) (m (18 :: q0) v3.toNat).toNat) = 268435456 → hX12_throughOf_12 f Φ k q0 v1 v2 (v3 + 1) m))
set_option maxHeartbeats 4000000 in
set_option maxRecDepth 100000 in
theorem tX12_throughOf_12 {X : aj_T} {n f : Nat} {Φ : Int → aj_M → Prop} (C : aj_Cx X cX12_throughOf RX12 7 (n + 2)) (K : aj_Rt X (some .int) (fun r m => ∃ z, r = some (vI z) ∧ Φ z m)) : ∀ (k : Nat) (q0 : List Nat) (v1 : Int) (v2 : Int) (v3 : Int) (m : aj_M) (hq0 : (.inl (12, q0) : aj_R) ∈ aj_pls), hX12_throughOf_12 f Φ k q0 v1 v2 v3 m → aj_J X 12 [some (vO 12 q0), some (vI v1), some (vI v2), some (vI v3), none, none, none] [] m := by
  intro k
  induction k with
  | zero =>
    intro q0 v1 v2 v3 m _ h
    exact h.elim
  | succ k ih =>
    intro q0 v1 v2 v3 m hq0 h
    unfold hX12_throughOf_12 at h
    refine aj_iload_n C dX12_throughOf_12 rfl ?_
    refine aj_aload_n C dX12_throughOf_13 rfl ?_
    refine aj_getI C flX12_265 hq0 (by decide) dX12_throughOf_14 rfl ?_
    obtain ⟨r0, r1, h1, h2⟩ := h
    refine aj_icmp_ge (tgt := 176) C dX12_throughOf_17 (by decide) r0 r1 (fun e => ?_) (fun e => ?_)
    · have h := h1 e
      refine aj_iload_n C dX12_throughOf_176 rfl ?_
      exact aj_iret C K dX12_throughOf_177 ⟨_, rfl, h⟩
    · have h := h2 e
      refine aj_aload_n C dX12_throughOf_20 rfl ?_
      refine aj_getA (x := 0) (y := 144) C flX12_36 hq0 rfl dX12_throughOf_21 ?_
      refine aj_iload_n C dX12_throughOf_24 rfl ?_
      obtain ⟨r0, h⟩ := h
      refine aj_iald C (aj_ca (e := 0) (n := 144) (j := 18) hq0 (by decide) rfl) (by decide) r0 dX12_throughOf_25 rfl ?_
      refine aj_istore (lv' := [some (vO 12 q0), some (vI v1), some (vI v2), some (vI v3), some (vI (m (18 :: q0) v3.toNat)), none, none]) C dX12_throughOf_26 (by decide) rfl ?_
      refine aj_aload_n C dX12_throughOf_28 rfl ?_
      refine aj_getA (x := 0) (y := 144) C flX12_39 hq0 rfl dX12_throughOf_29 ?_
      refine aj_iload_n C dX12_throughOf_32 rfl ?_
      obtain ⟨r0, h⟩ := h
      refine aj_iald C (aj_ca (e := 0) (n := 144) (j := 19) hq0 (by decide) rfl) (by decide) r0 dX12_throughOf_33 rfl ?_
      refine aj_istore (lv' := [some (vO 12 q0), some (vI v1), some (vI v2), some (vI v3), some (vI (m (18 :: q0) v3.toNat)), some (vI (m (19 :: q0) v3.toNat)), none]) C dX12_throughOf_34 (by decide) rfl ?_
      refine aj_aload_n C dX12_throughOf_36 rfl ?_
      refine aj_getA (x := 0) (y := 60) C flX12_48 hq0 rfl dX12_throughOf_37 ?_
      refine aj_iload C dX12_throughOf_40 rfl ?_
      obtain ⟨r0, h⟩ := h
      refine aj_iald C (aj_ca (e := 0) (n := 60) (j := 24) hq0 (by decide) rfl) (by decide) r0 dX12_throughOf_42 rfl ?_
      refine aj_ldcw (z := 268435456) C (wd1900) rfl dX12_throughOf_43 ?_
      obtain ⟨r0, h1, h2⟩ := h
      refine aj_icmp_ne (tgt := 52) C dX12_throughOf_46 (by decide) r0 (by decide) (fun e => ?_) (fun e => ?_)
      · have h := h1 e
        refine aj_ldcw (z := 268435456) C (wd1900) rfl dX12_throughOf_52 ?_
        refine aj_istore (lv' := [some (vO 12 q0), some (vI v1), some (vI v2), some (vI v3), some (vI (m (18 :: q0) v3.toNat)), some (vI (m (19 :: q0) v3.toNat)), some (vI 268435456)]) C dX12_throughOf_55 (by decide) rfl ?_
        refine aj_iload C dX12_throughOf_57 rfl ?_
        refine aj_iload_n C dX12_throughOf_59 rfl ?_
        obtain ⟨r0, r1, h1, h2⟩ := h
        refine aj_icmp_ne (tgt := 75) C dX12_throughOf_60 (by decide) r0 r1 (fun e => ?_) (fun e => ?_)
        · have h := h1 e
          exact tX12_throughOf_75 C K (fun q0 v1 v2 v3 m hq0 hh => ih q0 v1 v2 v3 m hq0 hh) q0 v1 v2 v3 (m (18 :: q0) v3.toNat) (m (19 :: q0) v3.toNat) 268435456 _ hq0 h
        · have h := h2 e
          refine aj_iload C dX12_throughOf_63 rfl ?_
          refine aj_iload_n C dX12_throughOf_65 rfl ?_
          obtain ⟨r0, r1, h1, h2⟩ := h
          refine aj_icmp_ne (tgt := 75) C dX12_throughOf_66 (by decide) r0 r1 (fun e => ?_) (fun e => ?_)
          · have h := h1 e
            exact tX12_throughOf_75 C K (fun q0 v1 v2 v3 m hq0 hh => ih q0 v1 v2 v3 m hq0 hh) q0 v1 v2 v3 (m (18 :: q0) v3.toNat) (m (19 :: q0) v3.toNat) 268435456 _ hq0 h
          · have h := h2 e
            refine aj_iconst C dX12_throughOf_69 ?_
            refine aj_istore (lv' := [some (vO 12 q0), some (vI v1), some (vI v2), some (vI v3), some (vI (m (18 :: q0) v3.toNat)), some (vI (m (19 :: q0) v3.toNat)), some (vI 1)]) C dX12_throughOf_70 (by decide) rfl ?_
            refine aj_goto (tgt := 157) C dX12_throughOf_72 (by decide) ?_
            refine aj_iload C dX12_throughOf_157 rfl ?_
            refine aj_iload_n C dX12_throughOf_159 rfl ?_
            obtain ⟨r1, h1, h2⟩ := h
            refine aj_icmp_ge (tgt := 168) C dX12_throughOf_160 (by decide) (by decide) r1 (fun e => ?_) (fun e => ?_)
            · have h := h1 e
              refine aj_iload_n C dX12_throughOf_168 rfl ?_
              refine aj_istore_n (lv' := [some (vO 12 q0), some (vI v1), some (vI v2), some (vI v3), some (vI (m (18 :: q0) v3.toNat)), some (vI (m (19 :: q0) v3.toNat)), some (vI 1)]) C dX12_throughOf_169 (by decide) rfl ?_
              refine aj_iinc (lv' := [some (vO 12 q0), some (vI v1), some (vI v2), some (vI (v3 + 1)), some (vI (m (18 :: q0) v3.toNat)), some (vI (m (19 :: q0) v3.toNat)), some (vI 1)]) C dX12_throughOf_170 rfl (by decide) rfl ?_
              refine aj_goto (tgt := 12) C dX12_throughOf_173 (by decide) ?_
              refine aj_wk (lv' := [some (vO 12 q0), some (vI v1), some (vI v2), some (vI (v3 + 1)), none, none, none]) (⟨rfl, ⟨rfl, ⟨rfl, ⟨rfl, trivial⟩⟩⟩⟩) ?_
              exact ih q0 v1 v2 (v3 + 1) _ hq0 h
            · have h := h2 e
              refine aj_iload C dX12_throughOf_163 rfl ?_
              refine aj_goto (tgt := 169) C dX12_throughOf_165 (by decide) ?_
              refine aj_istore_n (lv' := [some (vO 12 q0), some (vI v1), some (vI 1), some (vI v3), some (vI (m (18 :: q0) v3.toNat)), some (vI (m (19 :: q0) v3.toNat)), some (vI 1)]) C dX12_throughOf_169 (by decide) rfl ?_
              refine aj_iinc (lv' := [some (vO 12 q0), some (vI v1), some (vI 1), some (vI (v3 + 1)), some (vI (m (18 :: q0) v3.toNat)), some (vI (m (19 :: q0) v3.toNat)), some (vI 1)]) C dX12_throughOf_170 rfl (by decide) rfl ?_
              refine aj_goto (tgt := 12) C dX12_throughOf_173 (by decide) ?_
              refine aj_wk (lv' := [some (vO 12 q0), some (vI v1), some (vI 1), some (vI (v3 + 1)), none, none, none]) (⟨rfl, ⟨rfl, ⟨rfl, ⟨rfl, trivial⟩⟩⟩⟩) ?_
              exact ih q0 v1 1 (v3 + 1) _ hq0 h
      · have h := h2 e
        refine aj_goto (tgt := 170) C dX12_throughOf_49 (by decide) ?_
        refine aj_iinc (lv' := [some (vO 12 q0), some (vI v1), some (vI v2), some (vI (v3 + 1)), some (vI (m (18 :: q0) v3.toNat)), some (vI (m (19 :: q0) v3.toNat)), none]) C dX12_throughOf_170 rfl (by decide) rfl ?_
        refine aj_goto (tgt := 12) C dX12_throughOf_173 (by decide) ?_
        refine aj_wk (lv' := [some (vO 12 q0), some (vI v1), some (vI v2), some (vI (v3 + 1)), none, none, none]) (⟨rfl, ⟨rfl, ⟨rfl, ⟨rfl, trivial⟩⟩⟩⟩) ?_
        exact ih q0 v1 v2 (v3 + 1) _ hq0 h
def wX12_throughOf (f : Nat) (Φ : Int → aj_M → Prop) (q0 : List Nat) (v1 : Int) (m : aj_M) : Prop := wX12_laysFar f (fun z1 m1 => hX12_throughOf_12 f Φ f q0 v1 268435456 0 m1) q0 v1 m
set_option maxHeartbeats 4000000 in
set_option maxRecDepth 100000 in
theorem sX12_throughOf {n f : Nat} {Φ : Int → aj_M → Prop} {q0 : List Nat} {v1 : Int} {m : aj_M} (hq0 : (.inl (12, q0) : aj_R) ∈ aj_pls) (h : wX12_throughOf f Φ q0 v1 m) : aj_Ct (n + 2) yX12_throughOf cX12_throughOf 7 (some .int) [vO 12 q0, vI v1] m (fun r m => ∃ z, r = some (vI z) ∧ Φ z m) := by
  refine aj_met (lv := [some (vO 12 q0), some (vI v1), none, none, none, none, none]) (by decide +kernel) rfl (Nat.le_of_ble_eq_true rfl) (fun X C K => ?_)
  unfold wX12_throughOf at h
  refine aj_aload_n C dX12_throughOf_0 rfl ?_
  refine aj_iload_n C dX12_throughOf_1 rfl ?_
  refine aj_callV (rest := []) C mvX12_285 (sX12_laysFar hq0 h) hq0 (aj_np 1 (by decide +kernel) rfl) (Nat.le_of_ble_eq_true rfl) rfl dX12_throughOf_2 (fun r m1 h => ?_)
  obtain ⟨z1, rfl, h⟩ := h
  refine aj_pop C aj_nI dX12_throughOf_5 ?_
  refine aj_ldcw (z := 268435456) C (wd1900) rfl dX12_throughOf_6 ?_
  refine aj_istore_n (lv' := [some (vO 12 q0), some (vI v1), some (vI 268435456), none, none, none, none]) C dX12_throughOf_9 (by decide) rfl ?_
  refine aj_iconst C dX12_throughOf_10 ?_
  refine aj_istore_n (lv' := [some (vO 12 q0), some (vI v1), some (vI 268435456), some (vI 0), none, none, none]) C dX12_throughOf_11 (by decide) rfl ?_
  exact tX12_throughOf_12 C K f q0 v1 268435456 0 _ hq0 h
theorem dX12_girthNow_0 : decode cX12_girthNow 0 = .ok (.ldc_w 281, 3) := by decide +kernel
theorem dX12_girthNow_3 : decode cX12_girthNow 3 = .ok (.istore_n 1, 1) := by decide +kernel
theorem dX12_girthNow_4 : decode cX12_girthNow 4 = .ok (.iconst 0, 1) := by decide +kernel
theorem dX12_girthNow_5 : decode cX12_girthNow 5 = .ok (.istore_n 2, 1) := by decide +kernel
theorem dX12_girthNow_6 : decode cX12_girthNow 6 = .ok (.iload_n 2, 1) := by decide +kernel
theorem dX12_girthNow_7 : decode cX12_girthNow 7 = .ok (.aload_n 0, 1) := by decide +kernel
theorem dX12_girthNow_8 : decode cX12_girthNow 8 = .ok (.getfield 271, 3) := by decide +kernel
theorem dX12_girthNow_11 : decode cX12_girthNow 11 = .ok (.if_icmp .ge 26, 3) := by decide +kernel
theorem dX12_girthNow_14 : decode cX12_girthNow 14 = .ok (.aload_n 0, 1) := by decide +kernel
theorem dX12_girthNow_15 : decode cX12_girthNow 15 = .ok (.iload_n 2, 1) := by decide +kernel
theorem dX12_girthNow_16 : decode cX12_girthNow 16 = .ok (.invokevirtual 288, 3) := by decide +kernel
theorem dX12_girthNow_19 : decode cX12_girthNow 19 = .ok (.istore_n 3, 1) := by decide +kernel
theorem dX12_girthNow_20 : decode cX12_girthNow 20 = .ok (.iload_n 3, 1) := by decide +kernel
theorem dX12_girthNow_21 : decode cX12_girthNow 21 = .ok (.iload_n 1, 1) := by decide +kernel
theorem dX12_girthNow_22 : decode cX12_girthNow 22 = .ok (.if_icmp .ge 7, 3) := by decide +kernel
theorem dX12_girthNow_25 : decode cX12_girthNow 25 = .ok (.iload_n 3, 1) := by decide +kernel
theorem dX12_girthNow_26 : decode cX12_girthNow 26 = .ok (.goto 4, 3) := by decide +kernel
theorem dX12_girthNow_29 : decode cX12_girthNow 29 = .ok (.iload_n 1, 1) := by decide +kernel
theorem dX12_girthNow_30 : decode cX12_girthNow 30 = .ok (.istore_n 1, 1) := by decide +kernel
theorem dX12_girthNow_31 : decode cX12_girthNow 31 = .ok (.iinc 2 1, 3) := by decide +kernel
theorem dX12_girthNow_34 : decode cX12_girthNow 34 = .ok (.goto (-28), 3) := by decide +kernel
theorem dX12_girthNow_37 : decode cX12_girthNow 37 = .ok (.iload_n 1, 1) := by decide +kernel
theorem dX12_girthNow_38 : decode cX12_girthNow 38 = .ok (.ireturn, 1) := by decide +kernel
def hX12_girthNow_6 (f : Nat) (Φ : Int → aj_M → Prop) : Nat → List Nat → Int → Int → aj_M → Prop
  | 0, _, _, _, _ => False
  | k + 1, q0, v1, v2, m => rI v2 ∧ rI (m q0 23) ∧ ((m q0 23) ≤ v2 → Φ v1 m) ∧ (¬ ((m q0 23) ≤ v2) → wX12_throughOf f (fun z1 m1 => rI z1 ∧ rI v1 ∧ (v1 ≤ z1 → hX12_girthNow_6 f Φ k q0 v1 (v2 + 1) m1) ∧ (¬ (v1 ≤ z1) → hX12_girthNow_6 f Φ k q0 z1 (v2 + 1) m1)) q0 v2 m)
set_option maxHeartbeats 4000000 in
set_option maxRecDepth 100000 in
theorem tX12_girthNow_6 {X : aj_T} {n f : Nat} {Φ : Int → aj_M → Prop} (C : aj_Cx X cX12_girthNow RX12 4 (n + 3)) (K : aj_Rt X (some .int) (fun r m => ∃ z, r = some (vI z) ∧ Φ z m)) : ∀ (k : Nat) (q0 : List Nat) (v1 : Int) (v2 : Int) (m : aj_M) (hq0 : (.inl (12, q0) : aj_R) ∈ aj_pls), hX12_girthNow_6 f Φ k q0 v1 v2 m → aj_J X 6 [some (vO 12 q0), some (vI v1), some (vI v2), none] [] m := by
  intro k
  induction k with
  | zero =>
    intro q0 v1 v2 m _ h
    exact h.elim
  | succ k ih =>
    intro q0 v1 v2 m hq0 h
    unfold hX12_girthNow_6 at h
    refine aj_iload_n C dX12_girthNow_6 rfl ?_
    refine aj_aload_n C dX12_girthNow_7 rfl ?_
    refine aj_getI C flX12_271 hq0 (by decide) dX12_girthNow_8 rfl ?_
    obtain ⟨r0, r1, h1, h2⟩ := h
    refine aj_icmp_ge (tgt := 37) C dX12_girthNow_11 (by decide) r0 r1 (fun e => ?_) (fun e => ?_)
    · have h := h1 e
      refine aj_iload_n C dX12_girthNow_37 rfl ?_
      exact aj_iret C K dX12_girthNow_38 ⟨_, rfl, h⟩
    · have h := h2 e
      refine aj_aload_n C dX12_girthNow_14 rfl ?_
      refine aj_iload_n C dX12_girthNow_15 rfl ?_
      refine aj_callV (rest := []) C mvX12_288 (sX12_throughOf hq0 h) hq0 (aj_np 1 (by decide +kernel) rfl) (Nat.le_of_ble_eq_true rfl) rfl dX12_girthNow_16 (fun r m1 h => ?_)
      obtain ⟨z1, rfl, h⟩ := h
      refine aj_istore_n (lv' := [some (vO 12 q0), some (vI v1), some (vI v2), some (vI z1)]) C dX12_girthNow_19 (by decide) rfl ?_
      refine aj_iload_n C dX12_girthNow_20 rfl ?_
      refine aj_iload_n C dX12_girthNow_21 rfl ?_
      obtain ⟨r0, r1, h1, h2⟩ := h
      refine aj_icmp_ge (tgt := 29) C dX12_girthNow_22 (by decide) r0 r1 (fun e => ?_) (fun e => ?_)
      · have h := h1 e
        refine aj_iload_n C dX12_girthNow_29 rfl ?_
        refine aj_istore_n (lv' := [some (vO 12 q0), some (vI v1), some (vI v2), some (vI z1)]) C dX12_girthNow_30 (by decide) rfl ?_
        refine aj_iinc (lv' := [some (vO 12 q0), some (vI v1), some (vI (v2 + 1)), some (vI z1)]) C dX12_girthNow_31 rfl (by decide) rfl ?_
        refine aj_goto (tgt := 6) C dX12_girthNow_34 (by decide) ?_
        refine aj_wk (lv' := [some (vO 12 q0), some (vI v1), some (vI (v2 + 1)), none]) (⟨rfl, ⟨rfl, ⟨rfl, trivial⟩⟩⟩) ?_
        exact ih q0 v1 (v2 + 1) _ hq0 h
      · have h := h2 e
        refine aj_iload_n C dX12_girthNow_25 rfl ?_
        refine aj_goto (tgt := 30) C dX12_girthNow_26 (by decide) ?_
        refine aj_istore_n (lv' := [some (vO 12 q0), some (vI z1), some (vI v2), some (vI z1)]) C dX12_girthNow_30 (by decide) rfl ?_
        refine aj_iinc (lv' := [some (vO 12 q0), some (vI z1), some (vI (v2 + 1)), some (vI z1)]) C dX12_girthNow_31 rfl (by decide) rfl ?_
        refine aj_goto (tgt := 6) C dX12_girthNow_34 (by decide) ?_
        refine aj_wk (lv' := [some (vO 12 q0), some (vI z1), some (vI (v2 + 1)), none]) (⟨rfl, ⟨rfl, ⟨rfl, trivial⟩⟩⟩) ?_
        exact ih q0 z1 (v2 + 1) _ hq0 h
def wX12_girthNow (f : Nat) (Φ : Int → aj_M → Prop) (q0 : List Nat) (m : aj_M) : Prop := hX12_girthNow_6 f Φ f q0 268435456 0 m
set_option maxHeartbeats 4000000 in
set_option maxRecDepth 100000 in
theorem sX12_girthNow {n f : Nat} {Φ : Int → aj_M → Prop} {q0 : List Nat} {m : aj_M} (hq0 : (.inl (12, q0) : aj_R) ∈ aj_pls) (h : wX12_girthNow f Φ q0 m) : aj_Ct (n + 3) yX12_girthNow cX12_girthNow 4 (some .int) [vO 12 q0] m (fun r m => ∃ z, r = some (vI z) ∧ Φ z m) := by
  refine aj_met (lv := [some (vO 12 q0), none, none, none]) (by decide +kernel) rfl (Nat.le_of_ble_eq_true rfl) (fun X C K => ?_)
  unfold wX12_girthNow at h
  refine aj_ldcw (z := 268435456) C (wd1900) rfl dX12_girthNow_0 ?_
  refine aj_istore_n (lv' := [some (vO 12 q0), some (vI 268435456), none, none]) C dX12_girthNow_3 (by decide) rfl ?_
  refine aj_iconst C dX12_girthNow_4 ?_
  refine aj_istore_n (lv' := [some (vO 12 q0), some (vI 268435456), some (vI 0), none]) C dX12_girthNow_5 (by decide) rfl ?_
  exact tX12_girthNow_6 C K f q0 268435456 0 _ hq0 h
theorem dX12_toldFar_0 : decode cX12_toldFar 0 = .ok (.iload_n 0, 1) := by decide +kernel
theorem dX12_toldFar_1 : decode cX12_toldFar 1 = .ok (.ldc_w 281, 3) := by decide +kernel
theorem dX12_toldFar_4 : decode cX12_toldFar 4 = .ok (.if_icmp .ne 7, 3) := by decide +kernel
theorem dX12_toldFar_7 : decode cX12_toldFar 7 = .ok (.iconst (-1), 1) := by decide +kernel
theorem dX12_toldFar_8 : decode cX12_toldFar 8 = .ok (.goto 4, 3) := by decide +kernel
theorem dX12_toldFar_11 : decode cX12_toldFar 11 = .ok (.iload_n 0, 1) := by decide +kernel
theorem dX12_toldFar_12 : decode cX12_toldFar 12 = .ok (.ireturn, 1) := by decide +kernel
def wX12_toldFar (f : Nat) (Φ : Int → aj_M → Prop) (v0 : Int) (m : aj_M) : Prop := rI v0 ∧ (¬ v0 = 268435456 → Φ v0 m) ∧ (v0 = 268435456 → Φ (-1) m)
set_option maxHeartbeats 4000000 in
set_option maxRecDepth 100000 in
theorem sX12_toldFar {n f : Nat} {Φ : Int → aj_M → Prop} {v0 : Int} {m : aj_M}  (h : wX12_toldFar f Φ v0 m) : aj_Ct n yX12_toldFar cX12_toldFar 1 (some .int) [vI v0] m (fun r m => ∃ z, r = some (vI z) ∧ Φ z m) := by
  refine aj_met (lv := [some (vI v0)]) (by decide +kernel) rfl (Nat.le_of_ble_eq_true rfl) (fun X C K => ?_)
  unfold wX12_toldFar at h
  refine aj_iload_n C dX12_toldFar_0 rfl ?_
  refine aj_ldcw (z := 268435456) C (wd1900) rfl dX12_toldFar_1 ?_
  obtain ⟨r0, h1, h2⟩ := h
  refine aj_icmp_ne (tgt := 11) C dX12_toldFar_4 (by decide) r0 (by decide) (fun e => ?_) (fun e => ?_)
  · have h := h1 e
    refine aj_iload_n C dX12_toldFar_11 rfl ?_
    exact aj_iret C K dX12_toldFar_12 ⟨_, rfl, h⟩
  · have h := h2 e
    refine aj_iconst C dX12_toldFar_7 ?_
    refine aj_goto (tgt := 12) C dX12_toldFar_8 (by decide) ?_
    exact aj_iret C K dX12_toldFar_12 ⟨_, rfl, h⟩
theorem dX12_arc_0 : decode cX12_arc 0 = .ok (.aload_n 0, 1) := by decide +kernel
theorem dX12_arc_1 : decode cX12_arc 1 = .ok (.iconst 0, 1) := by decide +kernel
theorem dX12_arc_2 : decode cX12_arc 2 = .ok (.putfield 1, 3) := by decide +kernel
theorem dX12_arc_5 : decode cX12_arc 5 = .ok (.aload_n 0, 1) := by decide +kernel
theorem dX12_arc_6 : decode cX12_arc 6 = .ok (.iload_n 1, 1) := by decide +kernel
theorem dX12_arc_7 : decode cX12_arc 7 = .ok (.i2l, 1) := by decide +kernel
theorem dX12_arc_8 : decode cX12_arc 8 = .ok (.invokevirtual 291, 3) := by decide +kernel
theorem dX12_arc_11 : decode cX12_arc 11 = .ok (.ifCond .ne 6, 3) := by decide +kernel
theorem dX12_arc_14 : decode cX12_arc 14 = .ok (.bipush (-2), 2) := by decide +kernel
theorem dX12_arc_16 : decode cX12_arc 16 = .ok (.ireturn, 1) := by decide +kernel
theorem dX12_arc_17 : decode cX12_arc 17 = .ok (.iload_n 2, 1) := by decide +kernel
theorem dX12_arc_18 : decode cX12_arc 18 = .ok (.tableswitch 95 0 4 #[34, 44, 54, 64, 74], 34) := by decide +kernel
theorem dX12_arc_52 : decode cX12_arc 52 = .ok (.aload_n 0, 1) := by decide +kernel
theorem dX12_arc_53 : decode cX12_arc 53 = .ok (.getfield 13, 3) := by decide +kernel
theorem dX12_arc_56 : decode cX12_arc 56 = .ok (.bipush 13, 2) := by decide +kernel
theorem dX12_arc_58 : decode cX12_arc 58 = .ok (.iload_n 1, 1) := by decide +kernel
theorem dX12_arc_59 : decode cX12_arc 59 = .ok (.iadd, 1) := by decide +kernel
theorem dX12_arc_60 : decode cX12_arc 60 = .ok (.iaload, 1) := by decide +kernel
theorem dX12_arc_61 : decode cX12_arc 61 = .ok (.ireturn, 1) := by decide +kernel
theorem dX12_arc_62 : decode cX12_arc 62 = .ok (.aload_n 0, 1) := by decide +kernel
theorem dX12_arc_63 : decode cX12_arc 63 = .ok (.getfield 13, 3) := by decide +kernel
theorem dX12_arc_66 : decode cX12_arc 66 = .ok (.bipush 25, 2) := by decide +kernel
theorem dX12_arc_68 : decode cX12_arc 68 = .ok (.iload_n 1, 1) := by decide +kernel
theorem dX12_arc_69 : decode cX12_arc 69 = .ok (.iadd, 1) := by decide +kernel
theorem dX12_arc_70 : decode cX12_arc 70 = .ok (.iaload, 1) := by decide +kernel
theorem dX12_arc_71 : decode cX12_arc 71 = .ok (.ireturn, 1) := by decide +kernel
theorem dX12_arc_72 : decode cX12_arc 72 = .ok (.aload_n 0, 1) := by decide +kernel
theorem dX12_arc_73 : decode cX12_arc 73 = .ok (.getfield 13, 3) := by decide +kernel
theorem dX12_arc_76 : decode cX12_arc 76 = .ok (.bipush 49, 2) := by decide +kernel
theorem dX12_arc_78 : decode cX12_arc 78 = .ok (.iload_n 1, 1) := by decide +kernel
theorem dX12_arc_79 : decode cX12_arc 79 = .ok (.iadd, 1) := by decide +kernel
theorem dX12_arc_80 : decode cX12_arc 80 = .ok (.iaload, 1) := by decide +kernel
theorem dX12_arc_81 : decode cX12_arc 81 = .ok (.ireturn, 1) := by decide +kernel
theorem dX12_arc_82 : decode cX12_arc 82 = .ok (.aload_n 0, 1) := by decide +kernel
theorem dX12_arc_83 : decode cX12_arc 83 = .ok (.getfield 13, 3) := by decide +kernel
theorem dX12_arc_86 : decode cX12_arc 86 = .ok (.bipush 37, 2) := by decide +kernel
theorem dX12_arc_88 : decode cX12_arc 88 = .ok (.iload_n 1, 1) := by decide +kernel
theorem dX12_arc_89 : decode cX12_arc 89 = .ok (.iadd, 1) := by decide +kernel
theorem dX12_arc_90 : decode cX12_arc 90 = .ok (.iaload, 1) := by decide +kernel
theorem dX12_arc_91 : decode cX12_arc 91 = .ok (.ireturn, 1) := by decide +kernel
theorem dX12_arc_92 : decode cX12_arc 92 = .ok (.aload_n 0, 1) := by decide +kernel
theorem dX12_arc_93 : decode cX12_arc 93 = .ok (.getfield 13, 3) := by decide +kernel
theorem dX12_arc_96 : decode cX12_arc 96 = .ok (.bipush 61, 2) := by decide +kernel
theorem dX12_arc_98 : decode cX12_arc 98 = .ok (.iaload, 1) := by decide +kernel
theorem dX12_arc_99 : decode cX12_arc 99 = .ok (.i2l, 1) := by decide +kernel
theorem dX12_arc_100 : decode cX12_arc 100 = .ok (.iload_n 1, 1) := by decide +kernel
theorem dX12_arc_101 : decode cX12_arc 101 = .ok (.invokestatic 274, 3) := by decide +kernel
theorem dX12_arc_104 : decode cX12_arc 104 = .ok (.ifCond .eq 7, 3) := by decide +kernel
theorem dX12_arc_107 : decode cX12_arc 107 = .ok (.iconst 1, 1) := by decide +kernel
theorem dX12_arc_108 : decode cX12_arc 108 = .ok (.goto 4, 3) := by decide +kernel
theorem dX12_arc_111 : decode cX12_arc 111 = .ok (.iconst 0, 1) := by decide +kernel
theorem dX12_arc_112 : decode cX12_arc 112 = .ok (.ireturn, 1) := by decide +kernel
theorem dX12_arc_113 : decode cX12_arc 113 = .ok (.bipush (-2), 2) := by decide +kernel
theorem dX12_arc_115 : decode cX12_arc 115 = .ok (.ireturn, 1) := by decide +kernel
def wX12_arc (f : Nat) (Φ : Int → aj_M → Prop) (q0 : List Nat) (v1 : Int) (v2 : Int) (m : aj_M) : Prop := ∀ m1, m1 = aj_u m q0 0 0 → rI v1 ∧ wX12_isArc f (fun z1 m2 => rI z1 ∧ (¬ z1 = 0 → rI v2 ∧ (v2 < 0 ∨ 4 < v2 → Φ (-2) m2) ∧ (v2 = 0 → (0 ≤ (13 + v1) ∧ (13 + v1) < 3315) ∧ Φ (m2 (1 :: q0) (13 + v1).toNat) m2) ∧ (v2 = 1 → (0 ≤ (25 + v1) ∧ (25 + v1) < 3315) ∧ Φ (m2 (1 :: q0) (25 + v1).toNat) m2) ∧ (v2 = 2 → (0 ≤ (49 + v1) ∧ (49 + v1) < 3315) ∧ Φ (m2 (1 :: q0) (49 + v1).toNat) m2) ∧ (v2 = 3 → (0 ≤ (37 + v1) ∧ (37 + v1) < 3315) ∧ Φ (m2 (1 :: q0) (37 + v1).toNat) m2) ∧ (v2 = 4 → rI (m2 (1 :: q0) (61 : Int).toNat) ∧ wX12_isIn f (fun z2 m3 => rI z2 ∧ (z2 = 0 → Φ 0 m3) ∧ (¬ (z2 = 0) → Φ 1 m3)) (m2 (1 :: q0) (61 : Int).toNat) v1 m2)) ∧ (z1 = 0 → Φ (-2) m2)) q0 v1 m1
set_option maxHeartbeats 4000000 in
set_option maxRecDepth 100000 in
theorem sX12_arc {n f : Nat} {Φ : Int → aj_M → Prop} {q0 : List Nat} {v1 : Int} {v2 : Int} {m : aj_M} (hq0 : (.inl (12, q0) : aj_R) ∈ aj_pls) (h : wX12_arc f Φ q0 v1 v2 m) : aj_Ct (n + 2) yX12_arc cX12_arc 3 (some .int) [vO 12 q0, vI v1, vI v2] m (fun r m => ∃ z, r = some (vI z) ∧ Φ z m) := by
  refine aj_met (lv := [some (vO 12 q0), some (vI v1), some (vI v2)]) (by decide +kernel) rfl (Nat.le_of_ble_eq_true rfl) (fun X C K => ?_)
  unfold wX12_arc at h
  refine aj_aload_n C dX12_arc_0 rfl ?_
  refine aj_iconst C dX12_arc_1 ?_
  refine aj_putI C fpX12_1 hq0 rfl dX12_arc_2 ?_
  refine aj_nm (fun m1 e1 => ?_)
  have h := h m1 e1
  refine aj_aload_n C dX12_arc_5 rfl ?_
  refine aj_iload_n C dX12_arc_6 rfl ?_
  obtain ⟨r0, h⟩ := h
  refine aj_i2l C dX12_arc_7 r0 ?_
  refine aj_callV (rest := []) C mvX12_291 (sX12_isArc hq0 h) hq0 (aj_np 1 (by decide +kernel) rfl) (Nat.le_of_ble_eq_true rfl) rfl dX12_arc_8 (fun r m2 h => ?_)
  obtain ⟨z1, rfl, h⟩ := h
  obtain ⟨r0, h1, h2⟩ := h
  refine aj_if_ne (tgt := 17) C dX12_arc_11 (by decide) r0 (fun e => ?_) (fun e => ?_)
  · have h := h1 e
    refine aj_iload_n C dX12_arc_17 rfl ?_
    obtain ⟨r0, hd, hc0, hc1, hc2, hc3, hc4⟩ := h
    rcases (by omega : (v2 < 0 ∨ 4 < v2) ∨ v2 = 0 ∨ v2 = 1 ∨ v2 = 2 ∨ v2 = 3 ∨ v2 = 4) with e | e | e | e | e | e
    · have h := hd e
      refine aj_tout (tgt := 113) C dX12_arc_18 r0 e (by decide) ?_
      refine aj_bipush C dX12_arc_113 (by decide) ?_
      exact aj_iret C K dX12_arc_115 ⟨_, rfl, h⟩
    · have h := hc0 e
      refine aj_tin (tgt := 52) (off := 34) C dX12_arc_18 r0 (by omega) (by omega) (by rw [e]; rfl) (by decide) ?_
      refine aj_aload_n C dX12_arc_52 rfl ?_
      refine aj_getA (x := 0) (y := 3315) C flX12_13 hq0 rfl dX12_arc_53 ?_
      refine aj_bipush C dX12_arc_56 (by decide) ?_
      refine aj_iload_n C dX12_arc_58 rfl ?_
      refine aj_iadd C dX12_arc_59 ?_
      obtain ⟨r0, h⟩ := h
      refine aj_iald C (aj_ca (e := 0) (n := 3315) (j := 1) hq0 (by decide) rfl) (by decide) r0 dX12_arc_60 rfl ?_
      exact aj_iret C K dX12_arc_61 ⟨_, rfl, h⟩
    · have h := hc1 e
      refine aj_tin (tgt := 62) (off := 44) C dX12_arc_18 r0 (by omega) (by omega) (by rw [e]; rfl) (by decide) ?_
      refine aj_aload_n C dX12_arc_62 rfl ?_
      refine aj_getA (x := 0) (y := 3315) C flX12_13 hq0 rfl dX12_arc_63 ?_
      refine aj_bipush C dX12_arc_66 (by decide) ?_
      refine aj_iload_n C dX12_arc_68 rfl ?_
      refine aj_iadd C dX12_arc_69 ?_
      obtain ⟨r0, h⟩ := h
      refine aj_iald C (aj_ca (e := 0) (n := 3315) (j := 1) hq0 (by decide) rfl) (by decide) r0 dX12_arc_70 rfl ?_
      exact aj_iret C K dX12_arc_71 ⟨_, rfl, h⟩
    · have h := hc2 e
      refine aj_tin (tgt := 72) (off := 54) C dX12_arc_18 r0 (by omega) (by omega) (by rw [e]; rfl) (by decide) ?_
      refine aj_aload_n C dX12_arc_72 rfl ?_
      refine aj_getA (x := 0) (y := 3315) C flX12_13 hq0 rfl dX12_arc_73 ?_
      refine aj_bipush C dX12_arc_76 (by decide) ?_
      refine aj_iload_n C dX12_arc_78 rfl ?_
      refine aj_iadd C dX12_arc_79 ?_
      obtain ⟨r0, h⟩ := h
      refine aj_iald C (aj_ca (e := 0) (n := 3315) (j := 1) hq0 (by decide) rfl) (by decide) r0 dX12_arc_80 rfl ?_
      exact aj_iret C K dX12_arc_81 ⟨_, rfl, h⟩
    · have h := hc3 e
      refine aj_tin (tgt := 82) (off := 64) C dX12_arc_18 r0 (by omega) (by omega) (by rw [e]; rfl) (by decide) ?_
      refine aj_aload_n C dX12_arc_82 rfl ?_
      refine aj_getA (x := 0) (y := 3315) C flX12_13 hq0 rfl dX12_arc_83 ?_
      refine aj_bipush C dX12_arc_86 (by decide) ?_
      refine aj_iload_n C dX12_arc_88 rfl ?_
      refine aj_iadd C dX12_arc_89 ?_
      obtain ⟨r0, h⟩ := h
      refine aj_iald C (aj_ca (e := 0) (n := 3315) (j := 1) hq0 (by decide) rfl) (by decide) r0 dX12_arc_90 rfl ?_
      exact aj_iret C K dX12_arc_91 ⟨_, rfl, h⟩
    · have h := hc4 e
      refine aj_tin (tgt := 92) (off := 74) C dX12_arc_18 r0 (by omega) (by omega) (by rw [e]; rfl) (by decide) ?_
      refine aj_aload_n C dX12_arc_92 rfl ?_
      refine aj_getA (x := 0) (y := 3315) C flX12_13 hq0 rfl dX12_arc_93 ?_
      refine aj_bipush C dX12_arc_96 (by decide) ?_
      refine aj_iald C (aj_ca (e := 0) (n := 3315) (j := 1) hq0 (by decide) rfl) (by decide) (by decide) dX12_arc_98 rfl ?_
      obtain ⟨r0, h⟩ := h
      refine aj_i2l C dX12_arc_99 r0 ?_
      refine aj_iload_n C dX12_arc_100 rfl ?_
      refine aj_callS (rest := []) C msX12_274 (sX12_isIn  h) (aj_np 2 (by decide +kernel) rfl) (Nat.le_of_ble_eq_true rfl) rfl dX12_arc_101 (fun r m3 h => ?_)
      obtain ⟨z2, rfl, h⟩ := h
      obtain ⟨r0, h1, h2⟩ := h
      refine aj_if_eq (tgt := 111) C dX12_arc_104 (by decide) r0 (fun e => ?_) (fun e => ?_)
      · have h := h1 e
        refine aj_iconst C dX12_arc_111 ?_
        exact aj_iret C K dX12_arc_112 ⟨_, rfl, h⟩
      · have h := h2 e
        refine aj_iconst C dX12_arc_107 ?_
        refine aj_goto (tgt := 112) C dX12_arc_108 (by decide) ?_
        exact aj_iret C K dX12_arc_112 ⟨_, rfl, h⟩
  · have h := h2 e
    refine aj_bipush C dX12_arc_14 (by decide) ?_
    exact aj_iret C K dX12_arc_16 ⟨_, rfl, h⟩
theorem dX12_stores_0 : decode cX12_stores 0 = .ok (.iconst 0, 1) := by decide +kernel
theorem dX12_stores_1 : decode cX12_stores 1 = .ok (.istore_n 1, 1) := by decide +kernel
theorem dX12_stores_2 : decode cX12_stores 2 = .ok (.iload_n 1, 1) := by decide +kernel
theorem dX12_stores_3 : decode cX12_stores 3 = .ok (.bipush 14, 2) := by decide +kernel
theorem dX12_stores_5 : decode cX12_stores 5 = .ok (.if_icmp .ge 24, 3) := by decide +kernel
theorem dX12_stores_8 : decode cX12_stores 8 = .ok (.aload_n 0, 1) := by decide +kernel
theorem dX12_stores_9 : decode cX12_stores 9 = .ok (.getfield 57, 3) := by decide +kernel
theorem dX12_stores_12 : decode cX12_stores 12 = .ok (.iload_n 1, 1) := by decide +kernel
theorem dX12_stores_13 : decode cX12_stores 13 = .ok (.aload_n 0, 1) := by decide +kernel
theorem dX12_stores_14 : decode cX12_stores 14 = .ok (.getfield 13, 3) := by decide +kernel
theorem dX12_stores_17 : decode cX12_stores 17 = .ok (.bipush 49, 2) := by decide +kernel
theorem dX12_stores_19 : decode cX12_stores 19 = .ok (.iload_n 1, 1) := by decide +kernel
theorem dX12_stores_20 : decode cX12_stores 20 = .ok (.iadd, 1) := by decide +kernel
theorem dX12_stores_21 : decode cX12_stores 21 = .ok (.iaload, 1) := by decide +kernel
theorem dX12_stores_22 : decode cX12_stores 22 = .ok (.iastore, 1) := by decide +kernel
theorem dX12_stores_23 : decode cX12_stores 23 = .ok (.iinc 1 1, 3) := by decide +kernel
theorem dX12_stores_26 : decode cX12_stores 26 = .ok (.goto (-24), 3) := by decide +kernel
theorem dX12_stores_29 : decode cX12_stores 29 = .ok (.return_, 1) := by decide +kernel
def hX12_stores_2 (f : Nat) (Φ : aj_M → Prop) : Nat → List Nat → Int → aj_M → Prop
  | 0, _, _, _ => False
  | k + 1, q0, v1, m => rI v1 ∧ (14 ≤ v1 → Φ m) ∧ (¬ (14 ≤ v1) → (0 ≤ (49 + v1) ∧ (49 + v1) < 3315) ∧ (0 ≤ v1 ∧ v1 < 14) ∧ ∀ m1, m1 = aj_u m (27 :: q0) v1.toNat (m (1 :: q0) (49 + v1).toNat) → hX12_stores_2 f Φ k q0 (v1 + 1) m1)
set_option maxHeartbeats 4000000 in
set_option maxRecDepth 100000 in
theorem tX12_stores_2 {X : aj_T} {n f : Nat} {Φ : aj_M → Prop} (C : aj_Cx X cX12_stores RX12 2 n) (K : aj_Rt X none (fun r m => r = none ∧ Φ m)) : ∀ (k : Nat) (q0 : List Nat) (v1 : Int) (m : aj_M) (hq0 : (.inl (12, q0) : aj_R) ∈ aj_pls), hX12_stores_2 f Φ k q0 v1 m → aj_J X 2 [some (vO 12 q0), some (vI v1)] [] m := by
  intro k
  induction k with
  | zero =>
    intro q0 v1 m _ h
    exact h.elim
  | succ k ih =>
    intro q0 v1 m hq0 h
    unfold hX12_stores_2 at h
    refine aj_iload_n C dX12_stores_2 rfl ?_
    refine aj_bipush C dX12_stores_3 (by decide) ?_
    obtain ⟨r0, h1, h2⟩ := h
    refine aj_icmp_ge (tgt := 29) C dX12_stores_5 (by decide) r0 (by decide) (fun e => ?_) (fun e => ?_)
    · have h := h1 e
      exact aj_vret C K dX12_stores_29 ⟨rfl, h⟩
    · have h := h2 e
      refine aj_aload_n C dX12_stores_8 rfl ?_
      refine aj_getA (x := 0) (y := 14) C flX12_57 hq0 rfl dX12_stores_9 ?_
      refine aj_iload_n C dX12_stores_12 rfl ?_
      refine aj_aload_n C dX12_stores_13 rfl ?_
      refine aj_getA (x := 0) (y := 3315) C flX12_13 hq0 rfl dX12_stores_14 ?_
      refine aj_bipush C dX12_stores_17 (by decide) ?_
      refine aj_iload_n C dX12_stores_19 rfl ?_
      refine aj_iadd C dX12_stores_20 ?_
      obtain ⟨r0, h⟩ := h
      refine aj_iald C (aj_ca (e := 0) (n := 3315) (j := 1) hq0 (by decide) rfl) (by decide) r0 dX12_stores_21 rfl ?_
      obtain ⟨r0, h⟩ := h
      refine aj_iast C (aj_ca (e := 0) (n := 14) (j := 27) hq0 (by decide) rfl) (by decide) r0 dX12_stores_22 ?_
      refine aj_nm (fun m1 e1 => ?_)
      have h := h m1 e1
      refine aj_iinc (lv' := [some (vO 12 q0), some (vI (v1 + 1))]) C dX12_stores_23 rfl (by decide) rfl ?_
      refine aj_goto (tgt := 2) C dX12_stores_26 (by decide) ?_
      exact ih q0 (v1 + 1) _ hq0 h
def wX12_stores (f : Nat) (Φ : aj_M → Prop) (q0 : List Nat) (m : aj_M) : Prop := hX12_stores_2 f Φ f q0 0 m
set_option maxHeartbeats 4000000 in
set_option maxRecDepth 100000 in
theorem sX12_stores {n f : Nat} {Φ : aj_M → Prop} {q0 : List Nat} {m : aj_M} (hq0 : (.inl (12, q0) : aj_R) ∈ aj_pls) (h : wX12_stores f Φ q0 m) : aj_Ct n yX12_stores cX12_stores 2 none [vO 12 q0] m (fun r m => r = none ∧ Φ m) := by
  refine aj_met (lv := [some (vO 12 q0), none]) (by decide +kernel) rfl (Nat.le_of_ble_eq_true rfl) (fun X C K => ?_)
  unfold wX12_stores at h
  refine aj_iconst C dX12_stores_0 ?_
  refine aj_istore_n (lv' := [some (vO 12 q0), some (vI 0)]) C dX12_stores_1 (by decide) rfl ?_
  exact tX12_stores_2 C K f q0 0 _ hq0 h
theorem dX12_isAgain_0 : decode cX12_isAgain 0 = .ok (.iconst 0, 1) := by decide +kernel
theorem dX12_isAgain_1 : decode cX12_isAgain 1 = .ok (.istore_n 1, 1) := by decide +kernel
theorem dX12_isAgain_2 : decode cX12_isAgain 2 = .ok (.iload_n 1, 1) := by decide +kernel
theorem dX12_isAgain_3 : decode cX12_isAgain 3 = .ok (.bipush 14, 2) := by decide +kernel
theorem dX12_isAgain_5 : decode cX12_isAgain 5 = .ok (.if_icmp .ge 24, 3) := by decide +kernel
theorem dX12_isAgain_8 : decode cX12_isAgain 8 = .ok (.aload_n 0, 1) := by decide +kernel
theorem dX12_isAgain_9 : decode cX12_isAgain 9 = .ok (.getfield 13, 3) := by decide +kernel
theorem dX12_isAgain_12 : decode cX12_isAgain 12 = .ok (.bipush 49, 2) := by decide +kernel
theorem dX12_isAgain_14 : decode cX12_isAgain 14 = .ok (.iload_n 1, 1) := by decide +kernel
theorem dX12_isAgain_15 : decode cX12_isAgain 15 = .ok (.iadd, 1) := by decide +kernel
theorem dX12_isAgain_16 : decode cX12_isAgain 16 = .ok (.aload_n 0, 1) := by decide +kernel
theorem dX12_isAgain_17 : decode cX12_isAgain 17 = .ok (.getfield 57, 3) := by decide +kernel
theorem dX12_isAgain_20 : decode cX12_isAgain 20 = .ok (.iload_n 1, 1) := by decide +kernel
theorem dX12_isAgain_21 : decode cX12_isAgain 21 = .ok (.iaload, 1) := by decide +kernel
theorem dX12_isAgain_22 : decode cX12_isAgain 22 = .ok (.iastore, 1) := by decide +kernel
theorem dX12_isAgain_23 : decode cX12_isAgain 23 = .ok (.iinc 1 1, 3) := by decide +kernel
theorem dX12_isAgain_26 : decode cX12_isAgain 26 = .ok (.goto (-24), 3) := by decide +kernel
theorem dX12_isAgain_29 : decode cX12_isAgain 29 = .ok (.return_, 1) := by decide +kernel
def hX12_isAgain_2 (f : Nat) (Φ : aj_M → Prop) : Nat → List Nat → Int → aj_M → Prop
  | 0, _, _, _ => False
  | k + 1, q0, v1, m => rI v1 ∧ (14 ≤ v1 → Φ m) ∧ (¬ (14 ≤ v1) → (0 ≤ v1 ∧ v1 < 14) ∧ (0 ≤ (49 + v1) ∧ (49 + v1) < 3315) ∧ ∀ m1, m1 = aj_u m (1 :: q0) (49 + v1).toNat (m (27 :: q0) v1.toNat) → hX12_isAgain_2 f Φ k q0 (v1 + 1) m1)
set_option maxHeartbeats 4000000 in
set_option maxRecDepth 100000 in
theorem tX12_isAgain_2 {X : aj_T} {n f : Nat} {Φ : aj_M → Prop} (C : aj_Cx X cX12_isAgain RX12 2 n) (K : aj_Rt X none (fun r m => r = none ∧ Φ m)) : ∀ (k : Nat) (q0 : List Nat) (v1 : Int) (m : aj_M) (hq0 : (.inl (12, q0) : aj_R) ∈ aj_pls), hX12_isAgain_2 f Φ k q0 v1 m → aj_J X 2 [some (vO 12 q0), some (vI v1)] [] m := by
  intro k
  induction k with
  | zero =>
    intro q0 v1 m _ h
    exact h.elim
  | succ k ih =>
    intro q0 v1 m hq0 h
    unfold hX12_isAgain_2 at h
    refine aj_iload_n C dX12_isAgain_2 rfl ?_
    refine aj_bipush C dX12_isAgain_3 (by decide) ?_
    obtain ⟨r0, h1, h2⟩ := h
    refine aj_icmp_ge (tgt := 29) C dX12_isAgain_5 (by decide) r0 (by decide) (fun e => ?_) (fun e => ?_)
    · have h := h1 e
      exact aj_vret C K dX12_isAgain_29 ⟨rfl, h⟩
    · have h := h2 e
      refine aj_aload_n C dX12_isAgain_8 rfl ?_
      refine aj_getA (x := 0) (y := 3315) C flX12_13 hq0 rfl dX12_isAgain_9 ?_
      refine aj_bipush C dX12_isAgain_12 (by decide) ?_
      refine aj_iload_n C dX12_isAgain_14 rfl ?_
      refine aj_iadd C dX12_isAgain_15 ?_
      refine aj_aload_n C dX12_isAgain_16 rfl ?_
      refine aj_getA (x := 0) (y := 14) C flX12_57 hq0 rfl dX12_isAgain_17 ?_
      refine aj_iload_n C dX12_isAgain_20 rfl ?_
      obtain ⟨r0, h⟩ := h
      refine aj_iald C (aj_ca (e := 0) (n := 14) (j := 27) hq0 (by decide) rfl) (by decide) r0 dX12_isAgain_21 rfl ?_
      obtain ⟨r0, h⟩ := h
      refine aj_iast C (aj_ca (e := 0) (n := 3315) (j := 1) hq0 (by decide) rfl) (by decide) r0 dX12_isAgain_22 ?_
      refine aj_nm (fun m1 e1 => ?_)
      have h := h m1 e1
      refine aj_iinc (lv' := [some (vO 12 q0), some (vI (v1 + 1))]) C dX12_isAgain_23 rfl (by decide) rfl ?_
      refine aj_goto (tgt := 2) C dX12_isAgain_26 (by decide) ?_
      exact ih q0 (v1 + 1) _ hq0 h
def wX12_isAgain (f : Nat) (Φ : aj_M → Prop) (q0 : List Nat) (m : aj_M) : Prop := hX12_isAgain_2 f Φ f q0 0 m
set_option maxHeartbeats 4000000 in
set_option maxRecDepth 100000 in
theorem sX12_isAgain {n f : Nat} {Φ : aj_M → Prop} {q0 : List Nat} {m : aj_M} (hq0 : (.inl (12, q0) : aj_R) ∈ aj_pls) (h : wX12_isAgain f Φ q0 m) : aj_Ct n yX12_isAgain cX12_isAgain 2 none [vO 12 q0] m (fun r m => r = none ∧ Φ m) := by
  refine aj_met (lv := [some (vO 12 q0), none]) (by decide +kernel) rfl (Nat.le_of_ble_eq_true rfl) (fun X C K => ?_)
  unfold wX12_isAgain at h
  refine aj_iconst C dX12_isAgain_0 ?_
  refine aj_istore_n (lv' := [some (vO 12 q0), some (vI 0)]) C dX12_isAgain_1 (by decide) rfl ?_
  exact tX12_isAgain_2 C K f q0 0 _ hq0 h
