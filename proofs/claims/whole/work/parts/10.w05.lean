theorem dX5_lightestUnseen_0 : decode cX5_lightestUnseen 0 = .ok (.iconst (-1), 1) := by decide +kernel
theorem dX5_lightestUnseen_1 : decode cX5_lightestUnseen 1 = .ok (.istore_n 1, 1) := by decide +kernel
theorem dX5_lightestUnseen_2 : decode cX5_lightestUnseen 2 = .ok (.ldc 151, 2) := by decide +kernel
theorem dX5_lightestUnseen_4 : decode cX5_lightestUnseen 4 = .ok (.istore_n 2, 1) := by decide +kernel
theorem dX5_lightestUnseen_5 : decode cX5_lightestUnseen 5 = .ok (.iconst 0, 1) := by decide +kernel
theorem dX5_lightestUnseen_6 : decode cX5_lightestUnseen 6 = .ok (.istore_n 3, 1) := by decide +kernel
theorem dX5_lightestUnseen_7 : decode cX5_lightestUnseen 7 = .ok (.iload_n 3, 1) := by decide +kernel
theorem dX5_lightestUnseen_8 : decode cX5_lightestUnseen 8 = .ok (.aload_n 0, 1) := by decide +kernel
theorem dX5_lightestUnseen_9 : decode cX5_lightestUnseen 9 = .ok (.getfield 9, 3) := by decide +kernel
theorem dX5_lightestUnseen_12 : decode cX5_lightestUnseen 12 = .ok (.if_icmp .ge 41, 3) := by decide +kernel
theorem dX5_lightestUnseen_15 : decode cX5_lightestUnseen 15 = .ok (.aload_n 0, 1) := by decide +kernel
theorem dX5_lightestUnseen_16 : decode cX5_lightestUnseen 16 = .ok (.getfield 59, 3) := by decide +kernel
theorem dX5_lightestUnseen_19 : decode cX5_lightestUnseen 19 = .ok (.iload_n 3, 1) := by decide +kernel
theorem dX5_lightestUnseen_20 : decode cX5_lightestUnseen 20 = .ok (.lshr, 1) := by decide +kernel
theorem dX5_lightestUnseen_21 : decode cX5_lightestUnseen 21 = .ok (.lconst 1, 1) := by decide +kernel
theorem dX5_lightestUnseen_22 : decode cX5_lightestUnseen 22 = .ok (.land, 1) := by decide +kernel
theorem dX5_lightestUnseen_23 : decode cX5_lightestUnseen 23 = .ok (.lconst 0, 1) := by decide +kernel
theorem dX5_lightestUnseen_24 : decode cX5_lightestUnseen 24 = .ok (.lcmp, 1) := by decide +kernel
theorem dX5_lightestUnseen_25 : decode cX5_lightestUnseen 25 = .ok (.ifCond .ne 22, 3) := by decide +kernel
theorem dX5_lightestUnseen_28 : decode cX5_lightestUnseen 28 = .ok (.aload_n 0, 1) := by decide +kernel
theorem dX5_lightestUnseen_29 : decode cX5_lightestUnseen 29 = .ok (.getfield 47, 3) := by decide +kernel
theorem dX5_lightestUnseen_32 : decode cX5_lightestUnseen 32 = .ok (.iload_n 3, 1) := by decide +kernel
theorem dX5_lightestUnseen_33 : decode cX5_lightestUnseen 33 = .ok (.iaload, 1) := by decide +kernel
theorem dX5_lightestUnseen_34 : decode cX5_lightestUnseen 34 = .ok (.iload_n 2, 1) := by decide +kernel
theorem dX5_lightestUnseen_35 : decode cX5_lightestUnseen 35 = .ok (.if_icmp .ge 12, 3) := by decide +kernel
theorem dX5_lightestUnseen_38 : decode cX5_lightestUnseen 38 = .ok (.iload_n 3, 1) := by decide +kernel
theorem dX5_lightestUnseen_39 : decode cX5_lightestUnseen 39 = .ok (.istore_n 1, 1) := by decide +kernel
theorem dX5_lightestUnseen_40 : decode cX5_lightestUnseen 40 = .ok (.aload_n 0, 1) := by decide +kernel
theorem dX5_lightestUnseen_41 : decode cX5_lightestUnseen 41 = .ok (.getfield 47, 3) := by decide +kernel
theorem dX5_lightestUnseen_44 : decode cX5_lightestUnseen 44 = .ok (.iload_n 3, 1) := by decide +kernel
theorem dX5_lightestUnseen_45 : decode cX5_lightestUnseen 45 = .ok (.iaload, 1) := by decide +kernel
theorem dX5_lightestUnseen_46 : decode cX5_lightestUnseen 46 = .ok (.istore_n 2, 1) := by decide +kernel
theorem dX5_lightestUnseen_47 : decode cX5_lightestUnseen 47 = .ok (.iinc 3 1, 3) := by decide +kernel
theorem dX5_lightestUnseen_50 : decode cX5_lightestUnseen 50 = .ok (.goto (-43), 3) := by decide +kernel
theorem dX5_lightestUnseen_53 : decode cX5_lightestUnseen 53 = .ok (.iload_n 1, 1) := by decide +kernel
theorem dX5_lightestUnseen_54 : decode cX5_lightestUnseen 54 = .ok (.ireturn, 1) := by decide +kernel
def hX5_lightestUnseen_7 (f : Nat) (Φ : Int → aj_M → Prop) : Nat → List Nat → Int → Int → Int → aj_M → Prop
  | 0, _, _, _, _, _ => False
  | k + 1, q0, v1, v2, v3, m => rI v3 ∧ rI (m q0 0) ∧ ((m q0 0) ≤ v3 → Φ v1 m) ∧ (¬ ((m q0 0) ≤ v3) → rL (aj_landL (aj_lshr (m q0 15) v3) 1) ∧ (¬ (aj_landL (aj_lshr (m q0 15) v3) 1) = 0 → hX5_lightestUnseen_7 f Φ k q0 v1 v2 (v3 + 1) m) ∧ ((aj_landL (aj_lshr (m q0 15) v3) 1) = 0 → (0 ≤ v3 ∧ v3 < 60) ∧ rI (m (11 :: q0) v3.toNat) ∧ rI v2 ∧ (v2 ≤ (m (11 :: q0) v3.toNat) → hX5_lightestUnseen_7 f Φ k q0 v1 v2 (v3 + 1) m) ∧ (¬ (v2 ≤ (m (11 :: q0) v3.toNat)) → (0 ≤ v3 ∧ v3 < 60) ∧ hX5_lightestUnseen_7 f Φ k q0 v3 (m (11 :: q0) v3.toNat) (v3 + 1) m)))
set_option maxHeartbeats 4000000 in
set_option maxRecDepth 100000 in
theorem tX5_lightestUnseen_7 {X : aj_T} {n f : Nat} {Φ : Int → aj_M → Prop} (C : aj_Cx X cX5_lightestUnseen RX5 4 n) (K : aj_Rt X (some .int) (fun r m => ∃ z, r = some (vI z) ∧ Φ z m)) : ∀ (k : Nat) (q0 : List Nat) (v1 : Int) (v2 : Int) (v3 : Int) (m : aj_M) (hq0 : (.inl (5, q0) : aj_R) ∈ aj_pls), hX5_lightestUnseen_7 f Φ k q0 v1 v2 v3 m → aj_J X 7 [some (vO 5 q0), some (vI v1), some (vI v2), some (vI v3)] [] m := by
  intro k
  induction k with
  | zero =>
    intro q0 v1 v2 v3 m _ h
    exact h.elim
  | succ k ih =>
    intro q0 v1 v2 v3 m hq0 h
    unfold hX5_lightestUnseen_7 at h
    refine aj_iload_n C dX5_lightestUnseen_7 rfl ?_
    refine aj_aload_n C dX5_lightestUnseen_8 rfl ?_
    refine aj_getI C flX5_9 hq0 (by decide) dX5_lightestUnseen_9 rfl ?_
    obtain ⟨r0, r1, h1, h2⟩ := h
    refine aj_icmp_ge (tgt := 53) C dX5_lightestUnseen_12 (by decide) r0 r1 (fun e => ?_) (fun e => ?_)
    · have h := h1 e
      refine aj_iload_n C dX5_lightestUnseen_53 rfl ?_
      exact aj_iret C K dX5_lightestUnseen_54 ⟨_, rfl, h⟩
    · have h := h2 e
      refine aj_aload_n C dX5_lightestUnseen_15 rfl ?_
      refine aj_getL C flX5_59 hq0 rfl dX5_lightestUnseen_16 rfl ?_
      refine aj_iload_n C dX5_lightestUnseen_19 rfl ?_
      refine aj_lshr_ C dX5_lightestUnseen_20 ?_
      refine aj_lconst (z := 1) C dX5_lightestUnseen_21 rfl ?_
      refine aj_land C dX5_lightestUnseen_22 ?_
      refine aj_lconst (z := 0) C dX5_lightestUnseen_23 rfl ?_
      obtain ⟨r0, h1, h2⟩ := h
      refine aj_lcmp_ne (tgt := 47) C dX5_lightestUnseen_24 dX5_lightestUnseen_25 (by decide) r0 (by decide) (fun e => ?_) (fun e => ?_)
      · have h := h1 e
        refine aj_iinc (lv' := [some (vO 5 q0), some (vI v1), some (vI v2), some (vI (v3 + 1))]) C dX5_lightestUnseen_47 rfl (by decide) rfl ?_
        refine aj_goto (tgt := 7) C dX5_lightestUnseen_50 (by decide) ?_
        exact ih q0 v1 v2 (v3 + 1) _ hq0 h
      · have h := h2 e
        refine aj_aload_n C dX5_lightestUnseen_28 rfl ?_
        refine aj_getA (x := 0) (y := 60) C flX5_47 hq0 rfl dX5_lightestUnseen_29 ?_
        refine aj_iload_n C dX5_lightestUnseen_32 rfl ?_
        obtain ⟨r0, h⟩ := h
        refine aj_iald C (aj_ca (e := 0) (n := 60) (j := 11) hq0 (by decide) rfl) (by decide) r0 dX5_lightestUnseen_33 rfl ?_
        refine aj_iload_n C dX5_lightestUnseen_34 rfl ?_
        obtain ⟨r0, r1, h1, h2⟩ := h
        refine aj_icmp_ge (tgt := 47) C dX5_lightestUnseen_35 (by decide) r0 r1 (fun e => ?_) (fun e => ?_)
        · have h := h1 e
          refine aj_iinc (lv' := [some (vO 5 q0), some (vI v1), some (vI v2), some (vI (v3 + 1))]) C dX5_lightestUnseen_47 rfl (by decide) rfl ?_
          refine aj_goto (tgt := 7) C dX5_lightestUnseen_50 (by decide) ?_
          exact ih q0 v1 v2 (v3 + 1) _ hq0 h
        · have h := h2 e
          refine aj_iload_n C dX5_lightestUnseen_38 rfl ?_
          refine aj_istore_n (lv' := [some (vO 5 q0), some (vI v3), some (vI v2), some (vI v3)]) C dX5_lightestUnseen_39 (by decide) rfl ?_
          refine aj_aload_n C dX5_lightestUnseen_40 rfl ?_
          refine aj_getA (x := 0) (y := 60) C flX5_47 hq0 rfl dX5_lightestUnseen_41 ?_
          refine aj_iload_n C dX5_lightestUnseen_44 rfl ?_
          obtain ⟨r0, h⟩ := h
          refine aj_iald C (aj_ca (e := 0) (n := 60) (j := 11) hq0 (by decide) rfl) (by decide) r0 dX5_lightestUnseen_45 rfl ?_
          refine aj_istore_n (lv' := [some (vO 5 q0), some (vI v3), some (vI (m (11 :: q0) v3.toNat)), some (vI v3)]) C dX5_lightestUnseen_46 (by decide) rfl ?_
          refine aj_iinc (lv' := [some (vO 5 q0), some (vI v3), some (vI (m (11 :: q0) v3.toNat)), some (vI (v3 + 1))]) C dX5_lightestUnseen_47 rfl (by decide) rfl ?_
          refine aj_goto (tgt := 7) C dX5_lightestUnseen_50 (by decide) ?_
          exact ih q0 v3 (m (11 :: q0) v3.toNat) (v3 + 1) _ hq0 h
def wX5_lightestUnseen (f : Nat) (Φ : Int → aj_M → Prop) (q0 : List Nat) (m : aj_M) : Prop := hX5_lightestUnseen_7 f Φ f q0 (-1) 1000000 0 m
set_option maxHeartbeats 4000000 in
set_option maxRecDepth 100000 in
theorem sX5_lightestUnseen {n f : Nat} {Φ : Int → aj_M → Prop} {q0 : List Nat} {m : aj_M} (hq0 : (.inl (5, q0) : aj_R) ∈ aj_pls) (h : wX5_lightestUnseen f Φ q0 m) : aj_Ct n yX5_lightestUnseen cX5_lightestUnseen 4 (some .int) [vO 5 q0] m (fun r m => ∃ z, r = some (vI z) ∧ Φ z m) := by
  refine aj_met (lv := [some (vO 5 q0), none, none, none]) (by decide +kernel) rfl (Nat.le_of_ble_eq_true rfl) (fun X C K => ?_)
  unfold wX5_lightestUnseen at h
  refine aj_iconst C dX5_lightestUnseen_0 ?_
  refine aj_istore_n (lv' := [some (vO 5 q0), some (vI (-1)), none, none]) C dX5_lightestUnseen_1 (by decide) rfl ?_
  refine aj_ldc (z := 1000000) C (aj_mem 1069 (by decide +kernel) (by decide +kernel)) rfl dX5_lightestUnseen_2 ?_
  refine aj_istore_n (lv' := [some (vO 5 q0), some (vI (-1)), some (vI 1000000), none]) C dX5_lightestUnseen_4 (by decide) rfl ?_
  refine aj_iconst C dX5_lightestUnseen_5 ?_
  refine aj_istore_n (lv' := [some (vO 5 q0), some (vI (-1)), some (vI 1000000), some (vI 0)]) C dX5_lightestUnseen_6 (by decide) rfl ?_
  exact tX5_lightestUnseen_7 C K f q0 (-1) 1000000 0 _ hq0 h
theorem dX5_lightFrom_0 : decode cX5_lightFrom 0 = .ok (.aload_n 0, 1) := by decide +kernel
theorem dX5_lightFrom_1 : decode cX5_lightFrom 1 = .ok (.getfield 47, 3) := by decide +kernel
theorem dX5_lightFrom_4 : decode cX5_lightFrom 4 = .ok (.ldc 151, 2) := by decide +kernel
theorem dX5_lightFrom_6 : decode cX5_lightFrom 6 = .ok (.invokestatic 125, 3) := by decide +kernel
theorem dX5_lightFrom_9 : decode cX5_lightFrom 9 = .ok (.aload_n 0, 1) := by decide +kernel
theorem dX5_lightFrom_10 : decode cX5_lightFrom 10 = .ok (.getfield 50, 3) := by decide +kernel
theorem dX5_lightFrom_13 : decode cX5_lightFrom 13 = .ok (.iconst (-1), 1) := by decide +kernel
theorem dX5_lightFrom_14 : decode cX5_lightFrom 14 = .ok (.invokestatic 125, 3) := by decide +kernel
theorem dX5_lightFrom_17 : decode cX5_lightFrom 17 = .ok (.aload_n 0, 1) := by decide +kernel
theorem dX5_lightFrom_18 : decode cX5_lightFrom 18 = .ok (.lconst 0, 1) := by decide +kernel
theorem dX5_lightFrom_19 : decode cX5_lightFrom 19 = .ok (.putfield 59, 3) := by decide +kernel
theorem dX5_lightFrom_22 : decode cX5_lightFrom 22 = .ok (.aload_n 0, 1) := by decide +kernel
theorem dX5_lightFrom_23 : decode cX5_lightFrom 23 = .ok (.getfield 47, 3) := by decide +kernel
theorem dX5_lightFrom_26 : decode cX5_lightFrom 26 = .ok (.iload_n 1, 1) := by decide +kernel
theorem dX5_lightFrom_27 : decode cX5_lightFrom 27 = .ok (.iconst 0, 1) := by decide +kernel
theorem dX5_lightFrom_28 : decode cX5_lightFrom 28 = .ok (.iastore, 1) := by decide +kernel
theorem dX5_lightFrom_29 : decode cX5_lightFrom 29 = .ok (.iconst 0, 1) := by decide +kernel
theorem dX5_lightFrom_30 : decode cX5_lightFrom 30 = .ok (.istore_n 2, 1) := by decide +kernel
theorem dX5_lightFrom_31 : decode cX5_lightFrom 31 = .ok (.iload_n 2, 1) := by decide +kernel
theorem dX5_lightFrom_32 : decode cX5_lightFrom 32 = .ok (.aload_n 0, 1) := by decide +kernel
theorem dX5_lightFrom_33 : decode cX5_lightFrom 33 = .ok (.getfield 9, 3) := by decide +kernel
theorem dX5_lightFrom_36 : decode cX5_lightFrom 36 = .ok (.if_icmp .ge 130, 3) := by decide +kernel
theorem dX5_lightFrom_39 : decode cX5_lightFrom 39 = .ok (.aload_n 0, 1) := by decide +kernel
theorem dX5_lightFrom_40 : decode cX5_lightFrom 40 = .ok (.invokevirtual 162, 3) := by decide +kernel
theorem dX5_lightFrom_43 : decode cX5_lightFrom 43 = .ok (.istore_n 3, 1) := by decide +kernel
theorem dX5_lightFrom_44 : decode cX5_lightFrom 44 = .ok (.iload_n 3, 1) := by decide +kernel
theorem dX5_lightFrom_45 : decode cX5_lightFrom 45 = .ok (.ifCond .ge 4, 3) := by decide +kernel
theorem dX5_lightFrom_48 : decode cX5_lightFrom 48 = .ok (.return_, 1) := by decide +kernel
theorem dX5_lightFrom_49 : decode cX5_lightFrom 49 = .ok (.aload_n 0, 1) := by decide +kernel
theorem dX5_lightFrom_50 : decode cX5_lightFrom 50 = .ok (.dup, 1) := by decide +kernel
theorem dX5_lightFrom_51 : decode cX5_lightFrom 51 = .ok (.getfield 59, 3) := by decide +kernel
theorem dX5_lightFrom_54 : decode cX5_lightFrom 54 = .ok (.lconst 1, 1) := by decide +kernel
theorem dX5_lightFrom_55 : decode cX5_lightFrom 55 = .ok (.iload_n 3, 1) := by decide +kernel
theorem dX5_lightFrom_56 : decode cX5_lightFrom 56 = .ok (.lshl, 1) := by decide +kernel
theorem dX5_lightFrom_57 : decode cX5_lightFrom 57 = .ok (.lor, 1) := by decide +kernel
theorem dX5_lightFrom_58 : decode cX5_lightFrom 58 = .ok (.putfield 59, 3) := by decide +kernel
theorem dX5_lightFrom_61 : decode cX5_lightFrom 61 = .ok (.aload_n 0, 1) := by decide +kernel
theorem dX5_lightFrom_62 : decode cX5_lightFrom 62 = .ok (.getfield 38, 3) := by decide +kernel
theorem dX5_lightFrom_65 : decode cX5_lightFrom 65 = .ok (.iload_n 3, 1) := by decide +kernel
theorem dX5_lightFrom_66 : decode cX5_lightFrom 66 = .ok (.iaload, 1) := by decide +kernel
theorem dX5_lightFrom_67 : decode cX5_lightFrom 67 = .ok (.istore 4, 2) := by decide +kernel
theorem dX5_lightFrom_69 : decode cX5_lightFrom 69 = .ok (.iload 4, 2) := by decide +kernel
theorem dX5_lightFrom_71 : decode cX5_lightFrom 71 = .ok (.aload_n 0, 1) := by decide +kernel
theorem dX5_lightFrom_72 : decode cX5_lightFrom 72 = .ok (.getfield 38, 3) := by decide +kernel
theorem dX5_lightFrom_75 : decode cX5_lightFrom 75 = .ok (.iload_n 3, 1) := by decide +kernel
theorem dX5_lightFrom_76 : decode cX5_lightFrom 76 = .ok (.iconst 1, 1) := by decide +kernel
theorem dX5_lightFrom_77 : decode cX5_lightFrom 77 = .ok (.iadd, 1) := by decide +kernel
theorem dX5_lightFrom_78 : decode cX5_lightFrom 78 = .ok (.iaload, 1) := by decide +kernel
theorem dX5_lightFrom_79 : decode cX5_lightFrom 79 = .ok (.if_icmp .ge 81, 3) := by decide +kernel
theorem dX5_lightFrom_82 : decode cX5_lightFrom 82 = .ok (.aload_n 0, 1) := by decide +kernel
theorem dX5_lightFrom_83 : decode cX5_lightFrom 83 = .ok (.getfield 41, 3) := by decide +kernel
theorem dX5_lightFrom_86 : decode cX5_lightFrom 86 = .ok (.iload 4, 2) := by decide +kernel
theorem dX5_lightFrom_88 : decode cX5_lightFrom 88 = .ok (.iaload, 1) := by decide +kernel
theorem dX5_lightFrom_89 : decode cX5_lightFrom 89 = .ok (.istore 5, 2) := by decide +kernel
theorem dX5_lightFrom_91 : decode cX5_lightFrom 91 = .ok (.aload_n 0, 1) := by decide +kernel
theorem dX5_lightFrom_92 : decode cX5_lightFrom 92 = .ok (.iload 5, 2) := by decide +kernel
theorem dX5_lightFrom_94 : decode cX5_lightFrom 94 = .ok (.iload_n 3, 1) := by decide +kernel
theorem dX5_lightFrom_95 : decode cX5_lightFrom 95 = .ok (.invokevirtual 131, 3) := by decide +kernel
theorem dX5_lightFrom_98 : decode cX5_lightFrom 98 = .ok (.istore 6, 2) := by decide +kernel
theorem dX5_lightFrom_100 : decode cX5_lightFrom 100 = .ok (.aload_n 0, 1) := by decide +kernel
theorem dX5_lightFrom_101 : decode cX5_lightFrom 101 = .ok (.getfield 47, 3) := by decide +kernel
theorem dX5_lightFrom_104 : decode cX5_lightFrom 104 = .ok (.iload_n 3, 1) := by decide +kernel
theorem dX5_lightFrom_105 : decode cX5_lightFrom 105 = .ok (.iaload, 1) := by decide +kernel
theorem dX5_lightFrom_106 : decode cX5_lightFrom 106 = .ok (.aload_n 0, 1) := by decide +kernel
theorem dX5_lightFrom_107 : decode cX5_lightFrom 107 = .ok (.getfield 31, 3) := by decide +kernel
theorem dX5_lightFrom_110 : decode cX5_lightFrom 110 = .ok (.iload 5, 2) := by decide +kernel
theorem dX5_lightFrom_112 : decode cX5_lightFrom 112 = .ok (.iaload, 1) := by decide +kernel
theorem dX5_lightFrom_113 : decode cX5_lightFrom 113 = .ok (.iadd, 1) := by decide +kernel
theorem dX5_lightFrom_114 : decode cX5_lightFrom 114 = .ok (.aload_n 0, 1) := by decide +kernel
theorem dX5_lightFrom_115 : decode cX5_lightFrom 115 = .ok (.getfield 47, 3) := by decide +kernel
theorem dX5_lightFrom_118 : decode cX5_lightFrom 118 = .ok (.iload 6, 2) := by decide +kernel
theorem dX5_lightFrom_120 : decode cX5_lightFrom 120 = .ok (.iaload, 1) := by decide +kernel
theorem dX5_lightFrom_121 : decode cX5_lightFrom 121 = .ok (.if_icmp .ge 33, 3) := by decide +kernel
theorem dX5_lightFrom_124 : decode cX5_lightFrom 124 = .ok (.aload_n 0, 1) := by decide +kernel
theorem dX5_lightFrom_125 : decode cX5_lightFrom 125 = .ok (.getfield 47, 3) := by decide +kernel
theorem dX5_lightFrom_128 : decode cX5_lightFrom 128 = .ok (.iload 6, 2) := by decide +kernel
theorem dX5_lightFrom_130 : decode cX5_lightFrom 130 = .ok (.aload_n 0, 1) := by decide +kernel
theorem dX5_lightFrom_131 : decode cX5_lightFrom 131 = .ok (.getfield 47, 3) := by decide +kernel
theorem dX5_lightFrom_134 : decode cX5_lightFrom 134 = .ok (.iload_n 3, 1) := by decide +kernel
theorem dX5_lightFrom_135 : decode cX5_lightFrom 135 = .ok (.iaload, 1) := by decide +kernel
theorem dX5_lightFrom_136 : decode cX5_lightFrom 136 = .ok (.aload_n 0, 1) := by decide +kernel
theorem dX5_lightFrom_137 : decode cX5_lightFrom 137 = .ok (.getfield 31, 3) := by decide +kernel
theorem dX5_lightFrom_140 : decode cX5_lightFrom 140 = .ok (.iload 5, 2) := by decide +kernel
theorem dX5_lightFrom_142 : decode cX5_lightFrom 142 = .ok (.iaload, 1) := by decide +kernel
theorem dX5_lightFrom_143 : decode cX5_lightFrom 143 = .ok (.iadd, 1) := by decide +kernel
theorem dX5_lightFrom_144 : decode cX5_lightFrom 144 = .ok (.iastore, 1) := by decide +kernel
theorem dX5_lightFrom_145 : decode cX5_lightFrom 145 = .ok (.aload_n 0, 1) := by decide +kernel
theorem dX5_lightFrom_146 : decode cX5_lightFrom 146 = .ok (.getfield 50, 3) := by decide +kernel
theorem dX5_lightFrom_149 : decode cX5_lightFrom 149 = .ok (.iload 6, 2) := by decide +kernel
theorem dX5_lightFrom_151 : decode cX5_lightFrom 151 = .ok (.iload 5, 2) := by decide +kernel
theorem dX5_lightFrom_153 : decode cX5_lightFrom 153 = .ok (.iastore, 1) := by decide +kernel
theorem dX5_lightFrom_154 : decode cX5_lightFrom 154 = .ok (.iinc 4 1, 3) := by decide +kernel
theorem dX5_lightFrom_157 : decode cX5_lightFrom 157 = .ok (.goto (-88), 3) := by decide +kernel
theorem dX5_lightFrom_160 : decode cX5_lightFrom 160 = .ok (.iinc 2 1, 3) := by decide +kernel
theorem dX5_lightFrom_163 : decode cX5_lightFrom 163 = .ok (.goto (-132), 3) := by decide +kernel
theorem dX5_lightFrom_166 : decode cX5_lightFrom 166 = .ok (.return_, 1) := by decide +kernel
def hX5_lightFrom_69 (f : Nat) (Φ : aj_M → Prop) (K31 : List Nat → Int → aj_M → Prop) : Nat → List Nat → Int → Int → Int → aj_M → Prop
  | 0, _, _, _, _, _ => False
  | k + 1, q0, v2, v3, v4, m => (0 ≤ (v3 + 1) ∧ (v3 + 1) < 62) ∧ rI v4 ∧ rI (m (8 :: q0) (v3 + 1).toNat) ∧ ((m (8 :: q0) (v3 + 1).toNat) ≤ v4 → K31 q0 (v2 + 1) m) ∧ (¬ ((m (8 :: q0) (v3 + 1).toNat) ≤ v4) → (0 ≤ v4 ∧ v4 < 288) ∧ wX5_otherEnd f (fun z1 m1 => (0 ≤ v3 ∧ v3 < 60) ∧ (0 ≤ (m (9 :: q0) v4.toNat) ∧ (m (9 :: q0) v4.toNat) < 144) ∧ (0 ≤ z1 ∧ z1 < 60) ∧ rI ((m1 (11 :: q0) v3.toNat) + (m1 (6 :: q0) (m (9 :: q0) v4.toNat).toNat)) ∧ rI (m1 (11 :: q0) z1.toNat) ∧ ((m1 (11 :: q0) z1.toNat) ≤ ((m1 (11 :: q0) v3.toNat) + (m1 (6 :: q0) (m (9 :: q0) v4.toNat).toNat)) → hX5_lightFrom_69 f Φ K31 k q0 v2 v3 (v4 + 1) m1) ∧ (¬ ((m1 (11 :: q0) z1.toNat) ≤ ((m1 (11 :: q0) v3.toNat) + (m1 (6 :: q0) (m (9 :: q0) v4.toNat).toNat))) → (0 ≤ v3 ∧ v3 < 60) ∧ (0 ≤ (m (9 :: q0) v4.toNat) ∧ (m (9 :: q0) v4.toNat) < 144) ∧ (0 ≤ z1 ∧ z1 < 60) ∧ ∀ m2, m2 = aj_u m1 (11 :: q0) z1.toNat ((m1 (11 :: q0) v3.toNat) + (m1 (6 :: q0) (m (9 :: q0) v4.toNat).toNat)) → (0 ≤ z1 ∧ z1 < 60) ∧ ∀ m3, m3 = aj_u m2 (12 :: q0) z1.toNat (m (9 :: q0) v4.toNat) → hX5_lightFrom_69 f Φ K31 k q0 v2 v3 (v4 + 1) m3)) q0 (m (9 :: q0) v4.toNat) v3 m)
set_option maxHeartbeats 4000000 in
set_option maxRecDepth 100000 in
theorem tX5_lightFrom_69 {X : aj_T} {n f : Nat} {Φ : aj_M → Prop} (C : aj_Cx X cX5_lightFrom RX5 7 (n + 1)) (K : aj_Rt X none (fun r m => r = none ∧ Φ m)) {K31 : List Nat → Int → aj_M → Prop} (HK31 : ∀ (q0 : List Nat) (v2 : Int) (m : aj_M) (hq0 : (.inl (5, q0) : aj_R) ∈ aj_pls), K31 q0 v2 m → aj_J X 31 [some (vO 5 q0), none, some (vI v2), none, none, none, none] [] m) : ∀ (k : Nat) (q0 : List Nat) (v2 : Int) (v3 : Int) (v4 : Int) (m : aj_M) (hq0 : (.inl (5, q0) : aj_R) ∈ aj_pls), hX5_lightFrom_69 f Φ K31 k q0 v2 v3 v4 m → aj_J X 69 [some (vO 5 q0), none, some (vI v2), some (vI v3), some (vI v4), none, none] [] m := by
  intro k
  induction k with
  | zero =>
    intro q0 v2 v3 v4 m _ h
    exact h.elim
  | succ k ih =>
    intro q0 v2 v3 v4 m hq0 h
    unfold hX5_lightFrom_69 at h
    refine aj_iload C dX5_lightFrom_69 rfl ?_
    refine aj_aload_n C dX5_lightFrom_71 rfl ?_
    refine aj_getA (x := 0) (y := 62) C flX5_38 hq0 rfl dX5_lightFrom_72 ?_
    refine aj_iload_n C dX5_lightFrom_75 rfl ?_
    refine aj_iconst C dX5_lightFrom_76 ?_
    refine aj_iadd C dX5_lightFrom_77 ?_
    obtain ⟨r0, h⟩ := h
    refine aj_iald C (aj_ca (e := 0) (n := 62) (j := 8) hq0 (by decide) rfl) (by decide) r0 dX5_lightFrom_78 rfl ?_
    obtain ⟨r0, r1, h1, h2⟩ := h
    refine aj_icmp_ge (tgt := 160) C dX5_lightFrom_79 (by decide) r0 r1 (fun e => ?_) (fun e => ?_)
    · have h := h1 e
      refine aj_iinc (lv' := [some (vO 5 q0), none, some (vI (v2 + 1)), some (vI v3), some (vI v4), none, none]) C dX5_lightFrom_160 rfl (by decide) rfl ?_
      refine aj_goto (tgt := 31) C dX5_lightFrom_163 (by decide) ?_
      refine aj_wk (lv' := [some (vO 5 q0), none, some (vI (v2 + 1)), none, none, none, none]) (⟨rfl, ⟨rfl, trivial⟩⟩) ?_
      exact HK31 q0 (v2 + 1) _ hq0 h
    · have h := h2 e
      refine aj_aload_n C dX5_lightFrom_82 rfl ?_
      refine aj_getA (x := 0) (y := 288) C flX5_41 hq0 rfl dX5_lightFrom_83 ?_
      refine aj_iload C dX5_lightFrom_86 rfl ?_
      obtain ⟨r0, h⟩ := h
      refine aj_iald C (aj_ca (e := 0) (n := 288) (j := 9) hq0 (by decide) rfl) (by decide) r0 dX5_lightFrom_88 rfl ?_
      refine aj_istore (lv' := [some (vO 5 q0), none, some (vI v2), some (vI v3), some (vI v4), some (vI (m (9 :: q0) v4.toNat)), none]) C dX5_lightFrom_89 (by decide) rfl ?_
      refine aj_aload_n C dX5_lightFrom_91 rfl ?_
      refine aj_iload C dX5_lightFrom_92 rfl ?_
      refine aj_iload_n C dX5_lightFrom_94 rfl ?_
      refine aj_callV (rest := []) C mvX5_131 (sX5_otherEnd hq0 h) hq0 (aj_np 2 (by decide +kernel) rfl) (Nat.le_of_ble_eq_true rfl) rfl dX5_lightFrom_95 (fun r m1 h => ?_)
      obtain ⟨z1, rfl, h⟩ := h
      refine aj_istore (lv' := [some (vO 5 q0), none, some (vI v2), some (vI v3), some (vI v4), some (vI (m (9 :: q0) v4.toNat)), some (vI z1)]) C dX5_lightFrom_98 (by decide) rfl ?_
      refine aj_aload_n C dX5_lightFrom_100 rfl ?_
      refine aj_getA (x := 0) (y := 60) C flX5_47 hq0 rfl dX5_lightFrom_101 ?_
      refine aj_iload_n C dX5_lightFrom_104 rfl ?_
      obtain ⟨r0, h⟩ := h
      refine aj_iald C (aj_ca (e := 0) (n := 60) (j := 11) hq0 (by decide) rfl) (by decide) r0 dX5_lightFrom_105 rfl ?_
      refine aj_aload_n C dX5_lightFrom_106 rfl ?_
      refine aj_getA (x := 0) (y := 144) C flX5_31 hq0 rfl dX5_lightFrom_107 ?_
      refine aj_iload C dX5_lightFrom_110 rfl ?_
      obtain ⟨r0, h⟩ := h
      refine aj_iald C (aj_ca (e := 0) (n := 144) (j := 6) hq0 (by decide) rfl) (by decide) r0 dX5_lightFrom_112 rfl ?_
      refine aj_iadd C dX5_lightFrom_113 ?_
      refine aj_aload_n C dX5_lightFrom_114 rfl ?_
      refine aj_getA (x := 0) (y := 60) C flX5_47 hq0 rfl dX5_lightFrom_115 ?_
      refine aj_iload C dX5_lightFrom_118 rfl ?_
      obtain ⟨r0, h⟩ := h
      refine aj_iald C (aj_ca (e := 0) (n := 60) (j := 11) hq0 (by decide) rfl) (by decide) r0 dX5_lightFrom_120 rfl ?_
      obtain ⟨r0, r1, h1, h2⟩ := h
      refine aj_icmp_ge (tgt := 154) C dX5_lightFrom_121 (by decide) r0 r1 (fun e => ?_) (fun e => ?_)
      · have h := h1 e
        refine aj_iinc (lv' := [some (vO 5 q0), none, some (vI v2), some (vI v3), some (vI (v4 + 1)), some (vI (m (9 :: q0) v4.toNat)), some (vI z1)]) C dX5_lightFrom_154 rfl (by decide) rfl ?_
        refine aj_goto (tgt := 69) C dX5_lightFrom_157 (by decide) ?_
        refine aj_wk (lv' := [some (vO 5 q0), none, some (vI v2), some (vI v3), some (vI (v4 + 1)), none, none]) (⟨rfl, ⟨rfl, ⟨rfl, ⟨rfl, trivial⟩⟩⟩⟩) ?_
        exact ih q0 v2 v3 (v4 + 1) _ hq0 h
      · have h := h2 e
        refine aj_aload_n C dX5_lightFrom_124 rfl ?_
        refine aj_getA (x := 0) (y := 60) C flX5_47 hq0 rfl dX5_lightFrom_125 ?_
        refine aj_iload C dX5_lightFrom_128 rfl ?_
        refine aj_aload_n C dX5_lightFrom_130 rfl ?_
        refine aj_getA (x := 0) (y := 60) C flX5_47 hq0 rfl dX5_lightFrom_131 ?_
        refine aj_iload_n C dX5_lightFrom_134 rfl ?_
        obtain ⟨r0, h⟩ := h
        refine aj_iald C (aj_ca (e := 0) (n := 60) (j := 11) hq0 (by decide) rfl) (by decide) r0 dX5_lightFrom_135 rfl ?_
        refine aj_aload_n C dX5_lightFrom_136 rfl ?_
        refine aj_getA (x := 0) (y := 144) C flX5_31 hq0 rfl dX5_lightFrom_137 ?_
        refine aj_iload C dX5_lightFrom_140 rfl ?_
        obtain ⟨r0, h⟩ := h
        refine aj_iald C (aj_ca (e := 0) (n := 144) (j := 6) hq0 (by decide) rfl) (by decide) r0 dX5_lightFrom_142 rfl ?_
        refine aj_iadd C dX5_lightFrom_143 ?_
        obtain ⟨r0, h⟩ := h
        refine aj_iast C (aj_ca (e := 0) (n := 60) (j := 11) hq0 (by decide) rfl) (by decide) r0 dX5_lightFrom_144 ?_
        refine aj_nm (fun m2 e1 => ?_)
        have h := h m2 e1
        refine aj_aload_n C dX5_lightFrom_145 rfl ?_
        refine aj_getA (x := 0) (y := 60) C flX5_50 hq0 rfl dX5_lightFrom_146 ?_
        refine aj_iload C dX5_lightFrom_149 rfl ?_
        refine aj_iload C dX5_lightFrom_151 rfl ?_
        obtain ⟨r0, h⟩ := h
        refine aj_iast C (aj_ca (e := 0) (n := 60) (j := 12) hq0 (by decide) rfl) (by decide) r0 dX5_lightFrom_153 ?_
        refine aj_nm (fun m3 e1 => ?_)
        have h := h m3 e1
        refine aj_iinc (lv' := [some (vO 5 q0), none, some (vI v2), some (vI v3), some (vI (v4 + 1)), some (vI (m (9 :: q0) v4.toNat)), some (vI z1)]) C dX5_lightFrom_154 rfl (by decide) rfl ?_
        refine aj_goto (tgt := 69) C dX5_lightFrom_157 (by decide) ?_
        refine aj_wk (lv' := [some (vO 5 q0), none, some (vI v2), some (vI v3), some (vI (v4 + 1)), none, none]) (⟨rfl, ⟨rfl, ⟨rfl, ⟨rfl, trivial⟩⟩⟩⟩) ?_
        exact ih q0 v2 v3 (v4 + 1) _ hq0 h
def hX5_lightFrom_31 (f : Nat) (Φ : aj_M → Prop) : Nat → List Nat → Int → aj_M → Prop
  | 0, _, _, _ => False
  | k + 1, q0, v2, m => rI v2 ∧ rI (m q0 0) ∧ ((m q0 0) ≤ v2 → Φ m) ∧ (¬ ((m q0 0) ≤ v2) → wX5_lightestUnseen f (fun z1 m1 => rI z1 ∧ (0 ≤ z1 → ∀ m2, m2 = aj_u m1 q0 15 (aj_lorL (m1 q0 15) (aj_lshl 1 z1)) → (0 ≤ z1 ∧ z1 < 62) ∧ hX5_lightFrom_69 f Φ (fun q0 v2 m => hX5_lightFrom_31 f Φ k q0 v2 m) f q0 v2 z1 (m2 (8 :: q0) z1.toNat) m2) ∧ (¬ (0 ≤ z1) → Φ m1)) q0 m)
set_option maxHeartbeats 4000000 in
set_option maxRecDepth 100000 in
theorem tX5_lightFrom_31 {X : aj_T} {n f : Nat} {Φ : aj_M → Prop} (C : aj_Cx X cX5_lightFrom RX5 7 (n + 1)) (K : aj_Rt X none (fun r m => r = none ∧ Φ m)) : ∀ (k : Nat) (q0 : List Nat) (v2 : Int) (m : aj_M) (hq0 : (.inl (5, q0) : aj_R) ∈ aj_pls), hX5_lightFrom_31 f Φ k q0 v2 m → aj_J X 31 [some (vO 5 q0), none, some (vI v2), none, none, none, none] [] m := by
  intro k
  induction k with
  | zero =>
    intro q0 v2 m _ h
    exact h.elim
  | succ k ih =>
    intro q0 v2 m hq0 h
    unfold hX5_lightFrom_31 at h
    refine aj_iload_n C dX5_lightFrom_31 rfl ?_
    refine aj_aload_n C dX5_lightFrom_32 rfl ?_
    refine aj_getI C flX5_9 hq0 (by decide) dX5_lightFrom_33 rfl ?_
    obtain ⟨r0, r1, h1, h2⟩ := h
    refine aj_icmp_ge (tgt := 166) C dX5_lightFrom_36 (by decide) r0 r1 (fun e => ?_) (fun e => ?_)
    · have h := h1 e
      exact aj_vret C K dX5_lightFrom_166 ⟨rfl, h⟩
    · have h := h2 e
      refine aj_aload_n C dX5_lightFrom_39 rfl ?_
      refine aj_callV (rest := []) C mvX5_162 (sX5_lightestUnseen hq0 h) hq0 (aj_np 0 (by decide +kernel) rfl) (Nat.le_of_ble_eq_true rfl) rfl dX5_lightFrom_40 (fun r m1 h => ?_)
      obtain ⟨z1, rfl, h⟩ := h
      refine aj_istore_n (lv' := [some (vO 5 q0), none, some (vI v2), some (vI z1), none, none, none]) C dX5_lightFrom_43 (by decide) rfl ?_
      refine aj_iload_n C dX5_lightFrom_44 rfl ?_
      obtain ⟨r0, h1, h2⟩ := h
      refine aj_if_ge (tgt := 49) C dX5_lightFrom_45 (by decide) r0 (fun e => ?_) (fun e => ?_)
      · have h := h1 e
        refine aj_aload_n C dX5_lightFrom_49 rfl ?_
        refine aj_dup C aj_nR dX5_lightFrom_50 ?_
        refine aj_getL C flX5_59 hq0 rfl dX5_lightFrom_51 rfl ?_
        refine aj_lconst (z := 1) C dX5_lightFrom_54 rfl ?_
        refine aj_iload_n C dX5_lightFrom_55 rfl ?_
        refine aj_lshl_ C dX5_lightFrom_56 ?_
        refine aj_lor C dX5_lightFrom_57 ?_
        refine aj_putL C fpX5_59 hq0 rfl dX5_lightFrom_58 ?_
        refine aj_nm (fun m2 e1 => ?_)
        have h := h m2 e1
        refine aj_aload_n C dX5_lightFrom_61 rfl ?_
        refine aj_getA (x := 0) (y := 62) C flX5_38 hq0 rfl dX5_lightFrom_62 ?_
        refine aj_iload_n C dX5_lightFrom_65 rfl ?_
        obtain ⟨r0, h⟩ := h
        refine aj_iald C (aj_ca (e := 0) (n := 62) (j := 8) hq0 (by decide) rfl) (by decide) r0 dX5_lightFrom_66 rfl ?_
        refine aj_istore (lv' := [some (vO 5 q0), none, some (vI v2), some (vI z1), some (vI (m2 (8 :: q0) z1.toNat)), none, none]) C dX5_lightFrom_67 (by decide) rfl ?_
        exact tX5_lightFrom_69 C K (fun q0 v2 m hq0 hh => ih q0 v2 m hq0 hh) f q0 v2 z1 (m2 (8 :: q0) z1.toNat) _ hq0 h
      · have h := h2 e
        exact aj_vret C K dX5_lightFrom_48 ⟨rfl, h⟩
def wX5_lightFrom (f : Nat) (Φ : aj_M → Prop) (q0 : List Nat) (v1 : Int) (m : aj_M) : Prop := wJ7_fill_53178 f (fun m1 => wJ7_fill_53178 f (fun m2 => ∀ m3, m3 = aj_u m2 q0 15 0 → (0 ≤ v1 ∧ v1 < 60) ∧ ∀ m4, m4 = aj_u m3 (11 :: q0) v1.toNat 0 → hX5_lightFrom_31 f Φ f q0 0 m4) 60 (12 :: q0) (-1) m1) 60 (11 :: q0) 1000000 m
set_option maxHeartbeats 4000000 in
set_option maxRecDepth 100000 in
theorem sX5_lightFrom {n f : Nat} {Φ : aj_M → Prop} {q0 : List Nat} {v1 : Int} {m : aj_M} (hq0 : (.inl (5, q0) : aj_R) ∈ aj_pls) (h : wX5_lightFrom f Φ q0 v1 m) : aj_Ct (n + 1) yX5_lightFrom cX5_lightFrom 7 none [vO 5 q0, vI v1] m (fun r m => r = none ∧ Φ m) := by
  refine aj_met (lv := [some (vO 5 q0), some (vI v1), none, none, none, none, none]) (by decide +kernel) rfl (Nat.le_of_ble_eq_true rfl) (fun X C K => ?_)
  unfold wX5_lightFrom at h
  refine aj_aload_n C dX5_lightFrom_0 rfl ?_
  refine aj_getA (x := 0) (y := 60) C flX5_47 hq0 rfl dX5_lightFrom_1 ?_
  refine aj_ldc (z := 1000000) C (aj_mem 1069 (by decide +kernel) (by decide +kernel)) rfl dX5_lightFrom_4 ?_
  refine aj_callS (rest := []) C msX5_125 (sJ7_fill_53178 (aj_ca (e := 0) (n := 60) (j := 11) hq0 (by decide) rfl) (by decide) h) (aj_np 2 (by decide +kernel) rfl) (Nat.le_of_ble_eq_true rfl) rfl dX5_lightFrom_6 (fun r m1 h => ?_)
  obtain ⟨rfl, h⟩ := h
  refine aj_aload_n C dX5_lightFrom_9 rfl ?_
  refine aj_getA (x := 0) (y := 60) C flX5_50 hq0 rfl dX5_lightFrom_10 ?_
  refine aj_iconst C dX5_lightFrom_13 ?_
  refine aj_callS (rest := []) C msX5_125 (sJ7_fill_53178 (aj_ca (e := 0) (n := 60) (j := 12) hq0 (by decide) rfl) (by decide) h) (aj_np 2 (by decide +kernel) rfl) (Nat.le_of_ble_eq_true rfl) rfl dX5_lightFrom_14 (fun r m2 h => ?_)
  obtain ⟨rfl, h⟩ := h
  refine aj_aload_n C dX5_lightFrom_17 rfl ?_
  refine aj_lconst (z := 0) C dX5_lightFrom_18 rfl ?_
  refine aj_putL C fpX5_59 hq0 rfl dX5_lightFrom_19 ?_
  refine aj_nm (fun m3 e1 => ?_)
  have h := h m3 e1
  refine aj_aload_n C dX5_lightFrom_22 rfl ?_
  refine aj_getA (x := 0) (y := 60) C flX5_47 hq0 rfl dX5_lightFrom_23 ?_
  refine aj_iload_n C dX5_lightFrom_26 rfl ?_
  refine aj_iconst C dX5_lightFrom_27 ?_
  obtain ⟨r0, h⟩ := h
  refine aj_iast C (aj_ca (e := 0) (n := 60) (j := 11) hq0 (by decide) rfl) (by decide) r0 dX5_lightFrom_28 ?_
  refine aj_nm (fun m4 e1 => ?_)
  have h := h m4 e1
  refine aj_iconst C dX5_lightFrom_29 ?_
  refine aj_istore_n (lv' := [some (vO 5 q0), some (vI v1), some (vI 0), none, none, none, none]) C dX5_lightFrom_30 (by decide) rfl ?_
  refine aj_wk (lv' := [some (vO 5 q0), none, some (vI 0), none, none, none, none]) (⟨rfl, ⟨rfl, trivial⟩⟩) ?_
  exact tX5_lightFrom_31 C K f q0 0 _ hq0 h
theorem dX5_lightestRing_0 : decode cX5_lightestRing 0 = .ok (.ldc 151, 2) := by decide +kernel
theorem dX5_lightestRing_2 : decode cX5_lightestRing 2 = .ok (.istore_n 1, 1) := by decide +kernel
theorem dX5_lightestRing_3 : decode cX5_lightestRing 3 = .ok (.iconst 0, 1) := by decide +kernel
theorem dX5_lightestRing_4 : decode cX5_lightestRing 4 = .ok (.istore_n 2, 1) := by decide +kernel
theorem dX5_lightestRing_5 : decode cX5_lightestRing 5 = .ok (.iload_n 2, 1) := by decide +kernel
theorem dX5_lightestRing_6 : decode cX5_lightestRing 6 = .ok (.aload_n 0, 1) := by decide +kernel
theorem dX5_lightestRing_7 : decode cX5_lightestRing 7 = .ok (.getfield 9, 3) := by decide +kernel
theorem dX5_lightestRing_10 : decode cX5_lightestRing 10 = .ok (.if_icmp .ge 95, 3) := by decide +kernel
theorem dX5_lightestRing_13 : decode cX5_lightestRing 13 = .ok (.aload_n 0, 1) := by decide +kernel
theorem dX5_lightestRing_14 : decode cX5_lightestRing 14 = .ok (.iload_n 2, 1) := by decide +kernel
theorem dX5_lightestRing_15 : decode cX5_lightestRing 15 = .ok (.invokevirtual 166, 3) := by decide +kernel
theorem dX5_lightestRing_18 : decode cX5_lightestRing 18 = .ok (.iconst 0, 1) := by decide +kernel
theorem dX5_lightestRing_19 : decode cX5_lightestRing 19 = .ok (.istore_n 3, 1) := by decide +kernel
theorem dX5_lightestRing_20 : decode cX5_lightestRing 20 = .ok (.iload_n 3, 1) := by decide +kernel
theorem dX5_lightestRing_21 : decode cX5_lightestRing 21 = .ok (.aload_n 0, 1) := by decide +kernel
theorem dX5_lightestRing_22 : decode cX5_lightestRing 22 = .ok (.getfield 15, 3) := by decide +kernel
theorem dX5_lightestRing_25 : decode cX5_lightestRing 25 = .ok (.if_icmp .ge 74, 3) := by decide +kernel
theorem dX5_lightestRing_28 : decode cX5_lightestRing 28 = .ok (.aload_n 0, 1) := by decide +kernel
theorem dX5_lightestRing_29 : decode cX5_lightestRing 29 = .ok (.getfield 18, 3) := by decide +kernel
theorem dX5_lightestRing_32 : decode cX5_lightestRing 32 = .ok (.iload_n 3, 1) := by decide +kernel
theorem dX5_lightestRing_33 : decode cX5_lightestRing 33 = .ok (.iaload, 1) := by decide +kernel
theorem dX5_lightestRing_34 : decode cX5_lightestRing 34 = .ok (.istore 4, 2) := by decide +kernel
theorem dX5_lightestRing_36 : decode cX5_lightestRing 36 = .ok (.aload_n 0, 1) := by decide +kernel
theorem dX5_lightestRing_37 : decode cX5_lightestRing 37 = .ok (.getfield 22, 3) := by decide +kernel
theorem dX5_lightestRing_40 : decode cX5_lightestRing 40 = .ok (.iload_n 3, 1) := by decide +kernel
theorem dX5_lightestRing_41 : decode cX5_lightestRing 41 = .ok (.iaload, 1) := by decide +kernel
theorem dX5_lightestRing_42 : decode cX5_lightestRing 42 = .ok (.istore 5, 2) := by decide +kernel
theorem dX5_lightestRing_44 : decode cX5_lightestRing 44 = .ok (.aload_n 0, 1) := by decide +kernel
theorem dX5_lightestRing_45 : decode cX5_lightestRing 45 = .ok (.getfield 50, 3) := by decide +kernel
theorem dX5_lightestRing_48 : decode cX5_lightestRing 48 = .ok (.iload 4, 2) := by decide +kernel
theorem dX5_lightestRing_50 : decode cX5_lightestRing 50 = .ok (.iaload, 1) := by decide +kernel
theorem dX5_lightestRing_51 : decode cX5_lightestRing 51 = .ok (.iload_n 3, 1) := by decide +kernel
theorem dX5_lightestRing_52 : decode cX5_lightestRing 52 = .ok (.if_icmp .eq 41, 3) := by decide +kernel
theorem dX5_lightestRing_55 : decode cX5_lightestRing 55 = .ok (.aload_n 0, 1) := by decide +kernel
theorem dX5_lightestRing_56 : decode cX5_lightestRing 56 = .ok (.getfield 50, 3) := by decide +kernel
theorem dX5_lightestRing_59 : decode cX5_lightestRing 59 = .ok (.iload 5, 2) := by decide +kernel
theorem dX5_lightestRing_61 : decode cX5_lightestRing 61 = .ok (.iaload, 1) := by decide +kernel
theorem dX5_lightestRing_62 : decode cX5_lightestRing 62 = .ok (.iload_n 3, 1) := by decide +kernel
theorem dX5_lightestRing_63 : decode cX5_lightestRing 63 = .ok (.if_icmp .eq 30, 3) := by decide +kernel
theorem dX5_lightestRing_66 : decode cX5_lightestRing 66 = .ok (.iload_n 1, 1) := by decide +kernel
theorem dX5_lightestRing_67 : decode cX5_lightestRing 67 = .ok (.aload_n 0, 1) := by decide +kernel
theorem dX5_lightestRing_68 : decode cX5_lightestRing 68 = .ok (.getfield 47, 3) := by decide +kernel
theorem dX5_lightestRing_71 : decode cX5_lightestRing 71 = .ok (.iload 4, 2) := by decide +kernel
theorem dX5_lightestRing_73 : decode cX5_lightestRing 73 = .ok (.iaload, 1) := by decide +kernel
theorem dX5_lightestRing_74 : decode cX5_lightestRing 74 = .ok (.aload_n 0, 1) := by decide +kernel
theorem dX5_lightestRing_75 : decode cX5_lightestRing 75 = .ok (.getfield 47, 3) := by decide +kernel
theorem dX5_lightestRing_78 : decode cX5_lightestRing 78 = .ok (.iload 5, 2) := by decide +kernel
theorem dX5_lightestRing_80 : decode cX5_lightestRing 80 = .ok (.iaload, 1) := by decide +kernel
theorem dX5_lightestRing_81 : decode cX5_lightestRing 81 = .ok (.iadd, 1) := by decide +kernel
theorem dX5_lightestRing_82 : decode cX5_lightestRing 82 = .ok (.aload_n 0, 1) := by decide +kernel
theorem dX5_lightestRing_83 : decode cX5_lightestRing 83 = .ok (.getfield 31, 3) := by decide +kernel
theorem dX5_lightestRing_86 : decode cX5_lightestRing 86 = .ok (.iload_n 3, 1) := by decide +kernel
theorem dX5_lightestRing_87 : decode cX5_lightestRing 87 = .ok (.iaload, 1) := by decide +kernel
theorem dX5_lightestRing_88 : decode cX5_lightestRing 88 = .ok (.iadd, 1) := by decide +kernel
theorem dX5_lightestRing_89 : decode cX5_lightestRing 89 = .ok (.invokestatic 155, 3) := by decide +kernel
theorem dX5_lightestRing_92 : decode cX5_lightestRing 92 = .ok (.istore_n 1, 1) := by decide +kernel
theorem dX5_lightestRing_93 : decode cX5_lightestRing 93 = .ok (.iinc 3 1, 3) := by decide +kernel
theorem dX5_lightestRing_96 : decode cX5_lightestRing 96 = .ok (.goto (-76), 3) := by decide +kernel
theorem dX5_lightestRing_99 : decode cX5_lightestRing 99 = .ok (.iinc 2 1, 3) := by decide +kernel
theorem dX5_lightestRing_102 : decode cX5_lightestRing 102 = .ok (.goto (-97), 3) := by decide +kernel
theorem dX5_lightestRing_105 : decode cX5_lightestRing 105 = .ok (.iload_n 1, 1) := by decide +kernel
theorem dX5_lightestRing_106 : decode cX5_lightestRing 106 = .ok (.ireturn, 1) := by decide +kernel
def hX5_lightestRing_20 (f : Nat) (Φ : Int → aj_M → Prop) (K5 : List Nat → Int → Int → aj_M → Prop) : Nat → List Nat → Int → Int → Int → aj_M → Prop
  | 0, _, _, _, _, _ => False
  | k + 1, q0, v1, v2, v3, m => rI v3 ∧ rI (m q0 1) ∧ ((m q0 1) ≤ v3 → K5 q0 v1 (v2 + 1) m) ∧ (¬ ((m q0 1) ≤ v3) → (0 ≤ v3 ∧ v3 < 144) ∧ (0 ≤ v3 ∧ v3 < 144) ∧ (0 ≤ (m (2 :: q0) v3.toNat) ∧ (m (2 :: q0) v3.toNat) < 60) ∧ rI (m (12 :: q0) (m (2 :: q0) v3.toNat).toNat) ∧ rI v3 ∧ ((m (12 :: q0) (m (2 :: q0) v3.toNat).toNat) = v3 → hX5_lightestRing_20 f Φ K5 k q0 v1 v2 (v3 + 1) m) ∧ (¬ ((m (12 :: q0) (m (2 :: q0) v3.toNat).toNat) = v3) → (0 ≤ (m (3 :: q0) v3.toNat) ∧ (m (3 :: q0) v3.toNat) < 60) ∧ rI (m (12 :: q0) (m (3 :: q0) v3.toNat).toNat) ∧ rI v3 ∧ ((m (12 :: q0) (m (3 :: q0) v3.toNat).toNat) = v3 → hX5_lightestRing_20 f Φ K5 k q0 v1 v2 (v3 + 1) m) ∧ (¬ ((m (12 :: q0) (m (3 :: q0) v3.toNat).toNat) = v3) → (0 ≤ (m (2 :: q0) v3.toNat) ∧ (m (2 :: q0) v3.toNat) < 60) ∧ (0 ≤ (m (3 :: q0) v3.toNat) ∧ (m (3 :: q0) v3.toNat) < 60) ∧ (0 ≤ v3 ∧ v3 < 144) ∧ rI v1 ∧ rI (((m (11 :: q0) (m (2 :: q0) v3.toNat).toNat) + (m (11 :: q0) (m (3 :: q0) v3.toNat).toNat)) + (m (6 :: q0) v3.toNat)) ∧ hX5_lightestRing_20 f Φ K5 k q0 (min v1 (((m (11 :: q0) (m (2 :: q0) v3.toNat).toNat) + (m (11 :: q0) (m (3 :: q0) v3.toNat).toNat)) + (m (6 :: q0) v3.toNat))) v2 (v3 + 1) m)))
set_option maxHeartbeats 4000000 in
set_option maxRecDepth 100000 in
theorem tX5_lightestRing_20 {X : aj_T} {n f : Nat} {Φ : Int → aj_M → Prop} (C : aj_Cx X cX5_lightestRing RX5 6 (n + 2)) (K : aj_Rt X (some .int) (fun r m => ∃ z, r = some (vI z) ∧ Φ z m)) {K5 : List Nat → Int → Int → aj_M → Prop} (HK5 : ∀ (q0 : List Nat) (v1 : Int) (v2 : Int) (m : aj_M) (hq0 : (.inl (5, q0) : aj_R) ∈ aj_pls), K5 q0 v1 v2 m → aj_J X 5 [some (vO 5 q0), some (vI v1), some (vI v2), none, none, none] [] m) : ∀ (k : Nat) (q0 : List Nat) (v1 : Int) (v2 : Int) (v3 : Int) (m : aj_M) (hq0 : (.inl (5, q0) : aj_R) ∈ aj_pls), hX5_lightestRing_20 f Φ K5 k q0 v1 v2 v3 m → aj_J X 20 [some (vO 5 q0), some (vI v1), some (vI v2), some (vI v3), none, none] [] m := by
  intro k
  induction k with
  | zero =>
    intro q0 v1 v2 v3 m _ h
    exact h.elim
  | succ k ih =>
    intro q0 v1 v2 v3 m hq0 h
    unfold hX5_lightestRing_20 at h
    refine aj_iload_n C dX5_lightestRing_20 rfl ?_
    refine aj_aload_n C dX5_lightestRing_21 rfl ?_
    refine aj_getI C flX5_15 hq0 (by decide) dX5_lightestRing_22 rfl ?_
    obtain ⟨r0, r1, h1, h2⟩ := h
    refine aj_icmp_ge (tgt := 99) C dX5_lightestRing_25 (by decide) r0 r1 (fun e => ?_) (fun e => ?_)
    · have h := h1 e
      refine aj_iinc (lv' := [some (vO 5 q0), some (vI v1), some (vI (v2 + 1)), some (vI v3), none, none]) C dX5_lightestRing_99 rfl (by decide) rfl ?_
      refine aj_goto (tgt := 5) C dX5_lightestRing_102 (by decide) ?_
      refine aj_wk (lv' := [some (vO 5 q0), some (vI v1), some (vI (v2 + 1)), none, none, none]) (⟨rfl, ⟨rfl, ⟨rfl, trivial⟩⟩⟩) ?_
      exact HK5 q0 v1 (v2 + 1) _ hq0 h
    · have h := h2 e
      refine aj_aload_n C dX5_lightestRing_28 rfl ?_
      refine aj_getA (x := 0) (y := 144) C flX5_18 hq0 rfl dX5_lightestRing_29 ?_
      refine aj_iload_n C dX5_lightestRing_32 rfl ?_
      obtain ⟨r0, h⟩ := h
      refine aj_iald C (aj_ca (e := 0) (n := 144) (j := 2) hq0 (by decide) rfl) (by decide) r0 dX5_lightestRing_33 rfl ?_
      refine aj_istore (lv' := [some (vO 5 q0), some (vI v1), some (vI v2), some (vI v3), some (vI (m (2 :: q0) v3.toNat)), none]) C dX5_lightestRing_34 (by decide) rfl ?_
      refine aj_aload_n C dX5_lightestRing_36 rfl ?_
      refine aj_getA (x := 0) (y := 144) C flX5_22 hq0 rfl dX5_lightestRing_37 ?_
      refine aj_iload_n C dX5_lightestRing_40 rfl ?_
      obtain ⟨r0, h⟩ := h
      refine aj_iald C (aj_ca (e := 0) (n := 144) (j := 3) hq0 (by decide) rfl) (by decide) r0 dX5_lightestRing_41 rfl ?_
      refine aj_istore (lv' := [some (vO 5 q0), some (vI v1), some (vI v2), some (vI v3), some (vI (m (2 :: q0) v3.toNat)), some (vI (m (3 :: q0) v3.toNat))]) C dX5_lightestRing_42 (by decide) rfl ?_
      refine aj_aload_n C dX5_lightestRing_44 rfl ?_
      refine aj_getA (x := 0) (y := 60) C flX5_50 hq0 rfl dX5_lightestRing_45 ?_
      refine aj_iload C dX5_lightestRing_48 rfl ?_
      obtain ⟨r0, h⟩ := h
      refine aj_iald C (aj_ca (e := 0) (n := 60) (j := 12) hq0 (by decide) rfl) (by decide) r0 dX5_lightestRing_50 rfl ?_
      refine aj_iload_n C dX5_lightestRing_51 rfl ?_
      obtain ⟨r0, r1, h1, h2⟩ := h
      refine aj_icmp_eq (tgt := 93) C dX5_lightestRing_52 (by decide) r0 r1 (fun e => ?_) (fun e => ?_)
      · have h := h1 e
        refine aj_iinc (lv' := [some (vO 5 q0), some (vI v1), some (vI v2), some (vI (v3 + 1)), some (vI (m (2 :: q0) v3.toNat)), some (vI (m (3 :: q0) v3.toNat))]) C dX5_lightestRing_93 rfl (by decide) rfl ?_
        refine aj_goto (tgt := 20) C dX5_lightestRing_96 (by decide) ?_
        refine aj_wk (lv' := [some (vO 5 q0), some (vI v1), some (vI v2), some (vI (v3 + 1)), none, none]) (⟨rfl, ⟨rfl, ⟨rfl, ⟨rfl, trivial⟩⟩⟩⟩) ?_
        exact ih q0 v1 v2 (v3 + 1) _ hq0 h
      · have h := h2 e
        refine aj_aload_n C dX5_lightestRing_55 rfl ?_
        refine aj_getA (x := 0) (y := 60) C flX5_50 hq0 rfl dX5_lightestRing_56 ?_
        refine aj_iload C dX5_lightestRing_59 rfl ?_
        obtain ⟨r0, h⟩ := h
        refine aj_iald C (aj_ca (e := 0) (n := 60) (j := 12) hq0 (by decide) rfl) (by decide) r0 dX5_lightestRing_61 rfl ?_
        refine aj_iload_n C dX5_lightestRing_62 rfl ?_
        obtain ⟨r0, r1, h1, h2⟩ := h
        refine aj_icmp_eq (tgt := 93) C dX5_lightestRing_63 (by decide) r0 r1 (fun e => ?_) (fun e => ?_)
        · have h := h1 e
          refine aj_iinc (lv' := [some (vO 5 q0), some (vI v1), some (vI v2), some (vI (v3 + 1)), some (vI (m (2 :: q0) v3.toNat)), some (vI (m (3 :: q0) v3.toNat))]) C dX5_lightestRing_93 rfl (by decide) rfl ?_
          refine aj_goto (tgt := 20) C dX5_lightestRing_96 (by decide) ?_
          refine aj_wk (lv' := [some (vO 5 q0), some (vI v1), some (vI v2), some (vI (v3 + 1)), none, none]) (⟨rfl, ⟨rfl, ⟨rfl, ⟨rfl, trivial⟩⟩⟩⟩) ?_
          exact ih q0 v1 v2 (v3 + 1) _ hq0 h
        · have h := h2 e
          refine aj_iload_n C dX5_lightestRing_66 rfl ?_
          refine aj_aload_n C dX5_lightestRing_67 rfl ?_
          refine aj_getA (x := 0) (y := 60) C flX5_47 hq0 rfl dX5_lightestRing_68 ?_
          refine aj_iload C dX5_lightestRing_71 rfl ?_
          obtain ⟨r0, h⟩ := h
          refine aj_iald C (aj_ca (e := 0) (n := 60) (j := 11) hq0 (by decide) rfl) (by decide) r0 dX5_lightestRing_73 rfl ?_
          refine aj_aload_n C dX5_lightestRing_74 rfl ?_
          refine aj_getA (x := 0) (y := 60) C flX5_47 hq0 rfl dX5_lightestRing_75 ?_
          refine aj_iload C dX5_lightestRing_78 rfl ?_
          obtain ⟨r0, h⟩ := h
          refine aj_iald C (aj_ca (e := 0) (n := 60) (j := 11) hq0 (by decide) rfl) (by decide) r0 dX5_lightestRing_80 rfl ?_
          refine aj_iadd C dX5_lightestRing_81 ?_
          refine aj_aload_n C dX5_lightestRing_82 rfl ?_
          refine aj_getA (x := 0) (y := 144) C flX5_31 hq0 rfl dX5_lightestRing_83 ?_
          refine aj_iload_n C dX5_lightestRing_86 rfl ?_
          obtain ⟨r0, h⟩ := h
          refine aj_iald C (aj_ca (e := 0) (n := 144) (j := 6) hq0 (by decide) rfl) (by decide) r0 dX5_lightestRing_87 rfl ?_
          refine aj_iadd C dX5_lightestRing_88 ?_
          obtain ⟨r0, r1, h⟩ := h
          refine aj_mmin C msX5_155 (Nat.le_of_ble_eq_true rfl) r0 r1 dX5_lightestRing_89 ?_
          refine aj_istore_n (lv' := [some (vO 5 q0), some (vI (min v1 (((m (11 :: q0) (m (2 :: q0) v3.toNat).toNat) + (m (11 :: q0) (m (3 :: q0) v3.toNat).toNat)) + (m (6 :: q0) v3.toNat)))), some (vI v2), some (vI v3), some (vI (m (2 :: q0) v3.toNat)), some (vI (m (3 :: q0) v3.toNat))]) C dX5_lightestRing_92 (by decide) rfl ?_
          refine aj_iinc (lv' := [some (vO 5 q0), some (vI (min v1 (((m (11 :: q0) (m (2 :: q0) v3.toNat).toNat) + (m (11 :: q0) (m (3 :: q0) v3.toNat).toNat)) + (m (6 :: q0) v3.toNat)))), some (vI v2), some (vI (v3 + 1)), some (vI (m (2 :: q0) v3.toNat)), some (vI (m (3 :: q0) v3.toNat))]) C dX5_lightestRing_93 rfl (by decide) rfl ?_
          refine aj_goto (tgt := 20) C dX5_lightestRing_96 (by decide) ?_
          refine aj_wk (lv' := [some (vO 5 q0), some (vI (min v1 (((m (11 :: q0) (m (2 :: q0) v3.toNat).toNat) + (m (11 :: q0) (m (3 :: q0) v3.toNat).toNat)) + (m (6 :: q0) v3.toNat)))), some (vI v2), some (vI (v3 + 1)), none, none]) (⟨rfl, ⟨rfl, ⟨rfl, ⟨rfl, trivial⟩⟩⟩⟩) ?_
          exact ih q0 (min v1 (((m (11 :: q0) (m (2 :: q0) v3.toNat).toNat) + (m (11 :: q0) (m (3 :: q0) v3.toNat).toNat)) + (m (6 :: q0) v3.toNat))) v2 (v3 + 1) _ hq0 h
def hX5_lightestRing_5 (f : Nat) (Φ : Int → aj_M → Prop) : Nat → List Nat → Int → Int → aj_M → Prop
  | 0, _, _, _, _ => False
  | k + 1, q0, v1, v2, m => rI v2 ∧ rI (m q0 0) ∧ ((m q0 0) ≤ v2 → Φ v1 m) ∧ (¬ ((m q0 0) ≤ v2) → wX5_lightFrom f (fun m1 => hX5_lightestRing_20 f Φ (fun q0 v1 v2 m => hX5_lightestRing_5 f Φ k q0 v1 v2 m) f q0 v1 v2 0 m1) q0 v2 m)
set_option maxHeartbeats 4000000 in
set_option maxRecDepth 100000 in
theorem tX5_lightestRing_5 {X : aj_T} {n f : Nat} {Φ : Int → aj_M → Prop} (C : aj_Cx X cX5_lightestRing RX5 6 (n + 2)) (K : aj_Rt X (some .int) (fun r m => ∃ z, r = some (vI z) ∧ Φ z m)) : ∀ (k : Nat) (q0 : List Nat) (v1 : Int) (v2 : Int) (m : aj_M) (hq0 : (.inl (5, q0) : aj_R) ∈ aj_pls), hX5_lightestRing_5 f Φ k q0 v1 v2 m → aj_J X 5 [some (vO 5 q0), some (vI v1), some (vI v2), none, none, none] [] m := by
  intro k
  induction k with
  | zero =>
    intro q0 v1 v2 m _ h
    exact h.elim
  | succ k ih =>
    intro q0 v1 v2 m hq0 h
    unfold hX5_lightestRing_5 at h
    refine aj_iload_n C dX5_lightestRing_5 rfl ?_
    refine aj_aload_n C dX5_lightestRing_6 rfl ?_
    refine aj_getI C flX5_9 hq0 (by decide) dX5_lightestRing_7 rfl ?_
    obtain ⟨r0, r1, h1, h2⟩ := h
    refine aj_icmp_ge (tgt := 105) C dX5_lightestRing_10 (by decide) r0 r1 (fun e => ?_) (fun e => ?_)
    · have h := h1 e
      refine aj_iload_n C dX5_lightestRing_105 rfl ?_
      exact aj_iret C K dX5_lightestRing_106 ⟨_, rfl, h⟩
    · have h := h2 e
      refine aj_aload_n C dX5_lightestRing_13 rfl ?_
      refine aj_iload_n C dX5_lightestRing_14 rfl ?_
      refine aj_callV (rest := []) C mvX5_166 (sX5_lightFrom hq0 h) hq0 (aj_np 1 (by decide +kernel) rfl) (Nat.le_of_ble_eq_true rfl) rfl dX5_lightestRing_15 (fun r m1 h => ?_)
      obtain ⟨rfl, h⟩ := h
      refine aj_iconst C dX5_lightestRing_18 ?_
      refine aj_istore_n (lv' := [some (vO 5 q0), some (vI v1), some (vI v2), some (vI 0), none, none]) C dX5_lightestRing_19 (by decide) rfl ?_
      exact tX5_lightestRing_20 C K (fun q0 v1 v2 m hq0 hh => ih q0 v1 v2 m hq0 hh) f q0 v1 v2 0 _ hq0 h
def wX5_lightestRing (f : Nat) (Φ : Int → aj_M → Prop) (q0 : List Nat) (m : aj_M) : Prop := hX5_lightestRing_5 f Φ f q0 1000000 0 m
set_option maxHeartbeats 4000000 in
set_option maxRecDepth 100000 in
theorem sX5_lightestRing {n f : Nat} {Φ : Int → aj_M → Prop} {q0 : List Nat} {m : aj_M} (hq0 : (.inl (5, q0) : aj_R) ∈ aj_pls) (h : wX5_lightestRing f Φ q0 m) : aj_Ct (n + 2) yX5_lightestRing cX5_lightestRing 6 (some .int) [vO 5 q0] m (fun r m => ∃ z, r = some (vI z) ∧ Φ z m) := by
  refine aj_met (lv := [some (vO 5 q0), none, none, none, none, none]) (by decide +kernel) rfl (Nat.le_of_ble_eq_true rfl) (fun X C K => ?_)
  unfold wX5_lightestRing at h
  refine aj_ldc (z := 1000000) C (aj_mem 1069 (by decide +kernel) (by decide +kernel)) rfl dX5_lightestRing_0 ?_
  refine aj_istore_n (lv' := [some (vO 5 q0), some (vI 1000000), none, none, none, none]) C dX5_lightestRing_2 (by decide) rfl ?_
  refine aj_iconst C dX5_lightestRing_3 ?_
  refine aj_istore_n (lv' := [some (vO 5 q0), some (vI 1000000), some (vI 0), none, none, none]) C dX5_lightestRing_4 (by decide) rfl ?_
  exact tX5_lightestRing_5 C K f q0 1000000 0 _ hq0 h
theorem dX6_clear_0 : decode cX6_clear 0 = .ok (.aload_n 0, 1) := by decide +kernel
theorem dX6_clear_1 : decode cX6_clear 1 = .ok (.getfield 12, 3) := by decide +kernel
theorem dX6_clear_4 : decode cX6_clear 4 = .ok (.iconst 1, 1) := by decide +kernel
theorem dX6_clear_5 : decode cX6_clear 5 = .ok (.iconst 1, 1) := by decide +kernel
theorem dX6_clear_6 : decode cX6_clear 6 = .ok (.invokevirtual 57, 3) := by decide +kernel
theorem dX6_clear_9 : decode cX6_clear 9 = .ok (.aload_n 0, 1) := by decide +kernel
theorem dX6_clear_10 : decode cX6_clear 10 = .ok (.getfield 21, 3) := by decide +kernel
theorem dX6_clear_13 : decode cX6_clear 13 = .ok (.invokevirtual 61, 3) := by decide +kernel
theorem dX6_clear_16 : decode cX6_clear 16 = .ok (.aload_n 0, 1) := by decide +kernel
theorem dX6_clear_17 : decode cX6_clear 17 = .ok (.iconst 0, 1) := by decide +kernel
theorem dX6_clear_18 : decode cX6_clear 18 = .ok (.putfield 25, 3) := by decide +kernel
theorem dX6_clear_21 : decode cX6_clear 21 = .ok (.aload_n 0, 1) := by decide +kernel
theorem dX6_clear_22 : decode cX6_clear 22 = .ok (.iconst 1, 1) := by decide +kernel
theorem dX6_clear_23 : decode cX6_clear 23 = .ok (.putfield 29, 3) := by decide +kernel
theorem dX6_clear_26 : decode cX6_clear 26 = .ok (.aload_n 0, 1) := by decide +kernel
theorem dX6_clear_27 : decode cX6_clear 27 = .ok (.iconst 0, 1) := by decide +kernel
theorem dX6_clear_28 : decode cX6_clear 28 = .ok (.putfield 32, 3) := by decide +kernel
theorem dX6_clear_31 : decode cX6_clear 31 = .ok (.aload_n 0, 1) := by decide +kernel
theorem dX6_clear_32 : decode cX6_clear 32 = .ok (.iconst 0, 1) := by decide +kernel
theorem dX6_clear_33 : decode cX6_clear 33 = .ok (.putfield 35, 3) := by decide +kernel
theorem dX6_clear_36 : decode cX6_clear 36 = .ok (.aload_n 0, 1) := by decide +kernel
theorem dX6_clear_37 : decode cX6_clear 37 = .ok (.iconst 0, 1) := by decide +kernel
theorem dX6_clear_38 : decode cX6_clear 38 = .ok (.putfield 38, 3) := by decide +kernel
theorem dX6_clear_41 : decode cX6_clear 41 = .ok (.aload_n 0, 1) := by decide +kernel
theorem dX6_clear_42 : decode cX6_clear 42 = .ok (.iconst (-1), 1) := by decide +kernel
theorem dX6_clear_43 : decode cX6_clear 43 = .ok (.putfield 51, 3) := by decide +kernel
theorem dX6_clear_46 : decode cX6_clear 46 = .ok (.return_, 1) := by decide +kernel
def wX6_clear (f : Nat) (Φ : aj_M → Prop) (q0 : List Nat) (m : aj_M) : Prop := wX0_makeProduct f (fun m1 => wX4_clear f (fun m2 => ∀ m3, m3 = aj_u m2 q0 2 0 → ∀ m4, m4 = aj_u m3 q0 3 1 → ∀ m5, m5 = aj_u m4 q0 4 0 → ∀ m6, m6 = aj_u m5 q0 5 0 → ∀ m7, m7 = aj_u m6 q0 6 0 → ∀ m8, m8 = aj_u m7 q0 10 (-1) → Φ m8) (1 :: q0) m1) (0 :: q0) 1 1 m
set_option maxHeartbeats 4000000 in
set_option maxRecDepth 100000 in
theorem sX6_clear {n f : Nat} {Φ : aj_M → Prop} {q0 : List Nat} {m : aj_M} (hq0 : (.inl (6, q0) : aj_R) ∈ aj_pls) (h : wX6_clear f Φ q0 m) : aj_Ct (n + 4) yX6_clear cX6_clear 1 none [vO 6 q0] m (fun r m => r = none ∧ Φ m) := by
  refine aj_met (lv := [some (vO 6 q0)]) (by decide +kernel) rfl (Nat.le_of_ble_eq_true rfl) (fun X C K => ?_)
  unfold wX6_clear at h
  refine aj_aload_n C dX6_clear_0 rfl ?_
  refine aj_getO (x := 0) (y := 0) C flX6_12 hq0 rfl dX6_clear_1 ?_
  refine aj_iconst C dX6_clear_4 ?_
  refine aj_iconst C dX6_clear_5 ?_
  refine aj_callV (rest := []) C mvX6_57 (sX0_makeProduct (aj_cf (x := 0) (y := 0) (j := 0) hq0 (by decide) rfl) h) (aj_cf (x := 0) (y := 0) (j := 0) hq0 (by decide) rfl) (aj_np 2 (by decide +kernel) rfl) (Nat.le_of_ble_eq_true rfl) rfl dX6_clear_6 (fun r m1 h => ?_)
  obtain ⟨rfl, h⟩ := h
  refine aj_aload_n C dX6_clear_9 rfl ?_
  refine aj_getO (x := 4) (y := 0) C flX6_21 hq0 rfl dX6_clear_10 ?_
  refine aj_callV (rest := []) C mvX6_61 (sX4_clear (aj_cf (x := 4) (y := 0) (j := 1) hq0 (by decide) rfl) h) (aj_cf (x := 4) (y := 0) (j := 1) hq0 (by decide) rfl) (aj_np 0 (by decide +kernel) rfl) (Nat.le_of_ble_eq_true rfl) rfl dX6_clear_13 (fun r m2 h => ?_)
  obtain ⟨rfl, h⟩ := h
  refine aj_aload_n C dX6_clear_16 rfl ?_
  refine aj_iconst C dX6_clear_17 ?_
  refine aj_putI C fpX6_25 hq0 rfl dX6_clear_18 ?_
  refine aj_nm (fun m3 e1 => ?_)
  have h := h m3 e1
  refine aj_aload_n C dX6_clear_21 rfl ?_
  refine aj_iconst C dX6_clear_22 ?_
  refine aj_putI C fpX6_29 hq0 rfl dX6_clear_23 ?_
  refine aj_nm (fun m4 e1 => ?_)
  have h := h m4 e1
  refine aj_aload_n C dX6_clear_26 rfl ?_
  refine aj_iconst C dX6_clear_27 ?_
  refine aj_putI C fpX6_32 hq0 rfl dX6_clear_28 ?_
  refine aj_nm (fun m5 e1 => ?_)
  have h := h m5 e1
  refine aj_aload_n C dX6_clear_31 rfl ?_
  refine aj_iconst C dX6_clear_32 ?_
  refine aj_putI C fpX6_35 hq0 rfl dX6_clear_33 ?_
  refine aj_nm (fun m6 e1 => ?_)
  have h := h m6 e1
  refine aj_aload_n C dX6_clear_36 rfl ?_
  refine aj_iconst C dX6_clear_37 ?_
  refine aj_putI C fpX6_38 hq0 rfl dX6_clear_38 ?_
  refine aj_nm (fun m7 e1 => ?_)
  have h := h m7 e1
  refine aj_aload_n C dX6_clear_41 rfl ?_
  refine aj_iconst C dX6_clear_42 ?_
  refine aj_putI C fpX6_51 hq0 rfl dX6_clear_43 ?_
  refine aj_nm (fun m8 e1 => ?_)
  have h := h m8 e1
  exact aj_vret C K dX6_clear_46 ⟨rfl, h⟩
theorem dX6_addArc_0 : decode cX6_addArc 0 = .ok (.aload_n 0, 1) := by decide +kernel
theorem dX6_addArc_1 : decode cX6_addArc 1 = .ok (.getfield 32, 3) := by decide +kernel
theorem dX6_addArc_4 : decode cX6_addArc 4 = .ok (.bipush 12, 2) := by decide +kernel
theorem dX6_addArc_6 : decode cX6_addArc 6 = .ok (.if_icmp .lt 4, 3) := by decide +kernel
theorem dX6_addArc_9 : decode cX6_addArc 9 = .ok (.return_, 1) := by decide +kernel
theorem dX6_addArc_10 : decode cX6_addArc 10 = .ok (.aload_n 0, 1) := by decide +kernel
theorem dX6_addArc_11 : decode cX6_addArc 11 = .ok (.getfield 41, 3) := by decide +kernel
theorem dX6_addArc_14 : decode cX6_addArc 14 = .ok (.aload_n 0, 1) := by decide +kernel
theorem dX6_addArc_15 : decode cX6_addArc 15 = .ok (.getfield 32, 3) := by decide +kernel
theorem dX6_addArc_18 : decode cX6_addArc 18 = .ok (.iload_n 1, 1) := by decide +kernel
theorem dX6_addArc_19 : decode cX6_addArc 19 = .ok (.iastore, 1) := by decide +kernel
theorem dX6_addArc_20 : decode cX6_addArc 20 = .ok (.aload_n 0, 1) := by decide +kernel
theorem dX6_addArc_21 : decode cX6_addArc 21 = .ok (.getfield 45, 3) := by decide +kernel
theorem dX6_addArc_24 : decode cX6_addArc 24 = .ok (.aload_n 0, 1) := by decide +kernel
theorem dX6_addArc_25 : decode cX6_addArc 25 = .ok (.getfield 32, 3) := by decide +kernel
theorem dX6_addArc_28 : decode cX6_addArc 28 = .ok (.iload_n 2, 1) := by decide +kernel
theorem dX6_addArc_29 : decode cX6_addArc 29 = .ok (.iastore, 1) := by decide +kernel
theorem dX6_addArc_30 : decode cX6_addArc 30 = .ok (.aload_n 0, 1) := by decide +kernel
theorem dX6_addArc_31 : decode cX6_addArc 31 = .ok (.getfield 48, 3) := by decide +kernel
theorem dX6_addArc_34 : decode cX6_addArc 34 = .ok (.aload_n 0, 1) := by decide +kernel
theorem dX6_addArc_35 : decode cX6_addArc 35 = .ok (.getfield 32, 3) := by decide +kernel
theorem dX6_addArc_38 : decode cX6_addArc 38 = .ok (.iload_n 3, 1) := by decide +kernel
theorem dX6_addArc_39 : decode cX6_addArc 39 = .ok (.iastore, 1) := by decide +kernel
theorem dX6_addArc_40 : decode cX6_addArc 40 = .ok (.aload_n 0, 1) := by decide +kernel
theorem dX6_addArc_41 : decode cX6_addArc 41 = .ok (.dup, 1) := by decide +kernel
theorem dX6_addArc_42 : decode cX6_addArc 42 = .ok (.getfield 38, 3) := by decide +kernel
theorem dX6_addArc_45 : decode cX6_addArc 45 = .ok (.iload 4, 2) := by decide +kernel
theorem dX6_addArc_47 : decode cX6_addArc 47 = .ok (.ifCond .eq 12, 3) := by decide +kernel
theorem dX6_addArc_50 : decode cX6_addArc 50 = .ok (.iconst 1, 1) := by decide +kernel
theorem dX6_addArc_51 : decode cX6_addArc 51 = .ok (.aload_n 0, 1) := by decide +kernel
theorem dX6_addArc_52 : decode cX6_addArc 52 = .ok (.getfield 32, 3) := by decide +kernel
theorem dX6_addArc_55 : decode cX6_addArc 55 = .ok (.ishl, 1) := by decide +kernel
theorem dX6_addArc_56 : decode cX6_addArc 56 = .ok (.goto 4, 3) := by decide +kernel
theorem dX6_addArc_59 : decode cX6_addArc 59 = .ok (.iconst 0, 1) := by decide +kernel
theorem dX6_addArc_60 : decode cX6_addArc 60 = .ok (.ior, 1) := by decide +kernel
theorem dX6_addArc_61 : decode cX6_addArc 61 = .ok (.putfield 38, 3) := by decide +kernel
theorem dX6_addArc_64 : decode cX6_addArc 64 = .ok (.aload_n 0, 1) := by decide +kernel
theorem dX6_addArc_65 : decode cX6_addArc 65 = .ok (.dup, 1) := by decide +kernel
theorem dX6_addArc_66 : decode cX6_addArc 66 = .ok (.getfield 32, 3) := by decide +kernel
theorem dX6_addArc_69 : decode cX6_addArc 69 = .ok (.iconst 1, 1) := by decide +kernel
theorem dX6_addArc_70 : decode cX6_addArc 70 = .ok (.iadd, 1) := by decide +kernel
theorem dX6_addArc_71 : decode cX6_addArc 71 = .ok (.putfield 32, 3) := by decide +kernel
theorem dX6_addArc_74 : decode cX6_addArc 74 = .ok (.return_, 1) := by decide +kernel
def wX6_addArc (f : Nat) (Φ : aj_M → Prop) (q0 : List Nat) (v1 : Int) (v2 : Int) (v3 : Int) (v4 : Int) (m : aj_M) : Prop := rI (m q0 4) ∧ ((m q0 4) < 12 → (0 ≤ (m q0 4) ∧ (m q0 4) < 12) ∧ ∀ m1, m1 = aj_u m (7 :: q0) (m q0 4).toNat v1 → (0 ≤ (m1 q0 4) ∧ (m1 q0 4) < 12) ∧ ∀ m2, m2 = aj_u m1 (8 :: q0) (m1 q0 4).toNat v2 → (0 ≤ (m2 q0 4) ∧ (m2 q0 4) < 12) ∧ ∀ m3, m3 = aj_u m2 (9 :: q0) (m2 q0 4).toNat v3 → rI v4 ∧ (v4 = 0 → ∀ m4, m4 = aj_u m3 q0 6 (aj_or (m3 q0 6) 0) → ∀ m5, m5 = aj_u m4 q0 4 ((m4 q0 4) + 1) → Φ m5) ∧ (¬ (v4 = 0) → ∀ m6, m6 = aj_u m3 q0 6 (aj_or (m3 q0 6) (aj_shl 1 (m3 q0 4))) → ∀ m7, m7 = aj_u m6 q0 4 ((m6 q0 4) + 1) → Φ m7)) ∧ (¬ ((m q0 4) < 12) → Φ m)
set_option maxHeartbeats 4000000 in
set_option maxRecDepth 100000 in
theorem sX6_addArc {n f : Nat} {Φ : aj_M → Prop} {q0 : List Nat} {v1 : Int} {v2 : Int} {v3 : Int} {v4 : Int} {m : aj_M} (hq0 : (.inl (6, q0) : aj_R) ∈ aj_pls) (h : wX6_addArc f Φ q0 v1 v2 v3 v4 m) : aj_Ct n yX6_addArc cX6_addArc 5 none [vO 6 q0, vI v1, vI v2, vI v3, vI v4] m (fun r m => r = none ∧ Φ m) := by
  refine aj_met (lv := [some (vO 6 q0), some (vI v1), some (vI v2), some (vI v3), some (vI v4)]) (by decide +kernel) rfl (Nat.le_of_ble_eq_true rfl) (fun X C K => ?_)
  unfold wX6_addArc at h
  refine aj_aload_n C dX6_addArc_0 rfl ?_
  refine aj_getI C flX6_32 hq0 (by decide) dX6_addArc_1 rfl ?_
  refine aj_bipush C dX6_addArc_4 (by decide) ?_
  obtain ⟨r0, h1, h2⟩ := h
  refine aj_icmp_lt (tgt := 10) C dX6_addArc_6 (by decide) r0 (by decide) (fun e => ?_) (fun e => ?_)
  · have h := h1 e
    refine aj_aload_n C dX6_addArc_10 rfl ?_
    refine aj_getA (x := 0) (y := 12) C flX6_41 hq0 rfl dX6_addArc_11 ?_
    refine aj_aload_n C dX6_addArc_14 rfl ?_
    refine aj_getI C flX6_32 hq0 (by decide) dX6_addArc_15 rfl ?_
    refine aj_iload_n C dX6_addArc_18 rfl ?_
    obtain ⟨r0, h⟩ := h
    refine aj_iast C (aj_ca (e := 0) (n := 12) (j := 7) hq0 (by decide) rfl) (by decide) r0 dX6_addArc_19 ?_
    refine aj_nm (fun m1 e1 => ?_)
    have h := h m1 e1
    refine aj_aload_n C dX6_addArc_20 rfl ?_
    refine aj_getA (x := 0) (y := 12) C flX6_45 hq0 rfl dX6_addArc_21 ?_
    refine aj_aload_n C dX6_addArc_24 rfl ?_
    refine aj_getI C flX6_32 hq0 (by decide) dX6_addArc_25 rfl ?_
    refine aj_iload_n C dX6_addArc_28 rfl ?_
    obtain ⟨r0, h⟩ := h
    refine aj_iast C (aj_ca (e := 0) (n := 12) (j := 8) hq0 (by decide) rfl) (by decide) r0 dX6_addArc_29 ?_
    refine aj_nm (fun m2 e1 => ?_)
    have h := h m2 e1
    refine aj_aload_n C dX6_addArc_30 rfl ?_
    refine aj_getA (x := 0) (y := 12) C flX6_48 hq0 rfl dX6_addArc_31 ?_
    refine aj_aload_n C dX6_addArc_34 rfl ?_
    refine aj_getI C flX6_32 hq0 (by decide) dX6_addArc_35 rfl ?_
    refine aj_iload_n C dX6_addArc_38 rfl ?_
    obtain ⟨r0, h⟩ := h
    refine aj_iast C (aj_ca (e := 0) (n := 12) (j := 9) hq0 (by decide) rfl) (by decide) r0 dX6_addArc_39 ?_
    refine aj_nm (fun m3 e1 => ?_)
    have h := h m3 e1
    refine aj_aload_n C dX6_addArc_40 rfl ?_
    refine aj_dup C aj_nR dX6_addArc_41 ?_
    refine aj_getI C flX6_38 hq0 (by decide) dX6_addArc_42 rfl ?_
    refine aj_iload C dX6_addArc_45 rfl ?_
    obtain ⟨r0, h1, h2⟩ := h
    refine aj_if_eq (tgt := 59) C dX6_addArc_47 (by decide) r0 (fun e => ?_) (fun e => ?_)
    · have h := h1 e
      refine aj_iconst C dX6_addArc_59 ?_
      refine aj_ior C dX6_addArc_60 ?_
      refine aj_putI C fpX6_38 hq0 rfl dX6_addArc_61 ?_
      refine aj_nm (fun m4 e1 => ?_)
      have h := h m4 e1
      refine aj_aload_n C dX6_addArc_64 rfl ?_
      refine aj_dup C aj_nR dX6_addArc_65 ?_
      refine aj_getI C flX6_32 hq0 (by decide) dX6_addArc_66 rfl ?_
      refine aj_iconst C dX6_addArc_69 ?_
      refine aj_iadd C dX6_addArc_70 ?_
      refine aj_putI C fpX6_32 hq0 rfl dX6_addArc_71 ?_
      refine aj_nm (fun m5 e1 => ?_)
      have h := h m5 e1
      exact aj_vret C K dX6_addArc_74 ⟨rfl, h⟩
    · have h := h2 e
      refine aj_iconst C dX6_addArc_50 ?_
      refine aj_aload_n C dX6_addArc_51 rfl ?_
      refine aj_getI C flX6_32 hq0 (by decide) dX6_addArc_52 rfl ?_
      refine aj_ishl C dX6_addArc_55 ?_
      refine aj_goto (tgt := 60) C dX6_addArc_56 (by decide) ?_
      refine aj_ior C dX6_addArc_60 ?_
      refine aj_putI C fpX6_38 hq0 rfl dX6_addArc_61 ?_
      refine aj_nm (fun m6 e1 => ?_)
      have h := h m6 e1
      refine aj_aload_n C dX6_addArc_64 rfl ?_
      refine aj_dup C aj_nR dX6_addArc_65 ?_
      refine aj_getI C flX6_32 hq0 (by decide) dX6_addArc_66 rfl ?_
      refine aj_iconst C dX6_addArc_69 ?_
      refine aj_iadd C dX6_addArc_70 ?_
      refine aj_putI C fpX6_32 hq0 rfl dX6_addArc_71 ?_
      refine aj_nm (fun m7 e1 => ?_)
      have h := h m7 e1
      exact aj_vret C K dX6_addArc_74 ⟨rfl, h⟩
  · have h := h2 e
    exact aj_vret C K dX6_addArc_9 ⟨rfl, h⟩
theorem dX6_whyNotBy_0 : decode cX6_whyNotBy 0 = .ok (.aload_n 0, 1) := by decide +kernel
theorem dX6_whyNotBy_1 : decode cX6_whyNotBy 1 = .ok (.iload_n 1, 1) := by decide +kernel
theorem dX6_whyNotBy_2 : decode cX6_whyNotBy 2 = .ok (.invokevirtual 77, 3) := by decide +kernel
theorem dX6_whyNotBy_5 : decode cX6_whyNotBy 5 = .ok (.ifCond .eq 14, 3) := by decide +kernel
theorem dX6_whyNotBy_8 : decode cX6_whyNotBy 8 = .ok (.aload_n 0, 1) := by decide +kernel
theorem dX6_whyNotBy_9 : decode cX6_whyNotBy 9 = .ok (.getfield 12, 3) := by decide +kernel
theorem dX6_whyNotBy_12 : decode cX6_whyNotBy 12 = .ok (.iload_n 2, 1) := by decide +kernel
theorem dX6_whyNotBy_13 : decode cX6_whyNotBy 13 = .ok (.invokevirtual 81, 3) := by decide +kernel
theorem dX6_whyNotBy_16 : decode cX6_whyNotBy 16 = .ok (.ifCond .ne 5, 3) := by decide +kernel
theorem dX6_whyNotBy_19 : decode cX6_whyNotBy 19 = .ok (.iconst 1, 1) := by decide +kernel
theorem dX6_whyNotBy_20 : decode cX6_whyNotBy 20 = .ok (.ireturn, 1) := by decide +kernel
theorem dX6_whyNotBy_21 : decode cX6_whyNotBy 21 = .ok (.aload_n 0, 1) := by decide +kernel
theorem dX6_whyNotBy_22 : decode cX6_whyNotBy 22 = .ok (.iload_n 1, 1) := by decide +kernel
theorem dX6_whyNotBy_23 : decode cX6_whyNotBy 23 = .ok (.invokevirtual 84, 3) := by decide +kernel
theorem dX6_whyNotBy_26 : decode cX6_whyNotBy 26 = .ok (.ifCond .eq 20, 3) := by decide +kernel
theorem dX6_whyNotBy_29 : decode cX6_whyNotBy 29 = .ok (.aload_n 0, 1) := by decide +kernel
theorem dX6_whyNotBy_30 : decode cX6_whyNotBy 30 = .ok (.getfield 12, 3) := by decide +kernel
theorem dX6_whyNotBy_33 : decode cX6_whyNotBy 33 = .ok (.getfield 87, 3) := by decide +kernel
theorem dX6_whyNotBy_36 : decode cX6_whyNotBy 36 = .ok (.iload_n 2, 1) := by decide +kernel
theorem dX6_whyNotBy_37 : decode cX6_whyNotBy 37 = .ok (.iaload, 1) := by decide +kernel
theorem dX6_whyNotBy_38 : decode cX6_whyNotBy 38 = .ok (.iconst 2, 1) := by decide +kernel
theorem dX6_whyNotBy_39 : decode cX6_whyNotBy 39 = .ok (.if_icmp .eq 7, 3) := by decide +kernel
theorem dX6_whyNotBy_42 : decode cX6_whyNotBy 42 = .ok (.iconst 2, 1) := by decide +kernel
theorem dX6_whyNotBy_43 : decode cX6_whyNotBy 43 = .ok (.goto 4, 3) := by decide +kernel
theorem dX6_whyNotBy_46 : decode cX6_whyNotBy 46 = .ok (.iconst 0, 1) := by decide +kernel
theorem dX6_whyNotBy_47 : decode cX6_whyNotBy 47 = .ok (.ireturn, 1) := by decide +kernel
def wX6_whyNotBy (f : Nat) (Φ : Int → aj_M → Prop) (q0 : List Nat) (v1 : Int) (v2 : Int) (m : aj_M) : Prop := wX6_hasArc f (fun z1 m1 => rI z1 ∧ (z1 = 0 → Φ 1 m1) ∧ (¬ (z1 = 0) → wX0_has f (fun z2 m2 => rI z2 ∧ (¬ z2 = 0 → wX6_isHalf f (fun z3 m3 => rI z3 ∧ (z3 = 0 → Φ 0 m3) ∧ (¬ (z3 = 0) → (0 ≤ v2 ∧ v2 < 12) ∧ rI (m3 (3 :: (0 :: q0)) v2.toNat) ∧ ((m3 (3 :: (0 :: q0)) v2.toNat) = 2 → Φ 0 m3) ∧ (¬ ((m3 (3 :: (0 :: q0)) v2.toNat) = 2) → Φ 2 m3))) q0 v1 m2) ∧ (z2 = 0 → Φ 1 m2)) (0 :: q0) v2 m1)) q0 v1 m
set_option maxHeartbeats 4000000 in
set_option maxRecDepth 100000 in
theorem sX6_whyNotBy {n f : Nat} {Φ : Int → aj_M → Prop} {q0 : List Nat} {v1 : Int} {v2 : Int} {m : aj_M} (hq0 : (.inl (6, q0) : aj_R) ∈ aj_pls) (h : wX6_whyNotBy f Φ q0 v1 v2 m) : aj_Ct (n + 2) yX6_whyNotBy cX6_whyNotBy 3 (some .int) [vO 6 q0, vI v1, vI v2] m (fun r m => ∃ z, r = some (vI z) ∧ Φ z m) := by
  refine aj_met (lv := [some (vO 6 q0), some (vI v1), some (vI v2)]) (by decide +kernel) rfl (Nat.le_of_ble_eq_true rfl) (fun X C K => ?_)
  unfold wX6_whyNotBy at h
  refine aj_aload_n C dX6_whyNotBy_0 rfl ?_
  refine aj_iload_n C dX6_whyNotBy_1 rfl ?_
  refine aj_callV (rest := []) C mvX6_77 (sX6_hasArc hq0 h) hq0 (aj_np 1 (by decide +kernel) rfl) (Nat.le_of_ble_eq_true rfl) rfl dX6_whyNotBy_2 (fun r m1 h => ?_)
  obtain ⟨z1, rfl, h⟩ := h
  obtain ⟨r0, h1, h2⟩ := h
  refine aj_if_eq (tgt := 19) C dX6_whyNotBy_5 (by decide) r0 (fun e => ?_) (fun e => ?_)
  · have h := h1 e
    refine aj_iconst C dX6_whyNotBy_19 ?_
    exact aj_iret C K dX6_whyNotBy_20 ⟨_, rfl, h⟩
  · have h := h2 e
    refine aj_aload_n C dX6_whyNotBy_8 rfl ?_
    refine aj_getO (x := 0) (y := 0) C flX6_12 hq0 rfl dX6_whyNotBy_9 ?_
    refine aj_iload_n C dX6_whyNotBy_12 rfl ?_
    refine aj_callV (rest := []) C mvX6_81 (sX0_has (aj_cf (x := 0) (y := 0) (j := 0) hq0 (by decide) rfl) h) (aj_cf (x := 0) (y := 0) (j := 0) hq0 (by decide) rfl) (aj_np 1 (by decide +kernel) rfl) (Nat.le_of_ble_eq_true rfl) rfl dX6_whyNotBy_13 (fun r m2 h => ?_)
    obtain ⟨z2, rfl, h⟩ := h
    obtain ⟨r0, h1, h2⟩ := h
    refine aj_if_ne (tgt := 21) C dX6_whyNotBy_16 (by decide) r0 (fun e => ?_) (fun e => ?_)
    · have h := h1 e
      refine aj_aload_n C dX6_whyNotBy_21 rfl ?_
      refine aj_iload_n C dX6_whyNotBy_22 rfl ?_
      refine aj_callV (rest := []) C mvX6_84 (sX6_isHalf hq0 h) hq0 (aj_np 1 (by decide +kernel) rfl) (Nat.le_of_ble_eq_true rfl) rfl dX6_whyNotBy_23 (fun r m3 h => ?_)
      obtain ⟨z3, rfl, h⟩ := h
      obtain ⟨r0, h1, h2⟩ := h
      refine aj_if_eq (tgt := 46) C dX6_whyNotBy_26 (by decide) r0 (fun e => ?_) (fun e => ?_)
      · have h := h1 e
        refine aj_iconst C dX6_whyNotBy_46 ?_
        exact aj_iret C K dX6_whyNotBy_47 ⟨_, rfl, h⟩
      · have h := h2 e
        refine aj_aload_n C dX6_whyNotBy_29 rfl ?_
        refine aj_getO (x := 0) (y := 0) C flX6_12 hq0 rfl dX6_whyNotBy_30 ?_
        refine aj_getA (x := 0) (y := 12) C flX6_87 (aj_cf (x := 0) (y := 0) (j := 0) hq0 (by decide) rfl) rfl dX6_whyNotBy_33 ?_
        refine aj_iload_n C dX6_whyNotBy_36 rfl ?_
        obtain ⟨r0, h⟩ := h
        refine aj_iald C (aj_ca (e := 0) (n := 12) (j := 3) (aj_cf (x := 0) (y := 0) (j := 0) hq0 (by decide) rfl) (by decide) rfl) (by decide) r0 dX6_whyNotBy_37 rfl ?_
        refine aj_iconst C dX6_whyNotBy_38 ?_
        obtain ⟨r0, h1, h2⟩ := h
        refine aj_icmp_eq (tgt := 46) C dX6_whyNotBy_39 (by decide) r0 (by decide) (fun e => ?_) (fun e => ?_)
        · have h := h1 e
          refine aj_iconst C dX6_whyNotBy_46 ?_
          exact aj_iret C K dX6_whyNotBy_47 ⟨_, rfl, h⟩
        · have h := h2 e
          refine aj_iconst C dX6_whyNotBy_42 ?_
          refine aj_goto (tgt := 47) C dX6_whyNotBy_43 (by decide) ?_
          exact aj_iret C K dX6_whyNotBy_47 ⟨_, rfl, h⟩
    · have h := h2 e
      refine aj_iconst C dX6_whyNotBy_19 ?_
      exact aj_iret C K dX6_whyNotBy_20 ⟨_, rfl, h⟩
theorem dX7_layFour_0 : decode cX7_layFour 0 = .ok (.bipush 24, 2) := by decide +kernel
theorem dX7_layFour_2 : decode cX7_layFour 2 = .ok (.istore_n 2, 1) := by decide +kernel
theorem dX7_layFour_3 : decode cX7_layFour 3 = .ok (.iload_n 2, 1) := by decide +kernel
theorem dX7_layFour_4 : decode cX7_layFour 4 = .ok (.ifCond .lt 42, 3) := by decide +kernel
theorem dX7_layFour_7 : decode cX7_layFour 7 = .ok (.aload_n 0, 1) := by decide +kernel
theorem dX7_layFour_8 : decode cX7_layFour 8 = .ok (.getfield 15, 3) := by decide +kernel
theorem dX7_layFour_11 : decode cX7_layFour 11 = .ok (.sipush 900, 3) := by decide +kernel
theorem dX7_layFour_14 : decode cX7_layFour 14 = .ok (.if_icmp .ge 32, 3) := by decide +kernel
theorem dX7_layFour_17 : decode cX7_layFour 17 = .ok (.aload_n 0, 1) := by decide +kernel
theorem dX7_layFour_18 : decode cX7_layFour 18 = .ok (.getfield 9, 3) := by decide +kernel
theorem dX7_layFour_21 : decode cX7_layFour 21 = .ok (.aload_n 0, 1) := by decide +kernel
theorem dX7_layFour_22 : decode cX7_layFour 22 = .ok (.getfield 15, 3) := by decide +kernel
theorem dX7_layFour_25 : decode cX7_layFour 25 = .ok (.iload_n 1, 1) := by decide +kernel
theorem dX7_layFour_26 : decode cX7_layFour 26 = .ok (.iload_n 2, 1) := by decide +kernel
theorem dX7_layFour_27 : decode cX7_layFour 27 = .ok (.iushr, 1) := by decide +kernel
theorem dX7_layFour_28 : decode cX7_layFour 28 = .ok (.i2b, 1) := by decide +kernel
theorem dX7_layFour_29 : decode cX7_layFour 29 = .ok (.bastore, 1) := by decide +kernel
theorem dX7_layFour_30 : decode cX7_layFour 30 = .ok (.aload_n 0, 1) := by decide +kernel
theorem dX7_layFour_31 : decode cX7_layFour 31 = .ok (.dup, 1) := by decide +kernel
theorem dX7_layFour_32 : decode cX7_layFour 32 = .ok (.getfield 15, 3) := by decide +kernel
theorem dX7_layFour_35 : decode cX7_layFour 35 = .ok (.iconst 1, 1) := by decide +kernel
theorem dX7_layFour_36 : decode cX7_layFour 36 = .ok (.iadd, 1) := by decide +kernel
theorem dX7_layFour_37 : decode cX7_layFour 37 = .ok (.putfield 15, 3) := by decide +kernel
theorem dX7_layFour_40 : decode cX7_layFour 40 = .ok (.iinc 2 (-8), 3) := by decide +kernel
theorem dX7_layFour_43 : decode cX7_layFour 43 = .ok (.goto (-40), 3) := by decide +kernel
theorem dX7_layFour_46 : decode cX7_layFour 46 = .ok (.return_, 1) := by decide +kernel
def hX7_layFour_3 (f : Nat) (Φ : aj_M → Prop) : Nat → List Nat → Int → Int → aj_M → Prop
  | 0, _, _, _, _ => False
  | k + 1, q0, v1, v2, m => rI v2 ∧ (v2 < 0 → Φ m) ∧ (¬ (v2 < 0) → rI (m q0 1) ∧ (900 ≤ (m q0 1) → Φ m) ∧ (¬ (900 ≤ (m q0 1)) → (0 ≤ (m q0 1) ∧ (m q0 1) < 900) ∧ ∀ m1, m1 = aj_u m (0 :: q0) (m q0 1).toNat (aj_b (aj_b (aj_ushr v1 v2))) → ∀ m2, m2 = aj_u m1 q0 1 ((m1 q0 1) + 1) → hX7_layFour_3 f Φ k q0 v1 (v2 + (-8)) m2))
set_option maxHeartbeats 4000000 in
set_option maxRecDepth 100000 in
theorem tX7_layFour_3 {X : aj_T} {n f : Nat} {Φ : aj_M → Prop} (C : aj_Cx X cX7_layFour RX7 3 n) (K : aj_Rt X none (fun r m => r = none ∧ Φ m)) : ∀ (k : Nat) (q0 : List Nat) (v1 : Int) (v2 : Int) (m : aj_M) (hq0 : (.inl (7, q0) : aj_R) ∈ aj_pls), hX7_layFour_3 f Φ k q0 v1 v2 m → aj_J X 3 [some (vO 7 q0), some (vI v1), some (vI v2)] [] m := by
  intro k
  induction k with
  | zero =>
    intro q0 v1 v2 m _ h
    exact h.elim
  | succ k ih =>
    intro q0 v1 v2 m hq0 h
    unfold hX7_layFour_3 at h
    refine aj_iload_n C dX7_layFour_3 rfl ?_
    obtain ⟨r0, h1, h2⟩ := h
    refine aj_if_lt (tgt := 46) C dX7_layFour_4 (by decide) r0 (fun e => ?_) (fun e => ?_)
    · have h := h1 e
      exact aj_vret C K dX7_layFour_46 ⟨rfl, h⟩
    · have h := h2 e
      refine aj_aload_n C dX7_layFour_7 rfl ?_
      refine aj_getI C flX7_15 hq0 (by decide) dX7_layFour_8 rfl ?_
      refine aj_sipush C dX7_layFour_11 (by decide) ?_
      obtain ⟨r0, h1, h2⟩ := h
      refine aj_icmp_ge (tgt := 46) C dX7_layFour_14 (by decide) r0 (by decide) (fun e => ?_) (fun e => ?_)
      · have h := h1 e
        exact aj_vret C K dX7_layFour_46 ⟨rfl, h⟩
      · have h := h2 e
        refine aj_aload_n C dX7_layFour_17 rfl ?_
        refine aj_getA (x := 2) (y := 900) C flX7_9 hq0 rfl dX7_layFour_18 ?_
        refine aj_aload_n C dX7_layFour_21 rfl ?_
        refine aj_getI C flX7_15 hq0 (by decide) dX7_layFour_22 rfl ?_
        refine aj_iload_n C dX7_layFour_25 rfl ?_
        refine aj_iload_n C dX7_layFour_26 rfl ?_
        refine aj_iushr C dX7_layFour_27 ?_
        refine aj_i2b C dX7_layFour_28 ?_
        obtain ⟨r0, h⟩ := h
        refine aj_bast C (aj_ca (e := 2) (n := 900) (j := 0) hq0 (by decide) rfl) (by decide) r0 dX7_layFour_29 ?_
        refine aj_nm (fun m1 e1 => ?_)
        have h := h m1 e1
        refine aj_aload_n C dX7_layFour_30 rfl ?_
        refine aj_dup C aj_nR dX7_layFour_31 ?_
        refine aj_getI C flX7_15 hq0 (by decide) dX7_layFour_32 rfl ?_
        refine aj_iconst C dX7_layFour_35 ?_
        refine aj_iadd C dX7_layFour_36 ?_
        refine aj_putI C fpX7_15 hq0 rfl dX7_layFour_37 ?_
        refine aj_nm (fun m2 e1 => ?_)
        have h := h m2 e1
        refine aj_iinc (lv' := [some (vO 7 q0), some (vI v1), some (vI (v2 + (-8)))]) C dX7_layFour_40 rfl (by decide) rfl ?_
        refine aj_goto (tgt := 3) C dX7_layFour_43 (by decide) ?_
        exact ih q0 v1 (v2 + (-8)) _ hq0 h
def wX7_layFour (f : Nat) (Φ : aj_M → Prop) (q0 : List Nat) (v1 : Int) (m : aj_M) : Prop := hX7_layFour_3 f Φ f q0 v1 24 m
set_option maxHeartbeats 4000000 in
set_option maxRecDepth 100000 in
theorem sX7_layFour {n f : Nat} {Φ : aj_M → Prop} {q0 : List Nat} {v1 : Int} {m : aj_M} (hq0 : (.inl (7, q0) : aj_R) ∈ aj_pls) (h : wX7_layFour f Φ q0 v1 m) : aj_Ct n yX7_layFour cX7_layFour 3 none [vO 7 q0, vI v1] m (fun r m => r = none ∧ Φ m) := by
  refine aj_met (lv := [some (vO 7 q0), some (vI v1), none]) (by decide +kernel) rfl (Nat.le_of_ble_eq_true rfl) (fun X C K => ?_)
  unfold wX7_layFour at h
  refine aj_bipush C dX7_layFour_0 (by decide) ?_
  refine aj_istore_n (lv' := [some (vO 7 q0), some (vI v1), some (vI 24)]) C dX7_layFour_2 (by decide) rfl ?_
  exact tX7_layFour_3 C K f q0 v1 24 _ hq0 h
theorem dX7_faulty_0 : decode cX7_faulty 0 = .ok (.aload_n 0, 1) := by decide +kernel
theorem dX7_faulty_1 : decode cX7_faulty 1 = .ok (.iload_n 1, 1) := by decide +kernel
theorem dX7_faulty_2 : decode cX7_faulty 2 = .ok (.putfield 45, 3) := by decide +kernel
theorem dX7_faulty_5 : decode cX7_faulty 5 = .ok (.aload_n 0, 1) := by decide +kernel
theorem dX7_faulty_6 : decode cX7_faulty 6 = .ok (.aload_n 0, 1) := by decide +kernel
theorem dX7_faulty_7 : decode cX7_faulty 7 = .ok (.getfield 33, 3) := by decide +kernel
theorem dX7_faulty_10 : decode cX7_faulty 10 = .ok (.putfield 48, 3) := by decide +kernel
theorem dX7_faulty_13 : decode cX7_faulty 13 = .ok (.iconst 0, 1) := by decide +kernel
theorem dX7_faulty_14 : decode cX7_faulty 14 = .ok (.ireturn, 1) := by decide +kernel
def wX7_faulty (f : Nat) (Φ : Int → aj_M → Prop) (q0 : List Nat) (v1 : Int) (m : aj_M) : Prop := ∀ m1, m1 = aj_u m q0 9 v1 → ∀ m2, m2 = aj_u m1 q0 10 (m1 q0 5) → Φ 0 m2
set_option maxHeartbeats 4000000 in
set_option maxRecDepth 100000 in
theorem sX7_faulty {n f : Nat} {Φ : Int → aj_M → Prop} {q0 : List Nat} {v1 : Int} {m : aj_M} (hq0 : (.inl (7, q0) : aj_R) ∈ aj_pls) (h : wX7_faulty f Φ q0 v1 m) : aj_Ct n yX7_faulty cX7_faulty 2 (some .boolean) [vO 7 q0, vI v1] m (fun r m => ∃ z, r = some (vI z) ∧ Φ z m) := by
  refine aj_met (lv := [some (vO 7 q0), some (vI v1)]) (by decide +kernel) rfl (Nat.le_of_ble_eq_true rfl) (fun X C K => ?_)
  unfold wX7_faulty at h
  refine aj_aload_n C dX7_faulty_0 rfl ?_
  refine aj_iload_n C dX7_faulty_1 rfl ?_
  refine aj_putI C fpX7_45 hq0 rfl dX7_faulty_2 ?_
  refine aj_nm (fun m1 e1 => ?_)
  have h := h m1 e1
  refine aj_aload_n C dX7_faulty_5 rfl ?_
  refine aj_aload_n C dX7_faulty_6 rfl ?_
  refine aj_getI C flX7_33 hq0 (by decide) dX7_faulty_7 rfl ?_
  refine aj_putI C fpX7_48 hq0 rfl dX7_faulty_10 ?_
  refine aj_nm (fun m2 e1 => ?_)
  have h := h m2 e1
  refine aj_iconst C dX7_faulty_13 ?_
  exact aj_zret C K (Or.inl rfl) dX7_faulty_14 ⟨_, rfl, h⟩
theorem dX7_cantStand_0 : decode cX7_cantStand 0 = .ok (.aload_n 0, 1) := by decide +kernel
theorem dX7_cantStand_1 : decode cX7_cantStand 1 = .ok (.aload_n 0, 1) := by decide +kernel
theorem dX7_cantStand_2 : decode cX7_cantStand 2 = .ok (.getfield 39, 3) := by decide +kernel
theorem dX7_cantStand_5 : decode cX7_cantStand 5 = .ok (.ifCond .ne 7, 3) := by decide +kernel
theorem dX7_cantStand_8 : decode cX7_cantStand 8 = .ok (.iconst 1, 1) := by decide +kernel
theorem dX7_cantStand_9 : decode cX7_cantStand 9 = .ok (.goto 4, 3) := by decide +kernel
theorem dX7_cantStand_12 : decode cX7_cantStand 12 = .ok (.iconst 2, 1) := by decide +kernel
theorem dX7_cantStand_13 : decode cX7_cantStand 13 = .ok (.invokevirtual 130, 3) := by decide +kernel
theorem dX7_cantStand_16 : decode cX7_cantStand 16 = .ok (.ireturn, 1) := by decide +kernel
def wX7_cantStand (f : Nat) (Φ : Int → aj_M → Prop) (q0 : List Nat) (m : aj_M) : Prop := rI (m q0 7) ∧ (¬ (m q0 7) = 0 → wX7_faulty f (fun z1 m1 => (z1 = 0 ∨ z1 = 1) ∧ Φ z1 m1) q0 2 m) ∧ ((m q0 7) = 0 → wX7_faulty f (fun z2 m2 => (z2 = 0 ∨ z2 = 1) ∧ Φ z2 m2) q0 1 m)
set_option maxHeartbeats 4000000 in
set_option maxRecDepth 100000 in
theorem sX7_cantStand {n f : Nat} {Φ : Int → aj_M → Prop} {q0 : List Nat} {m : aj_M} (hq0 : (.inl (7, q0) : aj_R) ∈ aj_pls) (h : wX7_cantStand f Φ q0 m) : aj_Ct (n + 1) yX7_cantStand cX7_cantStand 1 (some .boolean) [vO 7 q0] m (fun r m => ∃ z, r = some (vI z) ∧ Φ z m) := by
  refine aj_met (lv := [some (vO 7 q0)]) (by decide +kernel) rfl (Nat.le_of_ble_eq_true rfl) (fun X C K => ?_)
  unfold wX7_cantStand at h
  refine aj_aload_n C dX7_cantStand_0 rfl ?_
  refine aj_aload_n C dX7_cantStand_1 rfl ?_
  refine aj_getI C flX7_39 hq0 (by decide) dX7_cantStand_2 rfl ?_
  obtain ⟨r0, h1, h2⟩ := h
  refine aj_if_ne (tgt := 12) C dX7_cantStand_5 (by decide) r0 (fun e => ?_) (fun e => ?_)
  · have h := h1 e
    refine aj_iconst C dX7_cantStand_12 ?_
    refine aj_callV (rest := []) C mvX7_130 (sX7_faulty hq0 h) hq0 (aj_np 1 (by decide +kernel) rfl) (Nat.le_of_ble_eq_true rfl) rfl dX7_cantStand_13 (fun r m1 h => ?_)
    obtain ⟨z1, rfl, h⟩ := h
    exact aj_zret C K h.1 dX7_cantStand_16 ⟨_, rfl, h.2⟩
  · have h := h2 e
    refine aj_iconst C dX7_cantStand_8 ?_
    refine aj_goto (tgt := 13) C dX7_cantStand_9 (by decide) ?_
    refine aj_callV (rest := []) C mvX7_130 (sX7_faulty hq0 h) hq0 (aj_np 1 (by decide +kernel) rfl) (Nat.le_of_ble_eq_true rfl) rfl dX7_cantStand_13 (fun r m2 h => ?_)
    obtain ⟨z2, rfl, h⟩ := h
    exact aj_zret C K h.1 dX7_cantStand_16 ⟨_, rfl, h.2⟩
theorem dX8_leastAt_0 : decode cX8_leastAt 0 = .ok (.iconst (-1), 1) := by decide +kernel
theorem dX8_leastAt_1 : decode cX8_leastAt 1 = .ok (.istore_n 3, 1) := by decide +kernel
theorem dX8_leastAt_2 : decode cX8_leastAt 2 = .ok (.aload_n 0, 1) := by decide +kernel
theorem dX8_leastAt_3 : decode cX8_leastAt 3 = .ok (.getfield 26, 3) := by decide +kernel
theorem dX8_leastAt_6 : decode cX8_leastAt 6 = .ok (.getfield 79, 3) := by decide +kernel
theorem dX8_leastAt_9 : decode cX8_leastAt 9 = .ok (.iload_n 1, 1) := by decide +kernel
theorem dX8_leastAt_10 : decode cX8_leastAt 10 = .ok (.iaload, 1) := by decide +kernel
theorem dX8_leastAt_11 : decode cX8_leastAt 11 = .ok (.istore 4, 2) := by decide +kernel
theorem dX8_leastAt_13 : decode cX8_leastAt 13 = .ok (.iload 4, 2) := by decide +kernel
theorem dX8_leastAt_15 : decode cX8_leastAt 15 = .ok (.aload_n 0, 1) := by decide +kernel
theorem dX8_leastAt_16 : decode cX8_leastAt 16 = .ok (.getfield 26, 3) := by decide +kernel
theorem dX8_leastAt_19 : decode cX8_leastAt 19 = .ok (.getfield 79, 3) := by decide +kernel
theorem dX8_leastAt_22 : decode cX8_leastAt 22 = .ok (.iload_n 1, 1) := by decide +kernel
theorem dX8_leastAt_23 : decode cX8_leastAt 23 = .ok (.iconst 1, 1) := by decide +kernel
theorem dX8_leastAt_24 : decode cX8_leastAt 24 = .ok (.iadd, 1) := by decide +kernel
theorem dX8_leastAt_25 : decode cX8_leastAt 25 = .ok (.iaload, 1) := by decide +kernel
theorem dX8_leastAt_26 : decode cX8_leastAt 26 = .ok (.if_icmp .ge 56, 3) := by decide +kernel
theorem dX8_leastAt_29 : decode cX8_leastAt 29 = .ok (.aload_n 0, 1) := by decide +kernel
theorem dX8_leastAt_30 : decode cX8_leastAt 30 = .ok (.getfield 26, 3) := by decide +kernel
theorem dX8_leastAt_33 : decode cX8_leastAt 33 = .ok (.aload_n 0, 1) := by decide +kernel
theorem dX8_leastAt_34 : decode cX8_leastAt 34 = .ok (.getfield 26, 3) := by decide +kernel
theorem dX8_leastAt_37 : decode cX8_leastAt 37 = .ok (.getfield 82, 3) := by decide +kernel
theorem dX8_leastAt_40 : decode cX8_leastAt 40 = .ok (.iload 4, 2) := by decide +kernel
theorem dX8_leastAt_42 : decode cX8_leastAt 42 = .ok (.iaload, 1) := by decide +kernel
theorem dX8_leastAt_43 : decode cX8_leastAt 43 = .ok (.iload_n 1, 1) := by decide +kernel
theorem dX8_leastAt_44 : decode cX8_leastAt 44 = .ok (.invokevirtual 85, 3) := by decide +kernel
theorem dX8_leastAt_47 : decode cX8_leastAt 47 = .ok (.istore 5, 2) := by decide +kernel
theorem dX8_leastAt_49 : decode cX8_leastAt 49 = .ok (.aload_n 0, 1) := by decide +kernel
theorem dX8_leastAt_50 : decode cX8_leastAt 50 = .ok (.getfield 26, 3) := by decide +kernel
theorem dX8_leastAt_53 : decode cX8_leastAt 53 = .ok (.getfield 88, 3) := by decide +kernel
theorem dX8_leastAt_56 : decode cX8_leastAt 56 = .ok (.iload 5, 2) := by decide +kernel
theorem dX8_leastAt_58 : decode cX8_leastAt 58 = .ok (.iaload, 1) := by decide +kernel
theorem dX8_leastAt_59 : decode cX8_leastAt 59 = .ok (.iload_n 2, 1) := by decide +kernel
theorem dX8_leastAt_60 : decode cX8_leastAt 60 = .ok (.if_icmp .ne 16, 3) := by decide +kernel
theorem dX8_leastAt_63 : decode cX8_leastAt 63 = .ok (.iload_n 3, 1) := by decide +kernel
theorem dX8_leastAt_64 : decode cX8_leastAt 64 = .ok (.ifCond .lt 9, 3) := by decide +kernel
theorem dX8_leastAt_67 : decode cX8_leastAt 67 = .ok (.iload 5, 2) := by decide +kernel
theorem dX8_leastAt_69 : decode cX8_leastAt 69 = .ok (.iload_n 3, 1) := by decide +kernel
theorem dX8_leastAt_70 : decode cX8_leastAt 70 = .ok (.if_icmp .ge 6, 3) := by decide +kernel
theorem dX8_leastAt_73 : decode cX8_leastAt 73 = .ok (.iload 5, 2) := by decide +kernel
theorem dX8_leastAt_75 : decode cX8_leastAt 75 = .ok (.istore_n 3, 1) := by decide +kernel
theorem dX8_leastAt_76 : decode cX8_leastAt 76 = .ok (.iinc 4 1, 3) := by decide +kernel
theorem dX8_leastAt_79 : decode cX8_leastAt 79 = .ok (.goto (-66), 3) := by decide +kernel
theorem dX8_leastAt_82 : decode cX8_leastAt 82 = .ok (.iload_n 3, 1) := by decide +kernel
theorem dX8_leastAt_83 : decode cX8_leastAt 83 = .ok (.ireturn, 1) := by decide +kernel
def hX8_leastAt_13 (f : Nat) (Φ : Int → aj_M → Prop) : Nat → List Nat → Int → Int → Int → Int → aj_M → Prop
  | 0, _, _, _, _, _, _ => False
  | k + 1, q0, v1, v2, v3, v4, m => (0 ≤ (v1 + 1) ∧ (v1 + 1) < 62) ∧ rI v4 ∧ rI (m (8 :: (3 :: q0)) (v1 + 1).toNat) ∧ ((m (8 :: (3 :: q0)) (v1 + 1).toNat) ≤ v4 → Φ v3 m) ∧ (¬ ((m (8 :: (3 :: q0)) (v1 + 1).toNat) ≤ v4) → (0 ≤ v4 ∧ v4 < 288) ∧ wX5_otherEnd f (fun z1 m1 => (0 ≤ z1 ∧ z1 < 60) ∧ rI (m1 (10 :: (3 :: q0)) z1.toNat) ∧ rI v2 ∧ (¬ (m1 (10 :: (3 :: q0)) z1.toNat) = v2 → hX8_leastAt_13 f Φ k q0 v1 v2 v3 (v4 + 1) m1) ∧ ((m1 (10 :: (3 :: q0)) z1.toNat) = v2 → rI v3 ∧ (v3 < 0 → hX8_leastAt_13 f Φ k q0 v1 v2 z1 (v4 + 1) m1) ∧ (¬ (v3 < 0) → rI z1 ∧ rI v3 ∧ (v3 ≤ z1 → hX8_leastAt_13 f Φ k q0 v1 v2 v3 (v4 + 1) m1) ∧ (¬ (v3 ≤ z1) → hX8_leastAt_13 f Φ k q0 v1 v2 z1 (v4 + 1) m1)))) (3 :: q0) (m (9 :: (3 :: q0)) v4.toNat) v1 m)
set_option maxHeartbeats 4000000 in
set_option maxRecDepth 100000 in
theorem tX8_leastAt_13 {X : aj_T} {n f : Nat} {Φ : Int → aj_M → Prop} (C : aj_Cx X cX8_leastAt RX8 6 (n + 1)) (K : aj_Rt X (some .int) (fun r m => ∃ z, r = some (vI z) ∧ Φ z m)) : ∀ (k : Nat) (q0 : List Nat) (v1 : Int) (v2 : Int) (v3 : Int) (v4 : Int) (m : aj_M) (hq0 : (.inl (8, q0) : aj_R) ∈ aj_pls), hX8_leastAt_13 f Φ k q0 v1 v2 v3 v4 m → aj_J X 13 [some (vO 8 q0), some (vI v1), some (vI v2), some (vI v3), some (vI v4), none] [] m := by
  intro k
  induction k with
  | zero =>
    intro q0 v1 v2 v3 v4 m _ h
    exact h.elim
  | succ k ih =>
    intro q0 v1 v2 v3 v4 m hq0 h
    unfold hX8_leastAt_13 at h
    refine aj_iload C dX8_leastAt_13 rfl ?_
    refine aj_aload_n C dX8_leastAt_15 rfl ?_
    refine aj_getO (x := 5) (y := 0) C flX8_26 hq0 rfl dX8_leastAt_16 ?_
    refine aj_getA (x := 0) (y := 62) C flX8_79 (aj_cf (x := 5) (y := 0) (j := 3) hq0 (by decide) rfl) rfl dX8_leastAt_19 ?_
    refine aj_iload_n C dX8_leastAt_22 rfl ?_
    refine aj_iconst C dX8_leastAt_23 ?_
    refine aj_iadd C dX8_leastAt_24 ?_
    obtain ⟨r0, h⟩ := h
    refine aj_iald C (aj_ca (e := 0) (n := 62) (j := 8) (aj_cf (x := 5) (y := 0) (j := 3) hq0 (by decide) rfl) (by decide) rfl) (by decide) r0 dX8_leastAt_25 rfl ?_
    obtain ⟨r0, r1, h1, h2⟩ := h
    refine aj_icmp_ge (tgt := 82) C dX8_leastAt_26 (by decide) r0 r1 (fun e => ?_) (fun e => ?_)
    · have h := h1 e
      refine aj_iload_n C dX8_leastAt_82 rfl ?_
      exact aj_iret C K dX8_leastAt_83 ⟨_, rfl, h⟩
    · have h := h2 e
      refine aj_aload_n C dX8_leastAt_29 rfl ?_
      refine aj_getO (x := 5) (y := 0) C flX8_26 hq0 rfl dX8_leastAt_30 ?_
      refine aj_aload_n C dX8_leastAt_33 rfl ?_
      refine aj_getO (x := 5) (y := 0) C flX8_26 hq0 rfl dX8_leastAt_34 ?_
      refine aj_getA (x := 0) (y := 288) C flX8_82 (aj_cf (x := 5) (y := 0) (j := 3) hq0 (by decide) rfl) rfl dX8_leastAt_37 ?_
      refine aj_iload C dX8_leastAt_40 rfl ?_
      obtain ⟨r0, h⟩ := h
      refine aj_iald C (aj_ca (e := 0) (n := 288) (j := 9) (aj_cf (x := 5) (y := 0) (j := 3) hq0 (by decide) rfl) (by decide) rfl) (by decide) r0 dX8_leastAt_42 rfl ?_
      refine aj_iload_n C dX8_leastAt_43 rfl ?_
      refine aj_callV (rest := []) C mvX8_85 (sX5_otherEnd (aj_cf (x := 5) (y := 0) (j := 3) hq0 (by decide) rfl) h) (aj_cf (x := 5) (y := 0) (j := 3) hq0 (by decide) rfl) (aj_np 2 (by decide +kernel) rfl) (Nat.le_of_ble_eq_true rfl) rfl dX8_leastAt_44 (fun r m1 h => ?_)
      obtain ⟨z1, rfl, h⟩ := h
      refine aj_istore (lv' := [some (vO 8 q0), some (vI v1), some (vI v2), some (vI v3), some (vI v4), some (vI z1)]) C dX8_leastAt_47 (by decide) rfl ?_
      refine aj_aload_n C dX8_leastAt_49 rfl ?_
      refine aj_getO (x := 5) (y := 0) C flX8_26 hq0 rfl dX8_leastAt_50 ?_
      refine aj_getA (x := 0) (y := 60) C flX8_88 (aj_cf (x := 5) (y := 0) (j := 3) hq0 (by decide) rfl) rfl dX8_leastAt_53 ?_
      refine aj_iload C dX8_leastAt_56 rfl ?_
      obtain ⟨r0, h⟩ := h
      refine aj_iald C (aj_ca (e := 0) (n := 60) (j := 10) (aj_cf (x := 5) (y := 0) (j := 3) hq0 (by decide) rfl) (by decide) rfl) (by decide) r0 dX8_leastAt_58 rfl ?_
      refine aj_iload_n C dX8_leastAt_59 rfl ?_
      obtain ⟨r0, r1, h1, h2⟩ := h
      refine aj_icmp_ne (tgt := 76) C dX8_leastAt_60 (by decide) r0 r1 (fun e => ?_) (fun e => ?_)
      · have h := h1 e
        refine aj_iinc (lv' := [some (vO 8 q0), some (vI v1), some (vI v2), some (vI v3), some (vI (v4 + 1)), some (vI z1)]) C dX8_leastAt_76 rfl (by decide) rfl ?_
        refine aj_goto (tgt := 13) C dX8_leastAt_79 (by decide) ?_
        refine aj_wk (lv' := [some (vO 8 q0), some (vI v1), some (vI v2), some (vI v3), some (vI (v4 + 1)), none]) (⟨rfl, ⟨rfl, ⟨rfl, ⟨rfl, ⟨rfl, trivial⟩⟩⟩⟩⟩) ?_
        exact ih q0 v1 v2 v3 (v4 + 1) _ hq0 h
      · have h := h2 e
        refine aj_iload_n C dX8_leastAt_63 rfl ?_
        obtain ⟨r0, h1, h2⟩ := h
        refine aj_if_lt (tgt := 73) C dX8_leastAt_64 (by decide) r0 (fun e => ?_) (fun e => ?_)
        · have h := h1 e
          refine aj_iload C dX8_leastAt_73 rfl ?_
          refine aj_istore_n (lv' := [some (vO 8 q0), some (vI v1), some (vI v2), some (vI z1), some (vI v4), some (vI z1)]) C dX8_leastAt_75 (by decide) rfl ?_
          refine aj_iinc (lv' := [some (vO 8 q0), some (vI v1), some (vI v2), some (vI z1), some (vI (v4 + 1)), some (vI z1)]) C dX8_leastAt_76 rfl (by decide) rfl ?_
          refine aj_goto (tgt := 13) C dX8_leastAt_79 (by decide) ?_
          refine aj_wk (lv' := [some (vO 8 q0), some (vI v1), some (vI v2), some (vI z1), some (vI (v4 + 1)), none]) (⟨rfl, ⟨rfl, ⟨rfl, ⟨rfl, ⟨rfl, trivial⟩⟩⟩⟩⟩) ?_
          exact ih q0 v1 v2 z1 (v4 + 1) _ hq0 h
        · have h := h2 e
          refine aj_iload C dX8_leastAt_67 rfl ?_
          refine aj_iload_n C dX8_leastAt_69 rfl ?_
          obtain ⟨r0, r1, h1, h2⟩ := h
          refine aj_icmp_ge (tgt := 76) C dX8_leastAt_70 (by decide) r0 r1 (fun e => ?_) (fun e => ?_)
          · have h := h1 e
            refine aj_iinc (lv' := [some (vO 8 q0), some (vI v1), some (vI v2), some (vI v3), some (vI (v4 + 1)), some (vI z1)]) C dX8_leastAt_76 rfl (by decide) rfl ?_
            refine aj_goto (tgt := 13) C dX8_leastAt_79 (by decide) ?_
            refine aj_wk (lv' := [some (vO 8 q0), some (vI v1), some (vI v2), some (vI v3), some (vI (v4 + 1)), none]) (⟨rfl, ⟨rfl, ⟨rfl, ⟨rfl, ⟨rfl, trivial⟩⟩⟩⟩⟩) ?_
            exact ih q0 v1 v2 v3 (v4 + 1) _ hq0 h
          · have h := h2 e
            refine aj_iload C dX8_leastAt_73 rfl ?_
            refine aj_istore_n (lv' := [some (vO 8 q0), some (vI v1), some (vI v2), some (vI z1), some (vI v4), some (vI z1)]) C dX8_leastAt_75 (by decide) rfl ?_
            refine aj_iinc (lv' := [some (vO 8 q0), some (vI v1), some (vI v2), some (vI z1), some (vI (v4 + 1)), some (vI z1)]) C dX8_leastAt_76 rfl (by decide) rfl ?_
            refine aj_goto (tgt := 13) C dX8_leastAt_79 (by decide) ?_
            refine aj_wk (lv' := [some (vO 8 q0), some (vI v1), some (vI v2), some (vI z1), some (vI (v4 + 1)), none]) (⟨rfl, ⟨rfl, ⟨rfl, ⟨rfl, ⟨rfl, trivial⟩⟩⟩⟩⟩) ?_
            exact ih q0 v1 v2 z1 (v4 + 1) _ hq0 h
def wX8_leastAt (f : Nat) (Φ : Int → aj_M → Prop) (q0 : List Nat) (v1 : Int) (v2 : Int) (m : aj_M) : Prop := (0 ≤ v1 ∧ v1 < 62) ∧ hX8_leastAt_13 f Φ f q0 v1 v2 (-1) (m (8 :: (3 :: q0)) v1.toNat) m
set_option maxHeartbeats 4000000 in
set_option maxRecDepth 100000 in
theorem sX8_leastAt {n f : Nat} {Φ : Int → aj_M → Prop} {q0 : List Nat} {v1 : Int} {v2 : Int} {m : aj_M} (hq0 : (.inl (8, q0) : aj_R) ∈ aj_pls) (h : wX8_leastAt f Φ q0 v1 v2 m) : aj_Ct (n + 1) yX8_leastAt cX8_leastAt 6 (some .int) [vO 8 q0, vI v1, vI v2] m (fun r m => ∃ z, r = some (vI z) ∧ Φ z m) := by
  refine aj_met (lv := [some (vO 8 q0), some (vI v1), some (vI v2), none, none, none]) (by decide +kernel) rfl (Nat.le_of_ble_eq_true rfl) (fun X C K => ?_)
  unfold wX8_leastAt at h
  refine aj_iconst C dX8_leastAt_0 ?_
  refine aj_istore_n (lv' := [some (vO 8 q0), some (vI v1), some (vI v2), some (vI (-1)), none, none]) C dX8_leastAt_1 (by decide) rfl ?_
  refine aj_aload_n C dX8_leastAt_2 rfl ?_
  refine aj_getO (x := 5) (y := 0) C flX8_26 hq0 rfl dX8_leastAt_3 ?_
  refine aj_getA (x := 0) (y := 62) C flX8_79 (aj_cf (x := 5) (y := 0) (j := 3) hq0 (by decide) rfl) rfl dX8_leastAt_6 ?_
  refine aj_iload_n C dX8_leastAt_9 rfl ?_
  obtain ⟨r0, h⟩ := h
  refine aj_iald C (aj_ca (e := 0) (n := 62) (j := 8) (aj_cf (x := 5) (y := 0) (j := 3) hq0 (by decide) rfl) (by decide) rfl) (by decide) r0 dX8_leastAt_10 rfl ?_
  refine aj_istore (lv' := [some (vO 8 q0), some (vI v1), some (vI v2), some (vI (-1)), some (vI (m (8 :: (3 :: q0)) v1.toNat)), none]) C dX8_leastAt_11 (by decide) rfl ?_
  exact tX8_leastAt_13 C K f q0 v1 v2 (-1) (m (8 :: (3 :: q0)) v1.toNat) _ hq0 h
theorem dX8_findRest_0 : decode cX8_findRest 0 = .ok (.iconst 1, 1) := by decide +kernel
theorem dX8_findRest_1 : decode cX8_findRest 1 = .ok (.istore_n 2, 1) := by decide +kernel
theorem dX8_findRest_2 : decode cX8_findRest 2 = .ok (.iload_n 2, 1) := by decide +kernel
theorem dX8_findRest_3 : decode cX8_findRest 3 = .ok (.aload_n 0, 1) := by decide +kernel
theorem dX8_findRest_4 : decode cX8_findRest 4 = .ok (.getfield 15, 3) := by decide +kernel
theorem dX8_findRest_7 : decode cX8_findRest 7 = .ok (.iconst 1, 1) := by decide +kernel
theorem dX8_findRest_8 : decode cX8_findRest 8 = .ok (.isub, 1) := by decide +kernel
theorem dX8_findRest_9 : decode cX8_findRest 9 = .ok (.if_icmp .ge 67, 3) := by decide +kernel
theorem dX8_findRest_12 : decode cX8_findRest 12 = .ok (.aload_n 0, 1) := by decide +kernel
theorem dX8_findRest_13 : decode cX8_findRest 13 = .ok (.getfield 26, 3) := by decide +kernel
theorem dX8_findRest_16 : decode cX8_findRest 16 = .ok (.iload_n 1, 1) := by decide +kernel
theorem dX8_findRest_17 : decode cX8_findRest 17 = .ok (.invokevirtual 72, 3) := by decide +kernel
theorem dX8_findRest_20 : decode cX8_findRest 20 = .ok (.pop, 1) := by decide +kernel
theorem dX8_findRest_21 : decode cX8_findRest 21 = .ok (.aload_n 0, 1) := by decide +kernel
theorem dX8_findRest_22 : decode cX8_findRest 22 = .ok (.aload_n 0, 1) := by decide +kernel
theorem dX8_findRest_23 : decode cX8_findRest 23 = .ok (.getfield 19, 3) := by decide +kernel
theorem dX8_findRest_26 : decode cX8_findRest 26 = .ok (.iload_n 2, 1) := by decide +kernel
theorem dX8_findRest_27 : decode cX8_findRest 27 = .ok (.iaload, 1) := by decide +kernel
theorem dX8_findRest_28 : decode cX8_findRest 28 = .ok (.aload_n 0, 1) := by decide +kernel
theorem dX8_findRest_29 : decode cX8_findRest 29 = .ok (.getfield 15, 3) := by decide +kernel
theorem dX8_findRest_32 : decode cX8_findRest 32 = .ok (.iconst 1, 1) := by decide +kernel
theorem dX8_findRest_33 : decode cX8_findRest 33 = .ok (.isub, 1) := by decide +kernel
theorem dX8_findRest_34 : decode cX8_findRest 34 = .ok (.iload_n 2, 1) := by decide +kernel
theorem dX8_findRest_35 : decode cX8_findRest 35 = .ok (.isub, 1) := by decide +kernel
theorem dX8_findRest_36 : decode cX8_findRest 36 = .ok (.invokevirtual 76, 3) := by decide +kernel
theorem dX8_findRest_39 : decode cX8_findRest 39 = .ok (.istore_n 3, 1) := by decide +kernel
theorem dX8_findRest_40 : decode cX8_findRest 40 = .ok (.iload_n 3, 1) := by decide +kernel
theorem dX8_findRest_41 : decode cX8_findRest 41 = .ok (.ifCond .ge 5, 3) := by decide +kernel
theorem dX8_findRest_44 : decode cX8_findRest 44 = .ok (.iconst 0, 1) := by decide +kernel
theorem dX8_findRest_45 : decode cX8_findRest 45 = .ok (.ireturn, 1) := by decide +kernel
theorem dX8_findRest_46 : decode cX8_findRest 46 = .ok (.aload_n 0, 1) := by decide +kernel
theorem dX8_findRest_47 : decode cX8_findRest 47 = .ok (.getfield 19, 3) := by decide +kernel
theorem dX8_findRest_50 : decode cX8_findRest 50 = .ok (.iload_n 2, 1) := by decide +kernel
theorem dX8_findRest_51 : decode cX8_findRest 51 = .ok (.iconst 1, 1) := by decide +kernel
theorem dX8_findRest_52 : decode cX8_findRest 52 = .ok (.iadd, 1) := by decide +kernel
theorem dX8_findRest_53 : decode cX8_findRest 53 = .ok (.iload_n 3, 1) := by decide +kernel
theorem dX8_findRest_54 : decode cX8_findRest 54 = .ok (.iastore, 1) := by decide +kernel
theorem dX8_findRest_55 : decode cX8_findRest 55 = .ok (.aload_n 0, 1) := by decide +kernel
theorem dX8_findRest_56 : decode cX8_findRest 56 = .ok (.getfield 26, 3) := by decide +kernel
theorem dX8_findRest_59 : decode cX8_findRest 59 = .ok (.dup, 1) := by decide +kernel
theorem dX8_findRest_60 : decode cX8_findRest 60 = .ok (.getfield 64, 3) := by decide +kernel
theorem dX8_findRest_63 : decode cX8_findRest 63 = .ok (.lconst 1, 1) := by decide +kernel
theorem dX8_findRest_64 : decode cX8_findRest 64 = .ok (.iload_n 3, 1) := by decide +kernel
theorem dX8_findRest_65 : decode cX8_findRest 65 = .ok (.lshl, 1) := by decide +kernel
theorem dX8_findRest_66 : decode cX8_findRest 66 = .ok (.lor, 1) := by decide +kernel
theorem dX8_findRest_67 : decode cX8_findRest 67 = .ok (.putfield 64, 3) := by decide +kernel
theorem dX8_findRest_70 : decode cX8_findRest 70 = .ok (.iinc 2 1, 3) := by decide +kernel
theorem dX8_findRest_73 : decode cX8_findRest 73 = .ok (.goto (-71), 3) := by decide +kernel
theorem dX8_findRest_76 : decode cX8_findRest 76 = .ok (.iconst 1, 1) := by decide +kernel
theorem dX8_findRest_77 : decode cX8_findRest 77 = .ok (.ireturn, 1) := by decide +kernel
def hX8_findRest_2 (f : Nat) (Φ : Int → aj_M → Prop) : Nat → List Nat → Int → Int → aj_M → Prop
  | 0, _, _, _, _ => False
  | k + 1, q0, v1, v2, m => rI v2 ∧ rI ((m q0 1) - 1) ∧ (((m q0 1) - 1) ≤ v2 → Φ 1 m) ∧ (¬ (((m q0 1) - 1) ≤ v2) → wX5_spread f (fun z1 m1 => (0 ≤ v2 ∧ v2 < 60) ∧ wX8_leastAt f (fun z2 m2 => rI z2 ∧ (0 ≤ z2 → (0 ≤ (v2 + 1) ∧ (v2 + 1) < 60) ∧ ∀ m3, m3 = aj_u m2 (2 :: q0) (v2 + 1).toNat z2 → ∀ m4, m4 = aj_u m3 (3 :: q0) 16 (aj_lorL (m3 (3 :: q0) 16) (aj_lshl 1 z2)) → hX8_findRest_2 f Φ k q0 v1 (v2 + 1) m4) ∧ (¬ (0 ≤ z2) → Φ 0 m2)) q0 (m1 (2 :: q0) v2.toNat) (((m1 q0 1) - 1) - v2) m1) (3 :: q0) v1 m)
set_option maxHeartbeats 4000000 in
set_option maxRecDepth 100000 in
theorem tX8_findRest_2 {X : aj_T} {n f : Nat} {Φ : Int → aj_M → Prop} (C : aj_Cx X cX8_findRest RX8 4 (n + 2)) (K : aj_Rt X (some .boolean) (fun r m => ∃ z, r = some (vI z) ∧ Φ z m)) : ∀ (k : Nat) (q0 : List Nat) (v1 : Int) (v2 : Int) (m : aj_M) (hq0 : (.inl (8, q0) : aj_R) ∈ aj_pls), hX8_findRest_2 f Φ k q0 v1 v2 m → aj_J X 2 [some (vO 8 q0), some (vI v1), some (vI v2), none] [] m := by
  intro k
  induction k with
  | zero =>
    intro q0 v1 v2 m _ h
    exact h.elim
  | succ k ih =>
    intro q0 v1 v2 m hq0 h
    unfold hX8_findRest_2 at h
    refine aj_iload_n C dX8_findRest_2 rfl ?_
    refine aj_aload_n C dX8_findRest_3 rfl ?_
    refine aj_getI C flX8_15 hq0 (by decide) dX8_findRest_4 rfl ?_
    refine aj_iconst C dX8_findRest_7 ?_
    refine aj_isub C dX8_findRest_8 ?_
    obtain ⟨r0, r1, h1, h2⟩ := h
    refine aj_icmp_ge (tgt := 76) C dX8_findRest_9 (by decide) r0 r1 (fun e => ?_) (fun e => ?_)
    · have h := h1 e
      refine aj_iconst C dX8_findRest_76 ?_
      exact aj_zret C K (Or.inr rfl) dX8_findRest_77 ⟨_, rfl, h⟩
    · have h := h2 e
      refine aj_aload_n C dX8_findRest_12 rfl ?_
      refine aj_getO (x := 5) (y := 0) C flX8_26 hq0 rfl dX8_findRest_13 ?_
      refine aj_iload_n C dX8_findRest_16 rfl ?_
      refine aj_callV (rest := []) C mvX8_72 (sX5_spread (aj_cf (x := 5) (y := 0) (j := 3) hq0 (by decide) rfl) h) (aj_cf (x := 5) (y := 0) (j := 3) hq0 (by decide) rfl) (aj_np 1 (by decide +kernel) rfl) (Nat.le_of_ble_eq_true rfl) rfl dX8_findRest_17 (fun r m1 h => ?_)
      obtain ⟨z1, rfl, h⟩ := h
      refine aj_pop C aj_nI dX8_findRest_20 ?_
      refine aj_aload_n C dX8_findRest_21 rfl ?_
      refine aj_aload_n C dX8_findRest_22 rfl ?_
      refine aj_getA (x := 0) (y := 60) C flX8_19 hq0 rfl dX8_findRest_23 ?_
      refine aj_iload_n C dX8_findRest_26 rfl ?_
      obtain ⟨r0, h⟩ := h
      refine aj_iald C (aj_ca (e := 0) (n := 60) (j := 2) hq0 (by decide) rfl) (by decide) r0 dX8_findRest_27 rfl ?_
      refine aj_aload_n C dX8_findRest_28 rfl ?_
      refine aj_getI C flX8_15 hq0 (by decide) dX8_findRest_29 rfl ?_
      refine aj_iconst C dX8_findRest_32 ?_
      refine aj_isub C dX8_findRest_33 ?_
      refine aj_iload_n C dX8_findRest_34 rfl ?_
      refine aj_isub C dX8_findRest_35 ?_
      refine aj_callV (rest := []) C mvX8_76 (sX8_leastAt hq0 h) hq0 (aj_np 2 (by decide +kernel) rfl) (Nat.le_of_ble_eq_true rfl) rfl dX8_findRest_36 (fun r m2 h => ?_)
      obtain ⟨z2, rfl, h⟩ := h
      refine aj_istore_n (lv' := [some (vO 8 q0), some (vI v1), some (vI v2), some (vI z2)]) C dX8_findRest_39 (by decide) rfl ?_
      refine aj_iload_n C dX8_findRest_40 rfl ?_
      obtain ⟨r0, h1, h2⟩ := h
      refine aj_if_ge (tgt := 46) C dX8_findRest_41 (by decide) r0 (fun e => ?_) (fun e => ?_)
      · have h := h1 e
        refine aj_aload_n C dX8_findRest_46 rfl ?_
        refine aj_getA (x := 0) (y := 60) C flX8_19 hq0 rfl dX8_findRest_47 ?_
        refine aj_iload_n C dX8_findRest_50 rfl ?_
        refine aj_iconst C dX8_findRest_51 ?_
        refine aj_iadd C dX8_findRest_52 ?_
        refine aj_iload_n C dX8_findRest_53 rfl ?_
        obtain ⟨r0, h⟩ := h
        refine aj_iast C (aj_ca (e := 0) (n := 60) (j := 2) hq0 (by decide) rfl) (by decide) r0 dX8_findRest_54 ?_
        refine aj_nm (fun m3 e1 => ?_)
        have h := h m3 e1
        refine aj_aload_n C dX8_findRest_55 rfl ?_
        refine aj_getO (x := 5) (y := 0) C flX8_26 hq0 rfl dX8_findRest_56 ?_
        refine aj_dup C aj_nR dX8_findRest_59 ?_
        refine aj_getL C flX8_64 (aj_cf (x := 5) (y := 0) (j := 3) hq0 (by decide) rfl) rfl dX8_findRest_60 rfl ?_
        refine aj_lconst (z := 1) C dX8_findRest_63 rfl ?_
        refine aj_iload_n C dX8_findRest_64 rfl ?_
        refine aj_lshl_ C dX8_findRest_65 ?_
        refine aj_lor C dX8_findRest_66 ?_
        refine aj_putL C fpX8_64 (aj_cf (x := 5) (y := 0) (j := 3) hq0 (by decide) rfl) rfl dX8_findRest_67 ?_
        refine aj_nm (fun m4 e1 => ?_)
        have h := h m4 e1
        refine aj_iinc (lv' := [some (vO 8 q0), some (vI v1), some (vI (v2 + 1)), some (vI z2)]) C dX8_findRest_70 rfl (by decide) rfl ?_
        refine aj_goto (tgt := 2) C dX8_findRest_73 (by decide) ?_
        refine aj_wk (lv' := [some (vO 8 q0), some (vI v1), some (vI (v2 + 1)), none]) (⟨rfl, ⟨rfl, ⟨rfl, trivial⟩⟩⟩) ?_
        exact ih q0 v1 (v2 + 1) _ hq0 h
      · have h := h2 e
        refine aj_iconst C dX8_findRest_44 ?_
        exact aj_zret C K (Or.inl rfl) dX8_findRest_45 ⟨_, rfl, h⟩
def wX8_findRest (f : Nat) (Φ : Int → aj_M → Prop) (q0 : List Nat) (v1 : Int) (m : aj_M) : Prop := hX8_findRest_2 f Φ f q0 v1 1 m
set_option maxHeartbeats 4000000 in
set_option maxRecDepth 100000 in
theorem sX8_findRest {n f : Nat} {Φ : Int → aj_M → Prop} {q0 : List Nat} {v1 : Int} {m : aj_M} (hq0 : (.inl (8, q0) : aj_R) ∈ aj_pls) (h : wX8_findRest f Φ q0 v1 m) : aj_Ct (n + 2) yX8_findRest cX8_findRest 4 (some .boolean) [vO 8 q0, vI v1] m (fun r m => ∃ z, r = some (vI z) ∧ Φ z m) := by
  refine aj_met (lv := [some (vO 8 q0), some (vI v1), none, none]) (by decide +kernel) rfl (Nat.le_of_ble_eq_true rfl) (fun X C K => ?_)
  unfold wX8_findRest at h
  refine aj_iconst C dX8_findRest_0 ?_
  refine aj_istore_n (lv' := [some (vO 8 q0), some (vI v1), some (vI 1), none]) C dX8_findRest_1 (by decide) rfl ?_
  exact tX8_findRest_2 C K f q0 v1 1 _ hq0 h
