theorem dX5_addLink_0 : decode cX5_addLink 0 = .ok (.aload_n 0, 1) := by decide +kernel
theorem dX5_addLink_1 : decode cX5_addLink 1 = .ok (.getfield 15, 3) := by decide +kernel
theorem dX5_addLink_4 : decode cX5_addLink 4 = .ok (.sipush 144, 3) := by decide +kernel
theorem dX5_addLink_7 : decode cX5_addLink 7 = .ok (.if_icmp .ge 19, 3) := by decide +kernel
theorem dX5_addLink_10 : decode cX5_addLink 10 = .ok (.aload_n 0, 1) := by decide +kernel
theorem dX5_addLink_11 : decode cX5_addLink 11 = .ok (.iload_n 1, 1) := by decide +kernel
theorem dX5_addLink_12 : decode cX5_addLink 12 = .ok (.invokevirtual 122, 3) := by decide +kernel
theorem dX5_addLink_15 : decode cX5_addLink 15 = .ok (.ifCond .eq 11, 3) := by decide +kernel
theorem dX5_addLink_18 : decode cX5_addLink 18 = .ok (.aload_n 0, 1) := by decide +kernel
theorem dX5_addLink_19 : decode cX5_addLink 19 = .ok (.iload_n 2, 1) := by decide +kernel
theorem dX5_addLink_20 : decode cX5_addLink 20 = .ok (.invokevirtual 122, 3) := by decide +kernel
theorem dX5_addLink_23 : decode cX5_addLink 23 = .ok (.ifCond .ne 4, 3) := by decide +kernel
theorem dX5_addLink_26 : decode cX5_addLink 26 = .ok (.return_, 1) := by decide +kernel
theorem dX5_addLink_27 : decode cX5_addLink 27 = .ok (.aload_n 0, 1) := by decide +kernel
theorem dX5_addLink_28 : decode cX5_addLink 28 = .ok (.getfield 18, 3) := by decide +kernel
theorem dX5_addLink_31 : decode cX5_addLink 31 = .ok (.aload_n 0, 1) := by decide +kernel
theorem dX5_addLink_32 : decode cX5_addLink 32 = .ok (.getfield 15, 3) := by decide +kernel
theorem dX5_addLink_35 : decode cX5_addLink 35 = .ok (.iload_n 1, 1) := by decide +kernel
theorem dX5_addLink_36 : decode cX5_addLink 36 = .ok (.iastore, 1) := by decide +kernel
theorem dX5_addLink_37 : decode cX5_addLink 37 = .ok (.aload_n 0, 1) := by decide +kernel
theorem dX5_addLink_38 : decode cX5_addLink 38 = .ok (.getfield 22, 3) := by decide +kernel
theorem dX5_addLink_41 : decode cX5_addLink 41 = .ok (.aload_n 0, 1) := by decide +kernel
theorem dX5_addLink_42 : decode cX5_addLink 42 = .ok (.getfield 15, 3) := by decide +kernel
theorem dX5_addLink_45 : decode cX5_addLink 45 = .ok (.iload_n 2, 1) := by decide +kernel
theorem dX5_addLink_46 : decode cX5_addLink 46 = .ok (.iastore, 1) := by decide +kernel
theorem dX5_addLink_47 : decode cX5_addLink 47 = .ok (.aload_n 0, 1) := by decide +kernel
theorem dX5_addLink_48 : decode cX5_addLink 48 = .ok (.getfield 25, 3) := by decide +kernel
theorem dX5_addLink_51 : decode cX5_addLink 51 = .ok (.aload_n 0, 1) := by decide +kernel
theorem dX5_addLink_52 : decode cX5_addLink 52 = .ok (.getfield 15, 3) := by decide +kernel
theorem dX5_addLink_55 : decode cX5_addLink 55 = .ok (.iload_n 3, 1) := by decide +kernel
theorem dX5_addLink_56 : decode cX5_addLink 56 = .ok (.iastore, 1) := by decide +kernel
theorem dX5_addLink_57 : decode cX5_addLink 57 = .ok (.aload_n 0, 1) := by decide +kernel
theorem dX5_addLink_58 : decode cX5_addLink 58 = .ok (.getfield 28, 3) := by decide +kernel
theorem dX5_addLink_61 : decode cX5_addLink 61 = .ok (.aload_n 0, 1) := by decide +kernel
theorem dX5_addLink_62 : decode cX5_addLink 62 = .ok (.getfield 15, 3) := by decide +kernel
theorem dX5_addLink_65 : decode cX5_addLink 65 = .ok (.iload 4, 2) := by decide +kernel
theorem dX5_addLink_67 : decode cX5_addLink 67 = .ok (.iastore, 1) := by decide +kernel
theorem dX5_addLink_68 : decode cX5_addLink 68 = .ok (.aload_n 0, 1) := by decide +kernel
theorem dX5_addLink_69 : decode cX5_addLink 69 = .ok (.dup, 1) := by decide +kernel
theorem dX5_addLink_70 : decode cX5_addLink 70 = .ok (.getfield 15, 3) := by decide +kernel
theorem dX5_addLink_73 : decode cX5_addLink 73 = .ok (.iconst 1, 1) := by decide +kernel
theorem dX5_addLink_74 : decode cX5_addLink 74 = .ok (.iadd, 1) := by decide +kernel
theorem dX5_addLink_75 : decode cX5_addLink 75 = .ok (.putfield 15, 3) := by decide +kernel
theorem dX5_addLink_78 : decode cX5_addLink 78 = .ok (.return_, 1) := by decide +kernel
def wX5_addLink (f : Nat) (Φ : aj_M → Prop) (q0 : List Nat) (v1 : Int) (v2 : Int) (v3 : Int) (v4 : Int) (m : aj_M) : Prop := rI (m q0 1) ∧ (144 ≤ (m q0 1) → Φ m) ∧ (¬ (144 ≤ (m q0 1)) → wX5_has f (fun z1 m1 => rI z1 ∧ (z1 = 0 → Φ m1) ∧ (¬ (z1 = 0) → wX5_has f (fun z2 m2 => rI z2 ∧ (¬ z2 = 0 → (0 ≤ (m2 q0 1) ∧ (m2 q0 1) < 144) ∧ ∀ m3, m3 = aj_u m2 (2 :: q0) (m2 q0 1).toNat v1 → (0 ≤ (m3 q0 1) ∧ (m3 q0 1) < 144) ∧ ∀ m4, m4 = aj_u m3 (3 :: q0) (m3 q0 1).toNat v2 → (0 ≤ (m4 q0 1) ∧ (m4 q0 1) < 144) ∧ ∀ m5, m5 = aj_u m4 (4 :: q0) (m4 q0 1).toNat v3 → (0 ≤ (m5 q0 1) ∧ (m5 q0 1) < 144) ∧ ∀ m6, m6 = aj_u m5 (5 :: q0) (m5 q0 1).toNat v4 → ∀ m7, m7 = aj_u m6 q0 1 ((m6 q0 1) + 1) → Φ m7) ∧ (z2 = 0 → Φ m2)) q0 v2 m1)) q0 v1 m)
set_option maxHeartbeats 4000000 in
set_option maxRecDepth 100000 in
theorem sX5_addLink {n f : Nat} {Φ : aj_M → Prop} {q0 : List Nat} {v1 : Int} {v2 : Int} {v3 : Int} {v4 : Int} {m : aj_M} (hq0 : (.inl (5, q0) : aj_R) ∈ aj_pls) (h : wX5_addLink f Φ q0 v1 v2 v3 v4 m) : aj_Ct (n + 1) yX5_addLink cX5_addLink 5 none [vO 5 q0, vI v1, vI v2, vI v3, vI v4] m (fun r m => r = none ∧ Φ m) := by
  refine aj_met (lv := [some (vO 5 q0), some (vI v1), some (vI v2), some (vI v3), some (vI v4)]) (by decide +kernel) rfl (Nat.le_of_ble_eq_true rfl) (fun X C K => ?_)
  unfold wX5_addLink at h
  refine aj_aload_n C dX5_addLink_0 rfl ?_
  refine aj_getI C flX5_15 hq0 (by decide) dX5_addLink_1 rfl ?_
  refine aj_sipush C dX5_addLink_4 (by decide) ?_
  obtain ⟨r0, h1, h2⟩ := h
  refine aj_icmp_ge (tgt := 26) C dX5_addLink_7 (by decide) r0 (by decide) (fun e => ?_) (fun e => ?_)
  · have h := h1 e
    exact aj_vret C K dX5_addLink_26 ⟨rfl, h⟩
  · have h := h2 e
    refine aj_aload_n C dX5_addLink_10 rfl ?_
    refine aj_iload_n C dX5_addLink_11 rfl ?_
    refine aj_callV (rest := []) C mvX5_122 (sX5_has hq0 h) hq0 (aj_np 1 (by decide +kernel) rfl) (Nat.le_of_ble_eq_true rfl) rfl dX5_addLink_12 (fun r m1 h => ?_)
    obtain ⟨z1, rfl, h⟩ := h
    obtain ⟨r0, h1, h2⟩ := h
    refine aj_if_eq (tgt := 26) C dX5_addLink_15 (by decide) r0 (fun e => ?_) (fun e => ?_)
    · have h := h1 e
      exact aj_vret C K dX5_addLink_26 ⟨rfl, h⟩
    · have h := h2 e
      refine aj_aload_n C dX5_addLink_18 rfl ?_
      refine aj_iload_n C dX5_addLink_19 rfl ?_
      refine aj_callV (rest := []) C mvX5_122 (sX5_has hq0 h) hq0 (aj_np 1 (by decide +kernel) rfl) (Nat.le_of_ble_eq_true rfl) rfl dX5_addLink_20 (fun r m2 h => ?_)
      obtain ⟨z2, rfl, h⟩ := h
      obtain ⟨r0, h1, h2⟩ := h
      refine aj_if_ne (tgt := 27) C dX5_addLink_23 (by decide) r0 (fun e => ?_) (fun e => ?_)
      · have h := h1 e
        refine aj_aload_n C dX5_addLink_27 rfl ?_
        refine aj_getA (x := 0) (y := 144) C flX5_18 hq0 rfl dX5_addLink_28 ?_
        refine aj_aload_n C dX5_addLink_31 rfl ?_
        refine aj_getI C flX5_15 hq0 (by decide) dX5_addLink_32 rfl ?_
        refine aj_iload_n C dX5_addLink_35 rfl ?_
        obtain ⟨r0, h⟩ := h
        refine aj_iast C (aj_ca (e := 0) (n := 144) (j := 2) hq0 (by decide) rfl) (by decide) r0 dX5_addLink_36 ?_
        refine aj_nm (fun m3 e1 => ?_)
        have h := h m3 e1
        refine aj_aload_n C dX5_addLink_37 rfl ?_
        refine aj_getA (x := 0) (y := 144) C flX5_22 hq0 rfl dX5_addLink_38 ?_
        refine aj_aload_n C dX5_addLink_41 rfl ?_
        refine aj_getI C flX5_15 hq0 (by decide) dX5_addLink_42 rfl ?_
        refine aj_iload_n C dX5_addLink_45 rfl ?_
        obtain ⟨r0, h⟩ := h
        refine aj_iast C (aj_ca (e := 0) (n := 144) (j := 3) hq0 (by decide) rfl) (by decide) r0 dX5_addLink_46 ?_
        refine aj_nm (fun m4 e1 => ?_)
        have h := h m4 e1
        refine aj_aload_n C dX5_addLink_47 rfl ?_
        refine aj_getA (x := 0) (y := 144) C flX5_25 hq0 rfl dX5_addLink_48 ?_
        refine aj_aload_n C dX5_addLink_51 rfl ?_
        refine aj_getI C flX5_15 hq0 (by decide) dX5_addLink_52 rfl ?_
        refine aj_iload_n C dX5_addLink_55 rfl ?_
        obtain ⟨r0, h⟩ := h
        refine aj_iast C (aj_ca (e := 0) (n := 144) (j := 4) hq0 (by decide) rfl) (by decide) r0 dX5_addLink_56 ?_
        refine aj_nm (fun m5 e1 => ?_)
        have h := h m5 e1
        refine aj_aload_n C dX5_addLink_57 rfl ?_
        refine aj_getA (x := 0) (y := 144) C flX5_28 hq0 rfl dX5_addLink_58 ?_
        refine aj_aload_n C dX5_addLink_61 rfl ?_
        refine aj_getI C flX5_15 hq0 (by decide) dX5_addLink_62 rfl ?_
        refine aj_iload C dX5_addLink_65 rfl ?_
        obtain ⟨r0, h⟩ := h
        refine aj_iast C (aj_ca (e := 0) (n := 144) (j := 5) hq0 (by decide) rfl) (by decide) r0 dX5_addLink_67 ?_
        refine aj_nm (fun m6 e1 => ?_)
        have h := h m6 e1
        refine aj_aload_n C dX5_addLink_68 rfl ?_
        refine aj_dup C aj_nR dX5_addLink_69 ?_
        refine aj_getI C flX5_15 hq0 (by decide) dX5_addLink_70 rfl ?_
        refine aj_iconst C dX5_addLink_73 ?_
        refine aj_iadd C dX5_addLink_74 ?_
        refine aj_putI C fpX5_15 hq0 rfl dX5_addLink_75 ?_
        refine aj_nm (fun m7 e1 => ?_)
        have h := h m7 e1
        exact aj_vret C K dX5_addLink_78 ⟨rfl, h⟩
      · have h := h2 e
        exact aj_vret C K dX5_addLink_26 ⟨rfl, h⟩
theorem dX5_sortEnds_0 : decode cX5_sortEnds 0 = .ok (.aload_n 0, 1) := by decide +kernel
theorem dX5_sortEnds_1 : decode cX5_sortEnds 1 = .ok (.getfield 38, 3) := by decide +kernel
theorem dX5_sortEnds_4 : decode cX5_sortEnds 4 = .ok (.iconst 0, 1) := by decide +kernel
theorem dX5_sortEnds_5 : decode cX5_sortEnds 5 = .ok (.invokestatic 125, 3) := by decide +kernel
theorem dX5_sortEnds_8 : decode cX5_sortEnds 8 = .ok (.iconst 0, 1) := by decide +kernel
theorem dX5_sortEnds_9 : decode cX5_sortEnds 9 = .ok (.istore_n 1, 1) := by decide +kernel
theorem dX5_sortEnds_10 : decode cX5_sortEnds 10 = .ok (.iload_n 1, 1) := by decide +kernel
theorem dX5_sortEnds_11 : decode cX5_sortEnds 11 = .ok (.aload_n 0, 1) := by decide +kernel
theorem dX5_sortEnds_12 : decode cX5_sortEnds 12 = .ok (.getfield 15, 3) := by decide +kernel
theorem dX5_sortEnds_15 : decode cX5_sortEnds 15 = .ok (.if_icmp .ge 43, 3) := by decide +kernel
theorem dX5_sortEnds_18 : decode cX5_sortEnds 18 = .ok (.aload_n 0, 1) := by decide +kernel
theorem dX5_sortEnds_19 : decode cX5_sortEnds 19 = .ok (.getfield 38, 3) := by decide +kernel
theorem dX5_sortEnds_22 : decode cX5_sortEnds 22 = .ok (.aload_n 0, 1) := by decide +kernel
theorem dX5_sortEnds_23 : decode cX5_sortEnds 23 = .ok (.getfield 18, 3) := by decide +kernel
theorem dX5_sortEnds_26 : decode cX5_sortEnds 26 = .ok (.iload_n 1, 1) := by decide +kernel
theorem dX5_sortEnds_27 : decode cX5_sortEnds 27 = .ok (.iaload, 1) := by decide +kernel
theorem dX5_sortEnds_28 : decode cX5_sortEnds 28 = .ok (.iconst 2, 1) := by decide +kernel
theorem dX5_sortEnds_29 : decode cX5_sortEnds 29 = .ok (.iadd, 1) := by decide +kernel
theorem dX5_sortEnds_30 : decode cX5_sortEnds 30 = .ok (.dup2, 1) := by decide +kernel
theorem dX5_sortEnds_31 : decode cX5_sortEnds 31 = .ok (.iaload, 1) := by decide +kernel
theorem dX5_sortEnds_32 : decode cX5_sortEnds 32 = .ok (.iconst 1, 1) := by decide +kernel
theorem dX5_sortEnds_33 : decode cX5_sortEnds 33 = .ok (.iadd, 1) := by decide +kernel
theorem dX5_sortEnds_34 : decode cX5_sortEnds 34 = .ok (.iastore, 1) := by decide +kernel
theorem dX5_sortEnds_35 : decode cX5_sortEnds 35 = .ok (.aload_n 0, 1) := by decide +kernel
theorem dX5_sortEnds_36 : decode cX5_sortEnds 36 = .ok (.getfield 38, 3) := by decide +kernel
theorem dX5_sortEnds_39 : decode cX5_sortEnds 39 = .ok (.aload_n 0, 1) := by decide +kernel
theorem dX5_sortEnds_40 : decode cX5_sortEnds 40 = .ok (.getfield 22, 3) := by decide +kernel
theorem dX5_sortEnds_43 : decode cX5_sortEnds 43 = .ok (.iload_n 1, 1) := by decide +kernel
theorem dX5_sortEnds_44 : decode cX5_sortEnds 44 = .ok (.iaload, 1) := by decide +kernel
theorem dX5_sortEnds_45 : decode cX5_sortEnds 45 = .ok (.iconst 2, 1) := by decide +kernel
theorem dX5_sortEnds_46 : decode cX5_sortEnds 46 = .ok (.iadd, 1) := by decide +kernel
theorem dX5_sortEnds_47 : decode cX5_sortEnds 47 = .ok (.dup2, 1) := by decide +kernel
theorem dX5_sortEnds_48 : decode cX5_sortEnds 48 = .ok (.iaload, 1) := by decide +kernel
theorem dX5_sortEnds_49 : decode cX5_sortEnds 49 = .ok (.iconst 1, 1) := by decide +kernel
theorem dX5_sortEnds_50 : decode cX5_sortEnds 50 = .ok (.iadd, 1) := by decide +kernel
theorem dX5_sortEnds_51 : decode cX5_sortEnds 51 = .ok (.iastore, 1) := by decide +kernel
theorem dX5_sortEnds_52 : decode cX5_sortEnds 52 = .ok (.iinc 1 1, 3) := by decide +kernel
theorem dX5_sortEnds_55 : decode cX5_sortEnds 55 = .ok (.goto (-45), 3) := by decide +kernel
theorem dX5_sortEnds_58 : decode cX5_sortEnds 58 = .ok (.iconst 2, 1) := by decide +kernel
theorem dX5_sortEnds_59 : decode cX5_sortEnds 59 = .ok (.istore_n 1, 1) := by decide +kernel
theorem dX5_sortEnds_60 : decode cX5_sortEnds 60 = .ok (.iload_n 1, 1) := by decide +kernel
theorem dX5_sortEnds_61 : decode cX5_sortEnds 61 = .ok (.aload_n 0, 1) := by decide +kernel
theorem dX5_sortEnds_62 : decode cX5_sortEnds 62 = .ok (.getfield 9, 3) := by decide +kernel
theorem dX5_sortEnds_65 : decode cX5_sortEnds 65 = .ok (.iconst 1, 1) := by decide +kernel
theorem dX5_sortEnds_66 : decode cX5_sortEnds 66 = .ok (.iadd, 1) := by decide +kernel
theorem dX5_sortEnds_67 : decode cX5_sortEnds 67 = .ok (.if_icmp .gt 26, 3) := by decide +kernel
theorem dX5_sortEnds_70 : decode cX5_sortEnds 70 = .ok (.aload_n 0, 1) := by decide +kernel
theorem dX5_sortEnds_71 : decode cX5_sortEnds 71 = .ok (.getfield 38, 3) := by decide +kernel
theorem dX5_sortEnds_74 : decode cX5_sortEnds 74 = .ok (.iload_n 1, 1) := by decide +kernel
theorem dX5_sortEnds_75 : decode cX5_sortEnds 75 = .ok (.dup2, 1) := by decide +kernel
theorem dX5_sortEnds_76 : decode cX5_sortEnds 76 = .ok (.iaload, 1) := by decide +kernel
theorem dX5_sortEnds_77 : decode cX5_sortEnds 77 = .ok (.aload_n 0, 1) := by decide +kernel
theorem dX5_sortEnds_78 : decode cX5_sortEnds 78 = .ok (.getfield 38, 3) := by decide +kernel
theorem dX5_sortEnds_81 : decode cX5_sortEnds 81 = .ok (.iload_n 1, 1) := by decide +kernel
theorem dX5_sortEnds_82 : decode cX5_sortEnds 82 = .ok (.iconst 1, 1) := by decide +kernel
theorem dX5_sortEnds_83 : decode cX5_sortEnds 83 = .ok (.isub, 1) := by decide +kernel
theorem dX5_sortEnds_84 : decode cX5_sortEnds 84 = .ok (.iaload, 1) := by decide +kernel
theorem dX5_sortEnds_85 : decode cX5_sortEnds 85 = .ok (.iadd, 1) := by decide +kernel
theorem dX5_sortEnds_86 : decode cX5_sortEnds 86 = .ok (.iastore, 1) := by decide +kernel
theorem dX5_sortEnds_87 : decode cX5_sortEnds 87 = .ok (.iinc 1 1, 3) := by decide +kernel
theorem dX5_sortEnds_90 : decode cX5_sortEnds 90 = .ok (.goto (-30), 3) := by decide +kernel
theorem dX5_sortEnds_93 : decode cX5_sortEnds 93 = .ok (.iconst 0, 1) := by decide +kernel
theorem dX5_sortEnds_94 : decode cX5_sortEnds 94 = .ok (.istore_n 1, 1) := by decide +kernel
theorem dX5_sortEnds_95 : decode cX5_sortEnds 95 = .ok (.iload_n 1, 1) := by decide +kernel
theorem dX5_sortEnds_96 : decode cX5_sortEnds 96 = .ok (.aload_n 0, 1) := by decide +kernel
theorem dX5_sortEnds_97 : decode cX5_sortEnds 97 = .ok (.getfield 15, 3) := by decide +kernel
theorem dX5_sortEnds_100 : decode cX5_sortEnds 100 = .ok (.if_icmp .ge 81, 3) := by decide +kernel
theorem dX5_sortEnds_103 : decode cX5_sortEnds 103 = .ok (.aload_n 0, 1) := by decide +kernel
theorem dX5_sortEnds_104 : decode cX5_sortEnds 104 = .ok (.getfield 41, 3) := by decide +kernel
theorem dX5_sortEnds_107 : decode cX5_sortEnds 107 = .ok (.aload_n 0, 1) := by decide +kernel
theorem dX5_sortEnds_108 : decode cX5_sortEnds 108 = .ok (.getfield 38, 3) := by decide +kernel
theorem dX5_sortEnds_111 : decode cX5_sortEnds 111 = .ok (.aload_n 0, 1) := by decide +kernel
theorem dX5_sortEnds_112 : decode cX5_sortEnds 112 = .ok (.getfield 18, 3) := by decide +kernel
theorem dX5_sortEnds_115 : decode cX5_sortEnds 115 = .ok (.iload_n 1, 1) := by decide +kernel
theorem dX5_sortEnds_116 : decode cX5_sortEnds 116 = .ok (.iaload, 1) := by decide +kernel
theorem dX5_sortEnds_117 : decode cX5_sortEnds 117 = .ok (.iconst 1, 1) := by decide +kernel
theorem dX5_sortEnds_118 : decode cX5_sortEnds 118 = .ok (.iadd, 1) := by decide +kernel
theorem dX5_sortEnds_119 : decode cX5_sortEnds 119 = .ok (.iaload, 1) := by decide +kernel
theorem dX5_sortEnds_120 : decode cX5_sortEnds 120 = .ok (.iload_n 1, 1) := by decide +kernel
theorem dX5_sortEnds_121 : decode cX5_sortEnds 121 = .ok (.iastore, 1) := by decide +kernel
theorem dX5_sortEnds_122 : decode cX5_sortEnds 122 = .ok (.aload_n 0, 1) := by decide +kernel
theorem dX5_sortEnds_123 : decode cX5_sortEnds 123 = .ok (.getfield 38, 3) := by decide +kernel
theorem dX5_sortEnds_126 : decode cX5_sortEnds 126 = .ok (.aload_n 0, 1) := by decide +kernel
theorem dX5_sortEnds_127 : decode cX5_sortEnds 127 = .ok (.getfield 18, 3) := by decide +kernel
theorem dX5_sortEnds_130 : decode cX5_sortEnds 130 = .ok (.iload_n 1, 1) := by decide +kernel
theorem dX5_sortEnds_131 : decode cX5_sortEnds 131 = .ok (.iaload, 1) := by decide +kernel
theorem dX5_sortEnds_132 : decode cX5_sortEnds 132 = .ok (.iconst 1, 1) := by decide +kernel
theorem dX5_sortEnds_133 : decode cX5_sortEnds 133 = .ok (.iadd, 1) := by decide +kernel
theorem dX5_sortEnds_134 : decode cX5_sortEnds 134 = .ok (.dup2, 1) := by decide +kernel
theorem dX5_sortEnds_135 : decode cX5_sortEnds 135 = .ok (.iaload, 1) := by decide +kernel
theorem dX5_sortEnds_136 : decode cX5_sortEnds 136 = .ok (.iconst 1, 1) := by decide +kernel
theorem dX5_sortEnds_137 : decode cX5_sortEnds 137 = .ok (.iadd, 1) := by decide +kernel
theorem dX5_sortEnds_138 : decode cX5_sortEnds 138 = .ok (.iastore, 1) := by decide +kernel
theorem dX5_sortEnds_139 : decode cX5_sortEnds 139 = .ok (.aload_n 0, 1) := by decide +kernel
theorem dX5_sortEnds_140 : decode cX5_sortEnds 140 = .ok (.getfield 41, 3) := by decide +kernel
theorem dX5_sortEnds_143 : decode cX5_sortEnds 143 = .ok (.aload_n 0, 1) := by decide +kernel
theorem dX5_sortEnds_144 : decode cX5_sortEnds 144 = .ok (.getfield 38, 3) := by decide +kernel
theorem dX5_sortEnds_147 : decode cX5_sortEnds 147 = .ok (.aload_n 0, 1) := by decide +kernel
theorem dX5_sortEnds_148 : decode cX5_sortEnds 148 = .ok (.getfield 22, 3) := by decide +kernel
theorem dX5_sortEnds_151 : decode cX5_sortEnds 151 = .ok (.iload_n 1, 1) := by decide +kernel
theorem dX5_sortEnds_152 : decode cX5_sortEnds 152 = .ok (.iaload, 1) := by decide +kernel
theorem dX5_sortEnds_153 : decode cX5_sortEnds 153 = .ok (.iconst 1, 1) := by decide +kernel
theorem dX5_sortEnds_154 : decode cX5_sortEnds 154 = .ok (.iadd, 1) := by decide +kernel
theorem dX5_sortEnds_155 : decode cX5_sortEnds 155 = .ok (.iaload, 1) := by decide +kernel
theorem dX5_sortEnds_156 : decode cX5_sortEnds 156 = .ok (.iload_n 1, 1) := by decide +kernel
theorem dX5_sortEnds_157 : decode cX5_sortEnds 157 = .ok (.iastore, 1) := by decide +kernel
theorem dX5_sortEnds_158 : decode cX5_sortEnds 158 = .ok (.aload_n 0, 1) := by decide +kernel
theorem dX5_sortEnds_159 : decode cX5_sortEnds 159 = .ok (.getfield 38, 3) := by decide +kernel
theorem dX5_sortEnds_162 : decode cX5_sortEnds 162 = .ok (.aload_n 0, 1) := by decide +kernel
theorem dX5_sortEnds_163 : decode cX5_sortEnds 163 = .ok (.getfield 22, 3) := by decide +kernel
theorem dX5_sortEnds_166 : decode cX5_sortEnds 166 = .ok (.iload_n 1, 1) := by decide +kernel
theorem dX5_sortEnds_167 : decode cX5_sortEnds 167 = .ok (.iaload, 1) := by decide +kernel
theorem dX5_sortEnds_168 : decode cX5_sortEnds 168 = .ok (.iconst 1, 1) := by decide +kernel
theorem dX5_sortEnds_169 : decode cX5_sortEnds 169 = .ok (.iadd, 1) := by decide +kernel
theorem dX5_sortEnds_170 : decode cX5_sortEnds 170 = .ok (.dup2, 1) := by decide +kernel
theorem dX5_sortEnds_171 : decode cX5_sortEnds 171 = .ok (.iaload, 1) := by decide +kernel
theorem dX5_sortEnds_172 : decode cX5_sortEnds 172 = .ok (.iconst 1, 1) := by decide +kernel
theorem dX5_sortEnds_173 : decode cX5_sortEnds 173 = .ok (.iadd, 1) := by decide +kernel
theorem dX5_sortEnds_174 : decode cX5_sortEnds 174 = .ok (.iastore, 1) := by decide +kernel
theorem dX5_sortEnds_175 : decode cX5_sortEnds 175 = .ok (.iinc 1 1, 3) := by decide +kernel
theorem dX5_sortEnds_178 : decode cX5_sortEnds 178 = .ok (.goto (-83), 3) := by decide +kernel
theorem dX5_sortEnds_181 : decode cX5_sortEnds 181 = .ok (.return_, 1) := by decide +kernel
def hX5_sortEnds_95 (f : Nat) (Φ : aj_M → Prop) : Nat → List Nat → Int → aj_M → Prop
  | 0, _, _, _ => False
  | k + 1, q0, v1, m => rI v1 ∧ rI (m q0 1) ∧ ((m q0 1) ≤ v1 → Φ m) ∧ (¬ ((m q0 1) ≤ v1) → (0 ≤ v1 ∧ v1 < 144) ∧ (0 ≤ ((m (2 :: q0) v1.toNat) + 1) ∧ ((m (2 :: q0) v1.toNat) + 1) < 62) ∧ (0 ≤ (m (8 :: q0) ((m (2 :: q0) v1.toNat) + 1).toNat) ∧ (m (8 :: q0) ((m (2 :: q0) v1.toNat) + 1).toNat) < 288) ∧ ∀ m1, m1 = aj_u m (9 :: q0) (m (8 :: q0) ((m (2 :: q0) v1.toNat) + 1).toNat).toNat v1 → (0 ≤ v1 ∧ v1 < 144) ∧ (0 ≤ ((m1 (2 :: q0) v1.toNat) + 1) ∧ ((m1 (2 :: q0) v1.toNat) + 1) < 62) ∧ (0 ≤ ((m1 (2 :: q0) v1.toNat) + 1) ∧ ((m1 (2 :: q0) v1.toNat) + 1) < 62) ∧ ∀ m2, m2 = aj_u m1 (8 :: q0) ((m1 (2 :: q0) v1.toNat) + 1).toNat ((m1 (8 :: q0) ((m1 (2 :: q0) v1.toNat) + 1).toNat) + 1) → (0 ≤ v1 ∧ v1 < 144) ∧ (0 ≤ ((m2 (3 :: q0) v1.toNat) + 1) ∧ ((m2 (3 :: q0) v1.toNat) + 1) < 62) ∧ (0 ≤ (m2 (8 :: q0) ((m2 (3 :: q0) v1.toNat) + 1).toNat) ∧ (m2 (8 :: q0) ((m2 (3 :: q0) v1.toNat) + 1).toNat) < 288) ∧ ∀ m3, m3 = aj_u m2 (9 :: q0) (m2 (8 :: q0) ((m2 (3 :: q0) v1.toNat) + 1).toNat).toNat v1 → (0 ≤ v1 ∧ v1 < 144) ∧ (0 ≤ ((m3 (3 :: q0) v1.toNat) + 1) ∧ ((m3 (3 :: q0) v1.toNat) + 1) < 62) ∧ (0 ≤ ((m3 (3 :: q0) v1.toNat) + 1) ∧ ((m3 (3 :: q0) v1.toNat) + 1) < 62) ∧ ∀ m4, m4 = aj_u m3 (8 :: q0) ((m3 (3 :: q0) v1.toNat) + 1).toNat ((m3 (8 :: q0) ((m3 (3 :: q0) v1.toNat) + 1).toNat) + 1) → hX5_sortEnds_95 f Φ k q0 (v1 + 1) m4)
set_option maxHeartbeats 4000000 in
set_option maxRecDepth 100000 in
theorem tX5_sortEnds_95 {X : aj_T} {n f : Nat} {Φ : aj_M → Prop} (C : aj_Cx X cX5_sortEnds RX5 2 (n + 1)) (K : aj_Rt X none (fun r m => r = none ∧ Φ m)) : ∀ (k : Nat) (q0 : List Nat) (v1 : Int) (m : aj_M) (hq0 : (.inl (5, q0) : aj_R) ∈ aj_pls), hX5_sortEnds_95 f Φ k q0 v1 m → aj_J X 95 [some (vO 5 q0), some (vI v1)] [] m := by
  intro k
  induction k with
  | zero =>
    intro q0 v1 m _ h
    exact h.elim
  | succ k ih =>
    intro q0 v1 m hq0 h
    unfold hX5_sortEnds_95 at h
    refine aj_iload_n C dX5_sortEnds_95 rfl ?_
    refine aj_aload_n C dX5_sortEnds_96 rfl ?_
    refine aj_getI C flX5_15 hq0 (by decide) dX5_sortEnds_97 rfl ?_
    obtain ⟨r0, r1, h1, h2⟩ := h
    refine aj_icmp_ge (tgt := 181) C dX5_sortEnds_100 (by decide) r0 r1 (fun e => ?_) (fun e => ?_)
    · have h := h1 e
      exact aj_vret C K dX5_sortEnds_181 ⟨rfl, h⟩
    · have h := h2 e
      refine aj_aload_n C dX5_sortEnds_103 rfl ?_
      refine aj_getA (x := 0) (y := 288) C flX5_41 hq0 rfl dX5_sortEnds_104 ?_
      refine aj_aload_n C dX5_sortEnds_107 rfl ?_
      refine aj_getA (x := 0) (y := 62) C flX5_38 hq0 rfl dX5_sortEnds_108 ?_
      refine aj_aload_n C dX5_sortEnds_111 rfl ?_
      refine aj_getA (x := 0) (y := 144) C flX5_18 hq0 rfl dX5_sortEnds_112 ?_
      refine aj_iload_n C dX5_sortEnds_115 rfl ?_
      obtain ⟨r0, h⟩ := h
      refine aj_iald C (aj_ca (e := 0) (n := 144) (j := 2) hq0 (by decide) rfl) (by decide) r0 dX5_sortEnds_116 rfl ?_
      refine aj_iconst C dX5_sortEnds_117 ?_
      refine aj_iadd C dX5_sortEnds_118 ?_
      obtain ⟨r0, h⟩ := h
      refine aj_iald C (aj_ca (e := 0) (n := 62) (j := 8) hq0 (by decide) rfl) (by decide) r0 dX5_sortEnds_119 rfl ?_
      refine aj_iload_n C dX5_sortEnds_120 rfl ?_
      obtain ⟨r0, h⟩ := h
      refine aj_iast C (aj_ca (e := 0) (n := 288) (j := 9) hq0 (by decide) rfl) (by decide) r0 dX5_sortEnds_121 ?_
      refine aj_nm (fun m1 e1 => ?_)
      have h := h m1 e1
      refine aj_aload_n C dX5_sortEnds_122 rfl ?_
      refine aj_getA (x := 0) (y := 62) C flX5_38 hq0 rfl dX5_sortEnds_123 ?_
      refine aj_aload_n C dX5_sortEnds_126 rfl ?_
      refine aj_getA (x := 0) (y := 144) C flX5_18 hq0 rfl dX5_sortEnds_127 ?_
      refine aj_iload_n C dX5_sortEnds_130 rfl ?_
      obtain ⟨r0, h⟩ := h
      refine aj_iald C (aj_ca (e := 0) (n := 144) (j := 2) hq0 (by decide) rfl) (by decide) r0 dX5_sortEnds_131 rfl ?_
      refine aj_iconst C dX5_sortEnds_132 ?_
      refine aj_iadd C dX5_sortEnds_133 ?_
      refine aj_dup2 C aj_nI aj_nR dX5_sortEnds_134 ?_
      obtain ⟨r0, h⟩ := h
      refine aj_iald C (aj_ca (e := 0) (n := 62) (j := 8) hq0 (by decide) rfl) (by decide) r0 dX5_sortEnds_135 rfl ?_
      refine aj_iconst C dX5_sortEnds_136 ?_
      refine aj_iadd C dX5_sortEnds_137 ?_
      obtain ⟨r0, h⟩ := h
      refine aj_iast C (aj_ca (e := 0) (n := 62) (j := 8) hq0 (by decide) rfl) (by decide) r0 dX5_sortEnds_138 ?_
      refine aj_nm (fun m2 e1 => ?_)
      have h := h m2 e1
      refine aj_aload_n C dX5_sortEnds_139 rfl ?_
      refine aj_getA (x := 0) (y := 288) C flX5_41 hq0 rfl dX5_sortEnds_140 ?_
      refine aj_aload_n C dX5_sortEnds_143 rfl ?_
      refine aj_getA (x := 0) (y := 62) C flX5_38 hq0 rfl dX5_sortEnds_144 ?_
      refine aj_aload_n C dX5_sortEnds_147 rfl ?_
      refine aj_getA (x := 0) (y := 144) C flX5_22 hq0 rfl dX5_sortEnds_148 ?_
      refine aj_iload_n C dX5_sortEnds_151 rfl ?_
      obtain ⟨r0, h⟩ := h
      refine aj_iald C (aj_ca (e := 0) (n := 144) (j := 3) hq0 (by decide) rfl) (by decide) r0 dX5_sortEnds_152 rfl ?_
      refine aj_iconst C dX5_sortEnds_153 ?_
      refine aj_iadd C dX5_sortEnds_154 ?_
      obtain ⟨r0, h⟩ := h
      refine aj_iald C (aj_ca (e := 0) (n := 62) (j := 8) hq0 (by decide) rfl) (by decide) r0 dX5_sortEnds_155 rfl ?_
      refine aj_iload_n C dX5_sortEnds_156 rfl ?_
      obtain ⟨r0, h⟩ := h
      refine aj_iast C (aj_ca (e := 0) (n := 288) (j := 9) hq0 (by decide) rfl) (by decide) r0 dX5_sortEnds_157 ?_
      refine aj_nm (fun m3 e1 => ?_)
      have h := h m3 e1
      refine aj_aload_n C dX5_sortEnds_158 rfl ?_
      refine aj_getA (x := 0) (y := 62) C flX5_38 hq0 rfl dX5_sortEnds_159 ?_
      refine aj_aload_n C dX5_sortEnds_162 rfl ?_
      refine aj_getA (x := 0) (y := 144) C flX5_22 hq0 rfl dX5_sortEnds_163 ?_
      refine aj_iload_n C dX5_sortEnds_166 rfl ?_
      obtain ⟨r0, h⟩ := h
      refine aj_iald C (aj_ca (e := 0) (n := 144) (j := 3) hq0 (by decide) rfl) (by decide) r0 dX5_sortEnds_167 rfl ?_
      refine aj_iconst C dX5_sortEnds_168 ?_
      refine aj_iadd C dX5_sortEnds_169 ?_
      refine aj_dup2 C aj_nI aj_nR dX5_sortEnds_170 ?_
      obtain ⟨r0, h⟩ := h
      refine aj_iald C (aj_ca (e := 0) (n := 62) (j := 8) hq0 (by decide) rfl) (by decide) r0 dX5_sortEnds_171 rfl ?_
      refine aj_iconst C dX5_sortEnds_172 ?_
      refine aj_iadd C dX5_sortEnds_173 ?_
      obtain ⟨r0, h⟩ := h
      refine aj_iast C (aj_ca (e := 0) (n := 62) (j := 8) hq0 (by decide) rfl) (by decide) r0 dX5_sortEnds_174 ?_
      refine aj_nm (fun m4 e1 => ?_)
      have h := h m4 e1
      refine aj_iinc (lv' := [some (vO 5 q0), some (vI (v1 + 1))]) C dX5_sortEnds_175 rfl (by decide) rfl ?_
      refine aj_goto (tgt := 95) C dX5_sortEnds_178 (by decide) ?_
      exact ih q0 (v1 + 1) _ hq0 h
def hX5_sortEnds_60 (f : Nat) (Φ : aj_M → Prop) : Nat → List Nat → Int → aj_M → Prop
  | 0, _, _, _ => False
  | k + 1, q0, v1, m => rI v1 ∧ rI ((m q0 0) + 1) ∧ (((m q0 0) + 1) < v1 → hX5_sortEnds_95 f Φ f q0 0 m) ∧ (¬ (((m q0 0) + 1) < v1) → (0 ≤ v1 ∧ v1 < 62) ∧ (0 ≤ (v1 - 1) ∧ (v1 - 1) < 62) ∧ (0 ≤ v1 ∧ v1 < 62) ∧ ∀ m1, m1 = aj_u m (8 :: q0) v1.toNat ((m (8 :: q0) v1.toNat) + (m (8 :: q0) (v1 - 1).toNat)) → hX5_sortEnds_60 f Φ k q0 (v1 + 1) m1)
set_option maxHeartbeats 4000000 in
set_option maxRecDepth 100000 in
theorem tX5_sortEnds_60 {X : aj_T} {n f : Nat} {Φ : aj_M → Prop} (C : aj_Cx X cX5_sortEnds RX5 2 (n + 1)) (K : aj_Rt X none (fun r m => r = none ∧ Φ m)) : ∀ (k : Nat) (q0 : List Nat) (v1 : Int) (m : aj_M) (hq0 : (.inl (5, q0) : aj_R) ∈ aj_pls), hX5_sortEnds_60 f Φ k q0 v1 m → aj_J X 60 [some (vO 5 q0), some (vI v1)] [] m := by
  intro k
  induction k with
  | zero =>
    intro q0 v1 m _ h
    exact h.elim
  | succ k ih =>
    intro q0 v1 m hq0 h
    unfold hX5_sortEnds_60 at h
    refine aj_iload_n C dX5_sortEnds_60 rfl ?_
    refine aj_aload_n C dX5_sortEnds_61 rfl ?_
    refine aj_getI C flX5_9 hq0 (by decide) dX5_sortEnds_62 rfl ?_
    refine aj_iconst C dX5_sortEnds_65 ?_
    refine aj_iadd C dX5_sortEnds_66 ?_
    obtain ⟨r0, r1, h1, h2⟩ := h
    refine aj_icmp_gt (tgt := 93) C dX5_sortEnds_67 (by decide) r0 r1 (fun e => ?_) (fun e => ?_)
    · have h := h1 e
      refine aj_iconst C dX5_sortEnds_93 ?_
      refine aj_istore_n (lv' := [some (vO 5 q0), some (vI 0)]) C dX5_sortEnds_94 (by decide) rfl ?_
      exact tX5_sortEnds_95 C K f q0 0 _ hq0 h
    · have h := h2 e
      refine aj_aload_n C dX5_sortEnds_70 rfl ?_
      refine aj_getA (x := 0) (y := 62) C flX5_38 hq0 rfl dX5_sortEnds_71 ?_
      refine aj_iload_n C dX5_sortEnds_74 rfl ?_
      refine aj_dup2 C aj_nI aj_nR dX5_sortEnds_75 ?_
      obtain ⟨r0, h⟩ := h
      refine aj_iald C (aj_ca (e := 0) (n := 62) (j := 8) hq0 (by decide) rfl) (by decide) r0 dX5_sortEnds_76 rfl ?_
      refine aj_aload_n C dX5_sortEnds_77 rfl ?_
      refine aj_getA (x := 0) (y := 62) C flX5_38 hq0 rfl dX5_sortEnds_78 ?_
      refine aj_iload_n C dX5_sortEnds_81 rfl ?_
      refine aj_iconst C dX5_sortEnds_82 ?_
      refine aj_isub C dX5_sortEnds_83 ?_
      obtain ⟨r0, h⟩ := h
      refine aj_iald C (aj_ca (e := 0) (n := 62) (j := 8) hq0 (by decide) rfl) (by decide) r0 dX5_sortEnds_84 rfl ?_
      refine aj_iadd C dX5_sortEnds_85 ?_
      obtain ⟨r0, h⟩ := h
      refine aj_iast C (aj_ca (e := 0) (n := 62) (j := 8) hq0 (by decide) rfl) (by decide) r0 dX5_sortEnds_86 ?_
      refine aj_nm (fun m1 e1 => ?_)
      have h := h m1 e1
      refine aj_iinc (lv' := [some (vO 5 q0), some (vI (v1 + 1))]) C dX5_sortEnds_87 rfl (by decide) rfl ?_
      refine aj_goto (tgt := 60) C dX5_sortEnds_90 (by decide) ?_
      exact ih q0 (v1 + 1) _ hq0 h
def hX5_sortEnds_10 (f : Nat) (Φ : aj_M → Prop) : Nat → List Nat → Int → aj_M → Prop
  | 0, _, _, _ => False
  | k + 1, q0, v1, m => rI v1 ∧ rI (m q0 1) ∧ ((m q0 1) ≤ v1 → hX5_sortEnds_60 f Φ f q0 2 m) ∧ (¬ ((m q0 1) ≤ v1) → (0 ≤ v1 ∧ v1 < 144) ∧ (0 ≤ ((m (2 :: q0) v1.toNat) + 2) ∧ ((m (2 :: q0) v1.toNat) + 2) < 62) ∧ (0 ≤ ((m (2 :: q0) v1.toNat) + 2) ∧ ((m (2 :: q0) v1.toNat) + 2) < 62) ∧ ∀ m1, m1 = aj_u m (8 :: q0) ((m (2 :: q0) v1.toNat) + 2).toNat ((m (8 :: q0) ((m (2 :: q0) v1.toNat) + 2).toNat) + 1) → (0 ≤ v1 ∧ v1 < 144) ∧ (0 ≤ ((m1 (3 :: q0) v1.toNat) + 2) ∧ ((m1 (3 :: q0) v1.toNat) + 2) < 62) ∧ (0 ≤ ((m1 (3 :: q0) v1.toNat) + 2) ∧ ((m1 (3 :: q0) v1.toNat) + 2) < 62) ∧ ∀ m2, m2 = aj_u m1 (8 :: q0) ((m1 (3 :: q0) v1.toNat) + 2).toNat ((m1 (8 :: q0) ((m1 (3 :: q0) v1.toNat) + 2).toNat) + 1) → hX5_sortEnds_10 f Φ k q0 (v1 + 1) m2)
set_option maxHeartbeats 4000000 in
set_option maxRecDepth 100000 in
theorem tX5_sortEnds_10 {X : aj_T} {n f : Nat} {Φ : aj_M → Prop} (C : aj_Cx X cX5_sortEnds RX5 2 (n + 1)) (K : aj_Rt X none (fun r m => r = none ∧ Φ m)) : ∀ (k : Nat) (q0 : List Nat) (v1 : Int) (m : aj_M) (hq0 : (.inl (5, q0) : aj_R) ∈ aj_pls), hX5_sortEnds_10 f Φ k q0 v1 m → aj_J X 10 [some (vO 5 q0), some (vI v1)] [] m := by
  intro k
  induction k with
  | zero =>
    intro q0 v1 m _ h
    exact h.elim
  | succ k ih =>
    intro q0 v1 m hq0 h
    unfold hX5_sortEnds_10 at h
    refine aj_iload_n C dX5_sortEnds_10 rfl ?_
    refine aj_aload_n C dX5_sortEnds_11 rfl ?_
    refine aj_getI C flX5_15 hq0 (by decide) dX5_sortEnds_12 rfl ?_
    obtain ⟨r0, r1, h1, h2⟩ := h
    refine aj_icmp_ge (tgt := 58) C dX5_sortEnds_15 (by decide) r0 r1 (fun e => ?_) (fun e => ?_)
    · have h := h1 e
      refine aj_iconst C dX5_sortEnds_58 ?_
      refine aj_istore_n (lv' := [some (vO 5 q0), some (vI 2)]) C dX5_sortEnds_59 (by decide) rfl ?_
      exact tX5_sortEnds_60 C K f q0 2 _ hq0 h
    · have h := h2 e
      refine aj_aload_n C dX5_sortEnds_18 rfl ?_
      refine aj_getA (x := 0) (y := 62) C flX5_38 hq0 rfl dX5_sortEnds_19 ?_
      refine aj_aload_n C dX5_sortEnds_22 rfl ?_
      refine aj_getA (x := 0) (y := 144) C flX5_18 hq0 rfl dX5_sortEnds_23 ?_
      refine aj_iload_n C dX5_sortEnds_26 rfl ?_
      obtain ⟨r0, h⟩ := h
      refine aj_iald C (aj_ca (e := 0) (n := 144) (j := 2) hq0 (by decide) rfl) (by decide) r0 dX5_sortEnds_27 rfl ?_
      refine aj_iconst C dX5_sortEnds_28 ?_
      refine aj_iadd C dX5_sortEnds_29 ?_
      refine aj_dup2 C aj_nI aj_nR dX5_sortEnds_30 ?_
      obtain ⟨r0, h⟩ := h
      refine aj_iald C (aj_ca (e := 0) (n := 62) (j := 8) hq0 (by decide) rfl) (by decide) r0 dX5_sortEnds_31 rfl ?_
      refine aj_iconst C dX5_sortEnds_32 ?_
      refine aj_iadd C dX5_sortEnds_33 ?_
      obtain ⟨r0, h⟩ := h
      refine aj_iast C (aj_ca (e := 0) (n := 62) (j := 8) hq0 (by decide) rfl) (by decide) r0 dX5_sortEnds_34 ?_
      refine aj_nm (fun m1 e1 => ?_)
      have h := h m1 e1
      refine aj_aload_n C dX5_sortEnds_35 rfl ?_
      refine aj_getA (x := 0) (y := 62) C flX5_38 hq0 rfl dX5_sortEnds_36 ?_
      refine aj_aload_n C dX5_sortEnds_39 rfl ?_
      refine aj_getA (x := 0) (y := 144) C flX5_22 hq0 rfl dX5_sortEnds_40 ?_
      refine aj_iload_n C dX5_sortEnds_43 rfl ?_
      obtain ⟨r0, h⟩ := h
      refine aj_iald C (aj_ca (e := 0) (n := 144) (j := 3) hq0 (by decide) rfl) (by decide) r0 dX5_sortEnds_44 rfl ?_
      refine aj_iconst C dX5_sortEnds_45 ?_
      refine aj_iadd C dX5_sortEnds_46 ?_
      refine aj_dup2 C aj_nI aj_nR dX5_sortEnds_47 ?_
      obtain ⟨r0, h⟩ := h
      refine aj_iald C (aj_ca (e := 0) (n := 62) (j := 8) hq0 (by decide) rfl) (by decide) r0 dX5_sortEnds_48 rfl ?_
      refine aj_iconst C dX5_sortEnds_49 ?_
      refine aj_iadd C dX5_sortEnds_50 ?_
      obtain ⟨r0, h⟩ := h
      refine aj_iast C (aj_ca (e := 0) (n := 62) (j := 8) hq0 (by decide) rfl) (by decide) r0 dX5_sortEnds_51 ?_
      refine aj_nm (fun m2 e1 => ?_)
      have h := h m2 e1
      refine aj_iinc (lv' := [some (vO 5 q0), some (vI (v1 + 1))]) C dX5_sortEnds_52 rfl (by decide) rfl ?_
      refine aj_goto (tgt := 10) C dX5_sortEnds_55 (by decide) ?_
      exact ih q0 (v1 + 1) _ hq0 h
def wX5_sortEnds (f : Nat) (Φ : aj_M → Prop) (q0 : List Nat) (m : aj_M) : Prop := wJ7_fill_53178 f (fun m1 => hX5_sortEnds_10 f Φ f q0 0 m1) 62 (8 :: q0) 0 m
set_option maxHeartbeats 4000000 in
set_option maxRecDepth 100000 in
theorem sX5_sortEnds {n f : Nat} {Φ : aj_M → Prop} {q0 : List Nat} {m : aj_M} (hq0 : (.inl (5, q0) : aj_R) ∈ aj_pls) (h : wX5_sortEnds f Φ q0 m) : aj_Ct (n + 1) yX5_sortEnds cX5_sortEnds 2 none [vO 5 q0] m (fun r m => r = none ∧ Φ m) := by
  refine aj_met (lv := [some (vO 5 q0), none]) (by decide +kernel) rfl (Nat.le_of_ble_eq_true rfl) (fun X C K => ?_)
  unfold wX5_sortEnds at h
  refine aj_aload_n C dX5_sortEnds_0 rfl ?_
  refine aj_getA (x := 0) (y := 62) C flX5_38 hq0 rfl dX5_sortEnds_1 ?_
  refine aj_iconst C dX5_sortEnds_4 ?_
  refine aj_callS (rest := []) C msX5_125 (sJ7_fill_53178 (aj_ca (e := 0) (n := 62) (j := 8) hq0 (by decide) rfl) (by decide) h) (aj_np 2 (by decide +kernel) rfl) (Nat.le_of_ble_eq_true rfl) rfl dX5_sortEnds_5 (fun r m1 h => ?_)
  obtain ⟨rfl, h⟩ := h
  refine aj_iconst C dX5_sortEnds_8 ?_
  refine aj_istore_n (lv' := [some (vO 5 q0), some (vI 0)]) C dX5_sortEnds_9 (by decide) rfl ?_
  exact tX5_sortEnds_10 C K f q0 0 _ hq0 h
theorem dX5_build_0 : decode cX5_build 0 = .ok (.aload_n 1, 1) := by decide +kernel
theorem dX5_build_1 : decode cX5_build 1 = .ok (.getfield 66, 3) := by decide +kernel
theorem dX5_build_4 : decode cX5_build 4 = .ok (.getfield 72, 3) := by decide +kernel
theorem dX5_build_7 : decode cX5_build 7 = .ok (.istore_n 3, 1) := by decide +kernel
theorem dX5_build_8 : decode cX5_build 8 = .ok (.aload_n 0, 1) := by decide +kernel
theorem dX5_build_9 : decode cX5_build 9 = .ok (.aload_n 1, 1) := by decide +kernel
theorem dX5_build_10 : decode cX5_build 10 = .ok (.getfield 77, 3) := by decide +kernel
theorem dX5_build_13 : decode cX5_build 13 = .ok (.iload_n 3, 1) := by decide +kernel
theorem dX5_build_14 : decode cX5_build 14 = .ok (.imul, 1) := by decide +kernel
theorem dX5_build_15 : decode cX5_build 15 = .ok (.putfield 9, 3) := by decide +kernel
theorem dX5_build_18 : decode cX5_build 18 = .ok (.aload_n 0, 1) := by decide +kernel
theorem dX5_build_19 : decode cX5_build 19 = .ok (.iconst 0, 1) := by decide +kernel
theorem dX5_build_20 : decode cX5_build 20 = .ok (.putfield 15, 3) := by decide +kernel
theorem dX5_build_23 : decode cX5_build 23 = .ok (.aload_n 0, 1) := by decide +kernel
theorem dX5_build_24 : decode cX5_build 24 = .ok (.iconst 0, 1) := by decide +kernel
theorem dX5_build_25 : decode cX5_build 25 = .ok (.putfield 34, 3) := by decide +kernel
theorem dX5_build_28 : decode cX5_build 28 = .ok (.aload_n 1, 1) := by decide +kernel
theorem dX5_build_29 : decode cX5_build 29 = .ok (.aload_n 2, 1) := by decide +kernel
theorem dX5_build_30 : decode cX5_build 30 = .ok (.getfield 80, 3) := by decide +kernel
theorem dX5_build_33 : decode cX5_build 33 = .ok (.invokevirtual 85, 3) := by decide +kernel
theorem dX5_build_36 : decode cX5_build 36 = .ok (.iconst 0, 1) := by decide +kernel
theorem dX5_build_37 : decode cX5_build 37 = .ok (.istore 4, 2) := by decide +kernel
theorem dX5_build_39 : decode cX5_build 39 = .ok (.iload 4, 2) := by decide +kernel
theorem dX5_build_41 : decode cX5_build 41 = .ok (.aload_n 1, 1) := by decide +kernel
theorem dX5_build_42 : decode cX5_build 42 = .ok (.getfield 89, 3) := by decide +kernel
theorem dX5_build_45 : decode cX5_build 45 = .ok (.if_icmp .ge 122, 3) := by decide +kernel
theorem dX5_build_48 : decode cX5_build 48 = .ok (.aload_n 2, 1) := by decide +kernel
theorem dX5_build_49 : decode cX5_build 49 = .ok (.iload 4, 2) := by decide +kernel
theorem dX5_build_51 : decode cX5_build 51 = .ok (.invokevirtual 92, 3) := by decide +kernel
theorem dX5_build_54 : decode cX5_build 54 = .ok (.ifCond .eq 6, 3) := by decide +kernel
theorem dX5_build_57 : decode cX5_build 57 = .ok (.goto 104, 3) := by decide +kernel
theorem dX5_build_60 : decode cX5_build 60 = .ok (.aload_n 1, 1) := by decide +kernel
theorem dX5_build_61 : decode cX5_build 61 = .ok (.iload 4, 2) := by decide +kernel
theorem dX5_build_63 : decode cX5_build 63 = .ok (.invokevirtual 96, 3) := by decide +kernel
theorem dX5_build_66 : decode cX5_build 66 = .ok (.istore 5, 2) := by decide +kernel
theorem dX5_build_68 : decode cX5_build 68 = .ok (.iconst 0, 1) := by decide +kernel
theorem dX5_build_69 : decode cX5_build 69 = .ok (.istore 6, 2) := by decide +kernel
theorem dX5_build_71 : decode cX5_build 71 = .ok (.iload 6, 2) := by decide +kernel
theorem dX5_build_73 : decode cX5_build 73 = .ok (.iload_n 3, 1) := by decide +kernel
theorem dX5_build_74 : decode cX5_build 74 = .ok (.if_icmp .ge 87, 3) := by decide +kernel
theorem dX5_build_77 : decode cX5_build 77 = .ok (.aload_n 1, 1) := by decide +kernel
theorem dX5_build_78 : decode cX5_build 78 = .ok (.getfield 66, 3) := by decide +kernel
theorem dX5_build_81 : decode cX5_build 81 = .ok (.iload 6, 2) := by decide +kernel
theorem dX5_build_83 : decode cX5_build 83 = .ok (.aload_n 2, 1) := by decide +kernel
theorem dX5_build_84 : decode cX5_build 84 = .ok (.getfield 99, 3) := by decide +kernel
theorem dX5_build_87 : decode cX5_build 87 = .ok (.iload 4, 2) := by decide +kernel
theorem dX5_build_89 : decode cX5_build 89 = .ok (.iaload, 1) := by decide +kernel
theorem dX5_build_90 : decode cX5_build 90 = .ok (.invokevirtual 102, 3) := by decide +kernel
theorem dX5_build_93 : decode cX5_build 93 = .ok (.istore 7, 2) := by decide +kernel
theorem dX5_build_95 : decode cX5_build 95 = .ok (.aload_n 1, 1) := by decide +kernel
theorem dX5_build_96 : decode cX5_build 96 = .ok (.getfield 106, 3) := by decide +kernel
theorem dX5_build_99 : decode cX5_build 99 = .ok (.iload 4, 2) := by decide +kernel
theorem dX5_build_101 : decode cX5_build 101 = .ok (.iaload, 1) := by decide +kernel
theorem dX5_build_102 : decode cX5_build 102 = .ok (.iload 6, 2) := by decide +kernel
theorem dX5_build_104 : decode cX5_build 104 = .ok (.ishr, 1) := by decide +kernel
theorem dX5_build_105 : decode cX5_build 105 = .ok (.iconst 1, 1) := by decide +kernel
theorem dX5_build_106 : decode cX5_build 106 = .ok (.iand, 1) := by decide +kernel
theorem dX5_build_107 : decode cX5_build 107 = .ok (.iconst 1, 1) := by decide +kernel
theorem dX5_build_108 : decode cX5_build 108 = .ok (.if_icmp .ne 47, 3) := by decide +kernel
theorem dX5_build_111 : decode cX5_build 111 = .ok (.iload 5, 2) := by decide +kernel
theorem dX5_build_113 : decode cX5_build 113 = .ok (.ifCond .eq 10, 3) := by decide +kernel
theorem dX5_build_116 : decode cX5_build 116 = .ok (.iload 6, 2) := by decide +kernel
theorem dX5_build_118 : decode cX5_build 118 = .ok (.iload 7, 2) := by decide +kernel
theorem dX5_build_120 : decode cX5_build 120 = .ok (.if_icmp .ge 35, 3) := by decide +kernel
theorem dX5_build_123 : decode cX5_build 123 = .ok (.aload_n 0, 1) := by decide +kernel
theorem dX5_build_124 : decode cX5_build 124 = .ok (.aload_n 1, 1) := by decide +kernel
theorem dX5_build_125 : decode cX5_build 125 = .ok (.getfield 109, 3) := by decide +kernel
theorem dX5_build_128 : decode cX5_build 128 = .ok (.iload 4, 2) := by decide +kernel
theorem dX5_build_130 : decode cX5_build 130 = .ok (.iaload, 1) := by decide +kernel
theorem dX5_build_131 : decode cX5_build 131 = .ok (.iload_n 3, 1) := by decide +kernel
theorem dX5_build_132 : decode cX5_build 132 = .ok (.imul, 1) := by decide +kernel
theorem dX5_build_133 : decode cX5_build 133 = .ok (.iload 6, 2) := by decide +kernel
theorem dX5_build_135 : decode cX5_build 135 = .ok (.iadd, 1) := by decide +kernel
theorem dX5_build_136 : decode cX5_build 136 = .ok (.aload_n 1, 1) := by decide +kernel
theorem dX5_build_137 : decode cX5_build 137 = .ok (.getfield 112, 3) := by decide +kernel
theorem dX5_build_140 : decode cX5_build 140 = .ok (.iload 4, 2) := by decide +kernel
theorem dX5_build_142 : decode cX5_build 142 = .ok (.iaload, 1) := by decide +kernel
theorem dX5_build_143 : decode cX5_build 143 = .ok (.iload_n 3, 1) := by decide +kernel
theorem dX5_build_144 : decode cX5_build 144 = .ok (.imul, 1) := by decide +kernel
theorem dX5_build_145 : decode cX5_build 145 = .ok (.iload 7, 2) := by decide +kernel
theorem dX5_build_147 : decode cX5_build 147 = .ok (.iadd, 1) := by decide +kernel
theorem dX5_build_148 : decode cX5_build 148 = .ok (.iload 4, 2) := by decide +kernel
theorem dX5_build_150 : decode cX5_build 150 = .ok (.iload 6, 2) := by decide +kernel
theorem dX5_build_152 : decode cX5_build 152 = .ok (.invokevirtual 115, 3) := by decide +kernel
theorem dX5_build_155 : decode cX5_build 155 = .ok (.iinc 6 1, 3) := by decide +kernel
theorem dX5_build_158 : decode cX5_build 158 = .ok (.goto (-87), 3) := by decide +kernel
theorem dX5_build_161 : decode cX5_build 161 = .ok (.iinc 4 1, 3) := by decide +kernel
theorem dX5_build_164 : decode cX5_build 164 = .ok (.goto (-125), 3) := by decide +kernel
theorem dX5_build_167 : decode cX5_build 167 = .ok (.aload_n 0, 1) := by decide +kernel
theorem dX5_build_168 : decode cX5_build 168 = .ok (.invokevirtual 119, 3) := by decide +kernel
theorem dX5_build_171 : decode cX5_build 171 = .ok (.return_, 1) := by decide +kernel
def hX5_build_123 (f : Nat) (Φ : aj_M → Prop) (K39 : List Nat → List Nat → List Nat → Int → Int → aj_M → Prop) (K71 : List Nat → List Nat → List Nat → Int → Int → Int → Int → aj_M → Prop) (q0 : List Nat) (q1 : List Nat) (q2 : List Nat) (v3 : Int) (v4 : Int) (v5 : Int) (v6 : Int) (v7 : Int) (m : aj_M) : Prop := (0 ≤ v4 ∧ v4 < 12) ∧ (0 ≤ v4 ∧ v4 < 12) ∧ wX5_addLink f (fun m1 => K71 q0 q1 q2 v3 v4 v5 (v6 + 1) m1) q0 (((m (7 :: q1) v4.toNat) * v3) + v6) (((m (8 :: q1) v4.toNat) * v3) + v7) v4 v6 m
set_option maxHeartbeats 4000000 in
set_option maxRecDepth 100000 in
theorem tX5_build_123 {X : aj_T} {n f : Nat} {Φ : aj_M → Prop} (C : aj_Cx X cX5_build RX5 8 (n + 3)) (K : aj_Rt X none (fun r m => r = none ∧ Φ m)) {K39 : List Nat → List Nat → List Nat → Int → Int → aj_M → Prop} (HK39 : ∀ (q0 : List Nat) (q1 : List Nat) (q2 : List Nat) (v3 : Int) (v4 : Int) (m : aj_M) (hq0 : (.inl (5, q0) : aj_R) ∈ aj_pls) (hq1 : (.inl (6, q1) : aj_R) ∈ aj_pls) (hq2 : (.inl (9, q2) : aj_R) ∈ aj_pls), K39 q0 q1 q2 v3 v4 m → aj_J X 39 [some (vO 5 q0), some (vO 6 q1), some (vO 9 q2), some (vI v3), some (vI v4), none, none, none] [] m) {K71 : List Nat → List Nat → List Nat → Int → Int → Int → Int → aj_M → Prop} (HK71 : ∀ (q0 : List Nat) (q1 : List Nat) (q2 : List Nat) (v3 : Int) (v4 : Int) (v5 : Int) (v6 : Int) (m : aj_M) (hq0 : (.inl (5, q0) : aj_R) ∈ aj_pls) (hq1 : (.inl (6, q1) : aj_R) ∈ aj_pls) (hq2 : (.inl (9, q2) : aj_R) ∈ aj_pls), K71 q0 q1 q2 v3 v4 v5 v6 m → aj_J X 71 [some (vO 5 q0), some (vO 6 q1), some (vO 9 q2), some (vI v3), some (vI v4), some (vI v5), some (vI v6), none] [] m) (q0 : List Nat) (q1 : List Nat) (q2 : List Nat) (v3 : Int) (v4 : Int) (v5 : Int) (v6 : Int) (v7 : Int) (m : aj_M) (hq0 : (.inl (5, q0) : aj_R) ∈ aj_pls) (hq1 : (.inl (6, q1) : aj_R) ∈ aj_pls) (hq2 : (.inl (9, q2) : aj_R) ∈ aj_pls) (h : hX5_build_123 f Φ K39 K71 q0 q1 q2 v3 v4 v5 v6 v7 m) : aj_J X 123 [some (vO 5 q0), some (vO 6 q1), some (vO 9 q2), some (vI v3), some (vI v4), some (vI v5), some (vI v6), some (vI v7)] [] m := by
  unfold hX5_build_123 at h
  refine aj_aload_n C dX5_build_123 rfl ?_
  refine aj_aload_n C dX5_build_124 rfl ?_
  refine aj_getA (x := 0) (y := 12) C flX5_109 hq1 rfl dX5_build_125 ?_
  refine aj_iload C dX5_build_128 rfl ?_
  obtain ⟨r0, h⟩ := h
  refine aj_iald C (aj_ca (e := 0) (n := 12) (j := 7) hq1 (by decide) rfl) (by decide) r0 dX5_build_130 rfl ?_
  refine aj_iload_n C dX5_build_131 rfl ?_
  refine aj_imul C dX5_build_132 ?_
  refine aj_iload C dX5_build_133 rfl ?_
  refine aj_iadd C dX5_build_135 ?_
  refine aj_aload_n C dX5_build_136 rfl ?_
  refine aj_getA (x := 0) (y := 12) C flX5_112 hq1 rfl dX5_build_137 ?_
  refine aj_iload C dX5_build_140 rfl ?_
  obtain ⟨r0, h⟩ := h
  refine aj_iald C (aj_ca (e := 0) (n := 12) (j := 8) hq1 (by decide) rfl) (by decide) r0 dX5_build_142 rfl ?_
  refine aj_iload_n C dX5_build_143 rfl ?_
  refine aj_imul C dX5_build_144 ?_
  refine aj_iload C dX5_build_145 rfl ?_
  refine aj_iadd C dX5_build_147 ?_
  refine aj_iload C dX5_build_148 rfl ?_
  refine aj_iload C dX5_build_150 rfl ?_
  refine aj_callV (rest := []) C mvX5_115 (sX5_addLink hq0 h) hq0 (aj_np 4 (by decide +kernel) rfl) (Nat.le_of_ble_eq_true rfl) rfl dX5_build_152 (fun r m1 h => ?_)
  obtain ⟨rfl, h⟩ := h
  refine aj_iinc (lv' := [some (vO 5 q0), some (vO 6 q1), some (vO 9 q2), some (vI v3), some (vI v4), some (vI v5), some (vI (v6 + 1)), some (vI v7)]) C dX5_build_155 rfl (by decide) rfl ?_
  refine aj_goto (tgt := 71) C dX5_build_158 (by decide) ?_
  refine aj_wk (lv' := [some (vO 5 q0), some (vO 6 q1), some (vO 9 q2), some (vI v3), some (vI v4), some (vI v5), some (vI (v6 + 1)), none]) (⟨rfl, ⟨rfl, ⟨rfl, ⟨rfl, ⟨rfl, ⟨rfl, ⟨rfl, trivial⟩⟩⟩⟩⟩⟩⟩) ?_
  exact HK71 q0 q1 q2 v3 v4 v5 (v6 + 1) _ hq0 hq1 hq2 h
def hX5_build_71 (f : Nat) (Φ : aj_M → Prop) (K39 : List Nat → List Nat → List Nat → Int → Int → aj_M → Prop) : Nat → List Nat → List Nat → List Nat → Int → Int → Int → Int → aj_M → Prop
  | 0, _, _, _, _, _, _, _, _ => False
  | k + 1, q0, q1, q2, v3, v4, v5, v6, m => rI v6 ∧ rI v3 ∧ (v3 ≤ v6 → K39 q0 q1 q2 v3 (v4 + 1) m) ∧ (¬ (v3 ≤ v6) → (0 ≤ v4 ∧ v4 < 12) ∧ wX0_times f (fun z1 m1 => (0 ≤ v4 ∧ v4 < 12) ∧ rI (aj_and (aj_shr (m1 (11 :: q1) v4.toNat) v6) 1) ∧ (¬ (aj_and (aj_shr (m1 (11 :: q1) v4.toNat) v6) 1) = 1 → hX5_build_71 f Φ K39 k q0 q1 q2 v3 v4 v5 (v6 + 1) m1) ∧ ((aj_and (aj_shr (m1 (11 :: q1) v4.toNat) v6) 1) = 1 → rI v5 ∧ (v5 = 0 → hX5_build_123 f Φ K39 (fun q0 q1 q2 v3 v4 v5 v6 m => hX5_build_71 f Φ K39 k q0 q1 q2 v3 v4 v5 v6 m) q0 q1 q2 v3 v4 v5 v6 z1 m1) ∧ (¬ (v5 = 0) → rI v6 ∧ rI z1 ∧ (z1 ≤ v6 → hX5_build_71 f Φ K39 k q0 q1 q2 v3 v4 v5 (v6 + 1) m1) ∧ (¬ (z1 ≤ v6) → hX5_build_123 f Φ K39 (fun q0 q1 q2 v3 v4 v5 v6 m => hX5_build_71 f Φ K39 k q0 q1 q2 v3 v4 v5 v6 m) q0 q1 q2 v3 v4 v5 v6 z1 m1)))) (0 :: q1) v6 (m (0 :: q2) v4.toNat) m)
set_option maxHeartbeats 4000000 in
set_option maxRecDepth 100000 in
theorem tX5_build_71 {X : aj_T} {n f : Nat} {Φ : aj_M → Prop} (C : aj_Cx X cX5_build RX5 8 (n + 3)) (K : aj_Rt X none (fun r m => r = none ∧ Φ m)) {K39 : List Nat → List Nat → List Nat → Int → Int → aj_M → Prop} (HK39 : ∀ (q0 : List Nat) (q1 : List Nat) (q2 : List Nat) (v3 : Int) (v4 : Int) (m : aj_M) (hq0 : (.inl (5, q0) : aj_R) ∈ aj_pls) (hq1 : (.inl (6, q1) : aj_R) ∈ aj_pls) (hq2 : (.inl (9, q2) : aj_R) ∈ aj_pls), K39 q0 q1 q2 v3 v4 m → aj_J X 39 [some (vO 5 q0), some (vO 6 q1), some (vO 9 q2), some (vI v3), some (vI v4), none, none, none] [] m) : ∀ (k : Nat) (q0 : List Nat) (q1 : List Nat) (q2 : List Nat) (v3 : Int) (v4 : Int) (v5 : Int) (v6 : Int) (m : aj_M) (hq0 : (.inl (5, q0) : aj_R) ∈ aj_pls) (hq1 : (.inl (6, q1) : aj_R) ∈ aj_pls) (hq2 : (.inl (9, q2) : aj_R) ∈ aj_pls), hX5_build_71 f Φ K39 k q0 q1 q2 v3 v4 v5 v6 m → aj_J X 71 [some (vO 5 q0), some (vO 6 q1), some (vO 9 q2), some (vI v3), some (vI v4), some (vI v5), some (vI v6), none] [] m := by
  intro k
  induction k with
  | zero =>
    intro q0 q1 q2 v3 v4 v5 v6 m _ _ _ h
    exact h.elim
  | succ k ih =>
    intro q0 q1 q2 v3 v4 v5 v6 m hq0 hq1 hq2 h
    unfold hX5_build_71 at h
    refine aj_iload C dX5_build_71 rfl ?_
    refine aj_iload_n C dX5_build_73 rfl ?_
    obtain ⟨r0, r1, h1, h2⟩ := h
    refine aj_icmp_ge (tgt := 161) C dX5_build_74 (by decide) r0 r1 (fun e => ?_) (fun e => ?_)
    · have h := h1 e
      refine aj_iinc (lv' := [some (vO 5 q0), some (vO 6 q1), some (vO 9 q2), some (vI v3), some (vI (v4 + 1)), some (vI v5), some (vI v6), none]) C dX5_build_161 rfl (by decide) rfl ?_
      refine aj_goto (tgt := 39) C dX5_build_164 (by decide) ?_
      refine aj_wk (lv' := [some (vO 5 q0), some (vO 6 q1), some (vO 9 q2), some (vI v3), some (vI (v4 + 1)), none, none, none]) (⟨rfl, ⟨rfl, ⟨rfl, ⟨rfl, ⟨rfl, trivial⟩⟩⟩⟩⟩) ?_
      exact HK39 q0 q1 q2 v3 (v4 + 1) _ hq0 hq1 hq2 h
    · have h := h2 e
      refine aj_aload_n C dX5_build_77 rfl ?_
      refine aj_getO (x := 0) (y := 0) C flX5_66 hq1 rfl dX5_build_78 ?_
      refine aj_iload C dX5_build_81 rfl ?_
      refine aj_aload_n C dX5_build_83 rfl ?_
      refine aj_getA (x := 0) (y := 12) C flX5_99 hq2 rfl dX5_build_84 ?_
      refine aj_iload C dX5_build_87 rfl ?_
      obtain ⟨r0, h⟩ := h
      refine aj_iald C (aj_ca (e := 0) (n := 12) (j := 0) hq2 (by decide) rfl) (by decide) r0 dX5_build_89 rfl ?_
      refine aj_callV (rest := []) C mvX5_102 (sX0_times (aj_cf (x := 0) (y := 0) (j := 0) hq1 (by decide) rfl) h) (aj_cf (x := 0) (y := 0) (j := 0) hq1 (by decide) rfl) (aj_np 2 (by decide +kernel) rfl) (Nat.le_of_ble_eq_true rfl) rfl dX5_build_90 (fun r m1 h => ?_)
      obtain ⟨z1, rfl, h⟩ := h
      refine aj_istore (lv' := [some (vO 5 q0), some (vO 6 q1), some (vO 9 q2), some (vI v3), some (vI v4), some (vI v5), some (vI v6), some (vI z1)]) C dX5_build_93 (by decide) rfl ?_
      refine aj_aload_n C dX5_build_95 rfl ?_
      refine aj_getA (x := 0) (y := 12) C flX5_106 hq1 rfl dX5_build_96 ?_
      refine aj_iload C dX5_build_99 rfl ?_
      obtain ⟨r0, h⟩ := h
      refine aj_iald C (aj_ca (e := 0) (n := 12) (j := 11) hq1 (by decide) rfl) (by decide) r0 dX5_build_101 rfl ?_
      refine aj_iload C dX5_build_102 rfl ?_
      refine aj_ishr C dX5_build_104 ?_
      refine aj_iconst C dX5_build_105 ?_
      refine aj_iand C dX5_build_106 ?_
      refine aj_iconst C dX5_build_107 ?_
      obtain ⟨r0, h1, h2⟩ := h
      refine aj_icmp_ne (tgt := 155) C dX5_build_108 (by decide) r0 (by decide) (fun e => ?_) (fun e => ?_)
      · have h := h1 e
        refine aj_iinc (lv' := [some (vO 5 q0), some (vO 6 q1), some (vO 9 q2), some (vI v3), some (vI v4), some (vI v5), some (vI (v6 + 1)), some (vI z1)]) C dX5_build_155 rfl (by decide) rfl ?_
        refine aj_goto (tgt := 71) C dX5_build_158 (by decide) ?_
        refine aj_wk (lv' := [some (vO 5 q0), some (vO 6 q1), some (vO 9 q2), some (vI v3), some (vI v4), some (vI v5), some (vI (v6 + 1)), none]) (⟨rfl, ⟨rfl, ⟨rfl, ⟨rfl, ⟨rfl, ⟨rfl, ⟨rfl, trivial⟩⟩⟩⟩⟩⟩⟩) ?_
        exact ih q0 q1 q2 v3 v4 v5 (v6 + 1) _ hq0 hq1 hq2 h
      · have h := h2 e
        refine aj_iload C dX5_build_111 rfl ?_
        obtain ⟨r0, h1, h2⟩ := h
        refine aj_if_eq (tgt := 123) C dX5_build_113 (by decide) r0 (fun e => ?_) (fun e => ?_)
        · have h := h1 e
          exact tX5_build_123 C K HK39 (fun q0 q1 q2 v3 v4 v5 v6 m hq0 hq1 hq2 hh => ih q0 q1 q2 v3 v4 v5 v6 m hq0 hq1 hq2 hh) q0 q1 q2 v3 v4 v5 v6 z1 _ hq0 hq1 hq2 h
        · have h := h2 e
          refine aj_iload C dX5_build_116 rfl ?_
          refine aj_iload C dX5_build_118 rfl ?_
          obtain ⟨r0, r1, h1, h2⟩ := h
          refine aj_icmp_ge (tgt := 155) C dX5_build_120 (by decide) r0 r1 (fun e => ?_) (fun e => ?_)
          · have h := h1 e
            refine aj_iinc (lv' := [some (vO 5 q0), some (vO 6 q1), some (vO 9 q2), some (vI v3), some (vI v4), some (vI v5), some (vI (v6 + 1)), some (vI z1)]) C dX5_build_155 rfl (by decide) rfl ?_
            refine aj_goto (tgt := 71) C dX5_build_158 (by decide) ?_
            refine aj_wk (lv' := [some (vO 5 q0), some (vO 6 q1), some (vO 9 q2), some (vI v3), some (vI v4), some (vI v5), some (vI (v6 + 1)), none]) (⟨rfl, ⟨rfl, ⟨rfl, ⟨rfl, ⟨rfl, ⟨rfl, ⟨rfl, trivial⟩⟩⟩⟩⟩⟩⟩) ?_
            exact ih q0 q1 q2 v3 v4 v5 (v6 + 1) _ hq0 hq1 hq2 h
          · have h := h2 e
            exact tX5_build_123 C K HK39 (fun q0 q1 q2 v3 v4 v5 v6 m hq0 hq1 hq2 hh => ih q0 q1 q2 v3 v4 v5 v6 m hq0 hq1 hq2 hh) q0 q1 q2 v3 v4 v5 v6 z1 _ hq0 hq1 hq2 h
def hX5_build_39 (f : Nat) (Φ : aj_M → Prop) : Nat → List Nat → List Nat → List Nat → Int → Int → aj_M → Prop
  | 0, _, _, _, _, _, _ => False
  | k + 1, q0, q1, q2, v3, v4, m => rI v4 ∧ rI (m q1 4) ∧ ((m q1 4) ≤ v4 → wX5_sortEnds f (fun m1 => Φ m1) q0 m) ∧ (¬ ((m q1 4) ≤ v4) → wX9_isOut f (fun z2 m2 => rI z2 ∧ (z2 = 0 → wX6_isHalf f (fun z3 m3 => hX5_build_71 f Φ (fun q0 q1 q2 v3 v4 m => hX5_build_39 f Φ k q0 q1 q2 v3 v4 m) f q0 q1 q2 v3 v4 z3 0 m3) q1 v4 m2) ∧ (¬ (z2 = 0) → hX5_build_39 f Φ k q0 q1 q2 v3 (v4 + 1) m2)) q2 v4 m)
set_option maxHeartbeats 4000000 in
set_option maxRecDepth 100000 in
theorem tX5_build_39 {X : aj_T} {n f : Nat} {Φ : aj_M → Prop} (C : aj_Cx X cX5_build RX5 8 (n + 3)) (K : aj_Rt X none (fun r m => r = none ∧ Φ m)) : ∀ (k : Nat) (q0 : List Nat) (q1 : List Nat) (q2 : List Nat) (v3 : Int) (v4 : Int) (m : aj_M) (hq0 : (.inl (5, q0) : aj_R) ∈ aj_pls) (hq1 : (.inl (6, q1) : aj_R) ∈ aj_pls) (hq2 : (.inl (9, q2) : aj_R) ∈ aj_pls), hX5_build_39 f Φ k q0 q1 q2 v3 v4 m → aj_J X 39 [some (vO 5 q0), some (vO 6 q1), some (vO 9 q2), some (vI v3), some (vI v4), none, none, none] [] m := by
  intro k
  induction k with
  | zero =>
    intro q0 q1 q2 v3 v4 m _ _ _ h
    exact h.elim
  | succ k ih =>
    intro q0 q1 q2 v3 v4 m hq0 hq1 hq2 h
    unfold hX5_build_39 at h
    refine aj_iload C dX5_build_39 rfl ?_
    refine aj_aload_n C dX5_build_41 rfl ?_
    refine aj_getI C flX5_89 hq1 (by decide) dX5_build_42 rfl ?_
    obtain ⟨r0, r1, h1, h2⟩ := h
    refine aj_icmp_ge (tgt := 167) C dX5_build_45 (by decide) r0 r1 (fun e => ?_) (fun e => ?_)
    · have h := h1 e
      refine aj_aload_n C dX5_build_167 rfl ?_
      refine aj_callV (rest := []) C mvX5_119 (sX5_sortEnds hq0 h) hq0 (aj_np 0 (by decide +kernel) rfl) (Nat.le_of_ble_eq_true rfl) rfl dX5_build_168 (fun r m1 h => ?_)
      obtain ⟨rfl, h⟩ := h
      exact aj_vret C K dX5_build_171 ⟨rfl, h⟩
    · have h := h2 e
      refine aj_aload_n C dX5_build_48 rfl ?_
      refine aj_iload C dX5_build_49 rfl ?_
      refine aj_callV (rest := []) C mvX5_92 (sX9_isOut hq2 h) hq2 (aj_np 1 (by decide +kernel) rfl) (Nat.le_of_ble_eq_true rfl) rfl dX5_build_51 (fun r m2 h => ?_)
      obtain ⟨z2, rfl, h⟩ := h
      obtain ⟨r0, h1, h2⟩ := h
      refine aj_if_eq (tgt := 60) C dX5_build_54 (by decide) r0 (fun e => ?_) (fun e => ?_)
      · have h := h1 e
        refine aj_aload_n C dX5_build_60 rfl ?_
        refine aj_iload C dX5_build_61 rfl ?_
        refine aj_callV (rest := []) C mvX5_96 (sX6_isHalf hq1 h) hq1 (aj_np 1 (by decide +kernel) rfl) (Nat.le_of_ble_eq_true rfl) rfl dX5_build_63 (fun r m3 h => ?_)
        obtain ⟨z3, rfl, h⟩ := h
        refine aj_istore (lv' := [some (vO 5 q0), some (vO 6 q1), some (vO 9 q2), some (vI v3), some (vI v4), some (vI z3), none, none]) C dX5_build_66 (by decide) rfl ?_
        refine aj_iconst C dX5_build_68 ?_
        refine aj_istore (lv' := [some (vO 5 q0), some (vO 6 q1), some (vO 9 q2), some (vI v3), some (vI v4), some (vI z3), some (vI 0), none]) C dX5_build_69 (by decide) rfl ?_
        exact tX5_build_71 C K (fun q0 q1 q2 v3 v4 m hq0 hq1 hq2 hh => ih q0 q1 q2 v3 v4 m hq0 hq1 hq2 hh) f q0 q1 q2 v3 v4 z3 0 _ hq0 hq1 hq2 h
      · have h := h2 e
        refine aj_goto (tgt := 161) C dX5_build_57 (by decide) ?_
        refine aj_iinc (lv' := [some (vO 5 q0), some (vO 6 q1), some (vO 9 q2), some (vI v3), some (vI (v4 + 1)), none, none, none]) C dX5_build_161 rfl (by decide) rfl ?_
        refine aj_goto (tgt := 39) C dX5_build_164 (by decide) ?_
        exact ih q0 q1 q2 v3 (v4 + 1) _ hq0 hq1 hq2 h
def wX5_build (f : Nat) (Φ : aj_M → Prop) (q0 : List Nat) (q1 : List Nat) (q2 : List Nat) (m : aj_M) : Prop := ∀ m1, m1 = aj_u m q0 0 ((m q1 3) * (m (0 :: q1) 0)) → ∀ m2, m2 = aj_u m1 q0 1 0 → ∀ m3, m3 = aj_u m2 q0 7 0 → wX6_knowKept f (fun m4 => hX5_build_39 f Φ f q0 q1 q2 (m (0 :: q1) 0) 0 m4) q1 (m3 q2 2) m3
set_option maxHeartbeats 4000000 in
set_option maxRecDepth 100000 in
theorem sX5_build {n f : Nat} {Φ : aj_M → Prop} {q0 : List Nat} {q1 : List Nat} {q2 : List Nat} {m : aj_M} (hq0 : (.inl (5, q0) : aj_R) ∈ aj_pls) (hq1 : (.inl (6, q1) : aj_R) ∈ aj_pls) (hq2 : (.inl (9, q2) : aj_R) ∈ aj_pls) (h : wX5_build f Φ q0 q1 q2 m) : aj_Ct (n + 3) yX5_build cX5_build 8 none [vO 5 q0, vO 6 q1, vO 9 q2] m (fun r m => r = none ∧ Φ m) := by
  refine aj_met (lv := [some (vO 5 q0), some (vO 6 q1), some (vO 9 q2), none, none, none, none, none]) (by decide +kernel) rfl (Nat.le_of_ble_eq_true rfl) (fun X C K => ?_)
  unfold wX5_build at h
  refine aj_aload_n C dX5_build_0 rfl ?_
  refine aj_getO (x := 0) (y := 0) C flX5_66 hq1 rfl dX5_build_1 ?_
  refine aj_getI C flX5_72 (aj_cf (x := 0) (y := 0) (j := 0) hq1 (by decide) rfl) (by decide) dX5_build_4 rfl ?_
  refine aj_istore_n (lv' := [some (vO 5 q0), some (vO 6 q1), some (vO 9 q2), some (vI (m (0 :: q1) 0)), none, none, none, none]) C dX5_build_7 (by decide) rfl ?_
  refine aj_aload_n C dX5_build_8 rfl ?_
  refine aj_aload_n C dX5_build_9 rfl ?_
  refine aj_getI C flX5_77 hq1 (by decide) dX5_build_10 rfl ?_
  refine aj_iload_n C dX5_build_13 rfl ?_
  refine aj_imul C dX5_build_14 ?_
  refine aj_putI C fpX5_9 hq0 rfl dX5_build_15 ?_
  refine aj_nm (fun m1 e1 => ?_)
  have h := h m1 e1
  refine aj_aload_n C dX5_build_18 rfl ?_
  refine aj_iconst C dX5_build_19 ?_
  refine aj_putI C fpX5_15 hq0 rfl dX5_build_20 ?_
  refine aj_nm (fun m2 e1 => ?_)
  have h := h m2 e1
  refine aj_aload_n C dX5_build_23 rfl ?_
  refine aj_iconst C dX5_build_24 ?_
  refine aj_putZ C fpX5_34 hq0 (Or.inl rfl) rfl dX5_build_25 ?_
  refine aj_nm (fun m3 e1 => ?_)
  have h := h m3 e1
  refine aj_aload_n C dX5_build_28 rfl ?_
  refine aj_aload_n C dX5_build_29 rfl ?_
  refine aj_getI C flX5_80 hq2 (by decide) dX5_build_30 rfl ?_
  refine aj_callV (rest := []) C mvX5_85 (sX6_knowKept hq1 h) hq1 (aj_np 1 (by decide +kernel) rfl) (Nat.le_of_ble_eq_true rfl) rfl dX5_build_33 (fun r m4 h => ?_)
  obtain ⟨rfl, h⟩ := h
  refine aj_iconst C dX5_build_36 ?_
  refine aj_istore (lv' := [some (vO 5 q0), some (vO 6 q1), some (vO 9 q2), some (vI (m (0 :: q1) 0)), some (vI 0), none, none, none]) C dX5_build_37 (by decide) rfl ?_
  exact tX5_build_39 C K f q0 q1 q2 (m (0 :: q1) 0) 0 _ hq0 hq1 hq2 h
theorem dX5_otherEnd_0 : decode cX5_otherEnd 0 = .ok (.aload_n 0, 1) := by decide +kernel
theorem dX5_otherEnd_1 : decode cX5_otherEnd 1 = .ok (.getfield 18, 3) := by decide +kernel
theorem dX5_otherEnd_4 : decode cX5_otherEnd 4 = .ok (.iload_n 1, 1) := by decide +kernel
theorem dX5_otherEnd_5 : decode cX5_otherEnd 5 = .ok (.iaload, 1) := by decide +kernel
theorem dX5_otherEnd_6 : decode cX5_otherEnd 6 = .ok (.iload_n 2, 1) := by decide +kernel
theorem dX5_otherEnd_7 : decode cX5_otherEnd 7 = .ok (.if_icmp .ne 12, 3) := by decide +kernel
theorem dX5_otherEnd_10 : decode cX5_otherEnd 10 = .ok (.aload_n 0, 1) := by decide +kernel
theorem dX5_otherEnd_11 : decode cX5_otherEnd 11 = .ok (.getfield 22, 3) := by decide +kernel
theorem dX5_otherEnd_14 : decode cX5_otherEnd 14 = .ok (.iload_n 1, 1) := by decide +kernel
theorem dX5_otherEnd_15 : decode cX5_otherEnd 15 = .ok (.iaload, 1) := by decide +kernel
theorem dX5_otherEnd_16 : decode cX5_otherEnd 16 = .ok (.goto 9, 3) := by decide +kernel
theorem dX5_otherEnd_19 : decode cX5_otherEnd 19 = .ok (.aload_n 0, 1) := by decide +kernel
theorem dX5_otherEnd_20 : decode cX5_otherEnd 20 = .ok (.getfield 18, 3) := by decide +kernel
theorem dX5_otherEnd_23 : decode cX5_otherEnd 23 = .ok (.iload_n 1, 1) := by decide +kernel
theorem dX5_otherEnd_24 : decode cX5_otherEnd 24 = .ok (.iaload, 1) := by decide +kernel
theorem dX5_otherEnd_25 : decode cX5_otherEnd 25 = .ok (.ireturn, 1) := by decide +kernel
def wX5_otherEnd (f : Nat) (Φ : Int → aj_M → Prop) (q0 : List Nat) (v1 : Int) (v2 : Int) (m : aj_M) : Prop := (0 ≤ v1 ∧ v1 < 144) ∧ rI (m (2 :: q0) v1.toNat) ∧ rI v2 ∧ (¬ (m (2 :: q0) v1.toNat) = v2 → (0 ≤ v1 ∧ v1 < 144) ∧ Φ (m (2 :: q0) v1.toNat) m) ∧ ((m (2 :: q0) v1.toNat) = v2 → (0 ≤ v1 ∧ v1 < 144) ∧ Φ (m (3 :: q0) v1.toNat) m)
set_option maxHeartbeats 4000000 in
set_option maxRecDepth 100000 in
theorem sX5_otherEnd {n f : Nat} {Φ : Int → aj_M → Prop} {q0 : List Nat} {v1 : Int} {v2 : Int} {m : aj_M} (hq0 : (.inl (5, q0) : aj_R) ∈ aj_pls) (h : wX5_otherEnd f Φ q0 v1 v2 m) : aj_Ct n yX5_otherEnd cX5_otherEnd 3 (some .int) [vO 5 q0, vI v1, vI v2] m (fun r m => ∃ z, r = some (vI z) ∧ Φ z m) := by
  refine aj_met (lv := [some (vO 5 q0), some (vI v1), some (vI v2)]) (by decide +kernel) rfl (Nat.le_of_ble_eq_true rfl) (fun X C K => ?_)
  unfold wX5_otherEnd at h
  refine aj_aload_n C dX5_otherEnd_0 rfl ?_
  refine aj_getA (x := 0) (y := 144) C flX5_18 hq0 rfl dX5_otherEnd_1 ?_
  refine aj_iload_n C dX5_otherEnd_4 rfl ?_
  obtain ⟨r0, h⟩ := h
  refine aj_iald C (aj_ca (e := 0) (n := 144) (j := 2) hq0 (by decide) rfl) (by decide) r0 dX5_otherEnd_5 rfl ?_
  refine aj_iload_n C dX5_otherEnd_6 rfl ?_
  obtain ⟨r0, r1, h1, h2⟩ := h
  refine aj_icmp_ne (tgt := 19) C dX5_otherEnd_7 (by decide) r0 r1 (fun e => ?_) (fun e => ?_)
  · have h := h1 e
    refine aj_aload_n C dX5_otherEnd_19 rfl ?_
    refine aj_getA (x := 0) (y := 144) C flX5_18 hq0 rfl dX5_otherEnd_20 ?_
    refine aj_iload_n C dX5_otherEnd_23 rfl ?_
    obtain ⟨r0, h⟩ := h
    refine aj_iald C (aj_ca (e := 0) (n := 144) (j := 2) hq0 (by decide) rfl) (by decide) r0 dX5_otherEnd_24 rfl ?_
    exact aj_iret C K dX5_otherEnd_25 ⟨_, rfl, h⟩
  · have h := h2 e
    refine aj_aload_n C dX5_otherEnd_10 rfl ?_
    refine aj_getA (x := 0) (y := 144) C flX5_22 hq0 rfl dX5_otherEnd_11 ?_
    refine aj_iload_n C dX5_otherEnd_14 rfl ?_
    obtain ⟨r0, h⟩ := h
    refine aj_iald C (aj_ca (e := 0) (n := 144) (j := 3) hq0 (by decide) rfl) (by decide) r0 dX5_otherEnd_15 rfl ?_
    refine aj_goto (tgt := 25) C dX5_otherEnd_16 (by decide) ?_
    exact aj_iret C K dX5_otherEnd_25 ⟨_, rfl, h⟩
theorem dX5_endsAt_0 : decode cX5_endsAt 0 = .ok (.aload_n 0, 1) := by decide +kernel
theorem dX5_endsAt_1 : decode cX5_endsAt 1 = .ok (.getfield 38, 3) := by decide +kernel
theorem dX5_endsAt_4 : decode cX5_endsAt 4 = .ok (.iload_n 1, 1) := by decide +kernel
theorem dX5_endsAt_5 : decode cX5_endsAt 5 = .ok (.iconst 1, 1) := by decide +kernel
theorem dX5_endsAt_6 : decode cX5_endsAt 6 = .ok (.iadd, 1) := by decide +kernel
theorem dX5_endsAt_7 : decode cX5_endsAt 7 = .ok (.iaload, 1) := by decide +kernel
theorem dX5_endsAt_8 : decode cX5_endsAt 8 = .ok (.aload_n 0, 1) := by decide +kernel
theorem dX5_endsAt_9 : decode cX5_endsAt 9 = .ok (.getfield 38, 3) := by decide +kernel
theorem dX5_endsAt_12 : decode cX5_endsAt 12 = .ok (.iload_n 1, 1) := by decide +kernel
theorem dX5_endsAt_13 : decode cX5_endsAt 13 = .ok (.iaload, 1) := by decide +kernel
theorem dX5_endsAt_14 : decode cX5_endsAt 14 = .ok (.isub, 1) := by decide +kernel
theorem dX5_endsAt_15 : decode cX5_endsAt 15 = .ok (.ireturn, 1) := by decide +kernel
def wX5_endsAt (f : Nat) (Φ : Int → aj_M → Prop) (q0 : List Nat) (v1 : Int) (m : aj_M) : Prop := (0 ≤ (v1 + 1) ∧ (v1 + 1) < 62) ∧ (0 ≤ v1 ∧ v1 < 62) ∧ Φ ((m (8 :: q0) (v1 + 1).toNat) - (m (8 :: q0) v1.toNat)) m
set_option maxHeartbeats 4000000 in
set_option maxRecDepth 100000 in
theorem sX5_endsAt {n f : Nat} {Φ : Int → aj_M → Prop} {q0 : List Nat} {v1 : Int} {m : aj_M} (hq0 : (.inl (5, q0) : aj_R) ∈ aj_pls) (h : wX5_endsAt f Φ q0 v1 m) : aj_Ct n yX5_endsAt cX5_endsAt 2 (some .int) [vO 5 q0, vI v1] m (fun r m => ∃ z, r = some (vI z) ∧ Φ z m) := by
  refine aj_met (lv := [some (vO 5 q0), some (vI v1)]) (by decide +kernel) rfl (Nat.le_of_ble_eq_true rfl) (fun X C K => ?_)
  unfold wX5_endsAt at h
  refine aj_aload_n C dX5_endsAt_0 rfl ?_
  refine aj_getA (x := 0) (y := 62) C flX5_38 hq0 rfl dX5_endsAt_1 ?_
  refine aj_iload_n C dX5_endsAt_4 rfl ?_
  refine aj_iconst C dX5_endsAt_5 ?_
  refine aj_iadd C dX5_endsAt_6 ?_
  obtain ⟨r0, h⟩ := h
  refine aj_iald C (aj_ca (e := 0) (n := 62) (j := 8) hq0 (by decide) rfl) (by decide) r0 dX5_endsAt_7 rfl ?_
  refine aj_aload_n C dX5_endsAt_8 rfl ?_
  refine aj_getA (x := 0) (y := 62) C flX5_38 hq0 rfl dX5_endsAt_9 ?_
  refine aj_iload_n C dX5_endsAt_12 rfl ?_
  obtain ⟨r0, h⟩ := h
  refine aj_iald C (aj_ca (e := 0) (n := 62) (j := 8) hq0 (by decide) rfl) (by decide) r0 dX5_endsAt_13 rfl ?_
  refine aj_isub C dX5_endsAt_14 ?_
  exact aj_iret C K dX5_endsAt_15 ⟨_, rfl, h⟩
theorem dX5_linksBetween_0 : decode cX5_linksBetween 0 = .ok (.iconst 0, 1) := by decide +kernel
theorem dX5_linksBetween_1 : decode cX5_linksBetween 1 = .ok (.istore_n 3, 1) := by decide +kernel
theorem dX5_linksBetween_2 : decode cX5_linksBetween 2 = .ok (.iconst 0, 1) := by decide +kernel
theorem dX5_linksBetween_3 : decode cX5_linksBetween 3 = .ok (.istore 4, 2) := by decide +kernel
theorem dX5_linksBetween_5 : decode cX5_linksBetween 5 = .ok (.iload 4, 2) := by decide +kernel
theorem dX5_linksBetween_7 : decode cX5_linksBetween 7 = .ok (.aload_n 0, 1) := by decide +kernel
theorem dX5_linksBetween_8 : decode cX5_linksBetween 8 = .ok (.getfield 15, 3) := by decide +kernel
theorem dX5_linksBetween_11 : decode cX5_linksBetween 11 = .ok (.if_icmp .ge 56, 3) := by decide +kernel
theorem dX5_linksBetween_14 : decode cX5_linksBetween 14 = .ok (.aload_n 0, 1) := by decide +kernel
theorem dX5_linksBetween_15 : decode cX5_linksBetween 15 = .ok (.getfield 18, 3) := by decide +kernel
theorem dX5_linksBetween_18 : decode cX5_linksBetween 18 = .ok (.iload 4, 2) := by decide +kernel
theorem dX5_linksBetween_20 : decode cX5_linksBetween 20 = .ok (.iaload, 1) := by decide +kernel
theorem dX5_linksBetween_21 : decode cX5_linksBetween 21 = .ok (.iload_n 1, 1) := by decide +kernel
theorem dX5_linksBetween_22 : decode cX5_linksBetween 22 = .ok (.if_icmp .ne 14, 3) := by decide +kernel
theorem dX5_linksBetween_25 : decode cX5_linksBetween 25 = .ok (.aload_n 0, 1) := by decide +kernel
theorem dX5_linksBetween_26 : decode cX5_linksBetween 26 = .ok (.getfield 22, 3) := by decide +kernel
theorem dX5_linksBetween_29 : decode cX5_linksBetween 29 = .ok (.iload 4, 2) := by decide +kernel
theorem dX5_linksBetween_31 : decode cX5_linksBetween 31 = .ok (.iaload, 1) := by decide +kernel
theorem dX5_linksBetween_32 : decode cX5_linksBetween 32 = .ok (.iload_n 2, 1) := by decide +kernel
theorem dX5_linksBetween_33 : decode cX5_linksBetween 33 = .ok (.if_icmp .eq 25, 3) := by decide +kernel
theorem dX5_linksBetween_36 : decode cX5_linksBetween 36 = .ok (.aload_n 0, 1) := by decide +kernel
theorem dX5_linksBetween_37 : decode cX5_linksBetween 37 = .ok (.getfield 18, 3) := by decide +kernel
theorem dX5_linksBetween_40 : decode cX5_linksBetween 40 = .ok (.iload 4, 2) := by decide +kernel
theorem dX5_linksBetween_42 : decode cX5_linksBetween 42 = .ok (.iaload, 1) := by decide +kernel
theorem dX5_linksBetween_43 : decode cX5_linksBetween 43 = .ok (.iload_n 2, 1) := by decide +kernel
theorem dX5_linksBetween_44 : decode cX5_linksBetween 44 = .ok (.if_icmp .ne 17, 3) := by decide +kernel
theorem dX5_linksBetween_47 : decode cX5_linksBetween 47 = .ok (.aload_n 0, 1) := by decide +kernel
theorem dX5_linksBetween_48 : decode cX5_linksBetween 48 = .ok (.getfield 22, 3) := by decide +kernel
theorem dX5_linksBetween_51 : decode cX5_linksBetween 51 = .ok (.iload 4, 2) := by decide +kernel
theorem dX5_linksBetween_53 : decode cX5_linksBetween 53 = .ok (.iaload, 1) := by decide +kernel
theorem dX5_linksBetween_54 : decode cX5_linksBetween 54 = .ok (.iload_n 1, 1) := by decide +kernel
theorem dX5_linksBetween_55 : decode cX5_linksBetween 55 = .ok (.if_icmp .ne 6, 3) := by decide +kernel
theorem dX5_linksBetween_58 : decode cX5_linksBetween 58 = .ok (.iinc 3 1, 3) := by decide +kernel
theorem dX5_linksBetween_61 : decode cX5_linksBetween 61 = .ok (.iinc 4 1, 3) := by decide +kernel
theorem dX5_linksBetween_64 : decode cX5_linksBetween 64 = .ok (.goto (-59), 3) := by decide +kernel
theorem dX5_linksBetween_67 : decode cX5_linksBetween 67 = .ok (.iload_n 3, 1) := by decide +kernel
theorem dX5_linksBetween_68 : decode cX5_linksBetween 68 = .ok (.ireturn, 1) := by decide +kernel
def hX5_linksBetween_36 (f : Nat) (Φ : Int → aj_M → Prop) (K5 : List Nat → Int → Int → Int → Int → aj_M → Prop) (q0 : List Nat) (v1 : Int) (v2 : Int) (v3 : Int) (v4 : Int) (m : aj_M) : Prop := (0 ≤ v4 ∧ v4 < 144) ∧ rI (m (2 :: q0) v4.toNat) ∧ rI v2 ∧ (¬ (m (2 :: q0) v4.toNat) = v2 → K5 q0 v1 v2 v3 (v4 + 1) m) ∧ ((m (2 :: q0) v4.toNat) = v2 → (0 ≤ v4 ∧ v4 < 144) ∧ rI (m (3 :: q0) v4.toNat) ∧ rI v1 ∧ (¬ (m (3 :: q0) v4.toNat) = v1 → K5 q0 v1 v2 v3 (v4 + 1) m) ∧ ((m (3 :: q0) v4.toNat) = v1 → K5 q0 v1 v2 (v3 + 1) (v4 + 1) m))
set_option maxHeartbeats 4000000 in
set_option maxRecDepth 100000 in
theorem tX5_linksBetween_36 {X : aj_T} {n f : Nat} {Φ : Int → aj_M → Prop} (C : aj_Cx X cX5_linksBetween RX5 5 n) (K : aj_Rt X (some .int) (fun r m => ∃ z, r = some (vI z) ∧ Φ z m)) {K5 : List Nat → Int → Int → Int → Int → aj_M → Prop} (HK5 : ∀ (q0 : List Nat) (v1 : Int) (v2 : Int) (v3 : Int) (v4 : Int) (m : aj_M) (hq0 : (.inl (5, q0) : aj_R) ∈ aj_pls), K5 q0 v1 v2 v3 v4 m → aj_J X 5 [some (vO 5 q0), some (vI v1), some (vI v2), some (vI v3), some (vI v4)] [] m) (q0 : List Nat) (v1 : Int) (v2 : Int) (v3 : Int) (v4 : Int) (m : aj_M) (hq0 : (.inl (5, q0) : aj_R) ∈ aj_pls) (h : hX5_linksBetween_36 f Φ K5 q0 v1 v2 v3 v4 m) : aj_J X 36 [some (vO 5 q0), some (vI v1), some (vI v2), some (vI v3), some (vI v4)] [] m := by
  unfold hX5_linksBetween_36 at h
  refine aj_aload_n C dX5_linksBetween_36 rfl ?_
  refine aj_getA (x := 0) (y := 144) C flX5_18 hq0 rfl dX5_linksBetween_37 ?_
  refine aj_iload C dX5_linksBetween_40 rfl ?_
  obtain ⟨r0, h⟩ := h
  refine aj_iald C (aj_ca (e := 0) (n := 144) (j := 2) hq0 (by decide) rfl) (by decide) r0 dX5_linksBetween_42 rfl ?_
  refine aj_iload_n C dX5_linksBetween_43 rfl ?_
  obtain ⟨r0, r1, h1, h2⟩ := h
  refine aj_icmp_ne (tgt := 61) C dX5_linksBetween_44 (by decide) r0 r1 (fun e => ?_) (fun e => ?_)
  · have h := h1 e
    refine aj_iinc (lv' := [some (vO 5 q0), some (vI v1), some (vI v2), some (vI v3), some (vI (v4 + 1))]) C dX5_linksBetween_61 rfl (by decide) rfl ?_
    refine aj_goto (tgt := 5) C dX5_linksBetween_64 (by decide) ?_
    exact HK5 q0 v1 v2 v3 (v4 + 1) _ hq0 h
  · have h := h2 e
    refine aj_aload_n C dX5_linksBetween_47 rfl ?_
    refine aj_getA (x := 0) (y := 144) C flX5_22 hq0 rfl dX5_linksBetween_48 ?_
    refine aj_iload C dX5_linksBetween_51 rfl ?_
    obtain ⟨r0, h⟩ := h
    refine aj_iald C (aj_ca (e := 0) (n := 144) (j := 3) hq0 (by decide) rfl) (by decide) r0 dX5_linksBetween_53 rfl ?_
    refine aj_iload_n C dX5_linksBetween_54 rfl ?_
    obtain ⟨r0, r1, h1, h2⟩ := h
    refine aj_icmp_ne (tgt := 61) C dX5_linksBetween_55 (by decide) r0 r1 (fun e => ?_) (fun e => ?_)
    · have h := h1 e
      refine aj_iinc (lv' := [some (vO 5 q0), some (vI v1), some (vI v2), some (vI v3), some (vI (v4 + 1))]) C dX5_linksBetween_61 rfl (by decide) rfl ?_
      refine aj_goto (tgt := 5) C dX5_linksBetween_64 (by decide) ?_
      exact HK5 q0 v1 v2 v3 (v4 + 1) _ hq0 h
    · have h := h2 e
      refine aj_iinc (lv' := [some (vO 5 q0), some (vI v1), some (vI v2), some (vI (v3 + 1)), some (vI v4)]) C dX5_linksBetween_58 rfl (by decide) rfl ?_
      refine aj_iinc (lv' := [some (vO 5 q0), some (vI v1), some (vI v2), some (vI (v3 + 1)), some (vI (v4 + 1))]) C dX5_linksBetween_61 rfl (by decide) rfl ?_
      refine aj_goto (tgt := 5) C dX5_linksBetween_64 (by decide) ?_
      exact HK5 q0 v1 v2 (v3 + 1) (v4 + 1) _ hq0 h
def hX5_linksBetween_5 (f : Nat) (Φ : Int → aj_M → Prop) : Nat → List Nat → Int → Int → Int → Int → aj_M → Prop
  | 0, _, _, _, _, _, _ => False
  | k + 1, q0, v1, v2, v3, v4, m => rI v4 ∧ rI (m q0 1) ∧ ((m q0 1) ≤ v4 → Φ v3 m) ∧ (¬ ((m q0 1) ≤ v4) → (0 ≤ v4 ∧ v4 < 144) ∧ rI (m (2 :: q0) v4.toNat) ∧ rI v1 ∧ (¬ (m (2 :: q0) v4.toNat) = v1 → hX5_linksBetween_36 f Φ (fun q0 v1 v2 v3 v4 m => hX5_linksBetween_5 f Φ k q0 v1 v2 v3 v4 m) q0 v1 v2 v3 v4 m) ∧ ((m (2 :: q0) v4.toNat) = v1 → (0 ≤ v4 ∧ v4 < 144) ∧ rI (m (3 :: q0) v4.toNat) ∧ rI v2 ∧ ((m (3 :: q0) v4.toNat) = v2 → hX5_linksBetween_5 f Φ k q0 v1 v2 (v3 + 1) (v4 + 1) m) ∧ (¬ ((m (3 :: q0) v4.toNat) = v2) → hX5_linksBetween_36 f Φ (fun q0 v1 v2 v3 v4 m => hX5_linksBetween_5 f Φ k q0 v1 v2 v3 v4 m) q0 v1 v2 v3 v4 m)))
set_option maxHeartbeats 4000000 in
set_option maxRecDepth 100000 in
theorem tX5_linksBetween_5 {X : aj_T} {n f : Nat} {Φ : Int → aj_M → Prop} (C : aj_Cx X cX5_linksBetween RX5 5 n) (K : aj_Rt X (some .int) (fun r m => ∃ z, r = some (vI z) ∧ Φ z m)) : ∀ (k : Nat) (q0 : List Nat) (v1 : Int) (v2 : Int) (v3 : Int) (v4 : Int) (m : aj_M) (hq0 : (.inl (5, q0) : aj_R) ∈ aj_pls), hX5_linksBetween_5 f Φ k q0 v1 v2 v3 v4 m → aj_J X 5 [some (vO 5 q0), some (vI v1), some (vI v2), some (vI v3), some (vI v4)] [] m := by
  intro k
  induction k with
  | zero =>
    intro q0 v1 v2 v3 v4 m _ h
    exact h.elim
  | succ k ih =>
    intro q0 v1 v2 v3 v4 m hq0 h
    unfold hX5_linksBetween_5 at h
    refine aj_iload C dX5_linksBetween_5 rfl ?_
    refine aj_aload_n C dX5_linksBetween_7 rfl ?_
    refine aj_getI C flX5_15 hq0 (by decide) dX5_linksBetween_8 rfl ?_
    obtain ⟨r0, r1, h1, h2⟩ := h
    refine aj_icmp_ge (tgt := 67) C dX5_linksBetween_11 (by decide) r0 r1 (fun e => ?_) (fun e => ?_)
    · have h := h1 e
      refine aj_iload_n C dX5_linksBetween_67 rfl ?_
      exact aj_iret C K dX5_linksBetween_68 ⟨_, rfl, h⟩
    · have h := h2 e
      refine aj_aload_n C dX5_linksBetween_14 rfl ?_
      refine aj_getA (x := 0) (y := 144) C flX5_18 hq0 rfl dX5_linksBetween_15 ?_
      refine aj_iload C dX5_linksBetween_18 rfl ?_
      obtain ⟨r0, h⟩ := h
      refine aj_iald C (aj_ca (e := 0) (n := 144) (j := 2) hq0 (by decide) rfl) (by decide) r0 dX5_linksBetween_20 rfl ?_
      refine aj_iload_n C dX5_linksBetween_21 rfl ?_
      obtain ⟨r0, r1, h1, h2⟩ := h
      refine aj_icmp_ne (tgt := 36) C dX5_linksBetween_22 (by decide) r0 r1 (fun e => ?_) (fun e => ?_)
      · have h := h1 e
        exact tX5_linksBetween_36 C K (fun q0 v1 v2 v3 v4 m hq0 hh => ih q0 v1 v2 v3 v4 m hq0 hh) q0 v1 v2 v3 v4 _ hq0 h
      · have h := h2 e
        refine aj_aload_n C dX5_linksBetween_25 rfl ?_
        refine aj_getA (x := 0) (y := 144) C flX5_22 hq0 rfl dX5_linksBetween_26 ?_
        refine aj_iload C dX5_linksBetween_29 rfl ?_
        obtain ⟨r0, h⟩ := h
        refine aj_iald C (aj_ca (e := 0) (n := 144) (j := 3) hq0 (by decide) rfl) (by decide) r0 dX5_linksBetween_31 rfl ?_
        refine aj_iload_n C dX5_linksBetween_32 rfl ?_
        obtain ⟨r0, r1, h1, h2⟩ := h
        refine aj_icmp_eq (tgt := 58) C dX5_linksBetween_33 (by decide) r0 r1 (fun e => ?_) (fun e => ?_)
        · have h := h1 e
          refine aj_iinc (lv' := [some (vO 5 q0), some (vI v1), some (vI v2), some (vI (v3 + 1)), some (vI v4)]) C dX5_linksBetween_58 rfl (by decide) rfl ?_
          refine aj_iinc (lv' := [some (vO 5 q0), some (vI v1), some (vI v2), some (vI (v3 + 1)), some (vI (v4 + 1))]) C dX5_linksBetween_61 rfl (by decide) rfl ?_
          refine aj_goto (tgt := 5) C dX5_linksBetween_64 (by decide) ?_
          exact ih q0 v1 v2 (v3 + 1) (v4 + 1) _ hq0 h
        · have h := h2 e
          exact tX5_linksBetween_36 C K (fun q0 v1 v2 v3 v4 m hq0 hh => ih q0 v1 v2 v3 v4 m hq0 hh) q0 v1 v2 v3 v4 _ hq0 h
def wX5_linksBetween (f : Nat) (Φ : Int → aj_M → Prop) (q0 : List Nat) (v1 : Int) (v2 : Int) (m : aj_M) : Prop := hX5_linksBetween_5 f Φ f q0 v1 v2 0 0 m
set_option maxHeartbeats 4000000 in
set_option maxRecDepth 100000 in
theorem sX5_linksBetween {n f : Nat} {Φ : Int → aj_M → Prop} {q0 : List Nat} {v1 : Int} {v2 : Int} {m : aj_M} (hq0 : (.inl (5, q0) : aj_R) ∈ aj_pls) (h : wX5_linksBetween f Φ q0 v1 v2 m) : aj_Ct n yX5_linksBetween cX5_linksBetween 5 (some .int) [vO 5 q0, vI v1, vI v2] m (fun r m => ∃ z, r = some (vI z) ∧ Φ z m) := by
  refine aj_met (lv := [some (vO 5 q0), some (vI v1), some (vI v2), none, none]) (by decide +kernel) rfl (Nat.le_of_ble_eq_true rfl) (fun X C K => ?_)
  unfold wX5_linksBetween at h
  refine aj_iconst C dX5_linksBetween_0 ?_
  refine aj_istore_n (lv' := [some (vO 5 q0), some (vI v1), some (vI v2), some (vI 0), none]) C dX5_linksBetween_1 (by decide) rfl ?_
  refine aj_iconst C dX5_linksBetween_2 ?_
  refine aj_istore (lv' := [some (vO 5 q0), some (vI v1), some (vI v2), some (vI 0), some (vI 0)]) C dX5_linksBetween_3 (by decide) rfl ?_
  exact tX5_linksBetween_5 C K f q0 v1 v2 0 0 _ hq0 h
theorem dX5_neighbourAt_0 : decode cX5_neighbourAt 0 = .ok (.aload_n 0, 1) := by decide +kernel
theorem dX5_neighbourAt_1 : decode cX5_neighbourAt 1 = .ok (.lconst 0, 1) := by decide +kernel
theorem dX5_neighbourAt_2 : decode cX5_neighbourAt 2 = .ok (.putfield 59, 3) := by decide +kernel
theorem dX5_neighbourAt_5 : decode cX5_neighbourAt 5 = .ok (.aload_n 0, 1) := by decide +kernel
theorem dX5_neighbourAt_6 : decode cX5_neighbourAt 6 = .ok (.getfield 38, 3) := by decide +kernel
theorem dX5_neighbourAt_9 : decode cX5_neighbourAt 9 = .ok (.iload_n 1, 1) := by decide +kernel
theorem dX5_neighbourAt_10 : decode cX5_neighbourAt 10 = .ok (.iaload, 1) := by decide +kernel
theorem dX5_neighbourAt_11 : decode cX5_neighbourAt 11 = .ok (.istore_n 3, 1) := by decide +kernel
theorem dX5_neighbourAt_12 : decode cX5_neighbourAt 12 = .ok (.iload_n 3, 1) := by decide +kernel
theorem dX5_neighbourAt_13 : decode cX5_neighbourAt 13 = .ok (.aload_n 0, 1) := by decide +kernel
theorem dX5_neighbourAt_14 : decode cX5_neighbourAt 14 = .ok (.getfield 38, 3) := by decide +kernel
theorem dX5_neighbourAt_17 : decode cX5_neighbourAt 17 = .ok (.iload_n 1, 1) := by decide +kernel
theorem dX5_neighbourAt_18 : decode cX5_neighbourAt 18 = .ok (.iconst 1, 1) := by decide +kernel
theorem dX5_neighbourAt_19 : decode cX5_neighbourAt 19 = .ok (.iadd, 1) := by decide +kernel
theorem dX5_neighbourAt_20 : decode cX5_neighbourAt 20 = .ok (.iaload, 1) := by decide +kernel
theorem dX5_neighbourAt_21 : decode cX5_neighbourAt 21 = .ok (.if_icmp .ge 31, 3) := by decide +kernel
theorem dX5_neighbourAt_24 : decode cX5_neighbourAt 24 = .ok (.aload_n 0, 1) := by decide +kernel
theorem dX5_neighbourAt_25 : decode cX5_neighbourAt 25 = .ok (.dup, 1) := by decide +kernel
theorem dX5_neighbourAt_26 : decode cX5_neighbourAt 26 = .ok (.getfield 59, 3) := by decide +kernel
theorem dX5_neighbourAt_29 : decode cX5_neighbourAt 29 = .ok (.lconst 1, 1) := by decide +kernel
theorem dX5_neighbourAt_30 : decode cX5_neighbourAt 30 = .ok (.aload_n 0, 1) := by decide +kernel
theorem dX5_neighbourAt_31 : decode cX5_neighbourAt 31 = .ok (.aload_n 0, 1) := by decide +kernel
theorem dX5_neighbourAt_32 : decode cX5_neighbourAt 32 = .ok (.getfield 41, 3) := by decide +kernel
theorem dX5_neighbourAt_35 : decode cX5_neighbourAt 35 = .ok (.iload_n 3, 1) := by decide +kernel
theorem dX5_neighbourAt_36 : decode cX5_neighbourAt 36 = .ok (.iaload, 1) := by decide +kernel
theorem dX5_neighbourAt_37 : decode cX5_neighbourAt 37 = .ok (.iload_n 1, 1) := by decide +kernel
theorem dX5_neighbourAt_38 : decode cX5_neighbourAt 38 = .ok (.invokevirtual 131, 3) := by decide +kernel
theorem dX5_neighbourAt_41 : decode cX5_neighbourAt 41 = .ok (.lshl, 1) := by decide +kernel
theorem dX5_neighbourAt_42 : decode cX5_neighbourAt 42 = .ok (.lor, 1) := by decide +kernel
theorem dX5_neighbourAt_43 : decode cX5_neighbourAt 43 = .ok (.putfield 59, 3) := by decide +kernel
theorem dX5_neighbourAt_46 : decode cX5_neighbourAt 46 = .ok (.iinc 3 1, 3) := by decide +kernel
theorem dX5_neighbourAt_49 : decode cX5_neighbourAt 49 = .ok (.goto (-37), 3) := by decide +kernel
theorem dX5_neighbourAt_52 : decode cX5_neighbourAt 52 = .ok (.aload_n 0, 1) := by decide +kernel
theorem dX5_neighbourAt_53 : decode cX5_neighbourAt 53 = .ok (.dup, 1) := by decide +kernel
theorem dX5_neighbourAt_54 : decode cX5_neighbourAt 54 = .ok (.getfield 59, 3) := by decide +kernel
theorem dX5_neighbourAt_57 : decode cX5_neighbourAt 57 = .ok (.lconst 1, 1) := by decide +kernel
theorem dX5_neighbourAt_58 : decode cX5_neighbourAt 58 = .ok (.iload_n 1, 1) := by decide +kernel
theorem dX5_neighbourAt_59 : decode cX5_neighbourAt 59 = .ok (.lshl, 1) := by decide +kernel
theorem dX5_neighbourAt_60 : decode cX5_neighbourAt 60 = .ok (.ldc2_w 134, 3) := by decide +kernel
theorem dX5_neighbourAt_63 : decode cX5_neighbourAt 63 = .ok (.lxor, 1) := by decide +kernel
theorem dX5_neighbourAt_64 : decode cX5_neighbourAt 64 = .ok (.land, 1) := by decide +kernel
theorem dX5_neighbourAt_65 : decode cX5_neighbourAt 65 = .ok (.putfield 59, 3) := by decide +kernel
theorem dX5_neighbourAt_68 : decode cX5_neighbourAt 68 = .ok (.iload_n 2, 1) := by decide +kernel
theorem dX5_neighbourAt_69 : decode cX5_neighbourAt 69 = .ok (.istore_n 3, 1) := by decide +kernel
theorem dX5_neighbourAt_70 : decode cX5_neighbourAt 70 = .ok (.iconst 0, 1) := by decide +kernel
theorem dX5_neighbourAt_71 : decode cX5_neighbourAt 71 = .ok (.istore 4, 2) := by decide +kernel
theorem dX5_neighbourAt_73 : decode cX5_neighbourAt 73 = .ok (.iload 4, 2) := by decide +kernel
theorem dX5_neighbourAt_75 : decode cX5_neighbourAt 75 = .ok (.aload_n 0, 1) := by decide +kernel
theorem dX5_neighbourAt_76 : decode cX5_neighbourAt 76 = .ok (.getfield 9, 3) := by decide +kernel
theorem dX5_neighbourAt_79 : decode cX5_neighbourAt 79 = .ok (.if_icmp .ge 33, 3) := by decide +kernel
theorem dX5_neighbourAt_82 : decode cX5_neighbourAt 82 = .ok (.aload_n 0, 1) := by decide +kernel
theorem dX5_neighbourAt_83 : decode cX5_neighbourAt 83 = .ok (.getfield 59, 3) := by decide +kernel
theorem dX5_neighbourAt_86 : decode cX5_neighbourAt 86 = .ok (.iload 4, 2) := by decide +kernel
theorem dX5_neighbourAt_88 : decode cX5_neighbourAt 88 = .ok (.lshr, 1) := by decide +kernel
theorem dX5_neighbourAt_89 : decode cX5_neighbourAt 89 = .ok (.lconst 1, 1) := by decide +kernel
theorem dX5_neighbourAt_90 : decode cX5_neighbourAt 90 = .ok (.land, 1) := by decide +kernel
theorem dX5_neighbourAt_91 : decode cX5_neighbourAt 91 = .ok (.lconst 1, 1) := by decide +kernel
theorem dX5_neighbourAt_92 : decode cX5_neighbourAt 92 = .ok (.lcmp, 1) := by decide +kernel
theorem dX5_neighbourAt_93 : decode cX5_neighbourAt 93 = .ok (.ifCond .ne 13, 3) := by decide +kernel
theorem dX5_neighbourAt_96 : decode cX5_neighbourAt 96 = .ok (.iload_n 3, 1) := by decide +kernel
theorem dX5_neighbourAt_97 : decode cX5_neighbourAt 97 = .ok (.ifCond .ne 6, 3) := by decide +kernel
theorem dX5_neighbourAt_100 : decode cX5_neighbourAt 100 = .ok (.iload 4, 2) := by decide +kernel
theorem dX5_neighbourAt_102 : decode cX5_neighbourAt 102 = .ok (.ireturn, 1) := by decide +kernel
theorem dX5_neighbourAt_103 : decode cX5_neighbourAt 103 = .ok (.iinc 3 (-1), 3) := by decide +kernel
theorem dX5_neighbourAt_106 : decode cX5_neighbourAt 106 = .ok (.iinc 4 1, 3) := by decide +kernel
theorem dX5_neighbourAt_109 : decode cX5_neighbourAt 109 = .ok (.goto (-36), 3) := by decide +kernel
theorem dX5_neighbourAt_112 : decode cX5_neighbourAt 112 = .ok (.iconst (-1), 1) := by decide +kernel
theorem dX5_neighbourAt_113 : decode cX5_neighbourAt 113 = .ok (.ireturn, 1) := by decide +kernel
def hX5_neighbourAt_73 (f : Nat) (Φ : Int → aj_M → Prop) : Nat → List Nat → Int → Int → aj_M → Prop
  | 0, _, _, _, _ => False
  | k + 1, q0, v3, v4, m => rI v4 ∧ rI (m q0 0) ∧ ((m q0 0) ≤ v4 → Φ (-1) m) ∧ (¬ ((m q0 0) ≤ v4) → rL (aj_landL (aj_lshr (m q0 15) v4) 1) ∧ (¬ (aj_landL (aj_lshr (m q0 15) v4) 1) = 1 → hX5_neighbourAt_73 f Φ k q0 v3 (v4 + 1) m) ∧ ((aj_landL (aj_lshr (m q0 15) v4) 1) = 1 → rI v3 ∧ (¬ v3 = 0 → hX5_neighbourAt_73 f Φ k q0 (v3 + (-1)) (v4 + 1) m) ∧ (v3 = 0 → Φ v4 m)))
set_option maxHeartbeats 4000000 in
set_option maxRecDepth 100000 in
theorem tX5_neighbourAt_73 {X : aj_T} {n f : Nat} {Φ : Int → aj_M → Prop} (C : aj_Cx X cX5_neighbourAt RX5 5 (n + 1)) (K : aj_Rt X (some .int) (fun r m => ∃ z, r = some (vI z) ∧ Φ z m)) : ∀ (k : Nat) (q0 : List Nat) (v3 : Int) (v4 : Int) (m : aj_M) (hq0 : (.inl (5, q0) : aj_R) ∈ aj_pls), hX5_neighbourAt_73 f Φ k q0 v3 v4 m → aj_J X 73 [some (vO 5 q0), none, none, some (vI v3), some (vI v4)] [] m := by
  intro k
  induction k with
  | zero =>
    intro q0 v3 v4 m _ h
    exact h.elim
  | succ k ih =>
    intro q0 v3 v4 m hq0 h
    unfold hX5_neighbourAt_73 at h
    refine aj_iload C dX5_neighbourAt_73 rfl ?_
    refine aj_aload_n C dX5_neighbourAt_75 rfl ?_
    refine aj_getI C flX5_9 hq0 (by decide) dX5_neighbourAt_76 rfl ?_
    obtain ⟨r0, r1, h1, h2⟩ := h
    refine aj_icmp_ge (tgt := 112) C dX5_neighbourAt_79 (by decide) r0 r1 (fun e => ?_) (fun e => ?_)
    · have h := h1 e
      refine aj_iconst C dX5_neighbourAt_112 ?_
      exact aj_iret C K dX5_neighbourAt_113 ⟨_, rfl, h⟩
    · have h := h2 e
      refine aj_aload_n C dX5_neighbourAt_82 rfl ?_
      refine aj_getL C flX5_59 hq0 rfl dX5_neighbourAt_83 rfl ?_
      refine aj_iload C dX5_neighbourAt_86 rfl ?_
      refine aj_lshr_ C dX5_neighbourAt_88 ?_
      refine aj_lconst (z := 1) C dX5_neighbourAt_89 rfl ?_
      refine aj_land C dX5_neighbourAt_90 ?_
      refine aj_lconst (z := 1) C dX5_neighbourAt_91 rfl ?_
      obtain ⟨r0, h1, h2⟩ := h
      refine aj_lcmp_ne (tgt := 106) C dX5_neighbourAt_92 dX5_neighbourAt_93 (by decide) r0 (by decide) (fun e => ?_) (fun e => ?_)
      · have h := h1 e
        refine aj_iinc (lv' := [some (vO 5 q0), none, none, some (vI v3), some (vI (v4 + 1))]) C dX5_neighbourAt_106 rfl (by decide) rfl ?_
        refine aj_goto (tgt := 73) C dX5_neighbourAt_109 (by decide) ?_
        exact ih q0 v3 (v4 + 1) _ hq0 h
      · have h := h2 e
        refine aj_iload_n C dX5_neighbourAt_96 rfl ?_
        obtain ⟨r0, h1, h2⟩ := h
        refine aj_if_ne (tgt := 103) C dX5_neighbourAt_97 (by decide) r0 (fun e => ?_) (fun e => ?_)
        · have h := h1 e
          refine aj_iinc (lv' := [some (vO 5 q0), none, none, some (vI (v3 + (-1))), some (vI v4)]) C dX5_neighbourAt_103 rfl (by decide) rfl ?_
          refine aj_iinc (lv' := [some (vO 5 q0), none, none, some (vI (v3 + (-1))), some (vI (v4 + 1))]) C dX5_neighbourAt_106 rfl (by decide) rfl ?_
          refine aj_goto (tgt := 73) C dX5_neighbourAt_109 (by decide) ?_
          exact ih q0 (v3 + (-1)) (v4 + 1) _ hq0 h
        · have h := h2 e
          refine aj_iload C dX5_neighbourAt_100 rfl ?_
          exact aj_iret C K dX5_neighbourAt_102 ⟨_, rfl, h⟩
def hX5_neighbourAt_12 (f : Nat) (Φ : Int → aj_M → Prop) : Nat → List Nat → Int → Int → Int → aj_M → Prop
  | 0, _, _, _, _, _ => False
  | k + 1, q0, v1, v2, v3, m => (0 ≤ (v1 + 1) ∧ (v1 + 1) < 62) ∧ rI v3 ∧ rI (m (8 :: q0) (v1 + 1).toNat) ∧ ((m (8 :: q0) (v1 + 1).toNat) ≤ v3 → ∀ m1, m1 = aj_u m q0 15 (aj_landL (m q0 15) (aj_lxorL (aj_lshl 1 v1) (-1))) → hX5_neighbourAt_73 f Φ f q0 v2 0 m1) ∧ (¬ ((m (8 :: q0) (v1 + 1).toNat) ≤ v3) → (0 ≤ v3 ∧ v3 < 288) ∧ wX5_otherEnd f (fun z1 m2 => ∀ m3, m3 = aj_u m2 q0 15 (aj_lorL (m q0 15) (aj_lshl 1 z1)) → hX5_neighbourAt_12 f Φ k q0 v1 v2 (v3 + 1) m3) q0 (m (9 :: q0) v3.toNat) v1 m)
set_option maxHeartbeats 4000000 in
set_option maxRecDepth 100000 in
theorem tX5_neighbourAt_12 {X : aj_T} {n f : Nat} {Φ : Int → aj_M → Prop} (C : aj_Cx X cX5_neighbourAt RX5 5 (n + 1)) (K : aj_Rt X (some .int) (fun r m => ∃ z, r = some (vI z) ∧ Φ z m)) : ∀ (k : Nat) (q0 : List Nat) (v1 : Int) (v2 : Int) (v3 : Int) (m : aj_M) (hq0 : (.inl (5, q0) : aj_R) ∈ aj_pls), hX5_neighbourAt_12 f Φ k q0 v1 v2 v3 m → aj_J X 12 [some (vO 5 q0), some (vI v1), some (vI v2), some (vI v3), none] [] m := by
  intro k
  induction k with
  | zero =>
    intro q0 v1 v2 v3 m _ h
    exact h.elim
  | succ k ih =>
    intro q0 v1 v2 v3 m hq0 h
    unfold hX5_neighbourAt_12 at h
    refine aj_iload_n C dX5_neighbourAt_12 rfl ?_
    refine aj_aload_n C dX5_neighbourAt_13 rfl ?_
    refine aj_getA (x := 0) (y := 62) C flX5_38 hq0 rfl dX5_neighbourAt_14 ?_
    refine aj_iload_n C dX5_neighbourAt_17 rfl ?_
    refine aj_iconst C dX5_neighbourAt_18 ?_
    refine aj_iadd C dX5_neighbourAt_19 ?_
    obtain ⟨r0, h⟩ := h
    refine aj_iald C (aj_ca (e := 0) (n := 62) (j := 8) hq0 (by decide) rfl) (by decide) r0 dX5_neighbourAt_20 rfl ?_
    obtain ⟨r0, r1, h1, h2⟩ := h
    refine aj_icmp_ge (tgt := 52) C dX5_neighbourAt_21 (by decide) r0 r1 (fun e => ?_) (fun e => ?_)
    · have h := h1 e
      refine aj_aload_n C dX5_neighbourAt_52 rfl ?_
      refine aj_dup C aj_nR dX5_neighbourAt_53 ?_
      refine aj_getL C flX5_59 hq0 rfl dX5_neighbourAt_54 rfl ?_
      refine aj_lconst (z := 1) C dX5_neighbourAt_57 rfl ?_
      refine aj_iload_n C dX5_neighbourAt_58 rfl ?_
      refine aj_lshl_ C dX5_neighbourAt_59 ?_
      refine aj_ldc2 (z := (-1)) C (wd1131) rfl dX5_neighbourAt_60 ?_
      refine aj_lxor C dX5_neighbourAt_63 ?_
      refine aj_land C dX5_neighbourAt_64 ?_
      refine aj_putL C fpX5_59 hq0 rfl dX5_neighbourAt_65 ?_
      refine aj_nm (fun m1 e1 => ?_)
      have h := h m1 e1
      refine aj_iload_n C dX5_neighbourAt_68 rfl ?_
      refine aj_istore_n (lv' := [some (vO 5 q0), some (vI v1), some (vI v2), some (vI v2), none]) C dX5_neighbourAt_69 (by decide) rfl ?_
      refine aj_iconst C dX5_neighbourAt_70 ?_
      refine aj_istore (lv' := [some (vO 5 q0), some (vI v1), some (vI v2), some (vI v2), some (vI 0)]) C dX5_neighbourAt_71 (by decide) rfl ?_
      refine aj_wk (lv' := [some (vO 5 q0), none, none, some (vI v2), some (vI 0)]) (⟨rfl, ⟨rfl, ⟨rfl, trivial⟩⟩⟩) ?_
      exact tX5_neighbourAt_73 C K f q0 v2 0 _ hq0 h
    · have h := h2 e
      refine aj_aload_n C dX5_neighbourAt_24 rfl ?_
      refine aj_dup C aj_nR dX5_neighbourAt_25 ?_
      refine aj_getL C flX5_59 hq0 rfl dX5_neighbourAt_26 rfl ?_
      refine aj_lconst (z := 1) C dX5_neighbourAt_29 rfl ?_
      refine aj_aload_n C dX5_neighbourAt_30 rfl ?_
      refine aj_aload_n C dX5_neighbourAt_31 rfl ?_
      refine aj_getA (x := 0) (y := 288) C flX5_41 hq0 rfl dX5_neighbourAt_32 ?_
      refine aj_iload_n C dX5_neighbourAt_35 rfl ?_
      obtain ⟨r0, h⟩ := h
      refine aj_iald C (aj_ca (e := 0) (n := 288) (j := 9) hq0 (by decide) rfl) (by decide) r0 dX5_neighbourAt_36 rfl ?_
      refine aj_iload_n C dX5_neighbourAt_37 rfl ?_
      refine aj_callV (rest := [vL 1, vL (m q0 15), vO 5 q0]) C mvX5_131 (sX5_otherEnd hq0 h) hq0 (aj_np 2 (by decide +kernel) rfl) (Nat.le_of_ble_eq_true rfl) rfl dX5_neighbourAt_38 (fun r m2 h => ?_)
      obtain ⟨z1, rfl, h⟩ := h
      refine aj_lshl_ C dX5_neighbourAt_41 ?_
      refine aj_lor C dX5_neighbourAt_42 ?_
      refine aj_putL C fpX5_59 hq0 rfl dX5_neighbourAt_43 ?_
      refine aj_nm (fun m3 e1 => ?_)
      have h := h m3 e1
      refine aj_iinc (lv' := [some (vO 5 q0), some (vI v1), some (vI v2), some (vI (v3 + 1)), none]) C dX5_neighbourAt_46 rfl (by decide) rfl ?_
      refine aj_goto (tgt := 12) C dX5_neighbourAt_49 (by decide) ?_
      exact ih q0 v1 v2 (v3 + 1) _ hq0 h
def wX5_neighbourAt (f : Nat) (Φ : Int → aj_M → Prop) (q0 : List Nat) (v1 : Int) (v2 : Int) (m : aj_M) : Prop := ∀ m1, m1 = aj_u m q0 15 0 → (0 ≤ v1 ∧ v1 < 62) ∧ hX5_neighbourAt_12 f Φ f q0 v1 v2 (m1 (8 :: q0) v1.toNat) m1
set_option maxHeartbeats 4000000 in
set_option maxRecDepth 100000 in
theorem sX5_neighbourAt {n f : Nat} {Φ : Int → aj_M → Prop} {q0 : List Nat} {v1 : Int} {v2 : Int} {m : aj_M} (hq0 : (.inl (5, q0) : aj_R) ∈ aj_pls) (h : wX5_neighbourAt f Φ q0 v1 v2 m) : aj_Ct (n + 1) yX5_neighbourAt cX5_neighbourAt 5 (some .int) [vO 5 q0, vI v1, vI v2] m (fun r m => ∃ z, r = some (vI z) ∧ Φ z m) := by
  refine aj_met (lv := [some (vO 5 q0), some (vI v1), some (vI v2), none, none]) (by decide +kernel) rfl (Nat.le_of_ble_eq_true rfl) (fun X C K => ?_)
  unfold wX5_neighbourAt at h
  refine aj_aload_n C dX5_neighbourAt_0 rfl ?_
  refine aj_lconst (z := 0) C dX5_neighbourAt_1 rfl ?_
  refine aj_putL C fpX5_59 hq0 rfl dX5_neighbourAt_2 ?_
  refine aj_nm (fun m1 e1 => ?_)
  have h := h m1 e1
  refine aj_aload_n C dX5_neighbourAt_5 rfl ?_
  refine aj_getA (x := 0) (y := 62) C flX5_38 hq0 rfl dX5_neighbourAt_6 ?_
  refine aj_iload_n C dX5_neighbourAt_9 rfl ?_
  obtain ⟨r0, h⟩ := h
  refine aj_iald C (aj_ca (e := 0) (n := 62) (j := 8) hq0 (by decide) rfl) (by decide) r0 dX5_neighbourAt_10 rfl ?_
  refine aj_istore_n (lv' := [some (vO 5 q0), some (vI v1), some (vI v2), some (vI (m1 (8 :: q0) v1.toNat)), none]) C dX5_neighbourAt_11 (by decide) rfl ?_
  exact tX5_neighbourAt_12 C K f q0 v1 v2 (m1 (8 :: q0) v1.toNat) _ hq0 h
theorem dX5_commonDegree_0 : decode cX5_commonDegree 0 = .ok (.iconst 1, 1) := by decide +kernel
theorem dX5_commonDegree_1 : decode cX5_commonDegree 1 = .ok (.istore_n 1, 1) := by decide +kernel
theorem dX5_commonDegree_2 : decode cX5_commonDegree 2 = .ok (.iload_n 1, 1) := by decide +kernel
theorem dX5_commonDegree_3 : decode cX5_commonDegree 3 = .ok (.aload_n 0, 1) := by decide +kernel
theorem dX5_commonDegree_4 : decode cX5_commonDegree 4 = .ok (.getfield 9, 3) := by decide +kernel
theorem dX5_commonDegree_7 : decode cX5_commonDegree 7 = .ok (.if_icmp .ge 24, 3) := by decide +kernel
theorem dX5_commonDegree_10 : decode cX5_commonDegree 10 = .ok (.aload_n 0, 1) := by decide +kernel
theorem dX5_commonDegree_11 : decode cX5_commonDegree 11 = .ok (.iload_n 1, 1) := by decide +kernel
theorem dX5_commonDegree_12 : decode cX5_commonDegree 12 = .ok (.invokevirtual 136, 3) := by decide +kernel
theorem dX5_commonDegree_15 : decode cX5_commonDegree 15 = .ok (.aload_n 0, 1) := by decide +kernel
theorem dX5_commonDegree_16 : decode cX5_commonDegree 16 = .ok (.iconst 0, 1) := by decide +kernel
theorem dX5_commonDegree_17 : decode cX5_commonDegree 17 = .ok (.invokevirtual 136, 3) := by decide +kernel
theorem dX5_commonDegree_20 : decode cX5_commonDegree 20 = .ok (.if_icmp .eq 5, 3) := by decide +kernel
theorem dX5_commonDegree_23 : decode cX5_commonDegree 23 = .ok (.iconst (-1), 1) := by decide +kernel
theorem dX5_commonDegree_24 : decode cX5_commonDegree 24 = .ok (.ireturn, 1) := by decide +kernel
theorem dX5_commonDegree_25 : decode cX5_commonDegree 25 = .ok (.iinc 1 1, 3) := by decide +kernel
theorem dX5_commonDegree_28 : decode cX5_commonDegree 28 = .ok (.goto (-26), 3) := by decide +kernel
theorem dX5_commonDegree_31 : decode cX5_commonDegree 31 = .ok (.aload_n 0, 1) := by decide +kernel
theorem dX5_commonDegree_32 : decode cX5_commonDegree 32 = .ok (.iconst 0, 1) := by decide +kernel
theorem dX5_commonDegree_33 : decode cX5_commonDegree 33 = .ok (.invokevirtual 136, 3) := by decide +kernel
theorem dX5_commonDegree_36 : decode cX5_commonDegree 36 = .ok (.ireturn, 1) := by decide +kernel
def hX5_commonDegree_2 (f : Nat) (Φ : Int → aj_M → Prop) : Nat → List Nat → Int → aj_M → Prop
  | 0, _, _, _ => False
  | k + 1, q0, v1, m => rI v1 ∧ rI (m q0 0) ∧ ((m q0 0) ≤ v1 → wX5_endsAt f (fun z1 m1 => Φ z1 m1) q0 0 m) ∧ (¬ ((m q0 0) ≤ v1) → wX5_endsAt f (fun z2 m2 => wX5_endsAt f (fun z3 m3 => rI z2 ∧ rI z3 ∧ (z2 = z3 → hX5_commonDegree_2 f Φ k q0 (v1 + 1) m3) ∧ (¬ (z2 = z3) → Φ (-1) m3)) q0 0 m2) q0 v1 m)
set_option maxHeartbeats 4000000 in
set_option maxRecDepth 100000 in
theorem tX5_commonDegree_2 {X : aj_T} {n f : Nat} {Φ : Int → aj_M → Prop} (C : aj_Cx X cX5_commonDegree RX5 2 (n + 1)) (K : aj_Rt X (some .int) (fun r m => ∃ z, r = some (vI z) ∧ Φ z m)) : ∀ (k : Nat) (q0 : List Nat) (v1 : Int) (m : aj_M) (hq0 : (.inl (5, q0) : aj_R) ∈ aj_pls), hX5_commonDegree_2 f Φ k q0 v1 m → aj_J X 2 [some (vO 5 q0), some (vI v1)] [] m := by
  intro k
  induction k with
  | zero =>
    intro q0 v1 m _ h
    exact h.elim
  | succ k ih =>
    intro q0 v1 m hq0 h
    unfold hX5_commonDegree_2 at h
    refine aj_iload_n C dX5_commonDegree_2 rfl ?_
    refine aj_aload_n C dX5_commonDegree_3 rfl ?_
    refine aj_getI C flX5_9 hq0 (by decide) dX5_commonDegree_4 rfl ?_
    obtain ⟨r0, r1, h1, h2⟩ := h
    refine aj_icmp_ge (tgt := 31) C dX5_commonDegree_7 (by decide) r0 r1 (fun e => ?_) (fun e => ?_)
    · have h := h1 e
      refine aj_aload_n C dX5_commonDegree_31 rfl ?_
      refine aj_iconst C dX5_commonDegree_32 ?_
      refine aj_callV (rest := []) C mvX5_136 (sX5_endsAt hq0 h) hq0 (aj_np 1 (by decide +kernel) rfl) (Nat.le_of_ble_eq_true rfl) rfl dX5_commonDegree_33 (fun r m1 h => ?_)
      obtain ⟨z1, rfl, h⟩ := h
      exact aj_iret C K dX5_commonDegree_36 ⟨_, rfl, h⟩
    · have h := h2 e
      refine aj_aload_n C dX5_commonDegree_10 rfl ?_
      refine aj_iload_n C dX5_commonDegree_11 rfl ?_
      refine aj_callV (rest := []) C mvX5_136 (sX5_endsAt hq0 h) hq0 (aj_np 1 (by decide +kernel) rfl) (Nat.le_of_ble_eq_true rfl) rfl dX5_commonDegree_12 (fun r m2 h => ?_)
      obtain ⟨z2, rfl, h⟩ := h
      refine aj_aload_n C dX5_commonDegree_15 rfl ?_
      refine aj_iconst C dX5_commonDegree_16 ?_
      refine aj_callV (rest := [vI z2]) C mvX5_136 (sX5_endsAt hq0 h) hq0 (aj_np 1 (by decide +kernel) rfl) (Nat.le_of_ble_eq_true rfl) rfl dX5_commonDegree_17 (fun r m3 h => ?_)
      obtain ⟨z3, rfl, h⟩ := h
      obtain ⟨r0, r1, h1, h2⟩ := h
      refine aj_icmp_eq (tgt := 25) C dX5_commonDegree_20 (by decide) r0 r1 (fun e => ?_) (fun e => ?_)
      · have h := h1 e
        refine aj_iinc (lv' := [some (vO 5 q0), some (vI (v1 + 1))]) C dX5_commonDegree_25 rfl (by decide) rfl ?_
        refine aj_goto (tgt := 2) C dX5_commonDegree_28 (by decide) ?_
        exact ih q0 (v1 + 1) _ hq0 h
      · have h := h2 e
        refine aj_iconst C dX5_commonDegree_23 ?_
        exact aj_iret C K dX5_commonDegree_24 ⟨_, rfl, h⟩
def wX5_commonDegree (f : Nat) (Φ : Int → aj_M → Prop) (q0 : List Nat) (m : aj_M) : Prop := hX5_commonDegree_2 f Φ f q0 1 m
set_option maxHeartbeats 4000000 in
set_option maxRecDepth 100000 in
theorem sX5_commonDegree {n f : Nat} {Φ : Int → aj_M → Prop} {q0 : List Nat} {m : aj_M} (hq0 : (.inl (5, q0) : aj_R) ∈ aj_pls) (h : wX5_commonDegree f Φ q0 m) : aj_Ct (n + 1) yX5_commonDegree cX5_commonDegree 2 (some .int) [vO 5 q0] m (fun r m => ∃ z, r = some (vI z) ∧ Φ z m) := by
  refine aj_met (lv := [some (vO 5 q0), none]) (by decide +kernel) rfl (Nat.le_of_ble_eq_true rfl) (fun X C K => ?_)
  unfold wX5_commonDegree at h
  refine aj_iconst C dX5_commonDegree_0 ?_
  refine aj_istore_n (lv' := [some (vO 5 q0), some (vI 1)]) C dX5_commonDegree_1 (by decide) rfl ?_
  exact tX5_commonDegree_2 C K f q0 1 _ hq0 h
