theorem dX8_joinOnce_0 : decode cX8_joinOnce 0 = .ok (.aload_n 0, 1) := by decide +kernel
theorem dX8_joinOnce_1 : decode cX8_joinOnce 1 = .ok (.getfield 30, 3) := by decide +kernel
theorem dX8_joinOnce_4 : decode cX8_joinOnce 4 = .ok (.iload_n 1, 1) := by decide +kernel
theorem dX8_joinOnce_5 : decode cX8_joinOnce 5 = .ok (.bipush 60, 2) := by decide +kernel
theorem dX8_joinOnce_7 : decode cX8_joinOnce 7 = .ok (.imul, 1) := by decide +kernel
theorem dX8_joinOnce_8 : decode cX8_joinOnce 8 = .ok (.iload_n 2, 1) := by decide +kernel
theorem dX8_joinOnce_9 : decode cX8_joinOnce 9 = .ok (.iadd, 1) := by decide +kernel
theorem dX8_joinOnce_10 : decode cX8_joinOnce 10 = .ok (.iaload, 1) := by decide +kernel
theorem dX8_joinOnce_11 : decode cX8_joinOnce 11 = .ok (.ifCond .ne 41, 3) := by decide +kernel
theorem dX8_joinOnce_14 : decode cX8_joinOnce 14 = .ok (.aload_n 0, 1) := by decide +kernel
theorem dX8_joinOnce_15 : decode cX8_joinOnce 15 = .ok (.getfield 36, 3) := by decide +kernel
theorem dX8_joinOnce_18 : decode cX8_joinOnce 18 = .ok (.iload_n 1, 1) := by decide +kernel
theorem dX8_joinOnce_19 : decode cX8_joinOnce 19 = .ok (.iaload, 1) := by decide +kernel
theorem dX8_joinOnce_20 : decode cX8_joinOnce 20 = .ok (.bipush 60, 2) := by decide +kernel
theorem dX8_joinOnce_22 : decode cX8_joinOnce 22 = .ok (.if_icmp .ge 30, 3) := by decide +kernel
theorem dX8_joinOnce_25 : decode cX8_joinOnce 25 = .ok (.aload_n 0, 1) := by decide +kernel
theorem dX8_joinOnce_26 : decode cX8_joinOnce 26 = .ok (.getfield 33, 3) := by decide +kernel
theorem dX8_joinOnce_29 : decode cX8_joinOnce 29 = .ok (.iload_n 1, 1) := by decide +kernel
theorem dX8_joinOnce_30 : decode cX8_joinOnce 30 = .ok (.bipush 60, 2) := by decide +kernel
theorem dX8_joinOnce_32 : decode cX8_joinOnce 32 = .ok (.imul, 1) := by decide +kernel
theorem dX8_joinOnce_33 : decode cX8_joinOnce 33 = .ok (.aload_n 0, 1) := by decide +kernel
theorem dX8_joinOnce_34 : decode cX8_joinOnce 34 = .ok (.getfield 36, 3) := by decide +kernel
theorem dX8_joinOnce_37 : decode cX8_joinOnce 37 = .ok (.iload_n 1, 1) := by decide +kernel
theorem dX8_joinOnce_38 : decode cX8_joinOnce 38 = .ok (.iaload, 1) := by decide +kernel
theorem dX8_joinOnce_39 : decode cX8_joinOnce 39 = .ok (.iadd, 1) := by decide +kernel
theorem dX8_joinOnce_40 : decode cX8_joinOnce 40 = .ok (.iload_n 2, 1) := by decide +kernel
theorem dX8_joinOnce_41 : decode cX8_joinOnce 41 = .ok (.iastore, 1) := by decide +kernel
theorem dX8_joinOnce_42 : decode cX8_joinOnce 42 = .ok (.aload_n 0, 1) := by decide +kernel
theorem dX8_joinOnce_43 : decode cX8_joinOnce 43 = .ok (.getfield 36, 3) := by decide +kernel
theorem dX8_joinOnce_46 : decode cX8_joinOnce 46 = .ok (.iload_n 1, 1) := by decide +kernel
theorem dX8_joinOnce_47 : decode cX8_joinOnce 47 = .ok (.dup2, 1) := by decide +kernel
theorem dX8_joinOnce_48 : decode cX8_joinOnce 48 = .ok (.iaload, 1) := by decide +kernel
theorem dX8_joinOnce_49 : decode cX8_joinOnce 49 = .ok (.iconst 1, 1) := by decide +kernel
theorem dX8_joinOnce_50 : decode cX8_joinOnce 50 = .ok (.iadd, 1) := by decide +kernel
theorem dX8_joinOnce_51 : decode cX8_joinOnce 51 = .ok (.iastore, 1) := by decide +kernel
theorem dX8_joinOnce_52 : decode cX8_joinOnce 52 = .ok (.aload_n 0, 1) := by decide +kernel
theorem dX8_joinOnce_53 : decode cX8_joinOnce 53 = .ok (.getfield 30, 3) := by decide +kernel
theorem dX8_joinOnce_56 : decode cX8_joinOnce 56 = .ok (.iload_n 1, 1) := by decide +kernel
theorem dX8_joinOnce_57 : decode cX8_joinOnce 57 = .ok (.bipush 60, 2) := by decide +kernel
theorem dX8_joinOnce_59 : decode cX8_joinOnce 59 = .ok (.imul, 1) := by decide +kernel
theorem dX8_joinOnce_60 : decode cX8_joinOnce 60 = .ok (.iload_n 2, 1) := by decide +kernel
theorem dX8_joinOnce_61 : decode cX8_joinOnce 61 = .ok (.iadd, 1) := by decide +kernel
theorem dX8_joinOnce_62 : decode cX8_joinOnce 62 = .ok (.dup2, 1) := by decide +kernel
theorem dX8_joinOnce_63 : decode cX8_joinOnce 63 = .ok (.iaload, 1) := by decide +kernel
theorem dX8_joinOnce_64 : decode cX8_joinOnce 64 = .ok (.iconst 1, 1) := by decide +kernel
theorem dX8_joinOnce_65 : decode cX8_joinOnce 65 = .ok (.iadd, 1) := by decide +kernel
theorem dX8_joinOnce_66 : decode cX8_joinOnce 66 = .ok (.iastore, 1) := by decide +kernel
theorem dX8_joinOnce_67 : decode cX8_joinOnce 67 = .ok (.return_, 1) := by decide +kernel
def wX8_joinOnce (f : Nat) (Φ : aj_M → Prop) (q0 : List Nat) (v1 : Int) (v2 : Int) (m : aj_M) : Prop := (0 ≤ ((v1 * 60) + v2) ∧ ((v1 * 60) + v2) < 3600) ∧ rI (m (4 :: q0) ((v1 * 60) + v2).toNat) ∧ (¬ (m (4 :: q0) ((v1 * 60) + v2).toNat) = 0 → (0 ≤ ((v1 * 60) + v2) ∧ ((v1 * 60) + v2) < 3600) ∧ (0 ≤ ((v1 * 60) + v2) ∧ ((v1 * 60) + v2) < 3600) ∧ ∀ m1, m1 = aj_u m (4 :: q0) ((v1 * 60) + v2).toNat ((m (4 :: q0) ((v1 * 60) + v2).toNat) + 1) → Φ m1) ∧ ((m (4 :: q0) ((v1 * 60) + v2).toNat) = 0 → (0 ≤ v1 ∧ v1 < 60) ∧ rI (m (6 :: q0) v1.toNat) ∧ (60 ≤ (m (6 :: q0) v1.toNat) → (0 ≤ ((v1 * 60) + v2) ∧ ((v1 * 60) + v2) < 3600) ∧ (0 ≤ ((v1 * 60) + v2) ∧ ((v1 * 60) + v2) < 3600) ∧ ∀ m2, m2 = aj_u m (4 :: q0) ((v1 * 60) + v2).toNat ((m (4 :: q0) ((v1 * 60) + v2).toNat) + 1) → Φ m2) ∧ (¬ (60 ≤ (m (6 :: q0) v1.toNat)) → (0 ≤ v1 ∧ v1 < 60) ∧ (0 ≤ ((v1 * 60) + (m (6 :: q0) v1.toNat)) ∧ ((v1 * 60) + (m (6 :: q0) v1.toNat)) < 3600) ∧ ∀ m3, m3 = aj_u m (5 :: q0) ((v1 * 60) + (m (6 :: q0) v1.toNat)).toNat v2 → (0 ≤ v1 ∧ v1 < 60) ∧ (0 ≤ v1 ∧ v1 < 60) ∧ ∀ m4, m4 = aj_u m3 (6 :: q0) v1.toNat ((m3 (6 :: q0) v1.toNat) + 1) → (0 ≤ ((v1 * 60) + v2) ∧ ((v1 * 60) + v2) < 3600) ∧ (0 ≤ ((v1 * 60) + v2) ∧ ((v1 * 60) + v2) < 3600) ∧ ∀ m5, m5 = aj_u m4 (4 :: q0) ((v1 * 60) + v2).toNat ((m4 (4 :: q0) ((v1 * 60) + v2).toNat) + 1) → Φ m5))
set_option maxHeartbeats 4000000 in
set_option maxRecDepth 100000 in
theorem sX8_joinOnce {n f : Nat} {Φ : aj_M → Prop} {q0 : List Nat} {v1 : Int} {v2 : Int} {m : aj_M} (hq0 : (.inl (8, q0) : aj_R) ∈ aj_pls) (h : wX8_joinOnce f Φ q0 v1 v2 m) : aj_Ct n yX8_joinOnce cX8_joinOnce 3 none [vO 8 q0, vI v1, vI v2] m (fun r m => r = none ∧ Φ m) := by
  refine aj_met (lv := [some (vO 8 q0), some (vI v1), some (vI v2)]) (by decide +kernel) rfl (Nat.le_of_ble_eq_true rfl) (fun X C K => ?_)
  unfold wX8_joinOnce at h
  refine aj_aload_n C dX8_joinOnce_0 rfl ?_
  refine aj_getA (x := 0) (y := 3600) C flX8_30 hq0 rfl dX8_joinOnce_1 ?_
  refine aj_iload_n C dX8_joinOnce_4 rfl ?_
  refine aj_bipush C dX8_joinOnce_5 (by decide) ?_
  refine aj_imul C dX8_joinOnce_7 ?_
  refine aj_iload_n C dX8_joinOnce_8 rfl ?_
  refine aj_iadd C dX8_joinOnce_9 ?_
  obtain ⟨r0, h⟩ := h
  refine aj_iald C (aj_ca (e := 0) (n := 3600) (j := 4) hq0 (by decide) rfl) (by decide) r0 dX8_joinOnce_10 rfl ?_
  obtain ⟨r0, h1, h2⟩ := h
  refine aj_if_ne (tgt := 52) C dX8_joinOnce_11 (by decide) r0 (fun e => ?_) (fun e => ?_)
  · have h := h1 e
    refine aj_aload_n C dX8_joinOnce_52 rfl ?_
    refine aj_getA (x := 0) (y := 3600) C flX8_30 hq0 rfl dX8_joinOnce_53 ?_
    refine aj_iload_n C dX8_joinOnce_56 rfl ?_
    refine aj_bipush C dX8_joinOnce_57 (by decide) ?_
    refine aj_imul C dX8_joinOnce_59 ?_
    refine aj_iload_n C dX8_joinOnce_60 rfl ?_
    refine aj_iadd C dX8_joinOnce_61 ?_
    refine aj_dup2 C aj_nI aj_nR dX8_joinOnce_62 ?_
    obtain ⟨r0, h⟩ := h
    refine aj_iald C (aj_ca (e := 0) (n := 3600) (j := 4) hq0 (by decide) rfl) (by decide) r0 dX8_joinOnce_63 rfl ?_
    refine aj_iconst C dX8_joinOnce_64 ?_
    refine aj_iadd C dX8_joinOnce_65 ?_
    obtain ⟨r0, h⟩ := h
    refine aj_iast C (aj_ca (e := 0) (n := 3600) (j := 4) hq0 (by decide) rfl) (by decide) r0 dX8_joinOnce_66 ?_
    refine aj_nm (fun m1 e1 => ?_)
    have h := h m1 e1
    exact aj_vret C K dX8_joinOnce_67 ⟨rfl, h⟩
  · have h := h2 e
    refine aj_aload_n C dX8_joinOnce_14 rfl ?_
    refine aj_getA (x := 0) (y := 60) C flX8_36 hq0 rfl dX8_joinOnce_15 ?_
    refine aj_iload_n C dX8_joinOnce_18 rfl ?_
    obtain ⟨r0, h⟩ := h
    refine aj_iald C (aj_ca (e := 0) (n := 60) (j := 6) hq0 (by decide) rfl) (by decide) r0 dX8_joinOnce_19 rfl ?_
    refine aj_bipush C dX8_joinOnce_20 (by decide) ?_
    obtain ⟨r0, h1, h2⟩ := h
    refine aj_icmp_ge (tgt := 52) C dX8_joinOnce_22 (by decide) r0 (by decide) (fun e => ?_) (fun e => ?_)
    · have h := h1 e
      refine aj_aload_n C dX8_joinOnce_52 rfl ?_
      refine aj_getA (x := 0) (y := 3600) C flX8_30 hq0 rfl dX8_joinOnce_53 ?_
      refine aj_iload_n C dX8_joinOnce_56 rfl ?_
      refine aj_bipush C dX8_joinOnce_57 (by decide) ?_
      refine aj_imul C dX8_joinOnce_59 ?_
      refine aj_iload_n C dX8_joinOnce_60 rfl ?_
      refine aj_iadd C dX8_joinOnce_61 ?_
      refine aj_dup2 C aj_nI aj_nR dX8_joinOnce_62 ?_
      obtain ⟨r0, h⟩ := h
      refine aj_iald C (aj_ca (e := 0) (n := 3600) (j := 4) hq0 (by decide) rfl) (by decide) r0 dX8_joinOnce_63 rfl ?_
      refine aj_iconst C dX8_joinOnce_64 ?_
      refine aj_iadd C dX8_joinOnce_65 ?_
      obtain ⟨r0, h⟩ := h
      refine aj_iast C (aj_ca (e := 0) (n := 3600) (j := 4) hq0 (by decide) rfl) (by decide) r0 dX8_joinOnce_66 ?_
      refine aj_nm (fun m2 e1 => ?_)
      have h := h m2 e1
      exact aj_vret C K dX8_joinOnce_67 ⟨rfl, h⟩
    · have h := h2 e
      refine aj_aload_n C dX8_joinOnce_25 rfl ?_
      refine aj_getA (x := 0) (y := 3600) C flX8_33 hq0 rfl dX8_joinOnce_26 ?_
      refine aj_iload_n C dX8_joinOnce_29 rfl ?_
      refine aj_bipush C dX8_joinOnce_30 (by decide) ?_
      refine aj_imul C dX8_joinOnce_32 ?_
      refine aj_aload_n C dX8_joinOnce_33 rfl ?_
      refine aj_getA (x := 0) (y := 60) C flX8_36 hq0 rfl dX8_joinOnce_34 ?_
      refine aj_iload_n C dX8_joinOnce_37 rfl ?_
      obtain ⟨r0, h⟩ := h
      refine aj_iald C (aj_ca (e := 0) (n := 60) (j := 6) hq0 (by decide) rfl) (by decide) r0 dX8_joinOnce_38 rfl ?_
      refine aj_iadd C dX8_joinOnce_39 ?_
      refine aj_iload_n C dX8_joinOnce_40 rfl ?_
      obtain ⟨r0, h⟩ := h
      refine aj_iast C (aj_ca (e := 0) (n := 3600) (j := 5) hq0 (by decide) rfl) (by decide) r0 dX8_joinOnce_41 ?_
      refine aj_nm (fun m3 e1 => ?_)
      have h := h m3 e1
      refine aj_aload_n C dX8_joinOnce_42 rfl ?_
      refine aj_getA (x := 0) (y := 60) C flX8_36 hq0 rfl dX8_joinOnce_43 ?_
      refine aj_iload_n C dX8_joinOnce_46 rfl ?_
      refine aj_dup2 C aj_nI aj_nR dX8_joinOnce_47 ?_
      obtain ⟨r0, h⟩ := h
      refine aj_iald C (aj_ca (e := 0) (n := 60) (j := 6) hq0 (by decide) rfl) (by decide) r0 dX8_joinOnce_48 rfl ?_
      refine aj_iconst C dX8_joinOnce_49 ?_
      refine aj_iadd C dX8_joinOnce_50 ?_
      obtain ⟨r0, h⟩ := h
      refine aj_iast C (aj_ca (e := 0) (n := 60) (j := 6) hq0 (by decide) rfl) (by decide) r0 dX8_joinOnce_51 ?_
      refine aj_nm (fun m4 e1 => ?_)
      have h := h m4 e1
      refine aj_aload_n C dX8_joinOnce_52 rfl ?_
      refine aj_getA (x := 0) (y := 3600) C flX8_30 hq0 rfl dX8_joinOnce_53 ?_
      refine aj_iload_n C dX8_joinOnce_56 rfl ?_
      refine aj_bipush C dX8_joinOnce_57 (by decide) ?_
      refine aj_imul C dX8_joinOnce_59 ?_
      refine aj_iload_n C dX8_joinOnce_60 rfl ?_
      refine aj_iadd C dX8_joinOnce_61 ?_
      refine aj_dup2 C aj_nI aj_nR dX8_joinOnce_62 ?_
      obtain ⟨r0, h⟩ := h
      refine aj_iald C (aj_ca (e := 0) (n := 3600) (j := 4) hq0 (by decide) rfl) (by decide) r0 dX8_joinOnce_63 rfl ?_
      refine aj_iconst C dX8_joinOnce_64 ?_
      refine aj_iadd C dX8_joinOnce_65 ?_
      obtain ⟨r0, h⟩ := h
      refine aj_iast C (aj_ca (e := 0) (n := 3600) (j := 4) hq0 (by decide) rfl) (by decide) r0 dX8_joinOnce_66 ?_
      refine aj_nm (fun m5 e1 => ?_)
      have h := h m5 e1
      exact aj_vret C K dX8_joinOnce_67 ⟨rfl, h⟩
theorem dX8_spreadOut_0 : decode cX8_spreadOut 0 = .ok (.aload_n 0, 1) := by decide +kernel
theorem dX8_spreadOut_1 : decode cX8_spreadOut 1 = .ok (.getfield 30, 3) := by decide +kernel
theorem dX8_spreadOut_4 : decode cX8_spreadOut 4 = .ok (.iconst 0, 1) := by decide +kernel
theorem dX8_spreadOut_5 : decode cX8_spreadOut 5 = .ok (.invokestatic 119, 3) := by decide +kernel
theorem dX8_spreadOut_8 : decode cX8_spreadOut 8 = .ok (.aload_n 0, 1) := by decide +kernel
theorem dX8_spreadOut_9 : decode cX8_spreadOut 9 = .ok (.getfield 36, 3) := by decide +kernel
theorem dX8_spreadOut_12 : decode cX8_spreadOut 12 = .ok (.iconst 0, 1) := by decide +kernel
theorem dX8_spreadOut_13 : decode cX8_spreadOut 13 = .ok (.invokestatic 119, 3) := by decide +kernel
theorem dX8_spreadOut_16 : decode cX8_spreadOut 16 = .ok (.aload_n 0, 1) := by decide +kernel
theorem dX8_spreadOut_17 : decode cX8_spreadOut 17 = .ok (.lconst 0, 1) := by decide +kernel
theorem dX8_spreadOut_18 : decode cX8_spreadOut 18 = .ok (.putfield 45, 3) := by decide +kernel
theorem dX8_spreadOut_21 : decode cX8_spreadOut 21 = .ok (.iconst 0, 1) := by decide +kernel
theorem dX8_spreadOut_22 : decode cX8_spreadOut 22 = .ok (.istore_n 1, 1) := by decide +kernel
theorem dX8_spreadOut_23 : decode cX8_spreadOut 23 = .ok (.iload_n 1, 1) := by decide +kernel
theorem dX8_spreadOut_24 : decode cX8_spreadOut 24 = .ok (.aload_n 0, 1) := by decide +kernel
theorem dX8_spreadOut_25 : decode cX8_spreadOut 25 = .ok (.getfield 26, 3) := by decide +kernel
theorem dX8_spreadOut_28 : decode cX8_spreadOut 28 = .ok (.getfield 110, 3) := by decide +kernel
theorem dX8_spreadOut_31 : decode cX8_spreadOut 31 = .ok (.if_icmp .ge 46, 3) := by decide +kernel
theorem dX8_spreadOut_34 : decode cX8_spreadOut 34 = .ok (.aload_n 0, 1) := by decide +kernel
theorem dX8_spreadOut_35 : decode cX8_spreadOut 35 = .ok (.getfield 26, 3) := by decide +kernel
theorem dX8_spreadOut_38 : decode cX8_spreadOut 38 = .ok (.getfield 113, 3) := by decide +kernel
theorem dX8_spreadOut_41 : decode cX8_spreadOut 41 = .ok (.iload_n 1, 1) := by decide +kernel
theorem dX8_spreadOut_42 : decode cX8_spreadOut 42 = .ok (.iaload, 1) := by decide +kernel
theorem dX8_spreadOut_43 : decode cX8_spreadOut 43 = .ok (.istore_n 2, 1) := by decide +kernel
theorem dX8_spreadOut_44 : decode cX8_spreadOut 44 = .ok (.aload_n 0, 1) := by decide +kernel
theorem dX8_spreadOut_45 : decode cX8_spreadOut 45 = .ok (.getfield 26, 3) := by decide +kernel
theorem dX8_spreadOut_48 : decode cX8_spreadOut 48 = .ok (.getfield 116, 3) := by decide +kernel
theorem dX8_spreadOut_51 : decode cX8_spreadOut 51 = .ok (.iload_n 1, 1) := by decide +kernel
theorem dX8_spreadOut_52 : decode cX8_spreadOut 52 = .ok (.iaload, 1) := by decide +kernel
theorem dX8_spreadOut_53 : decode cX8_spreadOut 53 = .ok (.istore_n 3, 1) := by decide +kernel
theorem dX8_spreadOut_54 : decode cX8_spreadOut 54 = .ok (.iload_n 2, 1) := by decide +kernel
theorem dX8_spreadOut_55 : decode cX8_spreadOut 55 = .ok (.iload_n 3, 1) := by decide +kernel
theorem dX8_spreadOut_56 : decode cX8_spreadOut 56 = .ok (.if_icmp .eq 15, 3) := by decide +kernel
theorem dX8_spreadOut_59 : decode cX8_spreadOut 59 = .ok (.aload_n 0, 1) := by decide +kernel
theorem dX8_spreadOut_60 : decode cX8_spreadOut 60 = .ok (.iload_n 2, 1) := by decide +kernel
theorem dX8_spreadOut_61 : decode cX8_spreadOut 61 = .ok (.iload_n 3, 1) := by decide +kernel
theorem dX8_spreadOut_62 : decode cX8_spreadOut 62 = .ok (.invokevirtual 125, 3) := by decide +kernel
theorem dX8_spreadOut_65 : decode cX8_spreadOut 65 = .ok (.aload_n 0, 1) := by decide +kernel
theorem dX8_spreadOut_66 : decode cX8_spreadOut 66 = .ok (.iload_n 3, 1) := by decide +kernel
theorem dX8_spreadOut_67 : decode cX8_spreadOut 67 = .ok (.iload_n 2, 1) := by decide +kernel
theorem dX8_spreadOut_68 : decode cX8_spreadOut 68 = .ok (.invokevirtual 125, 3) := by decide +kernel
theorem dX8_spreadOut_71 : decode cX8_spreadOut 71 = .ok (.iinc 1 1, 3) := by decide +kernel
theorem dX8_spreadOut_74 : decode cX8_spreadOut 74 = .ok (.goto (-51), 3) := by decide +kernel
theorem dX8_spreadOut_77 : decode cX8_spreadOut 77 = .ok (.return_, 1) := by decide +kernel
def hX8_spreadOut_23 (f : Nat) (Φ : aj_M → Prop) : Nat → List Nat → Int → aj_M → Prop
  | 0, _, _, _ => False
  | k + 1, q0, v1, m => rI v1 ∧ rI (m (3 :: q0) 1) ∧ ((m (3 :: q0) 1) ≤ v1 → Φ m) ∧ (¬ ((m (3 :: q0) 1) ≤ v1) → (0 ≤ v1 ∧ v1 < 144) ∧ (0 ≤ v1 ∧ v1 < 144) ∧ rI (m (2 :: (3 :: q0)) v1.toNat) ∧ rI (m (3 :: (3 :: q0)) v1.toNat) ∧ ((m (2 :: (3 :: q0)) v1.toNat) = (m (3 :: (3 :: q0)) v1.toNat) → hX8_spreadOut_23 f Φ k q0 (v1 + 1) m) ∧ (¬ ((m (2 :: (3 :: q0)) v1.toNat) = (m (3 :: (3 :: q0)) v1.toNat)) → wX8_joinOnce f (fun m1 => wX8_joinOnce f (fun m2 => hX8_spreadOut_23 f Φ k q0 (v1 + 1) m2) q0 (m (3 :: (3 :: q0)) v1.toNat) (m (2 :: (3 :: q0)) v1.toNat) m1) q0 (m (2 :: (3 :: q0)) v1.toNat) (m (3 :: (3 :: q0)) v1.toNat) m))
set_option maxHeartbeats 4000000 in
set_option maxRecDepth 100000 in
theorem tX8_spreadOut_23 {X : aj_T} {n f : Nat} {Φ : aj_M → Prop} (C : aj_Cx X cX8_spreadOut RX8 4 (n + 1)) (K : aj_Rt X none (fun r m => r = none ∧ Φ m)) : ∀ (k : Nat) (q0 : List Nat) (v1 : Int) (m : aj_M) (hq0 : (.inl (8, q0) : aj_R) ∈ aj_pls), hX8_spreadOut_23 f Φ k q0 v1 m → aj_J X 23 [some (vO 8 q0), some (vI v1), none, none] [] m := by
  intro k
  induction k with
  | zero =>
    intro q0 v1 m _ h
    exact h.elim
  | succ k ih =>
    intro q0 v1 m hq0 h
    unfold hX8_spreadOut_23 at h
    refine aj_iload_n C dX8_spreadOut_23 rfl ?_
    refine aj_aload_n C dX8_spreadOut_24 rfl ?_
    refine aj_getO (x := 5) (y := 0) C flX8_26 hq0 rfl dX8_spreadOut_25 ?_
    refine aj_getI C flX8_110 (aj_cf (x := 5) (y := 0) (j := 3) hq0 (by decide) rfl) (by decide) dX8_spreadOut_28 rfl ?_
    obtain ⟨r0, r1, h1, h2⟩ := h
    refine aj_icmp_ge (tgt := 77) C dX8_spreadOut_31 (by decide) r0 r1 (fun e => ?_) (fun e => ?_)
    · have h := h1 e
      exact aj_vret C K dX8_spreadOut_77 ⟨rfl, h⟩
    · have h := h2 e
      refine aj_aload_n C dX8_spreadOut_34 rfl ?_
      refine aj_getO (x := 5) (y := 0) C flX8_26 hq0 rfl dX8_spreadOut_35 ?_
      refine aj_getA (x := 0) (y := 144) C flX8_113 (aj_cf (x := 5) (y := 0) (j := 3) hq0 (by decide) rfl) rfl dX8_spreadOut_38 ?_
      refine aj_iload_n C dX8_spreadOut_41 rfl ?_
      obtain ⟨r0, h⟩ := h
      refine aj_iald C (aj_ca (e := 0) (n := 144) (j := 2) (aj_cf (x := 5) (y := 0) (j := 3) hq0 (by decide) rfl) (by decide) rfl) (by decide) r0 dX8_spreadOut_42 rfl ?_
      refine aj_istore_n (lv' := [some (vO 8 q0), some (vI v1), some (vI (m (2 :: (3 :: q0)) v1.toNat)), none]) C dX8_spreadOut_43 (by decide) rfl ?_
      refine aj_aload_n C dX8_spreadOut_44 rfl ?_
      refine aj_getO (x := 5) (y := 0) C flX8_26 hq0 rfl dX8_spreadOut_45 ?_
      refine aj_getA (x := 0) (y := 144) C flX8_116 (aj_cf (x := 5) (y := 0) (j := 3) hq0 (by decide) rfl) rfl dX8_spreadOut_48 ?_
      refine aj_iload_n C dX8_spreadOut_51 rfl ?_
      obtain ⟨r0, h⟩ := h
      refine aj_iald C (aj_ca (e := 0) (n := 144) (j := 3) (aj_cf (x := 5) (y := 0) (j := 3) hq0 (by decide) rfl) (by decide) rfl) (by decide) r0 dX8_spreadOut_52 rfl ?_
      refine aj_istore_n (lv' := [some (vO 8 q0), some (vI v1), some (vI (m (2 :: (3 :: q0)) v1.toNat)), some (vI (m (3 :: (3 :: q0)) v1.toNat))]) C dX8_spreadOut_53 (by decide) rfl ?_
      refine aj_iload_n C dX8_spreadOut_54 rfl ?_
      refine aj_iload_n C dX8_spreadOut_55 rfl ?_
      obtain ⟨r0, r1, h1, h2⟩ := h
      refine aj_icmp_eq (tgt := 71) C dX8_spreadOut_56 (by decide) r0 r1 (fun e => ?_) (fun e => ?_)
      · have h := h1 e
        refine aj_iinc (lv' := [some (vO 8 q0), some (vI (v1 + 1)), some (vI (m (2 :: (3 :: q0)) v1.toNat)), some (vI (m (3 :: (3 :: q0)) v1.toNat))]) C dX8_spreadOut_71 rfl (by decide) rfl ?_
        refine aj_goto (tgt := 23) C dX8_spreadOut_74 (by decide) ?_
        refine aj_wk (lv' := [some (vO 8 q0), some (vI (v1 + 1)), none, none]) (⟨rfl, ⟨rfl, trivial⟩⟩) ?_
        exact ih q0 (v1 + 1) _ hq0 h
      · have h := h2 e
        refine aj_aload_n C dX8_spreadOut_59 rfl ?_
        refine aj_iload_n C dX8_spreadOut_60 rfl ?_
        refine aj_iload_n C dX8_spreadOut_61 rfl ?_
        refine aj_callV (rest := []) C mvX8_125 (sX8_joinOnce hq0 h) hq0 (aj_np 2 (by decide +kernel) rfl) (Nat.le_of_ble_eq_true rfl) rfl dX8_spreadOut_62 (fun r m1 h => ?_)
        obtain ⟨rfl, h⟩ := h
        refine aj_aload_n C dX8_spreadOut_65 rfl ?_
        refine aj_iload_n C dX8_spreadOut_66 rfl ?_
        refine aj_iload_n C dX8_spreadOut_67 rfl ?_
        refine aj_callV (rest := []) C mvX8_125 (sX8_joinOnce hq0 h) hq0 (aj_np 2 (by decide +kernel) rfl) (Nat.le_of_ble_eq_true rfl) rfl dX8_spreadOut_68 (fun r m2 h => ?_)
        obtain ⟨rfl, h⟩ := h
        refine aj_iinc (lv' := [some (vO 8 q0), some (vI (v1 + 1)), some (vI (m (2 :: (3 :: q0)) v1.toNat)), some (vI (m (3 :: (3 :: q0)) v1.toNat))]) C dX8_spreadOut_71 rfl (by decide) rfl ?_
        refine aj_goto (tgt := 23) C dX8_spreadOut_74 (by decide) ?_
        refine aj_wk (lv' := [some (vO 8 q0), some (vI (v1 + 1)), none, none]) (⟨rfl, ⟨rfl, trivial⟩⟩) ?_
        exact ih q0 (v1 + 1) _ hq0 h
def wX8_spreadOut (f : Nat) (Φ : aj_M → Prop) (q0 : List Nat) (m : aj_M) : Prop := wJ7_fill_53178 f (fun m1 => wJ7_fill_53178 f (fun m2 => ∀ m3, m3 = aj_u m2 q0 9 0 → hX8_spreadOut_23 f Φ f q0 0 m3) 60 (6 :: q0) 0 m1) 3600 (4 :: q0) 0 m
set_option maxHeartbeats 4000000 in
set_option maxRecDepth 100000 in
theorem sX8_spreadOut {n f : Nat} {Φ : aj_M → Prop} {q0 : List Nat} {m : aj_M} (hq0 : (.inl (8, q0) : aj_R) ∈ aj_pls) (h : wX8_spreadOut f Φ q0 m) : aj_Ct (n + 1) yX8_spreadOut cX8_spreadOut 4 none [vO 8 q0] m (fun r m => r = none ∧ Φ m) := by
  refine aj_met (lv := [some (vO 8 q0), none, none, none]) (by decide +kernel) rfl (Nat.le_of_ble_eq_true rfl) (fun X C K => ?_)
  unfold wX8_spreadOut at h
  refine aj_aload_n C dX8_spreadOut_0 rfl ?_
  refine aj_getA (x := 0) (y := 3600) C flX8_30 hq0 rfl dX8_spreadOut_1 ?_
  refine aj_iconst C dX8_spreadOut_4 ?_
  refine aj_callS (rest := []) C msX8_119 (sJ7_fill_53178 (aj_ca (e := 0) (n := 3600) (j := 4) hq0 (by decide) rfl) (by decide) h) (aj_np 2 (by decide +kernel) rfl) (Nat.le_of_ble_eq_true rfl) rfl dX8_spreadOut_5 (fun r m1 h => ?_)
  obtain ⟨rfl, h⟩ := h
  refine aj_aload_n C dX8_spreadOut_8 rfl ?_
  refine aj_getA (x := 0) (y := 60) C flX8_36 hq0 rfl dX8_spreadOut_9 ?_
  refine aj_iconst C dX8_spreadOut_12 ?_
  refine aj_callS (rest := []) C msX8_119 (sJ7_fill_53178 (aj_ca (e := 0) (n := 60) (j := 6) hq0 (by decide) rfl) (by decide) h) (aj_np 2 (by decide +kernel) rfl) (Nat.le_of_ble_eq_true rfl) rfl dX8_spreadOut_13 (fun r m2 h => ?_)
  obtain ⟨rfl, h⟩ := h
  refine aj_aload_n C dX8_spreadOut_16 rfl ?_
  refine aj_lconst (z := 0) C dX8_spreadOut_17 rfl ?_
  refine aj_putL C fpX8_45 hq0 rfl dX8_spreadOut_18 ?_
  refine aj_nm (fun m3 e1 => ?_)
  have h := h m3 e1
  refine aj_iconst C dX8_spreadOut_21 ?_
  refine aj_istore_n (lv' := [some (vO 8 q0), some (vI 0), none, none]) C dX8_spreadOut_22 (by decide) rfl ?_
  exact tX8_spreadOut_23 C K f q0 0 _ hq0 h
theorem dX8_countPairs_0 : decode cX8_countPairs 0 = .ok (.iconst 0, 1) := by decide +kernel
theorem dX8_countPairs_1 : decode cX8_countPairs 1 = .ok (.istore_n 1, 1) := by decide +kernel
theorem dX8_countPairs_2 : decode cX8_countPairs 2 = .ok (.iconst 0, 1) := by decide +kernel
theorem dX8_countPairs_3 : decode cX8_countPairs 3 = .ok (.istore_n 2, 1) := by decide +kernel
theorem dX8_countPairs_4 : decode cX8_countPairs 4 = .ok (.iload_n 2, 1) := by decide +kernel
theorem dX8_countPairs_5 : decode cX8_countPairs 5 = .ok (.aload_n 0, 1) := by decide +kernel
theorem dX8_countPairs_6 : decode cX8_countPairs 6 = .ok (.getfield 26, 3) := by decide +kernel
theorem dX8_countPairs_9 : decode cX8_countPairs 9 = .ok (.getfield 53, 3) := by decide +kernel
theorem dX8_countPairs_12 : decode cX8_countPairs 12 = .ok (.if_icmp .ge 47, 3) := by decide +kernel
theorem dX8_countPairs_15 : decode cX8_countPairs 15 = .ok (.iconst 0, 1) := by decide +kernel
theorem dX8_countPairs_16 : decode cX8_countPairs 16 = .ok (.istore_n 3, 1) := by decide +kernel
theorem dX8_countPairs_17 : decode cX8_countPairs 17 = .ok (.iload_n 3, 1) := by decide +kernel
theorem dX8_countPairs_18 : decode cX8_countPairs 18 = .ok (.iload_n 2, 1) := by decide +kernel
theorem dX8_countPairs_19 : decode cX8_countPairs 19 = .ok (.if_icmp .ge 34, 3) := by decide +kernel
theorem dX8_countPairs_22 : decode cX8_countPairs 22 = .ok (.aload_n 0, 1) := by decide +kernel
theorem dX8_countPairs_23 : decode cX8_countPairs 23 = .ok (.getfield 30, 3) := by decide +kernel
theorem dX8_countPairs_26 : decode cX8_countPairs 26 = .ok (.iload_n 2, 1) := by decide +kernel
theorem dX8_countPairs_27 : decode cX8_countPairs 27 = .ok (.bipush 60, 2) := by decide +kernel
theorem dX8_countPairs_29 : decode cX8_countPairs 29 = .ok (.imul, 1) := by decide +kernel
theorem dX8_countPairs_30 : decode cX8_countPairs 30 = .ok (.iload_n 3, 1) := by decide +kernel
theorem dX8_countPairs_31 : decode cX8_countPairs 31 = .ok (.iadd, 1) := by decide +kernel
theorem dX8_countPairs_32 : decode cX8_countPairs 32 = .ok (.iaload, 1) := by decide +kernel
theorem dX8_countPairs_33 : decode cX8_countPairs 33 = .ok (.istore 4, 2) := by decide +kernel
theorem dX8_countPairs_35 : decode cX8_countPairs 35 = .ok (.iload_n 1, 1) := by decide +kernel
theorem dX8_countPairs_36 : decode cX8_countPairs 36 = .ok (.iload 4, 2) := by decide +kernel
theorem dX8_countPairs_38 : decode cX8_countPairs 38 = .ok (.iload 4, 2) := by decide +kernel
theorem dX8_countPairs_40 : decode cX8_countPairs 40 = .ok (.iconst 1, 1) := by decide +kernel
theorem dX8_countPairs_41 : decode cX8_countPairs 41 = .ok (.isub, 1) := by decide +kernel
theorem dX8_countPairs_42 : decode cX8_countPairs 42 = .ok (.imul, 1) := by decide +kernel
theorem dX8_countPairs_43 : decode cX8_countPairs 43 = .ok (.iconst 2, 1) := by decide +kernel
theorem dX8_countPairs_44 : decode cX8_countPairs 44 = .ok (.idiv, 1) := by decide +kernel
theorem dX8_countPairs_45 : decode cX8_countPairs 45 = .ok (.iadd, 1) := by decide +kernel
theorem dX8_countPairs_46 : decode cX8_countPairs 46 = .ok (.istore_n 1, 1) := by decide +kernel
theorem dX8_countPairs_47 : decode cX8_countPairs 47 = .ok (.iinc 3 1, 3) := by decide +kernel
theorem dX8_countPairs_50 : decode cX8_countPairs 50 = .ok (.goto (-33), 3) := by decide +kernel
theorem dX8_countPairs_53 : decode cX8_countPairs 53 = .ok (.iinc 2 1, 3) := by decide +kernel
theorem dX8_countPairs_56 : decode cX8_countPairs 56 = .ok (.goto (-52), 3) := by decide +kernel
theorem dX8_countPairs_59 : decode cX8_countPairs 59 = .ok (.iload_n 1, 1) := by decide +kernel
theorem dX8_countPairs_60 : decode cX8_countPairs 60 = .ok (.ireturn, 1) := by decide +kernel
def hX8_countPairs_17 (f : Nat) (Φ : Int → aj_M → Prop) (K4 : List Nat → Int → Int → aj_M → Prop) : Nat → List Nat → Int → Int → Int → aj_M → Prop
  | 0, _, _, _, _, _ => False
  | k + 1, q0, v1, v2, v3, m => rI v3 ∧ rI v2 ∧ (v2 ≤ v3 → K4 q0 v1 (v2 + 1) m) ∧ (¬ (v2 ≤ v3) → (0 ≤ ((v2 * 60) + v3) ∧ ((v2 * 60) + v3) < 3600) ∧ (0 ≤ ((m (4 :: q0) ((v2 * 60) + v3).toNat) * ((m (4 :: q0) ((v2 * 60) + v3).toNat) - 1)) ∧ ((m (4 :: q0) ((v2 * 60) + v3).toNat) * ((m (4 :: q0) ((v2 * 60) + v3).toNat) - 1)) < 2147483648) ∧ hX8_countPairs_17 f Φ K4 k q0 (v1 + (((m (4 :: q0) ((v2 * 60) + v3).toNat) * ((m (4 :: q0) ((v2 * 60) + v3).toNat) - 1)) / 2)) v2 (v3 + 1) m)
set_option maxHeartbeats 4000000 in
set_option maxRecDepth 100000 in
theorem tX8_countPairs_17 {X : aj_T} {n f : Nat} {Φ : Int → aj_M → Prop} (C : aj_Cx X cX8_countPairs RX8 5 n) (K : aj_Rt X (some .int) (fun r m => ∃ z, r = some (vI z) ∧ Φ z m)) {K4 : List Nat → Int → Int → aj_M → Prop} (HK4 : ∀ (q0 : List Nat) (v1 : Int) (v2 : Int) (m : aj_M) (hq0 : (.inl (8, q0) : aj_R) ∈ aj_pls), K4 q0 v1 v2 m → aj_J X 4 [some (vO 8 q0), some (vI v1), some (vI v2), none, none] [] m) : ∀ (k : Nat) (q0 : List Nat) (v1 : Int) (v2 : Int) (v3 : Int) (m : aj_M) (hq0 : (.inl (8, q0) : aj_R) ∈ aj_pls), hX8_countPairs_17 f Φ K4 k q0 v1 v2 v3 m → aj_J X 17 [some (vO 8 q0), some (vI v1), some (vI v2), some (vI v3), none] [] m := by
  intro k
  induction k with
  | zero =>
    intro q0 v1 v2 v3 m _ h
    exact h.elim
  | succ k ih =>
    intro q0 v1 v2 v3 m hq0 h
    unfold hX8_countPairs_17 at h
    refine aj_iload_n C dX8_countPairs_17 rfl ?_
    refine aj_iload_n C dX8_countPairs_18 rfl ?_
    obtain ⟨r0, r1, h1, h2⟩ := h
    refine aj_icmp_ge (tgt := 53) C dX8_countPairs_19 (by decide) r0 r1 (fun e => ?_) (fun e => ?_)
    · have h := h1 e
      refine aj_iinc (lv' := [some (vO 8 q0), some (vI v1), some (vI (v2 + 1)), some (vI v3), none]) C dX8_countPairs_53 rfl (by decide) rfl ?_
      refine aj_goto (tgt := 4) C dX8_countPairs_56 (by decide) ?_
      refine aj_wk (lv' := [some (vO 8 q0), some (vI v1), some (vI (v2 + 1)), none, none]) (⟨rfl, ⟨rfl, ⟨rfl, trivial⟩⟩⟩) ?_
      exact HK4 q0 v1 (v2 + 1) _ hq0 h
    · have h := h2 e
      refine aj_aload_n C dX8_countPairs_22 rfl ?_
      refine aj_getA (x := 0) (y := 3600) C flX8_30 hq0 rfl dX8_countPairs_23 ?_
      refine aj_iload_n C dX8_countPairs_26 rfl ?_
      refine aj_bipush C dX8_countPairs_27 (by decide) ?_
      refine aj_imul C dX8_countPairs_29 ?_
      refine aj_iload_n C dX8_countPairs_30 rfl ?_
      refine aj_iadd C dX8_countPairs_31 ?_
      obtain ⟨r0, h⟩ := h
      refine aj_iald C (aj_ca (e := 0) (n := 3600) (j := 4) hq0 (by decide) rfl) (by decide) r0 dX8_countPairs_32 rfl ?_
      refine aj_istore (lv' := [some (vO 8 q0), some (vI v1), some (vI v2), some (vI v3), some (vI (m (4 :: q0) ((v2 * 60) + v3).toNat))]) C dX8_countPairs_33 (by decide) rfl ?_
      refine aj_iload_n C dX8_countPairs_35 rfl ?_
      refine aj_iload C dX8_countPairs_36 rfl ?_
      refine aj_iload C dX8_countPairs_38 rfl ?_
      refine aj_iconst C dX8_countPairs_40 ?_
      refine aj_isub C dX8_countPairs_41 ?_
      refine aj_imul C dX8_countPairs_42 ?_
      refine aj_iconst C dX8_countPairs_43 ?_
      obtain ⟨r0, h⟩ := h
      refine aj_idivN C dX8_countPairs_44 r0 (by decide) ?_
      refine aj_iadd C dX8_countPairs_45 ?_
      refine aj_istore_n (lv' := [some (vO 8 q0), some (vI (v1 + (((m (4 :: q0) ((v2 * 60) + v3).toNat) * ((m (4 :: q0) ((v2 * 60) + v3).toNat) - 1)) / 2))), some (vI v2), some (vI v3), some (vI (m (4 :: q0) ((v2 * 60) + v3).toNat))]) C dX8_countPairs_46 (by decide) rfl ?_
      refine aj_iinc (lv' := [some (vO 8 q0), some (vI (v1 + (((m (4 :: q0) ((v2 * 60) + v3).toNat) * ((m (4 :: q0) ((v2 * 60) + v3).toNat) - 1)) / 2))), some (vI v2), some (vI (v3 + 1)), some (vI (m (4 :: q0) ((v2 * 60) + v3).toNat))]) C dX8_countPairs_47 rfl (by decide) rfl ?_
      refine aj_goto (tgt := 17) C dX8_countPairs_50 (by decide) ?_
      refine aj_wk (lv' := [some (vO 8 q0), some (vI (v1 + (((m (4 :: q0) ((v2 * 60) + v3).toNat) * ((m (4 :: q0) ((v2 * 60) + v3).toNat) - 1)) / 2))), some (vI v2), some (vI (v3 + 1)), none]) (⟨rfl, ⟨rfl, ⟨rfl, ⟨rfl, trivial⟩⟩⟩⟩) ?_
      exact ih q0 (v1 + (((m (4 :: q0) ((v2 * 60) + v3).toNat) * ((m (4 :: q0) ((v2 * 60) + v3).toNat) - 1)) / 2)) v2 (v3 + 1) _ hq0 h
def hX8_countPairs_4 (f : Nat) (Φ : Int → aj_M → Prop) : Nat → List Nat → Int → Int → aj_M → Prop
  | 0, _, _, _, _ => False
  | k + 1, q0, v1, v2, m => rI v2 ∧ rI (m (3 :: q0) 0) ∧ ((m (3 :: q0) 0) ≤ v2 → Φ v1 m) ∧ (¬ ((m (3 :: q0) 0) ≤ v2) → hX8_countPairs_17 f Φ (fun q0 v1 v2 m => hX8_countPairs_4 f Φ k q0 v1 v2 m) f q0 v1 v2 0 m)
set_option maxHeartbeats 4000000 in
set_option maxRecDepth 100000 in
theorem tX8_countPairs_4 {X : aj_T} {n f : Nat} {Φ : Int → aj_M → Prop} (C : aj_Cx X cX8_countPairs RX8 5 n) (K : aj_Rt X (some .int) (fun r m => ∃ z, r = some (vI z) ∧ Φ z m)) : ∀ (k : Nat) (q0 : List Nat) (v1 : Int) (v2 : Int) (m : aj_M) (hq0 : (.inl (8, q0) : aj_R) ∈ aj_pls), hX8_countPairs_4 f Φ k q0 v1 v2 m → aj_J X 4 [some (vO 8 q0), some (vI v1), some (vI v2), none, none] [] m := by
  intro k
  induction k with
  | zero =>
    intro q0 v1 v2 m _ h
    exact h.elim
  | succ k ih =>
    intro q0 v1 v2 m hq0 h
    unfold hX8_countPairs_4 at h
    refine aj_iload_n C dX8_countPairs_4 rfl ?_
    refine aj_aload_n C dX8_countPairs_5 rfl ?_
    refine aj_getO (x := 5) (y := 0) C flX8_26 hq0 rfl dX8_countPairs_6 ?_
    refine aj_getI C flX8_53 (aj_cf (x := 5) (y := 0) (j := 3) hq0 (by decide) rfl) (by decide) dX8_countPairs_9 rfl ?_
    obtain ⟨r0, r1, h1, h2⟩ := h
    refine aj_icmp_ge (tgt := 59) C dX8_countPairs_12 (by decide) r0 r1 (fun e => ?_) (fun e => ?_)
    · have h := h1 e
      refine aj_iload_n C dX8_countPairs_59 rfl ?_
      exact aj_iret C K dX8_countPairs_60 ⟨_, rfl, h⟩
    · have h := h2 e
      refine aj_iconst C dX8_countPairs_15 ?_
      refine aj_istore_n (lv' := [some (vO 8 q0), some (vI v1), some (vI v2), some (vI 0), none]) C dX8_countPairs_16 (by decide) rfl ?_
      exact tX8_countPairs_17 C K (fun q0 v1 v2 m hq0 hh => ih q0 v1 v2 m hq0 hh) f q0 v1 v2 0 _ hq0 h
def wX8_countPairs (f : Nat) (Φ : Int → aj_M → Prop) (q0 : List Nat) (m : aj_M) : Prop := hX8_countPairs_4 f Φ f q0 0 0 m
set_option maxHeartbeats 4000000 in
set_option maxRecDepth 100000 in
theorem sX8_countPairs {n f : Nat} {Φ : Int → aj_M → Prop} {q0 : List Nat} {m : aj_M} (hq0 : (.inl (8, q0) : aj_R) ∈ aj_pls) (h : wX8_countPairs f Φ q0 m) : aj_Ct n yX8_countPairs cX8_countPairs 5 (some .int) [vO 8 q0] m (fun r m => ∃ z, r = some (vI z) ∧ Φ z m) := by
  refine aj_met (lv := [some (vO 8 q0), none, none, none, none]) (by decide +kernel) rfl (Nat.le_of_ble_eq_true rfl) (fun X C K => ?_)
  unfold wX8_countPairs at h
  refine aj_iconst C dX8_countPairs_0 ?_
  refine aj_istore_n (lv' := [some (vO 8 q0), some (vI 0), none, none, none]) C dX8_countPairs_1 (by decide) rfl ?_
  refine aj_iconst C dX8_countPairs_2 ?_
  refine aj_istore_n (lv' := [some (vO 8 q0), some (vI 0), some (vI 0), none, none]) C dX8_countPairs_3 (by decide) rfl ?_
  exact tX8_countPairs_4 C K f q0 0 0 _ hq0 h
theorem dX8_knowClosings_0 : decode cX8_knowClosings 0 = .ok (.aload_n 0, 1) := by decide +kernel
theorem dX8_knowClosings_1 : decode cX8_knowClosings 1 = .ok (.getfield 39, 3) := by decide +kernel
theorem dX8_knowClosings_4 : decode cX8_knowClosings 4 = .ok (.iconst 0, 1) := by decide +kernel
theorem dX8_knowClosings_5 : decode cX8_knowClosings 5 = .ok (.invokestatic 119, 3) := by decide +kernel
theorem dX8_knowClosings_8 : decode cX8_knowClosings 8 = .ok (.iconst 0, 1) := by decide +kernel
theorem dX8_knowClosings_9 : decode cX8_knowClosings 9 = .ok (.istore_n 2, 1) := by decide +kernel
theorem dX8_knowClosings_10 : decode cX8_knowClosings 10 = .ok (.iload_n 2, 1) := by decide +kernel
theorem dX8_knowClosings_11 : decode cX8_knowClosings 11 = .ok (.aload_n 0, 1) := by decide +kernel
theorem dX8_knowClosings_12 : decode cX8_knowClosings 12 = .ok (.getfield 36, 3) := by decide +kernel
theorem dX8_knowClosings_15 : decode cX8_knowClosings 15 = .ok (.iload_n 1, 1) := by decide +kernel
theorem dX8_knowClosings_16 : decode cX8_knowClosings 16 = .ok (.iaload, 1) := by decide +kernel
theorem dX8_knowClosings_17 : decode cX8_knowClosings 17 = .ok (.if_icmp .ge 94, 3) := by decide +kernel
theorem dX8_knowClosings_20 : decode cX8_knowClosings 20 = .ok (.aload_n 0, 1) := by decide +kernel
theorem dX8_knowClosings_21 : decode cX8_knowClosings 21 = .ok (.getfield 33, 3) := by decide +kernel
theorem dX8_knowClosings_24 : decode cX8_knowClosings 24 = .ok (.iload_n 1, 1) := by decide +kernel
theorem dX8_knowClosings_25 : decode cX8_knowClosings 25 = .ok (.bipush 60, 2) := by decide +kernel
theorem dX8_knowClosings_27 : decode cX8_knowClosings 27 = .ok (.imul, 1) := by decide +kernel
theorem dX8_knowClosings_28 : decode cX8_knowClosings 28 = .ok (.iload_n 2, 1) := by decide +kernel
theorem dX8_knowClosings_29 : decode cX8_knowClosings 29 = .ok (.iadd, 1) := by decide +kernel
theorem dX8_knowClosings_30 : decode cX8_knowClosings 30 = .ok (.iaload, 1) := by decide +kernel
theorem dX8_knowClosings_31 : decode cX8_knowClosings 31 = .ok (.istore_n 3, 1) := by decide +kernel
theorem dX8_knowClosings_32 : decode cX8_knowClosings 32 = .ok (.iload_n 3, 1) := by decide +kernel
theorem dX8_knowClosings_33 : decode cX8_knowClosings 33 = .ok (.iload_n 1, 1) := by decide +kernel
theorem dX8_knowClosings_34 : decode cX8_knowClosings 34 = .ok (.if_icmp .le 71, 3) := by decide +kernel
theorem dX8_knowClosings_37 : decode cX8_knowClosings 37 = .ok (.iconst 0, 1) := by decide +kernel
theorem dX8_knowClosings_38 : decode cX8_knowClosings 38 = .ok (.istore 4, 2) := by decide +kernel
theorem dX8_knowClosings_40 : decode cX8_knowClosings 40 = .ok (.iload 4, 2) := by decide +kernel
theorem dX8_knowClosings_42 : decode cX8_knowClosings 42 = .ok (.aload_n 0, 1) := by decide +kernel
theorem dX8_knowClosings_43 : decode cX8_knowClosings 43 = .ok (.getfield 36, 3) := by decide +kernel
theorem dX8_knowClosings_46 : decode cX8_knowClosings 46 = .ok (.iload_n 3, 1) := by decide +kernel
theorem dX8_knowClosings_47 : decode cX8_knowClosings 47 = .ok (.iaload, 1) := by decide +kernel
theorem dX8_knowClosings_48 : decode cX8_knowClosings 48 = .ok (.if_icmp .ge 57, 3) := by decide +kernel
theorem dX8_knowClosings_51 : decode cX8_knowClosings 51 = .ok (.aload_n 0, 1) := by decide +kernel
theorem dX8_knowClosings_52 : decode cX8_knowClosings 52 = .ok (.getfield 33, 3) := by decide +kernel
theorem dX8_knowClosings_55 : decode cX8_knowClosings 55 = .ok (.iload_n 3, 1) := by decide +kernel
theorem dX8_knowClosings_56 : decode cX8_knowClosings 56 = .ok (.bipush 60, 2) := by decide +kernel
theorem dX8_knowClosings_58 : decode cX8_knowClosings 58 = .ok (.imul, 1) := by decide +kernel
theorem dX8_knowClosings_59 : decode cX8_knowClosings 59 = .ok (.iload 4, 2) := by decide +kernel
theorem dX8_knowClosings_61 : decode cX8_knowClosings 61 = .ok (.iadd, 1) := by decide +kernel
theorem dX8_knowClosings_62 : decode cX8_knowClosings 62 = .ok (.iaload, 1) := by decide +kernel
theorem dX8_knowClosings_63 : decode cX8_knowClosings 63 = .ok (.istore 5, 2) := by decide +kernel
theorem dX8_knowClosings_65 : decode cX8_knowClosings 65 = .ok (.aload_n 0, 1) := by decide +kernel
theorem dX8_knowClosings_66 : decode cX8_knowClosings 66 = .ok (.getfield 39, 3) := by decide +kernel
theorem dX8_knowClosings_69 : decode cX8_knowClosings 69 = .ok (.iload 5, 2) := by decide +kernel
theorem dX8_knowClosings_71 : decode cX8_knowClosings 71 = .ok (.dup2, 1) := by decide +kernel
theorem dX8_knowClosings_72 : decode cX8_knowClosings 72 = .ok (.iaload, 1) := by decide +kernel
theorem dX8_knowClosings_73 : decode cX8_knowClosings 73 = .ok (.aload_n 0, 1) := by decide +kernel
theorem dX8_knowClosings_74 : decode cX8_knowClosings 74 = .ok (.getfield 30, 3) := by decide +kernel
theorem dX8_knowClosings_77 : decode cX8_knowClosings 77 = .ok (.iload_n 3, 1) := by decide +kernel
theorem dX8_knowClosings_78 : decode cX8_knowClosings 78 = .ok (.bipush 60, 2) := by decide +kernel
theorem dX8_knowClosings_80 : decode cX8_knowClosings 80 = .ok (.imul, 1) := by decide +kernel
theorem dX8_knowClosings_81 : decode cX8_knowClosings 81 = .ok (.iload 5, 2) := by decide +kernel
theorem dX8_knowClosings_83 : decode cX8_knowClosings 83 = .ok (.iadd, 1) := by decide +kernel
theorem dX8_knowClosings_84 : decode cX8_knowClosings 84 = .ok (.iaload, 1) := by decide +kernel
theorem dX8_knowClosings_85 : decode cX8_knowClosings 85 = .ok (.aload_n 0, 1) := by decide +kernel
theorem dX8_knowClosings_86 : decode cX8_knowClosings 86 = .ok (.getfield 30, 3) := by decide +kernel
theorem dX8_knowClosings_89 : decode cX8_knowClosings 89 = .ok (.iload_n 3, 1) := by decide +kernel
theorem dX8_knowClosings_90 : decode cX8_knowClosings 90 = .ok (.bipush 60, 2) := by decide +kernel
theorem dX8_knowClosings_92 : decode cX8_knowClosings 92 = .ok (.imul, 1) := by decide +kernel
theorem dX8_knowClosings_93 : decode cX8_knowClosings 93 = .ok (.iload_n 1, 1) := by decide +kernel
theorem dX8_knowClosings_94 : decode cX8_knowClosings 94 = .ok (.iadd, 1) := by decide +kernel
theorem dX8_knowClosings_95 : decode cX8_knowClosings 95 = .ok (.iaload, 1) := by decide +kernel
theorem dX8_knowClosings_96 : decode cX8_knowClosings 96 = .ok (.imul, 1) := by decide +kernel
theorem dX8_knowClosings_97 : decode cX8_knowClosings 97 = .ok (.iadd, 1) := by decide +kernel
theorem dX8_knowClosings_98 : decode cX8_knowClosings 98 = .ok (.iastore, 1) := by decide +kernel
theorem dX8_knowClosings_99 : decode cX8_knowClosings 99 = .ok (.iinc 4 1, 3) := by decide +kernel
theorem dX8_knowClosings_102 : decode cX8_knowClosings 102 = .ok (.goto (-62), 3) := by decide +kernel
theorem dX8_knowClosings_105 : decode cX8_knowClosings 105 = .ok (.iinc 2 1, 3) := by decide +kernel
theorem dX8_knowClosings_108 : decode cX8_knowClosings 108 = .ok (.goto (-98), 3) := by decide +kernel
theorem dX8_knowClosings_111 : decode cX8_knowClosings 111 = .ok (.return_, 1) := by decide +kernel
def hX8_knowClosings_40 (f : Nat) (Φ : aj_M → Prop) (K10 : List Nat → Int → Int → aj_M → Prop) : Nat → List Nat → Int → Int → Int → Int → aj_M → Prop
  | 0, _, _, _, _, _, _ => False
  | k + 1, q0, v1, v2, v3, v4, m => (0 ≤ v3 ∧ v3 < 60) ∧ rI v4 ∧ rI (m (6 :: q0) v3.toNat) ∧ ((m (6 :: q0) v3.toNat) ≤ v4 → K10 q0 v1 (v2 + 1) m) ∧ (¬ ((m (6 :: q0) v3.toNat) ≤ v4) → (0 ≤ ((v3 * 60) + v4) ∧ ((v3 * 60) + v4) < 3600) ∧ (0 ≤ (m (5 :: q0) ((v3 * 60) + v4).toNat) ∧ (m (5 :: q0) ((v3 * 60) + v4).toNat) < 60) ∧ (0 ≤ ((v3 * 60) + (m (5 :: q0) ((v3 * 60) + v4).toNat)) ∧ ((v3 * 60) + (m (5 :: q0) ((v3 * 60) + v4).toNat)) < 3600) ∧ (0 ≤ ((v3 * 60) + v1) ∧ ((v3 * 60) + v1) < 3600) ∧ (0 ≤ (m (5 :: q0) ((v3 * 60) + v4).toNat) ∧ (m (5 :: q0) ((v3 * 60) + v4).toNat) < 60) ∧ ∀ m1, m1 = aj_u m (7 :: q0) (m (5 :: q0) ((v3 * 60) + v4).toNat).toNat ((m (7 :: q0) (m (5 :: q0) ((v3 * 60) + v4).toNat).toNat) + ((m (4 :: q0) ((v3 * 60) + (m (5 :: q0) ((v3 * 60) + v4).toNat)).toNat) * (m (4 :: q0) ((v3 * 60) + v1).toNat))) → hX8_knowClosings_40 f Φ K10 k q0 v1 v2 v3 (v4 + 1) m1)
set_option maxHeartbeats 4000000 in
set_option maxRecDepth 100000 in
theorem tX8_knowClosings_40 {X : aj_T} {n f : Nat} {Φ : aj_M → Prop} (C : aj_Cx X cX8_knowClosings RX8 6 (n + 1)) (K : aj_Rt X none (fun r m => r = none ∧ Φ m)) {K10 : List Nat → Int → Int → aj_M → Prop} (HK10 : ∀ (q0 : List Nat) (v1 : Int) (v2 : Int) (m : aj_M) (hq0 : (.inl (8, q0) : aj_R) ∈ aj_pls), K10 q0 v1 v2 m → aj_J X 10 [some (vO 8 q0), some (vI v1), some (vI v2), none, none, none] [] m) : ∀ (k : Nat) (q0 : List Nat) (v1 : Int) (v2 : Int) (v3 : Int) (v4 : Int) (m : aj_M) (hq0 : (.inl (8, q0) : aj_R) ∈ aj_pls), hX8_knowClosings_40 f Φ K10 k q0 v1 v2 v3 v4 m → aj_J X 40 [some (vO 8 q0), some (vI v1), some (vI v2), some (vI v3), some (vI v4), none] [] m := by
  intro k
  induction k with
  | zero =>
    intro q0 v1 v2 v3 v4 m _ h
    exact h.elim
  | succ k ih =>
    intro q0 v1 v2 v3 v4 m hq0 h
    unfold hX8_knowClosings_40 at h
    refine aj_iload C dX8_knowClosings_40 rfl ?_
    refine aj_aload_n C dX8_knowClosings_42 rfl ?_
    refine aj_getA (x := 0) (y := 60) C flX8_36 hq0 rfl dX8_knowClosings_43 ?_
    refine aj_iload_n C dX8_knowClosings_46 rfl ?_
    obtain ⟨r0, h⟩ := h
    refine aj_iald C (aj_ca (e := 0) (n := 60) (j := 6) hq0 (by decide) rfl) (by decide) r0 dX8_knowClosings_47 rfl ?_
    obtain ⟨r0, r1, h1, h2⟩ := h
    refine aj_icmp_ge (tgt := 105) C dX8_knowClosings_48 (by decide) r0 r1 (fun e => ?_) (fun e => ?_)
    · have h := h1 e
      refine aj_iinc (lv' := [some (vO 8 q0), some (vI v1), some (vI (v2 + 1)), some (vI v3), some (vI v4), none]) C dX8_knowClosings_105 rfl (by decide) rfl ?_
      refine aj_goto (tgt := 10) C dX8_knowClosings_108 (by decide) ?_
      refine aj_wk (lv' := [some (vO 8 q0), some (vI v1), some (vI (v2 + 1)), none, none, none]) (⟨rfl, ⟨rfl, ⟨rfl, trivial⟩⟩⟩) ?_
      exact HK10 q0 v1 (v2 + 1) _ hq0 h
    · have h := h2 e
      refine aj_aload_n C dX8_knowClosings_51 rfl ?_
      refine aj_getA (x := 0) (y := 3600) C flX8_33 hq0 rfl dX8_knowClosings_52 ?_
      refine aj_iload_n C dX8_knowClosings_55 rfl ?_
      refine aj_bipush C dX8_knowClosings_56 (by decide) ?_
      refine aj_imul C dX8_knowClosings_58 ?_
      refine aj_iload C dX8_knowClosings_59 rfl ?_
      refine aj_iadd C dX8_knowClosings_61 ?_
      obtain ⟨r0, h⟩ := h
      refine aj_iald C (aj_ca (e := 0) (n := 3600) (j := 5) hq0 (by decide) rfl) (by decide) r0 dX8_knowClosings_62 rfl ?_
      refine aj_istore (lv' := [some (vO 8 q0), some (vI v1), some (vI v2), some (vI v3), some (vI v4), some (vI (m (5 :: q0) ((v3 * 60) + v4).toNat))]) C dX8_knowClosings_63 (by decide) rfl ?_
      refine aj_aload_n C dX8_knowClosings_65 rfl ?_
      refine aj_getA (x := 0) (y := 60) C flX8_39 hq0 rfl dX8_knowClosings_66 ?_
      refine aj_iload C dX8_knowClosings_69 rfl ?_
      refine aj_dup2 C aj_nI aj_nR dX8_knowClosings_71 ?_
      obtain ⟨r0, h⟩ := h
      refine aj_iald C (aj_ca (e := 0) (n := 60) (j := 7) hq0 (by decide) rfl) (by decide) r0 dX8_knowClosings_72 rfl ?_
      refine aj_aload_n C dX8_knowClosings_73 rfl ?_
      refine aj_getA (x := 0) (y := 3600) C flX8_30 hq0 rfl dX8_knowClosings_74 ?_
      refine aj_iload_n C dX8_knowClosings_77 rfl ?_
      refine aj_bipush C dX8_knowClosings_78 (by decide) ?_
      refine aj_imul C dX8_knowClosings_80 ?_
      refine aj_iload C dX8_knowClosings_81 rfl ?_
      refine aj_iadd C dX8_knowClosings_83 ?_
      obtain ⟨r0, h⟩ := h
      refine aj_iald C (aj_ca (e := 0) (n := 3600) (j := 4) hq0 (by decide) rfl) (by decide) r0 dX8_knowClosings_84 rfl ?_
      refine aj_aload_n C dX8_knowClosings_85 rfl ?_
      refine aj_getA (x := 0) (y := 3600) C flX8_30 hq0 rfl dX8_knowClosings_86 ?_
      refine aj_iload_n C dX8_knowClosings_89 rfl ?_
      refine aj_bipush C dX8_knowClosings_90 (by decide) ?_
      refine aj_imul C dX8_knowClosings_92 ?_
      refine aj_iload_n C dX8_knowClosings_93 rfl ?_
      refine aj_iadd C dX8_knowClosings_94 ?_
      obtain ⟨r0, h⟩ := h
      refine aj_iald C (aj_ca (e := 0) (n := 3600) (j := 4) hq0 (by decide) rfl) (by decide) r0 dX8_knowClosings_95 rfl ?_
      refine aj_imul C dX8_knowClosings_96 ?_
      refine aj_iadd C dX8_knowClosings_97 ?_
      obtain ⟨r0, h⟩ := h
      refine aj_iast C (aj_ca (e := 0) (n := 60) (j := 7) hq0 (by decide) rfl) (by decide) r0 dX8_knowClosings_98 ?_
      refine aj_nm (fun m1 e1 => ?_)
      have h := h m1 e1
      refine aj_iinc (lv' := [some (vO 8 q0), some (vI v1), some (vI v2), some (vI v3), some (vI (v4 + 1)), some (vI (m (5 :: q0) ((v3 * 60) + v4).toNat))]) C dX8_knowClosings_99 rfl (by decide) rfl ?_
      refine aj_goto (tgt := 40) C dX8_knowClosings_102 (by decide) ?_
      refine aj_wk (lv' := [some (vO 8 q0), some (vI v1), some (vI v2), some (vI v3), some (vI (v4 + 1)), none]) (⟨rfl, ⟨rfl, ⟨rfl, ⟨rfl, ⟨rfl, trivial⟩⟩⟩⟩⟩) ?_
      exact ih q0 v1 v2 v3 (v4 + 1) _ hq0 h
def hX8_knowClosings_10 (f : Nat) (Φ : aj_M → Prop) : Nat → List Nat → Int → Int → aj_M → Prop
  | 0, _, _, _, _ => False
  | k + 1, q0, v1, v2, m => (0 ≤ v1 ∧ v1 < 60) ∧ rI v2 ∧ rI (m (6 :: q0) v1.toNat) ∧ ((m (6 :: q0) v1.toNat) ≤ v2 → Φ m) ∧ (¬ ((m (6 :: q0) v1.toNat) ≤ v2) → (0 ≤ ((v1 * 60) + v2) ∧ ((v1 * 60) + v2) < 3600) ∧ rI (m (5 :: q0) ((v1 * 60) + v2).toNat) ∧ rI v1 ∧ ((m (5 :: q0) ((v1 * 60) + v2).toNat) ≤ v1 → hX8_knowClosings_10 f Φ k q0 v1 (v2 + 1) m) ∧ (¬ ((m (5 :: q0) ((v1 * 60) + v2).toNat) ≤ v1) → hX8_knowClosings_40 f Φ (fun q0 v1 v2 m => hX8_knowClosings_10 f Φ k q0 v1 v2 m) f q0 v1 v2 (m (5 :: q0) ((v1 * 60) + v2).toNat) 0 m))
set_option maxHeartbeats 4000000 in
set_option maxRecDepth 100000 in
theorem tX8_knowClosings_10 {X : aj_T} {n f : Nat} {Φ : aj_M → Prop} (C : aj_Cx X cX8_knowClosings RX8 6 (n + 1)) (K : aj_Rt X none (fun r m => r = none ∧ Φ m)) : ∀ (k : Nat) (q0 : List Nat) (v1 : Int) (v2 : Int) (m : aj_M) (hq0 : (.inl (8, q0) : aj_R) ∈ aj_pls), hX8_knowClosings_10 f Φ k q0 v1 v2 m → aj_J X 10 [some (vO 8 q0), some (vI v1), some (vI v2), none, none, none] [] m := by
  intro k
  induction k with
  | zero =>
    intro q0 v1 v2 m _ h
    exact h.elim
  | succ k ih =>
    intro q0 v1 v2 m hq0 h
    unfold hX8_knowClosings_10 at h
    refine aj_iload_n C dX8_knowClosings_10 rfl ?_
    refine aj_aload_n C dX8_knowClosings_11 rfl ?_
    refine aj_getA (x := 0) (y := 60) C flX8_36 hq0 rfl dX8_knowClosings_12 ?_
    refine aj_iload_n C dX8_knowClosings_15 rfl ?_
    obtain ⟨r0, h⟩ := h
    refine aj_iald C (aj_ca (e := 0) (n := 60) (j := 6) hq0 (by decide) rfl) (by decide) r0 dX8_knowClosings_16 rfl ?_
    obtain ⟨r0, r1, h1, h2⟩ := h
    refine aj_icmp_ge (tgt := 111) C dX8_knowClosings_17 (by decide) r0 r1 (fun e => ?_) (fun e => ?_)
    · have h := h1 e
      exact aj_vret C K dX8_knowClosings_111 ⟨rfl, h⟩
    · have h := h2 e
      refine aj_aload_n C dX8_knowClosings_20 rfl ?_
      refine aj_getA (x := 0) (y := 3600) C flX8_33 hq0 rfl dX8_knowClosings_21 ?_
      refine aj_iload_n C dX8_knowClosings_24 rfl ?_
      refine aj_bipush C dX8_knowClosings_25 (by decide) ?_
      refine aj_imul C dX8_knowClosings_27 ?_
      refine aj_iload_n C dX8_knowClosings_28 rfl ?_
      refine aj_iadd C dX8_knowClosings_29 ?_
      obtain ⟨r0, h⟩ := h
      refine aj_iald C (aj_ca (e := 0) (n := 3600) (j := 5) hq0 (by decide) rfl) (by decide) r0 dX8_knowClosings_30 rfl ?_
      refine aj_istore_n (lv' := [some (vO 8 q0), some (vI v1), some (vI v2), some (vI (m (5 :: q0) ((v1 * 60) + v2).toNat)), none, none]) C dX8_knowClosings_31 (by decide) rfl ?_
      refine aj_iload_n C dX8_knowClosings_32 rfl ?_
      refine aj_iload_n C dX8_knowClosings_33 rfl ?_
      obtain ⟨r0, r1, h1, h2⟩ := h
      refine aj_icmp_le (tgt := 105) C dX8_knowClosings_34 (by decide) r0 r1 (fun e => ?_) (fun e => ?_)
      · have h := h1 e
        refine aj_iinc (lv' := [some (vO 8 q0), some (vI v1), some (vI (v2 + 1)), some (vI (m (5 :: q0) ((v1 * 60) + v2).toNat)), none, none]) C dX8_knowClosings_105 rfl (by decide) rfl ?_
        refine aj_goto (tgt := 10) C dX8_knowClosings_108 (by decide) ?_
        refine aj_wk (lv' := [some (vO 8 q0), some (vI v1), some (vI (v2 + 1)), none, none, none]) (⟨rfl, ⟨rfl, ⟨rfl, trivial⟩⟩⟩) ?_
        exact ih q0 v1 (v2 + 1) _ hq0 h
      · have h := h2 e
        refine aj_iconst C dX8_knowClosings_37 ?_
        refine aj_istore (lv' := [some (vO 8 q0), some (vI v1), some (vI v2), some (vI (m (5 :: q0) ((v1 * 60) + v2).toNat)), some (vI 0), none]) C dX8_knowClosings_38 (by decide) rfl ?_
        exact tX8_knowClosings_40 C K (fun q0 v1 v2 m hq0 hh => ih q0 v1 v2 m hq0 hh) f q0 v1 v2 (m (5 :: q0) ((v1 * 60) + v2).toNat) 0 _ hq0 h
def wX8_knowClosings (f : Nat) (Φ : aj_M → Prop) (q0 : List Nat) (v1 : Int) (m : aj_M) : Prop := wJ7_fill_53178 f (fun m1 => hX8_knowClosings_10 f Φ f q0 v1 0 m1) 60 (7 :: q0) 0 m
set_option maxHeartbeats 4000000 in
set_option maxRecDepth 100000 in
theorem sX8_knowClosings {n f : Nat} {Φ : aj_M → Prop} {q0 : List Nat} {v1 : Int} {m : aj_M} (hq0 : (.inl (8, q0) : aj_R) ∈ aj_pls) (h : wX8_knowClosings f Φ q0 v1 m) : aj_Ct (n + 1) yX8_knowClosings cX8_knowClosings 6 none [vO 8 q0, vI v1] m (fun r m => r = none ∧ Φ m) := by
  refine aj_met (lv := [some (vO 8 q0), some (vI v1), none, none, none, none]) (by decide +kernel) rfl (Nat.le_of_ble_eq_true rfl) (fun X C K => ?_)
  unfold wX8_knowClosings at h
  refine aj_aload_n C dX8_knowClosings_0 rfl ?_
  refine aj_getA (x := 0) (y := 60) C flX8_39 hq0 rfl dX8_knowClosings_1 ?_
  refine aj_iconst C dX8_knowClosings_4 ?_
  refine aj_callS (rest := []) C msX8_119 (sJ7_fill_53178 (aj_ca (e := 0) (n := 60) (j := 7) hq0 (by decide) rfl) (by decide) h) (aj_np 2 (by decide +kernel) rfl) (Nat.le_of_ble_eq_true rfl) rfl dX8_knowClosings_5 (fun r m1 h => ?_)
  obtain ⟨rfl, h⟩ := h
  refine aj_iconst C dX8_knowClosings_8 ?_
  refine aj_istore_n (lv' := [some (vO 8 q0), some (vI v1), some (vI 0), none, none, none]) C dX8_knowClosings_9 (by decide) rfl ?_
  exact tX8_knowClosings_10 C K f q0 v1 0 _ hq0 h
theorem dX8_waysToClose_0 : decode cX8_waysToClose 0 = .ok (.aload_n 0, 1) := by decide +kernel
theorem dX8_waysToClose_1 : decode cX8_waysToClose 1 = .ok (.getfield 39, 3) := by decide +kernel
theorem dX8_waysToClose_4 : decode cX8_waysToClose 4 = .ok (.iload_n 1, 1) := by decide +kernel
theorem dX8_waysToClose_5 : decode cX8_waysToClose 5 = .ok (.iaload, 1) := by decide +kernel
theorem dX8_waysToClose_6 : decode cX8_waysToClose 6 = .ok (.istore_n 3, 1) := by decide +kernel
theorem dX8_waysToClose_7 : decode cX8_waysToClose 7 = .ok (.iconst 1, 1) := by decide +kernel
theorem dX8_waysToClose_8 : decode cX8_waysToClose 8 = .ok (.istore 4, 2) := by decide +kernel
theorem dX8_waysToClose_10 : decode cX8_waysToClose 10 = .ok (.iload 4, 2) := by decide +kernel
theorem dX8_waysToClose_12 : decode cX8_waysToClose 12 = .ok (.iload_n 2, 1) := by decide +kernel
theorem dX8_waysToClose_13 : decode cX8_waysToClose 13 = .ok (.if_icmp .ge 51, 3) := by decide +kernel
theorem dX8_waysToClose_16 : decode cX8_waysToClose 16 = .ok (.aload_n 0, 1) := by decide +kernel
theorem dX8_waysToClose_17 : decode cX8_waysToClose 17 = .ok (.getfield 42, 3) := by decide +kernel
theorem dX8_waysToClose_20 : decode cX8_waysToClose 20 = .ok (.iload 4, 2) := by decide +kernel
theorem dX8_waysToClose_22 : decode cX8_waysToClose 22 = .ok (.iaload, 1) := by decide +kernel
theorem dX8_waysToClose_23 : decode cX8_waysToClose 23 = .ok (.istore 5, 2) := by decide +kernel
theorem dX8_waysToClose_25 : decode cX8_waysToClose 25 = .ok (.iload_n 3, 1) := by decide +kernel
theorem dX8_waysToClose_26 : decode cX8_waysToClose 26 = .ok (.aload_n 0, 1) := by decide +kernel
theorem dX8_waysToClose_27 : decode cX8_waysToClose 27 = .ok (.getfield 30, 3) := by decide +kernel
theorem dX8_waysToClose_30 : decode cX8_waysToClose 30 = .ok (.iload_n 1, 1) := by decide +kernel
theorem dX8_waysToClose_31 : decode cX8_waysToClose 31 = .ok (.bipush 60, 2) := by decide +kernel
theorem dX8_waysToClose_33 : decode cX8_waysToClose 33 = .ok (.imul, 1) := by decide +kernel
theorem dX8_waysToClose_34 : decode cX8_waysToClose 34 = .ok (.iload 5, 2) := by decide +kernel
theorem dX8_waysToClose_36 : decode cX8_waysToClose 36 = .ok (.iadd, 1) := by decide +kernel
theorem dX8_waysToClose_37 : decode cX8_waysToClose 37 = .ok (.iaload, 1) := by decide +kernel
theorem dX8_waysToClose_38 : decode cX8_waysToClose 38 = .ok (.aload_n 0, 1) := by decide +kernel
theorem dX8_waysToClose_39 : decode cX8_waysToClose 39 = .ok (.getfield 30, 3) := by decide +kernel
theorem dX8_waysToClose_42 : decode cX8_waysToClose 42 = .ok (.iload 5, 2) := by decide +kernel
theorem dX8_waysToClose_44 : decode cX8_waysToClose 44 = .ok (.bipush 60, 2) := by decide +kernel
theorem dX8_waysToClose_46 : decode cX8_waysToClose 46 = .ok (.imul, 1) := by decide +kernel
theorem dX8_waysToClose_47 : decode cX8_waysToClose 47 = .ok (.aload_n 0, 1) := by decide +kernel
theorem dX8_waysToClose_48 : decode cX8_waysToClose 48 = .ok (.getfield 42, 3) := by decide +kernel
theorem dX8_waysToClose_51 : decode cX8_waysToClose 51 = .ok (.iconst 0, 1) := by decide +kernel
theorem dX8_waysToClose_52 : decode cX8_waysToClose 52 = .ok (.iaload, 1) := by decide +kernel
theorem dX8_waysToClose_53 : decode cX8_waysToClose 53 = .ok (.iadd, 1) := by decide +kernel
theorem dX8_waysToClose_54 : decode cX8_waysToClose 54 = .ok (.iaload, 1) := by decide +kernel
theorem dX8_waysToClose_55 : decode cX8_waysToClose 55 = .ok (.imul, 1) := by decide +kernel
theorem dX8_waysToClose_56 : decode cX8_waysToClose 56 = .ok (.isub, 1) := by decide +kernel
theorem dX8_waysToClose_57 : decode cX8_waysToClose 57 = .ok (.istore_n 3, 1) := by decide +kernel
theorem dX8_waysToClose_58 : decode cX8_waysToClose 58 = .ok (.iinc 4 1, 3) := by decide +kernel
theorem dX8_waysToClose_61 : decode cX8_waysToClose 61 = .ok (.goto (-51), 3) := by decide +kernel
theorem dX8_waysToClose_64 : decode cX8_waysToClose 64 = .ok (.iload_n 3, 1) := by decide +kernel
theorem dX8_waysToClose_65 : decode cX8_waysToClose 65 = .ok (.i2l, 1) := by decide +kernel
theorem dX8_waysToClose_66 : decode cX8_waysToClose 66 = .ok (.lreturn, 1) := by decide +kernel
def hX8_waysToClose_10 (f : Nat) (Φ : Int → aj_M → Prop) : Nat → List Nat → Int → Int → Int → Int → aj_M → Prop
  | 0, _, _, _, _, _, _ => False
  | k + 1, q0, v1, v2, v3, v4, m => rI v4 ∧ rI v2 ∧ (v2 ≤ v4 → rI v3 ∧ Φ v3 m) ∧ (¬ (v2 ≤ v4) → (0 ≤ v4 ∧ v4 < 6) ∧ (0 ≤ ((v1 * 60) + (m (8 :: q0) v4.toNat)) ∧ ((v1 * 60) + (m (8 :: q0) v4.toNat)) < 3600) ∧ (0 ≤ (((m (8 :: q0) v4.toNat) * 60) + (m (8 :: q0) (0 : Int).toNat)) ∧ (((m (8 :: q0) v4.toNat) * 60) + (m (8 :: q0) (0 : Int).toNat)) < 3600) ∧ hX8_waysToClose_10 f Φ k q0 v1 v2 (v3 - ((m (4 :: q0) ((v1 * 60) + (m (8 :: q0) v4.toNat)).toNat) * (m (4 :: q0) (((m (8 :: q0) v4.toNat) * 60) + (m (8 :: q0) (0 : Int).toNat)).toNat))) (v4 + 1) m)
set_option maxHeartbeats 4000000 in
set_option maxRecDepth 100000 in
theorem tX8_waysToClose_10 {X : aj_T} {n f : Nat} {Φ : Int → aj_M → Prop} (C : aj_Cx X cX8_waysToClose RX8 6 n) (K : aj_Rt X (some .long) (fun r m => ∃ z, r = some (vL z) ∧ Φ z m)) : ∀ (k : Nat) (q0 : List Nat) (v1 : Int) (v2 : Int) (v3 : Int) (v4 : Int) (m : aj_M) (hq0 : (.inl (8, q0) : aj_R) ∈ aj_pls), hX8_waysToClose_10 f Φ k q0 v1 v2 v3 v4 m → aj_J X 10 [some (vO 8 q0), some (vI v1), some (vI v2), some (vI v3), some (vI v4), none] [] m := by
  intro k
  induction k with
  | zero =>
    intro q0 v1 v2 v3 v4 m _ h
    exact h.elim
  | succ k ih =>
    intro q0 v1 v2 v3 v4 m hq0 h
    unfold hX8_waysToClose_10 at h
    refine aj_iload C dX8_waysToClose_10 rfl ?_
    refine aj_iload_n C dX8_waysToClose_12 rfl ?_
    obtain ⟨r0, r1, h1, h2⟩ := h
    refine aj_icmp_ge (tgt := 64) C dX8_waysToClose_13 (by decide) r0 r1 (fun e => ?_) (fun e => ?_)
    · have h := h1 e
      refine aj_iload_n C dX8_waysToClose_64 rfl ?_
      obtain ⟨r0, h⟩ := h
      refine aj_i2l C dX8_waysToClose_65 r0 ?_
      exact aj_lret C K dX8_waysToClose_66 ⟨_, rfl, h⟩
    · have h := h2 e
      refine aj_aload_n C dX8_waysToClose_16 rfl ?_
      refine aj_getA (x := 0) (y := 6) C flX8_42 hq0 rfl dX8_waysToClose_17 ?_
      refine aj_iload C dX8_waysToClose_20 rfl ?_
      obtain ⟨r0, h⟩ := h
      refine aj_iald C (aj_ca (e := 0) (n := 6) (j := 8) hq0 (by decide) rfl) (by decide) r0 dX8_waysToClose_22 rfl ?_
      refine aj_istore (lv' := [some (vO 8 q0), some (vI v1), some (vI v2), some (vI v3), some (vI v4), some (vI (m (8 :: q0) v4.toNat))]) C dX8_waysToClose_23 (by decide) rfl ?_
      refine aj_iload_n C dX8_waysToClose_25 rfl ?_
      refine aj_aload_n C dX8_waysToClose_26 rfl ?_
      refine aj_getA (x := 0) (y := 3600) C flX8_30 hq0 rfl dX8_waysToClose_27 ?_
      refine aj_iload_n C dX8_waysToClose_30 rfl ?_
      refine aj_bipush C dX8_waysToClose_31 (by decide) ?_
      refine aj_imul C dX8_waysToClose_33 ?_
      refine aj_iload C dX8_waysToClose_34 rfl ?_
      refine aj_iadd C dX8_waysToClose_36 ?_
      obtain ⟨r0, h⟩ := h
      refine aj_iald C (aj_ca (e := 0) (n := 3600) (j := 4) hq0 (by decide) rfl) (by decide) r0 dX8_waysToClose_37 rfl ?_
      refine aj_aload_n C dX8_waysToClose_38 rfl ?_
      refine aj_getA (x := 0) (y := 3600) C flX8_30 hq0 rfl dX8_waysToClose_39 ?_
      refine aj_iload C dX8_waysToClose_42 rfl ?_
      refine aj_bipush C dX8_waysToClose_44 (by decide) ?_
      refine aj_imul C dX8_waysToClose_46 ?_
      refine aj_aload_n C dX8_waysToClose_47 rfl ?_
      refine aj_getA (x := 0) (y := 6) C flX8_42 hq0 rfl dX8_waysToClose_48 ?_
      refine aj_iconst C dX8_waysToClose_51 ?_
      refine aj_iald C (aj_ca (e := 0) (n := 6) (j := 8) hq0 (by decide) rfl) (by decide) (by decide) dX8_waysToClose_52 rfl ?_
      refine aj_iadd C dX8_waysToClose_53 ?_
      obtain ⟨r0, h⟩ := h
      refine aj_iald C (aj_ca (e := 0) (n := 3600) (j := 4) hq0 (by decide) rfl) (by decide) r0 dX8_waysToClose_54 rfl ?_
      refine aj_imul C dX8_waysToClose_55 ?_
      refine aj_isub C dX8_waysToClose_56 ?_
      refine aj_istore_n (lv' := [some (vO 8 q0), some (vI v1), some (vI v2), some (vI (v3 - ((m (4 :: q0) ((v1 * 60) + (m (8 :: q0) v4.toNat)).toNat) * (m (4 :: q0) (((m (8 :: q0) v4.toNat) * 60) + (m (8 :: q0) (0 : Int).toNat)).toNat)))), some (vI v4), some (vI (m (8 :: q0) v4.toNat))]) C dX8_waysToClose_57 (by decide) rfl ?_
      refine aj_iinc (lv' := [some (vO 8 q0), some (vI v1), some (vI v2), some (vI (v3 - ((m (4 :: q0) ((v1 * 60) + (m (8 :: q0) v4.toNat)).toNat) * (m (4 :: q0) (((m (8 :: q0) v4.toNat) * 60) + (m (8 :: q0) (0 : Int).toNat)).toNat)))), some (vI (v4 + 1)), some (vI (m (8 :: q0) v4.toNat))]) C dX8_waysToClose_58 rfl (by decide) rfl ?_
      refine aj_goto (tgt := 10) C dX8_waysToClose_61 (by decide) ?_
      refine aj_wk (lv' := [some (vO 8 q0), some (vI v1), some (vI v2), some (vI (v3 - ((m (4 :: q0) ((v1 * 60) + (m (8 :: q0) v4.toNat)).toNat) * (m (4 :: q0) (((m (8 :: q0) v4.toNat) * 60) + (m (8 :: q0) (0 : Int).toNat)).toNat)))), some (vI (v4 + 1)), none]) (⟨rfl, ⟨rfl, ⟨rfl, ⟨rfl, ⟨rfl, trivial⟩⟩⟩⟩⟩) ?_
      exact ih q0 v1 v2 (v3 - ((m (4 :: q0) ((v1 * 60) + (m (8 :: q0) v4.toNat)).toNat) * (m (4 :: q0) (((m (8 :: q0) v4.toNat) * 60) + (m (8 :: q0) (0 : Int).toNat)).toNat))) (v4 + 1) _ hq0 h
def wX8_waysToClose (f : Nat) (Φ : Int → aj_M → Prop) (q0 : List Nat) (v1 : Int) (v2 : Int) (m : aj_M) : Prop := (0 ≤ v1 ∧ v1 < 60) ∧ hX8_waysToClose_10 f Φ f q0 v1 v2 (m (7 :: q0) v1.toNat) 1 m
set_option maxHeartbeats 4000000 in
set_option maxRecDepth 100000 in
theorem sX8_waysToClose {n f : Nat} {Φ : Int → aj_M → Prop} {q0 : List Nat} {v1 : Int} {v2 : Int} {m : aj_M} (hq0 : (.inl (8, q0) : aj_R) ∈ aj_pls) (h : wX8_waysToClose f Φ q0 v1 v2 m) : aj_Ct n yX8_waysToClose cX8_waysToClose 6 (some .long) [vO 8 q0, vI v1, vI v2] m (fun r m => ∃ z, r = some (vL z) ∧ Φ z m) := by
  refine aj_met (lv := [some (vO 8 q0), some (vI v1), some (vI v2), none, none, none]) (by decide +kernel) rfl (Nat.le_of_ble_eq_true rfl) (fun X C K => ?_)
  unfold wX8_waysToClose at h
  refine aj_aload_n C dX8_waysToClose_0 rfl ?_
  refine aj_getA (x := 0) (y := 60) C flX8_39 hq0 rfl dX8_waysToClose_1 ?_
  refine aj_iload_n C dX8_waysToClose_4 rfl ?_
  obtain ⟨r0, h⟩ := h
  refine aj_iald C (aj_ca (e := 0) (n := 60) (j := 7) hq0 (by decide) rfl) (by decide) r0 dX8_waysToClose_5 rfl ?_
  refine aj_istore_n (lv' := [some (vO 8 q0), some (vI v1), some (vI v2), some (vI (m (7 :: q0) v1.toNat)), none, none]) C dX8_waysToClose_6 (by decide) rfl ?_
  refine aj_iconst C dX8_waysToClose_7 ?_
  refine aj_istore (lv' := [some (vO 8 q0), some (vI v1), some (vI v2), some (vI (m (7 :: q0) v1.toNat)), some (vI 1), none]) C dX8_waysToClose_8 (by decide) rfl ?_
  exact tX8_waysToClose_10 C K f q0 v1 v2 (m (7 :: q0) v1.toNat) 1 _ hq0 h
theorem dX8_waysOn_0 : decode cX8_waysOn 0 = .ok (.iload_n 2, 1) := by decide +kernel
theorem dX8_waysOn_1 : decode cX8_waysOn 1 = .ok (.iload_n 3, 1) := by decide +kernel
theorem dX8_waysOn_2 : decode cX8_waysOn 2 = .ok (.iconst 2, 1) := by decide +kernel
theorem dX8_waysOn_3 : decode cX8_waysOn 3 = .ok (.isub, 1) := by decide +kernel
theorem dX8_waysOn_4 : decode cX8_waysOn 4 = .ok (.if_icmp .ge 14, 3) := by decide +kernel
theorem dX8_waysOn_7 : decode cX8_waysOn 7 = .ok (.iload_n 2, 1) := by decide +kernel
theorem dX8_waysOn_8 : decode cX8_waysOn 8 = .ok (.aload_n 0, 1) := by decide +kernel
theorem dX8_waysOn_9 : decode cX8_waysOn 9 = .ok (.getfield 42, 3) := by decide +kernel
theorem dX8_waysOn_12 : decode cX8_waysOn 12 = .ok (.arraylength, 1) := by decide +kernel
theorem dX8_waysOn_13 : decode cX8_waysOn 13 = .ok (.iconst 1, 1) := by decide +kernel
theorem dX8_waysOn_14 : decode cX8_waysOn 14 = .ok (.isub, 1) := by decide +kernel
theorem dX8_waysOn_15 : decode cX8_waysOn 15 = .ok (.if_icmp .lt 10, 3) := by decide +kernel
theorem dX8_waysOn_18 : decode cX8_waysOn 18 = .ok (.aload_n 0, 1) := by decide +kernel
theorem dX8_waysOn_19 : decode cX8_waysOn 19 = .ok (.iload_n 1, 1) := by decide +kernel
theorem dX8_waysOn_20 : decode cX8_waysOn 20 = .ok (.iload_n 2, 1) := by decide +kernel
theorem dX8_waysOn_21 : decode cX8_waysOn 21 = .ok (.invokevirtual 129, 3) := by decide +kernel
theorem dX8_waysOn_24 : decode cX8_waysOn 24 = .ok (.lreturn, 1) := by decide +kernel
theorem dX8_waysOn_25 : decode cX8_waysOn 25 = .ok (.lconst 0, 1) := by decide +kernel
theorem dX8_waysOn_26 : decode cX8_waysOn 26 = .ok (.lstore 4, 2) := by decide +kernel
theorem dX8_waysOn_28 : decode cX8_waysOn 28 = .ok (.aload_n 0, 1) := by decide +kernel
theorem dX8_waysOn_29 : decode cX8_waysOn 29 = .ok (.dup, 1) := by decide +kernel
theorem dX8_waysOn_30 : decode cX8_waysOn 30 = .ok (.getfield 45, 3) := by decide +kernel
theorem dX8_waysOn_33 : decode cX8_waysOn 33 = .ok (.lconst 1, 1) := by decide +kernel
theorem dX8_waysOn_34 : decode cX8_waysOn 34 = .ok (.iload_n 1, 1) := by decide +kernel
theorem dX8_waysOn_35 : decode cX8_waysOn 35 = .ok (.lshl, 1) := by decide +kernel
theorem dX8_waysOn_36 : decode cX8_waysOn 36 = .ok (.lor, 1) := by decide +kernel
theorem dX8_waysOn_37 : decode cX8_waysOn 37 = .ok (.putfield 45, 3) := by decide +kernel
theorem dX8_waysOn_40 : decode cX8_waysOn 40 = .ok (.iconst 0, 1) := by decide +kernel
theorem dX8_waysOn_41 : decode cX8_waysOn 41 = .ok (.istore 6, 2) := by decide +kernel
theorem dX8_waysOn_43 : decode cX8_waysOn 43 = .ok (.iload 6, 2) := by decide +kernel
theorem dX8_waysOn_45 : decode cX8_waysOn 45 = .ok (.aload_n 0, 1) := by decide +kernel
theorem dX8_waysOn_46 : decode cX8_waysOn 46 = .ok (.getfield 36, 3) := by decide +kernel
theorem dX8_waysOn_49 : decode cX8_waysOn 49 = .ok (.iload_n 1, 1) := by decide +kernel
theorem dX8_waysOn_50 : decode cX8_waysOn 50 = .ok (.iaload, 1) := by decide +kernel
theorem dX8_waysOn_51 : decode cX8_waysOn 51 = .ok (.if_icmp .ge 87, 3) := by decide +kernel
theorem dX8_waysOn_54 : decode cX8_waysOn 54 = .ok (.aload_n 0, 1) := by decide +kernel
theorem dX8_waysOn_55 : decode cX8_waysOn 55 = .ok (.getfield 33, 3) := by decide +kernel
theorem dX8_waysOn_58 : decode cX8_waysOn 58 = .ok (.iload_n 1, 1) := by decide +kernel
theorem dX8_waysOn_59 : decode cX8_waysOn 59 = .ok (.bipush 60, 2) := by decide +kernel
theorem dX8_waysOn_61 : decode cX8_waysOn 61 = .ok (.imul, 1) := by decide +kernel
theorem dX8_waysOn_62 : decode cX8_waysOn 62 = .ok (.iload 6, 2) := by decide +kernel
theorem dX8_waysOn_64 : decode cX8_waysOn 64 = .ok (.iadd, 1) := by decide +kernel
theorem dX8_waysOn_65 : decode cX8_waysOn 65 = .ok (.iaload, 1) := by decide +kernel
theorem dX8_waysOn_66 : decode cX8_waysOn 66 = .ok (.istore 7, 2) := by decide +kernel
theorem dX8_waysOn_68 : decode cX8_waysOn 68 = .ok (.iload 7, 2) := by decide +kernel
theorem dX8_waysOn_70 : decode cX8_waysOn 70 = .ok (.aload_n 0, 1) := by decide +kernel
theorem dX8_waysOn_71 : decode cX8_waysOn 71 = .ok (.getfield 42, 3) := by decide +kernel
theorem dX8_waysOn_74 : decode cX8_waysOn 74 = .ok (.iconst 0, 1) := by decide +kernel
theorem dX8_waysOn_75 : decode cX8_waysOn 75 = .ok (.iaload, 1) := by decide +kernel
theorem dX8_waysOn_76 : decode cX8_waysOn 76 = .ok (.if_icmp .le 56, 3) := by decide +kernel
theorem dX8_waysOn_79 : decode cX8_waysOn 79 = .ok (.aload_n 0, 1) := by decide +kernel
theorem dX8_waysOn_80 : decode cX8_waysOn 80 = .ok (.getfield 45, 3) := by decide +kernel
theorem dX8_waysOn_83 : decode cX8_waysOn 83 = .ok (.iload 7, 2) := by decide +kernel
theorem dX8_waysOn_85 : decode cX8_waysOn 85 = .ok (.lshr, 1) := by decide +kernel
theorem dX8_waysOn_86 : decode cX8_waysOn 86 = .ok (.lconst 1, 1) := by decide +kernel
theorem dX8_waysOn_87 : decode cX8_waysOn 87 = .ok (.land, 1) := by decide +kernel
theorem dX8_waysOn_88 : decode cX8_waysOn 88 = .ok (.lconst 0, 1) := by decide +kernel
theorem dX8_waysOn_89 : decode cX8_waysOn 89 = .ok (.lcmp, 1) := by decide +kernel
theorem dX8_waysOn_90 : decode cX8_waysOn 90 = .ok (.ifCond .ne 42, 3) := by decide +kernel
theorem dX8_waysOn_93 : decode cX8_waysOn 93 = .ok (.aload_n 0, 1) := by decide +kernel
theorem dX8_waysOn_94 : decode cX8_waysOn 94 = .ok (.getfield 42, 3) := by decide +kernel
theorem dX8_waysOn_97 : decode cX8_waysOn 97 = .ok (.iload_n 2, 1) := by decide +kernel
theorem dX8_waysOn_98 : decode cX8_waysOn 98 = .ok (.iconst 1, 1) := by decide +kernel
theorem dX8_waysOn_99 : decode cX8_waysOn 99 = .ok (.iadd, 1) := by decide +kernel
theorem dX8_waysOn_100 : decode cX8_waysOn 100 = .ok (.iload 7, 2) := by decide +kernel
theorem dX8_waysOn_102 : decode cX8_waysOn 102 = .ok (.iastore, 1) := by decide +kernel
theorem dX8_waysOn_103 : decode cX8_waysOn 103 = .ok (.lload 4, 2) := by decide +kernel
theorem dX8_waysOn_105 : decode cX8_waysOn 105 = .ok (.aload_n 0, 1) := by decide +kernel
theorem dX8_waysOn_106 : decode cX8_waysOn 106 = .ok (.getfield 30, 3) := by decide +kernel
theorem dX8_waysOn_109 : decode cX8_waysOn 109 = .ok (.iload_n 1, 1) := by decide +kernel
theorem dX8_waysOn_110 : decode cX8_waysOn 110 = .ok (.bipush 60, 2) := by decide +kernel
theorem dX8_waysOn_112 : decode cX8_waysOn 112 = .ok (.imul, 1) := by decide +kernel
theorem dX8_waysOn_113 : decode cX8_waysOn 113 = .ok (.iload 7, 2) := by decide +kernel
theorem dX8_waysOn_115 : decode cX8_waysOn 115 = .ok (.iadd, 1) := by decide +kernel
theorem dX8_waysOn_116 : decode cX8_waysOn 116 = .ok (.iaload, 1) := by decide +kernel
theorem dX8_waysOn_117 : decode cX8_waysOn 117 = .ok (.i2l, 1) := by decide +kernel
theorem dX8_waysOn_118 : decode cX8_waysOn 118 = .ok (.aload_n 0, 1) := by decide +kernel
theorem dX8_waysOn_119 : decode cX8_waysOn 119 = .ok (.iload 7, 2) := by decide +kernel
theorem dX8_waysOn_121 : decode cX8_waysOn 121 = .ok (.iload_n 2, 1) := by decide +kernel
theorem dX8_waysOn_122 : decode cX8_waysOn 122 = .ok (.iconst 1, 1) := by decide +kernel
theorem dX8_waysOn_123 : decode cX8_waysOn 123 = .ok (.iadd, 1) := by decide +kernel
theorem dX8_waysOn_124 : decode cX8_waysOn 124 = .ok (.iload_n 3, 1) := by decide +kernel
theorem dX8_waysOn_125 : decode cX8_waysOn 125 = .ok (.invokevirtual 104, 3) := by decide +kernel
theorem dX8_waysOn_128 : decode cX8_waysOn 128 = .ok (.lmul, 1) := by decide +kernel
theorem dX8_waysOn_129 : decode cX8_waysOn 129 = .ok (.ladd, 1) := by decide +kernel
theorem dX8_waysOn_130 : decode cX8_waysOn 130 = .ok (.lstore 4, 2) := by decide +kernel
theorem dX8_waysOn_132 : decode cX8_waysOn 132 = .ok (.iinc 6 1, 3) := by decide +kernel
theorem dX8_waysOn_135 : decode cX8_waysOn 135 = .ok (.goto (-92), 3) := by decide +kernel
theorem dX8_waysOn_138 : decode cX8_waysOn 138 = .ok (.aload_n 0, 1) := by decide +kernel
theorem dX8_waysOn_139 : decode cX8_waysOn 139 = .ok (.dup, 1) := by decide +kernel
theorem dX8_waysOn_140 : decode cX8_waysOn 140 = .ok (.getfield 45, 3) := by decide +kernel
theorem dX8_waysOn_143 : decode cX8_waysOn 143 = .ok (.lconst 1, 1) := by decide +kernel
theorem dX8_waysOn_144 : decode cX8_waysOn 144 = .ok (.iload_n 1, 1) := by decide +kernel
theorem dX8_waysOn_145 : decode cX8_waysOn 145 = .ok (.lshl, 1) := by decide +kernel
theorem dX8_waysOn_146 : decode cX8_waysOn 146 = .ok (.ldc2_w 70, 3) := by decide +kernel
theorem dX8_waysOn_149 : decode cX8_waysOn 149 = .ok (.lxor, 1) := by decide +kernel
theorem dX8_waysOn_150 : decode cX8_waysOn 150 = .ok (.land, 1) := by decide +kernel
theorem dX8_waysOn_151 : decode cX8_waysOn 151 = .ok (.putfield 45, 3) := by decide +kernel
theorem dX8_waysOn_154 : decode cX8_waysOn 154 = .ok (.lload 4, 2) := by decide +kernel
theorem dX8_waysOn_156 : decode cX8_waysOn 156 = .ok (.lreturn, 1) := by decide +kernel
def hX8_waysOn_43 (f : Nat) (Φ : Int → aj_M → Prop) (R : Nat → (Int → aj_M → Prop) → List Nat → Int → Int → Int → aj_M → Prop) : Nat → List Nat → Int → Int → Int → Int → Int → aj_M → Prop
  | 0, _, _, _, _, _, _, _ => False
  | k + 1, q0, v1, v2, v3, w4, v6, m => (0 ≤ v1 ∧ v1 < 60) ∧ rI v6 ∧ rI (m (6 :: q0) v1.toNat) ∧ ((m (6 :: q0) v1.toNat) ≤ v6 → ∀ m1, m1 = aj_u m q0 9 (aj_landL (m q0 9) (aj_lxorL (aj_lshl 1 v1) (-1))) → Φ w4 m1) ∧ (¬ ((m (6 :: q0) v1.toNat) ≤ v6) → (0 ≤ ((v1 * 60) + v6) ∧ ((v1 * 60) + v6) < 3600) ∧ rI (m (5 :: q0) ((v1 * 60) + v6).toNat) ∧ rI (m (8 :: q0) (0 : Int).toNat) ∧ ((m (5 :: q0) ((v1 * 60) + v6).toNat) ≤ (m (8 :: q0) (0 : Int).toNat) → hX8_waysOn_43 f Φ R k q0 v1 v2 v3 w4 (v6 + 1) m) ∧ (¬ ((m (5 :: q0) ((v1 * 60) + v6).toNat) ≤ (m (8 :: q0) (0 : Int).toNat)) → rL (aj_landL (aj_lshr (m q0 9) (m (5 :: q0) ((v1 * 60) + v6).toNat)) 1) ∧ (¬ (aj_landL (aj_lshr (m q0 9) (m (5 :: q0) ((v1 * 60) + v6).toNat)) 1) = 0 → hX8_waysOn_43 f Φ R k q0 v1 v2 v3 w4 (v6 + 1) m) ∧ ((aj_landL (aj_lshr (m q0 9) (m (5 :: q0) ((v1 * 60) + v6).toNat)) 1) = 0 → (0 ≤ (v2 + 1) ∧ (v2 + 1) < 6) ∧ ∀ m2, m2 = aj_u m (8 :: q0) (v2 + 1).toNat (m (5 :: q0) ((v1 * 60) + v6).toNat) → (0 ≤ ((v1 * 60) + (m (5 :: q0) ((v1 * 60) + v6).toNat)) ∧ ((v1 * 60) + (m (5 :: q0) ((v1 * 60) + v6).toNat)) < 3600) ∧ rI (m2 (4 :: q0) ((v1 * 60) + (m (5 :: q0) ((v1 * 60) + v6).toNat)).toNat) ∧ R 0 (fun z1 m3 => hX8_waysOn_43 f Φ R k q0 v1 v2 v3 (w4 + ((m2 (4 :: q0) ((v1 * 60) + (m (5 :: q0) ((v1 * 60) + v6).toNat)).toNat) * z1)) (v6 + 1) m3) q0 (m (5 :: q0) ((v1 * 60) + v6).toNat) (v2 + 1) v3 m2)))
set_option maxHeartbeats 4000000 in
set_option maxRecDepth 100000 in
theorem tX8_waysOn_43 {X : aj_T} {n f : Nat} {Φ : Int → aj_M → Prop} (C : aj_Cx X cX8_waysOn RX8 8 (n + 2)) (K : aj_Rt X (some .long) (fun r m => ∃ z, r = some (vL z) ∧ Φ z m)) {R : Nat → (Int → aj_M → Prop) → List Nat → Int → Int → Int → aj_M → Prop} (HR0 : ∀ (Φ : Int → aj_M → Prop) (q0 : List Nat) (v1 : Int) (v2 : Int) (v3 : Int) (m : aj_M) (hq0 : (.inl (8, q0) : aj_R) ∈ aj_pls), R 0 Φ q0 v1 v2 v3 m → aj_Ct (n + 1) yX8_waysOn cX8_waysOn 8 (some .long) [vO 8 q0, vI v1, vI v2, vI v3] m (fun r m => ∃ z, r = some (vL z) ∧ Φ z m)) : ∀ (k : Nat) (q0 : List Nat) (v1 : Int) (v2 : Int) (v3 : Int) (w4 : Int) (v6 : Int) (m : aj_M) (hq0 : (.inl (8, q0) : aj_R) ∈ aj_pls), hX8_waysOn_43 f Φ R k q0 v1 v2 v3 w4 v6 m → aj_J X 43 [some (vO 8 q0), some (vI v1), some (vI v2), some (vI v3), some (vL w4), none, some (vI v6), none] [] m := by
  intro k
  induction k with
  | zero =>
    intro q0 v1 v2 v3 w4 v6 m _ h
    exact h.elim
  | succ k ih =>
    intro q0 v1 v2 v3 w4 v6 m hq0 h
    unfold hX8_waysOn_43 at h
    refine aj_iload C dX8_waysOn_43 rfl ?_
    refine aj_aload_n C dX8_waysOn_45 rfl ?_
    refine aj_getA (x := 0) (y := 60) C flX8_36 hq0 rfl dX8_waysOn_46 ?_
    refine aj_iload_n C dX8_waysOn_49 rfl ?_
    obtain ⟨r0, h⟩ := h
    refine aj_iald C (aj_ca (e := 0) (n := 60) (j := 6) hq0 (by decide) rfl) (by decide) r0 dX8_waysOn_50 rfl ?_
    obtain ⟨r0, r1, h1, h2⟩ := h
    refine aj_icmp_ge (tgt := 138) C dX8_waysOn_51 (by decide) r0 r1 (fun e => ?_) (fun e => ?_)
    · have h := h1 e
      refine aj_aload_n C dX8_waysOn_138 rfl ?_
      refine aj_dup C aj_nR dX8_waysOn_139 ?_
      refine aj_getL C flX8_45 hq0 rfl dX8_waysOn_140 rfl ?_
      refine aj_lconst (z := 1) C dX8_waysOn_143 rfl ?_
      refine aj_iload_n C dX8_waysOn_144 rfl ?_
      refine aj_lshl_ C dX8_waysOn_145 ?_
      refine aj_ldc2 (z := (-1)) C (wd1219) rfl dX8_waysOn_146 ?_
      refine aj_lxor C dX8_waysOn_149 ?_
      refine aj_land C dX8_waysOn_150 ?_
      refine aj_putL C fpX8_45 hq0 rfl dX8_waysOn_151 ?_
      refine aj_nm (fun m1 e1 => ?_)
      have h := h m1 e1
      refine aj_lload C dX8_waysOn_154 rfl ?_
      exact aj_lret C K dX8_waysOn_156 ⟨_, rfl, h⟩
    · have h := h2 e
      refine aj_aload_n C dX8_waysOn_54 rfl ?_
      refine aj_getA (x := 0) (y := 3600) C flX8_33 hq0 rfl dX8_waysOn_55 ?_
      refine aj_iload_n C dX8_waysOn_58 rfl ?_
      refine aj_bipush C dX8_waysOn_59 (by decide) ?_
      refine aj_imul C dX8_waysOn_61 ?_
      refine aj_iload C dX8_waysOn_62 rfl ?_
      refine aj_iadd C dX8_waysOn_64 ?_
      obtain ⟨r0, h⟩ := h
      refine aj_iald C (aj_ca (e := 0) (n := 3600) (j := 5) hq0 (by decide) rfl) (by decide) r0 dX8_waysOn_65 rfl ?_
      refine aj_istore (lv' := [some (vO 8 q0), some (vI v1), some (vI v2), some (vI v3), some (vL w4), none, some (vI v6), some (vI (m (5 :: q0) ((v1 * 60) + v6).toNat))]) C dX8_waysOn_66 (by decide) rfl ?_
      refine aj_iload C dX8_waysOn_68 rfl ?_
      refine aj_aload_n C dX8_waysOn_70 rfl ?_
      refine aj_getA (x := 0) (y := 6) C flX8_42 hq0 rfl dX8_waysOn_71 ?_
      refine aj_iconst C dX8_waysOn_74 ?_
      refine aj_iald C (aj_ca (e := 0) (n := 6) (j := 8) hq0 (by decide) rfl) (by decide) (by decide) dX8_waysOn_75 rfl ?_
      obtain ⟨r0, r1, h1, h2⟩ := h
      refine aj_icmp_le (tgt := 132) C dX8_waysOn_76 (by decide) r0 r1 (fun e => ?_) (fun e => ?_)
      · have h := h1 e
        refine aj_iinc (lv' := [some (vO 8 q0), some (vI v1), some (vI v2), some (vI v3), some (vL w4), none, some (vI (v6 + 1)), some (vI (m (5 :: q0) ((v1 * 60) + v6).toNat))]) C dX8_waysOn_132 rfl (by decide) rfl ?_
        refine aj_goto (tgt := 43) C dX8_waysOn_135 (by decide) ?_
        refine aj_wk (lv' := [some (vO 8 q0), some (vI v1), some (vI v2), some (vI v3), some (vL w4), none, some (vI (v6 + 1)), none]) (⟨rfl, ⟨rfl, ⟨rfl, ⟨rfl, ⟨rfl, ⟨rfl, trivial⟩⟩⟩⟩⟩⟩) ?_
        exact ih q0 v1 v2 v3 w4 (v6 + 1) _ hq0 h
      · have h := h2 e
        refine aj_aload_n C dX8_waysOn_79 rfl ?_
        refine aj_getL C flX8_45 hq0 rfl dX8_waysOn_80 rfl ?_
        refine aj_iload C dX8_waysOn_83 rfl ?_
        refine aj_lshr_ C dX8_waysOn_85 ?_
        refine aj_lconst (z := 1) C dX8_waysOn_86 rfl ?_
        refine aj_land C dX8_waysOn_87 ?_
        refine aj_lconst (z := 0) C dX8_waysOn_88 rfl ?_
        obtain ⟨r0, h1, h2⟩ := h
        refine aj_lcmp_ne (tgt := 132) C dX8_waysOn_89 dX8_waysOn_90 (by decide) r0 (by decide) (fun e => ?_) (fun e => ?_)
        · have h := h1 e
          refine aj_iinc (lv' := [some (vO 8 q0), some (vI v1), some (vI v2), some (vI v3), some (vL w4), none, some (vI (v6 + 1)), some (vI (m (5 :: q0) ((v1 * 60) + v6).toNat))]) C dX8_waysOn_132 rfl (by decide) rfl ?_
          refine aj_goto (tgt := 43) C dX8_waysOn_135 (by decide) ?_
          refine aj_wk (lv' := [some (vO 8 q0), some (vI v1), some (vI v2), some (vI v3), some (vL w4), none, some (vI (v6 + 1)), none]) (⟨rfl, ⟨rfl, ⟨rfl, ⟨rfl, ⟨rfl, ⟨rfl, trivial⟩⟩⟩⟩⟩⟩) ?_
          exact ih q0 v1 v2 v3 w4 (v6 + 1) _ hq0 h
        · have h := h2 e
          refine aj_aload_n C dX8_waysOn_93 rfl ?_
          refine aj_getA (x := 0) (y := 6) C flX8_42 hq0 rfl dX8_waysOn_94 ?_
          refine aj_iload_n C dX8_waysOn_97 rfl ?_
          refine aj_iconst C dX8_waysOn_98 ?_
          refine aj_iadd C dX8_waysOn_99 ?_
          refine aj_iload C dX8_waysOn_100 rfl ?_
          obtain ⟨r0, h⟩ := h
          refine aj_iast C (aj_ca (e := 0) (n := 6) (j := 8) hq0 (by decide) rfl) (by decide) r0 dX8_waysOn_102 ?_
          refine aj_nm (fun m2 e1 => ?_)
          have h := h m2 e1
          refine aj_lload C dX8_waysOn_103 rfl ?_
          refine aj_aload_n C dX8_waysOn_105 rfl ?_
          refine aj_getA (x := 0) (y := 3600) C flX8_30 hq0 rfl dX8_waysOn_106 ?_
          refine aj_iload_n C dX8_waysOn_109 rfl ?_
          refine aj_bipush C dX8_waysOn_110 (by decide) ?_
          refine aj_imul C dX8_waysOn_112 ?_
          refine aj_iload C dX8_waysOn_113 rfl ?_
          refine aj_iadd C dX8_waysOn_115 ?_
          obtain ⟨r0, h⟩ := h
          refine aj_iald C (aj_ca (e := 0) (n := 3600) (j := 4) hq0 (by decide) rfl) (by decide) r0 dX8_waysOn_116 rfl ?_
          obtain ⟨r0, h⟩ := h
          refine aj_i2l C dX8_waysOn_117 r0 ?_
          refine aj_aload_n C dX8_waysOn_118 rfl ?_
          refine aj_iload C dX8_waysOn_119 rfl ?_
          refine aj_iload_n C dX8_waysOn_121 rfl ?_
          refine aj_iconst C dX8_waysOn_122 ?_
          refine aj_iadd C dX8_waysOn_123 ?_
          refine aj_iload_n C dX8_waysOn_124 rfl ?_
          refine aj_callV (rest := [vL (m2 (4 :: q0) ((v1 * 60) + (m (5 :: q0) ((v1 * 60) + v6).toNat)).toNat), vL w4]) C mvX8_104 (HR0 _ q0 (m (5 :: q0) ((v1 * 60) + v6).toNat) (v2 + 1) v3 _ hq0 h) hq0 (aj_np 3 (by decide +kernel) rfl) (Nat.le_of_ble_eq_true rfl) rfl dX8_waysOn_125 (fun r m3 h => ?_)
          obtain ⟨z1, rfl, h⟩ := h
          refine aj_lmul C dX8_waysOn_128 ?_
          refine aj_ladd C dX8_waysOn_129 ?_
          refine aj_lstore (lv' := [some (vO 8 q0), some (vI v1), some (vI v2), some (vI v3), some (vL (w4 + ((m2 (4 :: q0) ((v1 * 60) + (m (5 :: q0) ((v1 * 60) + v6).toNat)).toNat) * z1))), none, some (vI v6), some (vI (m (5 :: q0) ((v1 * 60) + v6).toNat))]) C dX8_waysOn_130 (by decide) rfl ?_
          refine aj_iinc (lv' := [some (vO 8 q0), some (vI v1), some (vI v2), some (vI v3), some (vL (w4 + ((m2 (4 :: q0) ((v1 * 60) + (m (5 :: q0) ((v1 * 60) + v6).toNat)).toNat) * z1))), none, some (vI (v6 + 1)), some (vI (m (5 :: q0) ((v1 * 60) + v6).toNat))]) C dX8_waysOn_132 rfl (by decide) rfl ?_
          refine aj_goto (tgt := 43) C dX8_waysOn_135 (by decide) ?_
          refine aj_wk (lv' := [some (vO 8 q0), some (vI v1), some (vI v2), some (vI v3), some (vL (w4 + ((m2 (4 :: q0) ((v1 * 60) + (m (5 :: q0) ((v1 * 60) + v6).toNat)).toNat) * z1))), none, some (vI (v6 + 1)), none]) (⟨rfl, ⟨rfl, ⟨rfl, ⟨rfl, ⟨rfl, ⟨rfl, trivial⟩⟩⟩⟩⟩⟩) ?_
          exact ih q0 v1 v2 v3 (w4 + ((m2 (4 :: q0) ((v1 * 60) + (m (5 :: q0) ((v1 * 60) + v6).toNat)).toNat) * z1)) (v6 + 1) _ hq0 h
def wbX8_waysOn (f : Nat) (Φ : Int → aj_M → Prop) (R : Nat → (Int → aj_M → Prop) → List Nat → Int → Int → Int → aj_M → Prop) (q0 : List Nat) (v1 : Int) (v2 : Int) (v3 : Int) (m : aj_M) : Prop := rI v2 ∧ rI (v3 - 2) ∧ ((v3 - 2) ≤ v2 → wX8_waysToClose f (fun z1 m1 => Φ z1 m1) q0 v1 v2 m) ∧ (¬ ((v3 - 2) ≤ v2) → rI v2 ∧ rI (6 - 1) ∧ (v2 < (6 - 1) → ∀ m2, m2 = aj_u m q0 9 (aj_lorL (m q0 9) (aj_lshl 1 v1)) → hX8_waysOn_43 f Φ R f q0 v1 v2 v3 0 0 m2) ∧ (¬ (v2 < (6 - 1)) → wX8_waysToClose f (fun z2 m3 => Φ z2 m3) q0 v1 v2 m))
set_option maxHeartbeats 4000000 in
set_option maxRecDepth 100000 in
theorem sbX8_waysOn {n f : Nat} {Φ : Int → aj_M → Prop} {R : Nat → (Int → aj_M → Prop) → List Nat → Int → Int → Int → aj_M → Prop} (HR0 : ∀ (Φ : Int → aj_M → Prop) (q0 : List Nat) (v1 : Int) (v2 : Int) (v3 : Int) (m : aj_M) (hq0 : (.inl (8, q0) : aj_R) ∈ aj_pls), R 0 Φ q0 v1 v2 v3 m → aj_Ct (n + 1) yX8_waysOn cX8_waysOn 8 (some .long) [vO 8 q0, vI v1, vI v2, vI v3] m (fun r m => ∃ z, r = some (vL z) ∧ Φ z m)) {q0 : List Nat} {v1 : Int} {v2 : Int} {v3 : Int} {m : aj_M} (hq0 : (.inl (8, q0) : aj_R) ∈ aj_pls) (h : wbX8_waysOn f Φ R q0 v1 v2 v3 m) : aj_Ct (n + 2) yX8_waysOn cX8_waysOn 8 (some .long) [vO 8 q0, vI v1, vI v2, vI v3] m (fun r m => ∃ z, r = some (vL z) ∧ Φ z m) := by
  refine aj_met (lv := [some (vO 8 q0), some (vI v1), some (vI v2), some (vI v3), none, none, none, none]) (by decide +kernel) rfl (Nat.le_of_ble_eq_true rfl) (fun X C K => ?_)
  unfold wbX8_waysOn at h
  refine aj_iload_n C dX8_waysOn_0 rfl ?_
  refine aj_iload_n C dX8_waysOn_1 rfl ?_
  refine aj_iconst C dX8_waysOn_2 ?_
  refine aj_isub C dX8_waysOn_3 ?_
  obtain ⟨r0, r1, h1, h2⟩ := h
  refine aj_icmp_ge (tgt := 18) C dX8_waysOn_4 (by decide) r0 r1 (fun e => ?_) (fun e => ?_)
  · have h := h1 e
    refine aj_aload_n C dX8_waysOn_18 rfl ?_
    refine aj_iload_n C dX8_waysOn_19 rfl ?_
    refine aj_iload_n C dX8_waysOn_20 rfl ?_
    refine aj_callV (rest := []) C mvX8_129 (sX8_waysToClose hq0 h) hq0 (aj_np 2 (by decide +kernel) rfl) (Nat.le_of_ble_eq_true rfl) rfl dX8_waysOn_21 (fun r m1 h => ?_)
    obtain ⟨z1, rfl, h⟩ := h
    exact aj_lret C K dX8_waysOn_24 ⟨_, rfl, h⟩
  · have h := h2 e
    refine aj_iload_n C dX8_waysOn_7 rfl ?_
    refine aj_aload_n C dX8_waysOn_8 rfl ?_
    refine aj_getA (x := 0) (y := 6) C flX8_42 hq0 rfl dX8_waysOn_9 ?_
    refine aj_alen C (aj_ca (e := 0) (n := 6) (j := 8) hq0 (by decide) rfl) (fun _ => rfl) dX8_waysOn_12 ?_
    refine aj_iconst C dX8_waysOn_13 ?_
    refine aj_isub C dX8_waysOn_14 ?_
    obtain ⟨r0, r1, h1, h2⟩ := h
    refine aj_icmp_lt (tgt := 25) C dX8_waysOn_15 (by decide) r0 r1 (fun e => ?_) (fun e => ?_)
    · have h := h1 e
      refine aj_lconst (z := 0) C dX8_waysOn_25 rfl ?_
      refine aj_lstore (lv' := [some (vO 8 q0), some (vI v1), some (vI v2), some (vI v3), some (vL 0), none, none, none]) C dX8_waysOn_26 (by decide) rfl ?_
      refine aj_aload_n C dX8_waysOn_28 rfl ?_
      refine aj_dup C aj_nR dX8_waysOn_29 ?_
      refine aj_getL C flX8_45 hq0 rfl dX8_waysOn_30 rfl ?_
      refine aj_lconst (z := 1) C dX8_waysOn_33 rfl ?_
      refine aj_iload_n C dX8_waysOn_34 rfl ?_
      refine aj_lshl_ C dX8_waysOn_35 ?_
      refine aj_lor C dX8_waysOn_36 ?_
      refine aj_putL C fpX8_45 hq0 rfl dX8_waysOn_37 ?_
      refine aj_nm (fun m2 e1 => ?_)
      have h := h m2 e1
      refine aj_iconst C dX8_waysOn_40 ?_
      refine aj_istore (lv' := [some (vO 8 q0), some (vI v1), some (vI v2), some (vI v3), some (vL 0), none, some (vI 0), none]) C dX8_waysOn_41 (by decide) rfl ?_
      exact tX8_waysOn_43 C K HR0 f q0 v1 v2 v3 0 0 _ hq0 h
    · have h := h2 e
      refine aj_aload_n C dX8_waysOn_18 rfl ?_
      refine aj_iload_n C dX8_waysOn_19 rfl ?_
      refine aj_iload_n C dX8_waysOn_20 rfl ?_
      refine aj_callV (rest := []) C mvX8_129 (sX8_waysToClose hq0 h) hq0 (aj_np 2 (by decide +kernel) rfl) (Nat.le_of_ble_eq_true rfl) rfl dX8_waysOn_21 (fun r m3 h => ?_)
      obtain ⟨z2, rfl, h⟩ := h
      exact aj_lret C K dX8_waysOn_24 ⟨_, rfl, h⟩
def rG1 (f : Nat) : Nat → Nat → (Int → aj_M → Prop) → List Nat → Int → Int → Int → aj_M → Prop
  | 0, _, _, _, _, _, _, _ => False
  | d + 1, t, Φ, q0, v1, v2, v3, m => if t = 0 then wbX8_waysOn f Φ (rG1 f d) q0 v1 v2 v3 m else False
set_option maxRecDepth 100000 in
theorem gG1 (f : Nat) : ∀ d : Nat, (∀ n : Nat, ∀ (Φ : Int → aj_M → Prop) (q0 : List Nat) (v1 : Int) (v2 : Int) (v3 : Int) (m : aj_M) (hq0 : (.inl (8, q0) : aj_R) ∈ aj_pls), rG1 f d 0 Φ q0 v1 v2 v3 m → aj_Ct (n + d + 1) yX8_waysOn cX8_waysOn 8 (some .long) [vO 8 q0, vI v1, vI v2, vI v3] m (fun r m => ∃ z, r = some (vL z) ∧ Φ z m)) := by
  intro d
  induction d with
  | zero =>
    exact (fun n Φ q0 v1 v2 v3 m hq0 h => h.elim)
  | succ d ih =>
    · intro n Φ q0 v1 v2 v3 m hq0 h
      rw [show n + (d + 1) + 1 = (n + d) + 2 by omega]
      exact sbX8_waysOn (n := n + d) (f := f) (R := rG1 f d) (ih n) hq0 h
def wX8_waysOn (f : Nat) (Φ : Int → aj_M → Prop) (q0 : List Nat) (v1 : Int) (v2 : Int) (v3 : Int) (m : aj_M) : Prop := rG1 f 8 0 Φ q0 v1 v2 v3 m
theorem sX8_waysOn {n f : Nat} {Φ : Int → aj_M → Prop} {q0 : List Nat} {v1 : Int} {v2 : Int} {v3 : Int} {m : aj_M} (hq0 : (.inl (8, q0) : aj_R) ∈ aj_pls) (h : wX8_waysOn f Φ q0 v1 v2 v3 m) : aj_Ct (n + 9) yX8_waysOn cX8_waysOn 8 (some .long) [vO 8 q0, vI v1, vI v2, vI v3] m (fun r m => ∃ z, r = some (vL z) ∧ Φ z m) := by
  rw [show n + 9 = n + 8 + 1 by omega]
  exact (gG1 f 8) n Φ q0 v1 v2 v3 m hq0 h
theorem dX8_countOf_0 : decode cX8_countOf 0 = .ok (.iload_n 1, 1) := by decide +kernel
theorem dX8_countOf_1 : decode cX8_countOf 1 = .ok (.iconst 1, 1) := by decide +kernel
theorem dX8_countOf_2 : decode cX8_countOf 2 = .ok (.if_icmp .ne 8, 3) := by decide +kernel
theorem dX8_countOf_5 : decode cX8_countOf 5 = .ok (.aload_n 0, 1) := by decide +kernel
theorem dX8_countOf_6 : decode cX8_countOf 6 = .ok (.invokevirtual 91, 3) := by decide +kernel
theorem dX8_countOf_9 : decode cX8_countOf 9 = .ok (.ireturn, 1) := by decide +kernel
theorem dX8_countOf_10 : decode cX8_countOf 10 = .ok (.aload_n 0, 1) := by decide +kernel
theorem dX8_countOf_11 : decode cX8_countOf 11 = .ok (.invokevirtual 94, 3) := by decide +kernel
theorem dX8_countOf_14 : decode cX8_countOf 14 = .ok (.iload_n 1, 1) := by decide +kernel
theorem dX8_countOf_15 : decode cX8_countOf 15 = .ok (.iconst 2, 1) := by decide +kernel
theorem dX8_countOf_16 : decode cX8_countOf 16 = .ok (.if_icmp .ne 8, 3) := by decide +kernel
theorem dX8_countOf_19 : decode cX8_countOf 19 = .ok (.aload_n 0, 1) := by decide +kernel
theorem dX8_countOf_20 : decode cX8_countOf 20 = .ok (.invokevirtual 97, 3) := by decide +kernel
theorem dX8_countOf_23 : decode cX8_countOf 23 = .ok (.ireturn, 1) := by decide +kernel
theorem dX8_countOf_24 : decode cX8_countOf 24 = .ok (.lconst 0, 1) := by decide +kernel
theorem dX8_countOf_25 : decode cX8_countOf 25 = .ok (.lstore_n 2, 1) := by decide +kernel
theorem dX8_countOf_26 : decode cX8_countOf 26 = .ok (.iconst 0, 1) := by decide +kernel
theorem dX8_countOf_27 : decode cX8_countOf 27 = .ok (.istore 4, 2) := by decide +kernel
theorem dX8_countOf_29 : decode cX8_countOf 29 = .ok (.iload 4, 2) := by decide +kernel
theorem dX8_countOf_31 : decode cX8_countOf 31 = .ok (.aload_n 0, 1) := by decide +kernel
theorem dX8_countOf_32 : decode cX8_countOf 32 = .ok (.getfield 26, 3) := by decide +kernel
theorem dX8_countOf_35 : decode cX8_countOf 35 = .ok (.getfield 53, 3) := by decide +kernel
theorem dX8_countOf_38 : decode cX8_countOf 38 = .ok (.if_icmp .ge 34, 3) := by decide +kernel
theorem dX8_countOf_41 : decode cX8_countOf 41 = .ok (.aload_n 0, 1) := by decide +kernel
theorem dX8_countOf_42 : decode cX8_countOf 42 = .ok (.iload 4, 2) := by decide +kernel
theorem dX8_countOf_44 : decode cX8_countOf 44 = .ok (.invokevirtual 100, 3) := by decide +kernel
theorem dX8_countOf_47 : decode cX8_countOf 47 = .ok (.aload_n 0, 1) := by decide +kernel
theorem dX8_countOf_48 : decode cX8_countOf 48 = .ok (.getfield 42, 3) := by decide +kernel
theorem dX8_countOf_51 : decode cX8_countOf 51 = .ok (.iconst 0, 1) := by decide +kernel
theorem dX8_countOf_52 : decode cX8_countOf 52 = .ok (.iload 4, 2) := by decide +kernel
theorem dX8_countOf_54 : decode cX8_countOf 54 = .ok (.iastore, 1) := by decide +kernel
theorem dX8_countOf_55 : decode cX8_countOf 55 = .ok (.lload_n 2, 1) := by decide +kernel
theorem dX8_countOf_56 : decode cX8_countOf 56 = .ok (.aload_n 0, 1) := by decide +kernel
theorem dX8_countOf_57 : decode cX8_countOf 57 = .ok (.iload 4, 2) := by decide +kernel
theorem dX8_countOf_59 : decode cX8_countOf 59 = .ok (.iconst 0, 1) := by decide +kernel
theorem dX8_countOf_60 : decode cX8_countOf 60 = .ok (.iload_n 1, 1) := by decide +kernel
theorem dX8_countOf_61 : decode cX8_countOf 61 = .ok (.invokevirtual 104, 3) := by decide +kernel
theorem dX8_countOf_64 : decode cX8_countOf 64 = .ok (.ladd, 1) := by decide +kernel
theorem dX8_countOf_65 : decode cX8_countOf 65 = .ok (.lstore_n 2, 1) := by decide +kernel
theorem dX8_countOf_66 : decode cX8_countOf 66 = .ok (.iinc 4 1, 3) := by decide +kernel
theorem dX8_countOf_69 : decode cX8_countOf 69 = .ok (.goto (-40), 3) := by decide +kernel
theorem dX8_countOf_72 : decode cX8_countOf 72 = .ok (.lload_n 2, 1) := by decide +kernel
theorem dX8_countOf_73 : decode cX8_countOf 73 = .ok (.ldc2_w 108, 3) := by decide +kernel
theorem dX8_countOf_76 : decode cX8_countOf 76 = .ok (.ldiv, 1) := by decide +kernel
theorem dX8_countOf_77 : decode cX8_countOf 77 = .ok (.l2i, 1) := by decide +kernel
theorem dX8_countOf_78 : decode cX8_countOf 78 = .ok (.ireturn, 1) := by decide +kernel
def hX8_countOf_29 (f : Nat) (Φ : Int → aj_M → Prop) : Nat → List Nat → Int → Int → Int → aj_M → Prop
  | 0, _, _, _, _, _ => False
  | k + 1, q0, v1, w2, v4, m => rI v4 ∧ rI (m (3 :: q0) 0) ∧ ((m (3 :: q0) 0) ≤ v4 → (0 ≤ w2 ∧ w2 < 9223372036854775808) ∧ Φ (w2 / 2) m) ∧ (¬ ((m (3 :: q0) 0) ≤ v4) → wX8_knowClosings f (fun m1 => ∀ m2, m2 = aj_u m1 (8 :: q0) (0 : Int).toNat v4 → wX8_waysOn f (fun z2 m3 => hX8_countOf_29 f Φ k q0 v1 (w2 + z2) (v4 + 1) m3) q0 v4 0 v1 m2) q0 v4 m)
set_option maxHeartbeats 4000000 in
set_option maxRecDepth 100000 in
theorem tX8_countOf_29 {X : aj_T} {n f : Nat} {Φ : Int → aj_M → Prop} (C : aj_Cx X cX8_countOf RX8 5 (n + 10)) (K : aj_Rt X (some .int) (fun r m => ∃ z, r = some (vI z) ∧ Φ z m)) : ∀ (k : Nat) (q0 : List Nat) (v1 : Int) (w2 : Int) (v4 : Int) (m : aj_M) (hq0 : (.inl (8, q0) : aj_R) ∈ aj_pls), hX8_countOf_29 f Φ k q0 v1 w2 v4 m → aj_J X 29 [some (vO 8 q0), some (vI v1), some (vL w2), none, some (vI v4)] [] m := by
  intro k
  induction k with
  | zero =>
    intro q0 v1 w2 v4 m _ h
    exact h.elim
  | succ k ih =>
    intro q0 v1 w2 v4 m hq0 h
    unfold hX8_countOf_29 at h
    refine aj_iload C dX8_countOf_29 rfl ?_
    refine aj_aload_n C dX8_countOf_31 rfl ?_
    refine aj_getO (x := 5) (y := 0) C flX8_26 hq0 rfl dX8_countOf_32 ?_
    refine aj_getI C flX8_53 (aj_cf (x := 5) (y := 0) (j := 3) hq0 (by decide) rfl) (by decide) dX8_countOf_35 rfl ?_
    obtain ⟨r0, r1, h1, h2⟩ := h
    refine aj_icmp_ge (tgt := 72) C dX8_countOf_38 (by decide) r0 r1 (fun e => ?_) (fun e => ?_)
    · have h := h1 e
      refine aj_lload_n C dX8_countOf_72 rfl ?_
      refine aj_ldc2 (z := 2) C (wd1257) rfl dX8_countOf_73 ?_
      obtain ⟨r0, h⟩ := h
      refine aj_ldivN C dX8_countOf_76 r0 (by decide) ?_
      refine aj_l2i C dX8_countOf_77 ?_
      exact aj_iret C K dX8_countOf_78 ⟨_, rfl, h⟩
    · have h := h2 e
      refine aj_aload_n C dX8_countOf_41 rfl ?_
      refine aj_iload C dX8_countOf_42 rfl ?_
      refine aj_callV (rest := []) C mvX8_100 (sX8_knowClosings hq0 h) hq0 (aj_np 1 (by decide +kernel) rfl) (Nat.le_of_ble_eq_true rfl) rfl dX8_countOf_44 (fun r m1 h => ?_)
      obtain ⟨rfl, h⟩ := h
      refine aj_aload_n C dX8_countOf_47 rfl ?_
      refine aj_getA (x := 0) (y := 6) C flX8_42 hq0 rfl dX8_countOf_48 ?_
      refine aj_iconst C dX8_countOf_51 ?_
      refine aj_iload C dX8_countOf_52 rfl ?_
      refine aj_iast C (aj_ca (e := 0) (n := 6) (j := 8) hq0 (by decide) rfl) (by decide) (by decide) dX8_countOf_54 ?_
      refine aj_nm (fun m2 e1 => ?_)
      have h := h m2 e1
      refine aj_lload_n C dX8_countOf_55 rfl ?_
      refine aj_aload_n C dX8_countOf_56 rfl ?_
      refine aj_iload C dX8_countOf_57 rfl ?_
      refine aj_iconst C dX8_countOf_59 ?_
      refine aj_iload_n C dX8_countOf_60 rfl ?_
      refine aj_callV (rest := [vL w2]) C mvX8_104 (sX8_waysOn hq0 h) hq0 (aj_np 3 (by decide +kernel) rfl) (Nat.le_of_ble_eq_true rfl) rfl dX8_countOf_61 (fun r m3 h => ?_)
      obtain ⟨z2, rfl, h⟩ := h
      refine aj_ladd C dX8_countOf_64 ?_
      refine aj_lstore_n (lv' := [some (vO 8 q0), some (vI v1), some (vL (w2 + z2)), none, some (vI v4)]) C dX8_countOf_65 (by decide) rfl ?_
      refine aj_iinc (lv' := [some (vO 8 q0), some (vI v1), some (vL (w2 + z2)), none, some (vI (v4 + 1))]) C dX8_countOf_66 rfl (by decide) rfl ?_
      refine aj_goto (tgt := 29) C dX8_countOf_69 (by decide) ?_
      exact ih q0 v1 (w2 + z2) (v4 + 1) _ hq0 h
def wX8_countOf (f : Nat) (Φ : Int → aj_M → Prop) (q0 : List Nat) (v1 : Int) (m : aj_M) : Prop := rI v1 ∧ (¬ v1 = 1 → wX8_spreadOut f (fun m1 => rI v1 ∧ (¬ v1 = 2 → hX8_countOf_29 f Φ f q0 v1 0 0 m1) ∧ (v1 = 2 → wX8_countPairs f (fun z2 m2 => Φ z2 m2) q0 m1)) q0 m) ∧ (v1 = 1 → wX8_countSelfLinks f (fun z3 m3 => Φ z3 m3) q0 m)
set_option maxHeartbeats 4000000 in
set_option maxRecDepth 100000 in
theorem sX8_countOf {n f : Nat} {Φ : Int → aj_M → Prop} {q0 : List Nat} {v1 : Int} {m : aj_M} (hq0 : (.inl (8, q0) : aj_R) ∈ aj_pls) (h : wX8_countOf f Φ q0 v1 m) : aj_Ct (n + 10) yX8_countOf cX8_countOf 5 (some .int) [vO 8 q0, vI v1] m (fun r m => ∃ z, r = some (vI z) ∧ Φ z m) := by
  refine aj_met (lv := [some (vO 8 q0), some (vI v1), none, none, none]) (by decide +kernel) rfl (Nat.le_of_ble_eq_true rfl) (fun X C K => ?_)
  unfold wX8_countOf at h
  refine aj_iload_n C dX8_countOf_0 rfl ?_
  refine aj_iconst C dX8_countOf_1 ?_
  obtain ⟨r0, h1, h2⟩ := h
  refine aj_icmp_ne (tgt := 10) C dX8_countOf_2 (by decide) r0 (by decide) (fun e => ?_) (fun e => ?_)
  · have h := h1 e
    refine aj_aload_n C dX8_countOf_10 rfl ?_
    refine aj_callV (rest := []) C mvX8_94 (sX8_spreadOut hq0 h) hq0 (aj_np 0 (by decide +kernel) rfl) (Nat.le_of_ble_eq_true rfl) rfl dX8_countOf_11 (fun r m1 h => ?_)
    obtain ⟨rfl, h⟩ := h
    refine aj_iload_n C dX8_countOf_14 rfl ?_
    refine aj_iconst C dX8_countOf_15 ?_
    obtain ⟨r0, h1, h2⟩ := h
    refine aj_icmp_ne (tgt := 24) C dX8_countOf_16 (by decide) r0 (by decide) (fun e => ?_) (fun e => ?_)
    · have h := h1 e
      refine aj_lconst (z := 0) C dX8_countOf_24 rfl ?_
      refine aj_lstore_n (lv' := [some (vO 8 q0), some (vI v1), some (vL 0), none, none]) C dX8_countOf_25 (by decide) rfl ?_
      refine aj_iconst C dX8_countOf_26 ?_
      refine aj_istore (lv' := [some (vO 8 q0), some (vI v1), some (vL 0), none, some (vI 0)]) C dX8_countOf_27 (by decide) rfl ?_
      exact tX8_countOf_29 C K f q0 v1 0 0 _ hq0 h
    · have h := h2 e
      refine aj_aload_n C dX8_countOf_19 rfl ?_
      refine aj_callV (rest := []) C mvX8_97 (sX8_countPairs hq0 h) hq0 (aj_np 0 (by decide +kernel) rfl) (Nat.le_of_ble_eq_true rfl) rfl dX8_countOf_20 (fun r m2 h => ?_)
      obtain ⟨z2, rfl, h⟩ := h
      exact aj_iret C K dX8_countOf_23 ⟨_, rfl, h⟩
  · have h := h2 e
    refine aj_aload_n C dX8_countOf_5 rfl ?_
    refine aj_callV (rest := []) C mvX8_91 (sX8_countSelfLinks hq0 h) hq0 (aj_np 0 (by decide +kernel) rfl) (Nat.le_of_ble_eq_true rfl) rfl dX8_countOf_6 (fun r m3 h => ?_)
    obtain ⟨z3, rfl, h⟩ := h
    exact aj_iret C K dX8_countOf_9 ⟨_, rfl, h⟩
theorem dX9_begin_0 : decode cX9_begin 0 = .ok (.aload_n 1, 1) := by decide +kernel
theorem dX9_begin_1 : decode cX9_begin 1 = .ok (.getfield 22, 3) := by decide +kernel
theorem dX9_begin_4 : decode cX9_begin 4 = .ok (.iconst 0, 1) := by decide +kernel
theorem dX9_begin_5 : decode cX9_begin 5 = .ok (.aload_n 0, 1) := by decide +kernel
theorem dX9_begin_6 : decode cX9_begin 6 = .ok (.getfield 9, 3) := by decide +kernel
theorem dX9_begin_9 : decode cX9_begin 9 = .ok (.iconst 0, 1) := by decide +kernel
theorem dX9_begin_10 : decode cX9_begin 10 = .ok (.bipush 12, 2) := by decide +kernel
theorem dX9_begin_12 : decode cX9_begin 12 = .ok (.invokestatic 25, 3) := by decide +kernel
theorem dX9_begin_15 : decode cX9_begin 15 = .ok (.aload_n 0, 1) := by decide +kernel
theorem dX9_begin_16 : decode cX9_begin 16 = .ok (.iconst 0, 1) := by decide +kernel
theorem dX9_begin_17 : decode cX9_begin 17 = .ok (.putfield 15, 3) := by decide +kernel
theorem dX9_begin_20 : decode cX9_begin 20 = .ok (.aload_n 0, 1) := by decide +kernel
theorem dX9_begin_21 : decode cX9_begin 21 = .ok (.aload_n 1, 1) := by decide +kernel
theorem dX9_begin_22 : decode cX9_begin 22 = .ok (.getfield 31, 3) := by decide +kernel
theorem dX9_begin_25 : decode cX9_begin 25 = .ok (.putfield 19, 3) := by decide +kernel
theorem dX9_begin_28 : decode cX9_begin 28 = .ok (.return_, 1) := by decide +kernel
def wX9_begin (f : Nat) (Φ : aj_M → Prop) (q0 : List Nat) (q1 : List Nat) (m : aj_M) : Prop := ∀ m1, m1 = aj_cp m (9 :: q1) (0 : Int).toNat (0 :: q0) (0 : Int).toNat (12 : Int).toNat → ∀ m2, m2 = aj_u m1 q0 1 0 → ∀ m3, m3 = aj_u m2 q0 2 (m2 q1 2) → Φ m3
set_option maxHeartbeats 4000000 in
set_option maxRecDepth 100000 in
theorem sX9_begin {n f : Nat} {Φ : aj_M → Prop} {q0 : List Nat} {q1 : List Nat} {m : aj_M} (hq0 : (.inl (9, q0) : aj_R) ∈ aj_pls) (hq1 : (.inl (6, q1) : aj_R) ∈ aj_pls) (h : wX9_begin f Φ q0 q1 m) : aj_Ct (n + 1) yX9_begin cX9_begin 2 none [vO 9 q0, vO 6 q1] m (fun r m => r = none ∧ Φ m) := by
  refine aj_met (lv := [some (vO 9 q0), some (vO 6 q1)]) (by decide +kernel) rfl (Nat.le_of_ble_eq_true rfl) (fun X C K => ?_)
  unfold wX9_begin at h
  refine aj_aload_n C dX9_begin_0 rfl ?_
  refine aj_getA (x := 0) (y := 12) C flX9_22 hq1 rfl dX9_begin_1 ?_
  refine aj_iconst C dX9_begin_4 ?_
  refine aj_aload_n C dX9_begin_5 rfl ?_
  refine aj_getA (x := 0) (y := 12) C flX9_9 hq0 rfl dX9_begin_6 ?_
  refine aj_iconst C dX9_begin_9 ?_
  refine aj_bipush C dX9_begin_10 (by decide) ?_
  refine aj_copy C mnX9_25 (aj_ca (e := 0) (n := 12) (j := 9) hq1 (by decide) rfl) (aj_ca (e := 0) (n := 12) (j := 0) hq0 (by decide) rfl) (by decide) (by decide) (by decide) (Nat.le_of_ble_eq_true rfl) dX9_begin_12 ?_
  refine aj_nm (fun m1 e1 => ?_)
  have h := h m1 e1
  refine aj_aload_n C dX9_begin_15 rfl ?_
  refine aj_iconst C dX9_begin_16 ?_
  refine aj_putI C fpX9_15 hq0 rfl dX9_begin_17 ?_
  refine aj_nm (fun m2 e1 => ?_)
  have h := h m2 e1
  refine aj_aload_n C dX9_begin_20 rfl ?_
  refine aj_aload_n C dX9_begin_21 rfl ?_
  refine aj_getI C flX9_31 hq1 (by decide) dX9_begin_22 rfl ?_
  refine aj_putI C fpX9_19 hq0 rfl dX9_begin_25 ?_
  refine aj_nm (fun m3 e1 => ?_)
  have h := h m3 e1
  exact aj_vret C K dX9_begin_28 ⟨rfl, h⟩
theorem dX9_turnTo_0 : decode cX9_turnTo 0 = .ok (.aload_n 1, 1) := by decide +kernel
theorem dX9_turnTo_1 : decode cX9_turnTo 1 = .ok (.iload_n 2, 1) := by decide +kernel
theorem dX9_turnTo_2 : decode cX9_turnTo 2 = .ok (.iload_n 3, 1) := by decide +kernel
theorem dX9_turnTo_3 : decode cX9_turnTo 3 = .ok (.invokevirtual 32, 3) := by decide +kernel
theorem dX9_turnTo_6 : decode cX9_turnTo 6 = .ok (.istore 4, 2) := by decide +kernel
theorem dX9_turnTo_8 : decode cX9_turnTo 8 = .ok (.iload 4, 2) := by decide +kernel
theorem dX9_turnTo_10 : decode cX9_turnTo 10 = .ok (.ifCond .ne 10, 3) := by decide +kernel
theorem dX9_turnTo_13 : decode cX9_turnTo 13 = .ok (.aload_n 0, 1) := by decide +kernel
theorem dX9_turnTo_14 : decode cX9_turnTo 14 = .ok (.getfield 9, 3) := by decide +kernel
theorem dX9_turnTo_17 : decode cX9_turnTo 17 = .ok (.iload_n 2, 1) := by decide +kernel
theorem dX9_turnTo_18 : decode cX9_turnTo 18 = .ok (.iload_n 3, 1) := by decide +kernel
theorem dX9_turnTo_19 : decode cX9_turnTo 19 = .ok (.iastore, 1) := by decide +kernel
theorem dX9_turnTo_20 : decode cX9_turnTo 20 = .ok (.iload 4, 2) := by decide +kernel
theorem dX9_turnTo_22 : decode cX9_turnTo 22 = .ok (.ireturn, 1) := by decide +kernel
def wX9_turnTo (f : Nat) (Φ : Int → aj_M → Prop) (q0 : List Nat) (q1 : List Nat) (v2 : Int) (v3 : Int) (m : aj_M) : Prop := wX6_whyNotBy f (fun z1 m1 => rI z1 ∧ (¬ z1 = 0 → Φ z1 m1) ∧ (z1 = 0 → (0 ≤ v2 ∧ v2 < 12) ∧ ∀ m2, m2 = aj_u m1 (0 :: q0) v2.toNat v3 → Φ z1 m2)) q1 v2 v3 m
set_option maxHeartbeats 4000000 in
set_option maxRecDepth 100000 in
theorem sX9_turnTo {n f : Nat} {Φ : Int → aj_M → Prop} {q0 : List Nat} {q1 : List Nat} {v2 : Int} {v3 : Int} {m : aj_M} (hq0 : (.inl (9, q0) : aj_R) ∈ aj_pls) (hq1 : (.inl (6, q1) : aj_R) ∈ aj_pls) (h : wX9_turnTo f Φ q0 q1 v2 v3 m) : aj_Ct (n + 3) yX9_turnTo cX9_turnTo 5 (some .int) [vO 9 q0, vO 6 q1, vI v2, vI v3] m (fun r m => ∃ z, r = some (vI z) ∧ Φ z m) := by
  refine aj_met (lv := [some (vO 9 q0), some (vO 6 q1), some (vI v2), some (vI v3), none]) (by decide +kernel) rfl (Nat.le_of_ble_eq_true rfl) (fun X C K => ?_)
  unfold wX9_turnTo at h
  refine aj_aload_n C dX9_turnTo_0 rfl ?_
  refine aj_iload_n C dX9_turnTo_1 rfl ?_
  refine aj_iload_n C dX9_turnTo_2 rfl ?_
  refine aj_callV (rest := []) C mvX9_32 (sX6_whyNotBy hq1 h) hq1 (aj_np 2 (by decide +kernel) rfl) (Nat.le_of_ble_eq_true rfl) rfl dX9_turnTo_3 (fun r m1 h => ?_)
  obtain ⟨z1, rfl, h⟩ := h
  refine aj_istore (lv' := [some (vO 9 q0), some (vO 6 q1), some (vI v2), some (vI v3), some (vI z1)]) C dX9_turnTo_6 (by decide) rfl ?_
  refine aj_iload C dX9_turnTo_8 rfl ?_
  obtain ⟨r0, h1, h2⟩ := h
  refine aj_if_ne (tgt := 20) C dX9_turnTo_10 (by decide) r0 (fun e => ?_) (fun e => ?_)
  · have h := h1 e
    refine aj_iload C dX9_turnTo_20 rfl ?_
    exact aj_iret C K dX9_turnTo_22 ⟨_, rfl, h⟩
  · have h := h2 e
    refine aj_aload_n C dX9_turnTo_13 rfl ?_
    refine aj_getA (x := 0) (y := 12) C flX9_9 hq0 rfl dX9_turnTo_14 ?_
    refine aj_iload_n C dX9_turnTo_17 rfl ?_
    refine aj_iload_n C dX9_turnTo_18 rfl ?_
    obtain ⟨r0, h⟩ := h
    refine aj_iast C (aj_ca (e := 0) (n := 12) (j := 0) hq0 (by decide) rfl) (by decide) r0 dX9_turnTo_19 ?_
    refine aj_nm (fun m2 e1 => ?_)
    have h := h m2 e1
    refine aj_iload C dX9_turnTo_20 rfl ?_
    exact aj_iret C K dX9_turnTo_22 ⟨_, rfl, h⟩
theorem dX9_cutOrJoin_0 : decode cX9_cutOrJoin 0 = .ok (.aload_n 1, 1) := by decide +kernel
theorem dX9_cutOrJoin_1 : decode cX9_cutOrJoin 1 = .ok (.iload_n 2, 1) := by decide +kernel
theorem dX9_cutOrJoin_2 : decode cX9_cutOrJoin 2 = .ok (.invokevirtual 36, 3) := by decide +kernel
theorem dX9_cutOrJoin_5 : decode cX9_cutOrJoin 5 = .ok (.ifCond .ne 5, 3) := by decide +kernel
theorem dX9_cutOrJoin_8 : decode cX9_cutOrJoin 8 = .ok (.iconst 1, 1) := by decide +kernel
theorem dX9_cutOrJoin_9 : decode cX9_cutOrJoin 9 = .ok (.ireturn, 1) := by decide +kernel
theorem dX9_cutOrJoin_10 : decode cX9_cutOrJoin 10 = .ok (.aload_n 0, 1) := by decide +kernel
theorem dX9_cutOrJoin_11 : decode cX9_cutOrJoin 11 = .ok (.dup, 1) := by decide +kernel
theorem dX9_cutOrJoin_12 : decode cX9_cutOrJoin 12 = .ok (.getfield 15, 3) := by decide +kernel
theorem dX9_cutOrJoin_15 : decode cX9_cutOrJoin 15 = .ok (.iconst 1, 1) := by decide +kernel
theorem dX9_cutOrJoin_16 : decode cX9_cutOrJoin 16 = .ok (.iload_n 2, 1) := by decide +kernel
theorem dX9_cutOrJoin_17 : decode cX9_cutOrJoin 17 = .ok (.ishl, 1) := by decide +kernel
theorem dX9_cutOrJoin_18 : decode cX9_cutOrJoin 18 = .ok (.ixor, 1) := by decide +kernel
theorem dX9_cutOrJoin_19 : decode cX9_cutOrJoin 19 = .ok (.putfield 15, 3) := by decide +kernel
theorem dX9_cutOrJoin_22 : decode cX9_cutOrJoin 22 = .ok (.iconst 0, 1) := by decide +kernel
theorem dX9_cutOrJoin_23 : decode cX9_cutOrJoin 23 = .ok (.ireturn, 1) := by decide +kernel
def wX9_cutOrJoin (f : Nat) (Φ : Int → aj_M → Prop) (q0 : List Nat) (q1 : List Nat) (v2 : Int) (m : aj_M) : Prop := wX6_hasArc f (fun z1 m1 => rI z1 ∧ (¬ z1 = 0 → ∀ m2, m2 = aj_u m1 q0 1 (aj_xor (m1 q0 1) (aj_shl 1 v2)) → Φ 0 m2) ∧ (z1 = 0 → Φ 1 m1)) q1 v2 m
set_option maxHeartbeats 4000000 in
set_option maxRecDepth 100000 in
theorem sX9_cutOrJoin {n f : Nat} {Φ : Int → aj_M → Prop} {q0 : List Nat} {q1 : List Nat} {v2 : Int} {m : aj_M} (hq0 : (.inl (9, q0) : aj_R) ∈ aj_pls) (hq1 : (.inl (6, q1) : aj_R) ∈ aj_pls) (h : wX9_cutOrJoin f Φ q0 q1 v2 m) : aj_Ct (n + 1) yX9_cutOrJoin cX9_cutOrJoin 3 (some .int) [vO 9 q0, vO 6 q1, vI v2] m (fun r m => ∃ z, r = some (vI z) ∧ Φ z m) := by
  refine aj_met (lv := [some (vO 9 q0), some (vO 6 q1), some (vI v2)]) (by decide +kernel) rfl (Nat.le_of_ble_eq_true rfl) (fun X C K => ?_)
  unfold wX9_cutOrJoin at h
  refine aj_aload_n C dX9_cutOrJoin_0 rfl ?_
  refine aj_iload_n C dX9_cutOrJoin_1 rfl ?_
  refine aj_callV (rest := []) C mvX9_36 (sX6_hasArc hq1 h) hq1 (aj_np 1 (by decide +kernel) rfl) (Nat.le_of_ble_eq_true rfl) rfl dX9_cutOrJoin_2 (fun r m1 h => ?_)
  obtain ⟨z1, rfl, h⟩ := h
  obtain ⟨r0, h1, h2⟩ := h
  refine aj_if_ne (tgt := 10) C dX9_cutOrJoin_5 (by decide) r0 (fun e => ?_) (fun e => ?_)
  · have h := h1 e
    refine aj_aload_n C dX9_cutOrJoin_10 rfl ?_
    refine aj_dup C aj_nR dX9_cutOrJoin_11 ?_
    refine aj_getI C flX9_15 hq0 (by decide) dX9_cutOrJoin_12 rfl ?_
    refine aj_iconst C dX9_cutOrJoin_15 ?_
    refine aj_iload_n C dX9_cutOrJoin_16 rfl ?_
    refine aj_ishl C dX9_cutOrJoin_17 ?_
    refine aj_ixor C dX9_cutOrJoin_18 ?_
    refine aj_putI C fpX9_15 hq0 rfl dX9_cutOrJoin_19 ?_
    refine aj_nm (fun m2 e1 => ?_)
    have h := h m2 e1
    refine aj_iconst C dX9_cutOrJoin_22 ?_
    exact aj_iret C K dX9_cutOrJoin_23 ⟨_, rfl, h⟩
  · have h := h2 e
    refine aj_iconst C dX9_cutOrJoin_8 ?_
    exact aj_iret C K dX9_cutOrJoin_9 ⟨_, rfl, h⟩
theorem dX9_twistTo_0 : decode cX9_twistTo 0 = .ok (.iload_n 1, 1) := by decide +kernel
theorem dX9_twistTo_1 : decode cX9_twistTo 1 = .ok (.ifCond .lt 9, 3) := by decide +kernel
theorem dX9_twistTo_4 : decode cX9_twistTo 4 = .ok (.iload_n 1, 1) := by decide +kernel
theorem dX9_twistTo_5 : decode cX9_twistTo 5 = .ok (.bipush 10, 2) := by decide +kernel
theorem dX9_twistTo_7 : decode cX9_twistTo 7 = .ok (.if_icmp .lt 5, 3) := by decide +kernel
theorem dX9_twistTo_10 : decode cX9_twistTo 10 = .ok (.iconst 1, 1) := by decide +kernel
theorem dX9_twistTo_11 : decode cX9_twistTo 11 = .ok (.ireturn, 1) := by decide +kernel
theorem dX9_twistTo_12 : decode cX9_twistTo 12 = .ok (.aload_n 0, 1) := by decide +kernel
theorem dX9_twistTo_13 : decode cX9_twistTo 13 = .ok (.iload_n 1, 1) := by decide +kernel
theorem dX9_twistTo_14 : decode cX9_twistTo 14 = .ok (.putfield 19, 3) := by decide +kernel
theorem dX9_twistTo_17 : decode cX9_twistTo 17 = .ok (.iconst 0, 1) := by decide +kernel
theorem dX9_twistTo_18 : decode cX9_twistTo 18 = .ok (.ireturn, 1) := by decide +kernel
def wX9_twistTo (f : Nat) (Φ : Int → aj_M → Prop) (q0 : List Nat) (v1 : Int) (m : aj_M) : Prop := rI v1 ∧ (v1 < 0 → Φ 1 m) ∧ (¬ (v1 < 0) → rI v1 ∧ (v1 < 10 → ∀ m1, m1 = aj_u m q0 2 v1 → Φ 0 m1) ∧ (¬ (v1 < 10) → Φ 1 m))
set_option maxHeartbeats 4000000 in
set_option maxRecDepth 100000 in
theorem sX9_twistTo {n f : Nat} {Φ : Int → aj_M → Prop} {q0 : List Nat} {v1 : Int} {m : aj_M} (hq0 : (.inl (9, q0) : aj_R) ∈ aj_pls) (h : wX9_twistTo f Φ q0 v1 m) : aj_Ct n yX9_twistTo cX9_twistTo 2 (some .int) [vO 9 q0, vI v1] m (fun r m => ∃ z, r = some (vI z) ∧ Φ z m) := by
  refine aj_met (lv := [some (vO 9 q0), some (vI v1)]) (by decide +kernel) rfl (Nat.le_of_ble_eq_true rfl) (fun X C K => ?_)
  unfold wX9_twistTo at h
  refine aj_iload_n C dX9_twistTo_0 rfl ?_
  obtain ⟨r0, h1, h2⟩ := h
  refine aj_if_lt (tgt := 10) C dX9_twistTo_1 (by decide) r0 (fun e => ?_) (fun e => ?_)
  · have h := h1 e
    refine aj_iconst C dX9_twistTo_10 ?_
    exact aj_iret C K dX9_twistTo_11 ⟨_, rfl, h⟩
  · have h := h2 e
    refine aj_iload_n C dX9_twistTo_4 rfl ?_
    refine aj_bipush C dX9_twistTo_5 (by decide) ?_
    obtain ⟨r0, h1, h2⟩ := h
    refine aj_icmp_lt (tgt := 12) C dX9_twistTo_7 (by decide) r0 (by decide) (fun e => ?_) (fun e => ?_)
    · have h := h1 e
      refine aj_aload_n C dX9_twistTo_12 rfl ?_
      refine aj_iload_n C dX9_twistTo_13 rfl ?_
      refine aj_putI C fpX9_19 hq0 rfl dX9_twistTo_14 ?_
      refine aj_nm (fun m1 e1 => ?_)
      have h := h m1 e1
      refine aj_iconst C dX9_twistTo_17 ?_
      exact aj_iret C K dX9_twistTo_18 ⟨_, rfl, h⟩
    · have h := h2 e
      refine aj_iconst C dX9_twistTo_10 ?_
      exact aj_iret C K dX9_twistTo_11 ⟨_, rfl, h⟩
