theorem dX10_trimmed_0 : decode cX10_trimmed 0 = .ok (.aload_n 0, 1) := by decide +kernel
theorem dX10_trimmed_1 : decode cX10_trimmed 1 = .ok (.getfield 15, 3) := by decide +kernel
theorem dX10_trimmed_4 : decode cX10_trimmed 4 = .ok (.tableswitch 42 0 2 #[28, 33, 38], 28) := by decide +kernel
theorem dX10_trimmed_32 : decode cX10_trimmed 32 = .ok (.lload_n 1, 1) := by decide +kernel
theorem dX10_trimmed_33 : decode cX10_trimmed 33 = .ok (.l2i, 1) := by decide +kernel
theorem dX10_trimmed_34 : decode cX10_trimmed 34 = .ok (.i2b, 1) := by decide +kernel
theorem dX10_trimmed_35 : decode cX10_trimmed 35 = .ok (.i2l, 1) := by decide +kernel
theorem dX10_trimmed_36 : decode cX10_trimmed 36 = .ok (.lreturn, 1) := by decide +kernel
theorem dX10_trimmed_37 : decode cX10_trimmed 37 = .ok (.lload_n 1, 1) := by decide +kernel
theorem dX10_trimmed_38 : decode cX10_trimmed 38 = .ok (.l2i, 1) := by decide +kernel
theorem dX10_trimmed_39 : decode cX10_trimmed 39 = .ok (.i2s, 1) := by decide +kernel
theorem dX10_trimmed_40 : decode cX10_trimmed 40 = .ok (.i2l, 1) := by decide +kernel
theorem dX10_trimmed_41 : decode cX10_trimmed 41 = .ok (.lreturn, 1) := by decide +kernel
theorem dX10_trimmed_42 : decode cX10_trimmed 42 = .ok (.lload_n 1, 1) := by decide +kernel
theorem dX10_trimmed_43 : decode cX10_trimmed 43 = .ok (.l2i, 1) := by decide +kernel
theorem dX10_trimmed_44 : decode cX10_trimmed 44 = .ok (.i2l, 1) := by decide +kernel
theorem dX10_trimmed_45 : decode cX10_trimmed 45 = .ok (.lreturn, 1) := by decide +kernel
theorem dX10_trimmed_46 : decode cX10_trimmed 46 = .ok (.lload_n 1, 1) := by decide +kernel
theorem dX10_trimmed_47 : decode cX10_trimmed 47 = .ok (.lreturn, 1) := by decide +kernel
def wX10_trimmed (f : Nat) (Φ : Int → aj_M → Prop) (q0 : List Nat) (w1 : Int) (m : aj_M) : Prop := rI (m q0 1) ∧ ((m q0 1) < 0 ∨ 2 < (m q0 1) → Φ w1 m) ∧ ((m q0 1) = 0 → rI (aj_b w1) ∧ Φ (aj_b w1) m) ∧ ((m q0 1) = 1 → rI (aj_sh w1) ∧ Φ (aj_sh w1) m) ∧ ((m q0 1) = 2 → rI w1 ∧ Φ w1 m)
set_option maxHeartbeats 4000000 in
set_option maxRecDepth 100000 in
theorem sX10_trimmed {n f : Nat} {Φ : Int → aj_M → Prop} {q0 : List Nat} {w1 : Int} {m : aj_M} (hq0 : (.inl (10, q0) : aj_R) ∈ aj_pls) (h : wX10_trimmed f Φ q0 w1 m) : aj_Ct n yX10_trimmed cX10_trimmed 3 (some .long) [vO 10 q0, vL w1] m (fun r m => ∃ z, r = some (vL z) ∧ Φ z m) := by
  refine aj_met (lv := [some (vO 10 q0), some (vL w1), none]) (by decide +kernel) rfl (Nat.le_of_ble_eq_true rfl) (fun X C K => ?_)
  unfold wX10_trimmed at h
  refine aj_aload_n C dX10_trimmed_0 rfl ?_
  refine aj_getI C flX10_15 hq0 (by decide) dX10_trimmed_1 rfl ?_
  obtain ⟨r0, hd, hc0, hc1, hc2⟩ := h
  rcases (by omega : ((m q0 1) < 0 ∨ 2 < (m q0 1)) ∨ (m q0 1) = 0 ∨ (m q0 1) = 1 ∨ (m q0 1) = 2) with e | e | e | e
  · have h := hd e
    refine aj_tout (tgt := 46) C dX10_trimmed_4 r0 e (by decide) ?_
    refine aj_lload_n C dX10_trimmed_46 rfl ?_
    exact aj_lret C K dX10_trimmed_47 ⟨_, rfl, h⟩
  · have h := hc0 e
    refine aj_tin (tgt := 32) (off := 28) C dX10_trimmed_4 r0 (by omega) (by omega) (by rw [e]; rfl) (by decide) ?_
    refine aj_lload_n C dX10_trimmed_32 rfl ?_
    refine aj_l2i C dX10_trimmed_33 ?_
    refine aj_i2b C dX10_trimmed_34 ?_
    obtain ⟨r0, h⟩ := h
    refine aj_i2l C dX10_trimmed_35 r0 ?_
    exact aj_lret C K dX10_trimmed_36 ⟨_, rfl, h⟩
  · have h := hc1 e
    refine aj_tin (tgt := 37) (off := 33) C dX10_trimmed_4 r0 (by omega) (by omega) (by rw [e]; rfl) (by decide) ?_
    refine aj_lload_n C dX10_trimmed_37 rfl ?_
    refine aj_l2i C dX10_trimmed_38 ?_
    refine aj_i2s C dX10_trimmed_39 ?_
    obtain ⟨r0, h⟩ := h
    refine aj_i2l C dX10_trimmed_40 r0 ?_
    exact aj_lret C K dX10_trimmed_41 ⟨_, rfl, h⟩
  · have h := hc2 e
    refine aj_tin (tgt := 42) (off := 38) C dX10_trimmed_4 r0 (by omega) (by omega) (by rw [e]; rfl) (by decide) ?_
    refine aj_lload_n C dX10_trimmed_42 rfl ?_
    refine aj_l2i C dX10_trimmed_43 ?_
    obtain ⟨r0, h⟩ := h
    refine aj_i2l C dX10_trimmed_44 r0 ?_
    exact aj_lret C K dX10_trimmed_45 ⟨_, rfl, h⟩
theorem dX11_feed_0 : decode cX11_feed 0 = .ok (.aload_n 0, 1) := by decide +kernel
theorem dX11_feed_1 : decode cX11_feed 1 = .ok (.getfield 12, 3) := by decide +kernel
theorem dX11_feed_4 : decode cX11_feed 4 = .ok (.getfield 86, 3) := by decide +kernel
theorem dX11_feed_7 : decode cX11_feed 7 = .ok (.sipush 880, 3) := by decide +kernel
theorem dX11_feed_10 : decode cX11_feed 10 = .ok (.if_icmp .le 6, 3) := by decide +kernel
theorem dX11_feed_13 : decode cX11_feed 13 = .ok (.bipush (-5), 2) := by decide +kernel
theorem dX11_feed_15 : decode cX11_feed 15 = .ok (.ireturn, 1) := by decide +kernel
theorem dX11_feed_16 : decode cX11_feed 16 = .ok (.aload_n 0, 1) := by decide +kernel
theorem dX11_feed_17 : decode cX11_feed 17 = .ok (.getfield 12, 3) := by decide +kernel
theorem dX11_feed_20 : decode cX11_feed 20 = .ok (.iload_n 1, 1) := by decide +kernel
theorem dX11_feed_21 : decode cX11_feed 21 = .ok (.invokevirtual 90, 3) := by decide +kernel
theorem dX11_feed_24 : decode cX11_feed 24 = .ok (.aload_n 0, 1) := by decide +kernel
theorem dX11_feed_25 : decode cX11_feed 25 = .ok (.getfield 12, 3) := by decide +kernel
theorem dX11_feed_28 : decode cX11_feed 28 = .ok (.iload_n 2, 1) := by decide +kernel
theorem dX11_feed_29 : decode cX11_feed 29 = .ok (.invokevirtual 90, 3) := by decide +kernel
theorem dX11_feed_32 : decode cX11_feed 32 = .ok (.aload_n 0, 1) := by decide +kernel
theorem dX11_feed_33 : decode cX11_feed 33 = .ok (.getfield 12, 3) := by decide +kernel
theorem dX11_feed_36 : decode cX11_feed 36 = .ok (.iload_n 3, 1) := by decide +kernel
theorem dX11_feed_37 : decode cX11_feed 37 = .ok (.invokevirtual 90, 3) := by decide +kernel
theorem dX11_feed_40 : decode cX11_feed 40 = .ok (.aload_n 0, 1) := by decide +kernel
theorem dX11_feed_41 : decode cX11_feed 41 = .ok (.getfield 12, 3) := by decide +kernel
theorem dX11_feed_44 : decode cX11_feed 44 = .ok (.iload 4, 2) := by decide +kernel
theorem dX11_feed_46 : decode cX11_feed 46 = .ok (.invokevirtual 90, 3) := by decide +kernel
theorem dX11_feed_49 : decode cX11_feed 49 = .ok (.aload_n 0, 1) := by decide +kernel
theorem dX11_feed_50 : decode cX11_feed 50 = .ok (.getfield 12, 3) := by decide +kernel
theorem dX11_feed_53 : decode cX11_feed 53 = .ok (.iload 5, 2) := by decide +kernel
theorem dX11_feed_55 : decode cX11_feed 55 = .ok (.invokevirtual 90, 3) := by decide +kernel
theorem dX11_feed_58 : decode cX11_feed 58 = .ok (.aload_n 0, 1) := by decide +kernel
theorem dX11_feed_59 : decode cX11_feed 59 = .ok (.getfield 12, 3) := by decide +kernel
theorem dX11_feed_62 : decode cX11_feed 62 = .ok (.getfield 86, 3) := by decide +kernel
theorem dX11_feed_65 : decode cX11_feed 65 = .ok (.ireturn, 1) := by decide +kernel
def wX11_feed (f : Nat) (Φ : Int → aj_M → Prop) (q0 : List Nat) (v1 : Int) (v2 : Int) (v3 : Int) (v4 : Int) (v5 : Int) (m : aj_M) : Prop := rI (m (0 :: q0) 1) ∧ ((m (0 :: q0) 1) ≤ 880 → wX7_layFour f (fun m1 => wX7_layFour f (fun m2 => wX7_layFour f (fun m3 => wX7_layFour f (fun m4 => wX7_layFour f (fun m5 => Φ (m5 (0 :: q0) 1) m5) (0 :: q0) v5 m4) (0 :: q0) v4 m3) (0 :: q0) v3 m2) (0 :: q0) v2 m1) (0 :: q0) v1 m) ∧ (¬ ((m (0 :: q0) 1) ≤ 880) → Φ (-5) m)
set_option maxHeartbeats 4000000 in
set_option maxRecDepth 100000 in
theorem sX11_feed {n f : Nat} {Φ : Int → aj_M → Prop} {q0 : List Nat} {v1 : Int} {v2 : Int} {v3 : Int} {v4 : Int} {v5 : Int} {m : aj_M} (hq0 : (.inl (11, q0) : aj_R) ∈ aj_pls) (h : wX11_feed f Φ q0 v1 v2 v3 v4 v5 m) : aj_Ct (n + 1) yX11_feed cX11_feed 6 (some .int) [vO 11 q0, vI v1, vI v2, vI v3, vI v4, vI v5] m (fun r m => ∃ z, r = some (vI z) ∧ Φ z m) := by
  refine aj_met (lv := [some (vO 11 q0), some (vI v1), some (vI v2), some (vI v3), some (vI v4), some (vI v5)]) (by decide +kernel) rfl (Nat.le_of_ble_eq_true rfl) (fun X C K => ?_)
  unfold wX11_feed at h
  refine aj_aload_n C dX11_feed_0 rfl ?_
  refine aj_getO (x := 7) (y := 0) C flX11_12 hq0 rfl dX11_feed_1 ?_
  refine aj_getI C flX11_86 (aj_cf (x := 7) (y := 0) (j := 0) hq0 (by decide) rfl) (by decide) dX11_feed_4 rfl ?_
  refine aj_sipush C dX11_feed_7 (by decide) ?_
  obtain ⟨r0, h1, h2⟩ := h
  refine aj_icmp_le (tgt := 16) C dX11_feed_10 (by decide) r0 (by decide) (fun e => ?_) (fun e => ?_)
  · have h := h1 e
    refine aj_aload_n C dX11_feed_16 rfl ?_
    refine aj_getO (x := 7) (y := 0) C flX11_12 hq0 rfl dX11_feed_17 ?_
    refine aj_iload_n C dX11_feed_20 rfl ?_
    refine aj_callV (rest := []) C mvX11_90 (sX7_layFour (aj_cf (x := 7) (y := 0) (j := 0) hq0 (by decide) rfl) h) (aj_cf (x := 7) (y := 0) (j := 0) hq0 (by decide) rfl) (aj_np 1 (by decide +kernel) rfl) (Nat.le_of_ble_eq_true rfl) rfl dX11_feed_21 (fun r m1 h => ?_)
    obtain ⟨rfl, h⟩ := h
    refine aj_aload_n C dX11_feed_24 rfl ?_
    refine aj_getO (x := 7) (y := 0) C flX11_12 hq0 rfl dX11_feed_25 ?_
    refine aj_iload_n C dX11_feed_28 rfl ?_
    refine aj_callV (rest := []) C mvX11_90 (sX7_layFour (aj_cf (x := 7) (y := 0) (j := 0) hq0 (by decide) rfl) h) (aj_cf (x := 7) (y := 0) (j := 0) hq0 (by decide) rfl) (aj_np 1 (by decide +kernel) rfl) (Nat.le_of_ble_eq_true rfl) rfl dX11_feed_29 (fun r m2 h => ?_)
    obtain ⟨rfl, h⟩ := h
    refine aj_aload_n C dX11_feed_32 rfl ?_
    refine aj_getO (x := 7) (y := 0) C flX11_12 hq0 rfl dX11_feed_33 ?_
    refine aj_iload_n C dX11_feed_36 rfl ?_
    refine aj_callV (rest := []) C mvX11_90 (sX7_layFour (aj_cf (x := 7) (y := 0) (j := 0) hq0 (by decide) rfl) h) (aj_cf (x := 7) (y := 0) (j := 0) hq0 (by decide) rfl) (aj_np 1 (by decide +kernel) rfl) (Nat.le_of_ble_eq_true rfl) rfl dX11_feed_37 (fun r m3 h => ?_)
    obtain ⟨rfl, h⟩ := h
    refine aj_aload_n C dX11_feed_40 rfl ?_
    refine aj_getO (x := 7) (y := 0) C flX11_12 hq0 rfl dX11_feed_41 ?_
    refine aj_iload C dX11_feed_44 rfl ?_
    refine aj_callV (rest := []) C mvX11_90 (sX7_layFour (aj_cf (x := 7) (y := 0) (j := 0) hq0 (by decide) rfl) h) (aj_cf (x := 7) (y := 0) (j := 0) hq0 (by decide) rfl) (aj_np 1 (by decide +kernel) rfl) (Nat.le_of_ble_eq_true rfl) rfl dX11_feed_46 (fun r m4 h => ?_)
    obtain ⟨rfl, h⟩ := h
    refine aj_aload_n C dX11_feed_49 rfl ?_
    refine aj_getO (x := 7) (y := 0) C flX11_12 hq0 rfl dX11_feed_50 ?_
    refine aj_iload C dX11_feed_53 rfl ?_
    refine aj_callV (rest := []) C mvX11_90 (sX7_layFour (aj_cf (x := 7) (y := 0) (j := 0) hq0 (by decide) rfl) h) (aj_cf (x := 7) (y := 0) (j := 0) hq0 (by decide) rfl) (aj_np 1 (by decide +kernel) rfl) (Nat.le_of_ble_eq_true rfl) rfl dX11_feed_55 (fun r m5 h => ?_)
    obtain ⟨rfl, h⟩ := h
    refine aj_aload_n C dX11_feed_58 rfl ?_
    refine aj_getO (x := 7) (y := 0) C flX11_12 hq0 rfl dX11_feed_59 ?_
    refine aj_getI C flX11_86 (aj_cf (x := 7) (y := 0) (j := 0) hq0 (by decide) rfl) (by decide) dX11_feed_62 rfl ?_
    exact aj_iret C K dX11_feed_65 ⟨_, rfl, h⟩
  · have h := h2 e
    refine aj_bipush C dX11_feed_13 (by decide) ?_
    exact aj_iret C K dX11_feed_15 ⟨_, rfl, h⟩
theorem dX11_fault_0 : decode cX11_fault 0 = .ok (.iload_n 1, 1) := by decide +kernel
theorem dX11_fault_1 : decode cX11_fault 1 = .ok (.lookupswitch 43 #[(0, 27), (1, 35)], 27) := by decide +kernel
theorem dX11_fault_28 : decode cX11_fault 28 = .ok (.aload_n 0, 1) := by decide +kernel
theorem dX11_fault_29 : decode cX11_fault 29 = .ok (.getfield 12, 3) := by decide +kernel
theorem dX11_fault_32 : decode cX11_fault 32 = .ok (.getfield 98, 3) := by decide +kernel
theorem dX11_fault_35 : decode cX11_fault 35 = .ok (.ireturn, 1) := by decide +kernel
theorem dX11_fault_36 : decode cX11_fault 36 = .ok (.aload_n 0, 1) := by decide +kernel
theorem dX11_fault_37 : decode cX11_fault 37 = .ok (.getfield 12, 3) := by decide +kernel
theorem dX11_fault_40 : decode cX11_fault 40 = .ok (.getfield 115, 3) := by decide +kernel
theorem dX11_fault_43 : decode cX11_fault 43 = .ok (.ireturn, 1) := by decide +kernel
theorem dX11_fault_44 : decode cX11_fault 44 = .ok (.iconst (-1), 1) := by decide +kernel
theorem dX11_fault_45 : decode cX11_fault 45 = .ok (.ireturn, 1) := by decide +kernel
def wX11_fault (f : Nat) (Φ : Int → aj_M → Prop) (q0 : List Nat) (v1 : Int) (m : aj_M) : Prop := rI v1 ∧ (¬ v1 = 0 ∧ ¬ v1 = 1 → Φ (-1) m) ∧ (v1 = 0 → Φ (m (0 :: q0) 9) m) ∧ (v1 = 1 → Φ (m (0 :: q0) 10) m)
set_option maxHeartbeats 4000000 in
set_option maxRecDepth 100000 in
theorem sX11_fault {n f : Nat} {Φ : Int → aj_M → Prop} {q0 : List Nat} {v1 : Int} {m : aj_M} (hq0 : (.inl (11, q0) : aj_R) ∈ aj_pls) (h : wX11_fault f Φ q0 v1 m) : aj_Ct n yX11_fault cX11_fault 2 (some .int) [vO 11 q0, vI v1] m (fun r m => ∃ z, r = some (vI z) ∧ Φ z m) := by
  refine aj_met (lv := [some (vO 11 q0), some (vI v1)]) (by decide +kernel) rfl (Nat.le_of_ble_eq_true rfl) (fun X C K => ?_)
  unfold wX11_fault at h
  refine aj_iload_n C dX11_fault_0 rfl ?_
  obtain ⟨r0, hd, hc0, hc1⟩ := h
  rcases (by omega : (¬ v1 = 0 ∧ ¬ v1 = 1) ∨ v1 = 0 ∨ v1 = 1) with e | e | e
  · have h := hd e
    refine aj_look (tgt := 44) (off := 43) C dX11_fault_1 (by decide) r0 (by simp [Op.lookupswitch.offset_cons, Op.lookupswitch.offset]; omega) (by decide) ?_
    refine aj_iconst C dX11_fault_44 ?_
    exact aj_iret C K dX11_fault_45 ⟨_, rfl, h⟩
  · have h := hc0 e
    refine aj_look (tgt := 28) (off := 27) C dX11_fault_1 (by decide) r0 (by rw [e]; rfl) (by decide) ?_
    refine aj_aload_n C dX11_fault_28 rfl ?_
    refine aj_getO (x := 7) (y := 0) C flX11_12 hq0 rfl dX11_fault_29 ?_
    refine aj_getI C flX11_98 (aj_cf (x := 7) (y := 0) (j := 0) hq0 (by decide) rfl) (by decide) dX11_fault_32 rfl ?_
    exact aj_iret C K dX11_fault_35 ⟨_, rfl, h⟩
  · have h := hc1 e
    refine aj_look (tgt := 36) (off := 35) C dX11_fault_1 (by decide) r0 (by rw [e]; rfl) (by decide) ?_
    refine aj_aload_n C dX11_fault_36 rfl ?_
    refine aj_getO (x := 7) (y := 0) C flX11_12 hq0 rfl dX11_fault_37 ?_
    refine aj_getI C flX11_115 (aj_cf (x := 7) (y := 0) (j := 0) hq0 (by decide) rfl) (by decide) dX11_fault_40 rfl ?_
    exact aj_iret C K dX11_fault_43 ⟨_, rfl, h⟩
theorem dX11_arc_0 : decode cX11_arc 0 = .ok (.aload_n 0, 1) := by decide +kernel
theorem dX11_arc_1 : decode cX11_arc 1 = .ok (.getfield 19, 3) := by decide +kernel
theorem dX11_arc_4 : decode cX11_arc 4 = .ok (.iload_n 1, 1) := by decide +kernel
theorem dX11_arc_5 : decode cX11_arc 5 = .ok (.invokevirtual 118, 3) := by decide +kernel
theorem dX11_arc_8 : decode cX11_arc 8 = .ok (.ifCond .ne 6, 3) := by decide +kernel
theorem dX11_arc_11 : decode cX11_arc 11 = .ok (.bipush (-2), 2) := by decide +kernel
theorem dX11_arc_13 : decode cX11_arc 13 = .ok (.ireturn, 1) := by decide +kernel
theorem dX11_arc_14 : decode cX11_arc 14 = .ok (.iload_n 2, 1) := by decide +kernel
theorem dX11_arc_15 : decode cX11_arc 15 = .ok (.tableswitch 97 0 4 #[33, 43, 53, 63, 80], 33) := by decide +kernel
theorem dX11_arc_48 : decode cX11_arc 48 = .ok (.aload_n 0, 1) := by decide +kernel
theorem dX11_arc_49 : decode cX11_arc 49 = .ok (.getfield 19, 3) := by decide +kernel
theorem dX11_arc_52 : decode cX11_arc 52 = .ok (.getfield 121, 3) := by decide +kernel
theorem dX11_arc_55 : decode cX11_arc 55 = .ok (.iload_n 1, 1) := by decide +kernel
theorem dX11_arc_56 : decode cX11_arc 56 = .ok (.iaload, 1) := by decide +kernel
theorem dX11_arc_57 : decode cX11_arc 57 = .ok (.ireturn, 1) := by decide +kernel
theorem dX11_arc_58 : decode cX11_arc 58 = .ok (.aload_n 0, 1) := by decide +kernel
theorem dX11_arc_59 : decode cX11_arc 59 = .ok (.getfield 19, 3) := by decide +kernel
theorem dX11_arc_62 : decode cX11_arc 62 = .ok (.getfield 124, 3) := by decide +kernel
theorem dX11_arc_65 : decode cX11_arc 65 = .ok (.iload_n 1, 1) := by decide +kernel
theorem dX11_arc_66 : decode cX11_arc 66 = .ok (.iaload, 1) := by decide +kernel
theorem dX11_arc_67 : decode cX11_arc 67 = .ok (.ireturn, 1) := by decide +kernel
theorem dX11_arc_68 : decode cX11_arc 68 = .ok (.aload_n 0, 1) := by decide +kernel
theorem dX11_arc_69 : decode cX11_arc 69 = .ok (.getfield 26, 3) := by decide +kernel
theorem dX11_arc_72 : decode cX11_arc 72 = .ok (.getfield 127, 3) := by decide +kernel
theorem dX11_arc_75 : decode cX11_arc 75 = .ok (.iload_n 1, 1) := by decide +kernel
theorem dX11_arc_76 : decode cX11_arc 76 = .ok (.iaload, 1) := by decide +kernel
theorem dX11_arc_77 : decode cX11_arc 77 = .ok (.ireturn, 1) := by decide +kernel
theorem dX11_arc_78 : decode cX11_arc 78 = .ok (.aload_n 0, 1) := by decide +kernel
theorem dX11_arc_79 : decode cX11_arc 79 = .ok (.getfield 19, 3) := by decide +kernel
theorem dX11_arc_82 : decode cX11_arc 82 = .ok (.iload_n 1, 1) := by decide +kernel
theorem dX11_arc_83 : decode cX11_arc 83 = .ok (.invokevirtual 130, 3) := by decide +kernel
theorem dX11_arc_86 : decode cX11_arc 86 = .ok (.ifCond .eq 7, 3) := by decide +kernel
theorem dX11_arc_89 : decode cX11_arc 89 = .ok (.iconst 1, 1) := by decide +kernel
theorem dX11_arc_90 : decode cX11_arc 90 = .ok (.goto 4, 3) := by decide +kernel
theorem dX11_arc_93 : decode cX11_arc 93 = .ok (.iconst 0, 1) := by decide +kernel
theorem dX11_arc_94 : decode cX11_arc 94 = .ok (.ireturn, 1) := by decide +kernel
theorem dX11_arc_95 : decode cX11_arc 95 = .ok (.aload_n 0, 1) := by decide +kernel
theorem dX11_arc_96 : decode cX11_arc 96 = .ok (.getfield 26, 3) := by decide +kernel
theorem dX11_arc_99 : decode cX11_arc 99 = .ok (.iload_n 1, 1) := by decide +kernel
theorem dX11_arc_100 : decode cX11_arc 100 = .ok (.invokevirtual 133, 3) := by decide +kernel
theorem dX11_arc_103 : decode cX11_arc 103 = .ok (.ifCond .eq 7, 3) := by decide +kernel
theorem dX11_arc_106 : decode cX11_arc 106 = .ok (.iconst 1, 1) := by decide +kernel
theorem dX11_arc_107 : decode cX11_arc 107 = .ok (.goto 4, 3) := by decide +kernel
theorem dX11_arc_110 : decode cX11_arc 110 = .ok (.iconst 0, 1) := by decide +kernel
theorem dX11_arc_111 : decode cX11_arc 111 = .ok (.ireturn, 1) := by decide +kernel
theorem dX11_arc_112 : decode cX11_arc 112 = .ok (.bipush (-2), 2) := by decide +kernel
theorem dX11_arc_114 : decode cX11_arc 114 = .ok (.ireturn, 1) := by decide +kernel
def wX11_arc (f : Nat) (Φ : Int → aj_M → Prop) (q0 : List Nat) (v1 : Int) (v2 : Int) (m : aj_M) : Prop := wX6_hasArc f (fun z1 m1 => rI z1 ∧ (¬ z1 = 0 → rI v2 ∧ (v2 < 0 ∨ 4 < v2 → Φ (-2) m1) ∧ (v2 = 0 → (0 ≤ v1 ∧ v1 < 12) ∧ Φ (m1 (7 :: (1 :: q0)) v1.toNat) m1) ∧ (v2 = 1 → (0 ≤ v1 ∧ v1 < 12) ∧ Φ (m1 (8 :: (1 :: q0)) v1.toNat) m1) ∧ (v2 = 2 → (0 ≤ v1 ∧ v1 < 12) ∧ Φ (m1 (0 :: (2 :: q0)) v1.toNat) m1) ∧ (v2 = 3 → wX6_isHalf f (fun z2 m2 => rI z2 ∧ (z2 = 0 → Φ 0 m2) ∧ (¬ (z2 = 0) → Φ 1 m2)) (1 :: q0) v1 m1) ∧ (v2 = 4 → wX9_isOut f (fun z3 m3 => rI z3 ∧ (z3 = 0 → Φ 0 m3) ∧ (¬ (z3 = 0) → Φ 1 m3)) (2 :: q0) v1 m1)) ∧ (z1 = 0 → Φ (-2) m1)) (1 :: q0) v1 m
set_option maxHeartbeats 4000000 in
set_option maxRecDepth 100000 in
theorem sX11_arc {n f : Nat} {Φ : Int → aj_M → Prop} {q0 : List Nat} {v1 : Int} {v2 : Int} {m : aj_M} (hq0 : (.inl (11, q0) : aj_R) ∈ aj_pls) (h : wX11_arc f Φ q0 v1 v2 m) : aj_Ct (n + 2) yX11_arc cX11_arc 3 (some .int) [vO 11 q0, vI v1, vI v2] m (fun r m => ∃ z, r = some (vI z) ∧ Φ z m) := by
  refine aj_met (lv := [some (vO 11 q0), some (vI v1), some (vI v2)]) (by decide +kernel) rfl (Nat.le_of_ble_eq_true rfl) (fun X C K => ?_)
  unfold wX11_arc at h
  refine aj_aload_n C dX11_arc_0 rfl ?_
  refine aj_getO (x := 6) (y := 0) C flX11_19 hq0 rfl dX11_arc_1 ?_
  refine aj_iload_n C dX11_arc_4 rfl ?_
  refine aj_callV (rest := []) C mvX11_118 (sX6_hasArc (aj_cf (x := 6) (y := 0) (j := 1) hq0 (by decide) rfl) h) (aj_cf (x := 6) (y := 0) (j := 1) hq0 (by decide) rfl) (aj_np 1 (by decide +kernel) rfl) (Nat.le_of_ble_eq_true rfl) rfl dX11_arc_5 (fun r m1 h => ?_)
  obtain ⟨z1, rfl, h⟩ := h
  obtain ⟨r0, h1, h2⟩ := h
  refine aj_if_ne (tgt := 14) C dX11_arc_8 (by decide) r0 (fun e => ?_) (fun e => ?_)
  · have h := h1 e
    refine aj_iload_n C dX11_arc_14 rfl ?_
    obtain ⟨r0, hd, hc0, hc1, hc2, hc3, hc4⟩ := h
    rcases (by omega : (v2 < 0 ∨ 4 < v2) ∨ v2 = 0 ∨ v2 = 1 ∨ v2 = 2 ∨ v2 = 3 ∨ v2 = 4) with e | e | e | e | e | e
    · have h := hd e
      refine aj_tout (tgt := 112) C dX11_arc_15 r0 e (by decide) ?_
      refine aj_bipush C dX11_arc_112 (by decide) ?_
      exact aj_iret C K dX11_arc_114 ⟨_, rfl, h⟩
    · have h := hc0 e
      refine aj_tin (tgt := 48) (off := 33) C dX11_arc_15 r0 (by omega) (by omega) (by rw [e]; rfl) (by decide) ?_
      refine aj_aload_n C dX11_arc_48 rfl ?_
      refine aj_getO (x := 6) (y := 0) C flX11_19 hq0 rfl dX11_arc_49 ?_
      refine aj_getA (x := 0) (y := 12) C flX11_121 (aj_cf (x := 6) (y := 0) (j := 1) hq0 (by decide) rfl) rfl dX11_arc_52 ?_
      refine aj_iload_n C dX11_arc_55 rfl ?_
      obtain ⟨r0, h⟩ := h
      refine aj_iald C (aj_ca (e := 0) (n := 12) (j := 7) (aj_cf (x := 6) (y := 0) (j := 1) hq0 (by decide) rfl) (by decide) rfl) (by decide) r0 dX11_arc_56 rfl ?_
      exact aj_iret C K dX11_arc_57 ⟨_, rfl, h⟩
    · have h := hc1 e
      refine aj_tin (tgt := 58) (off := 43) C dX11_arc_15 r0 (by omega) (by omega) (by rw [e]; rfl) (by decide) ?_
      refine aj_aload_n C dX11_arc_58 rfl ?_
      refine aj_getO (x := 6) (y := 0) C flX11_19 hq0 rfl dX11_arc_59 ?_
      refine aj_getA (x := 0) (y := 12) C flX11_124 (aj_cf (x := 6) (y := 0) (j := 1) hq0 (by decide) rfl) rfl dX11_arc_62 ?_
      refine aj_iload_n C dX11_arc_65 rfl ?_
      obtain ⟨r0, h⟩ := h
      refine aj_iald C (aj_ca (e := 0) (n := 12) (j := 8) (aj_cf (x := 6) (y := 0) (j := 1) hq0 (by decide) rfl) (by decide) rfl) (by decide) r0 dX11_arc_66 rfl ?_
      exact aj_iret C K dX11_arc_67 ⟨_, rfl, h⟩
    · have h := hc2 e
      refine aj_tin (tgt := 68) (off := 53) C dX11_arc_15 r0 (by omega) (by omega) (by rw [e]; rfl) (by decide) ?_
      refine aj_aload_n C dX11_arc_68 rfl ?_
      refine aj_getO (x := 9) (y := 0) C flX11_26 hq0 rfl dX11_arc_69 ?_
      refine aj_getA (x := 0) (y := 12) C flX11_127 (aj_cf (x := 9) (y := 0) (j := 2) hq0 (by decide) rfl) rfl dX11_arc_72 ?_
      refine aj_iload_n C dX11_arc_75 rfl ?_
      obtain ⟨r0, h⟩ := h
      refine aj_iald C (aj_ca (e := 0) (n := 12) (j := 0) (aj_cf (x := 9) (y := 0) (j := 2) hq0 (by decide) rfl) (by decide) rfl) (by decide) r0 dX11_arc_76 rfl ?_
      exact aj_iret C K dX11_arc_77 ⟨_, rfl, h⟩
    · have h := hc3 e
      refine aj_tin (tgt := 78) (off := 63) C dX11_arc_15 r0 (by omega) (by omega) (by rw [e]; rfl) (by decide) ?_
      refine aj_aload_n C dX11_arc_78 rfl ?_
      refine aj_getO (x := 6) (y := 0) C flX11_19 hq0 rfl dX11_arc_79 ?_
      refine aj_iload_n C dX11_arc_82 rfl ?_
      refine aj_callV (rest := []) C mvX11_130 (sX6_isHalf (aj_cf (x := 6) (y := 0) (j := 1) hq0 (by decide) rfl) h) (aj_cf (x := 6) (y := 0) (j := 1) hq0 (by decide) rfl) (aj_np 1 (by decide +kernel) rfl) (Nat.le_of_ble_eq_true rfl) rfl dX11_arc_83 (fun r m2 h => ?_)
      obtain ⟨z2, rfl, h⟩ := h
      obtain ⟨r0, h1, h2⟩ := h
      refine aj_if_eq (tgt := 93) C dX11_arc_86 (by decide) r0 (fun e => ?_) (fun e => ?_)
      · have h := h1 e
        refine aj_iconst C dX11_arc_93 ?_
        exact aj_iret C K dX11_arc_94 ⟨_, rfl, h⟩
      · have h := h2 e
        refine aj_iconst C dX11_arc_89 ?_
        refine aj_goto (tgt := 94) C dX11_arc_90 (by decide) ?_
        exact aj_iret C K dX11_arc_94 ⟨_, rfl, h⟩
    · have h := hc4 e
      refine aj_tin (tgt := 95) (off := 80) C dX11_arc_15 r0 (by omega) (by omega) (by rw [e]; rfl) (by decide) ?_
      refine aj_aload_n C dX11_arc_95 rfl ?_
      refine aj_getO (x := 9) (y := 0) C flX11_26 hq0 rfl dX11_arc_96 ?_
      refine aj_iload_n C dX11_arc_99 rfl ?_
      refine aj_callV (rest := []) C mvX11_133 (sX9_isOut (aj_cf (x := 9) (y := 0) (j := 2) hq0 (by decide) rfl) h) (aj_cf (x := 9) (y := 0) (j := 2) hq0 (by decide) rfl) (aj_np 1 (by decide +kernel) rfl) (Nat.le_of_ble_eq_true rfl) rfl dX11_arc_100 (fun r m3 h => ?_)
      obtain ⟨z3, rfl, h⟩ := h
      obtain ⟨r0, h1, h2⟩ := h
      refine aj_if_eq (tgt := 110) C dX11_arc_103 (by decide) r0 (fun e => ?_) (fun e => ?_)
      · have h := h1 e
        refine aj_iconst C dX11_arc_110 ?_
        exact aj_iret C K dX11_arc_111 ⟨_, rfl, h⟩
      · have h := h2 e
        refine aj_iconst C dX11_arc_106 ?_
        refine aj_goto (tgt := 111) C dX11_arc_107 (by decide) ?_
        exact aj_iret C K dX11_arc_111 ⟨_, rfl, h⟩
  · have h := h2 e
    refine aj_bipush C dX11_arc_11 (by decide) ?_
    exact aj_iret C K dX11_arc_13 ⟨_, rfl, h⟩
theorem dX11_product_0 : decode cX11_product 0 = .ok (.aload_n 0, 1) := by decide +kernel
theorem dX11_product_1 : decode cX11_product 1 = .ok (.getfield 19, 3) := by decide +kernel
theorem dX11_product_4 : decode cX11_product 4 = .ok (.getfield 136, 3) := by decide +kernel
theorem dX11_product_7 : decode cX11_product 7 = .ok (.iload_n 1, 1) := by decide +kernel
theorem dX11_product_8 : decode cX11_product 8 = .ok (.invokevirtual 140, 3) := by decide +kernel
theorem dX11_product_11 : decode cX11_product 11 = .ok (.ifCond .eq 17, 3) := by decide +kernel
theorem dX11_product_14 : decode cX11_product 14 = .ok (.aload_n 0, 1) := by decide +kernel
theorem dX11_product_15 : decode cX11_product 15 = .ok (.getfield 19, 3) := by decide +kernel
theorem dX11_product_18 : decode cX11_product 18 = .ok (.getfield 136, 3) := by decide +kernel
theorem dX11_product_21 : decode cX11_product 21 = .ok (.iload_n 2, 1) := by decide +kernel
theorem dX11_product_22 : decode cX11_product 22 = .ok (.invokevirtual 140, 3) := by decide +kernel
theorem dX11_product_25 : decode cX11_product 25 = .ok (.ifCond .ne 6, 3) := by decide +kernel
theorem dX11_product_28 : decode cX11_product 28 = .ok (.bipush (-2), 2) := by decide +kernel
theorem dX11_product_30 : decode cX11_product 30 = .ok (.ireturn, 1) := by decide +kernel
theorem dX11_product_31 : decode cX11_product 31 = .ok (.aload_n 0, 1) := by decide +kernel
theorem dX11_product_32 : decode cX11_product 32 = .ok (.getfield 19, 3) := by decide +kernel
theorem dX11_product_35 : decode cX11_product 35 = .ok (.getfield 136, 3) := by decide +kernel
theorem dX11_product_38 : decode cX11_product 38 = .ok (.iload_n 1, 1) := by decide +kernel
theorem dX11_product_39 : decode cX11_product 39 = .ok (.iload_n 2, 1) := by decide +kernel
theorem dX11_product_40 : decode cX11_product 40 = .ok (.invokevirtual 145, 3) := by decide +kernel
theorem dX11_product_43 : decode cX11_product 43 = .ok (.ireturn, 1) := by decide +kernel
def wX11_product (f : Nat) (Φ : Int → aj_M → Prop) (q0 : List Nat) (v1 : Int) (v2 : Int) (m : aj_M) : Prop := wX0_has f (fun z1 m1 => rI z1 ∧ (z1 = 0 → Φ (-2) m1) ∧ (¬ (z1 = 0) → wX0_has f (fun z2 m2 => rI z2 ∧ (¬ z2 = 0 → wX0_times f (fun z3 m3 => Φ z3 m3) (0 :: (1 :: q0)) v1 v2 m2) ∧ (z2 = 0 → Φ (-2) m2)) (0 :: (1 :: q0)) v2 m1)) (0 :: (1 :: q0)) v1 m
set_option maxHeartbeats 4000000 in
set_option maxRecDepth 100000 in
theorem sX11_product {n f : Nat} {Φ : Int → aj_M → Prop} {q0 : List Nat} {v1 : Int} {v2 : Int} {m : aj_M} (hq0 : (.inl (11, q0) : aj_R) ∈ aj_pls) (h : wX11_product f Φ q0 v1 v2 m) : aj_Ct (n + 2) yX11_product cX11_product 3 (some .int) [vO 11 q0, vI v1, vI v2] m (fun r m => ∃ z, r = some (vI z) ∧ Φ z m) := by
  refine aj_met (lv := [some (vO 11 q0), some (vI v1), some (vI v2)]) (by decide +kernel) rfl (Nat.le_of_ble_eq_true rfl) (fun X C K => ?_)
  unfold wX11_product at h
  refine aj_aload_n C dX11_product_0 rfl ?_
  refine aj_getO (x := 6) (y := 0) C flX11_19 hq0 rfl dX11_product_1 ?_
  refine aj_getO (x := 0) (y := 0) C flX11_136 (aj_cf (x := 6) (y := 0) (j := 1) hq0 (by decide) rfl) rfl dX11_product_4 ?_
  refine aj_iload_n C dX11_product_7 rfl ?_
  refine aj_callV (rest := []) C mvX11_140 (sX0_has (aj_cf (x := 0) (y := 0) (j := 0) (aj_cf (x := 6) (y := 0) (j := 1) hq0 (by decide) rfl) (by decide) rfl) h) (aj_cf (x := 0) (y := 0) (j := 0) (aj_cf (x := 6) (y := 0) (j := 1) hq0 (by decide) rfl) (by decide) rfl) (aj_np 1 (by decide +kernel) rfl) (Nat.le_of_ble_eq_true rfl) rfl dX11_product_8 (fun r m1 h => ?_)
  obtain ⟨z1, rfl, h⟩ := h
  obtain ⟨r0, h1, h2⟩ := h
  refine aj_if_eq (tgt := 28) C dX11_product_11 (by decide) r0 (fun e => ?_) (fun e => ?_)
  · have h := h1 e
    refine aj_bipush C dX11_product_28 (by decide) ?_
    exact aj_iret C K dX11_product_30 ⟨_, rfl, h⟩
  · have h := h2 e
    refine aj_aload_n C dX11_product_14 rfl ?_
    refine aj_getO (x := 6) (y := 0) C flX11_19 hq0 rfl dX11_product_15 ?_
    refine aj_getO (x := 0) (y := 0) C flX11_136 (aj_cf (x := 6) (y := 0) (j := 1) hq0 (by decide) rfl) rfl dX11_product_18 ?_
    refine aj_iload_n C dX11_product_21 rfl ?_
    refine aj_callV (rest := []) C mvX11_140 (sX0_has (aj_cf (x := 0) (y := 0) (j := 0) (aj_cf (x := 6) (y := 0) (j := 1) hq0 (by decide) rfl) (by decide) rfl) h) (aj_cf (x := 0) (y := 0) (j := 0) (aj_cf (x := 6) (y := 0) (j := 1) hq0 (by decide) rfl) (by decide) rfl) (aj_np 1 (by decide +kernel) rfl) (Nat.le_of_ble_eq_true rfl) rfl dX11_product_22 (fun r m2 h => ?_)
    obtain ⟨z2, rfl, h⟩ := h
    obtain ⟨r0, h1, h2⟩ := h
    refine aj_if_ne (tgt := 31) C dX11_product_25 (by decide) r0 (fun e => ?_) (fun e => ?_)
    · have h := h1 e
      refine aj_aload_n C dX11_product_31 rfl ?_
      refine aj_getO (x := 6) (y := 0) C flX11_19 hq0 rfl dX11_product_32 ?_
      refine aj_getO (x := 0) (y := 0) C flX11_136 (aj_cf (x := 6) (y := 0) (j := 1) hq0 (by decide) rfl) rfl dX11_product_35 ?_
      refine aj_iload_n C dX11_product_38 rfl ?_
      refine aj_iload_n C dX11_product_39 rfl ?_
      refine aj_callV (rest := []) C mvX11_145 (sX0_times (aj_cf (x := 0) (y := 0) (j := 0) (aj_cf (x := 6) (y := 0) (j := 1) hq0 (by decide) rfl) (by decide) rfl) h) (aj_cf (x := 0) (y := 0) (j := 0) (aj_cf (x := 6) (y := 0) (j := 1) hq0 (by decide) rfl) (by decide) rfl) (aj_np 2 (by decide +kernel) rfl) (Nat.le_of_ble_eq_true rfl) rfl dX11_product_40 (fun r m3 h => ?_)
      obtain ⟨z3, rfl, h⟩ := h
      exact aj_iret C K dX11_product_43 ⟨_, rfl, h⟩
    · have h := h2 e
      refine aj_bipush C dX11_product_28 (by decide) ?_
      exact aj_iret C K dX11_product_30 ⟨_, rfl, h⟩
theorem dX11_inverse_0 : decode cX11_inverse 0 = .ok (.aload_n 0, 1) := by decide +kernel
theorem dX11_inverse_1 : decode cX11_inverse 1 = .ok (.getfield 19, 3) := by decide +kernel
theorem dX11_inverse_4 : decode cX11_inverse 4 = .ok (.getfield 136, 3) := by decide +kernel
theorem dX11_inverse_7 : decode cX11_inverse 7 = .ok (.iload_n 1, 1) := by decide +kernel
theorem dX11_inverse_8 : decode cX11_inverse 8 = .ok (.invokevirtual 140, 3) := by decide +kernel
theorem dX11_inverse_11 : decode cX11_inverse 11 = .ok (.ifCond .eq 18, 3) := by decide +kernel
theorem dX11_inverse_14 : decode cX11_inverse 14 = .ok (.aload_n 0, 1) := by decide +kernel
theorem dX11_inverse_15 : decode cX11_inverse 15 = .ok (.getfield 19, 3) := by decide +kernel
theorem dX11_inverse_18 : decode cX11_inverse 18 = .ok (.getfield 136, 3) := by decide +kernel
theorem dX11_inverse_21 : decode cX11_inverse 21 = .ok (.getfield 149, 3) := by decide +kernel
theorem dX11_inverse_24 : decode cX11_inverse 24 = .ok (.iload_n 1, 1) := by decide +kernel
theorem dX11_inverse_25 : decode cX11_inverse 25 = .ok (.iaload, 1) := by decide +kernel
theorem dX11_inverse_26 : decode cX11_inverse 26 = .ok (.goto 5, 3) := by decide +kernel
theorem dX11_inverse_29 : decode cX11_inverse 29 = .ok (.bipush (-2), 2) := by decide +kernel
theorem dX11_inverse_31 : decode cX11_inverse 31 = .ok (.ireturn, 1) := by decide +kernel
def wX11_inverse (f : Nat) (Φ : Int → aj_M → Prop) (q0 : List Nat) (v1 : Int) (m : aj_M) : Prop := wX0_has f (fun z1 m1 => rI z1 ∧ (z1 = 0 → Φ (-2) m1) ∧ (¬ (z1 = 0) → (0 ≤ v1 ∧ v1 < 12) ∧ Φ (m1 (2 :: (0 :: (1 :: q0))) v1.toNat) m1)) (0 :: (1 :: q0)) v1 m
set_option maxHeartbeats 4000000 in
set_option maxRecDepth 100000 in
theorem sX11_inverse {n f : Nat} {Φ : Int → aj_M → Prop} {q0 : List Nat} {v1 : Int} {m : aj_M} (hq0 : (.inl (11, q0) : aj_R) ∈ aj_pls) (h : wX11_inverse f Φ q0 v1 m) : aj_Ct (n + 1) yX11_inverse cX11_inverse 2 (some .int) [vO 11 q0, vI v1] m (fun r m => ∃ z, r = some (vI z) ∧ Φ z m) := by
  refine aj_met (lv := [some (vO 11 q0), some (vI v1)]) (by decide +kernel) rfl (Nat.le_of_ble_eq_true rfl) (fun X C K => ?_)
  unfold wX11_inverse at h
  refine aj_aload_n C dX11_inverse_0 rfl ?_
  refine aj_getO (x := 6) (y := 0) C flX11_19 hq0 rfl dX11_inverse_1 ?_
  refine aj_getO (x := 0) (y := 0) C flX11_136 (aj_cf (x := 6) (y := 0) (j := 1) hq0 (by decide) rfl) rfl dX11_inverse_4 ?_
  refine aj_iload_n C dX11_inverse_7 rfl ?_
  refine aj_callV (rest := []) C mvX11_140 (sX0_has (aj_cf (x := 0) (y := 0) (j := 0) (aj_cf (x := 6) (y := 0) (j := 1) hq0 (by decide) rfl) (by decide) rfl) h) (aj_cf (x := 0) (y := 0) (j := 0) (aj_cf (x := 6) (y := 0) (j := 1) hq0 (by decide) rfl) (by decide) rfl) (aj_np 1 (by decide +kernel) rfl) (Nat.le_of_ble_eq_true rfl) rfl dX11_inverse_8 (fun r m1 h => ?_)
  obtain ⟨z1, rfl, h⟩ := h
  obtain ⟨r0, h1, h2⟩ := h
  refine aj_if_eq (tgt := 29) C dX11_inverse_11 (by decide) r0 (fun e => ?_) (fun e => ?_)
  · have h := h1 e
    refine aj_bipush C dX11_inverse_29 (by decide) ?_
    exact aj_iret C K dX11_inverse_31 ⟨_, rfl, h⟩
  · have h := h2 e
    refine aj_aload_n C dX11_inverse_14 rfl ?_
    refine aj_getO (x := 6) (y := 0) C flX11_19 hq0 rfl dX11_inverse_15 ?_
    refine aj_getO (x := 0) (y := 0) C flX11_136 (aj_cf (x := 6) (y := 0) (j := 1) hq0 (by decide) rfl) rfl dX11_inverse_18 ?_
    refine aj_getA (x := 0) (y := 12) C flX11_149 (aj_cf (x := 0) (y := 0) (j := 0) (aj_cf (x := 6) (y := 0) (j := 1) hq0 (by decide) rfl) (by decide) rfl) rfl dX11_inverse_21 ?_
    refine aj_iload_n C dX11_inverse_24 rfl ?_
    obtain ⟨r0, h⟩ := h
    refine aj_iald C (aj_ca (e := 0) (n := 12) (j := 2) (aj_cf (x := 0) (y := 0) (j := 0) (aj_cf (x := 6) (y := 0) (j := 1) hq0 (by decide) rfl) (by decide) rfl) (by decide) rfl) (by decide) r0 dX11_inverse_25 rfl ?_
    refine aj_goto (tgt := 31) C dX11_inverse_26 (by decide) ?_
    exact aj_iret C K dX11_inverse_31 ⟨_, rfl, h⟩
theorem dX11_orderOf_0 : decode cX11_orderOf 0 = .ok (.aload_n 0, 1) := by decide +kernel
theorem dX11_orderOf_1 : decode cX11_orderOf 1 = .ok (.getfield 19, 3) := by decide +kernel
theorem dX11_orderOf_4 : decode cX11_orderOf 4 = .ok (.getfield 136, 3) := by decide +kernel
theorem dX11_orderOf_7 : decode cX11_orderOf 7 = .ok (.iload_n 1, 1) := by decide +kernel
theorem dX11_orderOf_8 : decode cX11_orderOf 8 = .ok (.invokevirtual 140, 3) := by decide +kernel
theorem dX11_orderOf_11 : decode cX11_orderOf 11 = .ok (.ifCond .eq 18, 3) := by decide +kernel
theorem dX11_orderOf_14 : decode cX11_orderOf 14 = .ok (.aload_n 0, 1) := by decide +kernel
theorem dX11_orderOf_15 : decode cX11_orderOf 15 = .ok (.getfield 19, 3) := by decide +kernel
theorem dX11_orderOf_18 : decode cX11_orderOf 18 = .ok (.getfield 136, 3) := by decide +kernel
theorem dX11_orderOf_21 : decode cX11_orderOf 21 = .ok (.getfield 152, 3) := by decide +kernel
theorem dX11_orderOf_24 : decode cX11_orderOf 24 = .ok (.iload_n 1, 1) := by decide +kernel
theorem dX11_orderOf_25 : decode cX11_orderOf 25 = .ok (.iaload, 1) := by decide +kernel
theorem dX11_orderOf_26 : decode cX11_orderOf 26 = .ok (.goto 5, 3) := by decide +kernel
theorem dX11_orderOf_29 : decode cX11_orderOf 29 = .ok (.bipush (-2), 2) := by decide +kernel
theorem dX11_orderOf_31 : decode cX11_orderOf 31 = .ok (.ireturn, 1) := by decide +kernel
def wX11_orderOf (f : Nat) (Φ : Int → aj_M → Prop) (q0 : List Nat) (v1 : Int) (m : aj_M) : Prop := wX0_has f (fun z1 m1 => rI z1 ∧ (z1 = 0 → Φ (-2) m1) ∧ (¬ (z1 = 0) → (0 ≤ v1 ∧ v1 < 12) ∧ Φ (m1 (3 :: (0 :: (1 :: q0))) v1.toNat) m1)) (0 :: (1 :: q0)) v1 m
set_option maxHeartbeats 4000000 in
set_option maxRecDepth 100000 in
theorem sX11_orderOf {n f : Nat} {Φ : Int → aj_M → Prop} {q0 : List Nat} {v1 : Int} {m : aj_M} (hq0 : (.inl (11, q0) : aj_R) ∈ aj_pls) (h : wX11_orderOf f Φ q0 v1 m) : aj_Ct (n + 1) yX11_orderOf cX11_orderOf 2 (some .int) [vO 11 q0, vI v1] m (fun r m => ∃ z, r = some (vI z) ∧ Φ z m) := by
  refine aj_met (lv := [some (vO 11 q0), some (vI v1)]) (by decide +kernel) rfl (Nat.le_of_ble_eq_true rfl) (fun X C K => ?_)
  unfold wX11_orderOf at h
  refine aj_aload_n C dX11_orderOf_0 rfl ?_
  refine aj_getO (x := 6) (y := 0) C flX11_19 hq0 rfl dX11_orderOf_1 ?_
  refine aj_getO (x := 0) (y := 0) C flX11_136 (aj_cf (x := 6) (y := 0) (j := 1) hq0 (by decide) rfl) rfl dX11_orderOf_4 ?_
  refine aj_iload_n C dX11_orderOf_7 rfl ?_
  refine aj_callV (rest := []) C mvX11_140 (sX0_has (aj_cf (x := 0) (y := 0) (j := 0) (aj_cf (x := 6) (y := 0) (j := 1) hq0 (by decide) rfl) (by decide) rfl) h) (aj_cf (x := 0) (y := 0) (j := 0) (aj_cf (x := 6) (y := 0) (j := 1) hq0 (by decide) rfl) (by decide) rfl) (aj_np 1 (by decide +kernel) rfl) (Nat.le_of_ble_eq_true rfl) rfl dX11_orderOf_8 (fun r m1 h => ?_)
  obtain ⟨z1, rfl, h⟩ := h
  obtain ⟨r0, h1, h2⟩ := h
  refine aj_if_eq (tgt := 29) C dX11_orderOf_11 (by decide) r0 (fun e => ?_) (fun e => ?_)
  · have h := h1 e
    refine aj_bipush C dX11_orderOf_29 (by decide) ?_
    exact aj_iret C K dX11_orderOf_31 ⟨_, rfl, h⟩
  · have h := h2 e
    refine aj_aload_n C dX11_orderOf_14 rfl ?_
    refine aj_getO (x := 6) (y := 0) C flX11_19 hq0 rfl dX11_orderOf_15 ?_
    refine aj_getO (x := 0) (y := 0) C flX11_136 (aj_cf (x := 6) (y := 0) (j := 1) hq0 (by decide) rfl) rfl dX11_orderOf_18 ?_
    refine aj_getA (x := 0) (y := 12) C flX11_152 (aj_cf (x := 0) (y := 0) (j := 0) (aj_cf (x := 6) (y := 0) (j := 1) hq0 (by decide) rfl) (by decide) rfl) rfl dX11_orderOf_21 ?_
    refine aj_iload_n C dX11_orderOf_24 rfl ?_
    obtain ⟨r0, h⟩ := h
    refine aj_iald C (aj_ca (e := 0) (n := 12) (j := 3) (aj_cf (x := 0) (y := 0) (j := 0) (aj_cf (x := 6) (y := 0) (j := 1) hq0 (by decide) rfl) (by decide) rfl) (by decide) rfl) (by decide) r0 dX11_orderOf_25 rfl ?_
    refine aj_goto (tgt := 31) C dX11_orderOf_26 (by decide) ?_
    exact aj_iret C K dX11_orderOf_31 ⟨_, rfl, h⟩
theorem dX11_centre_0 : decode cX11_centre 0 = .ok (.aload_n 0, 1) := by decide +kernel
theorem dX11_centre_1 : decode cX11_centre 1 = .ok (.getfield 19, 3) := by decide +kernel
theorem dX11_centre_4 : decode cX11_centre 4 = .ok (.getfield 136, 3) := by decide +kernel
theorem dX11_centre_7 : decode cX11_centre 7 = .ok (.invokevirtual 155, 3) := by decide +kernel
theorem dX11_centre_10 : decode cX11_centre 10 = .ok (.ireturn, 1) := by decide +kernel
def wX11_centre (f : Nat) (Φ : Int → aj_M → Prop) (q0 : List Nat) (m : aj_M) : Prop := wX0_centrals f (fun z1 m1 => Φ z1 m1) (0 :: (1 :: q0)) m
set_option maxHeartbeats 4000000 in
set_option maxRecDepth 100000 in
theorem sX11_centre {n f : Nat} {Φ : Int → aj_M → Prop} {q0 : List Nat} {m : aj_M} (hq0 : (.inl (11, q0) : aj_R) ∈ aj_pls) (h : wX11_centre f Φ q0 m) : aj_Ct (n + 3) yX11_centre cX11_centre 1 (some .int) [vO 11 q0] m (fun r m => ∃ z, r = some (vI z) ∧ Φ z m) := by
  refine aj_met (lv := [some (vO 11 q0)]) (by decide +kernel) rfl (Nat.le_of_ble_eq_true rfl) (fun X C K => ?_)
  unfold wX11_centre at h
  refine aj_aload_n C dX11_centre_0 rfl ?_
  refine aj_getO (x := 6) (y := 0) C flX11_19 hq0 rfl dX11_centre_1 ?_
  refine aj_getO (x := 0) (y := 0) C flX11_136 (aj_cf (x := 6) (y := 0) (j := 1) hq0 (by decide) rfl) rfl dX11_centre_4 ?_
  refine aj_callV (rest := []) C mvX11_155 (sX0_centrals (aj_cf (x := 0) (y := 0) (j := 0) (aj_cf (x := 6) (y := 0) (j := 1) hq0 (by decide) rfl) (by decide) rfl) h) (aj_cf (x := 0) (y := 0) (j := 0) (aj_cf (x := 6) (y := 0) (j := 1) hq0 (by decide) rfl) (by decide) rfl) (aj_np 0 (by decide +kernel) rfl) (Nat.le_of_ble_eq_true rfl) rfl dX11_centre_7 (fun r m1 h => ?_)
  obtain ⟨z1, rfl, h⟩ := h
  exact aj_iret C K dX11_centre_10 ⟨_, rfl, h⟩
theorem dX11_wasDone_0 : decode cX11_wasDone 0 = .ok (.aload_n 0, 1) := by decide +kernel
theorem dX11_wasDone_1 : decode cX11_wasDone 1 = .ok (.getfield 39, 3) := by decide +kernel
theorem dX11_wasDone_4 : decode cX11_wasDone 4 = .ok (.aload_n 0, 1) := by decide +kernel
theorem dX11_wasDone_5 : decode cX11_wasDone 5 = .ok (.getfield 30, 3) := by decide +kernel
theorem dX11_wasDone_8 : decode cX11_wasDone 8 = .ok (.invokevirtual 411, 3) := by decide +kernel
theorem dX11_wasDone_11 : decode cX11_wasDone 11 = .ok (.aload_n 0, 1) := by decide +kernel
theorem dX11_wasDone_12 : decode cX11_wasDone 12 = .ok (.iconst 1, 1) := by decide +kernel
theorem dX11_wasDone_13 : decode cX11_wasDone 13 = .ok (.putfield 80, 3) := by decide +kernel
theorem dX11_wasDone_16 : decode cX11_wasDone 16 = .ok (.return_, 1) := by decide +kernel
def wX11_wasDone (f : Nat) (Φ : aj_M → Prop) (q0 : List Nat) (m : aj_M) : Prop := wX1_keep f (fun m1 => ∀ m2, m2 = aj_u m1 q0 12 1 → Φ m2) (5 :: q0) (3 :: q0) m
set_option maxHeartbeats 4000000 in
set_option maxRecDepth 100000 in
theorem sX11_wasDone {n f : Nat} {Φ : aj_M → Prop} {q0 : List Nat} {m : aj_M} (hq0 : (.inl (11, q0) : aj_R) ∈ aj_pls) (h : wX11_wasDone f Φ q0 m) : aj_Ct (n + 3) yX11_wasDone cX11_wasDone 1 none [vO 11 q0] m (fun r m => r = none ∧ Φ m) := by
  refine aj_met (lv := [some (vO 11 q0)]) (by decide +kernel) rfl (Nat.le_of_ble_eq_true rfl) (fun X C K => ?_)
  unfold wX11_wasDone at h
  refine aj_aload_n C dX11_wasDone_0 rfl ?_
  refine aj_getO (x := 1) (y := 0) C flX11_39 hq0 rfl dX11_wasDone_1 ?_
  refine aj_aload_n C dX11_wasDone_4 rfl ?_
  refine aj_getO (x := 9) (y := 0) C flX11_30 hq0 rfl dX11_wasDone_5 ?_
  refine aj_callV (rest := []) C mvX11_411 (sX1_keep (aj_cf (x := 1) (y := 0) (j := 5) hq0 (by decide) rfl) (aj_cf (x := 9) (y := 0) (j := 3) hq0 (by decide) rfl) h) (aj_cf (x := 1) (y := 0) (j := 5) hq0 (by decide) rfl) (aj_np 1 (by decide +kernel) rfl) (Nat.le_of_ble_eq_true rfl) rfl dX11_wasDone_8 (fun r m1 h => ?_)
  obtain ⟨rfl, h⟩ := h
  refine aj_aload_n C dX11_wasDone_11 rfl ?_
  refine aj_iconst C dX11_wasDone_12 ?_
  refine aj_putZ C fpX11_80 hq0 (Or.inr rfl) rfl dX11_wasDone_13 ?_
  refine aj_nm (fun m2 e1 => ?_)
  have h := h m2 e1
  exact aj_vret C K dX11_wasDone_16 ⟨rfl, h⟩
theorem dX11_turn_0 : decode cX11_turn 0 = .ok (.aload_n 0, 1) := by decide +kernel
theorem dX11_turn_1 : decode cX11_turn 1 = .ok (.getfield 30, 3) := by decide +kernel
theorem dX11_turn_4 : decode cX11_turn 4 = .ok (.aload_n 0, 1) := by decide +kernel
theorem dX11_turn_5 : decode cX11_turn 5 = .ok (.getfield 26, 3) := by decide +kernel
theorem dX11_turn_8 : decode cX11_turn 8 = .ok (.invokevirtual 159, 3) := by decide +kernel
theorem dX11_turn_11 : decode cX11_turn 11 = .ok (.aload_n 0, 1) := by decide +kernel
theorem dX11_turn_12 : decode cX11_turn 12 = .ok (.getfield 26, 3) := by decide +kernel
theorem dX11_turn_15 : decode cX11_turn 15 = .ok (.aload_n 0, 1) := by decide +kernel
theorem dX11_turn_16 : decode cX11_turn 16 = .ok (.getfield 19, 3) := by decide +kernel
theorem dX11_turn_19 : decode cX11_turn 19 = .ok (.iload_n 1, 1) := by decide +kernel
theorem dX11_turn_20 : decode cX11_turn 20 = .ok (.iload_n 2, 1) := by decide +kernel
theorem dX11_turn_21 : decode cX11_turn 21 = .ok (.invokevirtual 162, 3) := by decide +kernel
theorem dX11_turn_24 : decode cX11_turn 24 = .ok (.istore_n 3, 1) := by decide +kernel
theorem dX11_turn_25 : decode cX11_turn 25 = .ok (.iload_n 3, 1) := by decide +kernel
theorem dX11_turn_26 : decode cX11_turn 26 = .ok (.ifCond .eq 8, 3) := by decide +kernel
theorem dX11_turn_29 : decode cX11_turn 29 = .ok (.bipush (-10), 2) := by decide +kernel
theorem dX11_turn_31 : decode cX11_turn 31 = .ok (.iload_n 3, 1) := by decide +kernel
theorem dX11_turn_32 : decode cX11_turn 32 = .ok (.isub, 1) := by decide +kernel
theorem dX11_turn_33 : decode cX11_turn 33 = .ok (.ireturn, 1) := by decide +kernel
theorem dX11_turn_34 : decode cX11_turn 34 = .ok (.aload_n 0, 1) := by decide +kernel
theorem dX11_turn_35 : decode cX11_turn 35 = .ok (.invokevirtual 166, 3) := by decide +kernel
theorem dX11_turn_38 : decode cX11_turn 38 = .ok (.aload_n 0, 1) := by decide +kernel
theorem dX11_turn_39 : decode cX11_turn 39 = .ok (.getfield 30, 3) := by decide +kernel
theorem dX11_turn_42 : decode cX11_turn 42 = .ok (.getfield 127, 3) := by decide +kernel
theorem dX11_turn_45 : decode cX11_turn 45 = .ok (.iload_n 1, 1) := by decide +kernel
theorem dX11_turn_46 : decode cX11_turn 46 = .ok (.iaload, 1) := by decide +kernel
theorem dX11_turn_47 : decode cX11_turn 47 = .ok (.ireturn, 1) := by decide +kernel
def wX11_turn (f : Nat) (Φ : Int → aj_M → Prop) (q0 : List Nat) (v1 : Int) (v2 : Int) (m : aj_M) : Prop := wX9_copyFrom f (fun m1 => wX9_turnTo f (fun z2 m2 => rI z2 ∧ (z2 = 0 → wX11_wasDone f (fun m3 => (0 ≤ v1 ∧ v1 < 12) ∧ Φ (m3 (0 :: (3 :: q0)) v1.toNat) m3) q0 m2) ∧ (¬ (z2 = 0) → Φ ((-10) - z2) m2)) (2 :: q0) (1 :: q0) v1 v2 m1) (3 :: q0) (2 :: q0) m
set_option maxHeartbeats 4000000 in
set_option maxRecDepth 100000 in
theorem sX11_turn {n f : Nat} {Φ : Int → aj_M → Prop} {q0 : List Nat} {v1 : Int} {v2 : Int} {m : aj_M} (hq0 : (.inl (11, q0) : aj_R) ∈ aj_pls) (h : wX11_turn f Φ q0 v1 v2 m) : aj_Ct (n + 4) yX11_turn cX11_turn 4 (some .int) [vO 11 q0, vI v1, vI v2] m (fun r m => ∃ z, r = some (vI z) ∧ Φ z m) := by
  refine aj_met (lv := [some (vO 11 q0), some (vI v1), some (vI v2), none]) (by decide +kernel) rfl (Nat.le_of_ble_eq_true rfl) (fun X C K => ?_)
  unfold wX11_turn at h
  refine aj_aload_n C dX11_turn_0 rfl ?_
  refine aj_getO (x := 9) (y := 0) C flX11_30 hq0 rfl dX11_turn_1 ?_
  refine aj_aload_n C dX11_turn_4 rfl ?_
  refine aj_getO (x := 9) (y := 0) C flX11_26 hq0 rfl dX11_turn_5 ?_
  refine aj_callV (rest := []) C mvX11_159 (sX9_copyFrom (aj_cf (x := 9) (y := 0) (j := 3) hq0 (by decide) rfl) (aj_cf (x := 9) (y := 0) (j := 2) hq0 (by decide) rfl) h) (aj_cf (x := 9) (y := 0) (j := 3) hq0 (by decide) rfl) (aj_np 1 (by decide +kernel) rfl) (Nat.le_of_ble_eq_true rfl) rfl dX11_turn_8 (fun r m1 h => ?_)
  obtain ⟨rfl, h⟩ := h
  refine aj_aload_n C dX11_turn_11 rfl ?_
  refine aj_getO (x := 9) (y := 0) C flX11_26 hq0 rfl dX11_turn_12 ?_
  refine aj_aload_n C dX11_turn_15 rfl ?_
  refine aj_getO (x := 6) (y := 0) C flX11_19 hq0 rfl dX11_turn_16 ?_
  refine aj_iload_n C dX11_turn_19 rfl ?_
  refine aj_iload_n C dX11_turn_20 rfl ?_
  refine aj_callV (rest := []) C mvX11_162 (sX9_turnTo (aj_cf (x := 9) (y := 0) (j := 2) hq0 (by decide) rfl) (aj_cf (x := 6) (y := 0) (j := 1) hq0 (by decide) rfl) h) (aj_cf (x := 9) (y := 0) (j := 2) hq0 (by decide) rfl) (aj_np 3 (by decide +kernel) rfl) (Nat.le_of_ble_eq_true rfl) rfl dX11_turn_21 (fun r m2 h => ?_)
  obtain ⟨z2, rfl, h⟩ := h
  refine aj_istore_n (lv' := [some (vO 11 q0), some (vI v1), some (vI v2), some (vI z2)]) C dX11_turn_24 (by decide) rfl ?_
  refine aj_iload_n C dX11_turn_25 rfl ?_
  obtain ⟨r0, h1, h2⟩ := h
  refine aj_if_eq (tgt := 34) C dX11_turn_26 (by decide) r0 (fun e => ?_) (fun e => ?_)
  · have h := h1 e
    refine aj_aload_n C dX11_turn_34 rfl ?_
    refine aj_callV (rest := []) C mvX11_166 (sX11_wasDone hq0 h) hq0 (aj_np 0 (by decide +kernel) rfl) (Nat.le_of_ble_eq_true rfl) rfl dX11_turn_35 (fun r m3 h => ?_)
    obtain ⟨rfl, h⟩ := h
    refine aj_aload_n C dX11_turn_38 rfl ?_
    refine aj_getO (x := 9) (y := 0) C flX11_30 hq0 rfl dX11_turn_39 ?_
    refine aj_getA (x := 0) (y := 12) C flX11_127 (aj_cf (x := 9) (y := 0) (j := 3) hq0 (by decide) rfl) rfl dX11_turn_42 ?_
    refine aj_iload_n C dX11_turn_45 rfl ?_
    obtain ⟨r0, h⟩ := h
    refine aj_iald C (aj_ca (e := 0) (n := 12) (j := 0) (aj_cf (x := 9) (y := 0) (j := 3) hq0 (by decide) rfl) (by decide) rfl) (by decide) r0 dX11_turn_46 rfl ?_
    exact aj_iret C K dX11_turn_47 ⟨_, rfl, h⟩
  · have h := h2 e
    refine aj_bipush C dX11_turn_29 (by decide) ?_
    refine aj_iload_n C dX11_turn_31 rfl ?_
    refine aj_isub C dX11_turn_32 ?_
    exact aj_iret C K dX11_turn_33 ⟨_, rfl, h⟩
theorem dX11_cut_0 : decode cX11_cut 0 = .ok (.aload_n 0, 1) := by decide +kernel
theorem dX11_cut_1 : decode cX11_cut 1 = .ok (.getfield 30, 3) := by decide +kernel
theorem dX11_cut_4 : decode cX11_cut 4 = .ok (.aload_n 0, 1) := by decide +kernel
theorem dX11_cut_5 : decode cX11_cut 5 = .ok (.getfield 26, 3) := by decide +kernel
theorem dX11_cut_8 : decode cX11_cut 8 = .ok (.invokevirtual 159, 3) := by decide +kernel
theorem dX11_cut_11 : decode cX11_cut 11 = .ok (.aload_n 0, 1) := by decide +kernel
theorem dX11_cut_12 : decode cX11_cut 12 = .ok (.getfield 26, 3) := by decide +kernel
theorem dX11_cut_15 : decode cX11_cut 15 = .ok (.aload_n 0, 1) := by decide +kernel
theorem dX11_cut_16 : decode cX11_cut 16 = .ok (.getfield 19, 3) := by decide +kernel
theorem dX11_cut_19 : decode cX11_cut 19 = .ok (.iload_n 1, 1) := by decide +kernel
theorem dX11_cut_20 : decode cX11_cut 20 = .ok (.invokevirtual 169, 3) := by decide +kernel
theorem dX11_cut_23 : decode cX11_cut 23 = .ok (.istore_n 2, 1) := by decide +kernel
theorem dX11_cut_24 : decode cX11_cut 24 = .ok (.iload_n 2, 1) := by decide +kernel
theorem dX11_cut_25 : decode cX11_cut 25 = .ok (.ifCond .eq 8, 3) := by decide +kernel
theorem dX11_cut_28 : decode cX11_cut 28 = .ok (.bipush (-10), 2) := by decide +kernel
theorem dX11_cut_30 : decode cX11_cut 30 = .ok (.iload_n 2, 1) := by decide +kernel
theorem dX11_cut_31 : decode cX11_cut 31 = .ok (.isub, 1) := by decide +kernel
theorem dX11_cut_32 : decode cX11_cut 32 = .ok (.ireturn, 1) := by decide +kernel
theorem dX11_cut_33 : decode cX11_cut 33 = .ok (.aload_n 0, 1) := by decide +kernel
theorem dX11_cut_34 : decode cX11_cut 34 = .ok (.invokevirtual 166, 3) := by decide +kernel
theorem dX11_cut_37 : decode cX11_cut 37 = .ok (.aload_n 0, 1) := by decide +kernel
theorem dX11_cut_38 : decode cX11_cut 38 = .ok (.getfield 26, 3) := by decide +kernel
theorem dX11_cut_41 : decode cX11_cut 41 = .ok (.iload_n 1, 1) := by decide +kernel
theorem dX11_cut_42 : decode cX11_cut 42 = .ok (.invokevirtual 133, 3) := by decide +kernel
theorem dX11_cut_45 : decode cX11_cut 45 = .ok (.ifCond .eq 7, 3) := by decide +kernel
theorem dX11_cut_48 : decode cX11_cut 48 = .ok (.iconst 1, 1) := by decide +kernel
theorem dX11_cut_49 : decode cX11_cut 49 = .ok (.goto 4, 3) := by decide +kernel
theorem dX11_cut_52 : decode cX11_cut 52 = .ok (.iconst 0, 1) := by decide +kernel
theorem dX11_cut_53 : decode cX11_cut 53 = .ok (.ireturn, 1) := by decide +kernel
def wX11_cut (f : Nat) (Φ : Int → aj_M → Prop) (q0 : List Nat) (v1 : Int) (m : aj_M) : Prop := wX9_copyFrom f (fun m1 => wX9_cutOrJoin f (fun z2 m2 => rI z2 ∧ (z2 = 0 → wX11_wasDone f (fun m3 => wX9_isOut f (fun z4 m4 => rI z4 ∧ (z4 = 0 → Φ 0 m4) ∧ (¬ (z4 = 0) → Φ 1 m4)) (2 :: q0) v1 m3) q0 m2) ∧ (¬ (z2 = 0) → Φ ((-10) - z2) m2)) (2 :: q0) (1 :: q0) v1 m1) (3 :: q0) (2 :: q0) m
set_option maxHeartbeats 4000000 in
set_option maxRecDepth 100000 in
theorem sX11_cut {n f : Nat} {Φ : Int → aj_M → Prop} {q0 : List Nat} {v1 : Int} {m : aj_M} (hq0 : (.inl (11, q0) : aj_R) ∈ aj_pls) (h : wX11_cut f Φ q0 v1 m) : aj_Ct (n + 4) yX11_cut cX11_cut 3 (some .int) [vO 11 q0, vI v1] m (fun r m => ∃ z, r = some (vI z) ∧ Φ z m) := by
  refine aj_met (lv := [some (vO 11 q0), some (vI v1), none]) (by decide +kernel) rfl (Nat.le_of_ble_eq_true rfl) (fun X C K => ?_)
  unfold wX11_cut at h
  refine aj_aload_n C dX11_cut_0 rfl ?_
  refine aj_getO (x := 9) (y := 0) C flX11_30 hq0 rfl dX11_cut_1 ?_
  refine aj_aload_n C dX11_cut_4 rfl ?_
  refine aj_getO (x := 9) (y := 0) C flX11_26 hq0 rfl dX11_cut_5 ?_
  refine aj_callV (rest := []) C mvX11_159 (sX9_copyFrom (aj_cf (x := 9) (y := 0) (j := 3) hq0 (by decide) rfl) (aj_cf (x := 9) (y := 0) (j := 2) hq0 (by decide) rfl) h) (aj_cf (x := 9) (y := 0) (j := 3) hq0 (by decide) rfl) (aj_np 1 (by decide +kernel) rfl) (Nat.le_of_ble_eq_true rfl) rfl dX11_cut_8 (fun r m1 h => ?_)
  obtain ⟨rfl, h⟩ := h
  refine aj_aload_n C dX11_cut_11 rfl ?_
  refine aj_getO (x := 9) (y := 0) C flX11_26 hq0 rfl dX11_cut_12 ?_
  refine aj_aload_n C dX11_cut_15 rfl ?_
  refine aj_getO (x := 6) (y := 0) C flX11_19 hq0 rfl dX11_cut_16 ?_
  refine aj_iload_n C dX11_cut_19 rfl ?_
  refine aj_callV (rest := []) C mvX11_169 (sX9_cutOrJoin (aj_cf (x := 9) (y := 0) (j := 2) hq0 (by decide) rfl) (aj_cf (x := 6) (y := 0) (j := 1) hq0 (by decide) rfl) h) (aj_cf (x := 9) (y := 0) (j := 2) hq0 (by decide) rfl) (aj_np 2 (by decide +kernel) rfl) (Nat.le_of_ble_eq_true rfl) rfl dX11_cut_20 (fun r m2 h => ?_)
  obtain ⟨z2, rfl, h⟩ := h
  refine aj_istore_n (lv' := [some (vO 11 q0), some (vI v1), some (vI z2)]) C dX11_cut_23 (by decide) rfl ?_
  refine aj_iload_n C dX11_cut_24 rfl ?_
  obtain ⟨r0, h1, h2⟩ := h
  refine aj_if_eq (tgt := 33) C dX11_cut_25 (by decide) r0 (fun e => ?_) (fun e => ?_)
  · have h := h1 e
    refine aj_aload_n C dX11_cut_33 rfl ?_
    refine aj_callV (rest := []) C mvX11_166 (sX11_wasDone hq0 h) hq0 (aj_np 0 (by decide +kernel) rfl) (Nat.le_of_ble_eq_true rfl) rfl dX11_cut_34 (fun r m3 h => ?_)
    obtain ⟨rfl, h⟩ := h
    refine aj_aload_n C dX11_cut_37 rfl ?_
    refine aj_getO (x := 9) (y := 0) C flX11_26 hq0 rfl dX11_cut_38 ?_
    refine aj_iload_n C dX11_cut_41 rfl ?_
    refine aj_callV (rest := []) C mvX11_133 (sX9_isOut (aj_cf (x := 9) (y := 0) (j := 2) hq0 (by decide) rfl) h) (aj_cf (x := 9) (y := 0) (j := 2) hq0 (by decide) rfl) (aj_np 1 (by decide +kernel) rfl) (Nat.le_of_ble_eq_true rfl) rfl dX11_cut_42 (fun r m4 h => ?_)
    obtain ⟨z4, rfl, h⟩ := h
    obtain ⟨r0, h1, h2⟩ := h
    refine aj_if_eq (tgt := 52) C dX11_cut_45 (by decide) r0 (fun e => ?_) (fun e => ?_)
    · have h := h1 e
      refine aj_iconst C dX11_cut_52 ?_
      exact aj_iret C K dX11_cut_53 ⟨_, rfl, h⟩
    · have h := h2 e
      refine aj_iconst C dX11_cut_48 ?_
      refine aj_goto (tgt := 53) C dX11_cut_49 (by decide) ?_
      exact aj_iret C K dX11_cut_53 ⟨_, rfl, h⟩
  · have h := h2 e
    refine aj_bipush C dX11_cut_28 (by decide) ?_
    refine aj_iload_n C dX11_cut_30 rfl ?_
    refine aj_isub C dX11_cut_31 ?_
    exact aj_iret C K dX11_cut_32 ⟨_, rfl, h⟩
theorem dX11_twist_0 : decode cX11_twist 0 = .ok (.aload_n 0, 1) := by decide +kernel
theorem dX11_twist_1 : decode cX11_twist 1 = .ok (.getfield 30, 3) := by decide +kernel
theorem dX11_twist_4 : decode cX11_twist 4 = .ok (.aload_n 0, 1) := by decide +kernel
theorem dX11_twist_5 : decode cX11_twist 5 = .ok (.getfield 26, 3) := by decide +kernel
theorem dX11_twist_8 : decode cX11_twist 8 = .ok (.invokevirtual 159, 3) := by decide +kernel
theorem dX11_twist_11 : decode cX11_twist 11 = .ok (.aload_n 0, 1) := by decide +kernel
theorem dX11_twist_12 : decode cX11_twist 12 = .ok (.getfield 26, 3) := by decide +kernel
theorem dX11_twist_15 : decode cX11_twist 15 = .ok (.iload_n 1, 1) := by decide +kernel
theorem dX11_twist_16 : decode cX11_twist 16 = .ok (.invokevirtual 173, 3) := by decide +kernel
theorem dX11_twist_19 : decode cX11_twist 19 = .ok (.istore_n 2, 1) := by decide +kernel
theorem dX11_twist_20 : decode cX11_twist 20 = .ok (.iload_n 2, 1) := by decide +kernel
theorem dX11_twist_21 : decode cX11_twist 21 = .ok (.ifCond .eq 8, 3) := by decide +kernel
theorem dX11_twist_24 : decode cX11_twist 24 = .ok (.bipush (-10), 2) := by decide +kernel
theorem dX11_twist_26 : decode cX11_twist 26 = .ok (.iload_n 2, 1) := by decide +kernel
theorem dX11_twist_27 : decode cX11_twist 27 = .ok (.isub, 1) := by decide +kernel
theorem dX11_twist_28 : decode cX11_twist 28 = .ok (.ireturn, 1) := by decide +kernel
theorem dX11_twist_29 : decode cX11_twist 29 = .ok (.aload_n 0, 1) := by decide +kernel
theorem dX11_twist_30 : decode cX11_twist 30 = .ok (.invokevirtual 166, 3) := by decide +kernel
theorem dX11_twist_33 : decode cX11_twist 33 = .ok (.aload_n 0, 1) := by decide +kernel
theorem dX11_twist_34 : decode cX11_twist 34 = .ok (.getfield 30, 3) := by decide +kernel
theorem dX11_twist_37 : decode cX11_twist 37 = .ok (.getfield 177, 3) := by decide +kernel
theorem dX11_twist_40 : decode cX11_twist 40 = .ok (.ireturn, 1) := by decide +kernel
def wX11_twist (f : Nat) (Φ : Int → aj_M → Prop) (q0 : List Nat) (v1 : Int) (m : aj_M) : Prop := wX9_copyFrom f (fun m1 => wX9_twistTo f (fun z2 m2 => rI z2 ∧ (z2 = 0 → wX11_wasDone f (fun m3 => Φ (m3 (3 :: q0) 2) m3) q0 m2) ∧ (¬ (z2 = 0) → Φ ((-10) - z2) m2)) (2 :: q0) v1 m1) (3 :: q0) (2 :: q0) m
set_option maxHeartbeats 4000000 in
set_option maxRecDepth 100000 in
theorem sX11_twist {n f : Nat} {Φ : Int → aj_M → Prop} {q0 : List Nat} {v1 : Int} {m : aj_M} (hq0 : (.inl (11, q0) : aj_R) ∈ aj_pls) (h : wX11_twist f Φ q0 v1 m) : aj_Ct (n + 4) yX11_twist cX11_twist 3 (some .int) [vO 11 q0, vI v1] m (fun r m => ∃ z, r = some (vI z) ∧ Φ z m) := by
  refine aj_met (lv := [some (vO 11 q0), some (vI v1), none]) (by decide +kernel) rfl (Nat.le_of_ble_eq_true rfl) (fun X C K => ?_)
  unfold wX11_twist at h
  refine aj_aload_n C dX11_twist_0 rfl ?_
  refine aj_getO (x := 9) (y := 0) C flX11_30 hq0 rfl dX11_twist_1 ?_
  refine aj_aload_n C dX11_twist_4 rfl ?_
  refine aj_getO (x := 9) (y := 0) C flX11_26 hq0 rfl dX11_twist_5 ?_
  refine aj_callV (rest := []) C mvX11_159 (sX9_copyFrom (aj_cf (x := 9) (y := 0) (j := 3) hq0 (by decide) rfl) (aj_cf (x := 9) (y := 0) (j := 2) hq0 (by decide) rfl) h) (aj_cf (x := 9) (y := 0) (j := 3) hq0 (by decide) rfl) (aj_np 1 (by decide +kernel) rfl) (Nat.le_of_ble_eq_true rfl) rfl dX11_twist_8 (fun r m1 h => ?_)
  obtain ⟨rfl, h⟩ := h
  refine aj_aload_n C dX11_twist_11 rfl ?_
  refine aj_getO (x := 9) (y := 0) C flX11_26 hq0 rfl dX11_twist_12 ?_
  refine aj_iload_n C dX11_twist_15 rfl ?_
  refine aj_callV (rest := []) C mvX11_173 (sX9_twistTo (aj_cf (x := 9) (y := 0) (j := 2) hq0 (by decide) rfl) h) (aj_cf (x := 9) (y := 0) (j := 2) hq0 (by decide) rfl) (aj_np 1 (by decide +kernel) rfl) (Nat.le_of_ble_eq_true rfl) rfl dX11_twist_16 (fun r m2 h => ?_)
  obtain ⟨z2, rfl, h⟩ := h
  refine aj_istore_n (lv' := [some (vO 11 q0), some (vI v1), some (vI z2)]) C dX11_twist_19 (by decide) rfl ?_
  refine aj_iload_n C dX11_twist_20 rfl ?_
  obtain ⟨r0, h1, h2⟩ := h
  refine aj_if_eq (tgt := 29) C dX11_twist_21 (by decide) r0 (fun e => ?_) (fun e => ?_)
  · have h := h1 e
    refine aj_aload_n C dX11_twist_29 rfl ?_
    refine aj_callV (rest := []) C mvX11_166 (sX11_wasDone hq0 h) hq0 (aj_np 0 (by decide +kernel) rfl) (Nat.le_of_ble_eq_true rfl) rfl dX11_twist_30 (fun r m3 h => ?_)
    obtain ⟨rfl, h⟩ := h
    refine aj_aload_n C dX11_twist_33 rfl ?_
    refine aj_getO (x := 9) (y := 0) C flX11_30 hq0 rfl dX11_twist_34 ?_
    refine aj_getI C flX11_177 (aj_cf (x := 9) (y := 0) (j := 3) hq0 (by decide) rfl) (by decide) dX11_twist_37 rfl ?_
    exact aj_iret C K dX11_twist_40 ⟨_, rfl, h⟩
  · have h := h2 e
    refine aj_bipush C dX11_twist_24 (by decide) ?_
    refine aj_iload_n C dX11_twist_26 rfl ?_
    refine aj_isub C dX11_twist_27 ?_
    exact aj_iret C K dX11_twist_28 ⟨_, rfl, h⟩
theorem dX11_undo_0 : decode cX11_undo 0 = .ok (.iload_n 1, 1) := by decide +kernel
theorem dX11_undo_1 : decode cX11_undo 1 = .ok (.iconst 1, 1) := by decide +kernel
theorem dX11_undo_2 : decode cX11_undo 2 = .ok (.if_icmp .lt 20, 3) := by decide +kernel
theorem dX11_undo_5 : decode cX11_undo 5 = .ok (.iload_n 1, 1) := by decide +kernel
theorem dX11_undo_6 : decode cX11_undo 6 = .ok (.bipush 10, 2) := by decide +kernel
theorem dX11_undo_8 : decode cX11_undo 8 = .ok (.if_icmp .gt 14, 3) := by decide +kernel
theorem dX11_undo_11 : decode cX11_undo 11 = .ok (.iload_n 1, 1) := by decide +kernel
theorem dX11_undo_12 : decode cX11_undo 12 = .ok (.aload_n 0, 1) := by decide +kernel
theorem dX11_undo_13 : decode cX11_undo 13 = .ok (.getfield 39, 3) := by decide +kernel
theorem dX11_undo_16 : decode cX11_undo 16 = .ok (.getfield 180, 3) := by decide +kernel
theorem dX11_undo_19 : decode cX11_undo 19 = .ok (.if_icmp .le 6, 3) := by decide +kernel
theorem dX11_undo_22 : decode cX11_undo 22 = .ok (.bipush (-3), 2) := by decide +kernel
theorem dX11_undo_24 : decode cX11_undo 24 = .ok (.ireturn, 1) := by decide +kernel
theorem dX11_undo_25 : decode cX11_undo 25 = .ok (.aload_n 0, 1) := by decide +kernel
theorem dX11_undo_26 : decode cX11_undo 26 = .ok (.getfield 39, 3) := by decide +kernel
theorem dX11_undo_29 : decode cX11_undo 29 = .ok (.iload_n 1, 1) := by decide +kernel
theorem dX11_undo_30 : decode cX11_undo 30 = .ok (.aload_n 0, 1) := by decide +kernel
theorem dX11_undo_31 : decode cX11_undo 31 = .ok (.getfield 26, 3) := by decide +kernel
theorem dX11_undo_34 : decode cX11_undo 34 = .ok (.invokevirtual 183, 3) := by decide +kernel
theorem dX11_undo_37 : decode cX11_undo 37 = .ok (.aload_n 0, 1) := by decide +kernel
theorem dX11_undo_38 : decode cX11_undo 38 = .ok (.iconst 1, 1) := by decide +kernel
theorem dX11_undo_39 : decode cX11_undo 39 = .ok (.putfield 80, 3) := by decide +kernel
theorem dX11_undo_42 : decode cX11_undo 42 = .ok (.aload_n 0, 1) := by decide +kernel
theorem dX11_undo_43 : decode cX11_undo 43 = .ok (.getfield 39, 3) := by decide +kernel
theorem dX11_undo_46 : decode cX11_undo 46 = .ok (.getfield 180, 3) := by decide +kernel
theorem dX11_undo_49 : decode cX11_undo 49 = .ok (.ireturn, 1) := by decide +kernel
def wX11_undo (f : Nat) (Φ : Int → aj_M → Prop) (q0 : List Nat) (v1 : Int) (m : aj_M) : Prop := rI v1 ∧ (v1 < 1 → Φ (-3) m) ∧ (¬ (v1 < 1) → rI v1 ∧ (10 < v1 → Φ (-3) m) ∧ (¬ (10 < v1) → rI v1 ∧ rI (m (5 :: q0) 2) ∧ (v1 ≤ (m (5 :: q0) 2) → wX1_takeBack f (fun m1 => ∀ m2, m2 = aj_u m1 q0 12 1 → Φ (m2 (5 :: q0) 2) m2) (5 :: q0) v1 (2 :: q0) m) ∧ (¬ (v1 ≤ (m (5 :: q0) 2)) → Φ (-3) m)))
set_option maxHeartbeats 4000000 in
set_option maxRecDepth 100000 in
theorem sX11_undo {n f : Nat} {Φ : Int → aj_M → Prop} {q0 : List Nat} {v1 : Int} {m : aj_M} (hq0 : (.inl (11, q0) : aj_R) ∈ aj_pls) (h : wX11_undo f Φ q0 v1 m) : aj_Ct (n + 3) yX11_undo cX11_undo 2 (some .int) [vO 11 q0, vI v1] m (fun r m => ∃ z, r = some (vI z) ∧ Φ z m) := by
  refine aj_met (lv := [some (vO 11 q0), some (vI v1)]) (by decide +kernel) rfl (Nat.le_of_ble_eq_true rfl) (fun X C K => ?_)
  unfold wX11_undo at h
  refine aj_iload_n C dX11_undo_0 rfl ?_
  refine aj_iconst C dX11_undo_1 ?_
  obtain ⟨r0, h1, h2⟩ := h
  refine aj_icmp_lt (tgt := 22) C dX11_undo_2 (by decide) r0 (by decide) (fun e => ?_) (fun e => ?_)
  · have h := h1 e
    refine aj_bipush C dX11_undo_22 (by decide) ?_
    exact aj_iret C K dX11_undo_24 ⟨_, rfl, h⟩
  · have h := h2 e
    refine aj_iload_n C dX11_undo_5 rfl ?_
    refine aj_bipush C dX11_undo_6 (by decide) ?_
    obtain ⟨r0, h1, h2⟩ := h
    refine aj_icmp_gt (tgt := 22) C dX11_undo_8 (by decide) r0 (by decide) (fun e => ?_) (fun e => ?_)
    · have h := h1 e
      refine aj_bipush C dX11_undo_22 (by decide) ?_
      exact aj_iret C K dX11_undo_24 ⟨_, rfl, h⟩
    · have h := h2 e
      refine aj_iload_n C dX11_undo_11 rfl ?_
      refine aj_aload_n C dX11_undo_12 rfl ?_
      refine aj_getO (x := 1) (y := 0) C flX11_39 hq0 rfl dX11_undo_13 ?_
      refine aj_getI C flX11_180 (aj_cf (x := 1) (y := 0) (j := 5) hq0 (by decide) rfl) (by decide) dX11_undo_16 rfl ?_
      obtain ⟨r0, r1, h1, h2⟩ := h
      refine aj_icmp_le (tgt := 25) C dX11_undo_19 (by decide) r0 r1 (fun e => ?_) (fun e => ?_)
      · have h := h1 e
        refine aj_aload_n C dX11_undo_25 rfl ?_
        refine aj_getO (x := 1) (y := 0) C flX11_39 hq0 rfl dX11_undo_26 ?_
        refine aj_iload_n C dX11_undo_29 rfl ?_
        refine aj_aload_n C dX11_undo_30 rfl ?_
        refine aj_getO (x := 9) (y := 0) C flX11_26 hq0 rfl dX11_undo_31 ?_
        refine aj_callV (rest := []) C mvX11_183 (sX1_takeBack (aj_cf (x := 1) (y := 0) (j := 5) hq0 (by decide) rfl) (aj_cf (x := 9) (y := 0) (j := 2) hq0 (by decide) rfl) h) (aj_cf (x := 1) (y := 0) (j := 5) hq0 (by decide) rfl) (aj_np 2 (by decide +kernel) rfl) (Nat.le_of_ble_eq_true rfl) rfl dX11_undo_34 (fun r m1 h => ?_)
        obtain ⟨rfl, h⟩ := h
        refine aj_aload_n C dX11_undo_37 rfl ?_
        refine aj_iconst C dX11_undo_38 ?_
        refine aj_putZ C fpX11_80 hq0 (Or.inr rfl) rfl dX11_undo_39 ?_
        refine aj_nm (fun m2 e1 => ?_)
        have h := h m2 e1
        refine aj_aload_n C dX11_undo_42 rfl ?_
        refine aj_getO (x := 1) (y := 0) C flX11_39 hq0 rfl dX11_undo_43 ?_
        refine aj_getI C flX11_180 (aj_cf (x := 1) (y := 0) (j := 5) hq0 (by decide) rfl) (by decide) dX11_undo_46 rfl ?_
        exact aj_iret C K dX11_undo_49 ⟨_, rfl, h⟩
      · have h := h2 e
        refine aj_bipush C dX11_undo_22 (by decide) ?_
        exact aj_iret C K dX11_undo_24 ⟨_, rfl, h⟩
theorem dX11_isTray_0 : decode cX11_isTray 0 = .ok (.iload_n 0, 1) := by decide +kernel
theorem dX11_isTray_1 : decode cX11_isTray 1 = .ok (.ifCond .lt 12, 3) := by decide +kernel
theorem dX11_isTray_4 : decode cX11_isTray 4 = .ok (.iload_n 0, 1) := by decide +kernel
theorem dX11_isTray_5 : decode cX11_isTray 5 = .ok (.iconst 4, 1) := by decide +kernel
theorem dX11_isTray_6 : decode cX11_isTray 6 = .ok (.if_icmp .ge 7, 3) := by decide +kernel
theorem dX11_isTray_9 : decode cX11_isTray 9 = .ok (.iconst 1, 1) := by decide +kernel
theorem dX11_isTray_10 : decode cX11_isTray 10 = .ok (.goto 4, 3) := by decide +kernel
theorem dX11_isTray_13 : decode cX11_isTray 13 = .ok (.iconst 0, 1) := by decide +kernel
theorem dX11_isTray_14 : decode cX11_isTray 14 = .ok (.ireturn, 1) := by decide +kernel
def wX11_isTray (f : Nat) (Φ : Int → aj_M → Prop) (v0 : Int) (m : aj_M) : Prop := rI v0 ∧ (v0 < 0 → Φ 0 m) ∧ (¬ (v0 < 0) → rI v0 ∧ (4 ≤ v0 → Φ 0 m) ∧ (¬ (4 ≤ v0) → Φ 1 m))
set_option maxHeartbeats 4000000 in
set_option maxRecDepth 100000 in
theorem sX11_isTray {n f : Nat} {Φ : Int → aj_M → Prop} {v0 : Int} {m : aj_M}  (h : wX11_isTray f Φ v0 m) : aj_Ct n yX11_isTray cX11_isTray 1 (some .boolean) [vI v0] m (fun r m => ∃ z, r = some (vI z) ∧ Φ z m) := by
  refine aj_met (lv := [some (vI v0)]) (by decide +kernel) rfl (Nat.le_of_ble_eq_true rfl) (fun X C K => ?_)
  unfold wX11_isTray at h
  refine aj_iload_n C dX11_isTray_0 rfl ?_
  obtain ⟨r0, h1, h2⟩ := h
  refine aj_if_lt (tgt := 13) C dX11_isTray_1 (by decide) r0 (fun e => ?_) (fun e => ?_)
  · have h := h1 e
    refine aj_iconst C dX11_isTray_13 ?_
    exact aj_zret C K (Or.inl rfl) dX11_isTray_14 ⟨_, rfl, h⟩
  · have h := h2 e
    refine aj_iload_n C dX11_isTray_4 rfl ?_
    refine aj_iconst C dX11_isTray_5 ?_
    obtain ⟨r0, h1, h2⟩ := h
    refine aj_icmp_ge (tgt := 13) C dX11_isTray_6 (by decide) r0 (by decide) (fun e => ?_) (fun e => ?_)
    · have h := h1 e
      refine aj_iconst C dX11_isTray_13 ?_
      exact aj_zret C K (Or.inl rfl) dX11_isTray_14 ⟨_, rfl, h⟩
    · have h := h2 e
      refine aj_iconst C dX11_isTray_9 ?_
      refine aj_goto (tgt := 14) C dX11_isTray_10 (by decide) ?_
      exact aj_zret C K (Or.inr rfl) dX11_isTray_14 ⟨_, rfl, h⟩
theorem dX11_doAll_0 : decode cX11_doAll 0 = .ok (.iconst 0, 1) := by decide +kernel
theorem dX11_doAll_1 : decode cX11_doAll 1 = .ok (.istore_n 3, 1) := by decide +kernel
theorem dX11_doAll_2 : decode cX11_doAll 2 = .ok (.iload_n 3, 1) := by decide +kernel
theorem dX11_doAll_3 : decode cX11_doAll 3 = .ok (.aload_n 1, 1) := by decide +kernel
theorem dX11_doAll_4 : decode cX11_doAll 4 = .ok (.getfield 198, 3) := by decide +kernel
theorem dX11_doAll_7 : decode cX11_doAll 7 = .ok (.if_icmp .ge 28, 3) := by decide +kernel
theorem dX11_doAll_10 : decode cX11_doAll 10 = .ok (.aload_n 2, 1) := by decide +kernel
theorem dX11_doAll_11 : decode cX11_doAll 11 = .ok (.aload_n 0, 1) := by decide +kernel
theorem dX11_doAll_12 : decode cX11_doAll 12 = .ok (.getfield 19, 3) := by decide +kernel
theorem dX11_doAll_15 : decode cX11_doAll 15 = .ok (.aload_n 1, 1) := by decide +kernel
theorem dX11_doAll_16 : decode cX11_doAll 16 = .ok (.getfield 201, 3) := by decide +kernel
theorem dX11_doAll_19 : decode cX11_doAll 19 = .ok (.iload_n 3, 1) := by decide +kernel
theorem dX11_doAll_20 : decode cX11_doAll 20 = .ok (.laload, 1) := by decide +kernel
theorem dX11_doAll_21 : decode cX11_doAll 21 = .ok (.invokevirtual 205, 3) := by decide +kernel
theorem dX11_doAll_24 : decode cX11_doAll 24 = .ok (.ifCond .eq 5, 3) := by decide +kernel
theorem dX11_doAll_27 : decode cX11_doAll 27 = .ok (.iload_n 3, 1) := by decide +kernel
theorem dX11_doAll_28 : decode cX11_doAll 28 = .ok (.ireturn, 1) := by decide +kernel
theorem dX11_doAll_29 : decode cX11_doAll 29 = .ok (.iinc 3 1, 3) := by decide +kernel
theorem dX11_doAll_32 : decode cX11_doAll 32 = .ok (.goto (-30), 3) := by decide +kernel
theorem dX11_doAll_35 : decode cX11_doAll 35 = .ok (.aload_n 1, 1) := by decide +kernel
theorem dX11_doAll_36 : decode cX11_doAll 36 = .ok (.getfield 198, 3) := by decide +kernel
theorem dX11_doAll_39 : decode cX11_doAll 39 = .ok (.ireturn, 1) := by decide +kernel
def hX11_doAll_2 (f : Nat) (Φ : Int → aj_M → Prop) : Nat → List Nat → List Nat → List Nat → Int → aj_M → Prop
  | 0, _, _, _, _, _ => False
  | k + 1, q0, q1, q2, v3, m => rI v3 ∧ rI (m q1 2) ∧ ((m q1 2) ≤ v3 → Φ (m q1 2) m) ∧ (¬ ((m q1 2) ≤ v3) → (0 ≤ v3 ∧ v3 < 40) ∧ wX9_tryDeed f (fun z1 m1 => rI z1 ∧ (z1 = 0 → hX11_doAll_2 f Φ k q0 q1 q2 (v3 + 1) m1) ∧ (¬ (z1 = 0) → Φ v3 m1)) q2 (1 :: q0) (m (0 :: q1) v3.toNat) m)
set_option maxHeartbeats 4000000 in
set_option maxRecDepth 100000 in
theorem tX11_doAll_2 {X : aj_T} {n f : Nat} {Φ : Int → aj_M → Prop} (C : aj_Cx X cX11_doAll RX11 4 (n + 5)) (K : aj_Rt X (some .int) (fun r m => ∃ z, r = some (vI z) ∧ Φ z m)) : ∀ (k : Nat) (q0 : List Nat) (q1 : List Nat) (q2 : List Nat) (v3 : Int) (m : aj_M) (hq0 : (.inl (11, q0) : aj_R) ∈ aj_pls) (hq1 : (.inl (10, q1) : aj_R) ∈ aj_pls) (hq2 : (.inl (9, q2) : aj_R) ∈ aj_pls), hX11_doAll_2 f Φ k q0 q1 q2 v3 m → aj_J X 2 [some (vO 11 q0), some (vO 10 q1), some (vO 9 q2), some (vI v3)] [] m := by
  intro k
  induction k with
  | zero =>
    intro q0 q1 q2 v3 m _ _ _ h
    exact h.elim
  | succ k ih =>
    intro q0 q1 q2 v3 m hq0 hq1 hq2 h
    unfold hX11_doAll_2 at h
    refine aj_iload_n C dX11_doAll_2 rfl ?_
    refine aj_aload_n C dX11_doAll_3 rfl ?_
    refine aj_getI C flX11_198 hq1 (by decide) dX11_doAll_4 rfl ?_
    obtain ⟨r0, r1, h1, h2⟩ := h
    refine aj_icmp_ge (tgt := 35) C dX11_doAll_7 (by decide) r0 r1 (fun e => ?_) (fun e => ?_)
    · have h := h1 e
      refine aj_aload_n C dX11_doAll_35 rfl ?_
      refine aj_getI C flX11_198 hq1 (by decide) dX11_doAll_36 rfl ?_
      exact aj_iret C K dX11_doAll_39 ⟨_, rfl, h⟩
    · have h := h2 e
      refine aj_aload_n C dX11_doAll_10 rfl ?_
      refine aj_aload_n C dX11_doAll_11 rfl ?_
      refine aj_getO (x := 6) (y := 0) C flX11_19 hq0 rfl dX11_doAll_12 ?_
      refine aj_aload_n C dX11_doAll_15 rfl ?_
      refine aj_getA (x := 3) (y := 40) C flX11_201 hq1 rfl dX11_doAll_16 ?_
      refine aj_iload_n C dX11_doAll_19 rfl ?_
      obtain ⟨r0, h⟩ := h
      refine aj_lald C (aj_ca (e := 3) (n := 40) (j := 0) hq1 (by decide) rfl) (by decide) r0 dX11_doAll_20 rfl ?_
      refine aj_callV (rest := []) C mvX11_205 (sX9_tryDeed hq2 (aj_cf (x := 6) (y := 0) (j := 1) hq0 (by decide) rfl) h) hq2 (aj_np 2 (by decide +kernel) rfl) (Nat.le_of_ble_eq_true rfl) rfl dX11_doAll_21 (fun r m1 h => ?_)
      obtain ⟨z1, rfl, h⟩ := h
      obtain ⟨r0, h1, h2⟩ := h
      refine aj_if_eq (tgt := 29) C dX11_doAll_24 (by decide) r0 (fun e => ?_) (fun e => ?_)
      · have h := h1 e
        refine aj_iinc (lv' := [some (vO 11 q0), some (vO 10 q1), some (vO 9 q2), some (vI (v3 + 1))]) C dX11_doAll_29 rfl (by decide) rfl ?_
        refine aj_goto (tgt := 2) C dX11_doAll_32 (by decide) ?_
        exact ih q0 q1 q2 (v3 + 1) _ hq0 hq1 hq2 h
      · have h := h2 e
        refine aj_iload_n C dX11_doAll_27 rfl ?_
        exact aj_iret C K dX11_doAll_28 ⟨_, rfl, h⟩
def wX11_doAll (f : Nat) (Φ : Int → aj_M → Prop) (q0 : List Nat) (q1 : List Nat) (q2 : List Nat) (m : aj_M) : Prop := hX11_doAll_2 f Φ f q0 q1 q2 0 m
set_option maxHeartbeats 4000000 in
set_option maxRecDepth 100000 in
theorem sX11_doAll {n f : Nat} {Φ : Int → aj_M → Prop} {q0 : List Nat} {q1 : List Nat} {q2 : List Nat} {m : aj_M} (hq0 : (.inl (11, q0) : aj_R) ∈ aj_pls) (hq1 : (.inl (10, q1) : aj_R) ∈ aj_pls) (hq2 : (.inl (9, q2) : aj_R) ∈ aj_pls) (h : wX11_doAll f Φ q0 q1 q2 m) : aj_Ct (n + 5) yX11_doAll cX11_doAll 4 (some .int) [vO 11 q0, vO 10 q1, vO 9 q2] m (fun r m => ∃ z, r = some (vI z) ∧ Φ z m) := by
  refine aj_met (lv := [some (vO 11 q0), some (vO 10 q1), some (vO 9 q2), none]) (by decide +kernel) rfl (Nat.le_of_ble_eq_true rfl) (fun X C K => ?_)
  unfold wX11_doAll at h
  refine aj_iconst C dX11_doAll_0 ?_
  refine aj_istore_n (lv' := [some (vO 11 q0), some (vO 10 q1), some (vO 9 q2), some (vI 0)]) C dX11_doAll_1 (by decide) rfl ?_
  exact tX11_doAll_2 C K f q0 q1 q2 0 _ hq0 hq1 hq2 h
theorem dX11_orNone_0 : decode cX11_orNone 0 = .ok (.iload_n 0, 1) := by decide +kernel
theorem dX11_orNone_1 : decode cX11_orNone 1 = .ok (.ldc_w 414, 3) := by decide +kernel
theorem dX11_orNone_4 : decode cX11_orNone 4 = .ok (.if_icmp .lt 7, 3) := by decide +kernel
theorem dX11_orNone_7 : decode cX11_orNone 7 = .ok (.iconst (-1), 1) := by decide +kernel
theorem dX11_orNone_8 : decode cX11_orNone 8 = .ok (.goto 4, 3) := by decide +kernel
theorem dX11_orNone_11 : decode cX11_orNone 11 = .ok (.iload_n 0, 1) := by decide +kernel
theorem dX11_orNone_12 : decode cX11_orNone 12 = .ok (.ireturn, 1) := by decide +kernel
def wX11_orNone (f : Nat) (Φ : Int → aj_M → Prop) (v0 : Int) (m : aj_M) : Prop := rI v0 ∧ (v0 < 1000000 → Φ v0 m) ∧ (¬ (v0 < 1000000) → Φ (-1) m)
set_option maxHeartbeats 4000000 in
set_option maxRecDepth 100000 in
theorem sX11_orNone {n f : Nat} {Φ : Int → aj_M → Prop} {v0 : Int} {m : aj_M}  (h : wX11_orNone f Φ v0 m) : aj_Ct n yX11_orNone cX11_orNone 1 (some .int) [vI v0] m (fun r m => ∃ z, r = some (vI z) ∧ Φ z m) := by
  refine aj_met (lv := [some (vI v0)]) (by decide +kernel) rfl (Nat.le_of_ble_eq_true rfl) (fun X C K => ?_)
  unfold wX11_orNone at h
  refine aj_iload_n C dX11_orNone_0 rfl ?_
  refine aj_ldcw (z := 1000000) C (aj_mem 1082 (by decide +kernel) (by decide +kernel)) rfl dX11_orNone_1 ?_
  obtain ⟨r0, h1, h2⟩ := h
  refine aj_icmp_lt (tgt := 11) C dX11_orNone_4 (by decide) r0 (by decide) (fun e => ?_) (fun e => ?_)
  · have h := h1 e
    refine aj_iload_n C dX11_orNone_11 rfl ?_
    exact aj_iret C K dX11_orNone_12 ⟨_, rfl, h⟩
  · have h := h2 e
    refine aj_iconst C dX11_orNone_7 ?_
    refine aj_goto (tgt := 12) C dX11_orNone_8 (by decide) ?_
    exact aj_iret C K dX11_orNone_12 ⟨_, rfl, h⟩
theorem dX11_judge_0 : decode cX11_judge 0 = .ok (.iload_n 1, 1) := by decide +kernel
theorem dX11_judge_1 : decode cX11_judge 1 = .ok (.invokestatic 187, 3) := by decide +kernel
theorem dX11_judge_4 : decode cX11_judge 4 = .ok (.ifCond .eq 12, 3) := by decide +kernel
theorem dX11_judge_7 : decode cX11_judge 7 = .ok (.iload_n 2, 1) := by decide +kernel
theorem dX11_judge_8 : decode cX11_judge 8 = .ok (.ifCond .lt 8, 3) := by decide +kernel
theorem dX11_judge_11 : decode cX11_judge 11 = .ok (.iload_n 2, 1) := by decide +kernel
theorem dX11_judge_12 : decode cX11_judge 12 = .ok (.iconst 3, 1) := by decide +kernel
theorem dX11_judge_13 : decode cX11_judge 13 = .ok (.if_icmp .le 6, 3) := by decide +kernel
theorem dX11_judge_16 : decode cX11_judge 16 = .ok (.bipush (-2), 2) := by decide +kernel
theorem dX11_judge_18 : decode cX11_judge 18 = .ok (.ireturn, 1) := by decide +kernel
theorem dX11_judge_19 : decode cX11_judge 19 = .ok (.aload_n 0, 1) := by decide +kernel
theorem dX11_judge_20 : decode cX11_judge 20 = .ok (.getfield 51, 3) := by decide +kernel
theorem dX11_judge_23 : decode cX11_judge 23 = .ok (.iload_n 1, 1) := by decide +kernel
theorem dX11_judge_24 : decode cX11_judge 24 = .ok (.aaload, 1) := by decide +kernel
theorem dX11_judge_25 : decode cX11_judge 25 = .ok (.astore_n 3, 1) := by decide +kernel
theorem dX11_judge_26 : decode cX11_judge 26 = .ok (.aload_n 3, 1) := by decide +kernel
theorem dX11_judge_27 : decode cX11_judge 27 = .ok (.invokevirtual 190, 3) := by decide +kernel
theorem dX11_judge_30 : decode cX11_judge 30 = .ok (.ifCond .eq 6, 3) := by decide +kernel
theorem dX11_judge_33 : decode cX11_judge 33 = .ok (.bipush (-6), 2) := by decide +kernel
theorem dX11_judge_35 : decode cX11_judge 35 = .ok (.ireturn, 1) := by decide +kernel
theorem dX11_judge_36 : decode cX11_judge 36 = .ok (.aload_n 0, 1) := by decide +kernel
theorem dX11_judge_37 : decode cX11_judge 37 = .ok (.getfield 33, 3) := by decide +kernel
theorem dX11_judge_40 : decode cX11_judge 40 = .ok (.aload_n 0, 1) := by decide +kernel
theorem dX11_judge_41 : decode cX11_judge 41 = .ok (.getfield 26, 3) := by decide +kernel
theorem dX11_judge_44 : decode cX11_judge 44 = .ok (.invokevirtual 159, 3) := by decide +kernel
theorem dX11_judge_47 : decode cX11_judge 47 = .ok (.aload_n 0, 1) := by decide +kernel
theorem dX11_judge_48 : decode cX11_judge 48 = .ok (.aload_n 3, 1) := by decide +kernel
theorem dX11_judge_49 : decode cX11_judge 49 = .ok (.aload_n 0, 1) := by decide +kernel
theorem dX11_judge_50 : decode cX11_judge 50 = .ok (.getfield 33, 3) := by decide +kernel
theorem dX11_judge_53 : decode cX11_judge 53 = .ok (.invokevirtual 194, 3) := by decide +kernel
theorem dX11_judge_56 : decode cX11_judge 56 = .ok (.istore 4, 2) := by decide +kernel
theorem dX11_judge_58 : decode cX11_judge 58 = .ok (.iload 4, 2) := by decide +kernel
theorem dX11_judge_60 : decode cX11_judge 60 = .ok (.aload_n 3, 1) := by decide +kernel
theorem dX11_judge_61 : decode cX11_judge 61 = .ok (.getfield 198, 3) := by decide +kernel
theorem dX11_judge_64 : decode cX11_judge 64 = .ok (.if_icmp .lt 7, 3) := by decide +kernel
theorem dX11_judge_67 : decode cX11_judge 67 = .ok (.iconst 1, 1) := by decide +kernel
theorem dX11_judge_68 : decode cX11_judge 68 = .ok (.goto 4, 3) := by decide +kernel
theorem dX11_judge_71 : decode cX11_judge 71 = .ok (.iconst 0, 1) := by decide +kernel
theorem dX11_judge_72 : decode cX11_judge 72 = .ok (.istore 5, 2) := by decide +kernel
theorem dX11_judge_74 : decode cX11_judge 74 = .ok (.iload_n 2, 1) := by decide +kernel
theorem dX11_judge_75 : decode cX11_judge 75 = .ok (.tableswitch 91 0 2 #[25, 37, 65], 25) := by decide +kernel
theorem dX11_judge_100 : decode cX11_judge 100 = .ok (.iload 5, 2) := by decide +kernel
theorem dX11_judge_102 : decode cX11_judge 102 = .ok (.ifCond .eq 7, 3) := by decide +kernel
theorem dX11_judge_105 : decode cX11_judge 105 = .ok (.iconst (-1), 1) := by decide +kernel
theorem dX11_judge_106 : decode cX11_judge 106 = .ok (.goto 5, 3) := by decide +kernel
theorem dX11_judge_109 : decode cX11_judge 109 = .ok (.iload 4, 2) := by decide +kernel
theorem dX11_judge_111 : decode cX11_judge 111 = .ok (.ireturn, 1) := by decide +kernel
theorem dX11_judge_112 : decode cX11_judge 112 = .ok (.iload 5, 2) := by decide +kernel
theorem dX11_judge_114 : decode cX11_judge 114 = .ok (.ifCond .eq 7, 3) := by decide +kernel
theorem dX11_judge_117 : decode cX11_judge 117 = .ok (.iconst 0, 1) := by decide +kernel
theorem dX11_judge_118 : decode cX11_judge 118 = .ok (.goto 21, 3) := by decide +kernel
theorem dX11_judge_121 : decode cX11_judge 121 = .ok (.aload_n 0, 1) := by decide +kernel
theorem dX11_judge_122 : decode cX11_judge 122 = .ok (.getfield 33, 3) := by decide +kernel
theorem dX11_judge_125 : decode cX11_judge 125 = .ok (.aload_n 0, 1) := by decide +kernel
theorem dX11_judge_126 : decode cX11_judge 126 = .ok (.getfield 19, 3) := by decide +kernel
theorem dX11_judge_129 : decode cX11_judge 129 = .ok (.aload_n 3, 1) := by decide +kernel
theorem dX11_judge_130 : decode cX11_judge 130 = .ok (.getfield 201, 3) := by decide +kernel
theorem dX11_judge_133 : decode cX11_judge 133 = .ok (.iload 4, 2) := by decide +kernel
theorem dX11_judge_135 : decode cX11_judge 135 = .ok (.laload, 1) := by decide +kernel
theorem dX11_judge_136 : decode cX11_judge 136 = .ok (.invokevirtual 205, 3) := by decide +kernel
theorem dX11_judge_139 : decode cX11_judge 139 = .ok (.ireturn, 1) := by decide +kernel
theorem dX11_judge_140 : decode cX11_judge 140 = .ok (.aload_n 0, 1) := by decide +kernel
theorem dX11_judge_141 : decode cX11_judge 141 = .ok (.getfield 65, 3) := by decide +kernel
theorem dX11_judge_144 : decode cX11_judge 144 = .ok (.aload_n 0, 1) := by decide +kernel
theorem dX11_judge_145 : decode cX11_judge 145 = .ok (.getfield 19, 3) := by decide +kernel
theorem dX11_judge_148 : decode cX11_judge 148 = .ok (.aload_n 0, 1) := by decide +kernel
theorem dX11_judge_149 : decode cX11_judge 149 = .ok (.getfield 33, 3) := by decide +kernel
theorem dX11_judge_152 : decode cX11_judge 152 = .ok (.invokevirtual 209, 3) := by decide +kernel
theorem dX11_judge_155 : decode cX11_judge 155 = .ok (.aload_n 0, 1) := by decide +kernel
theorem dX11_judge_156 : decode cX11_judge 156 = .ok (.getfield 65, 3) := by decide +kernel
theorem dX11_judge_159 : decode cX11_judge 159 = .ok (.invokevirtual 213, 3) := by decide +kernel
theorem dX11_judge_162 : decode cX11_judge 162 = .ok (.invokestatic 216, 3) := by decide +kernel
theorem dX11_judge_165 : decode cX11_judge 165 = .ok (.ireturn, 1) := by decide +kernel
theorem dX11_judge_166 : decode cX11_judge 166 = .ok (.aload_n 0, 1) := by decide +kernel
theorem dX11_judge_167 : decode cX11_judge 167 = .ok (.getfield 65, 3) := by decide +kernel
theorem dX11_judge_170 : decode cX11_judge 170 = .ok (.aload_n 0, 1) := by decide +kernel
theorem dX11_judge_171 : decode cX11_judge 171 = .ok (.getfield 19, 3) := by decide +kernel
theorem dX11_judge_174 : decode cX11_judge 174 = .ok (.aload_n 0, 1) := by decide +kernel
theorem dX11_judge_175 : decode cX11_judge 175 = .ok (.getfield 33, 3) := by decide +kernel
theorem dX11_judge_178 : decode cX11_judge 178 = .ok (.invokevirtual 209, 3) := by decide +kernel
theorem dX11_judge_181 : decode cX11_judge 181 = .ok (.aload_n 0, 1) := by decide +kernel
theorem dX11_judge_182 : decode cX11_judge 182 = .ok (.getfield 65, 3) := by decide +kernel
theorem dX11_judge_185 : decode cX11_judge 185 = .ok (.getfield 219, 3) := by decide +kernel
theorem dX11_judge_188 : decode cX11_judge 188 = .ok (.ireturn, 1) := by decide +kernel
def hX11_judge_72 (f : Nat) (Φ : Int → aj_M → Prop) (q0 : List Nat) (v2 : Int) (q3 : List Nat) (v4 : Int) (vs0 : Int) (m : aj_M) : Prop := rI v2 ∧ (v2 < 0 ∨ 2 < v2 → wX5_build f (fun m1 => Φ (m1 (9 :: q0) 1) m1) (9 :: q0) (1 :: q0) (4 :: q0) m) ∧ (v2 = 0 → rI vs0 ∧ (vs0 = 0 → Φ v4 m) ∧ (¬ (vs0 = 0) → Φ (-1) m)) ∧ (v2 = 1 → rI vs0 ∧ (vs0 = 0 → (0 ≤ v4 ∧ v4 < 40) ∧ wX9_tryDeed f (fun z2 m2 => Φ z2 m2) (4 :: q0) (1 :: q0) (m (0 :: q3) v4.toNat) m) ∧ (¬ (vs0 = 0) → Φ 0 m)) ∧ (v2 = 2 → wX5_build f (fun m3 => wX5_shortestRing f (fun z4 m4 => wX11_orNone f (fun z5 m5 => Φ z5 m5) z4 m4) (9 :: q0) m3) (9 :: q0) (1 :: q0) (4 :: q0) m)
set_option maxHeartbeats 4000000 in
set_option maxRecDepth 100000 in
theorem tX11_judge_72 {X : aj_T} {n f : Nat} {Φ : Int → aj_M → Prop} (C : aj_Cx X cX11_judge RX11 6 (n + 6)) (K : aj_Rt X (some .int) (fun r m => ∃ z, r = some (vI z) ∧ Φ z m)) (q0 : List Nat) (v2 : Int) (q3 : List Nat) (v4 : Int) (vs0 : Int) (m : aj_M) (hq0 : (.inl (11, q0) : aj_R) ∈ aj_pls) (hq3 : (.inl (10, q3) : aj_R) ∈ aj_pls) (h : hX11_judge_72 f Φ q0 v2 q3 v4 vs0 m) : aj_J X 72 [some (vO 11 q0), none, some (vI v2), some (vO 10 q3), some (vI v4), none] [vI vs0] m := by
  unfold hX11_judge_72 at h
  refine aj_istore (lv' := [some (vO 11 q0), none, some (vI v2), some (vO 10 q3), some (vI v4), some (vI vs0)]) C dX11_judge_72 (by decide) rfl ?_
  refine aj_iload_n C dX11_judge_74 rfl ?_
  obtain ⟨r0, hd, hc0, hc1, hc2⟩ := h
  rcases (by omega : (v2 < 0 ∨ 2 < v2) ∨ v2 = 0 ∨ v2 = 1 ∨ v2 = 2) with e | e | e | e
  · have h := hd e
    refine aj_tout (tgt := 166) C dX11_judge_75 r0 e (by decide) ?_
    refine aj_aload_n C dX11_judge_166 rfl ?_
    refine aj_getO (x := 5) (y := 0) C flX11_65 hq0 rfl dX11_judge_167 ?_
    refine aj_aload_n C dX11_judge_170 rfl ?_
    refine aj_getO (x := 6) (y := 0) C flX11_19 hq0 rfl dX11_judge_171 ?_
    refine aj_aload_n C dX11_judge_174 rfl ?_
    refine aj_getO (x := 9) (y := 0) C flX11_33 hq0 rfl dX11_judge_175 ?_
    refine aj_callV (rest := []) C mvX11_209 (sX5_build (aj_cf (x := 5) (y := 0) (j := 9) hq0 (by decide) rfl) (aj_cf (x := 6) (y := 0) (j := 1) hq0 (by decide) rfl) (aj_cf (x := 9) (y := 0) (j := 4) hq0 (by decide) rfl) h) (aj_cf (x := 5) (y := 0) (j := 9) hq0 (by decide) rfl) (aj_np 2 (by decide +kernel) rfl) (Nat.le_of_ble_eq_true rfl) rfl dX11_judge_178 (fun r m1 h => ?_)
    obtain ⟨rfl, h⟩ := h
    refine aj_aload_n C dX11_judge_181 rfl ?_
    refine aj_getO (x := 5) (y := 0) C flX11_65 hq0 rfl dX11_judge_182 ?_
    refine aj_getI C flX11_219 (aj_cf (x := 5) (y := 0) (j := 9) hq0 (by decide) rfl) (by decide) dX11_judge_185 rfl ?_
    exact aj_iret C K dX11_judge_188 ⟨_, rfl, h⟩
  · have h := hc0 e
    refine aj_tin (tgt := 100) (off := 25) C dX11_judge_75 r0 (by omega) (by omega) (by rw [e]; rfl) (by decide) ?_
    refine aj_iload C dX11_judge_100 rfl ?_
    obtain ⟨r0, h1, h2⟩ := h
    refine aj_if_eq (tgt := 109) C dX11_judge_102 (by decide) r0 (fun e => ?_) (fun e => ?_)
    · have h := h1 e
      refine aj_iload C dX11_judge_109 rfl ?_
      exact aj_iret C K dX11_judge_111 ⟨_, rfl, h⟩
    · have h := h2 e
      refine aj_iconst C dX11_judge_105 ?_
      refine aj_goto (tgt := 111) C dX11_judge_106 (by decide) ?_
      exact aj_iret C K dX11_judge_111 ⟨_, rfl, h⟩
  · have h := hc1 e
    refine aj_tin (tgt := 112) (off := 37) C dX11_judge_75 r0 (by omega) (by omega) (by rw [e]; rfl) (by decide) ?_
    refine aj_iload C dX11_judge_112 rfl ?_
    obtain ⟨r0, h1, h2⟩ := h
    refine aj_if_eq (tgt := 121) C dX11_judge_114 (by decide) r0 (fun e => ?_) (fun e => ?_)
    · have h := h1 e
      refine aj_aload_n C dX11_judge_121 rfl ?_
      refine aj_getO (x := 9) (y := 0) C flX11_33 hq0 rfl dX11_judge_122 ?_
      refine aj_aload_n C dX11_judge_125 rfl ?_
      refine aj_getO (x := 6) (y := 0) C flX11_19 hq0 rfl dX11_judge_126 ?_
      refine aj_aload_n C dX11_judge_129 rfl ?_
      refine aj_getA (x := 3) (y := 40) C flX11_201 hq3 rfl dX11_judge_130 ?_
      refine aj_iload C dX11_judge_133 rfl ?_
      obtain ⟨r0, h⟩ := h
      refine aj_lald C (aj_ca (e := 3) (n := 40) (j := 0) hq3 (by decide) rfl) (by decide) r0 dX11_judge_135 rfl ?_
      refine aj_callV (rest := []) C mvX11_205 (sX9_tryDeed (aj_cf (x := 9) (y := 0) (j := 4) hq0 (by decide) rfl) (aj_cf (x := 6) (y := 0) (j := 1) hq0 (by decide) rfl) h) (aj_cf (x := 9) (y := 0) (j := 4) hq0 (by decide) rfl) (aj_np 2 (by decide +kernel) rfl) (Nat.le_of_ble_eq_true rfl) rfl dX11_judge_136 (fun r m2 h => ?_)
      obtain ⟨z2, rfl, h⟩ := h
      exact aj_iret C K dX11_judge_139 ⟨_, rfl, h⟩
    · have h := h2 e
      refine aj_iconst C dX11_judge_117 ?_
      refine aj_goto (tgt := 139) C dX11_judge_118 (by decide) ?_
      exact aj_iret C K dX11_judge_139 ⟨_, rfl, h⟩
  · have h := hc2 e
    refine aj_tin (tgt := 140) (off := 65) C dX11_judge_75 r0 (by omega) (by omega) (by rw [e]; rfl) (by decide) ?_
    refine aj_aload_n C dX11_judge_140 rfl ?_
    refine aj_getO (x := 5) (y := 0) C flX11_65 hq0 rfl dX11_judge_141 ?_
    refine aj_aload_n C dX11_judge_144 rfl ?_
    refine aj_getO (x := 6) (y := 0) C flX11_19 hq0 rfl dX11_judge_145 ?_
    refine aj_aload_n C dX11_judge_148 rfl ?_
    refine aj_getO (x := 9) (y := 0) C flX11_33 hq0 rfl dX11_judge_149 ?_
    refine aj_callV (rest := []) C mvX11_209 (sX5_build (aj_cf (x := 5) (y := 0) (j := 9) hq0 (by decide) rfl) (aj_cf (x := 6) (y := 0) (j := 1) hq0 (by decide) rfl) (aj_cf (x := 9) (y := 0) (j := 4) hq0 (by decide) rfl) h) (aj_cf (x := 5) (y := 0) (j := 9) hq0 (by decide) rfl) (aj_np 2 (by decide +kernel) rfl) (Nat.le_of_ble_eq_true rfl) rfl dX11_judge_152 (fun r m3 h => ?_)
    obtain ⟨rfl, h⟩ := h
    refine aj_aload_n C dX11_judge_155 rfl ?_
    refine aj_getO (x := 5) (y := 0) C flX11_65 hq0 rfl dX11_judge_156 ?_
    refine aj_callV (rest := []) C mvX11_213 (sX5_shortestRing (aj_cf (x := 5) (y := 0) (j := 9) hq0 (by decide) rfl) h) (aj_cf (x := 5) (y := 0) (j := 9) hq0 (by decide) rfl) (aj_np 0 (by decide +kernel) rfl) (Nat.le_of_ble_eq_true rfl) rfl dX11_judge_159 (fun r m4 h => ?_)
    obtain ⟨z4, rfl, h⟩ := h
    refine aj_callS (rest := []) C msX11_216 (sX11_orNone  h) (aj_np 1 (by decide +kernel) rfl) (Nat.le_of_ble_eq_true rfl) rfl dX11_judge_162 (fun r m5 h => ?_)
    obtain ⟨z5, rfl, h⟩ := h
    exact aj_iret C K dX11_judge_165 ⟨_, rfl, h⟩
def wX11_judge (f : Nat) (Φ : Int → aj_M → Prop) (q0 : List Nat) (v1 : Int) (v2 : Int) (m : aj_M) : Prop := wX11_isTray f (fun z1 m1 => rI z1 ∧ (z1 = 0 → Φ (-2) m1) ∧ (¬ (z1 = 0) → rI v2 ∧ (v2 < 0 → Φ (-2) m1) ∧ (¬ (v2 < 0) → rI v2 ∧ (v2 ≤ 3 → (0 ≤ v1 ∧ v1 < 4) ∧ wX10_isMissing f (fun z2 m2 => rI z2 ∧ (z2 = 0 → wX9_copyFrom f (fun m3 => wX11_doAll f (fun z4 m4 => rI z4 ∧ rI (m4 (v1.toNat :: (7 :: q0)) 2) ∧ (z4 < (m4 (v1.toNat :: (7 :: q0)) 2) → hX11_judge_72 f Φ q0 v2 (v1.toNat :: (7 :: q0)) z4 0 m4) ∧ (¬ (z4 < (m4 (v1.toNat :: (7 :: q0)) 2)) → hX11_judge_72 f Φ q0 v2 (v1.toNat :: (7 :: q0)) z4 1 m4)) q0 (v1.toNat :: (7 :: q0)) (4 :: q0) m3) (4 :: q0) (2 :: q0) m2) ∧ (¬ (z2 = 0) → Φ (-6) m2)) (v1.toNat :: (7 :: q0)) m1) ∧ (¬ (v2 ≤ 3) → Φ (-2) m1)))) v1 m
set_option maxHeartbeats 4000000 in
set_option maxRecDepth 100000 in
theorem sX11_judge {n f : Nat} {Φ : Int → aj_M → Prop} {q0 : List Nat} {v1 : Int} {v2 : Int} {m : aj_M} (hq0 : (.inl (11, q0) : aj_R) ∈ aj_pls) (h : wX11_judge f Φ q0 v1 v2 m) : aj_Ct (n + 6) yX11_judge cX11_judge 6 (some .int) [vO 11 q0, vI v1, vI v2] m (fun r m => ∃ z, r = some (vI z) ∧ Φ z m) := by
  refine aj_met (lv := [some (vO 11 q0), some (vI v1), some (vI v2), none, none, none]) (by decide +kernel) rfl (Nat.le_of_ble_eq_true rfl) (fun X C K => ?_)
  unfold wX11_judge at h
  refine aj_iload_n C dX11_judge_0 rfl ?_
  refine aj_callS (rest := []) C msX11_187 (sX11_isTray  h) (aj_np 1 (by decide +kernel) rfl) (Nat.le_of_ble_eq_true rfl) rfl dX11_judge_1 (fun r m1 h => ?_)
  obtain ⟨z1, rfl, h⟩ := h
  obtain ⟨r0, h1, h2⟩ := h
  refine aj_if_eq (tgt := 16) C dX11_judge_4 (by decide) r0 (fun e => ?_) (fun e => ?_)
  · have h := h1 e
    refine aj_bipush C dX11_judge_16 (by decide) ?_
    exact aj_iret C K dX11_judge_18 ⟨_, rfl, h⟩
  · have h := h2 e
    refine aj_iload_n C dX11_judge_7 rfl ?_
    obtain ⟨r0, h1, h2⟩ := h
    refine aj_if_lt (tgt := 16) C dX11_judge_8 (by decide) r0 (fun e => ?_) (fun e => ?_)
    · have h := h1 e
      refine aj_bipush C dX11_judge_16 (by decide) ?_
      exact aj_iret C K dX11_judge_18 ⟨_, rfl, h⟩
    · have h := h2 e
      refine aj_iload_n C dX11_judge_11 rfl ?_
      refine aj_iconst C dX11_judge_12 ?_
      obtain ⟨r0, h1, h2⟩ := h
      refine aj_icmp_le (tgt := 19) C dX11_judge_13 (by decide) r0 (by decide) (fun e => ?_) (fun e => ?_)
      · have h := h1 e
        refine aj_aload_n C dX11_judge_19 rfl ?_
        refine aj_getA (x := 6) (y := 4) C flX11_51 hq0 rfl dX11_judge_20 ?_
        refine aj_iload_n C dX11_judge_23 rfl ?_
        obtain ⟨r0_1, h⟩ := h
        refine aj_aald (c1 := 10) C (aj_ca (e := 6) (n := 4) (j := 7) hq0 (by decide) rfl) (by decide) (fun _ => rfl) (by decide) r0_1 dX11_judge_24 ?_
        refine aj_astore_n (lv' := [some (vO 11 q0), some (vI v1), some (vI v2), some (vO 10 (v1.toNat :: (7 :: q0))), none, none]) C dX11_judge_25 (by decide) rfl ?_
        refine aj_aload_n C dX11_judge_26 rfl ?_
        refine aj_callV (rest := []) C mvX11_190 (sX10_isMissing (aj_ce (i := v1.toNat) (aj_ca (e := 6) (n := 4) (j := 7) hq0 (by decide) rfl) rfl (by omega)) h) (aj_ce (i := v1.toNat) (aj_ca (e := 6) (n := 4) (j := 7) hq0 (by decide) rfl) rfl (by omega)) (aj_np 0 (by decide +kernel) rfl) (Nat.le_of_ble_eq_true rfl) rfl dX11_judge_27 (fun r m2 h => ?_)
        obtain ⟨z2, rfl, h⟩ := h
        obtain ⟨r0, h1, h2⟩ := h
        refine aj_if_eq (tgt := 36) C dX11_judge_30 (by decide) r0 (fun e => ?_) (fun e => ?_)
        · have h := h1 e
          refine aj_aload_n C dX11_judge_36 rfl ?_
          refine aj_getO (x := 9) (y := 0) C flX11_33 hq0 rfl dX11_judge_37 ?_
          refine aj_aload_n C dX11_judge_40 rfl ?_
          refine aj_getO (x := 9) (y := 0) C flX11_26 hq0 rfl dX11_judge_41 ?_
          refine aj_callV (rest := []) C mvX11_159 (sX9_copyFrom (aj_cf (x := 9) (y := 0) (j := 4) hq0 (by decide) rfl) (aj_cf (x := 9) (y := 0) (j := 2) hq0 (by decide) rfl) h) (aj_cf (x := 9) (y := 0) (j := 4) hq0 (by decide) rfl) (aj_np 1 (by decide +kernel) rfl) (Nat.le_of_ble_eq_true rfl) rfl dX11_judge_44 (fun r m3 h => ?_)
          obtain ⟨rfl, h⟩ := h
          refine aj_aload_n C dX11_judge_47 rfl ?_
          refine aj_aload_n C dX11_judge_48 rfl ?_
          refine aj_aload_n C dX11_judge_49 rfl ?_
          refine aj_getO (x := 9) (y := 0) C flX11_33 hq0 rfl dX11_judge_50 ?_
          refine aj_callV (rest := []) C mvX11_194 (sX11_doAll hq0 (aj_ce (i := v1.toNat) (aj_ca (e := 6) (n := 4) (j := 7) hq0 (by decide) rfl) rfl (by omega)) (aj_cf (x := 9) (y := 0) (j := 4) hq0 (by decide) rfl) h) hq0 (aj_np 2 (by decide +kernel) rfl) (Nat.le_of_ble_eq_true rfl) rfl dX11_judge_53 (fun r m4 h => ?_)
          obtain ⟨z4, rfl, h⟩ := h
          refine aj_istore (lv' := [some (vO 11 q0), some (vI v1), some (vI v2), some (vO 10 (v1.toNat :: (7 :: q0))), some (vI z4), none]) C dX11_judge_56 (by decide) rfl ?_
          refine aj_iload C dX11_judge_58 rfl ?_
          refine aj_aload_n C dX11_judge_60 rfl ?_
          refine aj_getI C flX11_198 (aj_ce (i := v1.toNat) (aj_ca (e := 6) (n := 4) (j := 7) hq0 (by decide) rfl) rfl (by omega)) (by decide) dX11_judge_61 rfl ?_
          obtain ⟨r0, r1, h1, h2⟩ := h
          refine aj_icmp_lt (tgt := 71) C dX11_judge_64 (by decide) r0 r1 (fun e => ?_) (fun e => ?_)
          · have h := h1 e
            refine aj_iconst C dX11_judge_71 ?_
            refine aj_wk (lv' := [some (vO 11 q0), none, some (vI v2), some (vO 10 (v1.toNat :: (7 :: q0))), some (vI z4), none]) (⟨rfl, ⟨rfl, ⟨rfl, ⟨rfl, trivial⟩⟩⟩⟩) ?_
            exact tX11_judge_72 C K q0 v2 (v1.toNat :: (7 :: q0)) z4 0 _ hq0 (aj_ce (i := v1.toNat) (aj_ca (e := 6) (n := 4) (j := 7) hq0 (by decide) rfl) rfl (by omega)) h
          · have h := h2 e
            refine aj_iconst C dX11_judge_67 ?_
            refine aj_goto (tgt := 72) C dX11_judge_68 (by decide) ?_
            refine aj_wk (lv' := [some (vO 11 q0), none, some (vI v2), some (vO 10 (v1.toNat :: (7 :: q0))), some (vI z4), none]) (⟨rfl, ⟨rfl, ⟨rfl, ⟨rfl, trivial⟩⟩⟩⟩) ?_
            exact tX11_judge_72 C K q0 v2 (v1.toNat :: (7 :: q0)) z4 1 _ hq0 (aj_ce (i := v1.toNat) (aj_ca (e := 6) (n := 4) (j := 7) hq0 (by decide) rfl) rfl (by omega)) h
        · have h := h2 e
          refine aj_bipush C dX11_judge_33 (by decide) ?_
          exact aj_iret C K dX11_judge_35 ⟨_, rfl, h⟩
      · have h := h2 e
        refine aj_bipush C dX11_judge_16 (by decide) ?_
        exact aj_iret C K dX11_judge_18 ⟨_, rfl, h⟩
theorem dX11_trayCode_0 : decode cX11_trayCode 0 = .ok (.iload_n 1, 1) := by decide +kernel
theorem dX11_trayCode_1 : decode cX11_trayCode 1 = .ok (.invokestatic 187, 3) := by decide +kernel
theorem dX11_trayCode_4 : decode cX11_trayCode 4 = .ok (.ifCond .ne 6, 3) := by decide +kernel
theorem dX11_trayCode_7 : decode cX11_trayCode 7 = .ok (.bipush (-2), 2) := by decide +kernel
theorem dX11_trayCode_9 : decode cX11_trayCode 9 = .ok (.ireturn, 1) := by decide +kernel
theorem dX11_trayCode_10 : decode cX11_trayCode 10 = .ok (.aload_n 0, 1) := by decide +kernel
theorem dX11_trayCode_11 : decode cX11_trayCode 11 = .ok (.getfield 51, 3) := by decide +kernel
theorem dX11_trayCode_14 : decode cX11_trayCode 14 = .ok (.iload_n 1, 1) := by decide +kernel
theorem dX11_trayCode_15 : decode cX11_trayCode 15 = .ok (.aaload, 1) := by decide +kernel
theorem dX11_trayCode_16 : decode cX11_trayCode 16 = .ok (.invokevirtual 190, 3) := by decide +kernel
theorem dX11_trayCode_19 : decode cX11_trayCode 19 = .ok (.ifCond .eq 8, 3) := by decide +kernel
theorem dX11_trayCode_22 : decode cX11_trayCode 22 = .ok (.bipush (-6), 2) := by decide +kernel
theorem dX11_trayCode_24 : decode cX11_trayCode 24 = .ok (.goto 4, 3) := by decide +kernel
theorem dX11_trayCode_27 : decode cX11_trayCode 27 = .ok (.iconst 0, 1) := by decide +kernel
theorem dX11_trayCode_28 : decode cX11_trayCode 28 = .ok (.ireturn, 1) := by decide +kernel
def wX11_trayCode (f : Nat) (Φ : Int → aj_M → Prop) (q0 : List Nat) (v1 : Int) (m : aj_M) : Prop := wX11_isTray f (fun z1 m1 => rI z1 ∧ (¬ z1 = 0 → (0 ≤ v1 ∧ v1 < 4) ∧ wX10_isMissing f (fun z2 m2 => rI z2 ∧ (z2 = 0 → Φ 0 m2) ∧ (¬ (z2 = 0) → Φ (-6) m2)) (v1.toNat :: (7 :: q0)) m1) ∧ (z1 = 0 → Φ (-2) m1)) v1 m
set_option maxHeartbeats 4000000 in
set_option maxRecDepth 100000 in
theorem sX11_trayCode {n f : Nat} {Φ : Int → aj_M → Prop} {q0 : List Nat} {v1 : Int} {m : aj_M} (hq0 : (.inl (11, q0) : aj_R) ∈ aj_pls) (h : wX11_trayCode f Φ q0 v1 m) : aj_Ct (n + 1) yX11_trayCode cX11_trayCode 2 (some .int) [vO 11 q0, vI v1] m (fun r m => ∃ z, r = some (vI z) ∧ Φ z m) := by
  refine aj_met (lv := [some (vO 11 q0), some (vI v1)]) (by decide +kernel) rfl (Nat.le_of_ble_eq_true rfl) (fun X C K => ?_)
  unfold wX11_trayCode at h
  refine aj_iload_n C dX11_trayCode_0 rfl ?_
  refine aj_callS (rest := []) C msX11_187 (sX11_isTray  h) (aj_np 1 (by decide +kernel) rfl) (Nat.le_of_ble_eq_true rfl) rfl dX11_trayCode_1 (fun r m1 h => ?_)
  obtain ⟨z1, rfl, h⟩ := h
  obtain ⟨r0, h1, h2⟩ := h
  refine aj_if_ne (tgt := 10) C dX11_trayCode_4 (by decide) r0 (fun e => ?_) (fun e => ?_)
  · have h := h1 e
    refine aj_aload_n C dX11_trayCode_10 rfl ?_
    refine aj_getA (x := 6) (y := 4) C flX11_51 hq0 rfl dX11_trayCode_11 ?_
    refine aj_iload_n C dX11_trayCode_14 rfl ?_
    obtain ⟨r0_1, h⟩ := h
    refine aj_aald (c1 := 10) C (aj_ca (e := 6) (n := 4) (j := 7) hq0 (by decide) rfl) (by decide) (fun _ => rfl) (by decide) r0_1 dX11_trayCode_15 ?_
    refine aj_callV (rest := []) C mvX11_190 (sX10_isMissing (aj_ce (i := v1.toNat) (aj_ca (e := 6) (n := 4) (j := 7) hq0 (by decide) rfl) rfl (by omega)) h) (aj_ce (i := v1.toNat) (aj_ca (e := 6) (n := 4) (j := 7) hq0 (by decide) rfl) rfl (by omega)) (aj_np 0 (by decide +kernel) rfl) (Nat.le_of_ble_eq_true rfl) rfl dX11_trayCode_16 (fun r m2 h => ?_)
    obtain ⟨z2, rfl, h⟩ := h
    obtain ⟨r0, h1, h2⟩ := h
    refine aj_if_eq (tgt := 27) C dX11_trayCode_19 (by decide) r0 (fun e => ?_) (fun e => ?_)
    · have h := h1 e
      refine aj_iconst C dX11_trayCode_27 ?_
      exact aj_iret C K dX11_trayCode_28 ⟨_, rfl, h⟩
    · have h := h2 e
      refine aj_bipush C dX11_trayCode_22 (by decide) ?_
      refine aj_goto (tgt := 28) C dX11_trayCode_24 (by decide) ?_
      exact aj_iret C K dX11_trayCode_28 ⟨_, rfl, h⟩
  · have h := h2 e
    refine aj_bipush C dX11_trayCode_7 (by decide) ?_
    exact aj_iret C K dX11_trayCode_9 ⟨_, rfl, h⟩
theorem dX11_perform_0 : decode cX11_perform 0 = .ok (.aload_n 0, 1) := by decide +kernel
theorem dX11_perform_1 : decode cX11_perform 1 = .ok (.iload_n 1, 1) := by decide +kernel
theorem dX11_perform_2 : decode cX11_perform 2 = .ok (.invokevirtual 222, 3) := by decide +kernel
theorem dX11_perform_5 : decode cX11_perform 5 = .ok (.istore_n 2, 1) := by decide +kernel
theorem dX11_perform_6 : decode cX11_perform 6 = .ok (.iload_n 2, 1) := by decide +kernel
theorem dX11_perform_7 : decode cX11_perform 7 = .ok (.ifCond .eq 5, 3) := by decide +kernel
theorem dX11_perform_10 : decode cX11_perform 10 = .ok (.iload_n 2, 1) := by decide +kernel
theorem dX11_perform_11 : decode cX11_perform 11 = .ok (.ireturn, 1) := by decide +kernel
theorem dX11_perform_12 : decode cX11_perform 12 = .ok (.aload_n 0, 1) := by decide +kernel
theorem dX11_perform_13 : decode cX11_perform 13 = .ok (.getfield 30, 3) := by decide +kernel
theorem dX11_perform_16 : decode cX11_perform 16 = .ok (.aload_n 0, 1) := by decide +kernel
theorem dX11_perform_17 : decode cX11_perform 17 = .ok (.getfield 26, 3) := by decide +kernel
theorem dX11_perform_20 : decode cX11_perform 20 = .ok (.invokevirtual 159, 3) := by decide +kernel
theorem dX11_perform_23 : decode cX11_perform 23 = .ok (.aload_n 0, 1) := by decide +kernel
theorem dX11_perform_24 : decode cX11_perform 24 = .ok (.aload_n 0, 1) := by decide +kernel
theorem dX11_perform_25 : decode cX11_perform 25 = .ok (.getfield 51, 3) := by decide +kernel
theorem dX11_perform_28 : decode cX11_perform 28 = .ok (.iload_n 1, 1) := by decide +kernel
theorem dX11_perform_29 : decode cX11_perform 29 = .ok (.aaload, 1) := by decide +kernel
theorem dX11_perform_30 : decode cX11_perform 30 = .ok (.aload_n 0, 1) := by decide +kernel
theorem dX11_perform_31 : decode cX11_perform 31 = .ok (.getfield 26, 3) := by decide +kernel
theorem dX11_perform_34 : decode cX11_perform 34 = .ok (.invokevirtual 194, 3) := by decide +kernel
theorem dX11_perform_37 : decode cX11_perform 37 = .ok (.istore_n 3, 1) := by decide +kernel
theorem dX11_perform_38 : decode cX11_perform 38 = .ok (.iload_n 3, 1) := by decide +kernel
theorem dX11_perform_39 : decode cX11_perform 39 = .ok (.ifCond .le 7, 3) := by decide +kernel
theorem dX11_perform_42 : decode cX11_perform 42 = .ok (.aload_n 0, 1) := by decide +kernel
theorem dX11_perform_43 : decode cX11_perform 43 = .ok (.invokevirtual 166, 3) := by decide +kernel
theorem dX11_perform_46 : decode cX11_perform 46 = .ok (.iload_n 3, 1) := by decide +kernel
theorem dX11_perform_47 : decode cX11_perform 47 = .ok (.ireturn, 1) := by decide +kernel
def wX11_perform (f : Nat) (Φ : Int → aj_M → Prop) (q0 : List Nat) (v1 : Int) (m : aj_M) : Prop := wX11_trayCode f (fun z1 m1 => rI z1 ∧ (z1 = 0 → wX9_copyFrom f (fun m2 => (0 ≤ v1 ∧ v1 < 4) ∧ wX11_doAll f (fun z3 m3 => rI z3 ∧ (z3 ≤ 0 → Φ z3 m3) ∧ (¬ (z3 ≤ 0) → wX11_wasDone f (fun m4 => Φ z3 m4) q0 m3)) q0 (v1.toNat :: (7 :: q0)) (2 :: q0) m2) (3 :: q0) (2 :: q0) m1) ∧ (¬ (z1 = 0) → Φ z1 m1)) q0 v1 m
set_option maxHeartbeats 4000000 in
set_option maxRecDepth 100000 in
theorem sX11_perform {n f : Nat} {Φ : Int → aj_M → Prop} {q0 : List Nat} {v1 : Int} {m : aj_M} (hq0 : (.inl (11, q0) : aj_R) ∈ aj_pls) (h : wX11_perform f Φ q0 v1 m) : aj_Ct (n + 6) yX11_perform cX11_perform 4 (some .int) [vO 11 q0, vI v1] m (fun r m => ∃ z, r = some (vI z) ∧ Φ z m) := by
  refine aj_met (lv := [some (vO 11 q0), some (vI v1), none, none]) (by decide +kernel) rfl (Nat.le_of_ble_eq_true rfl) (fun X C K => ?_)
  unfold wX11_perform at h
  refine aj_aload_n C dX11_perform_0 rfl ?_
  refine aj_iload_n C dX11_perform_1 rfl ?_
  refine aj_callV (rest := []) C mvX11_222 (sX11_trayCode hq0 h) hq0 (aj_np 1 (by decide +kernel) rfl) (Nat.le_of_ble_eq_true rfl) rfl dX11_perform_2 (fun r m1 h => ?_)
  obtain ⟨z1, rfl, h⟩ := h
  refine aj_istore_n (lv' := [some (vO 11 q0), some (vI v1), some (vI z1), none]) C dX11_perform_5 (by decide) rfl ?_
  refine aj_iload_n C dX11_perform_6 rfl ?_
  obtain ⟨r0, h1, h2⟩ := h
  refine aj_if_eq (tgt := 12) C dX11_perform_7 (by decide) r0 (fun e => ?_) (fun e => ?_)
  · have h := h1 e
    refine aj_aload_n C dX11_perform_12 rfl ?_
    refine aj_getO (x := 9) (y := 0) C flX11_30 hq0 rfl dX11_perform_13 ?_
    refine aj_aload_n C dX11_perform_16 rfl ?_
    refine aj_getO (x := 9) (y := 0) C flX11_26 hq0 rfl dX11_perform_17 ?_
    refine aj_callV (rest := []) C mvX11_159 (sX9_copyFrom (aj_cf (x := 9) (y := 0) (j := 3) hq0 (by decide) rfl) (aj_cf (x := 9) (y := 0) (j := 2) hq0 (by decide) rfl) h) (aj_cf (x := 9) (y := 0) (j := 3) hq0 (by decide) rfl) (aj_np 1 (by decide +kernel) rfl) (Nat.le_of_ble_eq_true rfl) rfl dX11_perform_20 (fun r m2 h => ?_)
    obtain ⟨rfl, h⟩ := h
    refine aj_aload_n C dX11_perform_23 rfl ?_
    refine aj_aload_n C dX11_perform_24 rfl ?_
    refine aj_getA (x := 6) (y := 4) C flX11_51 hq0 rfl dX11_perform_25 ?_
    refine aj_iload_n C dX11_perform_28 rfl ?_
    obtain ⟨r0_1, h⟩ := h
    refine aj_aald (c1 := 10) C (aj_ca (e := 6) (n := 4) (j := 7) hq0 (by decide) rfl) (by decide) (fun _ => rfl) (by decide) r0_1 dX11_perform_29 ?_
    refine aj_aload_n C dX11_perform_30 rfl ?_
    refine aj_getO (x := 9) (y := 0) C flX11_26 hq0 rfl dX11_perform_31 ?_
    refine aj_callV (rest := []) C mvX11_194 (sX11_doAll hq0 (aj_ce (i := v1.toNat) (aj_ca (e := 6) (n := 4) (j := 7) hq0 (by decide) rfl) rfl (by omega)) (aj_cf (x := 9) (y := 0) (j := 2) hq0 (by decide) rfl) h) hq0 (aj_np 2 (by decide +kernel) rfl) (Nat.le_of_ble_eq_true rfl) rfl dX11_perform_34 (fun r m3 h => ?_)
    obtain ⟨z3, rfl, h⟩ := h
    refine aj_istore_n (lv' := [some (vO 11 q0), some (vI v1), some (vI z1), some (vI z3)]) C dX11_perform_37 (by decide) rfl ?_
    refine aj_iload_n C dX11_perform_38 rfl ?_
    obtain ⟨r0, h1, h2⟩ := h
    refine aj_if_le (tgt := 46) C dX11_perform_39 (by decide) r0 (fun e => ?_) (fun e => ?_)
    · have h := h1 e
      refine aj_iload_n C dX11_perform_46 rfl ?_
      exact aj_iret C K dX11_perform_47 ⟨_, rfl, h⟩
    · have h := h2 e
      refine aj_aload_n C dX11_perform_42 rfl ?_
      refine aj_callV (rest := []) C mvX11_166 (sX11_wasDone hq0 h) hq0 (aj_np 0 (by decide +kernel) rfl) (Nat.le_of_ble_eq_true rfl) rfl dX11_perform_43 (fun r m4 h => ?_)
      obtain ⟨rfl, h⟩ := h
      refine aj_iload_n C dX11_perform_46 rfl ?_
      exact aj_iret C K dX11_perform_47 ⟨_, rfl, h⟩
  · have h := h2 e
    refine aj_iload_n C dX11_perform_10 rfl ?_
    exact aj_iret C K dX11_perform_11 ⟨_, rfl, h⟩
theorem dX11_nextDraw_0 : decode cX11_nextDraw 0 = .ok (.ldc_w 421, 3) := by decide +kernel
theorem dX11_nextDraw_3 : decode cX11_nextDraw 3 = .ok (.iload_n 0, 1) := by decide +kernel
theorem dX11_nextDraw_4 : decode cX11_nextDraw 4 = .ok (.imul, 1) := by decide +kernel
theorem dX11_nextDraw_5 : decode cX11_nextDraw 5 = .ok (.sipush 12345, 3) := by decide +kernel
theorem dX11_nextDraw_8 : decode cX11_nextDraw 8 = .ok (.iadd, 1) := by decide +kernel
theorem dX11_nextDraw_9 : decode cX11_nextDraw 9 = .ok (.ireturn, 1) := by decide +kernel
def wX11_nextDraw (f : Nat) (Φ : Int → aj_M → Prop) (v0 : Int) (m : aj_M) : Prop := Φ ((1103515245 * v0) + 12345) m
set_option maxHeartbeats 4000000 in
set_option maxRecDepth 100000 in
theorem sX11_nextDraw {n f : Nat} {Φ : Int → aj_M → Prop} {v0 : Int} {m : aj_M}  (h : wX11_nextDraw f Φ v0 m) : aj_Ct n yX11_nextDraw cX11_nextDraw 1 (some .int) [vI v0] m (fun r m => ∃ z, r = some (vI z) ∧ Φ z m) := by
  refine aj_met (lv := [some (vI v0)]) (by decide +kernel) rfl (Nat.le_of_ble_eq_true rfl) (fun X C K => ?_)
  unfold wX11_nextDraw at h
  refine aj_ldcw (z := 1103515245) C (aj_mem 1098 (by decide +kernel) (by decide +kernel)) rfl dX11_nextDraw_0 ?_
  refine aj_iload_n C dX11_nextDraw_3 rfl ?_
  refine aj_imul C dX11_nextDraw_4 ?_
  refine aj_sipush C dX11_nextDraw_5 (by decide) ?_
  refine aj_iadd C dX11_nextDraw_8 ?_
  exact aj_iret C K dX11_nextDraw_9 ⟨_, rfl, h⟩
