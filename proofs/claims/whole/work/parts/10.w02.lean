theorem dX6_copyFrom_0 : decode cX6_copyFrom 0 = .ok (.aload_n 0, 1) := by decide +kernel
theorem dX6_copyFrom_1 : decode cX6_copyFrom 1 = .ok (.getfield 12, 3) := by decide +kernel
theorem dX6_copyFrom_4 : decode cX6_copyFrom 4 = .ok (.aload_n 1, 1) := by decide +kernel
theorem dX6_copyFrom_5 : decode cX6_copyFrom 5 = .ok (.getfield 12, 3) := by decide +kernel
theorem dX6_copyFrom_8 : decode cX6_copyFrom 8 = .ok (.invokevirtual 64, 3) := by decide +kernel
theorem dX6_copyFrom_11 : decode cX6_copyFrom 11 = .ok (.aload_n 0, 1) := by decide +kernel
theorem dX6_copyFrom_12 : decode cX6_copyFrom 12 = .ok (.getfield 21, 3) := by decide +kernel
theorem dX6_copyFrom_15 : decode cX6_copyFrom 15 = .ok (.aload_n 1, 1) := by decide +kernel
theorem dX6_copyFrom_16 : decode cX6_copyFrom 16 = .ok (.getfield 21, 3) := by decide +kernel
theorem dX6_copyFrom_19 : decode cX6_copyFrom 19 = .ok (.invokevirtual 68, 3) := by decide +kernel
theorem dX6_copyFrom_22 : decode cX6_copyFrom 22 = .ok (.aload_n 0, 1) := by decide +kernel
theorem dX6_copyFrom_23 : decode cX6_copyFrom 23 = .ok (.aload_n 1, 1) := by decide +kernel
theorem dX6_copyFrom_24 : decode cX6_copyFrom 24 = .ok (.getfield 25, 3) := by decide +kernel
theorem dX6_copyFrom_27 : decode cX6_copyFrom 27 = .ok (.putfield 25, 3) := by decide +kernel
theorem dX6_copyFrom_30 : decode cX6_copyFrom 30 = .ok (.aload_n 0, 1) := by decide +kernel
theorem dX6_copyFrom_31 : decode cX6_copyFrom 31 = .ok (.aload_n 1, 1) := by decide +kernel
theorem dX6_copyFrom_32 : decode cX6_copyFrom 32 = .ok (.getfield 29, 3) := by decide +kernel
theorem dX6_copyFrom_35 : decode cX6_copyFrom 35 = .ok (.putfield 29, 3) := by decide +kernel
theorem dX6_copyFrom_38 : decode cX6_copyFrom 38 = .ok (.aload_n 0, 1) := by decide +kernel
theorem dX6_copyFrom_39 : decode cX6_copyFrom 39 = .ok (.aload_n 1, 1) := by decide +kernel
theorem dX6_copyFrom_40 : decode cX6_copyFrom 40 = .ok (.getfield 32, 3) := by decide +kernel
theorem dX6_copyFrom_43 : decode cX6_copyFrom 43 = .ok (.putfield 32, 3) := by decide +kernel
theorem dX6_copyFrom_46 : decode cX6_copyFrom 46 = .ok (.aload_n 0, 1) := by decide +kernel
theorem dX6_copyFrom_47 : decode cX6_copyFrom 47 = .ok (.aload_n 1, 1) := by decide +kernel
theorem dX6_copyFrom_48 : decode cX6_copyFrom 48 = .ok (.getfield 35, 3) := by decide +kernel
theorem dX6_copyFrom_51 : decode cX6_copyFrom 51 = .ok (.putfield 35, 3) := by decide +kernel
theorem dX6_copyFrom_54 : decode cX6_copyFrom 54 = .ok (.aload_n 0, 1) := by decide +kernel
theorem dX6_copyFrom_55 : decode cX6_copyFrom 55 = .ok (.aload_n 1, 1) := by decide +kernel
theorem dX6_copyFrom_56 : decode cX6_copyFrom 56 = .ok (.getfield 38, 3) := by decide +kernel
theorem dX6_copyFrom_59 : decode cX6_copyFrom 59 = .ok (.putfield 38, 3) := by decide +kernel
theorem dX6_copyFrom_62 : decode cX6_copyFrom 62 = .ok (.aload_n 0, 1) := by decide +kernel
theorem dX6_copyFrom_63 : decode cX6_copyFrom 63 = .ok (.iconst (-1), 1) := by decide +kernel
theorem dX6_copyFrom_64 : decode cX6_copyFrom 64 = .ok (.putfield 51, 3) := by decide +kernel
theorem dX6_copyFrom_67 : decode cX6_copyFrom 67 = .ok (.aload_n 1, 1) := by decide +kernel
theorem dX6_copyFrom_68 : decode cX6_copyFrom 68 = .ok (.getfield 41, 3) := by decide +kernel
theorem dX6_copyFrom_71 : decode cX6_copyFrom 71 = .ok (.iconst 0, 1) := by decide +kernel
theorem dX6_copyFrom_72 : decode cX6_copyFrom 72 = .ok (.aload_n 0, 1) := by decide +kernel
theorem dX6_copyFrom_73 : decode cX6_copyFrom 73 = .ok (.getfield 41, 3) := by decide +kernel
theorem dX6_copyFrom_76 : decode cX6_copyFrom 76 = .ok (.iconst 0, 1) := by decide +kernel
theorem dX6_copyFrom_77 : decode cX6_copyFrom 77 = .ok (.bipush 12, 2) := by decide +kernel
theorem dX6_copyFrom_79 : decode cX6_copyFrom 79 = .ok (.invokestatic 71, 3) := by decide +kernel
theorem dX6_copyFrom_82 : decode cX6_copyFrom 82 = .ok (.aload_n 1, 1) := by decide +kernel
theorem dX6_copyFrom_83 : decode cX6_copyFrom 83 = .ok (.getfield 45, 3) := by decide +kernel
theorem dX6_copyFrom_86 : decode cX6_copyFrom 86 = .ok (.iconst 0, 1) := by decide +kernel
theorem dX6_copyFrom_87 : decode cX6_copyFrom 87 = .ok (.aload_n 0, 1) := by decide +kernel
theorem dX6_copyFrom_88 : decode cX6_copyFrom 88 = .ok (.getfield 45, 3) := by decide +kernel
theorem dX6_copyFrom_91 : decode cX6_copyFrom 91 = .ok (.iconst 0, 1) := by decide +kernel
theorem dX6_copyFrom_92 : decode cX6_copyFrom 92 = .ok (.bipush 12, 2) := by decide +kernel
theorem dX6_copyFrom_94 : decode cX6_copyFrom 94 = .ok (.invokestatic 71, 3) := by decide +kernel
theorem dX6_copyFrom_97 : decode cX6_copyFrom 97 = .ok (.aload_n 1, 1) := by decide +kernel
theorem dX6_copyFrom_98 : decode cX6_copyFrom 98 = .ok (.getfield 48, 3) := by decide +kernel
theorem dX6_copyFrom_101 : decode cX6_copyFrom 101 = .ok (.iconst 0, 1) := by decide +kernel
theorem dX6_copyFrom_102 : decode cX6_copyFrom 102 = .ok (.aload_n 0, 1) := by decide +kernel
theorem dX6_copyFrom_103 : decode cX6_copyFrom 103 = .ok (.getfield 48, 3) := by decide +kernel
theorem dX6_copyFrom_106 : decode cX6_copyFrom 106 = .ok (.iconst 0, 1) := by decide +kernel
theorem dX6_copyFrom_107 : decode cX6_copyFrom 107 = .ok (.bipush 12, 2) := by decide +kernel
theorem dX6_copyFrom_109 : decode cX6_copyFrom 109 = .ok (.invokestatic 71, 3) := by decide +kernel
theorem dX6_copyFrom_112 : decode cX6_copyFrom 112 = .ok (.return_, 1) := by decide +kernel
def wX6_copyFrom (f : Nat) (Φ : aj_M → Prop) (q0 : List Nat) (q1 : List Nat) (m : aj_M) : Prop := wX0_copyFrom f (fun m1 => wX4_copyFrom f (fun m2 => ∀ m3, m3 = aj_u m2 q0 2 (m2 q1 2) → ∀ m4, m4 = aj_u m3 q0 3 (m3 q1 3) → ∀ m5, m5 = aj_u m4 q0 4 (m4 q1 4) → ∀ m6, m6 = aj_u m5 q0 5 (m5 q1 5) → ∀ m7, m7 = aj_u m6 q0 6 (m6 q1 6) → ∀ m8, m8 = aj_u m7 q0 10 (-1) → ∀ m9, m9 = aj_cp m8 (7 :: q1) (0 : Int).toNat (7 :: q0) (0 : Int).toNat (12 : Int).toNat → ∀ m10, m10 = aj_cp m9 (8 :: q1) (0 : Int).toNat (8 :: q0) (0 : Int).toNat (12 : Int).toNat → ∀ m11, m11 = aj_cp m10 (9 :: q1) (0 : Int).toNat (9 :: q0) (0 : Int).toNat (12 : Int).toNat → Φ m11) (1 :: q0) (1 :: q1) m1) (0 :: q0) (0 :: q1) m
set_option maxHeartbeats 4000000 in
set_option maxRecDepth 100000 in
theorem sX6_copyFrom {n f : Nat} {Φ : aj_M → Prop} {q0 : List Nat} {q1 : List Nat} {m : aj_M} (hq0 : (.inl (6, q0) : aj_R) ∈ aj_pls) (hq1 : (.inl (6, q1) : aj_R) ∈ aj_pls) (h : wX6_copyFrom f Φ q0 q1 m) : aj_Ct (n + 2) yX6_copyFrom cX6_copyFrom 2 none [vO 6 q0, vO 6 q1] m (fun r m => r = none ∧ Φ m) := by
  refine aj_met (lv := [some (vO 6 q0), some (vO 6 q1)]) (by decide +kernel) rfl (Nat.le_of_ble_eq_true rfl) (fun X C K => ?_)
  unfold wX6_copyFrom at h
  refine aj_aload_n C dX6_copyFrom_0 rfl ?_
  refine aj_getO (x := 0) (y := 0) C flX6_12 hq0 rfl dX6_copyFrom_1 ?_
  refine aj_aload_n C dX6_copyFrom_4 rfl ?_
  refine aj_getO (x := 0) (y := 0) C flX6_12 hq1 rfl dX6_copyFrom_5 ?_
  refine aj_callV (rest := []) C mvX6_64 (sX0_copyFrom (aj_cf (x := 0) (y := 0) (j := 0) hq0 (by decide) rfl) (aj_cf (x := 0) (y := 0) (j := 0) hq1 (by decide) rfl) h) (aj_cf (x := 0) (y := 0) (j := 0) hq0 (by decide) rfl) (aj_np 1 (by decide +kernel) rfl) (Nat.le_of_ble_eq_true rfl) rfl dX6_copyFrom_8 (fun r m1 h => ?_)
  obtain ⟨rfl, h⟩ := h
  refine aj_aload_n C dX6_copyFrom_11 rfl ?_
  refine aj_getO (x := 4) (y := 0) C flX6_21 hq0 rfl dX6_copyFrom_12 ?_
  refine aj_aload_n C dX6_copyFrom_15 rfl ?_
  refine aj_getO (x := 4) (y := 0) C flX6_21 hq1 rfl dX6_copyFrom_16 ?_
  refine aj_callV (rest := []) C mvX6_68 (sX4_copyFrom (aj_cf (x := 4) (y := 0) (j := 1) hq0 (by decide) rfl) (aj_cf (x := 4) (y := 0) (j := 1) hq1 (by decide) rfl) h) (aj_cf (x := 4) (y := 0) (j := 1) hq0 (by decide) rfl) (aj_np 1 (by decide +kernel) rfl) (Nat.le_of_ble_eq_true rfl) rfl dX6_copyFrom_19 (fun r m2 h => ?_)
  obtain ⟨rfl, h⟩ := h
  refine aj_aload_n C dX6_copyFrom_22 rfl ?_
  refine aj_aload_n C dX6_copyFrom_23 rfl ?_
  refine aj_getI C flX6_25 hq1 (by decide) dX6_copyFrom_24 rfl ?_
  refine aj_putI C fpX6_25 hq0 rfl dX6_copyFrom_27 ?_
  refine aj_nm (fun m3 e1 => ?_)
  have h := h m3 e1
  refine aj_aload_n C dX6_copyFrom_30 rfl ?_
  refine aj_aload_n C dX6_copyFrom_31 rfl ?_
  refine aj_getI C flX6_29 hq1 (by decide) dX6_copyFrom_32 rfl ?_
  refine aj_putI C fpX6_29 hq0 rfl dX6_copyFrom_35 ?_
  refine aj_nm (fun m4 e1 => ?_)
  have h := h m4 e1
  refine aj_aload_n C dX6_copyFrom_38 rfl ?_
  refine aj_aload_n C dX6_copyFrom_39 rfl ?_
  refine aj_getI C flX6_32 hq1 (by decide) dX6_copyFrom_40 rfl ?_
  refine aj_putI C fpX6_32 hq0 rfl dX6_copyFrom_43 ?_
  refine aj_nm (fun m5 e1 => ?_)
  have h := h m5 e1
  refine aj_aload_n C dX6_copyFrom_46 rfl ?_
  refine aj_aload_n C dX6_copyFrom_47 rfl ?_
  refine aj_getI C flX6_35 hq1 (by decide) dX6_copyFrom_48 rfl ?_
  refine aj_putI C fpX6_35 hq0 rfl dX6_copyFrom_51 ?_
  refine aj_nm (fun m6 e1 => ?_)
  have h := h m6 e1
  refine aj_aload_n C dX6_copyFrom_54 rfl ?_
  refine aj_aload_n C dX6_copyFrom_55 rfl ?_
  refine aj_getI C flX6_38 hq1 (by decide) dX6_copyFrom_56 rfl ?_
  refine aj_putI C fpX6_38 hq0 rfl dX6_copyFrom_59 ?_
  refine aj_nm (fun m7 e1 => ?_)
  have h := h m7 e1
  refine aj_aload_n C dX6_copyFrom_62 rfl ?_
  refine aj_iconst C dX6_copyFrom_63 ?_
  refine aj_putI C fpX6_51 hq0 rfl dX6_copyFrom_64 ?_
  refine aj_nm (fun m8 e1 => ?_)
  have h := h m8 e1
  refine aj_aload_n C dX6_copyFrom_67 rfl ?_
  refine aj_getA (x := 0) (y := 12) C flX6_41 hq1 rfl dX6_copyFrom_68 ?_
  refine aj_iconst C dX6_copyFrom_71 ?_
  refine aj_aload_n C dX6_copyFrom_72 rfl ?_
  refine aj_getA (x := 0) (y := 12) C flX6_41 hq0 rfl dX6_copyFrom_73 ?_
  refine aj_iconst C dX6_copyFrom_76 ?_
  refine aj_bipush C dX6_copyFrom_77 (by decide) ?_
  refine aj_copy C mnX6_71 (aj_ca (e := 0) (n := 12) (j := 7) hq1 (by decide) rfl) (aj_ca (e := 0) (n := 12) (j := 7) hq0 (by decide) rfl) (by decide) (by decide) (by decide) (Nat.le_of_ble_eq_true rfl) dX6_copyFrom_79 ?_
  refine aj_nm (fun m9 e1 => ?_)
  have h := h m9 e1
  refine aj_aload_n C dX6_copyFrom_82 rfl ?_
  refine aj_getA (x := 0) (y := 12) C flX6_45 hq1 rfl dX6_copyFrom_83 ?_
  refine aj_iconst C dX6_copyFrom_86 ?_
  refine aj_aload_n C dX6_copyFrom_87 rfl ?_
  refine aj_getA (x := 0) (y := 12) C flX6_45 hq0 rfl dX6_copyFrom_88 ?_
  refine aj_iconst C dX6_copyFrom_91 ?_
  refine aj_bipush C dX6_copyFrom_92 (by decide) ?_
  refine aj_copy C mnX6_71 (aj_ca (e := 0) (n := 12) (j := 8) hq1 (by decide) rfl) (aj_ca (e := 0) (n := 12) (j := 8) hq0 (by decide) rfl) (by decide) (by decide) (by decide) (Nat.le_of_ble_eq_true rfl) dX6_copyFrom_94 ?_
  refine aj_nm (fun m10 e1 => ?_)
  have h := h m10 e1
  refine aj_aload_n C dX6_copyFrom_97 rfl ?_
  refine aj_getA (x := 0) (y := 12) C flX6_48 hq1 rfl dX6_copyFrom_98 ?_
  refine aj_iconst C dX6_copyFrom_101 ?_
  refine aj_aload_n C dX6_copyFrom_102 rfl ?_
  refine aj_getA (x := 0) (y := 12) C flX6_48 hq0 rfl dX6_copyFrom_103 ?_
  refine aj_iconst C dX6_copyFrom_106 ?_
  refine aj_bipush C dX6_copyFrom_107 (by decide) ?_
  refine aj_copy C mnX6_71 (aj_ca (e := 0) (n := 12) (j := 9) hq1 (by decide) rfl) (aj_ca (e := 0) (n := 12) (j := 9) hq0 (by decide) rfl) (by decide) (by decide) (by decide) (Nat.le_of_ble_eq_true rfl) dX6_copyFrom_109 ?_
  refine aj_nm (fun m11 e1 => ?_)
  have h := h m11 e1
  exact aj_vret C K dX6_copyFrom_112 ⟨rfl, h⟩
theorem dX3_take_0 : decode cX3_take 0 = .ok (.aload_n 0, 1) := by decide +kernel
theorem dX3_take_1 : decode cX3_take 1 = .ok (.getfield 10, 3) := by decide +kernel
theorem dX3_take_4 : decode cX3_take 4 = .ok (.aload_n 1, 1) := by decide +kernel
theorem dX3_take_5 : decode cX3_take 5 = .ok (.invokevirtual 27, 3) := by decide +kernel
theorem dX3_take_8 : decode cX3_take 8 = .ok (.aload_n 0, 1) := by decide +kernel
theorem dX3_take_9 : decode cX3_take 9 = .ok (.getfield 19, 3) := by decide +kernel
theorem dX3_take_12 : decode cX3_take 12 = .ok (.aload_n 2, 1) := by decide +kernel
theorem dX3_take_13 : decode cX3_take 13 = .ok (.invokevirtual 31, 3) := by decide +kernel
theorem dX3_take_16 : decode cX3_take 16 = .ok (.aload_n 0, 1) := by decide +kernel
theorem dX3_take_17 : decode cX3_take 17 = .ok (.iconst 1, 1) := by decide +kernel
theorem dX3_take_18 : decode cX3_take 18 = .ok (.putfield 23, 3) := by decide +kernel
theorem dX3_take_21 : decode cX3_take 21 = .ok (.return_, 1) := by decide +kernel
def wX3_take (f : Nat) (Φ : aj_M → Prop) (q0 : List Nat) (q1 : List Nat) (q2 : List Nat) (m : aj_M) : Prop := wX6_copyFrom f (fun m1 => wX9_copyFrom f (fun m2 => ∀ m3, m3 = aj_u m2 q0 2 1 → Φ m3) (1 :: q0) q2 m1) (0 :: q0) q1 m
set_option maxHeartbeats 4000000 in
set_option maxRecDepth 100000 in
theorem sX3_take {n f : Nat} {Φ : aj_M → Prop} {q0 : List Nat} {q1 : List Nat} {q2 : List Nat} {m : aj_M} (hq0 : (.inl (3, q0) : aj_R) ∈ aj_pls) (hq1 : (.inl (6, q1) : aj_R) ∈ aj_pls) (hq2 : (.inl (9, q2) : aj_R) ∈ aj_pls) (h : wX3_take f Φ q0 q1 q2 m) : aj_Ct (n + 3) yX3_take cX3_take 3 none [vO 3 q0, vO 6 q1, vO 9 q2] m (fun r m => r = none ∧ Φ m) := by
  refine aj_met (lv := [some (vO 3 q0), some (vO 6 q1), some (vO 9 q2)]) (by decide +kernel) rfl (Nat.le_of_ble_eq_true rfl) (fun X C K => ?_)
  unfold wX3_take at h
  refine aj_aload_n C dX3_take_0 rfl ?_
  refine aj_getO (x := 6) (y := 0) C flX3_10 hq0 rfl dX3_take_1 ?_
  refine aj_aload_n C dX3_take_4 rfl ?_
  refine aj_callV (rest := []) C mvX3_27 (sX6_copyFrom (aj_cf (x := 6) (y := 0) (j := 0) hq0 (by decide) rfl) hq1 h) (aj_cf (x := 6) (y := 0) (j := 0) hq0 (by decide) rfl) (aj_np 1 (by decide +kernel) rfl) (Nat.le_of_ble_eq_true rfl) rfl dX3_take_5 (fun r m1 h => ?_)
  obtain ⟨rfl, h⟩ := h
  refine aj_aload_n C dX3_take_8 rfl ?_
  refine aj_getO (x := 9) (y := 0) C flX3_19 hq0 rfl dX3_take_9 ?_
  refine aj_aload_n C dX3_take_12 rfl ?_
  refine aj_callV (rest := []) C mvX3_31 (sX9_copyFrom (aj_cf (x := 9) (y := 0) (j := 1) hq0 (by decide) rfl) hq2 h) (aj_cf (x := 9) (y := 0) (j := 1) hq0 (by decide) rfl) (aj_np 1 (by decide +kernel) rfl) (Nat.le_of_ble_eq_true rfl) rfl dX3_take_13 (fun r m2 h => ?_)
  obtain ⟨rfl, h⟩ := h
  refine aj_aload_n C dX3_take_16 rfl ?_
  refine aj_iconst C dX3_take_17 ?_
  refine aj_putZ C fpX3_23 hq0 (Or.inr rfl) rfl dX3_take_18 ?_
  refine aj_nm (fun m3 e1 => ?_)
  have h := h m3 e1
  exact aj_vret C K dX3_take_21 ⟨rfl, h⟩
theorem dX3_giveBack_0 : decode cX3_giveBack 0 = .ok (.aload_n 1, 1) := by decide +kernel
theorem dX3_giveBack_1 : decode cX3_giveBack 1 = .ok (.aload_n 0, 1) := by decide +kernel
theorem dX3_giveBack_2 : decode cX3_giveBack 2 = .ok (.getfield 10, 3) := by decide +kernel
theorem dX3_giveBack_5 : decode cX3_giveBack 5 = .ok (.invokevirtual 27, 3) := by decide +kernel
theorem dX3_giveBack_8 : decode cX3_giveBack 8 = .ok (.aload_n 2, 1) := by decide +kernel
theorem dX3_giveBack_9 : decode cX3_giveBack 9 = .ok (.aload_n 0, 1) := by decide +kernel
theorem dX3_giveBack_10 : decode cX3_giveBack 10 = .ok (.getfield 19, 3) := by decide +kernel
theorem dX3_giveBack_13 : decode cX3_giveBack 13 = .ok (.invokevirtual 31, 3) := by decide +kernel
theorem dX3_giveBack_16 : decode cX3_giveBack 16 = .ok (.return_, 1) := by decide +kernel
def wX3_giveBack (f : Nat) (Φ : aj_M → Prop) (q0 : List Nat) (q1 : List Nat) (q2 : List Nat) (m : aj_M) : Prop := wX6_copyFrom f (fun m1 => wX9_copyFrom f (fun m2 => Φ m2) q2 (1 :: q0) m1) q1 (0 :: q0) m
set_option maxHeartbeats 4000000 in
set_option maxRecDepth 100000 in
theorem sX3_giveBack {n f : Nat} {Φ : aj_M → Prop} {q0 : List Nat} {q1 : List Nat} {q2 : List Nat} {m : aj_M} (hq0 : (.inl (3, q0) : aj_R) ∈ aj_pls) (hq1 : (.inl (6, q1) : aj_R) ∈ aj_pls) (hq2 : (.inl (9, q2) : aj_R) ∈ aj_pls) (h : wX3_giveBack f Φ q0 q1 q2 m) : aj_Ct (n + 3) yX3_giveBack cX3_giveBack 3 none [vO 3 q0, vO 6 q1, vO 9 q2] m (fun r m => r = none ∧ Φ m) := by
  refine aj_met (lv := [some (vO 3 q0), some (vO 6 q1), some (vO 9 q2)]) (by decide +kernel) rfl (Nat.le_of_ble_eq_true rfl) (fun X C K => ?_)
  unfold wX3_giveBack at h
  refine aj_aload_n C dX3_giveBack_0 rfl ?_
  refine aj_aload_n C dX3_giveBack_1 rfl ?_
  refine aj_getO (x := 6) (y := 0) C flX3_10 hq0 rfl dX3_giveBack_2 ?_
  refine aj_callV (rest := []) C mvX3_27 (sX6_copyFrom hq1 (aj_cf (x := 6) (y := 0) (j := 0) hq0 (by decide) rfl) h) hq1 (aj_np 1 (by decide +kernel) rfl) (Nat.le_of_ble_eq_true rfl) rfl dX3_giveBack_5 (fun r m1 h => ?_)
  obtain ⟨rfl, h⟩ := h
  refine aj_aload_n C dX3_giveBack_8 rfl ?_
  refine aj_aload_n C dX3_giveBack_9 rfl ?_
  refine aj_getO (x := 9) (y := 0) C flX3_19 hq0 rfl dX3_giveBack_10 ?_
  refine aj_callV (rest := []) C mvX3_31 (sX9_copyFrom hq2 (aj_cf (x := 9) (y := 0) (j := 1) hq0 (by decide) rfl) h) hq2 (aj_np 1 (by decide +kernel) rfl) (Nat.le_of_ble_eq_true rfl) rfl dX3_giveBack_13 (fun r m2 h => ?_)
  obtain ⟨rfl, h⟩ := h
  exact aj_vret C K dX3_giveBack_16 ⟨rfl, h⟩
theorem dX4_clear_0 : decode cX4_clear 0 = .ok (.aload_n 0, 1) := by decide +kernel
theorem dX4_clear_1 : decode cX4_clear 1 = .ok (.iconst 0, 1) := by decide +kernel
theorem dX4_clear_2 : decode cX4_clear 2 = .ok (.putfield 15, 3) := by decide +kernel
theorem dX4_clear_5 : decode cX4_clear 5 = .ok (.aload_n 0, 1) := by decide +kernel
theorem dX4_clear_6 : decode cX4_clear 6 = .ok (.iconst 0, 1) := by decide +kernel
theorem dX4_clear_7 : decode cX4_clear 7 = .ok (.putfield 19, 3) := by decide +kernel
theorem dX4_clear_10 : decode cX4_clear 10 = .ok (.aload_n 0, 1) := by decide +kernel
theorem dX4_clear_11 : decode cX4_clear 11 = .ok (.iconst 0, 1) := by decide +kernel
theorem dX4_clear_12 : decode cX4_clear 12 = .ok (.putfield 22, 3) := by decide +kernel
theorem dX4_clear_15 : decode cX4_clear 15 = .ok (.aload_n 0, 1) := by decide +kernel
theorem dX4_clear_16 : decode cX4_clear 16 = .ok (.iconst 0, 1) := by decide +kernel
theorem dX4_clear_17 : decode cX4_clear 17 = .ok (.putfield 25, 3) := by decide +kernel
theorem dX4_clear_20 : decode cX4_clear 20 = .ok (.aload_n 0, 1) := by decide +kernel
theorem dX4_clear_21 : decode cX4_clear 21 = .ok (.iconst 0, 1) := by decide +kernel
theorem dX4_clear_22 : decode cX4_clear 22 = .ok (.putfield 28, 3) := by decide +kernel
theorem dX4_clear_25 : decode cX4_clear 25 = .ok (.return_, 1) := by decide +kernel
def wX4_clear (f : Nat) (Φ : aj_M → Prop) (q0 : List Nat) (m : aj_M) : Prop := ∀ m1, m1 = aj_u m q0 1 0 → ∀ m2, m2 = aj_u m1 q0 2 0 → ∀ m3, m3 = aj_u m2 q0 3 0 → ∀ m4, m4 = aj_u m3 q0 4 0 → ∀ m5, m5 = aj_u m4 q0 5 0 → Φ m5
set_option maxHeartbeats 4000000 in
set_option maxRecDepth 100000 in
theorem sX4_clear {n f : Nat} {Φ : aj_M → Prop} {q0 : List Nat} {m : aj_M} (hq0 : (.inl (4, q0) : aj_R) ∈ aj_pls) (h : wX4_clear f Φ q0 m) : aj_Ct n yX4_clear cX4_clear 1 none [vO 4 q0] m (fun r m => r = none ∧ Φ m) := by
  refine aj_met (lv := [some (vO 4 q0)]) (by decide +kernel) rfl (Nat.le_of_ble_eq_true rfl) (fun X C K => ?_)
  unfold wX4_clear at h
  refine aj_aload_n C dX4_clear_0 rfl ?_
  refine aj_iconst C dX4_clear_1 ?_
  refine aj_putI C fpX4_15 hq0 rfl dX4_clear_2 ?_
  refine aj_nm (fun m1 e1 => ?_)
  have h := h m1 e1
  refine aj_aload_n C dX4_clear_5 rfl ?_
  refine aj_iconst C dX4_clear_6 ?_
  refine aj_putI C fpX4_19 hq0 rfl dX4_clear_7 ?_
  refine aj_nm (fun m2 e1 => ?_)
  have h := h m2 e1
  refine aj_aload_n C dX4_clear_10 rfl ?_
  refine aj_iconst C dX4_clear_11 ?_
  refine aj_putI C fpX4_22 hq0 rfl dX4_clear_12 ?_
  refine aj_nm (fun m3 e1 => ?_)
  have h := h m3 e1
  refine aj_aload_n C dX4_clear_15 rfl ?_
  refine aj_iconst C dX4_clear_16 ?_
  refine aj_putI C fpX4_25 hq0 rfl dX4_clear_17 ?_
  refine aj_nm (fun m4 e1 => ?_)
  have h := h m4 e1
  refine aj_aload_n C dX4_clear_20 rfl ?_
  refine aj_iconst C dX4_clear_21 ?_
  refine aj_putI C fpX4_28 hq0 rfl dX4_clear_22 ?_
  refine aj_nm (fun m5 e1 => ?_)
  have h := h m5 e1
  exact aj_vret C K dX4_clear_25 ⟨rfl, h⟩
theorem dX4_add_0 : decode cX4_add 0 = .ok (.aload_n 0, 1) := by decide +kernel
theorem dX4_add_1 : decode cX4_add 1 = .ok (.getfield 15, 3) := by decide +kernel
theorem dX4_add_4 : decode cX4_add 4 = .ok (.aload_n 0, 1) := by decide +kernel
theorem dX4_add_5 : decode cX4_add 5 = .ok (.getfield 9, 3) := by decide +kernel
theorem dX4_add_8 : decode cX4_add 8 = .ok (.arraylength, 1) := by decide +kernel
theorem dX4_add_9 : decode cX4_add 9 = .ok (.if_icmp .ge 28, 3) := by decide +kernel
theorem dX4_add_12 : decode cX4_add 12 = .ok (.aload_n 0, 1) := by decide +kernel
theorem dX4_add_13 : decode cX4_add 13 = .ok (.getfield 9, 3) := by decide +kernel
theorem dX4_add_16 : decode cX4_add 16 = .ok (.aload_n 0, 1) := by decide +kernel
theorem dX4_add_17 : decode cX4_add 17 = .ok (.getfield 15, 3) := by decide +kernel
theorem dX4_add_20 : decode cX4_add 20 = .ok (.iload_n 2, 1) := by decide +kernel
theorem dX4_add_21 : decode cX4_add 21 = .ok (.bipush 16, 2) := by decide +kernel
theorem dX4_add_23 : decode cX4_add 23 = .ok (.imul, 1) := by decide +kernel
theorem dX4_add_24 : decode cX4_add 24 = .ok (.iload_n 1, 1) := by decide +kernel
theorem dX4_add_25 : decode cX4_add 25 = .ok (.iadd, 1) := by decide +kernel
theorem dX4_add_26 : decode cX4_add 26 = .ok (.iastore, 1) := by decide +kernel
theorem dX4_add_27 : decode cX4_add 27 = .ok (.aload_n 0, 1) := by decide +kernel
theorem dX4_add_28 : decode cX4_add 28 = .ok (.dup, 1) := by decide +kernel
theorem dX4_add_29 : decode cX4_add 29 = .ok (.getfield 15, 3) := by decide +kernel
theorem dX4_add_32 : decode cX4_add 32 = .ok (.iconst 1, 1) := by decide +kernel
theorem dX4_add_33 : decode cX4_add 33 = .ok (.iadd, 1) := by decide +kernel
theorem dX4_add_34 : decode cX4_add 34 = .ok (.putfield 15, 3) := by decide +kernel
theorem dX4_add_37 : decode cX4_add 37 = .ok (.return_, 1) := by decide +kernel
def wX4_add (f : Nat) (Φ : aj_M → Prop) (q0 : List Nat) (v1 : Int) (v2 : Int) (m : aj_M) : Prop := rI (m q0 1) ∧ (900 ≤ (m q0 1) → Φ m) ∧ (¬ (900 ≤ (m q0 1)) → (0 ≤ (m q0 1) ∧ (m q0 1) < 900) ∧ ∀ m1, m1 = aj_u m (0 :: q0) (m q0 1).toNat ((v2 * 16) + v1) → ∀ m2, m2 = aj_u m1 q0 1 ((m1 q0 1) + 1) → Φ m2)
set_option maxHeartbeats 4000000 in
set_option maxRecDepth 100000 in
theorem sX4_add {n f : Nat} {Φ : aj_M → Prop} {q0 : List Nat} {v1 : Int} {v2 : Int} {m : aj_M} (hq0 : (.inl (4, q0) : aj_R) ∈ aj_pls) (h : wX4_add f Φ q0 v1 v2 m) : aj_Ct n yX4_add cX4_add 3 none [vO 4 q0, vI v1, vI v2] m (fun r m => r = none ∧ Φ m) := by
  refine aj_met (lv := [some (vO 4 q0), some (vI v1), some (vI v2)]) (by decide +kernel) rfl (Nat.le_of_ble_eq_true rfl) (fun X C K => ?_)
  unfold wX4_add at h
  refine aj_aload_n C dX4_add_0 rfl ?_
  refine aj_getI C flX4_15 hq0 (by decide) dX4_add_1 rfl ?_
  refine aj_aload_n C dX4_add_4 rfl ?_
  refine aj_getA (x := 0) (y := 900) C flX4_9 hq0 rfl dX4_add_5 ?_
  refine aj_alen C (aj_ca (e := 0) (n := 900) (j := 0) hq0 (by decide) rfl) (fun _ => rfl) dX4_add_8 ?_
  obtain ⟨r0, h1, h2⟩ := h
  refine aj_icmp_ge (tgt := 37) C dX4_add_9 (by decide) r0 (by decide) (fun e => ?_) (fun e => ?_)
  · have h := h1 e
    exact aj_vret C K dX4_add_37 ⟨rfl, h⟩
  · have h := h2 e
    refine aj_aload_n C dX4_add_12 rfl ?_
    refine aj_getA (x := 0) (y := 900) C flX4_9 hq0 rfl dX4_add_13 ?_
    refine aj_aload_n C dX4_add_16 rfl ?_
    refine aj_getI C flX4_15 hq0 (by decide) dX4_add_17 rfl ?_
    refine aj_iload_n C dX4_add_20 rfl ?_
    refine aj_bipush C dX4_add_21 (by decide) ?_
    refine aj_imul C dX4_add_23 ?_
    refine aj_iload_n C dX4_add_24 rfl ?_
    refine aj_iadd C dX4_add_25 ?_
    obtain ⟨r0, h⟩ := h
    refine aj_iast C (aj_ca (e := 0) (n := 900) (j := 0) hq0 (by decide) rfl) (by decide) r0 dX4_add_26 ?_
    refine aj_nm (fun m1 e1 => ?_)
    have h := h m1 e1
    refine aj_aload_n C dX4_add_27 rfl ?_
    refine aj_dup C aj_nR dX4_add_28 ?_
    refine aj_getI C flX4_15 hq0 (by decide) dX4_add_29 rfl ?_
    refine aj_iconst C dX4_add_32 ?_
    refine aj_iadd C dX4_add_33 ?_
    refine aj_putI C fpX4_15 hq0 rfl dX4_add_34 ?_
    refine aj_nm (fun m2 e1 => ?_)
    have h := h m2 e1
    exact aj_vret C K dX4_add_37 ⟨rfl, h⟩
theorem dX4_atom_0 : decode cX4_atom 0 = .ok (.iload_n 0, 1) := by decide +kernel
theorem dX4_atom_1 : decode cX4_atom 1 = .ok (.tableswitch 57 1 5 #[35, 37, 44, 51, 54], 35) := by decide +kernel
theorem dX4_atom_36 : decode cX4_atom 36 = .ok (.iload_n 3, 1) := by decide +kernel
theorem dX4_atom_37 : decode cX4_atom 37 = .ok (.ireturn, 1) := by decide +kernel
theorem dX4_atom_38 : decode cX4_atom 38 = .ok (.aload_n 2, 1) := by decide +kernel
theorem dX4_atom_39 : decode cX4_atom 39 = .ok (.getfield 61, 3) := by decide +kernel
theorem dX4_atom_42 : decode cX4_atom 42 = .ok (.iload_n 3, 1) := by decide +kernel
theorem dX4_atom_43 : decode cX4_atom 43 = .ok (.iaload, 1) := by decide +kernel
theorem dX4_atom_44 : decode cX4_atom 44 = .ok (.ireturn, 1) := by decide +kernel
theorem dX4_atom_45 : decode cX4_atom 45 = .ok (.aload_n 2, 1) := by decide +kernel
theorem dX4_atom_46 : decode cX4_atom 46 = .ok (.getfield 66, 3) := by decide +kernel
theorem dX4_atom_49 : decode cX4_atom 49 = .ok (.iload_n 3, 1) := by decide +kernel
theorem dX4_atom_50 : decode cX4_atom 50 = .ok (.iaload, 1) := by decide +kernel
theorem dX4_atom_51 : decode cX4_atom 51 = .ok (.ireturn, 1) := by decide +kernel
theorem dX4_atom_52 : decode cX4_atom 52 = .ok (.iload 4, 2) := by decide +kernel
theorem dX4_atom_54 : decode cX4_atom 54 = .ok (.ireturn, 1) := by decide +kernel
theorem dX4_atom_55 : decode cX4_atom 55 = .ok (.iload 5, 2) := by decide +kernel
theorem dX4_atom_57 : decode cX4_atom 57 = .ok (.ireturn, 1) := by decide +kernel
theorem dX4_atom_58 : decode cX4_atom 58 = .ok (.iload_n 1, 1) := by decide +kernel
theorem dX4_atom_59 : decode cX4_atom 59 = .ok (.ireturn, 1) := by decide +kernel
def wX4_atom (f : Nat) (Φ : Int → aj_M → Prop) (v0 : Int) (v1 : Int) (q2 : List Nat) (v3 : Int) (v4 : Int) (v5 : Int) (m : aj_M) : Prop := rI v0 ∧ (v0 < 1 ∨ 5 < v0 → Φ v1 m) ∧ (v0 = 1 → Φ v3 m) ∧ (v0 = 2 → (0 ≤ v3 ∧ v3 < 12) ∧ Φ (m (7 :: q2) v3.toNat) m) ∧ (v0 = 3 → (0 ≤ v3 ∧ v3 < 12) ∧ Φ (m (8 :: q2) v3.toNat) m) ∧ (v0 = 4 → Φ v4 m) ∧ (v0 = 5 → Φ v5 m)
set_option maxHeartbeats 4000000 in
set_option maxRecDepth 100000 in
theorem sX4_atom {n f : Nat} {Φ : Int → aj_M → Prop} {v0 : Int} {v1 : Int} {q2 : List Nat} {v3 : Int} {v4 : Int} {v5 : Int} {m : aj_M} (hq2 : (.inl (6, q2) : aj_R) ∈ aj_pls) (h : wX4_atom f Φ v0 v1 q2 v3 v4 v5 m) : aj_Ct n yX4_atom cX4_atom 6 (some .int) [vI v0, vI v1, vO 6 q2, vI v3, vI v4, vI v5] m (fun r m => ∃ z, r = some (vI z) ∧ Φ z m) := by
  refine aj_met (lv := [some (vI v0), some (vI v1), some (vO 6 q2), some (vI v3), some (vI v4), some (vI v5)]) (by decide +kernel) rfl (Nat.le_of_ble_eq_true rfl) (fun X C K => ?_)
  unfold wX4_atom at h
  refine aj_iload_n C dX4_atom_0 rfl ?_
  obtain ⟨r0, hd, hc0, hc1, hc2, hc3, hc4⟩ := h
  rcases (by omega : (v0 < 1 ∨ 5 < v0) ∨ v0 = 1 ∨ v0 = 2 ∨ v0 = 3 ∨ v0 = 4 ∨ v0 = 5) with e | e | e | e | e | e
  · have h := hd e
    refine aj_tout (tgt := 58) C dX4_atom_1 r0 e (by decide) ?_
    refine aj_iload_n C dX4_atom_58 rfl ?_
    exact aj_iret C K dX4_atom_59 ⟨_, rfl, h⟩
  · have h := hc0 e
    refine aj_tin (tgt := 36) (off := 35) C dX4_atom_1 r0 (by omega) (by omega) (by rw [e]; rfl) (by decide) ?_
    refine aj_iload_n C dX4_atom_36 rfl ?_
    exact aj_iret C K dX4_atom_37 ⟨_, rfl, h⟩
  · have h := hc1 e
    refine aj_tin (tgt := 38) (off := 37) C dX4_atom_1 r0 (by omega) (by omega) (by rw [e]; rfl) (by decide) ?_
    refine aj_aload_n C dX4_atom_38 rfl ?_
    refine aj_getA (x := 0) (y := 12) C flX4_61 hq2 rfl dX4_atom_39 ?_
    refine aj_iload_n C dX4_atom_42 rfl ?_
    obtain ⟨r0, h⟩ := h
    refine aj_iald C (aj_ca (e := 0) (n := 12) (j := 7) hq2 (by decide) rfl) (by decide) r0 dX4_atom_43 rfl ?_
    exact aj_iret C K dX4_atom_44 ⟨_, rfl, h⟩
  · have h := hc2 e
    refine aj_tin (tgt := 45) (off := 44) C dX4_atom_1 r0 (by omega) (by omega) (by rw [e]; rfl) (by decide) ?_
    refine aj_aload_n C dX4_atom_45 rfl ?_
    refine aj_getA (x := 0) (y := 12) C flX4_66 hq2 rfl dX4_atom_46 ?_
    refine aj_iload_n C dX4_atom_49 rfl ?_
    obtain ⟨r0, h⟩ := h
    refine aj_iald C (aj_ca (e := 0) (n := 12) (j := 8) hq2 (by decide) rfl) (by decide) r0 dX4_atom_50 rfl ?_
    exact aj_iret C K dX4_atom_51 ⟨_, rfl, h⟩
  · have h := hc3 e
    refine aj_tin (tgt := 52) (off := 51) C dX4_atom_1 r0 (by omega) (by omega) (by rw [e]; rfl) (by decide) ?_
    refine aj_iload C dX4_atom_52 rfl ?_
    exact aj_iret C K dX4_atom_54 ⟨_, rfl, h⟩
  · have h := hc4 e
    refine aj_tin (tgt := 55) (off := 54) C dX4_atom_1 r0 (by omega) (by omega) (by rw [e]; rfl) (by decide) ?_
    refine aj_iload C dX4_atom_55 rfl ?_
    exact aj_iret C K dX4_atom_57 ⟨_, rfl, h⟩
theorem dX4_joined_0 : decode cX4_joined 0 = .ok (.iload_n 0, 1) := by decide +kernel
theorem dX4_joined_1 : decode cX4_joined 1 = .ok (.tableswitch 101 6 13 #[47, 52, 57, 63, 74, 85, 101, 96], 47) := by decide +kernel
theorem dX4_joined_48 : decode cX4_joined 48 = .ok (.iload_n 1, 1) := by decide +kernel
theorem dX4_joined_49 : decode cX4_joined 49 = .ok (.iload_n 2, 1) := by decide +kernel
theorem dX4_joined_50 : decode cX4_joined 50 = .ok (.iadd, 1) := by decide +kernel
theorem dX4_joined_51 : decode cX4_joined 51 = .ok (.i2l, 1) := by decide +kernel
theorem dX4_joined_52 : decode cX4_joined 52 = .ok (.lreturn, 1) := by decide +kernel
theorem dX4_joined_53 : decode cX4_joined 53 = .ok (.iload_n 1, 1) := by decide +kernel
theorem dX4_joined_54 : decode cX4_joined 54 = .ok (.iload_n 2, 1) := by decide +kernel
theorem dX4_joined_55 : decode cX4_joined 55 = .ok (.isub, 1) := by decide +kernel
theorem dX4_joined_56 : decode cX4_joined 56 = .ok (.i2l, 1) := by decide +kernel
theorem dX4_joined_57 : decode cX4_joined 57 = .ok (.lreturn, 1) := by decide +kernel
theorem dX4_joined_58 : decode cX4_joined 58 = .ok (.iload_n 1, 1) := by decide +kernel
theorem dX4_joined_59 : decode cX4_joined 59 = .ok (.i2l, 1) := by decide +kernel
theorem dX4_joined_60 : decode cX4_joined 60 = .ok (.iload_n 2, 1) := by decide +kernel
theorem dX4_joined_61 : decode cX4_joined 61 = .ok (.i2l, 1) := by decide +kernel
theorem dX4_joined_62 : decode cX4_joined 62 = .ok (.lmul, 1) := by decide +kernel
theorem dX4_joined_63 : decode cX4_joined 63 = .ok (.lreturn, 1) := by decide +kernel
theorem dX4_joined_64 : decode cX4_joined 64 = .ok (.iload_n 1, 1) := by decide +kernel
theorem dX4_joined_65 : decode cX4_joined 65 = .ok (.iload_n 2, 1) := by decide +kernel
theorem dX4_joined_66 : decode cX4_joined 66 = .ok (.if_icmp .ne 7, 3) := by decide +kernel
theorem dX4_joined_69 : decode cX4_joined 69 = .ok (.lconst 1, 1) := by decide +kernel
theorem dX4_joined_70 : decode cX4_joined 70 = .ok (.goto 4, 3) := by decide +kernel
theorem dX4_joined_73 : decode cX4_joined 73 = .ok (.lconst 0, 1) := by decide +kernel
theorem dX4_joined_74 : decode cX4_joined 74 = .ok (.lreturn, 1) := by decide +kernel
theorem dX4_joined_75 : decode cX4_joined 75 = .ok (.iload_n 1, 1) := by decide +kernel
theorem dX4_joined_76 : decode cX4_joined 76 = .ok (.iload_n 2, 1) := by decide +kernel
theorem dX4_joined_77 : decode cX4_joined 77 = .ok (.if_icmp .ge 7, 3) := by decide +kernel
theorem dX4_joined_80 : decode cX4_joined 80 = .ok (.lconst 1, 1) := by decide +kernel
theorem dX4_joined_81 : decode cX4_joined 81 = .ok (.goto 4, 3) := by decide +kernel
theorem dX4_joined_84 : decode cX4_joined 84 = .ok (.lconst 0, 1) := by decide +kernel
theorem dX4_joined_85 : decode cX4_joined 85 = .ok (.lreturn, 1) := by decide +kernel
theorem dX4_joined_86 : decode cX4_joined 86 = .ok (.iload_n 1, 1) := by decide +kernel
theorem dX4_joined_87 : decode cX4_joined 87 = .ok (.iload_n 2, 1) := by decide +kernel
theorem dX4_joined_88 : decode cX4_joined 88 = .ok (.if_icmp .le 7, 3) := by decide +kernel
theorem dX4_joined_91 : decode cX4_joined 91 = .ok (.lconst 1, 1) := by decide +kernel
theorem dX4_joined_92 : decode cX4_joined 92 = .ok (.goto 4, 3) := by decide +kernel
theorem dX4_joined_95 : decode cX4_joined 95 = .ok (.lconst 0, 1) := by decide +kernel
theorem dX4_joined_96 : decode cX4_joined 96 = .ok (.lreturn, 1) := by decide +kernel
theorem dX4_joined_97 : decode cX4_joined 97 = .ok (.iload_n 1, 1) := by decide +kernel
theorem dX4_joined_98 : decode cX4_joined 98 = .ok (.iload_n 2, 1) := by decide +kernel
theorem dX4_joined_99 : decode cX4_joined 99 = .ok (.iand, 1) := by decide +kernel
theorem dX4_joined_100 : decode cX4_joined 100 = .ok (.i2l, 1) := by decide +kernel
theorem dX4_joined_101 : decode cX4_joined 101 = .ok (.lreturn, 1) := by decide +kernel
theorem dX4_joined_102 : decode cX4_joined 102 = .ok (.iload_n 1, 1) := by decide +kernel
theorem dX4_joined_103 : decode cX4_joined 103 = .ok (.iload_n 2, 1) := by decide +kernel
theorem dX4_joined_104 : decode cX4_joined 104 = .ok (.ior, 1) := by decide +kernel
theorem dX4_joined_105 : decode cX4_joined 105 = .ok (.i2l, 1) := by decide +kernel
theorem dX4_joined_106 : decode cX4_joined 106 = .ok (.lreturn, 1) := by decide +kernel
def wX4_joined (f : Nat) (Φ : Int → aj_M → Prop) (v0 : Int) (v1 : Int) (v2 : Int) (m : aj_M) : Prop := rI v0 ∧ (v0 < 6 ∨ 13 < v0 → rI (aj_or v1 v2) ∧ Φ (aj_or v1 v2) m) ∧ (v0 = 6 → rI (v1 + v2) ∧ Φ (v1 + v2) m) ∧ (v0 = 7 → rI (v1 - v2) ∧ Φ (v1 - v2) m) ∧ (v0 = 8 → rI v1 ∧ rI v2 ∧ Φ (v1 * v2) m) ∧ (v0 = 9 → rI v1 ∧ rI v2 ∧ (¬ v1 = v2 → Φ 0 m) ∧ (v1 = v2 → Φ 1 m)) ∧ (v0 = 10 → rI v1 ∧ rI v2 ∧ (v2 ≤ v1 → Φ 0 m) ∧ (¬ (v2 ≤ v1) → Φ 1 m)) ∧ (v0 = 11 → rI v1 ∧ rI v2 ∧ (v1 ≤ v2 → Φ 0 m) ∧ (¬ (v1 ≤ v2) → Φ 1 m)) ∧ (v0 = 12 → rI (aj_or v1 v2) ∧ Φ (aj_or v1 v2) m) ∧ (v0 = 13 → rI (aj_and v1 v2) ∧ Φ (aj_and v1 v2) m)
set_option maxHeartbeats 4000000 in
set_option maxRecDepth 100000 in
theorem sX4_joined {n f : Nat} {Φ : Int → aj_M → Prop} {v0 : Int} {v1 : Int} {v2 : Int} {m : aj_M}  (h : wX4_joined f Φ v0 v1 v2 m) : aj_Ct n yX4_joined cX4_joined 3 (some .long) [vI v0, vI v1, vI v2] m (fun r m => ∃ z, r = some (vL z) ∧ Φ z m) := by
  refine aj_met (lv := [some (vI v0), some (vI v1), some (vI v2)]) (by decide +kernel) rfl (Nat.le_of_ble_eq_true rfl) (fun X C K => ?_)
  unfold wX4_joined at h
  refine aj_iload_n C dX4_joined_0 rfl ?_
  obtain ⟨r0, hd, hc0, hc1, hc2, hc3, hc4, hc5, hc6, hc7⟩ := h
  rcases (by omega : (v0 < 6 ∨ 13 < v0) ∨ v0 = 6 ∨ v0 = 7 ∨ v0 = 8 ∨ v0 = 9 ∨ v0 = 10 ∨ v0 = 11 ∨ v0 = 12 ∨ v0 = 13) with e | e | e | e | e | e | e | e | e
  · have h := hd e
    refine aj_tout (tgt := 102) C dX4_joined_1 r0 e (by decide) ?_
    refine aj_iload_n C dX4_joined_102 rfl ?_
    refine aj_iload_n C dX4_joined_103 rfl ?_
    refine aj_ior C dX4_joined_104 ?_
    obtain ⟨r0, h⟩ := h
    refine aj_i2l C dX4_joined_105 r0 ?_
    exact aj_lret C K dX4_joined_106 ⟨_, rfl, h⟩
  · have h := hc0 e
    refine aj_tin (tgt := 48) (off := 47) C dX4_joined_1 r0 (by omega) (by omega) (by rw [e]; rfl) (by decide) ?_
    refine aj_iload_n C dX4_joined_48 rfl ?_
    refine aj_iload_n C dX4_joined_49 rfl ?_
    refine aj_iadd C dX4_joined_50 ?_
    obtain ⟨r0, h⟩ := h
    refine aj_i2l C dX4_joined_51 r0 ?_
    exact aj_lret C K dX4_joined_52 ⟨_, rfl, h⟩
  · have h := hc1 e
    refine aj_tin (tgt := 53) (off := 52) C dX4_joined_1 r0 (by omega) (by omega) (by rw [e]; rfl) (by decide) ?_
    refine aj_iload_n C dX4_joined_53 rfl ?_
    refine aj_iload_n C dX4_joined_54 rfl ?_
    refine aj_isub C dX4_joined_55 ?_
    obtain ⟨r0, h⟩ := h
    refine aj_i2l C dX4_joined_56 r0 ?_
    exact aj_lret C K dX4_joined_57 ⟨_, rfl, h⟩
  · have h := hc2 e
    refine aj_tin (tgt := 58) (off := 57) C dX4_joined_1 r0 (by omega) (by omega) (by rw [e]; rfl) (by decide) ?_
    refine aj_iload_n C dX4_joined_58 rfl ?_
    obtain ⟨r0, h⟩ := h
    refine aj_i2l C dX4_joined_59 r0 ?_
    refine aj_iload_n C dX4_joined_60 rfl ?_
    obtain ⟨r0, h⟩ := h
    refine aj_i2l C dX4_joined_61 r0 ?_
    refine aj_lmul C dX4_joined_62 ?_
    exact aj_lret C K dX4_joined_63 ⟨_, rfl, h⟩
  · have h := hc3 e
    refine aj_tin (tgt := 64) (off := 63) C dX4_joined_1 r0 (by omega) (by omega) (by rw [e]; rfl) (by decide) ?_
    refine aj_iload_n C dX4_joined_64 rfl ?_
    refine aj_iload_n C dX4_joined_65 rfl ?_
    obtain ⟨r0, r1, h1, h2⟩ := h
    refine aj_icmp_ne (tgt := 73) C dX4_joined_66 (by decide) r0 r1 (fun e => ?_) (fun e => ?_)
    · have h := h1 e
      refine aj_lconst (z := 0) C dX4_joined_73 rfl ?_
      exact aj_lret C K dX4_joined_74 ⟨_, rfl, h⟩
    · have h := h2 e
      refine aj_lconst (z := 1) C dX4_joined_69 rfl ?_
      refine aj_goto (tgt := 74) C dX4_joined_70 (by decide) ?_
      exact aj_lret C K dX4_joined_74 ⟨_, rfl, h⟩
  · have h := hc4 e
    refine aj_tin (tgt := 75) (off := 74) C dX4_joined_1 r0 (by omega) (by omega) (by rw [e]; rfl) (by decide) ?_
    refine aj_iload_n C dX4_joined_75 rfl ?_
    refine aj_iload_n C dX4_joined_76 rfl ?_
    obtain ⟨r0, r1, h1, h2⟩ := h
    refine aj_icmp_ge (tgt := 84) C dX4_joined_77 (by decide) r0 r1 (fun e => ?_) (fun e => ?_)
    · have h := h1 e
      refine aj_lconst (z := 0) C dX4_joined_84 rfl ?_
      exact aj_lret C K dX4_joined_85 ⟨_, rfl, h⟩
    · have h := h2 e
      refine aj_lconst (z := 1) C dX4_joined_80 rfl ?_
      refine aj_goto (tgt := 85) C dX4_joined_81 (by decide) ?_
      exact aj_lret C K dX4_joined_85 ⟨_, rfl, h⟩
  · have h := hc5 e
    refine aj_tin (tgt := 86) (off := 85) C dX4_joined_1 r0 (by omega) (by omega) (by rw [e]; rfl) (by decide) ?_
    refine aj_iload_n C dX4_joined_86 rfl ?_
    refine aj_iload_n C dX4_joined_87 rfl ?_
    obtain ⟨r0, r1, h1, h2⟩ := h
    refine aj_icmp_le (tgt := 95) C dX4_joined_88 (by decide) r0 r1 (fun e => ?_) (fun e => ?_)
    · have h := h1 e
      refine aj_lconst (z := 0) C dX4_joined_95 rfl ?_
      exact aj_lret C K dX4_joined_96 ⟨_, rfl, h⟩
    · have h := h2 e
      refine aj_lconst (z := 1) C dX4_joined_91 rfl ?_
      refine aj_goto (tgt := 96) C dX4_joined_92 (by decide) ?_
      exact aj_lret C K dX4_joined_96 ⟨_, rfl, h⟩
  · have h := hc6 e
    refine aj_tin (tgt := 102) (off := 101) C dX4_joined_1 r0 (by omega) (by omega) (by rw [e]; rfl) (by decide) ?_
    refine aj_iload_n C dX4_joined_102 rfl ?_
    refine aj_iload_n C dX4_joined_103 rfl ?_
    refine aj_ior C dX4_joined_104 ?_
    obtain ⟨r0, h⟩ := h
    refine aj_i2l C dX4_joined_105 r0 ?_
    exact aj_lret C K dX4_joined_106 ⟨_, rfl, h⟩
  · have h := hc7 e
    refine aj_tin (tgt := 97) (off := 96) C dX4_joined_1 r0 (by omega) (by omega) (by rw [e]; rfl) (by decide) ?_
    refine aj_iload_n C dX4_joined_97 rfl ?_
    refine aj_iload_n C dX4_joined_98 rfl ?_
    refine aj_iand C dX4_joined_99 ?_
    obtain ⟨r0, h⟩ := h
    refine aj_i2l C dX4_joined_100 r0 ?_
    exact aj_lret C K dX4_joined_101 ⟨_, rfl, h⟩
theorem dX4_value_0 : decode cX4_value 0 = .ok (.iconst 0, 1) := by decide +kernel
theorem dX4_value_1 : decode cX4_value 1 = .ok (.istore 7, 2) := by decide +kernel
theorem dX4_value_3 : decode cX4_value 3 = .ok (.iload_n 1, 1) := by decide +kernel
theorem dX4_value_4 : decode cX4_value 4 = .ok (.istore 8, 2) := by decide +kernel
theorem dX4_value_6 : decode cX4_value 6 = .ok (.iload 8, 2) := by decide +kernel
theorem dX4_value_8 : decode cX4_value 8 = .ok (.iload_n 2, 1) := by decide +kernel
theorem dX4_value_9 : decode cX4_value 9 = .ok (.if_icmp .ge 220, 3) := by decide +kernel
theorem dX4_value_12 : decode cX4_value 12 = .ok (.aload_n 0, 1) := by decide +kernel
theorem dX4_value_13 : decode cX4_value 13 = .ok (.getfield 9, 3) := by decide +kernel
theorem dX4_value_16 : decode cX4_value 16 = .ok (.iload 8, 2) := by decide +kernel
theorem dX4_value_18 : decode cX4_value 18 = .ok (.iaload, 1) := by decide +kernel
theorem dX4_value_19 : decode cX4_value 19 = .ok (.bipush 16, 2) := by decide +kernel
theorem dX4_value_21 : decode cX4_value 21 = .ok (.irem, 1) := by decide +kernel
theorem dX4_value_22 : decode cX4_value 22 = .ok (.istore 9, 2) := by decide +kernel
theorem dX4_value_24 : decode cX4_value 24 = .ok (.iload 9, 2) := by decide +kernel
theorem dX4_value_26 : decode cX4_value 26 = .ok (.iconst 5, 1) := by decide +kernel
theorem dX4_value_27 : decode cX4_value 27 = .ok (.if_icmp .gt 45, 3) := by decide +kernel
theorem dX4_value_30 : decode cX4_value 30 = .ok (.iload 7, 2) := by decide +kernel
theorem dX4_value_32 : decode cX4_value 32 = .ok (.bipush 64, 2) := by decide +kernel
theorem dX4_value_34 : decode cX4_value 34 = .ok (.if_icmp .ge 189, 3) := by decide +kernel
theorem dX4_value_37 : decode cX4_value 37 = .ok (.aload_n 0, 1) := by decide +kernel
theorem dX4_value_38 : decode cX4_value 38 = .ok (.getfield 31, 3) := by decide +kernel
theorem dX4_value_41 : decode cX4_value 41 = .ok (.iload 7, 2) := by decide +kernel
theorem dX4_value_43 : decode cX4_value 43 = .ok (.iload 9, 2) := by decide +kernel
theorem dX4_value_45 : decode cX4_value 45 = .ok (.aload_n 0, 1) := by decide +kernel
theorem dX4_value_46 : decode cX4_value 46 = .ok (.getfield 9, 3) := by decide +kernel
theorem dX4_value_49 : decode cX4_value 49 = .ok (.iload 8, 2) := by decide +kernel
theorem dX4_value_51 : decode cX4_value 51 = .ok (.iaload, 1) := by decide +kernel
theorem dX4_value_52 : decode cX4_value 52 = .ok (.bipush 16, 2) := by decide +kernel
theorem dX4_value_54 : decode cX4_value 54 = .ok (.idiv, 1) := by decide +kernel
theorem dX4_value_55 : decode cX4_value 55 = .ok (.aload_n 3, 1) := by decide +kernel
theorem dX4_value_56 : decode cX4_value 56 = .ok (.iload 4, 2) := by decide +kernel
theorem dX4_value_58 : decode cX4_value 58 = .ok (.iload 5, 2) := by decide +kernel
theorem dX4_value_60 : decode cX4_value 60 = .ok (.iload 6, 2) := by decide +kernel
theorem dX4_value_62 : decode cX4_value 62 = .ok (.invokestatic 40, 3) := by decide +kernel
theorem dX4_value_65 : decode cX4_value 65 = .ok (.iastore, 1) := by decide +kernel
theorem dX4_value_66 : decode cX4_value 66 = .ok (.iinc 7 1, 3) := by decide +kernel
theorem dX4_value_69 : decode cX4_value 69 = .ok (.goto 154, 3) := by decide +kernel
theorem dX4_value_72 : decode cX4_value 72 = .ok (.iload 9, 2) := by decide +kernel
theorem dX4_value_74 : decode cX4_value 74 = .ok (.bipush 12, 2) := by decide +kernel
theorem dX4_value_76 : decode cX4_value 76 = .ok (.if_icmp .ne 32, 3) := by decide +kernel
theorem dX4_value_79 : decode cX4_value 79 = .ok (.iload 7, 2) := by decide +kernel
theorem dX4_value_81 : decode cX4_value 81 = .ok (.iconst 1, 1) := by decide +kernel
theorem dX4_value_82 : decode cX4_value 82 = .ok (.if_icmp .lt 141, 3) := by decide +kernel
theorem dX4_value_85 : decode cX4_value 85 = .ok (.aload_n 0, 1) := by decide +kernel
theorem dX4_value_86 : decode cX4_value 86 = .ok (.getfield 31, 3) := by decide +kernel
theorem dX4_value_89 : decode cX4_value 89 = .ok (.iload 7, 2) := by decide +kernel
theorem dX4_value_91 : decode cX4_value 91 = .ok (.iconst 1, 1) := by decide +kernel
theorem dX4_value_92 : decode cX4_value 92 = .ok (.isub, 1) := by decide +kernel
theorem dX4_value_93 : decode cX4_value 93 = .ok (.iconst 1, 1) := by decide +kernel
theorem dX4_value_94 : decode cX4_value 94 = .ok (.aload_n 0, 1) := by decide +kernel
theorem dX4_value_95 : decode cX4_value 95 = .ok (.getfield 31, 3) := by decide +kernel
theorem dX4_value_98 : decode cX4_value 98 = .ok (.iload 7, 2) := by decide +kernel
theorem dX4_value_100 : decode cX4_value 100 = .ok (.iconst 1, 1) := by decide +kernel
theorem dX4_value_101 : decode cX4_value 101 = .ok (.isub, 1) := by decide +kernel
theorem dX4_value_102 : decode cX4_value 102 = .ok (.iaload, 1) := by decide +kernel
theorem dX4_value_103 : decode cX4_value 103 = .ok (.isub, 1) := by decide +kernel
theorem dX4_value_104 : decode cX4_value 104 = .ok (.iastore, 1) := by decide +kernel
theorem dX4_value_105 : decode cX4_value 105 = .ok (.goto 118, 3) := by decide +kernel
theorem dX4_value_108 : decode cX4_value 108 = .ok (.iload 9, 2) := by decide +kernel
theorem dX4_value_110 : decode cX4_value 110 = .ok (.bipush 15, 2) := by decide +kernel
theorem dX4_value_112 : decode cX4_value 112 = .ok (.if_icmp .ne 55, 3) := by decide +kernel
theorem dX4_value_115 : decode cX4_value 115 = .ok (.iload 7, 2) := by decide +kernel
theorem dX4_value_117 : decode cX4_value 117 = .ok (.iconst 3, 1) := by decide +kernel
theorem dX4_value_118 : decode cX4_value 118 = .ok (.if_icmp .lt 105, 3) := by decide +kernel
theorem dX4_value_121 : decode cX4_value 121 = .ok (.iinc 7 (-2), 3) := by decide +kernel
theorem dX4_value_124 : decode cX4_value 124 = .ok (.aload_n 0, 1) := by decide +kernel
theorem dX4_value_125 : decode cX4_value 125 = .ok (.getfield 31, 3) := by decide +kernel
theorem dX4_value_128 : decode cX4_value 128 = .ok (.iload 7, 2) := by decide +kernel
theorem dX4_value_130 : decode cX4_value 130 = .ok (.iconst 1, 1) := by decide +kernel
theorem dX4_value_131 : decode cX4_value 131 = .ok (.isub, 1) := by decide +kernel
theorem dX4_value_132 : decode cX4_value 132 = .ok (.aload_n 0, 1) := by decide +kernel
theorem dX4_value_133 : decode cX4_value 133 = .ok (.getfield 31, 3) := by decide +kernel
theorem dX4_value_136 : decode cX4_value 136 = .ok (.iload 7, 2) := by decide +kernel
theorem dX4_value_138 : decode cX4_value 138 = .ok (.iconst 1, 1) := by decide +kernel
theorem dX4_value_139 : decode cX4_value 139 = .ok (.isub, 1) := by decide +kernel
theorem dX4_value_140 : decode cX4_value 140 = .ok (.iaload, 1) := by decide +kernel
theorem dX4_value_141 : decode cX4_value 141 = .ok (.ifCond .eq 13, 3) := by decide +kernel
theorem dX4_value_144 : decode cX4_value 144 = .ok (.aload_n 0, 1) := by decide +kernel
theorem dX4_value_145 : decode cX4_value 145 = .ok (.getfield 31, 3) := by decide +kernel
theorem dX4_value_148 : decode cX4_value 148 = .ok (.iload 7, 2) := by decide +kernel
theorem dX4_value_150 : decode cX4_value 150 = .ok (.iaload, 1) := by decide +kernel
theorem dX4_value_151 : decode cX4_value 151 = .ok (.goto 12, 3) := by decide +kernel
theorem dX4_value_154 : decode cX4_value 154 = .ok (.aload_n 0, 1) := by decide +kernel
theorem dX4_value_155 : decode cX4_value 155 = .ok (.getfield 31, 3) := by decide +kernel
theorem dX4_value_158 : decode cX4_value 158 = .ok (.iload 7, 2) := by decide +kernel
theorem dX4_value_160 : decode cX4_value 160 = .ok (.iconst 1, 1) := by decide +kernel
theorem dX4_value_161 : decode cX4_value 161 = .ok (.iadd, 1) := by decide +kernel
theorem dX4_value_162 : decode cX4_value 162 = .ok (.iaload, 1) := by decide +kernel
theorem dX4_value_163 : decode cX4_value 163 = .ok (.iastore, 1) := by decide +kernel
theorem dX4_value_164 : decode cX4_value 164 = .ok (.goto 59, 3) := by decide +kernel
theorem dX4_value_167 : decode cX4_value 167 = .ok (.iload 7, 2) := by decide +kernel
theorem dX4_value_169 : decode cX4_value 169 = .ok (.iconst 2, 1) := by decide +kernel
theorem dX4_value_170 : decode cX4_value 170 = .ok (.if_icmp .lt 53, 3) := by decide +kernel
theorem dX4_value_173 : decode cX4_value 173 = .ok (.iinc 7 (-1), 3) := by decide +kernel
theorem dX4_value_176 : decode cX4_value 176 = .ok (.iload 9, 2) := by decide +kernel
theorem dX4_value_178 : decode cX4_value 178 = .ok (.aload_n 0, 1) := by decide +kernel
theorem dX4_value_179 : decode cX4_value 179 = .ok (.getfield 31, 3) := by decide +kernel
theorem dX4_value_182 : decode cX4_value 182 = .ok (.iload 7, 2) := by decide +kernel
theorem dX4_value_184 : decode cX4_value 184 = .ok (.iconst 1, 1) := by decide +kernel
theorem dX4_value_185 : decode cX4_value 185 = .ok (.isub, 1) := by decide +kernel
theorem dX4_value_186 : decode cX4_value 186 = .ok (.iaload, 1) := by decide +kernel
theorem dX4_value_187 : decode cX4_value 187 = .ok (.aload_n 0, 1) := by decide +kernel
theorem dX4_value_188 : decode cX4_value 188 = .ok (.getfield 31, 3) := by decide +kernel
theorem dX4_value_191 : decode cX4_value 191 = .ok (.iload 7, 2) := by decide +kernel
theorem dX4_value_193 : decode cX4_value 193 = .ok (.iaload, 1) := by decide +kernel
theorem dX4_value_194 : decode cX4_value 194 = .ok (.invokestatic 44, 3) := by decide +kernel
theorem dX4_value_197 : decode cX4_value 197 = .ok (.lstore 10, 2) := by decide +kernel
theorem dX4_value_199 : decode cX4_value 199 = .ok (.aload_n 0, 1) := by decide +kernel
theorem dX4_value_200 : decode cX4_value 200 = .ok (.getfield 31, 3) := by decide +kernel
theorem dX4_value_203 : decode cX4_value 203 = .ok (.iload 7, 2) := by decide +kernel
theorem dX4_value_205 : decode cX4_value 205 = .ok (.iconst 1, 1) := by decide +kernel
theorem dX4_value_206 : decode cX4_value 206 = .ok (.isub, 1) := by decide +kernel
theorem dX4_value_207 : decode cX4_value 207 = .ok (.ldc2_w 48, 3) := by decide +kernel
theorem dX4_value_210 : decode cX4_value 210 = .ok (.ldc2_w 50, 3) := by decide +kernel
theorem dX4_value_213 : decode cX4_value 213 = .ok (.lload 10, 2) := by decide +kernel
theorem dX4_value_215 : decode cX4_value 215 = .ok (.invokestatic 52, 3) := by decide +kernel
theorem dX4_value_218 : decode cX4_value 218 = .ok (.invokestatic 58, 3) := by decide +kernel
theorem dX4_value_221 : decode cX4_value 221 = .ok (.l2i, 1) := by decide +kernel
theorem dX4_value_222 : decode cX4_value 222 = .ok (.iastore, 1) := by decide +kernel
theorem dX4_value_223 : decode cX4_value 223 = .ok (.iinc 8 1, 3) := by decide +kernel
theorem dX4_value_226 : decode cX4_value 226 = .ok (.goto (-220), 3) := by decide +kernel
theorem dX4_value_229 : decode cX4_value 229 = .ok (.iload 7, 2) := by decide +kernel
theorem dX4_value_231 : decode cX4_value 231 = .ok (.ifCond .le 15, 3) := by decide +kernel
theorem dX4_value_234 : decode cX4_value 234 = .ok (.aload_n 0, 1) := by decide +kernel
theorem dX4_value_235 : decode cX4_value 235 = .ok (.getfield 31, 3) := by decide +kernel
theorem dX4_value_238 : decode cX4_value 238 = .ok (.iload 7, 2) := by decide +kernel
theorem dX4_value_240 : decode cX4_value 240 = .ok (.iconst 1, 1) := by decide +kernel
theorem dX4_value_241 : decode cX4_value 241 = .ok (.isub, 1) := by decide +kernel
theorem dX4_value_242 : decode cX4_value 242 = .ok (.iaload, 1) := by decide +kernel
theorem dX4_value_243 : decode cX4_value 243 = .ok (.goto 4, 3) := by decide +kernel
theorem dX4_value_246 : decode cX4_value 246 = .ok (.iconst 0, 1) := by decide +kernel
theorem dX4_value_247 : decode cX4_value 247 = .ok (.ireturn, 1) := by decide +kernel
def hX4_value_6 (f : Nat) (Φ : Int → aj_M → Prop) : Nat → List Nat → Int → List Nat → Int → Int → Int → Int → Int → aj_M → Prop
  | 0, _, _, _, _, _, _, _, _, _ => False
  | k + 1, q0, v2, q3, v4, v5, v6, v7, v8, m => rI v8 ∧ rI v2 ∧ (v2 ≤ v8 → rI v7 ∧ (v7 ≤ 0 → Φ 0 m) ∧ (¬ (v7 ≤ 0) → (0 ≤ (v7 - 1) ∧ (v7 - 1) < 64) ∧ Φ (m (6 :: q0) (v7 - 1).toNat) m)) ∧ (¬ (v2 ≤ v8) → (0 ≤ v8 ∧ v8 < 900) ∧ (0 ≤ (m (0 :: q0) v8.toNat) ∧ (m (0 :: q0) v8.toNat) < 2147483648) ∧ rI ((m (0 :: q0) v8.toNat) % 16) ∧ (5 < ((m (0 :: q0) v8.toNat) % 16) → rI ((m (0 :: q0) v8.toNat) % 16) ∧ (¬ ((m (0 :: q0) v8.toNat) % 16) = 12 → rI ((m (0 :: q0) v8.toNat) % 16) ∧ (¬ ((m (0 :: q0) v8.toNat) % 16) = 15 → rI v7 ∧ (v7 < 2 → hX4_value_6 f Φ k q0 v2 q3 v4 v5 v6 v7 (v8 + 1) m) ∧ (¬ (v7 < 2) → (0 ≤ ((v7 + (-1)) - 1) ∧ ((v7 + (-1)) - 1) < 64) ∧ (0 ≤ (v7 + (-1)) ∧ (v7 + (-1)) < 64) ∧ wX4_joined f (fun z1 m1 => rL z1 ∧ rL (min 1000000 z1) ∧ (0 ≤ ((v7 + (-1)) - 1) ∧ ((v7 + (-1)) - 1) < 64) ∧ ∀ m2, m2 = aj_u m1 (6 :: q0) ((v7 + (-1)) - 1).toNat (max (-1000000) (min 1000000 z1)) → hX4_value_6 f Φ k q0 v2 q3 v4 v5 v6 (v7 + (-1)) (v8 + 1) m2) ((m (0 :: q0) v8.toNat) % 16) (m (6 :: q0) ((v7 + (-1)) - 1).toNat) (m (6 :: q0) (v7 + (-1)).toNat) m)) ∧ (((m (0 :: q0) v8.toNat) % 16) = 15 → rI v7 ∧ (v7 < 3 → hX4_value_6 f Φ k q0 v2 q3 v4 v5 v6 v7 (v8 + 1) m) ∧ (¬ (v7 < 3) → (0 ≤ ((v7 + (-2)) - 1) ∧ ((v7 + (-2)) - 1) < 64) ∧ rI (m (6 :: q0) ((v7 + (-2)) - 1).toNat) ∧ ((m (6 :: q0) ((v7 + (-2)) - 1).toNat) = 0 → (0 ≤ ((v7 + (-2)) + 1) ∧ ((v7 + (-2)) + 1) < 64) ∧ (0 ≤ ((v7 + (-2)) - 1) ∧ ((v7 + (-2)) - 1) < 64) ∧ ∀ m3, m3 = aj_u m (6 :: q0) ((v7 + (-2)) - 1).toNat (m (6 :: q0) ((v7 + (-2)) + 1).toNat) → hX4_value_6 f Φ k q0 v2 q3 v4 v5 v6 (v7 + (-2)) (v8 + 1) m3) ∧ (¬ ((m (6 :: q0) ((v7 + (-2)) - 1).toNat) = 0) → (0 ≤ (v7 + (-2)) ∧ (v7 + (-2)) < 64) ∧ (0 ≤ ((v7 + (-2)) - 1) ∧ ((v7 + (-2)) - 1) < 64) ∧ ∀ m4, m4 = aj_u m (6 :: q0) ((v7 + (-2)) - 1).toNat (m (6 :: q0) (v7 + (-2)).toNat) → hX4_value_6 f Φ k q0 v2 q3 v4 v5 v6 (v7 + (-2)) (v8 + 1) m4)))) ∧ (((m (0 :: q0) v8.toNat) % 16) = 12 → rI v7 ∧ (v7 < 1 → hX4_value_6 f Φ k q0 v2 q3 v4 v5 v6 v7 (v8 + 1) m) ∧ (¬ (v7 < 1) → (0 ≤ (v7 - 1) ∧ (v7 - 1) < 64) ∧ (0 ≤ (v7 - 1) ∧ (v7 - 1) < 64) ∧ ∀ m5, m5 = aj_u m (6 :: q0) (v7 - 1).toNat (1 - (m (6 :: q0) (v7 - 1).toNat)) → hX4_value_6 f Φ k q0 v2 q3 v4 v5 v6 v7 (v8 + 1) m5))) ∧ (¬ (5 < ((m (0 :: q0) v8.toNat) % 16)) → rI v7 ∧ (64 ≤ v7 → hX4_value_6 f Φ k q0 v2 q3 v4 v5 v6 v7 (v8 + 1) m) ∧ (¬ (64 ≤ v7) → (0 ≤ v8 ∧ v8 < 900) ∧ (0 ≤ (m (0 :: q0) v8.toNat) ∧ (m (0 :: q0) v8.toNat) < 2147483648) ∧ wX4_atom f (fun z2 m6 => (0 ≤ v7 ∧ v7 < 64) ∧ ∀ m7, m7 = aj_u m6 (6 :: q0) v7.toNat z2 → hX4_value_6 f Φ k q0 v2 q3 v4 v5 v6 (v7 + 1) (v8 + 1) m7) ((m (0 :: q0) v8.toNat) % 16) ((m (0 :: q0) v8.toNat) / 16) q3 v4 v5 v6 m)))
set_option maxHeartbeats 4000000 in
set_option maxRecDepth 100000 in
theorem tX4_value_6 {X : aj_T} {n f : Nat} {Φ : Int → aj_M → Prop} (C : aj_Cx X cX4_value RX4 12 (n + 1)) (K : aj_Rt X (some .int) (fun r m => ∃ z, r = some (vI z) ∧ Φ z m)) : ∀ (k : Nat) (q0 : List Nat) (v2 : Int) (q3 : List Nat) (v4 : Int) (v5 : Int) (v6 : Int) (v7 : Int) (v8 : Int) (m : aj_M) (hq0 : (.inl (4, q0) : aj_R) ∈ aj_pls) (hq3 : (.inl (6, q3) : aj_R) ∈ aj_pls), hX4_value_6 f Φ k q0 v2 q3 v4 v5 v6 v7 v8 m → aj_J X 6 [some (vO 4 q0), none, some (vI v2), some (vO 6 q3), some (vI v4), some (vI v5), some (vI v6), some (vI v7), some (vI v8), none, none, none] [] m := by
  intro k
  induction k with
  | zero =>
    intro q0 v2 q3 v4 v5 v6 v7 v8 m _ _ h
    exact h.elim
  | succ k ih =>
    intro q0 v2 q3 v4 v5 v6 v7 v8 m hq0 hq3 h
    unfold hX4_value_6 at h
    refine aj_iload C dX4_value_6 rfl ?_
    refine aj_iload_n C dX4_value_8 rfl ?_
    obtain ⟨r0, r1, h1, h2⟩ := h
    refine aj_icmp_ge (tgt := 229) C dX4_value_9 (by decide) r0 r1 (fun e => ?_) (fun e => ?_)
    · have h := h1 e
      refine aj_iload C dX4_value_229 rfl ?_
      obtain ⟨r0, h1, h2⟩ := h
      refine aj_if_le (tgt := 246) C dX4_value_231 (by decide) r0 (fun e => ?_) (fun e => ?_)
      · have h := h1 e
        refine aj_iconst C dX4_value_246 ?_
        exact aj_iret C K dX4_value_247 ⟨_, rfl, h⟩
      · have h := h2 e
        refine aj_aload_n C dX4_value_234 rfl ?_
        refine aj_getA (x := 0) (y := 64) C flX4_31 hq0 rfl dX4_value_235 ?_
        refine aj_iload C dX4_value_238 rfl ?_
        refine aj_iconst C dX4_value_240 ?_
        refine aj_isub C dX4_value_241 ?_
        obtain ⟨r0, h⟩ := h
        refine aj_iald C (aj_ca (e := 0) (n := 64) (j := 6) hq0 (by decide) rfl) (by decide) r0 dX4_value_242 rfl ?_
        refine aj_goto (tgt := 247) C dX4_value_243 (by decide) ?_
        exact aj_iret C K dX4_value_247 ⟨_, rfl, h⟩
    · have h := h2 e
      refine aj_aload_n C dX4_value_12 rfl ?_
      refine aj_getA (x := 0) (y := 900) C flX4_9 hq0 rfl dX4_value_13 ?_
      refine aj_iload C dX4_value_16 rfl ?_
      obtain ⟨r0, h⟩ := h
      refine aj_iald C (aj_ca (e := 0) (n := 900) (j := 0) hq0 (by decide) rfl) (by decide) r0 dX4_value_18 rfl ?_
      refine aj_bipush C dX4_value_19 (by decide) ?_
      obtain ⟨r0, h⟩ := h
      refine aj_iremN C dX4_value_21 r0 (by decide) ?_
      refine aj_istore (lv' := [some (vO 4 q0), none, some (vI v2), some (vO 6 q3), some (vI v4), some (vI v5), some (vI v6), some (vI v7), some (vI v8), some (vI ((m (0 :: q0) v8.toNat) % 16)), none, none]) C dX4_value_22 (by decide) rfl ?_
      refine aj_iload C dX4_value_24 rfl ?_
      refine aj_iconst C dX4_value_26 ?_
      obtain ⟨r0, h1, h2⟩ := h
      refine aj_icmp_gt (tgt := 72) C dX4_value_27 (by decide) r0 (by decide) (fun e => ?_) (fun e => ?_)
      · have h := h1 e
        refine aj_iload C dX4_value_72 rfl ?_
        refine aj_bipush C dX4_value_74 (by decide) ?_
        obtain ⟨r0, h1, h2⟩ := h
        refine aj_icmp_ne (tgt := 108) C dX4_value_76 (by decide) r0 (by decide) (fun e => ?_) (fun e => ?_)
        · have h := h1 e
          refine aj_iload C dX4_value_108 rfl ?_
          refine aj_bipush C dX4_value_110 (by decide) ?_
          obtain ⟨r0, h1, h2⟩ := h
          refine aj_icmp_ne (tgt := 167) C dX4_value_112 (by decide) r0 (by decide) (fun e => ?_) (fun e => ?_)
          · have h := h1 e
            refine aj_iload C dX4_value_167 rfl ?_
            refine aj_iconst C dX4_value_169 ?_
            obtain ⟨r0, h1, h2⟩ := h
            refine aj_icmp_lt (tgt := 223) C dX4_value_170 (by decide) r0 (by decide) (fun e => ?_) (fun e => ?_)
            · have h := h1 e
              refine aj_iinc (lv' := [some (vO 4 q0), none, some (vI v2), some (vO 6 q3), some (vI v4), some (vI v5), some (vI v6), some (vI v7), some (vI (v8 + 1)), some (vI ((m (0 :: q0) v8.toNat) % 16)), none, none]) C dX4_value_223 rfl (by decide) rfl ?_
              refine aj_goto (tgt := 6) C dX4_value_226 (by decide) ?_
              refine aj_wk (lv' := [some (vO 4 q0), none, some (vI v2), some (vO 6 q3), some (vI v4), some (vI v5), some (vI v6), some (vI v7), some (vI (v8 + 1)), none, none, none]) (⟨rfl, ⟨rfl, ⟨rfl, ⟨rfl, ⟨rfl, ⟨rfl, ⟨rfl, ⟨rfl, trivial⟩⟩⟩⟩⟩⟩⟩⟩) ?_
              exact ih q0 v2 q3 v4 v5 v6 v7 (v8 + 1) _ hq0 hq3 h
            · have h := h2 e
              refine aj_iinc (lv' := [some (vO 4 q0), none, some (vI v2), some (vO 6 q3), some (vI v4), some (vI v5), some (vI v6), some (vI (v7 + (-1))), some (vI v8), some (vI ((m (0 :: q0) v8.toNat) % 16)), none, none]) C dX4_value_173 rfl (by decide) rfl ?_
              refine aj_iload C dX4_value_176 rfl ?_
              refine aj_aload_n C dX4_value_178 rfl ?_
              refine aj_getA (x := 0) (y := 64) C flX4_31 hq0 rfl dX4_value_179 ?_
              refine aj_iload C dX4_value_182 rfl ?_
              refine aj_iconst C dX4_value_184 ?_
              refine aj_isub C dX4_value_185 ?_
              obtain ⟨r0, h⟩ := h
              refine aj_iald C (aj_ca (e := 0) (n := 64) (j := 6) hq0 (by decide) rfl) (by decide) r0 dX4_value_186 rfl ?_
              refine aj_aload_n C dX4_value_187 rfl ?_
              refine aj_getA (x := 0) (y := 64) C flX4_31 hq0 rfl dX4_value_188 ?_
              refine aj_iload C dX4_value_191 rfl ?_
              obtain ⟨r0, h⟩ := h
              refine aj_iald C (aj_ca (e := 0) (n := 64) (j := 6) hq0 (by decide) rfl) (by decide) r0 dX4_value_193 rfl ?_
              refine aj_callS (rest := []) C msX4_44 (sX4_joined  h) (aj_np 3 (by decide +kernel) rfl) (Nat.le_of_ble_eq_true rfl) rfl dX4_value_194 (fun r m1 h => ?_)
              obtain ⟨z1, rfl, h⟩ := h
              refine aj_lstore (lv' := [some (vO 4 q0), none, some (vI v2), some (vO 6 q3), some (vI v4), some (vI v5), some (vI v6), some (vI (v7 + (-1))), some (vI v8), some (vI ((m (0 :: q0) v8.toNat) % 16)), some (vL z1), none]) C dX4_value_197 (by decide) rfl ?_
              refine aj_aload_n C dX4_value_199 rfl ?_
              refine aj_getA (x := 0) (y := 64) C flX4_31 hq0 rfl dX4_value_200 ?_
              refine aj_iload C dX4_value_203 rfl ?_
              refine aj_iconst C dX4_value_205 ?_
              refine aj_isub C dX4_value_206 ?_
              refine aj_ldc2 (z := (-1000000)) C (wd1039) rfl dX4_value_207 ?_
              refine aj_ldc2 (z := 1000000) C (wd1040) rfl dX4_value_210 ?_
              refine aj_lload C dX4_value_213 rfl ?_
              obtain ⟨r1, h⟩ := h
              refine aj_mminL C msX4_52 (Nat.le_of_ble_eq_true rfl) (by decide) r1 dX4_value_215 ?_
              obtain ⟨r1, h⟩ := h
              refine aj_mmaxL C msX4_58 (Nat.le_of_ble_eq_true rfl) (by decide) r1 dX4_value_218 ?_
              refine aj_l2i C dX4_value_221 ?_
              obtain ⟨r0, h⟩ := h
              refine aj_iast C (aj_ca (e := 0) (n := 64) (j := 6) hq0 (by decide) rfl) (by decide) r0 dX4_value_222 ?_
              refine aj_nm (fun m2 e1 => ?_)
              have h := h m2 e1
              refine aj_iinc (lv' := [some (vO 4 q0), none, some (vI v2), some (vO 6 q3), some (vI v4), some (vI v5), some (vI v6), some (vI (v7 + (-1))), some (vI (v8 + 1)), some (vI ((m (0 :: q0) v8.toNat) % 16)), some (vL z1), none]) C dX4_value_223 rfl (by decide) rfl ?_
              refine aj_goto (tgt := 6) C dX4_value_226 (by decide) ?_
              refine aj_wk (lv' := [some (vO 4 q0), none, some (vI v2), some (vO 6 q3), some (vI v4), some (vI v5), some (vI v6), some (vI (v7 + (-1))), some (vI (v8 + 1)), none, none, none]) (⟨rfl, ⟨rfl, ⟨rfl, ⟨rfl, ⟨rfl, ⟨rfl, ⟨rfl, ⟨rfl, trivial⟩⟩⟩⟩⟩⟩⟩⟩) ?_
              exact ih q0 v2 q3 v4 v5 v6 (v7 + (-1)) (v8 + 1) _ hq0 hq3 h
          · have h := h2 e
            refine aj_iload C dX4_value_115 rfl ?_
            refine aj_iconst C dX4_value_117 ?_
            obtain ⟨r0, h1, h2⟩ := h
            refine aj_icmp_lt (tgt := 223) C dX4_value_118 (by decide) r0 (by decide) (fun e => ?_) (fun e => ?_)
            · have h := h1 e
              refine aj_iinc (lv' := [some (vO 4 q0), none, some (vI v2), some (vO 6 q3), some (vI v4), some (vI v5), some (vI v6), some (vI v7), some (vI (v8 + 1)), some (vI ((m (0 :: q0) v8.toNat) % 16)), none, none]) C dX4_value_223 rfl (by decide) rfl ?_
              refine aj_goto (tgt := 6) C dX4_value_226 (by decide) ?_
              refine aj_wk (lv' := [some (vO 4 q0), none, some (vI v2), some (vO 6 q3), some (vI v4), some (vI v5), some (vI v6), some (vI v7), some (vI (v8 + 1)), none, none, none]) (⟨rfl, ⟨rfl, ⟨rfl, ⟨rfl, ⟨rfl, ⟨rfl, ⟨rfl, ⟨rfl, trivial⟩⟩⟩⟩⟩⟩⟩⟩) ?_
              exact ih q0 v2 q3 v4 v5 v6 v7 (v8 + 1) _ hq0 hq3 h
            · have h := h2 e
              refine aj_iinc (lv' := [some (vO 4 q0), none, some (vI v2), some (vO 6 q3), some (vI v4), some (vI v5), some (vI v6), some (vI (v7 + (-2))), some (vI v8), some (vI ((m (0 :: q0) v8.toNat) % 16)), none, none]) C dX4_value_121 rfl (by decide) rfl ?_
              refine aj_aload_n C dX4_value_124 rfl ?_
              refine aj_getA (x := 0) (y := 64) C flX4_31 hq0 rfl dX4_value_125 ?_
              refine aj_iload C dX4_value_128 rfl ?_
              refine aj_iconst C dX4_value_130 ?_
              refine aj_isub C dX4_value_131 ?_
              refine aj_aload_n C dX4_value_132 rfl ?_
              refine aj_getA (x := 0) (y := 64) C flX4_31 hq0 rfl dX4_value_133 ?_
              refine aj_iload C dX4_value_136 rfl ?_
              refine aj_iconst C dX4_value_138 ?_
              refine aj_isub C dX4_value_139 ?_
              obtain ⟨r0, h⟩ := h
              refine aj_iald C (aj_ca (e := 0) (n := 64) (j := 6) hq0 (by decide) rfl) (by decide) r0 dX4_value_140 rfl ?_
              obtain ⟨r0, h1, h2⟩ := h
              refine aj_if_eq (tgt := 154) C dX4_value_141 (by decide) r0 (fun e => ?_) (fun e => ?_)
              · have h := h1 e
                refine aj_aload_n C dX4_value_154 rfl ?_
                refine aj_getA (x := 0) (y := 64) C flX4_31 hq0 rfl dX4_value_155 ?_
                refine aj_iload C dX4_value_158 rfl ?_
                refine aj_iconst C dX4_value_160 ?_
                refine aj_iadd C dX4_value_161 ?_
                obtain ⟨r0, h⟩ := h
                refine aj_iald C (aj_ca (e := 0) (n := 64) (j := 6) hq0 (by decide) rfl) (by decide) r0 dX4_value_162 rfl ?_
                obtain ⟨r0, h⟩ := h
                refine aj_iast C (aj_ca (e := 0) (n := 64) (j := 6) hq0 (by decide) rfl) (by decide) r0 dX4_value_163 ?_
                refine aj_nm (fun m3 e1 => ?_)
                have h := h m3 e1
                refine aj_goto (tgt := 223) C dX4_value_164 (by decide) ?_
                refine aj_iinc (lv' := [some (vO 4 q0), none, some (vI v2), some (vO 6 q3), some (vI v4), some (vI v5), some (vI v6), some (vI (v7 + (-2))), some (vI (v8 + 1)), some (vI ((m (0 :: q0) v8.toNat) % 16)), none, none]) C dX4_value_223 rfl (by decide) rfl ?_
                refine aj_goto (tgt := 6) C dX4_value_226 (by decide) ?_
                refine aj_wk (lv' := [some (vO 4 q0), none, some (vI v2), some (vO 6 q3), some (vI v4), some (vI v5), some (vI v6), some (vI (v7 + (-2))), some (vI (v8 + 1)), none, none, none]) (⟨rfl, ⟨rfl, ⟨rfl, ⟨rfl, ⟨rfl, ⟨rfl, ⟨rfl, ⟨rfl, trivial⟩⟩⟩⟩⟩⟩⟩⟩) ?_
                exact ih q0 v2 q3 v4 v5 v6 (v7 + (-2)) (v8 + 1) _ hq0 hq3 h
              · have h := h2 e
                refine aj_aload_n C dX4_value_144 rfl ?_
                refine aj_getA (x := 0) (y := 64) C flX4_31 hq0 rfl dX4_value_145 ?_
                refine aj_iload C dX4_value_148 rfl ?_
                obtain ⟨r0, h⟩ := h
                refine aj_iald C (aj_ca (e := 0) (n := 64) (j := 6) hq0 (by decide) rfl) (by decide) r0 dX4_value_150 rfl ?_
                refine aj_goto (tgt := 163) C dX4_value_151 (by decide) ?_
                obtain ⟨r0, h⟩ := h
                refine aj_iast C (aj_ca (e := 0) (n := 64) (j := 6) hq0 (by decide) rfl) (by decide) r0 dX4_value_163 ?_
                refine aj_nm (fun m4 e1 => ?_)
                have h := h m4 e1
                refine aj_goto (tgt := 223) C dX4_value_164 (by decide) ?_
                refine aj_iinc (lv' := [some (vO 4 q0), none, some (vI v2), some (vO 6 q3), some (vI v4), some (vI v5), some (vI v6), some (vI (v7 + (-2))), some (vI (v8 + 1)), some (vI ((m (0 :: q0) v8.toNat) % 16)), none, none]) C dX4_value_223 rfl (by decide) rfl ?_
                refine aj_goto (tgt := 6) C dX4_value_226 (by decide) ?_
                refine aj_wk (lv' := [some (vO 4 q0), none, some (vI v2), some (vO 6 q3), some (vI v4), some (vI v5), some (vI v6), some (vI (v7 + (-2))), some (vI (v8 + 1)), none, none, none]) (⟨rfl, ⟨rfl, ⟨rfl, ⟨rfl, ⟨rfl, ⟨rfl, ⟨rfl, ⟨rfl, trivial⟩⟩⟩⟩⟩⟩⟩⟩) ?_
                exact ih q0 v2 q3 v4 v5 v6 (v7 + (-2)) (v8 + 1) _ hq0 hq3 h
        · have h := h2 e
          refine aj_iload C dX4_value_79 rfl ?_
          refine aj_iconst C dX4_value_81 ?_
          obtain ⟨r0, h1, h2⟩ := h
          refine aj_icmp_lt (tgt := 223) C dX4_value_82 (by decide) r0 (by decide) (fun e => ?_) (fun e => ?_)
          · have h := h1 e
            refine aj_iinc (lv' := [some (vO 4 q0), none, some (vI v2), some (vO 6 q3), some (vI v4), some (vI v5), some (vI v6), some (vI v7), some (vI (v8 + 1)), some (vI ((m (0 :: q0) v8.toNat) % 16)), none, none]) C dX4_value_223 rfl (by decide) rfl ?_
            refine aj_goto (tgt := 6) C dX4_value_226 (by decide) ?_
            refine aj_wk (lv' := [some (vO 4 q0), none, some (vI v2), some (vO 6 q3), some (vI v4), some (vI v5), some (vI v6), some (vI v7), some (vI (v8 + 1)), none, none, none]) (⟨rfl, ⟨rfl, ⟨rfl, ⟨rfl, ⟨rfl, ⟨rfl, ⟨rfl, ⟨rfl, trivial⟩⟩⟩⟩⟩⟩⟩⟩) ?_
            exact ih q0 v2 q3 v4 v5 v6 v7 (v8 + 1) _ hq0 hq3 h
          · have h := h2 e
            refine aj_aload_n C dX4_value_85 rfl ?_
            refine aj_getA (x := 0) (y := 64) C flX4_31 hq0 rfl dX4_value_86 ?_
            refine aj_iload C dX4_value_89 rfl ?_
            refine aj_iconst C dX4_value_91 ?_
            refine aj_isub C dX4_value_92 ?_
            refine aj_iconst C dX4_value_93 ?_
            refine aj_aload_n C dX4_value_94 rfl ?_
            refine aj_getA (x := 0) (y := 64) C flX4_31 hq0 rfl dX4_value_95 ?_
            refine aj_iload C dX4_value_98 rfl ?_
            refine aj_iconst C dX4_value_100 ?_
            refine aj_isub C dX4_value_101 ?_
            obtain ⟨r0, h⟩ := h
            refine aj_iald C (aj_ca (e := 0) (n := 64) (j := 6) hq0 (by decide) rfl) (by decide) r0 dX4_value_102 rfl ?_
            refine aj_isub C dX4_value_103 ?_
            obtain ⟨r0, h⟩ := h
            refine aj_iast C (aj_ca (e := 0) (n := 64) (j := 6) hq0 (by decide) rfl) (by decide) r0 dX4_value_104 ?_
            refine aj_nm (fun m5 e1 => ?_)
            have h := h m5 e1
            refine aj_goto (tgt := 223) C dX4_value_105 (by decide) ?_
            refine aj_iinc (lv' := [some (vO 4 q0), none, some (vI v2), some (vO 6 q3), some (vI v4), some (vI v5), some (vI v6), some (vI v7), some (vI (v8 + 1)), some (vI ((m (0 :: q0) v8.toNat) % 16)), none, none]) C dX4_value_223 rfl (by decide) rfl ?_
            refine aj_goto (tgt := 6) C dX4_value_226 (by decide) ?_
            refine aj_wk (lv' := [some (vO 4 q0), none, some (vI v2), some (vO 6 q3), some (vI v4), some (vI v5), some (vI v6), some (vI v7), some (vI (v8 + 1)), none, none, none]) (⟨rfl, ⟨rfl, ⟨rfl, ⟨rfl, ⟨rfl, ⟨rfl, ⟨rfl, ⟨rfl, trivial⟩⟩⟩⟩⟩⟩⟩⟩) ?_
            exact ih q0 v2 q3 v4 v5 v6 v7 (v8 + 1) _ hq0 hq3 h
      · have h := h2 e
        refine aj_iload C dX4_value_30 rfl ?_
        refine aj_bipush C dX4_value_32 (by decide) ?_
        obtain ⟨r0, h1, h2⟩ := h
        refine aj_icmp_ge (tgt := 223) C dX4_value_34 (by decide) r0 (by decide) (fun e => ?_) (fun e => ?_)
        · have h := h1 e
          refine aj_iinc (lv' := [some (vO 4 q0), none, some (vI v2), some (vO 6 q3), some (vI v4), some (vI v5), some (vI v6), some (vI v7), some (vI (v8 + 1)), some (vI ((m (0 :: q0) v8.toNat) % 16)), none, none]) C dX4_value_223 rfl (by decide) rfl ?_
          refine aj_goto (tgt := 6) C dX4_value_226 (by decide) ?_
          refine aj_wk (lv' := [some (vO 4 q0), none, some (vI v2), some (vO 6 q3), some (vI v4), some (vI v5), some (vI v6), some (vI v7), some (vI (v8 + 1)), none, none, none]) (⟨rfl, ⟨rfl, ⟨rfl, ⟨rfl, ⟨rfl, ⟨rfl, ⟨rfl, ⟨rfl, trivial⟩⟩⟩⟩⟩⟩⟩⟩) ?_
          exact ih q0 v2 q3 v4 v5 v6 v7 (v8 + 1) _ hq0 hq3 h
        · have h := h2 e
          refine aj_aload_n C dX4_value_37 rfl ?_
          refine aj_getA (x := 0) (y := 64) C flX4_31 hq0 rfl dX4_value_38 ?_
          refine aj_iload C dX4_value_41 rfl ?_
          refine aj_iload C dX4_value_43 rfl ?_
          refine aj_aload_n C dX4_value_45 rfl ?_
          refine aj_getA (x := 0) (y := 900) C flX4_9 hq0 rfl dX4_value_46 ?_
          refine aj_iload C dX4_value_49 rfl ?_
          obtain ⟨r0, h⟩ := h
          refine aj_iald C (aj_ca (e := 0) (n := 900) (j := 0) hq0 (by decide) rfl) (by decide) r0 dX4_value_51 rfl ?_
          refine aj_bipush C dX4_value_52 (by decide) ?_
          obtain ⟨r0, h⟩ := h
          refine aj_idivN C dX4_value_54 r0 (by decide) ?_
          refine aj_aload_n C dX4_value_55 rfl ?_
          refine aj_iload C dX4_value_56 rfl ?_
          refine aj_iload C dX4_value_58 rfl ?_
          refine aj_iload C dX4_value_60 rfl ?_
          refine aj_callS (rest := [vI v7, vA 0 64 (6 :: q0)]) C msX4_40 (sX4_atom hq3 h) (aj_np 6 (by decide +kernel) rfl) (Nat.le_of_ble_eq_true rfl) rfl dX4_value_62 (fun r m6 h => ?_)
          obtain ⟨z2, rfl, h⟩ := h
          obtain ⟨r0, h⟩ := h
          refine aj_iast C (aj_ca (e := 0) (n := 64) (j := 6) hq0 (by decide) rfl) (by decide) r0 dX4_value_65 ?_
          refine aj_nm (fun m7 e1 => ?_)
          have h := h m7 e1
          refine aj_iinc (lv' := [some (vO 4 q0), none, some (vI v2), some (vO 6 q3), some (vI v4), some (vI v5), some (vI v6), some (vI (v7 + 1)), some (vI v8), some (vI ((m (0 :: q0) v8.toNat) % 16)), none, none]) C dX4_value_66 rfl (by decide) rfl ?_
          refine aj_goto (tgt := 223) C dX4_value_69 (by decide) ?_
          refine aj_iinc (lv' := [some (vO 4 q0), none, some (vI v2), some (vO 6 q3), some (vI v4), some (vI v5), some (vI v6), some (vI (v7 + 1)), some (vI (v8 + 1)), some (vI ((m (0 :: q0) v8.toNat) % 16)), none, none]) C dX4_value_223 rfl (by decide) rfl ?_
          refine aj_goto (tgt := 6) C dX4_value_226 (by decide) ?_
          refine aj_wk (lv' := [some (vO 4 q0), none, some (vI v2), some (vO 6 q3), some (vI v4), some (vI v5), some (vI v6), some (vI (v7 + 1)), some (vI (v8 + 1)), none, none, none]) (⟨rfl, ⟨rfl, ⟨rfl, ⟨rfl, ⟨rfl, ⟨rfl, ⟨rfl, ⟨rfl, trivial⟩⟩⟩⟩⟩⟩⟩⟩) ?_
          exact ih q0 v2 q3 v4 v5 v6 (v7 + 1) (v8 + 1) _ hq0 hq3 h
def wX4_value (f : Nat) (Φ : Int → aj_M → Prop) (q0 : List Nat) (v1 : Int) (v2 : Int) (q3 : List Nat) (v4 : Int) (v5 : Int) (v6 : Int) (m : aj_M) : Prop := hX4_value_6 f Φ f q0 v2 q3 v4 v5 v6 0 v1 m
set_option maxHeartbeats 4000000 in
set_option maxRecDepth 100000 in
theorem sX4_value {n f : Nat} {Φ : Int → aj_M → Prop} {q0 : List Nat} {v1 : Int} {v2 : Int} {q3 : List Nat} {v4 : Int} {v5 : Int} {v6 : Int} {m : aj_M} (hq0 : (.inl (4, q0) : aj_R) ∈ aj_pls) (hq3 : (.inl (6, q3) : aj_R) ∈ aj_pls) (h : wX4_value f Φ q0 v1 v2 q3 v4 v5 v6 m) : aj_Ct (n + 1) yX4_value cX4_value 12 (some .int) [vO 4 q0, vI v1, vI v2, vO 6 q3, vI v4, vI v5, vI v6] m (fun r m => ∃ z, r = some (vI z) ∧ Φ z m) := by
  refine aj_met (lv := [some (vO 4 q0), some (vI v1), some (vI v2), some (vO 6 q3), some (vI v4), some (vI v5), some (vI v6), none, none, none, none, none]) (by decide +kernel) rfl (Nat.le_of_ble_eq_true rfl) (fun X C K => ?_)
  unfold wX4_value at h
  refine aj_iconst C dX4_value_0 ?_
  refine aj_istore (lv' := [some (vO 4 q0), some (vI v1), some (vI v2), some (vO 6 q3), some (vI v4), some (vI v5), some (vI v6), some (vI 0), none, none, none, none]) C dX4_value_1 (by decide) rfl ?_
  refine aj_iload_n C dX4_value_3 rfl ?_
  refine aj_istore (lv' := [some (vO 4 q0), some (vI v1), some (vI v2), some (vO 6 q3), some (vI v4), some (vI v5), some (vI v6), some (vI 0), some (vI v1), none, none, none]) C dX4_value_4 (by decide) rfl ?_
  refine aj_wk (lv' := [some (vO 4 q0), none, some (vI v2), some (vO 6 q3), some (vI v4), some (vI v5), some (vI v6), some (vI 0), some (vI v1), none, none, none]) (⟨rfl, ⟨rfl, ⟨rfl, ⟨rfl, ⟨rfl, ⟨rfl, ⟨rfl, ⟨rfl, trivial⟩⟩⟩⟩⟩⟩⟩⟩) ?_
  exact tX4_value_6 C K f q0 v2 q3 v4 v5 v6 0 v1 _ hq0 hq3 h
theorem dX6_knowKept_0 : decode cX6_knowKept 0 = .ok (.aload_n 0, 1) := by decide +kernel
theorem dX6_knowKept_1 : decode cX6_knowKept 1 = .ok (.getfield 51, 3) := by decide +kernel
theorem dX6_knowKept_4 : decode cX6_knowKept 4 = .ok (.iload_n 1, 1) := by decide +kernel
theorem dX6_knowKept_5 : decode cX6_knowKept 5 = .ok (.if_icmp .ne 4, 3) := by decide +kernel
theorem dX6_knowKept_8 : decode cX6_knowKept 8 = .ok (.return_, 1) := by decide +kernel
theorem dX6_knowKept_9 : decode cX6_knowKept 9 = .ok (.aload_n 0, 1) := by decide +kernel
theorem dX6_knowKept_10 : decode cX6_knowKept 10 = .ok (.iload_n 1, 1) := by decide +kernel
theorem dX6_knowKept_11 : decode cX6_knowKept 11 = .ok (.putfield 51, 3) := by decide +kernel
theorem dX6_knowKept_14 : decode cX6_knowKept 14 = .ok (.aload_n 0, 1) := by decide +kernel
theorem dX6_knowKept_15 : decode cX6_knowKept 15 = .ok (.getfield 21, 3) := by decide +kernel
theorem dX6_knowKept_18 : decode cX6_knowKept 18 = .ok (.getfield 90, 3) := by decide +kernel
theorem dX6_knowKept_21 : decode cX6_knowKept 21 = .ok (.aload_n 0, 1) := by decide +kernel
theorem dX6_knowKept_22 : decode cX6_knowKept 22 = .ok (.getfield 21, 3) := by decide +kernel
theorem dX6_knowKept_25 : decode cX6_knowKept 25 = .ok (.getfield 93, 3) := by decide +kernel
theorem dX6_knowKept_28 : decode cX6_knowKept 28 = .ok (.if_icmp .le 7, 3) := by decide +kernel
theorem dX6_knowKept_31 : decode cX6_knowKept 31 = .ok (.iconst 1, 1) := by decide +kernel
theorem dX6_knowKept_32 : decode cX6_knowKept 32 = .ok (.goto 4, 3) := by decide +kernel
theorem dX6_knowKept_35 : decode cX6_knowKept 35 = .ok (.iconst 0, 1) := by decide +kernel
theorem dX6_knowKept_36 : decode cX6_knowKept 36 = .ok (.istore_n 2, 1) := by decide +kernel
theorem dX6_knowKept_37 : decode cX6_knowKept 37 = .ok (.iconst 0, 1) := by decide +kernel
theorem dX6_knowKept_38 : decode cX6_knowKept 38 = .ok (.istore_n 3, 1) := by decide +kernel
theorem dX6_knowKept_39 : decode cX6_knowKept 39 = .ok (.iload_n 3, 1) := by decide +kernel
theorem dX6_knowKept_40 : decode cX6_knowKept 40 = .ok (.aload_n 0, 1) := by decide +kernel
theorem dX6_knowKept_41 : decode cX6_knowKept 41 = .ok (.getfield 32, 3) := by decide +kernel
theorem dX6_knowKept_44 : decode cX6_knowKept 44 = .ok (.if_icmp .ge 83, 3) := by decide +kernel
theorem dX6_knowKept_47 : decode cX6_knowKept 47 = .ok (.iconst 0, 1) := by decide +kernel
theorem dX6_knowKept_48 : decode cX6_knowKept 48 = .ok (.istore 4, 2) := by decide +kernel
theorem dX6_knowKept_50 : decode cX6_knowKept 50 = .ok (.iconst 0, 1) := by decide +kernel
theorem dX6_knowKept_51 : decode cX6_knowKept 51 = .ok (.istore 5, 2) := by decide +kernel
theorem dX6_knowKept_53 : decode cX6_knowKept 53 = .ok (.iload 5, 2) := by decide +kernel
theorem dX6_knowKept_55 : decode cX6_knowKept 55 = .ok (.aload_n 0, 1) := by decide +kernel
theorem dX6_knowKept_56 : decode cX6_knowKept 56 = .ok (.getfield 12, 3) := by decide +kernel
theorem dX6_knowKept_59 : decode cX6_knowKept 59 = .ok (.getfield 96, 3) := by decide +kernel
theorem dX6_knowKept_62 : decode cX6_knowKept 62 = .ok (.if_icmp .ge 51, 3) := by decide +kernel
theorem dX6_knowKept_65 : decode cX6_knowKept 65 = .ok (.iload_n 2, 1) := by decide +kernel
theorem dX6_knowKept_66 : decode cX6_knowKept 66 = .ok (.ifCond .eq 32, 3) := by decide +kernel
theorem dX6_knowKept_69 : decode cX6_knowKept 69 = .ok (.aload_n 0, 1) := by decide +kernel
theorem dX6_knowKept_70 : decode cX6_knowKept 70 = .ok (.getfield 21, 3) := by decide +kernel
theorem dX6_knowKept_73 : decode cX6_knowKept 73 = .ok (.aload_n 0, 1) := by decide +kernel
theorem dX6_knowKept_74 : decode cX6_knowKept 74 = .ok (.getfield 21, 3) := by decide +kernel
theorem dX6_knowKept_77 : decode cX6_knowKept 77 = .ok (.getfield 93, 3) := by decide +kernel
theorem dX6_knowKept_80 : decode cX6_knowKept 80 = .ok (.aload_n 0, 1) := by decide +kernel
theorem dX6_knowKept_81 : decode cX6_knowKept 81 = .ok (.getfield 21, 3) := by decide +kernel
theorem dX6_knowKept_84 : decode cX6_knowKept 84 = .ok (.getfield 90, 3) := by decide +kernel
theorem dX6_knowKept_87 : decode cX6_knowKept 87 = .ok (.aload_n 0, 1) := by decide +kernel
theorem dX6_knowKept_88 : decode cX6_knowKept 88 = .ok (.iload_n 3, 1) := by decide +kernel
theorem dX6_knowKept_89 : decode cX6_knowKept 89 = .ok (.iload 5, 2) := by decide +kernel
theorem dX6_knowKept_91 : decode cX6_knowKept 91 = .ok (.iload_n 1, 1) := by decide +kernel
theorem dX6_knowKept_92 : decode cX6_knowKept 92 = .ok (.invokevirtual 99, 3) := by decide +kernel
theorem dX6_knowKept_95 : decode cX6_knowKept 95 = .ok (.ifCond .eq 12, 3) := by decide +kernel
theorem dX6_knowKept_98 : decode cX6_knowKept 98 = .ok (.iload 4, 2) := by decide +kernel
theorem dX6_knowKept_100 : decode cX6_knowKept 100 = .ok (.iconst 1, 1) := by decide +kernel
theorem dX6_knowKept_101 : decode cX6_knowKept 101 = .ok (.iload 5, 2) := by decide +kernel
theorem dX6_knowKept_103 : decode cX6_knowKept 103 = .ok (.ishl, 1) := by decide +kernel
theorem dX6_knowKept_104 : decode cX6_knowKept 104 = .ok (.ior, 1) := by decide +kernel
theorem dX6_knowKept_105 : decode cX6_knowKept 105 = .ok (.istore 4, 2) := by decide +kernel
theorem dX6_knowKept_107 : decode cX6_knowKept 107 = .ok (.iinc 5 1, 3) := by decide +kernel
theorem dX6_knowKept_110 : decode cX6_knowKept 110 = .ok (.goto (-57), 3) := by decide +kernel
theorem dX6_knowKept_113 : decode cX6_knowKept 113 = .ok (.aload_n 0, 1) := by decide +kernel
theorem dX6_knowKept_114 : decode cX6_knowKept 114 = .ok (.getfield 54, 3) := by decide +kernel
theorem dX6_knowKept_117 : decode cX6_knowKept 117 = .ok (.iload_n 3, 1) := by decide +kernel
theorem dX6_knowKept_118 : decode cX6_knowKept 118 = .ok (.iload 4, 2) := by decide +kernel
theorem dX6_knowKept_120 : decode cX6_knowKept 120 = .ok (.iastore, 1) := by decide +kernel
theorem dX6_knowKept_121 : decode cX6_knowKept 121 = .ok (.iinc 3 1, 3) := by decide +kernel
theorem dX6_knowKept_124 : decode cX6_knowKept 124 = .ok (.goto (-85), 3) := by decide +kernel
theorem dX6_knowKept_127 : decode cX6_knowKept 127 = .ok (.return_, 1) := by decide +kernel
def hX6_knowKept_53 (f : Nat) (Φ : aj_M → Prop) (K39 : List Nat → Int → Int → Int → aj_M → Prop) : Nat → List Nat → Int → Int → Int → Int → Int → aj_M → Prop
  | 0, _, _, _, _, _, _, _ => False
  | k + 1, q0, v1, v2, v3, v4, v5, m => rI v5 ∧ rI (m (0 :: q0) 0) ∧ ((m (0 :: q0) 0) ≤ v5 → (0 ≤ v3 ∧ v3 < 12) ∧ ∀ m1, m1 = aj_u m (11 :: q0) v3.toNat v4 → K39 q0 v1 v2 (v3 + 1) m1) ∧ (¬ ((m (0 :: q0) 0) ≤ v5) → rI v2 ∧ (v2 = 0 → hX6_knowKept_53 f Φ K39 k q0 v1 v2 v3 (aj_or v4 (aj_shl 1 v5)) (v5 + 1) m) ∧ (¬ (v2 = 0) → wX4_value f (fun z1 m2 => rI z1 ∧ (z1 = 0 → hX6_knowKept_53 f Φ K39 k q0 v1 v2 v3 v4 (v5 + 1) m2) ∧ (¬ (z1 = 0) → hX6_knowKept_53 f Φ K39 k q0 v1 v2 v3 (aj_or v4 (aj_shl 1 v5)) (v5 + 1) m2)) (1 :: q0) (m (1 :: q0) 2) (m (1 :: q0) 3) q0 v3 v5 v1 m))
set_option maxHeartbeats 4000000 in
set_option maxRecDepth 100000 in
theorem tX6_knowKept_53 {X : aj_T} {n f : Nat} {Φ : aj_M → Prop} (C : aj_Cx X cX6_knowKept RX6 6 (n + 2)) (K : aj_Rt X none (fun r m => r = none ∧ Φ m)) {K39 : List Nat → Int → Int → Int → aj_M → Prop} (HK39 : ∀ (q0 : List Nat) (v1 : Int) (v2 : Int) (v3 : Int) (m : aj_M) (hq0 : (.inl (6, q0) : aj_R) ∈ aj_pls), K39 q0 v1 v2 v3 m → aj_J X 39 [some (vO 6 q0), some (vI v1), some (vI v2), some (vI v3), none, none] [] m) : ∀ (k : Nat) (q0 : List Nat) (v1 : Int) (v2 : Int) (v3 : Int) (v4 : Int) (v5 : Int) (m : aj_M) (hq0 : (.inl (6, q0) : aj_R) ∈ aj_pls), hX6_knowKept_53 f Φ K39 k q0 v1 v2 v3 v4 v5 m → aj_J X 53 [some (vO 6 q0), some (vI v1), some (vI v2), some (vI v3), some (vI v4), some (vI v5)] [] m := by
  intro k
  induction k with
  | zero =>
    intro q0 v1 v2 v3 v4 v5 m _ h
    exact h.elim
  | succ k ih =>
    intro q0 v1 v2 v3 v4 v5 m hq0 h
    unfold hX6_knowKept_53 at h
    refine aj_iload C dX6_knowKept_53 rfl ?_
    refine aj_aload_n C dX6_knowKept_55 rfl ?_
    refine aj_getO (x := 0) (y := 0) C flX6_12 hq0 rfl dX6_knowKept_56 ?_
    refine aj_getI C flX6_96 (aj_cf (x := 0) (y := 0) (j := 0) hq0 (by decide) rfl) (by decide) dX6_knowKept_59 rfl ?_
    obtain ⟨r0, r1, h1, h2⟩ := h
    refine aj_icmp_ge (tgt := 113) C dX6_knowKept_62 (by decide) r0 r1 (fun e => ?_) (fun e => ?_)
    · have h := h1 e
      refine aj_aload_n C dX6_knowKept_113 rfl ?_
      refine aj_getA (x := 0) (y := 12) C flX6_54 hq0 rfl dX6_knowKept_114 ?_
      refine aj_iload_n C dX6_knowKept_117 rfl ?_
      refine aj_iload C dX6_knowKept_118 rfl ?_
      obtain ⟨r0, h⟩ := h
      refine aj_iast C (aj_ca (e := 0) (n := 12) (j := 11) hq0 (by decide) rfl) (by decide) r0 dX6_knowKept_120 ?_
      refine aj_nm (fun m1 e1 => ?_)
      have h := h m1 e1
      refine aj_iinc (lv' := [some (vO 6 q0), some (vI v1), some (vI v2), some (vI (v3 + 1)), some (vI v4), some (vI v5)]) C dX6_knowKept_121 rfl (by decide) rfl ?_
      refine aj_goto (tgt := 39) C dX6_knowKept_124 (by decide) ?_
      refine aj_wk (lv' := [some (vO 6 q0), some (vI v1), some (vI v2), some (vI (v3 + 1)), none, none]) (⟨rfl, ⟨rfl, ⟨rfl, ⟨rfl, trivial⟩⟩⟩⟩) ?_
      exact HK39 q0 v1 v2 (v3 + 1) _ hq0 h
    · have h := h2 e
      refine aj_iload_n C dX6_knowKept_65 rfl ?_
      obtain ⟨r0, h1, h2⟩ := h
      refine aj_if_eq (tgt := 98) C dX6_knowKept_66 (by decide) r0 (fun e => ?_) (fun e => ?_)
      · have h := h1 e
        refine aj_iload C dX6_knowKept_98 rfl ?_
        refine aj_iconst C dX6_knowKept_100 ?_
        refine aj_iload C dX6_knowKept_101 rfl ?_
        refine aj_ishl C dX6_knowKept_103 ?_
        refine aj_ior C dX6_knowKept_104 ?_
        refine aj_istore (lv' := [some (vO 6 q0), some (vI v1), some (vI v2), some (vI v3), some (vI (aj_or v4 (aj_shl 1 v5))), some (vI v5)]) C dX6_knowKept_105 (by decide) rfl ?_
        refine aj_iinc (lv' := [some (vO 6 q0), some (vI v1), some (vI v2), some (vI v3), some (vI (aj_or v4 (aj_shl 1 v5))), some (vI (v5 + 1))]) C dX6_knowKept_107 rfl (by decide) rfl ?_
        refine aj_goto (tgt := 53) C dX6_knowKept_110 (by decide) ?_
        exact ih q0 v1 v2 v3 (aj_or v4 (aj_shl 1 v5)) (v5 + 1) _ hq0 h
      · have h := h2 e
        refine aj_aload_n C dX6_knowKept_69 rfl ?_
        refine aj_getO (x := 4) (y := 0) C flX6_21 hq0 rfl dX6_knowKept_70 ?_
        refine aj_aload_n C dX6_knowKept_73 rfl ?_
        refine aj_getO (x := 4) (y := 0) C flX6_21 hq0 rfl dX6_knowKept_74 ?_
        refine aj_getI C flX6_93 (aj_cf (x := 4) (y := 0) (j := 1) hq0 (by decide) rfl) (by decide) dX6_knowKept_77 rfl ?_
        refine aj_aload_n C dX6_knowKept_80 rfl ?_
        refine aj_getO (x := 4) (y := 0) C flX6_21 hq0 rfl dX6_knowKept_81 ?_
        refine aj_getI C flX6_90 (aj_cf (x := 4) (y := 0) (j := 1) hq0 (by decide) rfl) (by decide) dX6_knowKept_84 rfl ?_
        refine aj_aload_n C dX6_knowKept_87 rfl ?_
        refine aj_iload_n C dX6_knowKept_88 rfl ?_
        refine aj_iload C dX6_knowKept_89 rfl ?_
        refine aj_iload_n C dX6_knowKept_91 rfl ?_
        refine aj_callV (rest := []) C mvX6_99 (sX4_value (aj_cf (x := 4) (y := 0) (j := 1) hq0 (by decide) rfl) hq0 h) (aj_cf (x := 4) (y := 0) (j := 1) hq0 (by decide) rfl) (aj_np 6 (by decide +kernel) rfl) (Nat.le_of_ble_eq_true rfl) rfl dX6_knowKept_92 (fun r m2 h => ?_)
        obtain ⟨z1, rfl, h⟩ := h
        obtain ⟨r0, h1, h2⟩ := h
        refine aj_if_eq (tgt := 107) C dX6_knowKept_95 (by decide) r0 (fun e => ?_) (fun e => ?_)
        · have h := h1 e
          refine aj_iinc (lv' := [some (vO 6 q0), some (vI v1), some (vI v2), some (vI v3), some (vI v4), some (vI (v5 + 1))]) C dX6_knowKept_107 rfl (by decide) rfl ?_
          refine aj_goto (tgt := 53) C dX6_knowKept_110 (by decide) ?_
          exact ih q0 v1 v2 v3 v4 (v5 + 1) _ hq0 h
        · have h := h2 e
          refine aj_iload C dX6_knowKept_98 rfl ?_
          refine aj_iconst C dX6_knowKept_100 ?_
          refine aj_iload C dX6_knowKept_101 rfl ?_
          refine aj_ishl C dX6_knowKept_103 ?_
          refine aj_ior C dX6_knowKept_104 ?_
          refine aj_istore (lv' := [some (vO 6 q0), some (vI v1), some (vI v2), some (vI v3), some (vI (aj_or v4 (aj_shl 1 v5))), some (vI v5)]) C dX6_knowKept_105 (by decide) rfl ?_
          refine aj_iinc (lv' := [some (vO 6 q0), some (vI v1), some (vI v2), some (vI v3), some (vI (aj_or v4 (aj_shl 1 v5))), some (vI (v5 + 1))]) C dX6_knowKept_107 rfl (by decide) rfl ?_
          refine aj_goto (tgt := 53) C dX6_knowKept_110 (by decide) ?_
          exact ih q0 v1 v2 v3 (aj_or v4 (aj_shl 1 v5)) (v5 + 1) _ hq0 h
def hX6_knowKept_39 (f : Nat) (Φ : aj_M → Prop) : Nat → List Nat → Int → Int → Int → aj_M → Prop
  | 0, _, _, _, _, _ => False
  | k + 1, q0, v1, v2, v3, m => rI v3 ∧ rI (m q0 4) ∧ ((m q0 4) ≤ v3 → Φ m) ∧ (¬ ((m q0 4) ≤ v3) → hX6_knowKept_53 f Φ (fun q0 v1 v2 v3 m => hX6_knowKept_39 f Φ k q0 v1 v2 v3 m) f q0 v1 v2 v3 0 0 m)
set_option maxHeartbeats 4000000 in
set_option maxRecDepth 100000 in
theorem tX6_knowKept_39 {X : aj_T} {n f : Nat} {Φ : aj_M → Prop} (C : aj_Cx X cX6_knowKept RX6 6 (n + 2)) (K : aj_Rt X none (fun r m => r = none ∧ Φ m)) : ∀ (k : Nat) (q0 : List Nat) (v1 : Int) (v2 : Int) (v3 : Int) (m : aj_M) (hq0 : (.inl (6, q0) : aj_R) ∈ aj_pls), hX6_knowKept_39 f Φ k q0 v1 v2 v3 m → aj_J X 39 [some (vO 6 q0), some (vI v1), some (vI v2), some (vI v3), none, none] [] m := by
  intro k
  induction k with
  | zero =>
    intro q0 v1 v2 v3 m _ h
    exact h.elim
  | succ k ih =>
    intro q0 v1 v2 v3 m hq0 h
    unfold hX6_knowKept_39 at h
    refine aj_iload_n C dX6_knowKept_39 rfl ?_
    refine aj_aload_n C dX6_knowKept_40 rfl ?_
    refine aj_getI C flX6_32 hq0 (by decide) dX6_knowKept_41 rfl ?_
    obtain ⟨r0, r1, h1, h2⟩ := h
    refine aj_icmp_ge (tgt := 127) C dX6_knowKept_44 (by decide) r0 r1 (fun e => ?_) (fun e => ?_)
    · have h := h1 e
      exact aj_vret C K dX6_knowKept_127 ⟨rfl, h⟩
    · have h := h2 e
      refine aj_iconst C dX6_knowKept_47 ?_
      refine aj_istore (lv' := [some (vO 6 q0), some (vI v1), some (vI v2), some (vI v3), some (vI 0), none]) C dX6_knowKept_48 (by decide) rfl ?_
      refine aj_iconst C dX6_knowKept_50 ?_
      refine aj_istore (lv' := [some (vO 6 q0), some (vI v1), some (vI v2), some (vI v3), some (vI 0), some (vI 0)]) C dX6_knowKept_51 (by decide) rfl ?_
      exact tX6_knowKept_53 C K (fun q0 v1 v2 v3 m hq0 hh => ih q0 v1 v2 v3 m hq0 hh) f q0 v1 v2 v3 0 0 _ hq0 h
def wX6_knowKept (f : Nat) (Φ : aj_M → Prop) (q0 : List Nat) (v1 : Int) (m : aj_M) : Prop := rI (m q0 10) ∧ rI v1 ∧ (¬ (m q0 10) = v1 → ∀ m1, m1 = aj_u m q0 10 v1 → rI (m1 (1 :: q0) 3) ∧ rI (m1 (1 :: q0) 2) ∧ ((m1 (1 :: q0) 3) ≤ (m1 (1 :: q0) 2) → hX6_knowKept_39 f Φ f q0 v1 0 0 m1) ∧ (¬ ((m1 (1 :: q0) 3) ≤ (m1 (1 :: q0) 2)) → hX6_knowKept_39 f Φ f q0 v1 1 0 m1)) ∧ ((m q0 10) = v1 → Φ m)
set_option maxHeartbeats 4000000 in
set_option maxRecDepth 100000 in
theorem sX6_knowKept {n f : Nat} {Φ : aj_M → Prop} {q0 : List Nat} {v1 : Int} {m : aj_M} (hq0 : (.inl (6, q0) : aj_R) ∈ aj_pls) (h : wX6_knowKept f Φ q0 v1 m) : aj_Ct (n + 2) yX6_knowKept cX6_knowKept 6 none [vO 6 q0, vI v1] m (fun r m => r = none ∧ Φ m) := by
  refine aj_met (lv := [some (vO 6 q0), some (vI v1), none, none, none, none]) (by decide +kernel) rfl (Nat.le_of_ble_eq_true rfl) (fun X C K => ?_)
  unfold wX6_knowKept at h
  refine aj_aload_n C dX6_knowKept_0 rfl ?_
  refine aj_getI C flX6_51 hq0 (by decide) dX6_knowKept_1 rfl ?_
  refine aj_iload_n C dX6_knowKept_4 rfl ?_
  obtain ⟨r0, r1, h1, h2⟩ := h
  refine aj_icmp_ne (tgt := 9) C dX6_knowKept_5 (by decide) r0 r1 (fun e => ?_) (fun e => ?_)
  · have h := h1 e
    refine aj_aload_n C dX6_knowKept_9 rfl ?_
    refine aj_iload_n C dX6_knowKept_10 rfl ?_
    refine aj_putI C fpX6_51 hq0 rfl dX6_knowKept_11 ?_
    refine aj_nm (fun m1 e1 => ?_)
    have h := h m1 e1
    refine aj_aload_n C dX6_knowKept_14 rfl ?_
    refine aj_getO (x := 4) (y := 0) C flX6_21 hq0 rfl dX6_knowKept_15 ?_
    refine aj_getI C flX6_90 (aj_cf (x := 4) (y := 0) (j := 1) hq0 (by decide) rfl) (by decide) dX6_knowKept_18 rfl ?_
    refine aj_aload_n C dX6_knowKept_21 rfl ?_
    refine aj_getO (x := 4) (y := 0) C flX6_21 hq0 rfl dX6_knowKept_22 ?_
    refine aj_getI C flX6_93 (aj_cf (x := 4) (y := 0) (j := 1) hq0 (by decide) rfl) (by decide) dX6_knowKept_25 rfl ?_
    obtain ⟨r0, r1, h1, h2⟩ := h
    refine aj_icmp_le (tgt := 35) C dX6_knowKept_28 (by decide) r0 r1 (fun e => ?_) (fun e => ?_)
    · have h := h1 e
      refine aj_iconst C dX6_knowKept_35 ?_
      refine aj_istore_n (lv' := [some (vO 6 q0), some (vI v1), some (vI 0), none, none, none]) C dX6_knowKept_36 (by decide) rfl ?_
      refine aj_iconst C dX6_knowKept_37 ?_
      refine aj_istore_n (lv' := [some (vO 6 q0), some (vI v1), some (vI 0), some (vI 0), none, none]) C dX6_knowKept_38 (by decide) rfl ?_
      exact tX6_knowKept_39 C K f q0 v1 0 0 _ hq0 h
    · have h := h2 e
      refine aj_iconst C dX6_knowKept_31 ?_
      refine aj_goto (tgt := 36) C dX6_knowKept_32 (by decide) ?_
      refine aj_istore_n (lv' := [some (vO 6 q0), some (vI v1), some (vI 1), none, none, none]) C dX6_knowKept_36 (by decide) rfl ?_
      refine aj_iconst C dX6_knowKept_37 ?_
      refine aj_istore_n (lv' := [some (vO 6 q0), some (vI v1), some (vI 1), some (vI 0), none, none]) C dX6_knowKept_38 (by decide) rfl ?_
      exact tX6_knowKept_39 C K f q0 v1 1 0 _ hq0 h
  · have h := h2 e
    exact aj_vret C K dX6_knowKept_8 ⟨rfl, h⟩
theorem dX9_isOut_0 : decode cX9_isOut 0 = .ok (.aload_n 0, 1) := by decide +kernel
theorem dX9_isOut_1 : decode cX9_isOut 1 = .ok (.getfield 15, 3) := by decide +kernel
theorem dX9_isOut_4 : decode cX9_isOut 4 = .ok (.iload_n 1, 1) := by decide +kernel
theorem dX9_isOut_5 : decode cX9_isOut 5 = .ok (.ishr, 1) := by decide +kernel
theorem dX9_isOut_6 : decode cX9_isOut 6 = .ok (.iconst 1, 1) := by decide +kernel
theorem dX9_isOut_7 : decode cX9_isOut 7 = .ok (.iand, 1) := by decide +kernel
theorem dX9_isOut_8 : decode cX9_isOut 8 = .ok (.iconst 1, 1) := by decide +kernel
theorem dX9_isOut_9 : decode cX9_isOut 9 = .ok (.if_icmp .ne 7, 3) := by decide +kernel
theorem dX9_isOut_12 : decode cX9_isOut 12 = .ok (.iconst 1, 1) := by decide +kernel
theorem dX9_isOut_13 : decode cX9_isOut 13 = .ok (.goto 4, 3) := by decide +kernel
theorem dX9_isOut_16 : decode cX9_isOut 16 = .ok (.iconst 0, 1) := by decide +kernel
theorem dX9_isOut_17 : decode cX9_isOut 17 = .ok (.ireturn, 1) := by decide +kernel
def wX9_isOut (f : Nat) (Φ : Int → aj_M → Prop) (q0 : List Nat) (v1 : Int) (m : aj_M) : Prop := rI (aj_and (aj_shr (m q0 1) v1) 1) ∧ (¬ (aj_and (aj_shr (m q0 1) v1) 1) = 1 → Φ 0 m) ∧ ((aj_and (aj_shr (m q0 1) v1) 1) = 1 → Φ 1 m)
set_option maxHeartbeats 4000000 in
set_option maxRecDepth 100000 in
theorem sX9_isOut {n f : Nat} {Φ : Int → aj_M → Prop} {q0 : List Nat} {v1 : Int} {m : aj_M} (hq0 : (.inl (9, q0) : aj_R) ∈ aj_pls) (h : wX9_isOut f Φ q0 v1 m) : aj_Ct n yX9_isOut cX9_isOut 2 (some .boolean) [vO 9 q0, vI v1] m (fun r m => ∃ z, r = some (vI z) ∧ Φ z m) := by
  refine aj_met (lv := [some (vO 9 q0), some (vI v1)]) (by decide +kernel) rfl (Nat.le_of_ble_eq_true rfl) (fun X C K => ?_)
  unfold wX9_isOut at h
  refine aj_aload_n C dX9_isOut_0 rfl ?_
  refine aj_getI C flX9_15 hq0 (by decide) dX9_isOut_1 rfl ?_
  refine aj_iload_n C dX9_isOut_4 rfl ?_
  refine aj_ishr C dX9_isOut_5 ?_
  refine aj_iconst C dX9_isOut_6 ?_
  refine aj_iand C dX9_isOut_7 ?_
  refine aj_iconst C dX9_isOut_8 ?_
  obtain ⟨r0, h1, h2⟩ := h
  refine aj_icmp_ne (tgt := 16) C dX9_isOut_9 (by decide) r0 (by decide) (fun e => ?_) (fun e => ?_)
  · have h := h1 e
    refine aj_iconst C dX9_isOut_16 ?_
    exact aj_zret C K (Or.inl rfl) dX9_isOut_17 ⟨_, rfl, h⟩
  · have h := h2 e
    refine aj_iconst C dX9_isOut_12 ?_
    refine aj_goto (tgt := 17) C dX9_isOut_13 (by decide) ?_
    exact aj_zret C K (Or.inr rfl) dX9_isOut_17 ⟨_, rfl, h⟩
theorem dX6_hasArc_0 : decode cX6_hasArc 0 = .ok (.iload_n 1, 1) := by decide +kernel
theorem dX6_hasArc_1 : decode cX6_hasArc 1 = .ok (.ifCond .lt 15, 3) := by decide +kernel
theorem dX6_hasArc_4 : decode cX6_hasArc 4 = .ok (.iload_n 1, 1) := by decide +kernel
theorem dX6_hasArc_5 : decode cX6_hasArc 5 = .ok (.aload_n 0, 1) := by decide +kernel
theorem dX6_hasArc_6 : decode cX6_hasArc 6 = .ok (.getfield 32, 3) := by decide +kernel
theorem dX6_hasArc_9 : decode cX6_hasArc 9 = .ok (.if_icmp .ge 7, 3) := by decide +kernel
theorem dX6_hasArc_12 : decode cX6_hasArc 12 = .ok (.iconst 1, 1) := by decide +kernel
theorem dX6_hasArc_13 : decode cX6_hasArc 13 = .ok (.goto 4, 3) := by decide +kernel
theorem dX6_hasArc_16 : decode cX6_hasArc 16 = .ok (.iconst 0, 1) := by decide +kernel
theorem dX6_hasArc_17 : decode cX6_hasArc 17 = .ok (.ireturn, 1) := by decide +kernel
def wX6_hasArc (f : Nat) (Φ : Int → aj_M → Prop) (q0 : List Nat) (v1 : Int) (m : aj_M) : Prop := rI v1 ∧ (v1 < 0 → Φ 0 m) ∧ (¬ (v1 < 0) → rI v1 ∧ rI (m q0 4) ∧ ((m q0 4) ≤ v1 → Φ 0 m) ∧ (¬ ((m q0 4) ≤ v1) → Φ 1 m))
set_option maxHeartbeats 4000000 in
set_option maxRecDepth 100000 in
theorem sX6_hasArc {n f : Nat} {Φ : Int → aj_M → Prop} {q0 : List Nat} {v1 : Int} {m : aj_M} (hq0 : (.inl (6, q0) : aj_R) ∈ aj_pls) (h : wX6_hasArc f Φ q0 v1 m) : aj_Ct n yX6_hasArc cX6_hasArc 2 (some .boolean) [vO 6 q0, vI v1] m (fun r m => ∃ z, r = some (vI z) ∧ Φ z m) := by
  refine aj_met (lv := [some (vO 6 q0), some (vI v1)]) (by decide +kernel) rfl (Nat.le_of_ble_eq_true rfl) (fun X C K => ?_)
  unfold wX6_hasArc at h
  refine aj_iload_n C dX6_hasArc_0 rfl ?_
  obtain ⟨r0, h1, h2⟩ := h
  refine aj_if_lt (tgt := 16) C dX6_hasArc_1 (by decide) r0 (fun e => ?_) (fun e => ?_)
  · have h := h1 e
    refine aj_iconst C dX6_hasArc_16 ?_
    exact aj_zret C K (Or.inl rfl) dX6_hasArc_17 ⟨_, rfl, h⟩
  · have h := h2 e
    refine aj_iload_n C dX6_hasArc_4 rfl ?_
    refine aj_aload_n C dX6_hasArc_5 rfl ?_
    refine aj_getI C flX6_32 hq0 (by decide) dX6_hasArc_6 rfl ?_
    obtain ⟨r0, r1, h1, h2⟩ := h
    refine aj_icmp_ge (tgt := 16) C dX6_hasArc_9 (by decide) r0 r1 (fun e => ?_) (fun e => ?_)
    · have h := h1 e
      refine aj_iconst C dX6_hasArc_16 ?_
      exact aj_zret C K (Or.inl rfl) dX6_hasArc_17 ⟨_, rfl, h⟩
    · have h := h2 e
      refine aj_iconst C dX6_hasArc_12 ?_
      refine aj_goto (tgt := 17) C dX6_hasArc_13 (by decide) ?_
      exact aj_zret C K (Or.inr rfl) dX6_hasArc_17 ⟨_, rfl, h⟩
theorem dX6_isHalf_0 : decode cX6_isHalf 0 = .ok (.aload_n 0, 1) := by decide +kernel
theorem dX6_isHalf_1 : decode cX6_isHalf 1 = .ok (.iload_n 1, 1) := by decide +kernel
theorem dX6_isHalf_2 : decode cX6_isHalf 2 = .ok (.invokevirtual 77, 3) := by decide +kernel
theorem dX6_isHalf_5 : decode cX6_isHalf 5 = .ok (.ifCond .eq 19, 3) := by decide +kernel
theorem dX6_isHalf_8 : decode cX6_isHalf 8 = .ok (.aload_n 0, 1) := by decide +kernel
theorem dX6_isHalf_9 : decode cX6_isHalf 9 = .ok (.getfield 38, 3) := by decide +kernel
theorem dX6_isHalf_12 : decode cX6_isHalf 12 = .ok (.iload_n 1, 1) := by decide +kernel
theorem dX6_isHalf_13 : decode cX6_isHalf 13 = .ok (.ishr, 1) := by decide +kernel
theorem dX6_isHalf_14 : decode cX6_isHalf 14 = .ok (.iconst 1, 1) := by decide +kernel
theorem dX6_isHalf_15 : decode cX6_isHalf 15 = .ok (.iand, 1) := by decide +kernel
theorem dX6_isHalf_16 : decode cX6_isHalf 16 = .ok (.iconst 1, 1) := by decide +kernel
theorem dX6_isHalf_17 : decode cX6_isHalf 17 = .ok (.if_icmp .ne 7, 3) := by decide +kernel
theorem dX6_isHalf_20 : decode cX6_isHalf 20 = .ok (.iconst 1, 1) := by decide +kernel
theorem dX6_isHalf_21 : decode cX6_isHalf 21 = .ok (.goto 4, 3) := by decide +kernel
theorem dX6_isHalf_24 : decode cX6_isHalf 24 = .ok (.iconst 0, 1) := by decide +kernel
theorem dX6_isHalf_25 : decode cX6_isHalf 25 = .ok (.ireturn, 1) := by decide +kernel
def wX6_isHalf (f : Nat) (Φ : Int → aj_M → Prop) (q0 : List Nat) (v1 : Int) (m : aj_M) : Prop := wX6_hasArc f (fun z1 m1 => rI z1 ∧ (z1 = 0 → Φ 0 m1) ∧ (¬ (z1 = 0) → rI (aj_and (aj_shr (m1 q0 6) v1) 1) ∧ (¬ (aj_and (aj_shr (m1 q0 6) v1) 1) = 1 → Φ 0 m1) ∧ ((aj_and (aj_shr (m1 q0 6) v1) 1) = 1 → Φ 1 m1))) q0 v1 m
set_option maxHeartbeats 4000000 in
set_option maxRecDepth 100000 in
theorem sX6_isHalf {n f : Nat} {Φ : Int → aj_M → Prop} {q0 : List Nat} {v1 : Int} {m : aj_M} (hq0 : (.inl (6, q0) : aj_R) ∈ aj_pls) (h : wX6_isHalf f Φ q0 v1 m) : aj_Ct (n + 1) yX6_isHalf cX6_isHalf 2 (some .boolean) [vO 6 q0, vI v1] m (fun r m => ∃ z, r = some (vI z) ∧ Φ z m) := by
  refine aj_met (lv := [some (vO 6 q0), some (vI v1)]) (by decide +kernel) rfl (Nat.le_of_ble_eq_true rfl) (fun X C K => ?_)
  unfold wX6_isHalf at h
  refine aj_aload_n C dX6_isHalf_0 rfl ?_
  refine aj_iload_n C dX6_isHalf_1 rfl ?_
  refine aj_callV (rest := []) C mvX6_77 (sX6_hasArc hq0 h) hq0 (aj_np 1 (by decide +kernel) rfl) (Nat.le_of_ble_eq_true rfl) rfl dX6_isHalf_2 (fun r m1 h => ?_)
  obtain ⟨z1, rfl, h⟩ := h
  obtain ⟨r0, h1, h2⟩ := h
  refine aj_if_eq (tgt := 24) C dX6_isHalf_5 (by decide) r0 (fun e => ?_) (fun e => ?_)
  · have h := h1 e
    refine aj_iconst C dX6_isHalf_24 ?_
    exact aj_zret C K (Or.inl rfl) dX6_isHalf_25 ⟨_, rfl, h⟩
  · have h := h2 e
    refine aj_aload_n C dX6_isHalf_8 rfl ?_
    refine aj_getI C flX6_38 hq0 (by decide) dX6_isHalf_9 rfl ?_
    refine aj_iload_n C dX6_isHalf_12 rfl ?_
    refine aj_ishr C dX6_isHalf_13 ?_
    refine aj_iconst C dX6_isHalf_14 ?_
    refine aj_iand C dX6_isHalf_15 ?_
    refine aj_iconst C dX6_isHalf_16 ?_
    obtain ⟨r0, h1, h2⟩ := h
    refine aj_icmp_ne (tgt := 24) C dX6_isHalf_17 (by decide) r0 (by decide) (fun e => ?_) (fun e => ?_)
    · have h := h1 e
      refine aj_iconst C dX6_isHalf_24 ?_
      exact aj_zret C K (Or.inl rfl) dX6_isHalf_25 ⟨_, rfl, h⟩
    · have h := h2 e
      refine aj_iconst C dX6_isHalf_20 ?_
      refine aj_goto (tgt := 25) C dX6_isHalf_21 (by decide) ?_
      exact aj_zret C K (Or.inr rfl) dX6_isHalf_25 ⟨_, rfl, h⟩
theorem dX5_has_0 : decode cX5_has 0 = .ok (.iload_n 1, 1) := by decide +kernel
theorem dX5_has_1 : decode cX5_has 1 = .ok (.ifCond .lt 15, 3) := by decide +kernel
theorem dX5_has_4 : decode cX5_has 4 = .ok (.iload_n 1, 1) := by decide +kernel
theorem dX5_has_5 : decode cX5_has 5 = .ok (.aload_n 0, 1) := by decide +kernel
theorem dX5_has_6 : decode cX5_has 6 = .ok (.getfield 9, 3) := by decide +kernel
theorem dX5_has_9 : decode cX5_has 9 = .ok (.if_icmp .ge 7, 3) := by decide +kernel
theorem dX5_has_12 : decode cX5_has 12 = .ok (.iconst 1, 1) := by decide +kernel
theorem dX5_has_13 : decode cX5_has 13 = .ok (.goto 4, 3) := by decide +kernel
theorem dX5_has_16 : decode cX5_has 16 = .ok (.iconst 0, 1) := by decide +kernel
theorem dX5_has_17 : decode cX5_has 17 = .ok (.ireturn, 1) := by decide +kernel
def wX5_has (f : Nat) (Φ : Int → aj_M → Prop) (q0 : List Nat) (v1 : Int) (m : aj_M) : Prop := rI v1 ∧ (v1 < 0 → Φ 0 m) ∧ (¬ (v1 < 0) → rI v1 ∧ rI (m q0 0) ∧ ((m q0 0) ≤ v1 → Φ 0 m) ∧ (¬ ((m q0 0) ≤ v1) → Φ 1 m))
set_option maxHeartbeats 4000000 in
set_option maxRecDepth 100000 in
theorem sX5_has {n f : Nat} {Φ : Int → aj_M → Prop} {q0 : List Nat} {v1 : Int} {m : aj_M} (hq0 : (.inl (5, q0) : aj_R) ∈ aj_pls) (h : wX5_has f Φ q0 v1 m) : aj_Ct n yX5_has cX5_has 2 (some .boolean) [vO 5 q0, vI v1] m (fun r m => ∃ z, r = some (vI z) ∧ Φ z m) := by
  refine aj_met (lv := [some (vO 5 q0), some (vI v1)]) (by decide +kernel) rfl (Nat.le_of_ble_eq_true rfl) (fun X C K => ?_)
  unfold wX5_has at h
  refine aj_iload_n C dX5_has_0 rfl ?_
  obtain ⟨r0, h1, h2⟩ := h
  refine aj_if_lt (tgt := 16) C dX5_has_1 (by decide) r0 (fun e => ?_) (fun e => ?_)
  · have h := h1 e
    refine aj_iconst C dX5_has_16 ?_
    exact aj_zret C K (Or.inl rfl) dX5_has_17 ⟨_, rfl, h⟩
  · have h := h2 e
    refine aj_iload_n C dX5_has_4 rfl ?_
    refine aj_aload_n C dX5_has_5 rfl ?_
    refine aj_getI C flX5_9 hq0 (by decide) dX5_has_6 rfl ?_
    obtain ⟨r0, r1, h1, h2⟩ := h
    refine aj_icmp_ge (tgt := 16) C dX5_has_9 (by decide) r0 r1 (fun e => ?_) (fun e => ?_)
    · have h := h1 e
      refine aj_iconst C dX5_has_16 ?_
      exact aj_zret C K (Or.inl rfl) dX5_has_17 ⟨_, rfl, h⟩
    · have h := h2 e
      refine aj_iconst C dX5_has_12 ?_
      refine aj_goto (tgt := 17) C dX5_has_13 (by decide) ?_
      exact aj_zret C K (Or.inr rfl) dX5_has_17 ⟨_, rfl, h⟩
