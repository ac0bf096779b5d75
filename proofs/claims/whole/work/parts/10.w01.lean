theorem dX2_canBe_0 : decode cX2_canBe 0 = .ok (.iload_n 0, 1) := by decide +kernel
theorem dX2_canBe_1 : decode cX2_canBe 1 = .ok (.iconst 2, 1) := by decide +kernel
theorem dX2_canBe_2 : decode cX2_canBe 2 = .ok (.if_icmp .lt 34, 3) := by decide +kernel
theorem dX2_canBe_5 : decode cX2_canBe 5 = .ok (.iload_n 0, 1) := by decide +kernel
theorem dX2_canBe_6 : decode cX2_canBe 6 = .ok (.iconst 4, 1) := by decide +kernel
theorem dX2_canBe_7 : decode cX2_canBe 7 = .ok (.if_icmp .gt 29, 3) := by decide +kernel
theorem dX2_canBe_10 : decode cX2_canBe 10 = .ok (.iload_n 1, 1) := by decide +kernel
theorem dX2_canBe_11 : decode cX2_canBe 11 = .ok (.iconst 3, 1) := by decide +kernel
theorem dX2_canBe_12 : decode cX2_canBe 12 = .ok (.if_icmp .lt 24, 3) := by decide +kernel
theorem dX2_canBe_15 : decode cX2_canBe 15 = .ok (.iload_n 1, 1) := by decide +kernel
theorem dX2_canBe_16 : decode cX2_canBe 16 = .ok (.bipush 8, 2) := by decide +kernel
theorem dX2_canBe_18 : decode cX2_canBe 18 = .ok (.if_icmp .gt 18, 3) := by decide +kernel
theorem dX2_canBe_21 : decode cX2_canBe 21 = .ok (.iload_n 2, 1) := by decide +kernel
theorem dX2_canBe_22 : decode cX2_canBe 22 = .ok (.iconst 1, 1) := by decide +kernel
theorem dX2_canBe_23 : decode cX2_canBe 23 = .ok (.if_icmp .lt 13, 3) := by decide +kernel
theorem dX2_canBe_26 : decode cX2_canBe 26 = .ok (.iload_n 2, 1) := by decide +kernel
theorem dX2_canBe_27 : decode cX2_canBe 27 = .ok (.bipush 14, 2) := by decide +kernel
theorem dX2_canBe_29 : decode cX2_canBe 29 = .ok (.if_icmp .gt 7, 3) := by decide +kernel
theorem dX2_canBe_32 : decode cX2_canBe 32 = .ok (.iconst 1, 1) := by decide +kernel
theorem dX2_canBe_33 : decode cX2_canBe 33 = .ok (.goto 4, 3) := by decide +kernel
theorem dX2_canBe_36 : decode cX2_canBe 36 = .ok (.iconst 0, 1) := by decide +kernel
theorem dX2_canBe_37 : decode cX2_canBe 37 = .ok (.ireturn, 1) := by decide +kernel
def wX2_canBe (f : Nat) (Φ : Int → aj_M → Prop) (v0 : Int) (v1 : Int) (v2 : Int) (m : aj_M) : Prop := rI v0 ∧ (v0 < 2 → Φ 0 m) ∧ (¬ (v0 < 2) → rI v0 ∧ (4 < v0 → Φ 0 m) ∧ (¬ (4 < v0) → rI v1 ∧ (v1 < 3 → Φ 0 m) ∧ (¬ (v1 < 3) → rI v1 ∧ (8 < v1 → Φ 0 m) ∧ (¬ (8 < v1) → rI v2 ∧ (v2 < 1 → Φ 0 m) ∧ (¬ (v2 < 1) → rI v2 ∧ (14 < v2 → Φ 0 m) ∧ (¬ (14 < v2) → Φ 1 m))))))
set_option maxHeartbeats 4000000 in
set_option maxRecDepth 100000 in
theorem sX2_canBe {n f : Nat} {Φ : Int → aj_M → Prop} {v0 : Int} {v1 : Int} {v2 : Int} {m : aj_M}  (h : wX2_canBe f Φ v0 v1 v2 m) : aj_Ct n yX2_canBe cX2_canBe 3 (some .boolean) [vI v0, vI v1, vI v2] m (fun r m => ∃ z, r = some (vI z) ∧ Φ z m) := by
  refine aj_met (lv := [some (vI v0), some (vI v1), some (vI v2)]) (by decide +kernel) rfl (Nat.le_of_ble_eq_true rfl) (fun X C K => ?_)
  unfold wX2_canBe at h
  refine aj_iload_n C dX2_canBe_0 rfl ?_
  refine aj_iconst C dX2_canBe_1 ?_
  obtain ⟨r0, h1, h2⟩ := h
  refine aj_icmp_lt (tgt := 36) C dX2_canBe_2 (by decide) r0 (by decide) (fun e => ?_) (fun e => ?_)
  · have h := h1 e
    refine aj_iconst C dX2_canBe_36 ?_
    exact aj_zret C K (Or.inl rfl) dX2_canBe_37 ⟨_, rfl, h⟩
  · have h := h2 e
    refine aj_iload_n C dX2_canBe_5 rfl ?_
    refine aj_iconst C dX2_canBe_6 ?_
    obtain ⟨r0, h1, h2⟩ := h
    refine aj_icmp_gt (tgt := 36) C dX2_canBe_7 (by decide) r0 (by decide) (fun e => ?_) (fun e => ?_)
    · have h := h1 e
      refine aj_iconst C dX2_canBe_36 ?_
      exact aj_zret C K (Or.inl rfl) dX2_canBe_37 ⟨_, rfl, h⟩
    · have h := h2 e
      refine aj_iload_n C dX2_canBe_10 rfl ?_
      refine aj_iconst C dX2_canBe_11 ?_
      obtain ⟨r0, h1, h2⟩ := h
      refine aj_icmp_lt (tgt := 36) C dX2_canBe_12 (by decide) r0 (by decide) (fun e => ?_) (fun e => ?_)
      · have h := h1 e
        refine aj_iconst C dX2_canBe_36 ?_
        exact aj_zret C K (Or.inl rfl) dX2_canBe_37 ⟨_, rfl, h⟩
      · have h := h2 e
        refine aj_iload_n C dX2_canBe_15 rfl ?_
        refine aj_bipush C dX2_canBe_16 (by decide) ?_
        obtain ⟨r0, h1, h2⟩ := h
        refine aj_icmp_gt (tgt := 36) C dX2_canBe_18 (by decide) r0 (by decide) (fun e => ?_) (fun e => ?_)
        · have h := h1 e
          refine aj_iconst C dX2_canBe_36 ?_
          exact aj_zret C K (Or.inl rfl) dX2_canBe_37 ⟨_, rfl, h⟩
        · have h := h2 e
          refine aj_iload_n C dX2_canBe_21 rfl ?_
          refine aj_iconst C dX2_canBe_22 ?_
          obtain ⟨r0, h1, h2⟩ := h
          refine aj_icmp_lt (tgt := 36) C dX2_canBe_23 (by decide) r0 (by decide) (fun e => ?_) (fun e => ?_)
          · have h := h1 e
            refine aj_iconst C dX2_canBe_36 ?_
            exact aj_zret C K (Or.inl rfl) dX2_canBe_37 ⟨_, rfl, h⟩
          · have h := h2 e
            refine aj_iload_n C dX2_canBe_26 rfl ?_
            refine aj_bipush C dX2_canBe_27 (by decide) ?_
            obtain ⟨r0, h1, h2⟩ := h
            refine aj_icmp_gt (tgt := 36) C dX2_canBe_29 (by decide) r0 (by decide) (fun e => ?_) (fun e => ?_)
            · have h := h1 e
              refine aj_iconst C dX2_canBe_36 ?_
              exact aj_zret C K (Or.inl rfl) dX2_canBe_37 ⟨_, rfl, h⟩
            · have h := h2 e
              refine aj_iconst C dX2_canBe_32 ?_
              refine aj_goto (tgt := 37) C dX2_canBe_33 (by decide) ?_
              exact aj_zret C K (Or.inr rfl) dX2_canBe_37 ⟨_, rfl, h⟩
theorem dJ7_fill_53178_0 : decode cJ7_fill_53178 0 = .ok (.iconst 0, 1) := by decide +kernel
theorem dJ7_fill_53178_1 : decode cJ7_fill_53178 1 = .ok (.istore_n 2, 1) := by decide +kernel
theorem dJ7_fill_53178_2 : decode cJ7_fill_53178 2 = .ok (.aload_n 0, 1) := by decide +kernel
theorem dJ7_fill_53178_3 : decode cJ7_fill_53178 3 = .ok (.arraylength, 1) := by decide +kernel
theorem dJ7_fill_53178_4 : decode cJ7_fill_53178 4 = .ok (.istore_n 3, 1) := by decide +kernel
theorem dJ7_fill_53178_5 : decode cJ7_fill_53178 5 = .ok (.iload_n 2, 1) := by decide +kernel
theorem dJ7_fill_53178_6 : decode cJ7_fill_53178 6 = .ok (.iload_n 3, 1) := by decide +kernel
theorem dJ7_fill_53178_7 : decode cJ7_fill_53178 7 = .ok (.if_icmp .ge 13, 3) := by decide +kernel
theorem dJ7_fill_53178_10 : decode cJ7_fill_53178 10 = .ok (.aload_n 0, 1) := by decide +kernel
theorem dJ7_fill_53178_11 : decode cJ7_fill_53178 11 = .ok (.iload_n 2, 1) := by decide +kernel
theorem dJ7_fill_53178_12 : decode cJ7_fill_53178 12 = .ok (.iload_n 1, 1) := by decide +kernel
theorem dJ7_fill_53178_13 : decode cJ7_fill_53178 13 = .ok (.iastore, 1) := by decide +kernel
theorem dJ7_fill_53178_14 : decode cJ7_fill_53178 14 = .ok (.iinc 2 1, 3) := by decide +kernel
theorem dJ7_fill_53178_17 : decode cJ7_fill_53178 17 = .ok (.goto (-12), 3) := by decide +kernel
theorem dJ7_fill_53178_20 : decode cJ7_fill_53178 20 = .ok (.return_, 1) := by decide +kernel
def hJ7_fill_53178_5 (f : Nat) (Φ : aj_M → Prop) : Nat → Nat → List Nat → Int → Int → Int → aj_M → Prop
  | 0, _, _, _, _, _, _ => False
  | k + 1, ba0, a0, v1, v2, v3, m => rI v2 ∧ rI v3 ∧ (v3 ≤ v2 → Φ m) ∧ (¬ (v3 ≤ v2) → (0 ≤ v2 ∧ v2 < (ba0 : Int)) ∧ ∀ m1, m1 = aj_u m a0 v2.toNat v1 → hJ7_fill_53178_5 f Φ k ba0 a0 v1 (v2 + 1) v3 m1)
set_option maxHeartbeats 4000000 in
set_option maxRecDepth 100000 in
theorem tJ7_fill_53178_5 {X : aj_T} {n f : Nat} {Φ : aj_M → Prop} (C : aj_Cx X cJ7_fill_53178 RJ7 4 n) (K : aj_Rt X none (fun r m => r = none ∧ Φ m)) : ∀ (k : Nat) (ba0 : Nat) (a0 : List Nat) (v1 : Int) (v2 : Int) (v3 : Int) (m : aj_M) (ha0 : (.inr (0, ba0, a0) : aj_R) ∈ aj_pls) (hba0 : ba0 < 2147483648), hJ7_fill_53178_5 f Φ k ba0 a0 v1 v2 v3 m → aj_J X 5 [some (vA 0 ba0 a0), some (vI v1), some (vI v2), some (vI v3)] [] m := by
  intro k
  induction k with
  | zero =>
    intro ba0 a0 v1 v2 v3 m _ _ h
    exact h.elim
  | succ k ih =>
    intro ba0 a0 v1 v2 v3 m ha0 hba0 h
    unfold hJ7_fill_53178_5 at h
    refine aj_iload_n C dJ7_fill_53178_5 rfl ?_
    refine aj_iload_n C dJ7_fill_53178_6 rfl ?_
    obtain ⟨r0, r1, h1, h2⟩ := h
    refine aj_icmp_ge (tgt := 20) C dJ7_fill_53178_7 (by decide) r0 r1 (fun e => ?_) (fun e => ?_)
    · have h := h1 e
      exact aj_vret C K dJ7_fill_53178_20 ⟨rfl, h⟩
    · have h := h2 e
      refine aj_aload_n C dJ7_fill_53178_10 rfl ?_
      refine aj_iload_n C dJ7_fill_53178_11 rfl ?_
      refine aj_iload_n C dJ7_fill_53178_12 rfl ?_
      obtain ⟨r0, h⟩ := h
      refine aj_iast C ha0 hba0 r0 dJ7_fill_53178_13 ?_
      refine aj_nm (fun m1 e1 => ?_)
      have h := h m1 e1
      refine aj_iinc (lv' := [some (vA 0 ba0 a0), some (vI v1), some (vI (v2 + 1)), some (vI v3)]) C dJ7_fill_53178_14 rfl (by decide) rfl ?_
      refine aj_goto (tgt := 5) C dJ7_fill_53178_17 (by decide) ?_
      exact ih ba0 a0 v1 (v2 + 1) v3 _ ha0 hba0 h
def wJ7_fill_53178 (f : Nat) (Φ : aj_M → Prop) (ba0 : Nat) (a0 : List Nat) (v1 : Int) (m : aj_M) : Prop := hJ7_fill_53178_5 f Φ f ba0 a0 v1 0 (ba0 : Int) m
set_option maxHeartbeats 4000000 in
set_option maxRecDepth 100000 in
theorem sJ7_fill_53178 {n f : Nat} {Φ : aj_M → Prop} {ba0 : Nat} {a0 : List Nat} {v1 : Int} {m : aj_M} (ha0 : (.inr (0, ba0, a0) : aj_R) ∈ aj_pls) (hba0 : ba0 < 2147483648) (h : wJ7_fill_53178 f Φ ba0 a0 v1 m) : aj_Ct n yJ7_fill_53178 cJ7_fill_53178 4 none [vA 0 ba0 a0, vI v1] m (fun r m => r = none ∧ Φ m) := by
  refine aj_met (lv := [some (vA 0 ba0 a0), some (vI v1), none, none]) (by decide +kernel) rfl (Nat.le_of_ble_eq_true rfl) (fun X C K => ?_)
  unfold wJ7_fill_53178 at h
  refine aj_iconst C dJ7_fill_53178_0 ?_
  refine aj_istore_n (lv' := [some (vA 0 ba0 a0), some (vI v1), some (vI 0), none]) C dJ7_fill_53178_1 (by decide) rfl ?_
  refine aj_aload_n C dJ7_fill_53178_2 rfl ?_
  refine aj_alen C ha0 (fun _ => rfl) dJ7_fill_53178_3 ?_
  refine aj_istore_n (lv' := [some (vA 0 ba0 a0), some (vI v1), some (vI 0), some (vI (ba0 : Int))]) C dJ7_fill_53178_4 (by decide) rfl ?_
  exact tJ7_fill_53178_5 C K f ba0 a0 v1 0 (ba0 : Int) _ ha0 hba0 h
theorem dJ6_bitCount_0f7a4_0 : decode cJ6_bitCount_0f7a4 0 = .ok (.iload_n 0, 1) := by decide +kernel
theorem dJ6_bitCount_0f7a4_1 : decode cJ6_bitCount_0f7a4 1 = .ok (.iload_n 0, 1) := by decide +kernel
theorem dJ6_bitCount_0f7a4_2 : decode cJ6_bitCount_0f7a4 2 = .ok (.iconst 1, 1) := by decide +kernel
theorem dJ6_bitCount_0f7a4_3 : decode cJ6_bitCount_0f7a4 3 = .ok (.iushr, 1) := by decide +kernel
theorem dJ6_bitCount_0f7a4_4 : decode cJ6_bitCount_0f7a4 4 = .ok (.ldc_w 265, 3) := by decide +kernel
theorem dJ6_bitCount_0f7a4_7 : decode cJ6_bitCount_0f7a4 7 = .ok (.iand, 1) := by decide +kernel
theorem dJ6_bitCount_0f7a4_8 : decode cJ6_bitCount_0f7a4 8 = .ok (.isub, 1) := by decide +kernel
theorem dJ6_bitCount_0f7a4_9 : decode cJ6_bitCount_0f7a4 9 = .ok (.istore_n 0, 1) := by decide +kernel
theorem dJ6_bitCount_0f7a4_10 : decode cJ6_bitCount_0f7a4 10 = .ok (.iload_n 0, 1) := by decide +kernel
theorem dJ6_bitCount_0f7a4_11 : decode cJ6_bitCount_0f7a4 11 = .ok (.ldc_w 266, 3) := by decide +kernel
theorem dJ6_bitCount_0f7a4_14 : decode cJ6_bitCount_0f7a4 14 = .ok (.iand, 1) := by decide +kernel
theorem dJ6_bitCount_0f7a4_15 : decode cJ6_bitCount_0f7a4 15 = .ok (.iload_n 0, 1) := by decide +kernel
theorem dJ6_bitCount_0f7a4_16 : decode cJ6_bitCount_0f7a4 16 = .ok (.iconst 2, 1) := by decide +kernel
theorem dJ6_bitCount_0f7a4_17 : decode cJ6_bitCount_0f7a4 17 = .ok (.iushr, 1) := by decide +kernel
theorem dJ6_bitCount_0f7a4_18 : decode cJ6_bitCount_0f7a4 18 = .ok (.ldc_w 266, 3) := by decide +kernel
theorem dJ6_bitCount_0f7a4_21 : decode cJ6_bitCount_0f7a4 21 = .ok (.iand, 1) := by decide +kernel
theorem dJ6_bitCount_0f7a4_22 : decode cJ6_bitCount_0f7a4 22 = .ok (.iadd, 1) := by decide +kernel
theorem dJ6_bitCount_0f7a4_23 : decode cJ6_bitCount_0f7a4 23 = .ok (.istore_n 0, 1) := by decide +kernel
theorem dJ6_bitCount_0f7a4_24 : decode cJ6_bitCount_0f7a4 24 = .ok (.iload_n 0, 1) := by decide +kernel
theorem dJ6_bitCount_0f7a4_25 : decode cJ6_bitCount_0f7a4 25 = .ok (.iload_n 0, 1) := by decide +kernel
theorem dJ6_bitCount_0f7a4_26 : decode cJ6_bitCount_0f7a4 26 = .ok (.iconst 4, 1) := by decide +kernel
theorem dJ6_bitCount_0f7a4_27 : decode cJ6_bitCount_0f7a4 27 = .ok (.iushr, 1) := by decide +kernel
theorem dJ6_bitCount_0f7a4_28 : decode cJ6_bitCount_0f7a4 28 = .ok (.iadd, 1) := by decide +kernel
theorem dJ6_bitCount_0f7a4_29 : decode cJ6_bitCount_0f7a4 29 = .ok (.ldc_w 267, 3) := by decide +kernel
theorem dJ6_bitCount_0f7a4_32 : decode cJ6_bitCount_0f7a4 32 = .ok (.iand, 1) := by decide +kernel
theorem dJ6_bitCount_0f7a4_33 : decode cJ6_bitCount_0f7a4 33 = .ok (.istore_n 0, 1) := by decide +kernel
theorem dJ6_bitCount_0f7a4_34 : decode cJ6_bitCount_0f7a4 34 = .ok (.iload_n 0, 1) := by decide +kernel
theorem dJ6_bitCount_0f7a4_35 : decode cJ6_bitCount_0f7a4 35 = .ok (.iload_n 0, 1) := by decide +kernel
theorem dJ6_bitCount_0f7a4_36 : decode cJ6_bitCount_0f7a4 36 = .ok (.bipush 8, 2) := by decide +kernel
theorem dJ6_bitCount_0f7a4_38 : decode cJ6_bitCount_0f7a4 38 = .ok (.iushr, 1) := by decide +kernel
theorem dJ6_bitCount_0f7a4_39 : decode cJ6_bitCount_0f7a4 39 = .ok (.iadd, 1) := by decide +kernel
theorem dJ6_bitCount_0f7a4_40 : decode cJ6_bitCount_0f7a4 40 = .ok (.istore_n 0, 1) := by decide +kernel
theorem dJ6_bitCount_0f7a4_41 : decode cJ6_bitCount_0f7a4 41 = .ok (.iload_n 0, 1) := by decide +kernel
theorem dJ6_bitCount_0f7a4_42 : decode cJ6_bitCount_0f7a4 42 = .ok (.iload_n 0, 1) := by decide +kernel
theorem dJ6_bitCount_0f7a4_43 : decode cJ6_bitCount_0f7a4 43 = .ok (.bipush 16, 2) := by decide +kernel
theorem dJ6_bitCount_0f7a4_45 : decode cJ6_bitCount_0f7a4 45 = .ok (.iushr, 1) := by decide +kernel
theorem dJ6_bitCount_0f7a4_46 : decode cJ6_bitCount_0f7a4 46 = .ok (.iadd, 1) := by decide +kernel
theorem dJ6_bitCount_0f7a4_47 : decode cJ6_bitCount_0f7a4 47 = .ok (.istore_n 0, 1) := by decide +kernel
theorem dJ6_bitCount_0f7a4_48 : decode cJ6_bitCount_0f7a4 48 = .ok (.iload_n 0, 1) := by decide +kernel
theorem dJ6_bitCount_0f7a4_49 : decode cJ6_bitCount_0f7a4 49 = .ok (.bipush 63, 2) := by decide +kernel
theorem dJ6_bitCount_0f7a4_51 : decode cJ6_bitCount_0f7a4 51 = .ok (.iand, 1) := by decide +kernel
theorem dJ6_bitCount_0f7a4_52 : decode cJ6_bitCount_0f7a4 52 = .ok (.ireturn, 1) := by decide +kernel
def wJ6_bitCount_0f7a4 (f : Nat) (Φ : Int → aj_M → Prop) (v0 : Int) (m : aj_M) : Prop := Φ (aj_and (((aj_and (((aj_and (v0 - (aj_and (aj_ushr v0 1) 1431655765)) 858993459) + (aj_and (aj_ushr (v0 - (aj_and (aj_ushr v0 1) 1431655765)) 2) 858993459)) + (aj_ushr ((aj_and (v0 - (aj_and (aj_ushr v0 1) 1431655765)) 858993459) + (aj_and (aj_ushr (v0 - (aj_and (aj_ushr v0 1) 1431655765)) 2) 858993459)) 4)) 252645135) + (aj_ushr (aj_and (((aj_and (v0 - (aj_and (aj_ushr v0 1) 1431655765)) 858993459) + (aj_and (aj_ushr (v0 - (aj_and (aj_ushr v0 1) 1431655765)) 2) 858993459)) + (aj_ushr ((aj_and (v0 - (aj_and (aj_ushr v0 1) 1431655765)) 858993459) + (aj_and (aj_ushr (v0 - (aj_and (aj_ushr v0 1) 1431655765)) 2) 858993459)) 4)) 252645135) 8)) + (aj_ushr ((aj_and (((aj_and (v0 - (aj_and (aj_ushr v0 1) 1431655765)) 858993459) + (aj_and (aj_ushr (v0 - (aj_and (aj_ushr v0 1) 1431655765)) 2) 858993459)) + (aj_ushr ((aj_and (v0 - (aj_and (aj_ushr v0 1) 1431655765)) 858993459) + (aj_and (aj_ushr (v0 - (aj_and (aj_ushr v0 1) 1431655765)) 2) 858993459)) 4)) 252645135) + (aj_ushr (aj_and (((aj_and (v0 - (aj_and (aj_ushr v0 1) 1431655765)) 858993459) + (aj_and (aj_ushr (v0 - (aj_and (aj_ushr v0 1) 1431655765)) 2) 858993459)) + (aj_ushr ((aj_and (v0 - (aj_and (aj_ushr v0 1) 1431655765)) 858993459) + (aj_and (aj_ushr (v0 - (aj_and (aj_ushr v0 1) 1431655765)) 2) 858993459)) 4)) 252645135) 8)) 16)) 63) m
set_option maxHeartbeats 4000000 in
set_option maxRecDepth 100000 in
theorem sJ6_bitCount_0f7a4 {n f : Nat} {Φ : Int → aj_M → Prop} {v0 : Int} {m : aj_M}  (h : wJ6_bitCount_0f7a4 f Φ v0 m) : aj_Ct n yJ6_bitCount_0f7a4 cJ6_bitCount_0f7a4 1 (some .int) [vI v0] m (fun r m => ∃ z, r = some (vI z) ∧ Φ z m) := by
  refine aj_met (lv := [some (vI v0)]) (by decide +kernel) rfl (Nat.le_of_ble_eq_true rfl) (fun X C K => ?_)
  unfold wJ6_bitCount_0f7a4 at h
  refine aj_iload_n C dJ6_bitCount_0f7a4_0 rfl ?_
  refine aj_iload_n C dJ6_bitCount_0f7a4_1 rfl ?_
  refine aj_iconst C dJ6_bitCount_0f7a4_2 ?_
  refine aj_iushr C dJ6_bitCount_0f7a4_3 ?_
  refine aj_ldcw (z := 1431655765) C (wd1377) rfl dJ6_bitCount_0f7a4_4 ?_
  refine aj_iand C dJ6_bitCount_0f7a4_7 ?_
  refine aj_isub C dJ6_bitCount_0f7a4_8 ?_
  refine aj_istore_n (lv' := [some (vI (v0 - (aj_and (aj_ushr v0 1) 1431655765)))]) C dJ6_bitCount_0f7a4_9 (by decide) rfl ?_
  refine aj_iload_n C dJ6_bitCount_0f7a4_10 rfl ?_
  refine aj_ldcw (z := 858993459) C (wd1378) rfl dJ6_bitCount_0f7a4_11 ?_
  refine aj_iand C dJ6_bitCount_0f7a4_14 ?_
  refine aj_iload_n C dJ6_bitCount_0f7a4_15 rfl ?_
  refine aj_iconst C dJ6_bitCount_0f7a4_16 ?_
  refine aj_iushr C dJ6_bitCount_0f7a4_17 ?_
  refine aj_ldcw (z := 858993459) C (wd1378) rfl dJ6_bitCount_0f7a4_18 ?_
  refine aj_iand C dJ6_bitCount_0f7a4_21 ?_
  refine aj_iadd C dJ6_bitCount_0f7a4_22 ?_
  refine aj_istore_n (lv' := [some (vI ((aj_and (v0 - (aj_and (aj_ushr v0 1) 1431655765)) 858993459) + (aj_and (aj_ushr (v0 - (aj_and (aj_ushr v0 1) 1431655765)) 2) 858993459)))]) C dJ6_bitCount_0f7a4_23 (by decide) rfl ?_
  refine aj_iload_n C dJ6_bitCount_0f7a4_24 rfl ?_
  refine aj_iload_n C dJ6_bitCount_0f7a4_25 rfl ?_
  refine aj_iconst C dJ6_bitCount_0f7a4_26 ?_
  refine aj_iushr C dJ6_bitCount_0f7a4_27 ?_
  refine aj_iadd C dJ6_bitCount_0f7a4_28 ?_
  refine aj_ldcw (z := 252645135) C (wd1379) rfl dJ6_bitCount_0f7a4_29 ?_
  refine aj_iand C dJ6_bitCount_0f7a4_32 ?_
  refine aj_istore_n (lv' := [some (vI (aj_and (((aj_and (v0 - (aj_and (aj_ushr v0 1) 1431655765)) 858993459) + (aj_and (aj_ushr (v0 - (aj_and (aj_ushr v0 1) 1431655765)) 2) 858993459)) + (aj_ushr ((aj_and (v0 - (aj_and (aj_ushr v0 1) 1431655765)) 858993459) + (aj_and (aj_ushr (v0 - (aj_and (aj_ushr v0 1) 1431655765)) 2) 858993459)) 4)) 252645135))]) C dJ6_bitCount_0f7a4_33 (by decide) rfl ?_
  refine aj_iload_n C dJ6_bitCount_0f7a4_34 rfl ?_
  refine aj_iload_n C dJ6_bitCount_0f7a4_35 rfl ?_
  refine aj_bipush C dJ6_bitCount_0f7a4_36 (by decide) ?_
  refine aj_iushr C dJ6_bitCount_0f7a4_38 ?_
  refine aj_iadd C dJ6_bitCount_0f7a4_39 ?_
  refine aj_istore_n (lv' := [some (vI ((aj_and (((aj_and (v0 - (aj_and (aj_ushr v0 1) 1431655765)) 858993459) + (aj_and (aj_ushr (v0 - (aj_and (aj_ushr v0 1) 1431655765)) 2) 858993459)) + (aj_ushr ((aj_and (v0 - (aj_and (aj_ushr v0 1) 1431655765)) 858993459) + (aj_and (aj_ushr (v0 - (aj_and (aj_ushr v0 1) 1431655765)) 2) 858993459)) 4)) 252645135) + (aj_ushr (aj_and (((aj_and (v0 - (aj_and (aj_ushr v0 1) 1431655765)) 858993459) + (aj_and (aj_ushr (v0 - (aj_and (aj_ushr v0 1) 1431655765)) 2) 858993459)) + (aj_ushr ((aj_and (v0 - (aj_and (aj_ushr v0 1) 1431655765)) 858993459) + (aj_and (aj_ushr (v0 - (aj_and (aj_ushr v0 1) 1431655765)) 2) 858993459)) 4)) 252645135) 8)))]) C dJ6_bitCount_0f7a4_40 (by decide) rfl ?_
  refine aj_iload_n C dJ6_bitCount_0f7a4_41 rfl ?_
  refine aj_iload_n C dJ6_bitCount_0f7a4_42 rfl ?_
  refine aj_bipush C dJ6_bitCount_0f7a4_43 (by decide) ?_
  refine aj_iushr C dJ6_bitCount_0f7a4_45 ?_
  refine aj_iadd C dJ6_bitCount_0f7a4_46 ?_
  refine aj_istore_n (lv' := [some (vI (((aj_and (((aj_and (v0 - (aj_and (aj_ushr v0 1) 1431655765)) 858993459) + (aj_and (aj_ushr (v0 - (aj_and (aj_ushr v0 1) 1431655765)) 2) 858993459)) + (aj_ushr ((aj_and (v0 - (aj_and (aj_ushr v0 1) 1431655765)) 858993459) + (aj_and (aj_ushr (v0 - (aj_and (aj_ushr v0 1) 1431655765)) 2) 858993459)) 4)) 252645135) + (aj_ushr (aj_and (((aj_and (v0 - (aj_and (aj_ushr v0 1) 1431655765)) 858993459) + (aj_and (aj_ushr (v0 - (aj_and (aj_ushr v0 1) 1431655765)) 2) 858993459)) + (aj_ushr ((aj_and (v0 - (aj_and (aj_ushr v0 1) 1431655765)) 858993459) + (aj_and (aj_ushr (v0 - (aj_and (aj_ushr v0 1) 1431655765)) 2) 858993459)) 4)) 252645135) 8)) + (aj_ushr ((aj_and (((aj_and (v0 - (aj_and (aj_ushr v0 1) 1431655765)) 858993459) + (aj_and (aj_ushr (v0 - (aj_and (aj_ushr v0 1) 1431655765)) 2) 858993459)) + (aj_ushr ((aj_and (v0 - (aj_and (aj_ushr v0 1) 1431655765)) 858993459) + (aj_and (aj_ushr (v0 - (aj_and (aj_ushr v0 1) 1431655765)) 2) 858993459)) 4)) 252645135) + (aj_ushr (aj_and (((aj_and (v0 - (aj_and (aj_ushr v0 1) 1431655765)) 858993459) + (aj_and (aj_ushr (v0 - (aj_and (aj_ushr v0 1) 1431655765)) 2) 858993459)) + (aj_ushr ((aj_and (v0 - (aj_and (aj_ushr v0 1) 1431655765)) 858993459) + (aj_and (aj_ushr (v0 - (aj_and (aj_ushr v0 1) 1431655765)) 2) 858993459)) 4)) 252645135) 8)) 16)))]) C dJ6_bitCount_0f7a4_47 (by decide) rfl ?_
  refine aj_iload_n C dJ6_bitCount_0f7a4_48 rfl ?_
  refine aj_bipush C dJ6_bitCount_0f7a4_49 (by decide) ?_
  refine aj_iand C dJ6_bitCount_0f7a4_51 ?_
  exact aj_iret C K dJ6_bitCount_0f7a4_52 ⟨_, rfl, h⟩
theorem dX2_isUnfilled_0 : decode cX2_isUnfilled 0 = .ok (.aload_n 0, 1) := by decide +kernel
theorem dX2_isUnfilled_1 : decode cX2_isUnfilled 1 = .ok (.getfield 30, 3) := by decide +kernel
theorem dX2_isUnfilled_4 : decode cX2_isUnfilled 4 = .ok (.iload_n 1, 1) := by decide +kernel
theorem dX2_isUnfilled_5 : decode cX2_isUnfilled 5 = .ok (.iaload, 1) := by decide +kernel
theorem dX2_isUnfilled_6 : decode cX2_isUnfilled 6 = .ok (.invokestatic 59, 3) := by decide +kernel
theorem dX2_isUnfilled_9 : decode cX2_isUnfilled 9 = .ok (.aload_n 0, 1) := by decide +kernel
theorem dX2_isUnfilled_10 : decode cX2_isUnfilled 10 = .ok (.getfield 11, 3) := by decide +kernel
theorem dX2_isUnfilled_13 : decode cX2_isUnfilled 13 = .ok (.if_icmp .ge 7, 3) := by decide +kernel
theorem dX2_isUnfilled_16 : decode cX2_isUnfilled 16 = .ok (.iconst 1, 1) := by decide +kernel
theorem dX2_isUnfilled_17 : decode cX2_isUnfilled 17 = .ok (.goto 4, 3) := by decide +kernel
theorem dX2_isUnfilled_20 : decode cX2_isUnfilled 20 = .ok (.iconst 0, 1) := by decide +kernel
theorem dX2_isUnfilled_21 : decode cX2_isUnfilled 21 = .ok (.ireturn, 1) := by decide +kernel
def wX2_isUnfilled (f : Nat) (Φ : Int → aj_M → Prop) (q0 : List Nat) (v1 : Int) (m : aj_M) : Prop := (0 ≤ v1 ∧ v1 < 14) ∧ wJ6_bitCount_0f7a4 f (fun z1 m1 => rI z1 ∧ rI (m1 q0 0) ∧ ((m1 q0 0) ≤ z1 → Φ 0 m1) ∧ (¬ ((m1 q0 0) ≤ z1) → Φ 1 m1)) (m (6 :: q0) v1.toNat) m
set_option maxHeartbeats 4000000 in
set_option maxRecDepth 100000 in
theorem sX2_isUnfilled {n f : Nat} {Φ : Int → aj_M → Prop} {q0 : List Nat} {v1 : Int} {m : aj_M} (hq0 : (.inl (2, q0) : aj_R) ∈ aj_pls) (h : wX2_isUnfilled f Φ q0 v1 m) : aj_Ct (n + 1) yX2_isUnfilled cX2_isUnfilled 2 (some .boolean) [vO 2 q0, vI v1] m (fun r m => ∃ z, r = some (vI z) ∧ Φ z m) := by
  refine aj_met (lv := [some (vO 2 q0), some (vI v1)]) (by decide +kernel) rfl (Nat.le_of_ble_eq_true rfl) (fun X C K => ?_)
  unfold wX2_isUnfilled at h
  refine aj_aload_n C dX2_isUnfilled_0 rfl ?_
  refine aj_getA (x := 0) (y := 14) C flX2_30 hq0 rfl dX2_isUnfilled_1 ?_
  refine aj_iload_n C dX2_isUnfilled_4 rfl ?_
  obtain ⟨r0, h⟩ := h
  refine aj_iald C (aj_ca (e := 0) (n := 14) (j := 6) hq0 (by decide) rfl) (by decide) r0 dX2_isUnfilled_5 rfl ?_
  refine aj_callS (rest := []) C msX2_59 (sJ6_bitCount_0f7a4  h) (aj_np 1 (by decide +kernel) rfl) (Nat.le_of_ble_eq_true rfl) rfl dX2_isUnfilled_6 (fun r m1 h => ?_)
  obtain ⟨z1, rfl, h⟩ := h
  refine aj_aload_n C dX2_isUnfilled_9 rfl ?_
  refine aj_getI C flX2_11 hq0 (by decide) dX2_isUnfilled_10 rfl ?_
  obtain ⟨r0, r1, h1, h2⟩ := h
  refine aj_icmp_ge (tgt := 20) C dX2_isUnfilled_13 (by decide) r0 r1 (fun e => ?_) (fun e => ?_)
  · have h := h1 e
    refine aj_iconst C dX2_isUnfilled_20 ?_
    exact aj_zret C K (Or.inl rfl) dX2_isUnfilled_21 ⟨_, rfl, h⟩
  · have h := h2 e
    refine aj_iconst C dX2_isUnfilled_16 ?_
    refine aj_goto (tgt := 21) C dX2_isUnfilled_17 (by decide) ?_
    exact aj_zret C K (Or.inr rfl) dX2_isUnfilled_21 ⟨_, rfl, h⟩
theorem dX2_leastUnfilled_0 : decode cX2_leastUnfilled 0 = .ok (.iconst 0, 1) := by decide +kernel
theorem dX2_leastUnfilled_1 : decode cX2_leastUnfilled 1 = .ok (.istore_n 1, 1) := by decide +kernel
theorem dX2_leastUnfilled_2 : decode cX2_leastUnfilled 2 = .ok (.iload_n 1, 1) := by decide +kernel
theorem dX2_leastUnfilled_3 : decode cX2_leastUnfilled 3 = .ok (.aload_n 0, 1) := by decide +kernel
theorem dX2_leastUnfilled_4 : decode cX2_leastUnfilled 4 = .ok (.getfield 18, 3) := by decide +kernel
theorem dX2_leastUnfilled_7 : decode cX2_leastUnfilled 7 = .ok (.if_icmp .ge 19, 3) := by decide +kernel
theorem dX2_leastUnfilled_10 : decode cX2_leastUnfilled 10 = .ok (.aload_n 0, 1) := by decide +kernel
theorem dX2_leastUnfilled_11 : decode cX2_leastUnfilled 11 = .ok (.iload_n 1, 1) := by decide +kernel
theorem dX2_leastUnfilled_12 : decode cX2_leastUnfilled 12 = .ok (.invokevirtual 64, 3) := by decide +kernel
theorem dX2_leastUnfilled_15 : decode cX2_leastUnfilled 15 = .ok (.ifCond .eq 5, 3) := by decide +kernel
theorem dX2_leastUnfilled_18 : decode cX2_leastUnfilled 18 = .ok (.iload_n 1, 1) := by decide +kernel
theorem dX2_leastUnfilled_19 : decode cX2_leastUnfilled 19 = .ok (.ireturn, 1) := by decide +kernel
theorem dX2_leastUnfilled_20 : decode cX2_leastUnfilled 20 = .ok (.iinc 1 1, 3) := by decide +kernel
theorem dX2_leastUnfilled_23 : decode cX2_leastUnfilled 23 = .ok (.goto (-21), 3) := by decide +kernel
theorem dX2_leastUnfilled_26 : decode cX2_leastUnfilled 26 = .ok (.iconst (-1), 1) := by decide +kernel
theorem dX2_leastUnfilled_27 : decode cX2_leastUnfilled 27 = .ok (.ireturn, 1) := by decide +kernel
def hX2_leastUnfilled_2 (f : Nat) (Φ : Int → aj_M → Prop) : Nat → List Nat → Int → aj_M → Prop
  | 0, _, _, _ => False
  | k + 1, q0, v1, m => rI v1 ∧ rI (m q0 2) ∧ ((m q0 2) ≤ v1 → Φ (-1) m) ∧ (¬ ((m q0 2) ≤ v1) → wX2_isUnfilled f (fun z1 m1 => rI z1 ∧ (z1 = 0 → hX2_leastUnfilled_2 f Φ k q0 (v1 + 1) m1) ∧ (¬ (z1 = 0) → Φ v1 m1)) q0 v1 m)
set_option maxHeartbeats 4000000 in
set_option maxRecDepth 100000 in
theorem tX2_leastUnfilled_2 {X : aj_T} {n f : Nat} {Φ : Int → aj_M → Prop} (C : aj_Cx X cX2_leastUnfilled RX2 2 (n + 2)) (K : aj_Rt X (some .int) (fun r m => ∃ z, r = some (vI z) ∧ Φ z m)) : ∀ (k : Nat) (q0 : List Nat) (v1 : Int) (m : aj_M) (hq0 : (.inl (2, q0) : aj_R) ∈ aj_pls), hX2_leastUnfilled_2 f Φ k q0 v1 m → aj_J X 2 [some (vO 2 q0), some (vI v1)] [] m := by
  intro k
  induction k with
  | zero =>
    intro q0 v1 m _ h
    exact h.elim
  | succ k ih =>
    intro q0 v1 m hq0 h
    unfold hX2_leastUnfilled_2 at h
    refine aj_iload_n C dX2_leastUnfilled_2 rfl ?_
    refine aj_aload_n C dX2_leastUnfilled_3 rfl ?_
    refine aj_getI C flX2_18 hq0 (by decide) dX2_leastUnfilled_4 rfl ?_
    obtain ⟨r0, r1, h1, h2⟩ := h
    refine aj_icmp_ge (tgt := 26) C dX2_leastUnfilled_7 (by decide) r0 r1 (fun e => ?_) (fun e => ?_)
    · have h := h1 e
      refine aj_iconst C dX2_leastUnfilled_26 ?_
      exact aj_iret C K dX2_leastUnfilled_27 ⟨_, rfl, h⟩
    · have h := h2 e
      refine aj_aload_n C dX2_leastUnfilled_10 rfl ?_
      refine aj_iload_n C dX2_leastUnfilled_11 rfl ?_
      refine aj_callV (rest := []) C mvX2_64 (sX2_isUnfilled hq0 h) hq0 (aj_np 1 (by decide +kernel) rfl) (Nat.le_of_ble_eq_true rfl) rfl dX2_leastUnfilled_12 (fun r m1 h => ?_)
      obtain ⟨z1, rfl, h⟩ := h
      obtain ⟨r0, h1, h2⟩ := h
      refine aj_if_eq (tgt := 20) C dX2_leastUnfilled_15 (by decide) r0 (fun e => ?_) (fun e => ?_)
      · have h := h1 e
        refine aj_iinc (lv' := [some (vO 2 q0), some (vI (v1 + 1))]) C dX2_leastUnfilled_20 rfl (by decide) rfl ?_
        refine aj_goto (tgt := 2) C dX2_leastUnfilled_23 (by decide) ?_
        exact ih q0 (v1 + 1) _ hq0 h
      · have h := h2 e
        refine aj_iload_n C dX2_leastUnfilled_18 rfl ?_
        exact aj_iret C K dX2_leastUnfilled_19 ⟨_, rfl, h⟩
def wX2_leastUnfilled (f : Nat) (Φ : Int → aj_M → Prop) (q0 : List Nat) (m : aj_M) : Prop := hX2_leastUnfilled_2 f Φ f q0 0 m
set_option maxHeartbeats 4000000 in
set_option maxRecDepth 100000 in
theorem sX2_leastUnfilled {n f : Nat} {Φ : Int → aj_M → Prop} {q0 : List Nat} {m : aj_M} (hq0 : (.inl (2, q0) : aj_R) ∈ aj_pls) (h : wX2_leastUnfilled f Φ q0 m) : aj_Ct (n + 2) yX2_leastUnfilled cX2_leastUnfilled 2 (some .int) [vO 2 q0] m (fun r m => ∃ z, r = some (vI z) ∧ Φ z m) := by
  refine aj_met (lv := [some (vO 2 q0), none]) (by decide +kernel) rfl (Nat.le_of_ble_eq_true rfl) (fun X C K => ?_)
  unfold wX2_leastUnfilled at h
  refine aj_iconst C dX2_leastUnfilled_0 ?_
  refine aj_istore_n (lv' := [some (vO 2 q0), some (vI 0)]) C dX2_leastUnfilled_1 (by decide) rfl ?_
  exact tX2_leastUnfilled_2 C K f q0 0 _ hq0 h
theorem dX2_tooNear_0 : decode cX2_tooNear 0 = .ok (.iconst 1, 1) := by decide +kernel
theorem dX2_tooNear_1 : decode cX2_tooNear 1 = .ok (.iload_n 1, 1) := by decide +kernel
theorem dX2_tooNear_2 : decode cX2_tooNear 2 = .ok (.ishl, 1) := by decide +kernel
theorem dX2_tooNear_3 : decode cX2_tooNear 3 = .ok (.istore_n 2, 1) := by decide +kernel
theorem dX2_tooNear_4 : decode cX2_tooNear 4 = .ok (.iconst 0, 1) := by decide +kernel
theorem dX2_tooNear_5 : decode cX2_tooNear 5 = .ok (.istore_n 3, 1) := by decide +kernel
theorem dX2_tooNear_6 : decode cX2_tooNear 6 = .ok (.iload_n 3, 1) := by decide +kernel
theorem dX2_tooNear_7 : decode cX2_tooNear 7 = .ok (.aload_n 0, 1) := by decide +kernel
theorem dX2_tooNear_8 : decode cX2_tooNear 8 = .ok (.getfield 15, 3) := by decide +kernel
theorem dX2_tooNear_11 : decode cX2_tooNear 11 = .ok (.iconst 2, 1) := by decide +kernel
theorem dX2_tooNear_12 : decode cX2_tooNear 12 = .ok (.isub, 1) := by decide +kernel
theorem dX2_tooNear_13 : decode cX2_tooNear 13 = .ok (.if_icmp .ge 67, 3) := by decide +kernel
theorem dX2_tooNear_16 : decode cX2_tooNear 16 = .ok (.iload_n 2, 1) := by decide +kernel
theorem dX2_tooNear_17 : decode cX2_tooNear 17 = .ok (.istore 4, 2) := by decide +kernel
theorem dX2_tooNear_19 : decode cX2_tooNear 19 = .ok (.iconst 0, 1) := by decide +kernel
theorem dX2_tooNear_20 : decode cX2_tooNear 20 = .ok (.istore 5, 2) := by decide +kernel
theorem dX2_tooNear_22 : decode cX2_tooNear 22 = .ok (.iload 5, 2) := by decide +kernel
theorem dX2_tooNear_24 : decode cX2_tooNear 24 = .ok (.aload_n 0, 1) := by decide +kernel
theorem dX2_tooNear_25 : decode cX2_tooNear 25 = .ok (.getfield 18, 3) := by decide +kernel
theorem dX2_tooNear_28 : decode cX2_tooNear 28 = .ok (.if_icmp .ge 35, 3) := by decide +kernel
theorem dX2_tooNear_31 : decode cX2_tooNear 31 = .ok (.iload 4, 2) := by decide +kernel
theorem dX2_tooNear_33 : decode cX2_tooNear 33 = .ok (.iload_n 2, 1) := by decide +kernel
theorem dX2_tooNear_34 : decode cX2_tooNear 34 = .ok (.iload 5, 2) := by decide +kernel
theorem dX2_tooNear_36 : decode cX2_tooNear 36 = .ok (.ishr, 1) := by decide +kernel
theorem dX2_tooNear_37 : decode cX2_tooNear 37 = .ok (.iconst 1, 1) := by decide +kernel
theorem dX2_tooNear_38 : decode cX2_tooNear 38 = .ok (.iand, 1) := by decide +kernel
theorem dX2_tooNear_39 : decode cX2_tooNear 39 = .ok (.iconst 1, 1) := by decide +kernel
theorem dX2_tooNear_40 : decode cX2_tooNear 40 = .ok (.if_icmp .ne 13, 3) := by decide +kernel
theorem dX2_tooNear_43 : decode cX2_tooNear 43 = .ok (.aload_n 0, 1) := by decide +kernel
theorem dX2_tooNear_44 : decode cX2_tooNear 44 = .ok (.getfield 30, 3) := by decide +kernel
theorem dX2_tooNear_47 : decode cX2_tooNear 47 = .ok (.iload 5, 2) := by decide +kernel
theorem dX2_tooNear_49 : decode cX2_tooNear 49 = .ok (.iaload, 1) := by decide +kernel
theorem dX2_tooNear_50 : decode cX2_tooNear 50 = .ok (.goto 4, 3) := by decide +kernel
theorem dX2_tooNear_53 : decode cX2_tooNear 53 = .ok (.iconst 0, 1) := by decide +kernel
theorem dX2_tooNear_54 : decode cX2_tooNear 54 = .ok (.ior, 1) := by decide +kernel
theorem dX2_tooNear_55 : decode cX2_tooNear 55 = .ok (.istore 4, 2) := by decide +kernel
theorem dX2_tooNear_57 : decode cX2_tooNear 57 = .ok (.iinc 5 1, 3) := by decide +kernel
theorem dX2_tooNear_60 : decode cX2_tooNear 60 = .ok (.goto (-38), 3) := by decide +kernel
theorem dX2_tooNear_63 : decode cX2_tooNear 63 = .ok (.iload 4, 2) := by decide +kernel
theorem dX2_tooNear_65 : decode cX2_tooNear 65 = .ok (.iload_n 2, 1) := by decide +kernel
theorem dX2_tooNear_66 : decode cX2_tooNear 66 = .ok (.if_icmp .ne 5, 3) := by decide +kernel
theorem dX2_tooNear_69 : decode cX2_tooNear 69 = .ok (.iload_n 2, 1) := by decide +kernel
theorem dX2_tooNear_70 : decode cX2_tooNear 70 = .ok (.ireturn, 1) := by decide +kernel
theorem dX2_tooNear_71 : decode cX2_tooNear 71 = .ok (.iload 4, 2) := by decide +kernel
theorem dX2_tooNear_73 : decode cX2_tooNear 73 = .ok (.istore_n 2, 1) := by decide +kernel
theorem dX2_tooNear_74 : decode cX2_tooNear 74 = .ok (.iinc 3 1, 3) := by decide +kernel
theorem dX2_tooNear_77 : decode cX2_tooNear 77 = .ok (.goto (-71), 3) := by decide +kernel
theorem dX2_tooNear_80 : decode cX2_tooNear 80 = .ok (.iload_n 2, 1) := by decide +kernel
theorem dX2_tooNear_81 : decode cX2_tooNear 81 = .ok (.ireturn, 1) := by decide +kernel
def hX2_tooNear_22 (f : Nat) (Φ : Int → aj_M → Prop) (K6 : List Nat → Int → Int → aj_M → Prop) : Nat → List Nat → Int → Int → Int → Int → aj_M → Prop
  | 0, _, _, _, _, _, _ => False
  | k + 1, q0, v2, v3, v4, v5, m => rI v5 ∧ rI (m q0 2) ∧ ((m q0 2) ≤ v5 → rI v4 ∧ rI v2 ∧ (¬ v4 = v2 → K6 q0 v4 (v3 + 1) m) ∧ (v4 = v2 → Φ v2 m)) ∧ (¬ ((m q0 2) ≤ v5) → rI (aj_and (aj_shr v2 v5) 1) ∧ (¬ (aj_and (aj_shr v2 v5) 1) = 1 → hX2_tooNear_22 f Φ K6 k q0 v2 v3 (aj_or v4 0) (v5 + 1) m) ∧ ((aj_and (aj_shr v2 v5) 1) = 1 → (0 ≤ v5 ∧ v5 < 14) ∧ hX2_tooNear_22 f Φ K6 k q0 v2 v3 (aj_or v4 (m (6 :: q0) v5.toNat)) (v5 + 1) m))
set_option maxHeartbeats 4000000 in
set_option maxRecDepth 100000 in
theorem tX2_tooNear_22 {X : aj_T} {n f : Nat} {Φ : Int → aj_M → Prop} (C : aj_Cx X cX2_tooNear RX2 6 n) (K : aj_Rt X (some .int) (fun r m => ∃ z, r = some (vI z) ∧ Φ z m)) {K6 : List Nat → Int → Int → aj_M → Prop} (HK6 : ∀ (q0 : List Nat) (v2 : Int) (v3 : Int) (m : aj_M) (hq0 : (.inl (2, q0) : aj_R) ∈ aj_pls), K6 q0 v2 v3 m → aj_J X 6 [some (vO 2 q0), none, some (vI v2), some (vI v3), none, none] [] m) : ∀ (k : Nat) (q0 : List Nat) (v2 : Int) (v3 : Int) (v4 : Int) (v5 : Int) (m : aj_M) (hq0 : (.inl (2, q0) : aj_R) ∈ aj_pls), hX2_tooNear_22 f Φ K6 k q0 v2 v3 v4 v5 m → aj_J X 22 [some (vO 2 q0), none, some (vI v2), some (vI v3), some (vI v4), some (vI v5)] [] m := by
  intro k
  induction k with
  | zero =>
    intro q0 v2 v3 v4 v5 m _ h
    exact h.elim
  | succ k ih =>
    intro q0 v2 v3 v4 v5 m hq0 h
    unfold hX2_tooNear_22 at h
    refine aj_iload C dX2_tooNear_22 rfl ?_
    refine aj_aload_n C dX2_tooNear_24 rfl ?_
    refine aj_getI C flX2_18 hq0 (by decide) dX2_tooNear_25 rfl ?_
    obtain ⟨r0, r1, h1, h2⟩ := h
    refine aj_icmp_ge (tgt := 63) C dX2_tooNear_28 (by decide) r0 r1 (fun e => ?_) (fun e => ?_)
    · have h := h1 e
      refine aj_iload C dX2_tooNear_63 rfl ?_
      refine aj_iload_n C dX2_tooNear_65 rfl ?_
      obtain ⟨r0, r1, h1, h2⟩ := h
      refine aj_icmp_ne (tgt := 71) C dX2_tooNear_66 (by decide) r0 r1 (fun e => ?_) (fun e => ?_)
      · have h := h1 e
        refine aj_iload C dX2_tooNear_71 rfl ?_
        refine aj_istore_n (lv' := [some (vO 2 q0), none, some (vI v4), some (vI v3), some (vI v4), some (vI v5)]) C dX2_tooNear_73 (by decide) rfl ?_
        refine aj_iinc (lv' := [some (vO 2 q0), none, some (vI v4), some (vI (v3 + 1)), some (vI v4), some (vI v5)]) C dX2_tooNear_74 rfl (by decide) rfl ?_
        refine aj_goto (tgt := 6) C dX2_tooNear_77 (by decide) ?_
        refine aj_wk (lv' := [some (vO 2 q0), none, some (vI v4), some (vI (v3 + 1)), none, none]) (⟨rfl, ⟨rfl, ⟨rfl, trivial⟩⟩⟩) ?_
        exact HK6 q0 v4 (v3 + 1) _ hq0 h
      · have h := h2 e
        refine aj_iload_n C dX2_tooNear_69 rfl ?_
        exact aj_iret C K dX2_tooNear_70 ⟨_, rfl, h⟩
    · have h := h2 e
      refine aj_iload C dX2_tooNear_31 rfl ?_
      refine aj_iload_n C dX2_tooNear_33 rfl ?_
      refine aj_iload C dX2_tooNear_34 rfl ?_
      refine aj_ishr C dX2_tooNear_36 ?_
      refine aj_iconst C dX2_tooNear_37 ?_
      refine aj_iand C dX2_tooNear_38 ?_
      refine aj_iconst C dX2_tooNear_39 ?_
      obtain ⟨r0, h1, h2⟩ := h
      refine aj_icmp_ne (tgt := 53) C dX2_tooNear_40 (by decide) r0 (by decide) (fun e => ?_) (fun e => ?_)
      · have h := h1 e
        refine aj_iconst C dX2_tooNear_53 ?_
        refine aj_ior C dX2_tooNear_54 ?_
        refine aj_istore (lv' := [some (vO 2 q0), none, some (vI v2), some (vI v3), some (vI (aj_or v4 0)), some (vI v5)]) C dX2_tooNear_55 (by decide) rfl ?_
        refine aj_iinc (lv' := [some (vO 2 q0), none, some (vI v2), some (vI v3), some (vI (aj_or v4 0)), some (vI (v5 + 1))]) C dX2_tooNear_57 rfl (by decide) rfl ?_
        refine aj_goto (tgt := 22) C dX2_tooNear_60 (by decide) ?_
        exact ih q0 v2 v3 (aj_or v4 0) (v5 + 1) _ hq0 h
      · have h := h2 e
        refine aj_aload_n C dX2_tooNear_43 rfl ?_
        refine aj_getA (x := 0) (y := 14) C flX2_30 hq0 rfl dX2_tooNear_44 ?_
        refine aj_iload C dX2_tooNear_47 rfl ?_
        obtain ⟨r0, h⟩ := h
        refine aj_iald C (aj_ca (e := 0) (n := 14) (j := 6) hq0 (by decide) rfl) (by decide) r0 dX2_tooNear_49 rfl ?_
        refine aj_goto (tgt := 54) C dX2_tooNear_50 (by decide) ?_
        refine aj_ior C dX2_tooNear_54 ?_
        refine aj_istore (lv' := [some (vO 2 q0), none, some (vI v2), some (vI v3), some (vI (aj_or v4 (m (6 :: q0) v5.toNat))), some (vI v5)]) C dX2_tooNear_55 (by decide) rfl ?_
        refine aj_iinc (lv' := [some (vO 2 q0), none, some (vI v2), some (vI v3), some (vI (aj_or v4 (m (6 :: q0) v5.toNat))), some (vI (v5 + 1))]) C dX2_tooNear_57 rfl (by decide) rfl ?_
        refine aj_goto (tgt := 22) C dX2_tooNear_60 (by decide) ?_
        exact ih q0 v2 v3 (aj_or v4 (m (6 :: q0) v5.toNat)) (v5 + 1) _ hq0 h
def hX2_tooNear_6 (f : Nat) (Φ : Int → aj_M → Prop) : Nat → List Nat → Int → Int → aj_M → Prop
  | 0, _, _, _, _ => False
  | k + 1, q0, v2, v3, m => rI v3 ∧ rI ((m q0 1) - 2) ∧ (((m q0 1) - 2) ≤ v3 → Φ v2 m) ∧ (¬ (((m q0 1) - 2) ≤ v3) → hX2_tooNear_22 f Φ (fun q0 v2 v3 m => hX2_tooNear_6 f Φ k q0 v2 v3 m) f q0 v2 v3 v2 0 m)
set_option maxHeartbeats 4000000 in
set_option maxRecDepth 100000 in
theorem tX2_tooNear_6 {X : aj_T} {n f : Nat} {Φ : Int → aj_M → Prop} (C : aj_Cx X cX2_tooNear RX2 6 n) (K : aj_Rt X (some .int) (fun r m => ∃ z, r = some (vI z) ∧ Φ z m)) : ∀ (k : Nat) (q0 : List Nat) (v2 : Int) (v3 : Int) (m : aj_M) (hq0 : (.inl (2, q0) : aj_R) ∈ aj_pls), hX2_tooNear_6 f Φ k q0 v2 v3 m → aj_J X 6 [some (vO 2 q0), none, some (vI v2), some (vI v3), none, none] [] m := by
  intro k
  induction k with
  | zero =>
    intro q0 v2 v3 m _ h
    exact h.elim
  | succ k ih =>
    intro q0 v2 v3 m hq0 h
    unfold hX2_tooNear_6 at h
    refine aj_iload_n C dX2_tooNear_6 rfl ?_
    refine aj_aload_n C dX2_tooNear_7 rfl ?_
    refine aj_getI C flX2_15 hq0 (by decide) dX2_tooNear_8 rfl ?_
    refine aj_iconst C dX2_tooNear_11 ?_
    refine aj_isub C dX2_tooNear_12 ?_
    obtain ⟨r0, r1, h1, h2⟩ := h
    refine aj_icmp_ge (tgt := 80) C dX2_tooNear_13 (by decide) r0 r1 (fun e => ?_) (fun e => ?_)
    · have h := h1 e
      refine aj_iload_n C dX2_tooNear_80 rfl ?_
      exact aj_iret C K dX2_tooNear_81 ⟨_, rfl, h⟩
    · have h := h2 e
      refine aj_iload_n C dX2_tooNear_16 rfl ?_
      refine aj_istore (lv' := [some (vO 2 q0), none, some (vI v2), some (vI v3), some (vI v2), none]) C dX2_tooNear_17 (by decide) rfl ?_
      refine aj_iconst C dX2_tooNear_19 ?_
      refine aj_istore (lv' := [some (vO 2 q0), none, some (vI v2), some (vI v3), some (vI v2), some (vI 0)]) C dX2_tooNear_20 (by decide) rfl ?_
      exact tX2_tooNear_22 C K (fun q0 v2 v3 m hq0 hh => ih q0 v2 v3 m hq0 hh) f q0 v2 v3 v2 0 _ hq0 h
def wX2_tooNear (f : Nat) (Φ : Int → aj_M → Prop) (q0 : List Nat) (v1 : Int) (m : aj_M) : Prop := hX2_tooNear_6 f Φ f q0 (aj_shl 1 v1) 0 m
set_option maxHeartbeats 4000000 in
set_option maxRecDepth 100000 in
theorem sX2_tooNear {n f : Nat} {Φ : Int → aj_M → Prop} {q0 : List Nat} {v1 : Int} {m : aj_M} (hq0 : (.inl (2, q0) : aj_R) ∈ aj_pls) (h : wX2_tooNear f Φ q0 v1 m) : aj_Ct n yX2_tooNear cX2_tooNear 6 (some .int) [vO 2 q0, vI v1] m (fun r m => ∃ z, r = some (vI z) ∧ Φ z m) := by
  refine aj_met (lv := [some (vO 2 q0), some (vI v1), none, none, none, none]) (by decide +kernel) rfl (Nat.le_of_ble_eq_true rfl) (fun X C K => ?_)
  unfold wX2_tooNear at h
  refine aj_iconst C dX2_tooNear_0 ?_
  refine aj_iload_n C dX2_tooNear_1 rfl ?_
  refine aj_ishl C dX2_tooNear_2 ?_
  refine aj_istore_n (lv' := [some (vO 2 q0), some (vI v1), some (vI (aj_shl 1 v1)), none, none, none]) C dX2_tooNear_3 (by decide) rfl ?_
  refine aj_iconst C dX2_tooNear_4 ?_
  refine aj_istore_n (lv' := [some (vO 2 q0), some (vI v1), some (vI (aj_shl 1 v1)), some (vI 0), none, none]) C dX2_tooNear_5 (by decide) rfl ?_
  refine aj_wk (lv' := [some (vO 2 q0), none, some (vI (aj_shl 1 v1)), some (vI 0), none, none]) (⟨rfl, ⟨rfl, ⟨rfl, trivial⟩⟩⟩) ?_
  exact tX2_tooNear_6 C K f q0 (aj_shl 1 v1) 0 _ hq0 h
theorem dX2_partnersOf_0 : decode cX2_partnersOf 0 = .ok (.aload_n 0, 1) := by decide +kernel
theorem dX2_partnersOf_1 : decode cX2_partnersOf 1 = .ok (.getfield 34, 3) := by decide +kernel
theorem dX2_partnersOf_4 : decode cX2_partnersOf 4 = .ok (.iload_n 1, 1) := by decide +kernel
theorem dX2_partnersOf_5 : decode cX2_partnersOf 5 = .ok (.iaload, 1) := by decide +kernel
theorem dX2_partnersOf_6 : decode cX2_partnersOf 6 = .ok (.aload_n 0, 1) := by decide +kernel
theorem dX2_partnersOf_7 : decode cX2_partnersOf 7 = .ok (.iload_n 1, 1) := by decide +kernel
theorem dX2_partnersOf_8 : decode cX2_partnersOf 8 = .ok (.invokevirtual 68, 3) := by decide +kernel
theorem dX2_partnersOf_11 : decode cX2_partnersOf 11 = .ok (.ior, 1) := by decide +kernel
theorem dX2_partnersOf_12 : decode cX2_partnersOf 12 = .ok (.istore_n 2, 1) := by decide +kernel
theorem dX2_partnersOf_13 : decode cX2_partnersOf 13 = .ok (.iconst 0, 1) := by decide +kernel
theorem dX2_partnersOf_14 : decode cX2_partnersOf 14 = .ok (.istore_n 3, 1) := by decide +kernel
theorem dX2_partnersOf_15 : decode cX2_partnersOf 15 = .ok (.iconst 0, 1) := by decide +kernel
theorem dX2_partnersOf_16 : decode cX2_partnersOf 16 = .ok (.istore 4, 2) := by decide +kernel
theorem dX2_partnersOf_18 : decode cX2_partnersOf 18 = .ok (.iload_n 1, 1) := by decide +kernel
theorem dX2_partnersOf_19 : decode cX2_partnersOf 19 = .ok (.iconst 1, 1) := by decide +kernel
theorem dX2_partnersOf_20 : decode cX2_partnersOf 20 = .ok (.iadd, 1) := by decide +kernel
theorem dX2_partnersOf_21 : decode cX2_partnersOf 21 = .ok (.istore 5, 2) := by decide +kernel
theorem dX2_partnersOf_23 : decode cX2_partnersOf 23 = .ok (.iload 5, 2) := by decide +kernel
theorem dX2_partnersOf_25 : decode cX2_partnersOf 25 = .ok (.aload_n 0, 1) := by decide +kernel
theorem dX2_partnersOf_26 : decode cX2_partnersOf 26 = .ok (.getfield 18, 3) := by decide +kernel
theorem dX2_partnersOf_29 : decode cX2_partnersOf 29 = .ok (.if_icmp .ge 97, 3) := by decide +kernel
theorem dX2_partnersOf_32 : decode cX2_partnersOf 32 = .ok (.aload_n 0, 1) := by decide +kernel
theorem dX2_partnersOf_33 : decode cX2_partnersOf 33 = .ok (.iload 5, 2) := by decide +kernel
theorem dX2_partnersOf_35 : decode cX2_partnersOf 35 = .ok (.invokevirtual 64, 3) := by decide +kernel
theorem dX2_partnersOf_38 : decode cX2_partnersOf 38 = .ok (.ifCond .eq 16, 3) := by decide +kernel
theorem dX2_partnersOf_41 : decode cX2_partnersOf 41 = .ok (.iload_n 2, 1) := by decide +kernel
theorem dX2_partnersOf_42 : decode cX2_partnersOf 42 = .ok (.iload 5, 2) := by decide +kernel
theorem dX2_partnersOf_44 : decode cX2_partnersOf 44 = .ok (.ishr, 1) := by decide +kernel
theorem dX2_partnersOf_45 : decode cX2_partnersOf 45 = .ok (.iconst 1, 1) := by decide +kernel
theorem dX2_partnersOf_46 : decode cX2_partnersOf 46 = .ok (.iand, 1) := by decide +kernel
theorem dX2_partnersOf_47 : decode cX2_partnersOf 47 = .ok (.ifCond .ne 7, 3) := by decide +kernel
theorem dX2_partnersOf_50 : decode cX2_partnersOf 50 = .ok (.iconst 1, 1) := by decide +kernel
theorem dX2_partnersOf_51 : decode cX2_partnersOf 51 = .ok (.goto 4, 3) := by decide +kernel
theorem dX2_partnersOf_54 : decode cX2_partnersOf 54 = .ok (.iconst 0, 1) := by decide +kernel
theorem dX2_partnersOf_55 : decode cX2_partnersOf 55 = .ok (.istore 6, 2) := by decide +kernel
theorem dX2_partnersOf_57 : decode cX2_partnersOf 57 = .ok (.aload_n 0, 1) := by decide +kernel
theorem dX2_partnersOf_58 : decode cX2_partnersOf 58 = .ok (.getfield 30, 3) := by decide +kernel
theorem dX2_partnersOf_61 : decode cX2_partnersOf 61 = .ok (.iload 5, 2) := by decide +kernel
theorem dX2_partnersOf_63 : decode cX2_partnersOf 63 = .ok (.iaload, 1) := by decide +kernel
theorem dX2_partnersOf_64 : decode cX2_partnersOf 64 = .ok (.ifCond .ne 12, 3) := by decide +kernel
theorem dX2_partnersOf_67 : decode cX2_partnersOf 67 = .ok (.iload 4, 2) := by decide +kernel
theorem dX2_partnersOf_69 : decode cX2_partnersOf 69 = .ok (.ifCond .eq 7, 3) := by decide +kernel
theorem dX2_partnersOf_72 : decode cX2_partnersOf 72 = .ok (.iconst 1, 1) := by decide +kernel
theorem dX2_partnersOf_73 : decode cX2_partnersOf 73 = .ok (.goto 4, 3) := by decide +kernel
theorem dX2_partnersOf_76 : decode cX2_partnersOf 76 = .ok (.iconst 0, 1) := by decide +kernel
theorem dX2_partnersOf_77 : decode cX2_partnersOf 77 = .ok (.istore 7, 2) := by decide +kernel
theorem dX2_partnersOf_79 : decode cX2_partnersOf 79 = .ok (.iload 4, 2) := by decide +kernel
theorem dX2_partnersOf_81 : decode cX2_partnersOf 81 = .ok (.aload_n 0, 1) := by decide +kernel
theorem dX2_partnersOf_82 : decode cX2_partnersOf 82 = .ok (.getfield 30, 3) := by decide +kernel
theorem dX2_partnersOf_85 : decode cX2_partnersOf 85 = .ok (.iload 5, 2) := by decide +kernel
theorem dX2_partnersOf_87 : decode cX2_partnersOf 87 = .ok (.iaload, 1) := by decide +kernel
theorem dX2_partnersOf_88 : decode cX2_partnersOf 88 = .ok (.ifCond .ne 7, 3) := by decide +kernel
theorem dX2_partnersOf_91 : decode cX2_partnersOf 91 = .ok (.iconst 1, 1) := by decide +kernel
theorem dX2_partnersOf_92 : decode cX2_partnersOf 92 = .ok (.goto 4, 3) := by decide +kernel
theorem dX2_partnersOf_95 : decode cX2_partnersOf 95 = .ok (.iconst 0, 1) := by decide +kernel
theorem dX2_partnersOf_96 : decode cX2_partnersOf 96 = .ok (.ior, 1) := by decide +kernel
theorem dX2_partnersOf_97 : decode cX2_partnersOf 97 = .ok (.istore 4, 2) := by decide +kernel
theorem dX2_partnersOf_99 : decode cX2_partnersOf 99 = .ok (.iload_n 3, 1) := by decide +kernel
theorem dX2_partnersOf_100 : decode cX2_partnersOf 100 = .ok (.iload 6, 2) := by decide +kernel
theorem dX2_partnersOf_102 : decode cX2_partnersOf 102 = .ok (.ifCond .eq 15, 3) := by decide +kernel
theorem dX2_partnersOf_105 : decode cX2_partnersOf 105 = .ok (.iload 7, 2) := by decide +kernel
theorem dX2_partnersOf_107 : decode cX2_partnersOf 107 = .ok (.ifCond .ne 10, 3) := by decide +kernel
theorem dX2_partnersOf_110 : decode cX2_partnersOf 110 = .ok (.iconst 1, 1) := by decide +kernel
theorem dX2_partnersOf_111 : decode cX2_partnersOf 111 = .ok (.iload 5, 2) := by decide +kernel
theorem dX2_partnersOf_113 : decode cX2_partnersOf 113 = .ok (.ishl, 1) := by decide +kernel
theorem dX2_partnersOf_114 : decode cX2_partnersOf 114 = .ok (.goto 4, 3) := by decide +kernel
theorem dX2_partnersOf_117 : decode cX2_partnersOf 117 = .ok (.iconst 0, 1) := by decide +kernel
theorem dX2_partnersOf_118 : decode cX2_partnersOf 118 = .ok (.ior, 1) := by decide +kernel
theorem dX2_partnersOf_119 : decode cX2_partnersOf 119 = .ok (.istore_n 3, 1) := by decide +kernel
theorem dX2_partnersOf_120 : decode cX2_partnersOf 120 = .ok (.iinc 5 1, 3) := by decide +kernel
theorem dX2_partnersOf_123 : decode cX2_partnersOf 123 = .ok (.goto (-100), 3) := by decide +kernel
theorem dX2_partnersOf_126 : decode cX2_partnersOf 126 = .ok (.iload_n 3, 1) := by decide +kernel
theorem dX2_partnersOf_127 : decode cX2_partnersOf 127 = .ok (.ireturn, 1) := by decide +kernel
def hX2_partnersOf_96 (f : Nat) (Φ : Int → aj_M → Prop) (K23 : List Nat → Int → Int → Int → Int → aj_M → Prop) (q0 : List Nat) (v2 : Int) (v3 : Int) (v5 : Int) (v6 : Int) (v7 : Int) (vs0 : Int) (vs1 : Int) (m : aj_M) : Prop := rI v6 ∧ (v6 = 0 → K23 q0 v2 (aj_or v3 0) (aj_or vs0 vs1) (v5 + 1) m) ∧ (¬ (v6 = 0) → rI v7 ∧ (¬ v7 = 0 → K23 q0 v2 (aj_or v3 0) (aj_or vs0 vs1) (v5 + 1) m) ∧ (v7 = 0 → K23 q0 v2 (aj_or v3 (aj_shl 1 v5)) (aj_or vs0 vs1) (v5 + 1) m))
set_option maxHeartbeats 4000000 in
set_option maxRecDepth 100000 in
theorem tX2_partnersOf_96 {X : aj_T} {n f : Nat} {Φ : Int → aj_M → Prop} (C : aj_Cx X cX2_partnersOf RX2 8 (n + 2)) (K : aj_Rt X (some .int) (fun r m => ∃ z, r = some (vI z) ∧ Φ z m)) {K23 : List Nat → Int → Int → Int → Int → aj_M → Prop} (HK23 : ∀ (q0 : List Nat) (v2 : Int) (v3 : Int) (v4 : Int) (v5 : Int) (m : aj_M) (hq0 : (.inl (2, q0) : aj_R) ∈ aj_pls), K23 q0 v2 v3 v4 v5 m → aj_J X 23 [some (vO 2 q0), none, some (vI v2), some (vI v3), some (vI v4), some (vI v5), none, none] [] m) (q0 : List Nat) (v2 : Int) (v3 : Int) (v5 : Int) (v6 : Int) (v7 : Int) (vs0 : Int) (vs1 : Int) (m : aj_M) (hq0 : (.inl (2, q0) : aj_R) ∈ aj_pls) (h : hX2_partnersOf_96 f Φ K23 q0 v2 v3 v5 v6 v7 vs0 vs1 m) : aj_J X 96 [some (vO 2 q0), none, some (vI v2), some (vI v3), none, some (vI v5), some (vI v6), some (vI v7)] [vI vs1, vI vs0] m := by
  unfold hX2_partnersOf_96 at h
  refine aj_ior C dX2_partnersOf_96 ?_
  refine aj_istore (lv' := [some (vO 2 q0), none, some (vI v2), some (vI v3), some (vI (aj_or vs0 vs1)), some (vI v5), some (vI v6), some (vI v7)]) C dX2_partnersOf_97 (by decide) rfl ?_
  refine aj_iload_n C dX2_partnersOf_99 rfl ?_
  refine aj_iload C dX2_partnersOf_100 rfl ?_
  obtain ⟨r0, h1, h2⟩ := h
  refine aj_if_eq (tgt := 117) C dX2_partnersOf_102 (by decide) r0 (fun e => ?_) (fun e => ?_)
  · have h := h1 e
    refine aj_iconst C dX2_partnersOf_117 ?_
    refine aj_ior C dX2_partnersOf_118 ?_
    refine aj_istore_n (lv' := [some (vO 2 q0), none, some (vI v2), some (vI (aj_or v3 0)), some (vI (aj_or vs0 vs1)), some (vI v5), some (vI v6), some (vI v7)]) C dX2_partnersOf_119 (by decide) rfl ?_
    refine aj_iinc (lv' := [some (vO 2 q0), none, some (vI v2), some (vI (aj_or v3 0)), some (vI (aj_or vs0 vs1)), some (vI (v5 + 1)), some (vI v6), some (vI v7)]) C dX2_partnersOf_120 rfl (by decide) rfl ?_
    refine aj_goto (tgt := 23) C dX2_partnersOf_123 (by decide) ?_
    refine aj_wk (lv' := [some (vO 2 q0), none, some (vI v2), some (vI (aj_or v3 0)), some (vI (aj_or vs0 vs1)), some (vI (v5 + 1)), none, none]) (⟨rfl, ⟨rfl, ⟨rfl, ⟨rfl, ⟨rfl, trivial⟩⟩⟩⟩⟩) ?_
    exact HK23 q0 v2 (aj_or v3 0) (aj_or vs0 vs1) (v5 + 1) _ hq0 h
  · have h := h2 e
    refine aj_iload C dX2_partnersOf_105 rfl ?_
    obtain ⟨r0, h1, h2⟩ := h
    refine aj_if_ne (tgt := 117) C dX2_partnersOf_107 (by decide) r0 (fun e => ?_) (fun e => ?_)
    · have h := h1 e
      refine aj_iconst C dX2_partnersOf_117 ?_
      refine aj_ior C dX2_partnersOf_118 ?_
      refine aj_istore_n (lv' := [some (vO 2 q0), none, some (vI v2), some (vI (aj_or v3 0)), some (vI (aj_or vs0 vs1)), some (vI v5), some (vI v6), some (vI v7)]) C dX2_partnersOf_119 (by decide) rfl ?_
      refine aj_iinc (lv' := [some (vO 2 q0), none, some (vI v2), some (vI (aj_or v3 0)), some (vI (aj_or vs0 vs1)), some (vI (v5 + 1)), some (vI v6), some (vI v7)]) C dX2_partnersOf_120 rfl (by decide) rfl ?_
      refine aj_goto (tgt := 23) C dX2_partnersOf_123 (by decide) ?_
      refine aj_wk (lv' := [some (vO 2 q0), none, some (vI v2), some (vI (aj_or v3 0)), some (vI (aj_or vs0 vs1)), some (vI (v5 + 1)), none, none]) (⟨rfl, ⟨rfl, ⟨rfl, ⟨rfl, ⟨rfl, trivial⟩⟩⟩⟩⟩) ?_
      exact HK23 q0 v2 (aj_or v3 0) (aj_or vs0 vs1) (v5 + 1) _ hq0 h
    · have h := h2 e
      refine aj_iconst C dX2_partnersOf_110 ?_
      refine aj_iload C dX2_partnersOf_111 rfl ?_
      refine aj_ishl C dX2_partnersOf_113 ?_
      refine aj_goto (tgt := 118) C dX2_partnersOf_114 (by decide) ?_
      refine aj_ior C dX2_partnersOf_118 ?_
      refine aj_istore_n (lv' := [some (vO 2 q0), none, some (vI v2), some (vI (aj_or v3 (aj_shl 1 v5))), some (vI (aj_or vs0 vs1)), some (vI v5), some (vI v6), some (vI v7)]) C dX2_partnersOf_119 (by decide) rfl ?_
      refine aj_iinc (lv' := [some (vO 2 q0), none, some (vI v2), some (vI (aj_or v3 (aj_shl 1 v5))), some (vI (aj_or vs0 vs1)), some (vI (v5 + 1)), some (vI v6), some (vI v7)]) C dX2_partnersOf_120 rfl (by decide) rfl ?_
      refine aj_goto (tgt := 23) C dX2_partnersOf_123 (by decide) ?_
      refine aj_wk (lv' := [some (vO 2 q0), none, some (vI v2), some (vI (aj_or v3 (aj_shl 1 v5))), some (vI (aj_or vs0 vs1)), some (vI (v5 + 1)), none, none]) (⟨rfl, ⟨rfl, ⟨rfl, ⟨rfl, ⟨rfl, trivial⟩⟩⟩⟩⟩) ?_
      exact HK23 q0 v2 (aj_or v3 (aj_shl 1 v5)) (aj_or vs0 vs1) (v5 + 1) _ hq0 h
def hX2_partnersOf_55 (f : Nat) (Φ : Int → aj_M → Prop) (K23 : List Nat → Int → Int → Int → Int → aj_M → Prop) (q0 : List Nat) (v2 : Int) (v3 : Int) (v4 : Int) (v5 : Int) (vs0 : Int) (m : aj_M) : Prop := (0 ≤ v5 ∧ v5 < 14) ∧ rI (m (6 :: q0) v5.toNat) ∧ (¬ (m (6 :: q0) v5.toNat) = 0 → (0 ≤ v5 ∧ v5 < 14) ∧ rI (m (6 :: q0) v5.toNat) ∧ (¬ (m (6 :: q0) v5.toNat) = 0 → hX2_partnersOf_96 f Φ K23 q0 v2 v3 v5 vs0 0 v4 0 m) ∧ ((m (6 :: q0) v5.toNat) = 0 → hX2_partnersOf_96 f Φ K23 q0 v2 v3 v5 vs0 0 v4 1 m)) ∧ ((m (6 :: q0) v5.toNat) = 0 → rI v4 ∧ (v4 = 0 → (0 ≤ v5 ∧ v5 < 14) ∧ rI (m (6 :: q0) v5.toNat) ∧ (¬ (m (6 :: q0) v5.toNat) = 0 → hX2_partnersOf_96 f Φ K23 q0 v2 v3 v5 vs0 0 v4 0 m) ∧ ((m (6 :: q0) v5.toNat) = 0 → hX2_partnersOf_96 f Φ K23 q0 v2 v3 v5 vs0 0 v4 1 m)) ∧ (¬ (v4 = 0) → (0 ≤ v5 ∧ v5 < 14) ∧ rI (m (6 :: q0) v5.toNat) ∧ (¬ (m (6 :: q0) v5.toNat) = 0 → hX2_partnersOf_96 f Φ K23 q0 v2 v3 v5 vs0 1 v4 0 m) ∧ ((m (6 :: q0) v5.toNat) = 0 → hX2_partnersOf_96 f Φ K23 q0 v2 v3 v5 vs0 1 v4 1 m)))
set_option maxHeartbeats 4000000 in
set_option maxRecDepth 100000 in
theorem tX2_partnersOf_55 {X : aj_T} {n f : Nat} {Φ : Int → aj_M → Prop} (C : aj_Cx X cX2_partnersOf RX2 8 (n + 2)) (K : aj_Rt X (some .int) (fun r m => ∃ z, r = some (vI z) ∧ Φ z m)) {K23 : List Nat → Int → Int → Int → Int → aj_M → Prop} (HK23 : ∀ (q0 : List Nat) (v2 : Int) (v3 : Int) (v4 : Int) (v5 : Int) (m : aj_M) (hq0 : (.inl (2, q0) : aj_R) ∈ aj_pls), K23 q0 v2 v3 v4 v5 m → aj_J X 23 [some (vO 2 q0), none, some (vI v2), some (vI v3), some (vI v4), some (vI v5), none, none] [] m) (q0 : List Nat) (v2 : Int) (v3 : Int) (v4 : Int) (v5 : Int) (vs0 : Int) (m : aj_M) (hq0 : (.inl (2, q0) : aj_R) ∈ aj_pls) (h : hX2_partnersOf_55 f Φ K23 q0 v2 v3 v4 v5 vs0 m) : aj_J X 55 [some (vO 2 q0), none, some (vI v2), some (vI v3), some (vI v4), some (vI v5), none, none] [vI vs0] m := by
  unfold hX2_partnersOf_55 at h
  refine aj_istore (lv' := [some (vO 2 q0), none, some (vI v2), some (vI v3), some (vI v4), some (vI v5), some (vI vs0), none]) C dX2_partnersOf_55 (by decide) rfl ?_
  refine aj_aload_n C dX2_partnersOf_57 rfl ?_
  refine aj_getA (x := 0) (y := 14) C flX2_30 hq0 rfl dX2_partnersOf_58 ?_
  refine aj_iload C dX2_partnersOf_61 rfl ?_
  obtain ⟨r0, h⟩ := h
  refine aj_iald C (aj_ca (e := 0) (n := 14) (j := 6) hq0 (by decide) rfl) (by decide) r0 dX2_partnersOf_63 rfl ?_
  obtain ⟨r0, h1, h2⟩ := h
  refine aj_if_ne (tgt := 76) C dX2_partnersOf_64 (by decide) r0 (fun e => ?_) (fun e => ?_)
  · have h := h1 e
    refine aj_iconst C dX2_partnersOf_76 ?_
    refine aj_istore (lv' := [some (vO 2 q0), none, some (vI v2), some (vI v3), some (vI v4), some (vI v5), some (vI vs0), some (vI 0)]) C dX2_partnersOf_77 (by decide) rfl ?_
    refine aj_iload C dX2_partnersOf_79 rfl ?_
    refine aj_aload_n C dX2_partnersOf_81 rfl ?_
    refine aj_getA (x := 0) (y := 14) C flX2_30 hq0 rfl dX2_partnersOf_82 ?_
    refine aj_iload C dX2_partnersOf_85 rfl ?_
    obtain ⟨r0, h⟩ := h
    refine aj_iald C (aj_ca (e := 0) (n := 14) (j := 6) hq0 (by decide) rfl) (by decide) r0 dX2_partnersOf_87 rfl ?_
    obtain ⟨r0, h1, h2⟩ := h
    refine aj_if_ne (tgt := 95) C dX2_partnersOf_88 (by decide) r0 (fun e => ?_) (fun e => ?_)
    · have h := h1 e
      refine aj_iconst C dX2_partnersOf_95 ?_
      refine aj_wk (lv' := [some (vO 2 q0), none, some (vI v2), some (vI v3), none, some (vI v5), some (vI vs0), some (vI 0)]) (⟨rfl, ⟨rfl, ⟨rfl, ⟨rfl, ⟨rfl, ⟨rfl, trivial⟩⟩⟩⟩⟩⟩) ?_
      exact tX2_partnersOf_96 C K HK23 q0 v2 v3 v5 vs0 0 v4 0 _ hq0 h
    · have h := h2 e
      refine aj_iconst C dX2_partnersOf_91 ?_
      refine aj_goto (tgt := 96) C dX2_partnersOf_92 (by decide) ?_
      refine aj_wk (lv' := [some (vO 2 q0), none, some (vI v2), some (vI v3), none, some (vI v5), some (vI vs0), some (vI 0)]) (⟨rfl, ⟨rfl, ⟨rfl, ⟨rfl, ⟨rfl, ⟨rfl, trivial⟩⟩⟩⟩⟩⟩) ?_
      exact tX2_partnersOf_96 C K HK23 q0 v2 v3 v5 vs0 0 v4 1 _ hq0 h
  · have h := h2 e
    refine aj_iload C dX2_partnersOf_67 rfl ?_
    obtain ⟨r0, h1, h2⟩ := h
    refine aj_if_eq (tgt := 76) C dX2_partnersOf_69 (by decide) r0 (fun e => ?_) (fun e => ?_)
    · have h := h1 e
      refine aj_iconst C dX2_partnersOf_76 ?_
      refine aj_istore (lv' := [some (vO 2 q0), none, some (vI v2), some (vI v3), some (vI v4), some (vI v5), some (vI vs0), some (vI 0)]) C dX2_partnersOf_77 (by decide) rfl ?_
      refine aj_iload C dX2_partnersOf_79 rfl ?_
      refine aj_aload_n C dX2_partnersOf_81 rfl ?_
      refine aj_getA (x := 0) (y := 14) C flX2_30 hq0 rfl dX2_partnersOf_82 ?_
      refine aj_iload C dX2_partnersOf_85 rfl ?_
      obtain ⟨r0, h⟩ := h
      refine aj_iald C (aj_ca (e := 0) (n := 14) (j := 6) hq0 (by decide) rfl) (by decide) r0 dX2_partnersOf_87 rfl ?_
      obtain ⟨r0, h1, h2⟩ := h
      refine aj_if_ne (tgt := 95) C dX2_partnersOf_88 (by decide) r0 (fun e => ?_) (fun e => ?_)
      · have h := h1 e
        refine aj_iconst C dX2_partnersOf_95 ?_
        refine aj_wk (lv' := [some (vO 2 q0), none, some (vI v2), some (vI v3), none, some (vI v5), some (vI vs0), some (vI 0)]) (⟨rfl, ⟨rfl, ⟨rfl, ⟨rfl, ⟨rfl, ⟨rfl, trivial⟩⟩⟩⟩⟩⟩) ?_
        exact tX2_partnersOf_96 C K HK23 q0 v2 v3 v5 vs0 0 v4 0 _ hq0 h
      · have h := h2 e
        refine aj_iconst C dX2_partnersOf_91 ?_
        refine aj_goto (tgt := 96) C dX2_partnersOf_92 (by decide) ?_
        refine aj_wk (lv' := [some (vO 2 q0), none, some (vI v2), some (vI v3), none, some (vI v5), some (vI vs0), some (vI 0)]) (⟨rfl, ⟨rfl, ⟨rfl, ⟨rfl, ⟨rfl, ⟨rfl, trivial⟩⟩⟩⟩⟩⟩) ?_
        exact tX2_partnersOf_96 C K HK23 q0 v2 v3 v5 vs0 0 v4 1 _ hq0 h
    · have h := h2 e
      refine aj_iconst C dX2_partnersOf_72 ?_
      refine aj_goto (tgt := 77) C dX2_partnersOf_73 (by decide) ?_
      refine aj_istore (lv' := [some (vO 2 q0), none, some (vI v2), some (vI v3), some (vI v4), some (vI v5), some (vI vs0), some (vI 1)]) C dX2_partnersOf_77 (by decide) rfl ?_
      refine aj_iload C dX2_partnersOf_79 rfl ?_
      refine aj_aload_n C dX2_partnersOf_81 rfl ?_
      refine aj_getA (x := 0) (y := 14) C flX2_30 hq0 rfl dX2_partnersOf_82 ?_
      refine aj_iload C dX2_partnersOf_85 rfl ?_
      obtain ⟨r0, h⟩ := h
      refine aj_iald C (aj_ca (e := 0) (n := 14) (j := 6) hq0 (by decide) rfl) (by decide) r0 dX2_partnersOf_87 rfl ?_
      obtain ⟨r0, h1, h2⟩ := h
      refine aj_if_ne (tgt := 95) C dX2_partnersOf_88 (by decide) r0 (fun e => ?_) (fun e => ?_)
      · have h := h1 e
        refine aj_iconst C dX2_partnersOf_95 ?_
        refine aj_wk (lv' := [some (vO 2 q0), none, some (vI v2), some (vI v3), none, some (vI v5), some (vI vs0), some (vI 1)]) (⟨rfl, ⟨rfl, ⟨rfl, ⟨rfl, ⟨rfl, ⟨rfl, trivial⟩⟩⟩⟩⟩⟩) ?_
        exact tX2_partnersOf_96 C K HK23 q0 v2 v3 v5 vs0 1 v4 0 _ hq0 h
      · have h := h2 e
        refine aj_iconst C dX2_partnersOf_91 ?_
        refine aj_goto (tgt := 96) C dX2_partnersOf_92 (by decide) ?_
        refine aj_wk (lv' := [some (vO 2 q0), none, some (vI v2), some (vI v3), none, some (vI v5), some (vI vs0), some (vI 1)]) (⟨rfl, ⟨rfl, ⟨rfl, ⟨rfl, ⟨rfl, ⟨rfl, trivial⟩⟩⟩⟩⟩⟩) ?_
        exact tX2_partnersOf_96 C K HK23 q0 v2 v3 v5 vs0 1 v4 1 _ hq0 h
def hX2_partnersOf_23 (f : Nat) (Φ : Int → aj_M → Prop) : Nat → List Nat → Int → Int → Int → Int → aj_M → Prop
  | 0, _, _, _, _, _, _ => False
  | k + 1, q0, v2, v3, v4, v5, m => rI v5 ∧ rI (m q0 2) ∧ ((m q0 2) ≤ v5 → Φ v3 m) ∧ (¬ ((m q0 2) ≤ v5) → wX2_isUnfilled f (fun z1 m1 => rI z1 ∧ (z1 = 0 → hX2_partnersOf_55 f Φ (fun q0 v2 v3 v4 v5 m => hX2_partnersOf_23 f Φ k q0 v2 v3 v4 v5 m) q0 v2 v3 v4 v5 0 m1) ∧ (¬ (z1 = 0) → rI (aj_and (aj_shr v2 v5) 1) ∧ (¬ (aj_and (aj_shr v2 v5) 1) = 0 → hX2_partnersOf_55 f Φ (fun q0 v2 v3 v4 v5 m => hX2_partnersOf_23 f Φ k q0 v2 v3 v4 v5 m) q0 v2 v3 v4 v5 0 m1) ∧ ((aj_and (aj_shr v2 v5) 1) = 0 → hX2_partnersOf_55 f Φ (fun q0 v2 v3 v4 v5 m => hX2_partnersOf_23 f Φ k q0 v2 v3 v4 v5 m) q0 v2 v3 v4 v5 1 m1))) q0 v5 m)
set_option maxHeartbeats 4000000 in
set_option maxRecDepth 100000 in
theorem tX2_partnersOf_23 {X : aj_T} {n f : Nat} {Φ : Int → aj_M → Prop} (C : aj_Cx X cX2_partnersOf RX2 8 (n + 2)) (K : aj_Rt X (some .int) (fun r m => ∃ z, r = some (vI z) ∧ Φ z m)) : ∀ (k : Nat) (q0 : List Nat) (v2 : Int) (v3 : Int) (v4 : Int) (v5 : Int) (m : aj_M) (hq0 : (.inl (2, q0) : aj_R) ∈ aj_pls), hX2_partnersOf_23 f Φ k q0 v2 v3 v4 v5 m → aj_J X 23 [some (vO 2 q0), none, some (vI v2), some (vI v3), some (vI v4), some (vI v5), none, none] [] m := by
  intro k
  induction k with
  | zero =>
    intro q0 v2 v3 v4 v5 m _ h
    exact h.elim
  | succ k ih =>
    intro q0 v2 v3 v4 v5 m hq0 h
    unfold hX2_partnersOf_23 at h
    refine aj_iload C dX2_partnersOf_23 rfl ?_
    refine aj_aload_n C dX2_partnersOf_25 rfl ?_
    refine aj_getI C flX2_18 hq0 (by decide) dX2_partnersOf_26 rfl ?_
    obtain ⟨r0, r1, h1, h2⟩ := h
    refine aj_icmp_ge (tgt := 126) C dX2_partnersOf_29 (by decide) r0 r1 (fun e => ?_) (fun e => ?_)
    · have h := h1 e
      refine aj_iload_n C dX2_partnersOf_126 rfl ?_
      exact aj_iret C K dX2_partnersOf_127 ⟨_, rfl, h⟩
    · have h := h2 e
      refine aj_aload_n C dX2_partnersOf_32 rfl ?_
      refine aj_iload C dX2_partnersOf_33 rfl ?_
      refine aj_callV (rest := []) C mvX2_64 (sX2_isUnfilled hq0 h) hq0 (aj_np 1 (by decide +kernel) rfl) (Nat.le_of_ble_eq_true rfl) rfl dX2_partnersOf_35 (fun r m1 h => ?_)
      obtain ⟨z1, rfl, h⟩ := h
      obtain ⟨r0, h1, h2⟩ := h
      refine aj_if_eq (tgt := 54) C dX2_partnersOf_38 (by decide) r0 (fun e => ?_) (fun e => ?_)
      · have h := h1 e
        refine aj_iconst C dX2_partnersOf_54 ?_
        exact tX2_partnersOf_55 C K (fun q0 v2 v3 v4 v5 m hq0 hh => ih q0 v2 v3 v4 v5 m hq0 hh) q0 v2 v3 v4 v5 0 _ hq0 h
      · have h := h2 e
        refine aj_iload_n C dX2_partnersOf_41 rfl ?_
        refine aj_iload C dX2_partnersOf_42 rfl ?_
        refine aj_ishr C dX2_partnersOf_44 ?_
        refine aj_iconst C dX2_partnersOf_45 ?_
        refine aj_iand C dX2_partnersOf_46 ?_
        obtain ⟨r0, h1, h2⟩ := h
        refine aj_if_ne (tgt := 54) C dX2_partnersOf_47 (by decide) r0 (fun e => ?_) (fun e => ?_)
        · have h := h1 e
          refine aj_iconst C dX2_partnersOf_54 ?_
          exact tX2_partnersOf_55 C K (fun q0 v2 v3 v4 v5 m hq0 hh => ih q0 v2 v3 v4 v5 m hq0 hh) q0 v2 v3 v4 v5 0 _ hq0 h
        · have h := h2 e
          refine aj_iconst C dX2_partnersOf_50 ?_
          refine aj_goto (tgt := 55) C dX2_partnersOf_51 (by decide) ?_
          exact tX2_partnersOf_55 C K (fun q0 v2 v3 v4 v5 m hq0 hh => ih q0 v2 v3 v4 v5 m hq0 hh) q0 v2 v3 v4 v5 1 _ hq0 h
def wX2_partnersOf (f : Nat) (Φ : Int → aj_M → Prop) (q0 : List Nat) (v1 : Int) (m : aj_M) : Prop := (0 ≤ v1 ∧ v1 < 14) ∧ wX2_tooNear f (fun z1 m1 => hX2_partnersOf_23 f Φ f q0 (aj_or (m (7 :: q0) v1.toNat) z1) 0 0 (v1 + 1) m1) q0 v1 m
set_option maxHeartbeats 4000000 in
set_option maxRecDepth 100000 in
theorem sX2_partnersOf {n f : Nat} {Φ : Int → aj_M → Prop} {q0 : List Nat} {v1 : Int} {m : aj_M} (hq0 : (.inl (2, q0) : aj_R) ∈ aj_pls) (h : wX2_partnersOf f Φ q0 v1 m) : aj_Ct (n + 2) yX2_partnersOf cX2_partnersOf 8 (some .int) [vO 2 q0, vI v1] m (fun r m => ∃ z, r = some (vI z) ∧ Φ z m) := by
  refine aj_met (lv := [some (vO 2 q0), some (vI v1), none, none, none, none, none, none]) (by decide +kernel) rfl (Nat.le_of_ble_eq_true rfl) (fun X C K => ?_)
  unfold wX2_partnersOf at h
  refine aj_aload_n C dX2_partnersOf_0 rfl ?_
  refine aj_getA (x := 0) (y := 14) C flX2_34 hq0 rfl dX2_partnersOf_1 ?_
  refine aj_iload_n C dX2_partnersOf_4 rfl ?_
  obtain ⟨r0, h⟩ := h
  refine aj_iald C (aj_ca (e := 0) (n := 14) (j := 7) hq0 (by decide) rfl) (by decide) r0 dX2_partnersOf_5 rfl ?_
  refine aj_aload_n C dX2_partnersOf_6 rfl ?_
  refine aj_iload_n C dX2_partnersOf_7 rfl ?_
  refine aj_callV (rest := [vI (m (7 :: q0) v1.toNat)]) C mvX2_68 (sX2_tooNear hq0 h) hq0 (aj_np 1 (by decide +kernel) rfl) (Nat.le_of_ble_eq_true rfl) rfl dX2_partnersOf_8 (fun r m1 h => ?_)
  obtain ⟨z1, rfl, h⟩ := h
  refine aj_ior C dX2_partnersOf_11 ?_
  refine aj_istore_n (lv' := [some (vO 2 q0), some (vI v1), some (vI (aj_or (m (7 :: q0) v1.toNat) z1)), none, none, none, none, none]) C dX2_partnersOf_12 (by decide) rfl ?_
  refine aj_iconst C dX2_partnersOf_13 ?_
  refine aj_istore_n (lv' := [some (vO 2 q0), some (vI v1), some (vI (aj_or (m (7 :: q0) v1.toNat) z1)), some (vI 0), none, none, none, none]) C dX2_partnersOf_14 (by decide) rfl ?_
  refine aj_iconst C dX2_partnersOf_15 ?_
  refine aj_istore (lv' := [some (vO 2 q0), some (vI v1), some (vI (aj_or (m (7 :: q0) v1.toNat) z1)), some (vI 0), some (vI 0), none, none, none]) C dX2_partnersOf_16 (by decide) rfl ?_
  refine aj_iload_n C dX2_partnersOf_18 rfl ?_
  refine aj_iconst C dX2_partnersOf_19 ?_
  refine aj_iadd C dX2_partnersOf_20 ?_
  refine aj_istore (lv' := [some (vO 2 q0), some (vI v1), some (vI (aj_or (m (7 :: q0) v1.toNat) z1)), some (vI 0), some (vI 0), some (vI (v1 + 1)), none, none]) C dX2_partnersOf_21 (by decide) rfl ?_
  refine aj_wk (lv' := [some (vO 2 q0), none, some (vI (aj_or (m (7 :: q0) v1.toNat) z1)), some (vI 0), some (vI 0), some (vI (v1 + 1)), none, none]) (⟨rfl, ⟨rfl, ⟨rfl, ⟨rfl, ⟨rfl, trivial⟩⟩⟩⟩⟩) ?_
  exact tX2_partnersOf_23 C K f q0 (aj_or (m (7 :: q0) v1.toNat) z1) 0 0 (v1 + 1) _ hq0 h
theorem dX2_makeStep_0 : decode cX2_makeStep 0 = .ok (.aload_n 0, 1) := by decide +kernel
theorem dX2_makeStep_1 : decode cX2_makeStep 1 = .ok (.getfield 24, 3) := by decide +kernel
theorem dX2_makeStep_4 : decode cX2_makeStep 4 = .ok (.sipush 5000, 3) := by decide +kernel
theorem dX2_makeStep_7 : decode cX2_makeStep 7 = .ok (.if_icmp .ge 9, 3) := by decide +kernel
theorem dX2_makeStep_10 : decode cX2_makeStep 10 = .ok (.iload_n 1, 1) := by decide +kernel
theorem dX2_makeStep_11 : decode cX2_makeStep 11 = .ok (.bipush 29, 2) := by decide +kernel
theorem dX2_makeStep_13 : decode cX2_makeStep 13 = .ok (.if_icmp .le 9, 3) := by decide +kernel
theorem dX2_makeStep_16 : decode cX2_makeStep 16 = .ok (.aload_n 0, 1) := by decide +kernel
theorem dX2_makeStep_17 : decode cX2_makeStep 17 = .ok (.iconst 2, 1) := by decide +kernel
theorem dX2_makeStep_18 : decode cX2_makeStep 18 = .ok (.putfield 21, 3) := by decide +kernel
theorem dX2_makeStep_21 : decode cX2_makeStep 21 = .ok (.return_, 1) := by decide +kernel
theorem dX2_makeStep_22 : decode cX2_makeStep 22 = .ok (.aload_n 0, 1) := by decide +kernel
theorem dX2_makeStep_23 : decode cX2_makeStep 23 = .ok (.dup, 1) := by decide +kernel
theorem dX2_makeStep_24 : decode cX2_makeStep 24 = .ok (.getfield 24, 3) := by decide +kernel
theorem dX2_makeStep_27 : decode cX2_makeStep 27 = .ok (.iconst 1, 1) := by decide +kernel
theorem dX2_makeStep_28 : decode cX2_makeStep 28 = .ok (.iadd, 1) := by decide +kernel
theorem dX2_makeStep_29 : decode cX2_makeStep 29 = .ok (.putfield 24, 3) := by decide +kernel
theorem dX2_makeStep_32 : decode cX2_makeStep 32 = .ok (.aload_n 0, 1) := by decide +kernel
theorem dX2_makeStep_33 : decode cX2_makeStep 33 = .ok (.invokevirtual 51, 3) := by decide +kernel
theorem dX2_makeStep_36 : decode cX2_makeStep 36 = .ok (.istore_n 2, 1) := by decide +kernel
theorem dX2_makeStep_37 : decode cX2_makeStep 37 = .ok (.iload_n 2, 1) := by decide +kernel
theorem dX2_makeStep_38 : decode cX2_makeStep 38 = .ok (.ifCond .ge 9, 3) := by decide +kernel
theorem dX2_makeStep_41 : decode cX2_makeStep 41 = .ok (.aload_n 0, 1) := by decide +kernel
theorem dX2_makeStep_42 : decode cX2_makeStep 42 = .ok (.iconst 1, 1) := by decide +kernel
theorem dX2_makeStep_43 : decode cX2_makeStep 43 = .ok (.putfield 21, 3) := by decide +kernel
theorem dX2_makeStep_46 : decode cX2_makeStep 46 = .ok (.return_, 1) := by decide +kernel
theorem dX2_makeStep_47 : decode cX2_makeStep 47 = .ok (.aload_n 0, 1) := by decide +kernel
theorem dX2_makeStep_48 : decode cX2_makeStep 48 = .ok (.iload_n 2, 1) := by decide +kernel
theorem dX2_makeStep_49 : decode cX2_makeStep 49 = .ok (.invokevirtual 55, 3) := by decide +kernel
theorem dX2_makeStep_52 : decode cX2_makeStep 52 = .ok (.istore_n 3, 1) := by decide +kernel
theorem dX2_makeStep_53 : decode cX2_makeStep 53 = .ok (.aload_n 0, 1) := by decide +kernel
theorem dX2_makeStep_54 : decode cX2_makeStep 54 = .ok (.getfield 34, 3) := by decide +kernel
theorem dX2_makeStep_57 : decode cX2_makeStep 57 = .ok (.iload_n 2, 1) := by decide +kernel
theorem dX2_makeStep_58 : decode cX2_makeStep 58 = .ok (.iaload, 1) := by decide +kernel
theorem dX2_makeStep_59 : decode cX2_makeStep 59 = .ok (.istore 4, 2) := by decide +kernel
theorem dX2_makeStep_61 : decode cX2_makeStep 61 = .ok (.iload_n 2, 1) := by decide +kernel
theorem dX2_makeStep_62 : decode cX2_makeStep 62 = .ok (.iconst 1, 1) := by decide +kernel
theorem dX2_makeStep_63 : decode cX2_makeStep 63 = .ok (.iadd, 1) := by decide +kernel
theorem dX2_makeStep_64 : decode cX2_makeStep 64 = .ok (.istore 5, 2) := by decide +kernel
theorem dX2_makeStep_66 : decode cX2_makeStep 66 = .ok (.iload 5, 2) := by decide +kernel
theorem dX2_makeStep_68 : decode cX2_makeStep 68 = .ok (.aload_n 0, 1) := by decide +kernel
theorem dX2_makeStep_69 : decode cX2_makeStep 69 = .ok (.getfield 18, 3) := by decide +kernel
theorem dX2_makeStep_72 : decode cX2_makeStep 72 = .ok (.if_icmp .ge 113, 3) := by decide +kernel
theorem dX2_makeStep_75 : decode cX2_makeStep 75 = .ok (.iload_n 3, 1) := by decide +kernel
theorem dX2_makeStep_76 : decode cX2_makeStep 76 = .ok (.iload 5, 2) := by decide +kernel
theorem dX2_makeStep_78 : decode cX2_makeStep 78 = .ok (.ishr, 1) := by decide +kernel
theorem dX2_makeStep_79 : decode cX2_makeStep 79 = .ok (.iconst 1, 1) := by decide +kernel
theorem dX2_makeStep_80 : decode cX2_makeStep 80 = .ok (.iand, 1) := by decide +kernel
theorem dX2_makeStep_81 : decode cX2_makeStep 81 = .ok (.iconst 1, 1) := by decide +kernel
theorem dX2_makeStep_82 : decode cX2_makeStep 82 = .ok (.if_icmp .ne 97, 3) := by decide +kernel
theorem dX2_makeStep_85 : decode cX2_makeStep 85 = .ok (.aload_n 0, 1) := by decide +kernel
theorem dX2_makeStep_86 : decode cX2_makeStep 86 = .ok (.getfield 30, 3) := by decide +kernel
theorem dX2_makeStep_89 : decode cX2_makeStep 89 = .ok (.iload_n 2, 1) := by decide +kernel
theorem dX2_makeStep_90 : decode cX2_makeStep 90 = .ok (.dup2, 1) := by decide +kernel
theorem dX2_makeStep_91 : decode cX2_makeStep 91 = .ok (.iaload, 1) := by decide +kernel
theorem dX2_makeStep_92 : decode cX2_makeStep 92 = .ok (.iconst 1, 1) := by decide +kernel
theorem dX2_makeStep_93 : decode cX2_makeStep 93 = .ok (.iload 5, 2) := by decide +kernel
theorem dX2_makeStep_95 : decode cX2_makeStep 95 = .ok (.ishl, 1) := by decide +kernel
theorem dX2_makeStep_96 : decode cX2_makeStep 96 = .ok (.ior, 1) := by decide +kernel
theorem dX2_makeStep_97 : decode cX2_makeStep 97 = .ok (.iastore, 1) := by decide +kernel
theorem dX2_makeStep_98 : decode cX2_makeStep 98 = .ok (.aload_n 0, 1) := by decide +kernel
theorem dX2_makeStep_99 : decode cX2_makeStep 99 = .ok (.getfield 30, 3) := by decide +kernel
theorem dX2_makeStep_102 : decode cX2_makeStep 102 = .ok (.iload 5, 2) := by decide +kernel
theorem dX2_makeStep_104 : decode cX2_makeStep 104 = .ok (.dup2, 1) := by decide +kernel
theorem dX2_makeStep_105 : decode cX2_makeStep 105 = .ok (.iaload, 1) := by decide +kernel
theorem dX2_makeStep_106 : decode cX2_makeStep 106 = .ok (.iconst 1, 1) := by decide +kernel
theorem dX2_makeStep_107 : decode cX2_makeStep 107 = .ok (.iload_n 2, 1) := by decide +kernel
theorem dX2_makeStep_108 : decode cX2_makeStep 108 = .ok (.ishl, 1) := by decide +kernel
theorem dX2_makeStep_109 : decode cX2_makeStep 109 = .ok (.ior, 1) := by decide +kernel
theorem dX2_makeStep_110 : decode cX2_makeStep 110 = .ok (.iastore, 1) := by decide +kernel
theorem dX2_makeStep_111 : decode cX2_makeStep 111 = .ok (.aload_n 0, 1) := by decide +kernel
theorem dX2_makeStep_112 : decode cX2_makeStep 112 = .ok (.iload_n 1, 1) := by decide +kernel
theorem dX2_makeStep_113 : decode cX2_makeStep 113 = .ok (.iconst 1, 1) := by decide +kernel
theorem dX2_makeStep_114 : decode cX2_makeStep 114 = .ok (.iadd, 1) := by decide +kernel
theorem dX2_makeStep_115 : decode cX2_makeStep 115 = .ok (.invokevirtual 47, 3) := by decide +kernel
theorem dX2_makeStep_118 : decode cX2_makeStep 118 = .ok (.aload_n 0, 1) := by decide +kernel
theorem dX2_makeStep_119 : decode cX2_makeStep 119 = .ok (.getfield 21, 3) := by decide +kernel
theorem dX2_makeStep_122 : decode cX2_makeStep 122 = .ok (.ifCond .eq 4, 3) := by decide +kernel
theorem dX2_makeStep_125 : decode cX2_makeStep 125 = .ok (.return_, 1) := by decide +kernel
theorem dX2_makeStep_126 : decode cX2_makeStep 126 = .ok (.aload_n 0, 1) := by decide +kernel
theorem dX2_makeStep_127 : decode cX2_makeStep 127 = .ok (.getfield 30, 3) := by decide +kernel
theorem dX2_makeStep_130 : decode cX2_makeStep 130 = .ok (.iload_n 2, 1) := by decide +kernel
theorem dX2_makeStep_131 : decode cX2_makeStep 131 = .ok (.dup2, 1) := by decide +kernel
theorem dX2_makeStep_132 : decode cX2_makeStep 132 = .ok (.iaload, 1) := by decide +kernel
theorem dX2_makeStep_133 : decode cX2_makeStep 133 = .ok (.iconst 1, 1) := by decide +kernel
theorem dX2_makeStep_134 : decode cX2_makeStep 134 = .ok (.iload 5, 2) := by decide +kernel
theorem dX2_makeStep_136 : decode cX2_makeStep 136 = .ok (.ishl, 1) := by decide +kernel
theorem dX2_makeStep_137 : decode cX2_makeStep 137 = .ok (.iconst (-1), 1) := by decide +kernel
theorem dX2_makeStep_138 : decode cX2_makeStep 138 = .ok (.ixor, 1) := by decide +kernel
theorem dX2_makeStep_139 : decode cX2_makeStep 139 = .ok (.iand, 1) := by decide +kernel
theorem dX2_makeStep_140 : decode cX2_makeStep 140 = .ok (.iastore, 1) := by decide +kernel
theorem dX2_makeStep_141 : decode cX2_makeStep 141 = .ok (.aload_n 0, 1) := by decide +kernel
theorem dX2_makeStep_142 : decode cX2_makeStep 142 = .ok (.getfield 30, 3) := by decide +kernel
theorem dX2_makeStep_145 : decode cX2_makeStep 145 = .ok (.iload 5, 2) := by decide +kernel
theorem dX2_makeStep_147 : decode cX2_makeStep 147 = .ok (.dup2, 1) := by decide +kernel
theorem dX2_makeStep_148 : decode cX2_makeStep 148 = .ok (.iaload, 1) := by decide +kernel
theorem dX2_makeStep_149 : decode cX2_makeStep 149 = .ok (.iconst 1, 1) := by decide +kernel
theorem dX2_makeStep_150 : decode cX2_makeStep 150 = .ok (.iload_n 2, 1) := by decide +kernel
theorem dX2_makeStep_151 : decode cX2_makeStep 151 = .ok (.ishl, 1) := by decide +kernel
theorem dX2_makeStep_152 : decode cX2_makeStep 152 = .ok (.iconst (-1), 1) := by decide +kernel
theorem dX2_makeStep_153 : decode cX2_makeStep 153 = .ok (.ixor, 1) := by decide +kernel
theorem dX2_makeStep_154 : decode cX2_makeStep 154 = .ok (.iand, 1) := by decide +kernel
theorem dX2_makeStep_155 : decode cX2_makeStep 155 = .ok (.iastore, 1) := by decide +kernel
theorem dX2_makeStep_156 : decode cX2_makeStep 156 = .ok (.aload_n 0, 1) := by decide +kernel
theorem dX2_makeStep_157 : decode cX2_makeStep 157 = .ok (.getfield 34, 3) := by decide +kernel
theorem dX2_makeStep_160 : decode cX2_makeStep 160 = .ok (.iload_n 2, 1) := by decide +kernel
theorem dX2_makeStep_161 : decode cX2_makeStep 161 = .ok (.dup2, 1) := by decide +kernel
theorem dX2_makeStep_162 : decode cX2_makeStep 162 = .ok (.iaload, 1) := by decide +kernel
theorem dX2_makeStep_163 : decode cX2_makeStep 163 = .ok (.iconst 1, 1) := by decide +kernel
theorem dX2_makeStep_164 : decode cX2_makeStep 164 = .ok (.iload 5, 2) := by decide +kernel
theorem dX2_makeStep_166 : decode cX2_makeStep 166 = .ok (.ishl, 1) := by decide +kernel
theorem dX2_makeStep_167 : decode cX2_makeStep 167 = .ok (.ior, 1) := by decide +kernel
theorem dX2_makeStep_168 : decode cX2_makeStep 168 = .ok (.iastore, 1) := by decide +kernel
theorem dX2_makeStep_169 : decode cX2_makeStep 169 = .ok (.aload_n 0, 1) := by decide +kernel
theorem dX2_makeStep_170 : decode cX2_makeStep 170 = .ok (.dup, 1) := by decide +kernel
theorem dX2_makeStep_171 : decode cX2_makeStep 171 = .ok (.getfield 27, 3) := by decide +kernel
theorem dX2_makeStep_174 : decode cX2_makeStep 174 = .ok (.iconst 1, 1) := by decide +kernel
theorem dX2_makeStep_175 : decode cX2_makeStep 175 = .ok (.iadd, 1) := by decide +kernel
theorem dX2_makeStep_176 : decode cX2_makeStep 176 = .ok (.putfield 27, 3) := by decide +kernel
theorem dX2_makeStep_179 : decode cX2_makeStep 179 = .ok (.iinc 5 1, 3) := by decide +kernel
theorem dX2_makeStep_182 : decode cX2_makeStep 182 = .ok (.goto (-116), 3) := by decide +kernel
theorem dX2_makeStep_185 : decode cX2_makeStep 185 = .ok (.aload_n 0, 1) := by decide +kernel
theorem dX2_makeStep_186 : decode cX2_makeStep 186 = .ok (.getfield 34, 3) := by decide +kernel
theorem dX2_makeStep_189 : decode cX2_makeStep 189 = .ok (.iload_n 2, 1) := by decide +kernel
theorem dX2_makeStep_190 : decode cX2_makeStep 190 = .ok (.iload 4, 2) := by decide +kernel
theorem dX2_makeStep_192 : decode cX2_makeStep 192 = .ok (.iastore, 1) := by decide +kernel
theorem dX2_makeStep_193 : decode cX2_makeStep 193 = .ok (.return_, 1) := by decide +kernel
def hX2_makeStep_66 (f : Nat) (Φ : aj_M → Prop) (R : Nat → (aj_M → Prop) → List Nat → Int → aj_M → Prop) : Nat → List Nat → Int → Int → Int → Int → Int → aj_M → Prop
  | 0, _, _, _, _, _, _, _ => False
  | k + 1, q0, v1, v2, v3, v4, v5, m => rI v5 ∧ rI (m q0 2) ∧ ((m q0 2) ≤ v5 → (0 ≤ v2 ∧ v2 < 14) ∧ ∀ m1, m1 = aj_u m (7 :: q0) v2.toNat v4 → Φ m1) ∧ (¬ ((m q0 2) ≤ v5) → rI (aj_and (aj_shr v3 v5) 1) ∧ (¬ (aj_and (aj_shr v3 v5) 1) = 1 → hX2_makeStep_66 f Φ R k q0 v1 v2 v3 v4 (v5 + 1) m) ∧ ((aj_and (aj_shr v3 v5) 1) = 1 → (0 ≤ v2 ∧ v2 < 14) ∧ (0 ≤ v2 ∧ v2 < 14) ∧ ∀ m2, m2 = aj_u m (6 :: q0) v2.toNat (aj_or (m (6 :: q0) v2.toNat) (aj_shl 1 v5)) → (0 ≤ v5 ∧ v5 < 14) ∧ (0 ≤ v5 ∧ v5 < 14) ∧ ∀ m3, m3 = aj_u m2 (6 :: q0) v5.toNat (aj_or (m2 (6 :: q0) v5.toNat) (aj_shl 1 v2)) → R 0 (fun m4 => rI (m4 q0 3) ∧ ((m4 q0 3) = 0 → (0 ≤ v2 ∧ v2 < 14) ∧ (0 ≤ v2 ∧ v2 < 14) ∧ ∀ m5, m5 = aj_u m4 (6 :: q0) v2.toNat (aj_and (m4 (6 :: q0) v2.toNat) (aj_xor (aj_shl 1 v5) (-1))) → (0 ≤ v5 ∧ v5 < 14) ∧ (0 ≤ v5 ∧ v5 < 14) ∧ ∀ m6, m6 = aj_u m5 (6 :: q0) v5.toNat (aj_and (m5 (6 :: q0) v5.toNat) (aj_xor (aj_shl 1 v2) (-1))) → (0 ≤ v2 ∧ v2 < 14) ∧ (0 ≤ v2 ∧ v2 < 14) ∧ ∀ m7, m7 = aj_u m6 (7 :: q0) v2.toNat (aj_or (m6 (7 :: q0) v2.toNat) (aj_shl 1 v5)) → ∀ m8, m8 = aj_u m7 q0 5 ((m7 q0 5) + 1) → hX2_makeStep_66 f Φ R k q0 v1 v2 v3 v4 (v5 + 1) m8) ∧ (¬ ((m4 q0 3) = 0) → Φ m4)) q0 (v1 + 1) m3))
set_option maxHeartbeats 4000000 in
set_option maxRecDepth 100000 in
theorem tX2_makeStep_66 {X : aj_T} {n f : Nat} {Φ : aj_M → Prop} (C : aj_Cx X cX2_makeStep RX2 6 (n + 3)) (K : aj_Rt X none (fun r m => r = none ∧ Φ m)) {R : Nat → (aj_M → Prop) → List Nat → Int → aj_M → Prop} (HR0 : ∀ (Φ : aj_M → Prop) (q0 : List Nat) (v1 : Int) (m : aj_M) (hq0 : (.inl (2, q0) : aj_R) ∈ aj_pls), R 0 Φ q0 v1 m → aj_Ct (n + 2) yX2_makeStep cX2_makeStep 6 none [vO 2 q0, vI v1] m (fun r m => r = none ∧ Φ m)) : ∀ (k : Nat) (q0 : List Nat) (v1 : Int) (v2 : Int) (v3 : Int) (v4 : Int) (v5 : Int) (m : aj_M) (hq0 : (.inl (2, q0) : aj_R) ∈ aj_pls), hX2_makeStep_66 f Φ R k q0 v1 v2 v3 v4 v5 m → aj_J X 66 [some (vO 2 q0), some (vI v1), some (vI v2), some (vI v3), some (vI v4), some (vI v5)] [] m := by
  intro k
  induction k with
  | zero =>
    intro q0 v1 v2 v3 v4 v5 m _ h
    exact h.elim
  | succ k ih =>
    intro q0 v1 v2 v3 v4 v5 m hq0 h
    unfold hX2_makeStep_66 at h
    refine aj_iload C dX2_makeStep_66 rfl ?_
    refine aj_aload_n C dX2_makeStep_68 rfl ?_
    refine aj_getI C flX2_18 hq0 (by decide) dX2_makeStep_69 rfl ?_
    obtain ⟨r0, r1, h1, h2⟩ := h
    refine aj_icmp_ge (tgt := 185) C dX2_makeStep_72 (by decide) r0 r1 (fun e => ?_) (fun e => ?_)
    · have h := h1 e
      refine aj_aload_n C dX2_makeStep_185 rfl ?_
      refine aj_getA (x := 0) (y := 14) C flX2_34 hq0 rfl dX2_makeStep_186 ?_
      refine aj_iload_n C dX2_makeStep_189 rfl ?_
      refine aj_iload C dX2_makeStep_190 rfl ?_
      obtain ⟨r0, h⟩ := h
      refine aj_iast C (aj_ca (e := 0) (n := 14) (j := 7) hq0 (by decide) rfl) (by decide) r0 dX2_makeStep_192 ?_
      refine aj_nm (fun m1 e1 => ?_)
      have h := h m1 e1
      exact aj_vret C K dX2_makeStep_193 ⟨rfl, h⟩
    · have h := h2 e
      refine aj_iload_n C dX2_makeStep_75 rfl ?_
      refine aj_iload C dX2_makeStep_76 rfl ?_
      refine aj_ishr C dX2_makeStep_78 ?_
      refine aj_iconst C dX2_makeStep_79 ?_
      refine aj_iand C dX2_makeStep_80 ?_
      refine aj_iconst C dX2_makeStep_81 ?_
      obtain ⟨r0, h1, h2⟩ := h
      refine aj_icmp_ne (tgt := 179) C dX2_makeStep_82 (by decide) r0 (by decide) (fun e => ?_) (fun e => ?_)
      · have h := h1 e
        refine aj_iinc (lv' := [some (vO 2 q0), some (vI v1), some (vI v2), some (vI v3), some (vI v4), some (vI (v5 + 1))]) C dX2_makeStep_179 rfl (by decide) rfl ?_
        refine aj_goto (tgt := 66) C dX2_makeStep_182 (by decide) ?_
        exact ih q0 v1 v2 v3 v4 (v5 + 1) _ hq0 h
      · have h := h2 e
        refine aj_aload_n C dX2_makeStep_85 rfl ?_
        refine aj_getA (x := 0) (y := 14) C flX2_30 hq0 rfl dX2_makeStep_86 ?_
        refine aj_iload_n C dX2_makeStep_89 rfl ?_
        refine aj_dup2 C aj_nI aj_nR dX2_makeStep_90 ?_
        obtain ⟨r0, h⟩ := h
        refine aj_iald C (aj_ca (e := 0) (n := 14) (j := 6) hq0 (by decide) rfl) (by decide) r0 dX2_makeStep_91 rfl ?_
        refine aj_iconst C dX2_makeStep_92 ?_
        refine aj_iload C dX2_makeStep_93 rfl ?_
        refine aj_ishl C dX2_makeStep_95 ?_
        refine aj_ior C dX2_makeStep_96 ?_
        obtain ⟨r0, h⟩ := h
        refine aj_iast C (aj_ca (e := 0) (n := 14) (j := 6) hq0 (by decide) rfl) (by decide) r0 dX2_makeStep_97 ?_
        refine aj_nm (fun m2 e1 => ?_)
        have h := h m2 e1
        refine aj_aload_n C dX2_makeStep_98 rfl ?_
        refine aj_getA (x := 0) (y := 14) C flX2_30 hq0 rfl dX2_makeStep_99 ?_
        refine aj_iload C dX2_makeStep_102 rfl ?_
        refine aj_dup2 C aj_nI aj_nR dX2_makeStep_104 ?_
        obtain ⟨r0, h⟩ := h
        refine aj_iald C (aj_ca (e := 0) (n := 14) (j := 6) hq0 (by decide) rfl) (by decide) r0 dX2_makeStep_105 rfl ?_
        refine aj_iconst C dX2_makeStep_106 ?_
        refine aj_iload_n C dX2_makeStep_107 rfl ?_
        refine aj_ishl C dX2_makeStep_108 ?_
        refine aj_ior C dX2_makeStep_109 ?_
        obtain ⟨r0, h⟩ := h
        refine aj_iast C (aj_ca (e := 0) (n := 14) (j := 6) hq0 (by decide) rfl) (by decide) r0 dX2_makeStep_110 ?_
        refine aj_nm (fun m3 e1 => ?_)
        have h := h m3 e1
        refine aj_aload_n C dX2_makeStep_111 rfl ?_
        refine aj_iload_n C dX2_makeStep_112 rfl ?_
        refine aj_iconst C dX2_makeStep_113 ?_
        refine aj_iadd C dX2_makeStep_114 ?_
        refine aj_callV (rest := []) C mvX2_47 (HR0 _ q0 (v1 + 1) _ hq0 h) hq0 (aj_np 1 (by decide +kernel) rfl) (Nat.le_of_ble_eq_true rfl) rfl dX2_makeStep_115 (fun r m4 h => ?_)
        obtain ⟨rfl, h⟩ := h
        refine aj_aload_n C dX2_makeStep_118 rfl ?_
        refine aj_getI C flX2_21 hq0 (by decide) dX2_makeStep_119 rfl ?_
        obtain ⟨r0, h1, h2⟩ := h
        refine aj_if_eq (tgt := 126) C dX2_makeStep_122 (by decide) r0 (fun e => ?_) (fun e => ?_)
        · have h := h1 e
          refine aj_aload_n C dX2_makeStep_126 rfl ?_
          refine aj_getA (x := 0) (y := 14) C flX2_30 hq0 rfl dX2_makeStep_127 ?_
          refine aj_iload_n C dX2_makeStep_130 rfl ?_
          refine aj_dup2 C aj_nI aj_nR dX2_makeStep_131 ?_
          obtain ⟨r0, h⟩ := h
          refine aj_iald C (aj_ca (e := 0) (n := 14) (j := 6) hq0 (by decide) rfl) (by decide) r0 dX2_makeStep_132 rfl ?_
          refine aj_iconst C dX2_makeStep_133 ?_
          refine aj_iload C dX2_makeStep_134 rfl ?_
          refine aj_ishl C dX2_makeStep_136 ?_
          refine aj_iconst C dX2_makeStep_137 ?_
          refine aj_ixor C dX2_makeStep_138 ?_
          refine aj_iand C dX2_makeStep_139 ?_
          obtain ⟨r0, h⟩ := h
          refine aj_iast C (aj_ca (e := 0) (n := 14) (j := 6) hq0 (by decide) rfl) (by decide) r0 dX2_makeStep_140 ?_
          refine aj_nm (fun m5 e1 => ?_)
          have h := h m5 e1
          refine aj_aload_n C dX2_makeStep_141 rfl ?_
          refine aj_getA (x := 0) (y := 14) C flX2_30 hq0 rfl dX2_makeStep_142 ?_
          refine aj_iload C dX2_makeStep_145 rfl ?_
          refine aj_dup2 C aj_nI aj_nR dX2_makeStep_147 ?_
          obtain ⟨r0, h⟩ := h
          refine aj_iald C (aj_ca (e := 0) (n := 14) (j := 6) hq0 (by decide) rfl) (by decide) r0 dX2_makeStep_148 rfl ?_
          refine aj_iconst C dX2_makeStep_149 ?_
          refine aj_iload_n C dX2_makeStep_150 rfl ?_
          refine aj_ishl C dX2_makeStep_151 ?_
          refine aj_iconst C dX2_makeStep_152 ?_
          refine aj_ixor C dX2_makeStep_153 ?_
          refine aj_iand C dX2_makeStep_154 ?_
          obtain ⟨r0, h⟩ := h
          refine aj_iast C (aj_ca (e := 0) (n := 14) (j := 6) hq0 (by decide) rfl) (by decide) r0 dX2_makeStep_155 ?_
          refine aj_nm (fun m6 e1 => ?_)
          have h := h m6 e1
          refine aj_aload_n C dX2_makeStep_156 rfl ?_
          refine aj_getA (x := 0) (y := 14) C flX2_34 hq0 rfl dX2_makeStep_157 ?_
          refine aj_iload_n C dX2_makeStep_160 rfl ?_
          refine aj_dup2 C aj_nI aj_nR dX2_makeStep_161 ?_
          obtain ⟨r0, h⟩ := h
          refine aj_iald C (aj_ca (e := 0) (n := 14) (j := 7) hq0 (by decide) rfl) (by decide) r0 dX2_makeStep_162 rfl ?_
          refine aj_iconst C dX2_makeStep_163 ?_
          refine aj_iload C dX2_makeStep_164 rfl ?_
          refine aj_ishl C dX2_makeStep_166 ?_
          refine aj_ior C dX2_makeStep_167 ?_
          obtain ⟨r0, h⟩ := h
          refine aj_iast C (aj_ca (e := 0) (n := 14) (j := 7) hq0 (by decide) rfl) (by decide) r0 dX2_makeStep_168 ?_
          refine aj_nm (fun m7 e1 => ?_)
          have h := h m7 e1
          refine aj_aload_n C dX2_makeStep_169 rfl ?_
          refine aj_dup C aj_nR dX2_makeStep_170 ?_
          refine aj_getI C flX2_27 hq0 (by decide) dX2_makeStep_171 rfl ?_
          refine aj_iconst C dX2_makeStep_174 ?_
          refine aj_iadd C dX2_makeStep_175 ?_
          refine aj_putI C fpX2_27 hq0 rfl dX2_makeStep_176 ?_
          refine aj_nm (fun m8 e1 => ?_)
          have h := h m8 e1
          refine aj_iinc (lv' := [some (vO 2 q0), some (vI v1), some (vI v2), some (vI v3), some (vI v4), some (vI (v5 + 1))]) C dX2_makeStep_179 rfl (by decide) rfl ?_
          refine aj_goto (tgt := 66) C dX2_makeStep_182 (by decide) ?_
          exact ih q0 v1 v2 v3 v4 (v5 + 1) _ hq0 h
        · have h := h2 e
          exact aj_vret C K dX2_makeStep_125 ⟨rfl, h⟩
def wbX2_makeStep (f : Nat) (Φ : aj_M → Prop) (R : Nat → (aj_M → Prop) → List Nat → Int → aj_M → Prop) (q0 : List Nat) (v1 : Int) (m : aj_M) : Prop := rI (m q0 4) ∧ (5000 ≤ (m q0 4) → ∀ m1, m1 = aj_u m q0 3 2 → Φ m1) ∧ (¬ (5000 ≤ (m q0 4)) → rI v1 ∧ (v1 ≤ 29 → ∀ m2, m2 = aj_u m q0 4 ((m q0 4) + 1) → wX2_leastUnfilled f (fun z1 m3 => rI z1 ∧ (0 ≤ z1 → wX2_partnersOf f (fun z2 m4 => (0 ≤ z1 ∧ z1 < 14) ∧ hX2_makeStep_66 f Φ R f q0 v1 z1 z2 (m4 (7 :: q0) z1.toNat) (z1 + 1) m4) q0 z1 m3) ∧ (¬ (0 ≤ z1) → ∀ m5, m5 = aj_u m3 q0 3 1 → Φ m5)) q0 m2) ∧ (¬ (v1 ≤ 29) → ∀ m6, m6 = aj_u m q0 3 2 → Φ m6))
set_option maxHeartbeats 4000000 in
set_option maxRecDepth 100000 in
theorem sbX2_makeStep {n f : Nat} {Φ : aj_M → Prop} {R : Nat → (aj_M → Prop) → List Nat → Int → aj_M → Prop} (HR0 : ∀ (Φ : aj_M → Prop) (q0 : List Nat) (v1 : Int) (m : aj_M) (hq0 : (.inl (2, q0) : aj_R) ∈ aj_pls), R 0 Φ q0 v1 m → aj_Ct (n + 2) yX2_makeStep cX2_makeStep 6 none [vO 2 q0, vI v1] m (fun r m => r = none ∧ Φ m)) {q0 : List Nat} {v1 : Int} {m : aj_M} (hq0 : (.inl (2, q0) : aj_R) ∈ aj_pls) (h : wbX2_makeStep f Φ R q0 v1 m) : aj_Ct (n + 3) yX2_makeStep cX2_makeStep 6 none [vO 2 q0, vI v1] m (fun r m => r = none ∧ Φ m) := by
  refine aj_met (lv := [some (vO 2 q0), some (vI v1), none, none, none, none]) (by decide +kernel) rfl (Nat.le_of_ble_eq_true rfl) (fun X C K => ?_)
  unfold wbX2_makeStep at h
  refine aj_aload_n C dX2_makeStep_0 rfl ?_
  refine aj_getI C flX2_24 hq0 (by decide) dX2_makeStep_1 rfl ?_
  refine aj_sipush C dX2_makeStep_4 (by decide) ?_
  obtain ⟨r0, h1, h2⟩ := h
  refine aj_icmp_ge (tgt := 16) C dX2_makeStep_7 (by decide) r0 (by decide) (fun e => ?_) (fun e => ?_)
  · have h := h1 e
    refine aj_aload_n C dX2_makeStep_16 rfl ?_
    refine aj_iconst C dX2_makeStep_17 ?_
    refine aj_putI C fpX2_21 hq0 rfl dX2_makeStep_18 ?_
    refine aj_nm (fun m1 e1 => ?_)
    have h := h m1 e1
    exact aj_vret C K dX2_makeStep_21 ⟨rfl, h⟩
  · have h := h2 e
    refine aj_iload_n C dX2_makeStep_10 rfl ?_
    refine aj_bipush C dX2_makeStep_11 (by decide) ?_
    obtain ⟨r0, h1, h2⟩ := h
    refine aj_icmp_le (tgt := 22) C dX2_makeStep_13 (by decide) r0 (by decide) (fun e => ?_) (fun e => ?_)
    · have h := h1 e
      refine aj_aload_n C dX2_makeStep_22 rfl ?_
      refine aj_dup C aj_nR dX2_makeStep_23 ?_
      refine aj_getI C flX2_24 hq0 (by decide) dX2_makeStep_24 rfl ?_
      refine aj_iconst C dX2_makeStep_27 ?_
      refine aj_iadd C dX2_makeStep_28 ?_
      refine aj_putI C fpX2_24 hq0 rfl dX2_makeStep_29 ?_
      refine aj_nm (fun m2 e1 => ?_)
      have h := h m2 e1
      refine aj_aload_n C dX2_makeStep_32 rfl ?_
      refine aj_callV (rest := []) C mvX2_51 (sX2_leastUnfilled hq0 h) hq0 (aj_np 0 (by decide +kernel) rfl) (Nat.le_of_ble_eq_true rfl) rfl dX2_makeStep_33 (fun r m3 h => ?_)
      obtain ⟨z1, rfl, h⟩ := h
      refine aj_istore_n (lv' := [some (vO 2 q0), some (vI v1), some (vI z1), none, none, none]) C dX2_makeStep_36 (by decide) rfl ?_
      refine aj_iload_n C dX2_makeStep_37 rfl ?_
      obtain ⟨r0, h1, h2⟩ := h
      refine aj_if_ge (tgt := 47) C dX2_makeStep_38 (by decide) r0 (fun e => ?_) (fun e => ?_)
      · have h := h1 e
        refine aj_aload_n C dX2_makeStep_47 rfl ?_
        refine aj_iload_n C dX2_makeStep_48 rfl ?_
        refine aj_callV (rest := []) C mvX2_55 (sX2_partnersOf hq0 h) hq0 (aj_np 1 (by decide +kernel) rfl) (Nat.le_of_ble_eq_true rfl) rfl dX2_makeStep_49 (fun r m4 h => ?_)
        obtain ⟨z2, rfl, h⟩ := h
        refine aj_istore_n (lv' := [some (vO 2 q0), some (vI v1), some (vI z1), some (vI z2), none, none]) C dX2_makeStep_52 (by decide) rfl ?_
        refine aj_aload_n C dX2_makeStep_53 rfl ?_
        refine aj_getA (x := 0) (y := 14) C flX2_34 hq0 rfl dX2_makeStep_54 ?_
        refine aj_iload_n C dX2_makeStep_57 rfl ?_
        obtain ⟨r0, h⟩ := h
        refine aj_iald C (aj_ca (e := 0) (n := 14) (j := 7) hq0 (by decide) rfl) (by decide) r0 dX2_makeStep_58 rfl ?_
        refine aj_istore (lv' := [some (vO 2 q0), some (vI v1), some (vI z1), some (vI z2), some (vI (m4 (7 :: q0) z1.toNat)), none]) C dX2_makeStep_59 (by decide) rfl ?_
        refine aj_iload_n C dX2_makeStep_61 rfl ?_
        refine aj_iconst C dX2_makeStep_62 ?_
        refine aj_iadd C dX2_makeStep_63 ?_
        refine aj_istore (lv' := [some (vO 2 q0), some (vI v1), some (vI z1), some (vI z2), some (vI (m4 (7 :: q0) z1.toNat)), some (vI (z1 + 1))]) C dX2_makeStep_64 (by decide) rfl ?_
        exact tX2_makeStep_66 C K HR0 f q0 v1 z1 z2 (m4 (7 :: q0) z1.toNat) (z1 + 1) _ hq0 h
      · have h := h2 e
        refine aj_aload_n C dX2_makeStep_41 rfl ?_
        refine aj_iconst C dX2_makeStep_42 ?_
        refine aj_putI C fpX2_21 hq0 rfl dX2_makeStep_43 ?_
        refine aj_nm (fun m5 e1 => ?_)
        have h := h m5 e1
        exact aj_vret C K dX2_makeStep_46 ⟨rfl, h⟩
    · have h := h2 e
      refine aj_aload_n C dX2_makeStep_16 rfl ?_
      refine aj_iconst C dX2_makeStep_17 ?_
      refine aj_putI C fpX2_21 hq0 rfl dX2_makeStep_18 ?_
      refine aj_nm (fun m6 e1 => ?_)
      have h := h m6 e1
      exact aj_vret C K dX2_makeStep_21 ⟨rfl, h⟩
def rG0 (f : Nat) : Nat → Nat → (aj_M → Prop) → List Nat → Int → aj_M → Prop
  | 0, _, _, _, _, _ => False
  | d + 1, t, Φ, q0, v1, m => if t = 0 then wbX2_makeStep f Φ (rG0 f d) q0 v1 m else False
set_option maxRecDepth 100000 in
theorem gG0 (f : Nat) : ∀ d : Nat, (∀ n : Nat, ∀ (Φ : aj_M → Prop) (q0 : List Nat) (v1 : Int) (m : aj_M) (hq0 : (.inl (2, q0) : aj_R) ∈ aj_pls), rG0 f d 0 Φ q0 v1 m → aj_Ct (n + d + 2) yX2_makeStep cX2_makeStep 6 none [vO 2 q0, vI v1] m (fun r m => r = none ∧ Φ m)) := by
  intro d
  induction d with
  | zero =>
    exact (fun n Φ q0 v1 m hq0 h => h.elim)
  | succ d ih =>
    · intro n Φ q0 v1 m hq0 h
      rw [show n + (d + 1) + 2 = (n + d) + 3 by omega]
      exact sbX2_makeStep (n := n + d) (f := f) (R := rG0 f d) (ih n) hq0 h
def wX2_makeStep (f : Nat) (Φ : aj_M → Prop) (q0 : List Nat) (v1 : Int) (m : aj_M) : Prop := rG0 f 32 0 Φ q0 v1 m
theorem sX2_makeStep {n f : Nat} {Φ : aj_M → Prop} {q0 : List Nat} {v1 : Int} {m : aj_M} (hq0 : (.inl (2, q0) : aj_R) ∈ aj_pls) (h : wX2_makeStep f Φ q0 v1 m) : aj_Ct (n + 34) yX2_makeStep cX2_makeStep 6 none [vO 2 q0, vI v1] m (fun r m => r = none ∧ Φ m) := by
  rw [show n + 34 = n + 32 + 2 by omega]
  exact (gG0 f 32) n Φ q0 v1 m hq0 h
theorem dX2_run_0 : decode cX2_run 0 = .ok (.iload_n 1, 1) := by decide +kernel
theorem dX2_run_1 : decode cX2_run 1 = .ok (.iload_n 2, 1) := by decide +kernel
theorem dX2_run_2 : decode cX2_run 2 = .ok (.iload_n 3, 1) := by decide +kernel
theorem dX2_run_3 : decode cX2_run 3 = .ok (.invokestatic 37, 3) := by decide +kernel
theorem dX2_run_6 : decode cX2_run 6 = .ok (.ifCond .eq 27, 3) := by decide +kernel
theorem dX2_run_9 : decode cX2_run 9 = .ok (.iload_n 1, 1) := by decide +kernel
theorem dX2_run_10 : decode cX2_run 10 = .ok (.aload_n 0, 1) := by decide +kernel
theorem dX2_run_11 : decode cX2_run 11 = .ok (.getfield 11, 3) := by decide +kernel
theorem dX2_run_14 : decode cX2_run 14 = .ok (.if_icmp .ne 20, 3) := by decide +kernel
theorem dX2_run_17 : decode cX2_run 17 = .ok (.iload_n 2, 1) := by decide +kernel
theorem dX2_run_18 : decode cX2_run 18 = .ok (.aload_n 0, 1) := by decide +kernel
theorem dX2_run_19 : decode cX2_run 19 = .ok (.getfield 15, 3) := by decide +kernel
theorem dX2_run_22 : decode cX2_run 22 = .ok (.if_icmp .ne 12, 3) := by decide +kernel
theorem dX2_run_25 : decode cX2_run 25 = .ok (.iload_n 3, 1) := by decide +kernel
theorem dX2_run_26 : decode cX2_run 26 = .ok (.aload_n 0, 1) := by decide +kernel
theorem dX2_run_27 : decode cX2_run 27 = .ok (.getfield 18, 3) := by decide +kernel
theorem dX2_run_30 : decode cX2_run 30 = .ok (.if_icmp .ne 4, 3) := by decide +kernel
theorem dX2_run_33 : decode cX2_run 33 = .ok (.return_, 1) := by decide +kernel
theorem dX2_run_34 : decode cX2_run 34 = .ok (.aload_n 0, 1) := by decide +kernel
theorem dX2_run_35 : decode cX2_run 35 = .ok (.iload_n 1, 1) := by decide +kernel
theorem dX2_run_36 : decode cX2_run 36 = .ok (.putfield 11, 3) := by decide +kernel
theorem dX2_run_39 : decode cX2_run 39 = .ok (.aload_n 0, 1) := by decide +kernel
theorem dX2_run_40 : decode cX2_run 40 = .ok (.iload_n 2, 1) := by decide +kernel
theorem dX2_run_41 : decode cX2_run 41 = .ok (.putfield 15, 3) := by decide +kernel
theorem dX2_run_44 : decode cX2_run 44 = .ok (.aload_n 0, 1) := by decide +kernel
theorem dX2_run_45 : decode cX2_run 45 = .ok (.iload_n 3, 1) := by decide +kernel
theorem dX2_run_46 : decode cX2_run 46 = .ok (.putfield 18, 3) := by decide +kernel
theorem dX2_run_49 : decode cX2_run 49 = .ok (.aload_n 0, 1) := by decide +kernel
theorem dX2_run_50 : decode cX2_run 50 = .ok (.iconst 0, 1) := by decide +kernel
theorem dX2_run_51 : decode cX2_run 51 = .ok (.putfield 21, 3) := by decide +kernel
theorem dX2_run_54 : decode cX2_run 54 = .ok (.aload_n 0, 1) := by decide +kernel
theorem dX2_run_55 : decode cX2_run 55 = .ok (.iconst 0, 1) := by decide +kernel
theorem dX2_run_56 : decode cX2_run 56 = .ok (.putfield 24, 3) := by decide +kernel
theorem dX2_run_59 : decode cX2_run 59 = .ok (.aload_n 0, 1) := by decide +kernel
theorem dX2_run_60 : decode cX2_run 60 = .ok (.iconst 0, 1) := by decide +kernel
theorem dX2_run_61 : decode cX2_run 61 = .ok (.putfield 27, 3) := by decide +kernel
theorem dX2_run_64 : decode cX2_run 64 = .ok (.aload_n 0, 1) := by decide +kernel
theorem dX2_run_65 : decode cX2_run 65 = .ok (.getfield 30, 3) := by decide +kernel
theorem dX2_run_68 : decode cX2_run 68 = .ok (.iconst 0, 1) := by decide +kernel
theorem dX2_run_69 : decode cX2_run 69 = .ok (.invokestatic 41, 3) := by decide +kernel
theorem dX2_run_72 : decode cX2_run 72 = .ok (.aload_n 0, 1) := by decide +kernel
theorem dX2_run_73 : decode cX2_run 73 = .ok (.getfield 34, 3) := by decide +kernel
theorem dX2_run_76 : decode cX2_run 76 = .ok (.iconst 0, 1) := by decide +kernel
theorem dX2_run_77 : decode cX2_run 77 = .ok (.invokestatic 41, 3) := by decide +kernel
theorem dX2_run_80 : decode cX2_run 80 = .ok (.aload_n 0, 1) := by decide +kernel
theorem dX2_run_81 : decode cX2_run 81 = .ok (.iconst 0, 1) := by decide +kernel
theorem dX2_run_82 : decode cX2_run 82 = .ok (.invokevirtual 47, 3) := by decide +kernel
theorem dX2_run_85 : decode cX2_run 85 = .ok (.return_, 1) := by decide +kernel
def hX2_run_34 (f : Nat) (Φ : aj_M → Prop) (q0 : List Nat) (v1 : Int) (v2 : Int) (v3 : Int) (m : aj_M) : Prop := ∀ m1, m1 = aj_u m q0 0 v1 → ∀ m2, m2 = aj_u m1 q0 1 v2 → ∀ m3, m3 = aj_u m2 q0 2 v3 → ∀ m4, m4 = aj_u m3 q0 3 0 → ∀ m5, m5 = aj_u m4 q0 4 0 → ∀ m6, m6 = aj_u m5 q0 5 0 → wJ7_fill_53178 f (fun m7 => wJ7_fill_53178 f (fun m8 => wX2_makeStep f (fun m9 => Φ m9) q0 0 m8) 14 (7 :: q0) 0 m7) 14 (6 :: q0) 0 m6
set_option maxHeartbeats 4000000 in
set_option maxRecDepth 100000 in
theorem tX2_run_34 {X : aj_T} {n f : Nat} {Φ : aj_M → Prop} (C : aj_Cx X cX2_run RX2 4 (n + 35)) (K : aj_Rt X none (fun r m => r = none ∧ Φ m)) (q0 : List Nat) (v1 : Int) (v2 : Int) (v3 : Int) (m : aj_M) (hq0 : (.inl (2, q0) : aj_R) ∈ aj_pls) (h : hX2_run_34 f Φ q0 v1 v2 v3 m) : aj_J X 34 [some (vO 2 q0), some (vI v1), some (vI v2), some (vI v3)] [] m := by
  unfold hX2_run_34 at h
  refine aj_aload_n C dX2_run_34 rfl ?_
  refine aj_iload_n C dX2_run_35 rfl ?_
  refine aj_putI C fpX2_11 hq0 rfl dX2_run_36 ?_
  refine aj_nm (fun m1 e1 => ?_)
  have h := h m1 e1
  refine aj_aload_n C dX2_run_39 rfl ?_
  refine aj_iload_n C dX2_run_40 rfl ?_
  refine aj_putI C fpX2_15 hq0 rfl dX2_run_41 ?_
  refine aj_nm (fun m2 e1 => ?_)
  have h := h m2 e1
  refine aj_aload_n C dX2_run_44 rfl ?_
  refine aj_iload_n C dX2_run_45 rfl ?_
  refine aj_putI C fpX2_18 hq0 rfl dX2_run_46 ?_
  refine aj_nm (fun m3 e1 => ?_)
  have h := h m3 e1
  refine aj_aload_n C dX2_run_49 rfl ?_
  refine aj_iconst C dX2_run_50 ?_
  refine aj_putI C fpX2_21 hq0 rfl dX2_run_51 ?_
  refine aj_nm (fun m4 e1 => ?_)
  have h := h m4 e1
  refine aj_aload_n C dX2_run_54 rfl ?_
  refine aj_iconst C dX2_run_55 ?_
  refine aj_putI C fpX2_24 hq0 rfl dX2_run_56 ?_
  refine aj_nm (fun m5 e1 => ?_)
  have h := h m5 e1
  refine aj_aload_n C dX2_run_59 rfl ?_
  refine aj_iconst C dX2_run_60 ?_
  refine aj_putI C fpX2_27 hq0 rfl dX2_run_61 ?_
  refine aj_nm (fun m6 e1 => ?_)
  have h := h m6 e1
  refine aj_aload_n C dX2_run_64 rfl ?_
  refine aj_getA (x := 0) (y := 14) C flX2_30 hq0 rfl dX2_run_65 ?_
  refine aj_iconst C dX2_run_68 ?_
  refine aj_callS (rest := []) C msX2_41 (sJ7_fill_53178 (aj_ca (e := 0) (n := 14) (j := 6) hq0 (by decide) rfl) (by decide) h) (aj_np 2 (by decide +kernel) rfl) (Nat.le_of_ble_eq_true rfl) rfl dX2_run_69 (fun r m7 h => ?_)
  obtain ⟨rfl, h⟩ := h
  refine aj_aload_n C dX2_run_72 rfl ?_
  refine aj_getA (x := 0) (y := 14) C flX2_34 hq0 rfl dX2_run_73 ?_
  refine aj_iconst C dX2_run_76 ?_
  refine aj_callS (rest := []) C msX2_41 (sJ7_fill_53178 (aj_ca (e := 0) (n := 14) (j := 7) hq0 (by decide) rfl) (by decide) h) (aj_np 2 (by decide +kernel) rfl) (Nat.le_of_ble_eq_true rfl) rfl dX2_run_77 (fun r m8 h => ?_)
  obtain ⟨rfl, h⟩ := h
  refine aj_aload_n C dX2_run_80 rfl ?_
  refine aj_iconst C dX2_run_81 ?_
  refine aj_callV (rest := []) C mvX2_47 (sX2_makeStep hq0 h) hq0 (aj_np 1 (by decide +kernel) rfl) (Nat.le_of_ble_eq_true rfl) rfl dX2_run_82 (fun r m9 h => ?_)
  obtain ⟨rfl, h⟩ := h
  exact aj_vret C K dX2_run_85 ⟨rfl, h⟩
def wX2_run (f : Nat) (Φ : aj_M → Prop) (q0 : List Nat) (v1 : Int) (v2 : Int) (v3 : Int) (m : aj_M) : Prop := wX2_canBe f (fun z1 m1 => rI z1 ∧ (z1 = 0 → Φ m1) ∧ (¬ (z1 = 0) → rI v1 ∧ rI (m1 q0 0) ∧ (¬ v1 = (m1 q0 0) → hX2_run_34 f Φ q0 v1 v2 v3 m1) ∧ (v1 = (m1 q0 0) → rI v2 ∧ rI (m1 q0 1) ∧ (¬ v2 = (m1 q0 1) → hX2_run_34 f Φ q0 v1 v2 v3 m1) ∧ (v2 = (m1 q0 1) → rI v3 ∧ rI (m1 q0 2) ∧ (¬ v3 = (m1 q0 2) → hX2_run_34 f Φ q0 v1 v2 v3 m1) ∧ (v3 = (m1 q0 2) → Φ m1))))) v1 v2 v3 m
set_option maxHeartbeats 4000000 in
set_option maxRecDepth 100000 in
theorem sX2_run {n f : Nat} {Φ : aj_M → Prop} {q0 : List Nat} {v1 : Int} {v2 : Int} {v3 : Int} {m : aj_M} (hq0 : (.inl (2, q0) : aj_R) ∈ aj_pls) (h : wX2_run f Φ q0 v1 v2 v3 m) : aj_Ct (n + 35) yX2_run cX2_run 4 none [vO 2 q0, vI v1, vI v2, vI v3] m (fun r m => r = none ∧ Φ m) := by
  refine aj_met (lv := [some (vO 2 q0), some (vI v1), some (vI v2), some (vI v3)]) (by decide +kernel) rfl (Nat.le_of_ble_eq_true rfl) (fun X C K => ?_)
  unfold wX2_run at h
  refine aj_iload_n C dX2_run_0 rfl ?_
  refine aj_iload_n C dX2_run_1 rfl ?_
  refine aj_iload_n C dX2_run_2 rfl ?_
  refine aj_callS (rest := []) C msX2_37 (sX2_canBe  h) (aj_np 3 (by decide +kernel) rfl) (Nat.le_of_ble_eq_true rfl) rfl dX2_run_3 (fun r m1 h => ?_)
  obtain ⟨z1, rfl, h⟩ := h
  obtain ⟨r0, h1, h2⟩ := h
  refine aj_if_eq (tgt := 33) C dX2_run_6 (by decide) r0 (fun e => ?_) (fun e => ?_)
  · have h := h1 e
    exact aj_vret C K dX2_run_33 ⟨rfl, h⟩
  · have h := h2 e
    refine aj_iload_n C dX2_run_9 rfl ?_
    refine aj_aload_n C dX2_run_10 rfl ?_
    refine aj_getI C flX2_11 hq0 (by decide) dX2_run_11 rfl ?_
    obtain ⟨r0, r1, h1, h2⟩ := h
    refine aj_icmp_ne (tgt := 34) C dX2_run_14 (by decide) r0 r1 (fun e => ?_) (fun e => ?_)
    · have h := h1 e
      exact tX2_run_34 C K q0 v1 v2 v3 _ hq0 h
    · have h := h2 e
      refine aj_iload_n C dX2_run_17 rfl ?_
      refine aj_aload_n C dX2_run_18 rfl ?_
      refine aj_getI C flX2_15 hq0 (by decide) dX2_run_19 rfl ?_
      obtain ⟨r0, r1, h1, h2⟩ := h
      refine aj_icmp_ne (tgt := 34) C dX2_run_22 (by decide) r0 r1 (fun e => ?_) (fun e => ?_)
      · have h := h1 e
        exact tX2_run_34 C K q0 v1 v2 v3 _ hq0 h
      · have h := h2 e
        refine aj_iload_n C dX2_run_25 rfl ?_
        refine aj_aload_n C dX2_run_26 rfl ?_
        refine aj_getI C flX2_18 hq0 (by decide) dX2_run_27 rfl ?_
        obtain ⟨r0, r1, h1, h2⟩ := h
        refine aj_icmp_ne (tgt := 34) C dX2_run_30 (by decide) r0 r1 (fun e => ?_) (fun e => ?_)
        · have h := h1 e
          exact tX2_run_34 C K q0 v1 v2 v3 _ hq0 h
        · have h := h2 e
          exact aj_vret C K dX2_run_33 ⟨rfl, h⟩
theorem dX4_copyFrom_0 : decode cX4_copyFrom 0 = .ok (.aload_n 0, 1) := by decide +kernel
theorem dX4_copyFrom_1 : decode cX4_copyFrom 1 = .ok (.aload_n 1, 1) := by decide +kernel
theorem dX4_copyFrom_2 : decode cX4_copyFrom 2 = .ok (.getfield 15, 3) := by decide +kernel
theorem dX4_copyFrom_5 : decode cX4_copyFrom 5 = .ok (.putfield 15, 3) := by decide +kernel
theorem dX4_copyFrom_8 : decode cX4_copyFrom 8 = .ok (.aload_n 1, 1) := by decide +kernel
theorem dX4_copyFrom_9 : decode cX4_copyFrom 9 = .ok (.getfield 9, 3) := by decide +kernel
theorem dX4_copyFrom_12 : decode cX4_copyFrom 12 = .ok (.iconst 0, 1) := by decide +kernel
theorem dX4_copyFrom_13 : decode cX4_copyFrom 13 = .ok (.aload_n 0, 1) := by decide +kernel
theorem dX4_copyFrom_14 : decode cX4_copyFrom 14 = .ok (.getfield 9, 3) := by decide +kernel
theorem dX4_copyFrom_17 : decode cX4_copyFrom 17 = .ok (.iconst 0, 1) := by decide +kernel
theorem dX4_copyFrom_18 : decode cX4_copyFrom 18 = .ok (.aload_n 1, 1) := by decide +kernel
theorem dX4_copyFrom_19 : decode cX4_copyFrom 19 = .ok (.getfield 15, 3) := by decide +kernel
theorem dX4_copyFrom_22 : decode cX4_copyFrom 22 = .ok (.invokestatic 34, 3) := by decide +kernel
theorem dX4_copyFrom_25 : decode cX4_copyFrom 25 = .ok (.aload_n 0, 1) := by decide +kernel
theorem dX4_copyFrom_26 : decode cX4_copyFrom 26 = .ok (.aload_n 1, 1) := by decide +kernel
theorem dX4_copyFrom_27 : decode cX4_copyFrom 27 = .ok (.getfield 19, 3) := by decide +kernel
theorem dX4_copyFrom_30 : decode cX4_copyFrom 30 = .ok (.putfield 19, 3) := by decide +kernel
theorem dX4_copyFrom_33 : decode cX4_copyFrom 33 = .ok (.aload_n 0, 1) := by decide +kernel
theorem dX4_copyFrom_34 : decode cX4_copyFrom 34 = .ok (.aload_n 1, 1) := by decide +kernel
theorem dX4_copyFrom_35 : decode cX4_copyFrom 35 = .ok (.getfield 22, 3) := by decide +kernel
theorem dX4_copyFrom_38 : decode cX4_copyFrom 38 = .ok (.putfield 22, 3) := by decide +kernel
theorem dX4_copyFrom_41 : decode cX4_copyFrom 41 = .ok (.aload_n 0, 1) := by decide +kernel
theorem dX4_copyFrom_42 : decode cX4_copyFrom 42 = .ok (.aload_n 1, 1) := by decide +kernel
theorem dX4_copyFrom_43 : decode cX4_copyFrom 43 = .ok (.getfield 25, 3) := by decide +kernel
theorem dX4_copyFrom_46 : decode cX4_copyFrom 46 = .ok (.putfield 25, 3) := by decide +kernel
theorem dX4_copyFrom_49 : decode cX4_copyFrom 49 = .ok (.aload_n 0, 1) := by decide +kernel
theorem dX4_copyFrom_50 : decode cX4_copyFrom 50 = .ok (.aload_n 1, 1) := by decide +kernel
theorem dX4_copyFrom_51 : decode cX4_copyFrom 51 = .ok (.getfield 28, 3) := by decide +kernel
theorem dX4_copyFrom_54 : decode cX4_copyFrom 54 = .ok (.putfield 28, 3) := by decide +kernel
theorem dX4_copyFrom_57 : decode cX4_copyFrom 57 = .ok (.return_, 1) := by decide +kernel
def wX4_copyFrom (f : Nat) (Φ : aj_M → Prop) (q0 : List Nat) (q1 : List Nat) (m : aj_M) : Prop := ∀ m1, m1 = aj_u m q0 1 (m q1 1) → ((0 : Int) ≤ 0 ∧ (0 : Int) ≤ 0 ∧ (0 : Int) ≤ (m1 q1 1)) ∧ ((0 : Int) + (m1 q1 1) ≤ 900 ∧ (0 : Int) + (m1 q1 1) ≤ 900) ∧ ∀ m2, m2 = aj_cp m1 (0 :: q1) (0 : Int).toNat (0 :: q0) (0 : Int).toNat (m1 q1 1).toNat → ∀ m3, m3 = aj_u m2 q0 2 (m2 q1 2) → ∀ m4, m4 = aj_u m3 q0 3 (m3 q1 3) → ∀ m5, m5 = aj_u m4 q0 4 (m4 q1 4) → ∀ m6, m6 = aj_u m5 q0 5 (m5 q1 5) → Φ m6
set_option maxHeartbeats 4000000 in
set_option maxRecDepth 100000 in
theorem sX4_copyFrom {n f : Nat} {Φ : aj_M → Prop} {q0 : List Nat} {q1 : List Nat} {m : aj_M} (hq0 : (.inl (4, q0) : aj_R) ∈ aj_pls) (hq1 : (.inl (4, q1) : aj_R) ∈ aj_pls) (h : wX4_copyFrom f Φ q0 q1 m) : aj_Ct (n + 1) yX4_copyFrom cX4_copyFrom 2 none [vO 4 q0, vO 4 q1] m (fun r m => r = none ∧ Φ m) := by
  refine aj_met (lv := [some (vO 4 q0), some (vO 4 q1)]) (by decide +kernel) rfl (Nat.le_of_ble_eq_true rfl) (fun X C K => ?_)
  unfold wX4_copyFrom at h
  refine aj_aload_n C dX4_copyFrom_0 rfl ?_
  refine aj_aload_n C dX4_copyFrom_1 rfl ?_
  refine aj_getI C flX4_15 hq1 (by decide) dX4_copyFrom_2 rfl ?_
  refine aj_putI C fpX4_15 hq0 rfl dX4_copyFrom_5 ?_
  refine aj_nm (fun m1 e1 => ?_)
  have h := h m1 e1
  refine aj_aload_n C dX4_copyFrom_8 rfl ?_
  refine aj_getA (x := 0) (y := 900) C flX4_9 hq1 rfl dX4_copyFrom_9 ?_
  refine aj_iconst C dX4_copyFrom_12 ?_
  refine aj_aload_n C dX4_copyFrom_13 rfl ?_
  refine aj_getA (x := 0) (y := 900) C flX4_9 hq0 rfl dX4_copyFrom_14 ?_
  refine aj_iconst C dX4_copyFrom_17 ?_
  refine aj_aload_n C dX4_copyFrom_18 rfl ?_
  refine aj_getI C flX4_15 hq1 (by decide) dX4_copyFrom_19 rfl ?_
  obtain ⟨r0, r1, h⟩ := h
  refine aj_copy C mnX4_34 (aj_ca (e := 0) (n := 900) (j := 0) hq1 (by decide) rfl) (aj_ca (e := 0) (n := 900) (j := 0) hq0 (by decide) rfl) (by decide) r0 r1 (Nat.le_of_ble_eq_true rfl) dX4_copyFrom_22 ?_
  refine aj_nm (fun m2 e1 => ?_)
  have h := h m2 e1
  refine aj_aload_n C dX4_copyFrom_25 rfl ?_
  refine aj_aload_n C dX4_copyFrom_26 rfl ?_
  refine aj_getI C flX4_19 hq1 (by decide) dX4_copyFrom_27 rfl ?_
  refine aj_putI C fpX4_19 hq0 rfl dX4_copyFrom_30 ?_
  refine aj_nm (fun m3 e1 => ?_)
  have h := h m3 e1
  refine aj_aload_n C dX4_copyFrom_33 rfl ?_
  refine aj_aload_n C dX4_copyFrom_34 rfl ?_
  refine aj_getI C flX4_22 hq1 (by decide) dX4_copyFrom_35 rfl ?_
  refine aj_putI C fpX4_22 hq0 rfl dX4_copyFrom_38 ?_
  refine aj_nm (fun m4 e1 => ?_)
  have h := h m4 e1
  refine aj_aload_n C dX4_copyFrom_41 rfl ?_
  refine aj_aload_n C dX4_copyFrom_42 rfl ?_
  refine aj_getI C flX4_25 hq1 (by decide) dX4_copyFrom_43 rfl ?_
  refine aj_putI C fpX4_25 hq0 rfl dX4_copyFrom_46 ?_
  refine aj_nm (fun m5 e1 => ?_)
  have h := h m5 e1
  refine aj_aload_n C dX4_copyFrom_49 rfl ?_
  refine aj_aload_n C dX4_copyFrom_50 rfl ?_
  refine aj_getI C flX4_28 hq1 (by decide) dX4_copyFrom_51 rfl ?_
  refine aj_putI C fpX4_28 hq0 rfl dX4_copyFrom_54 ?_
  refine aj_nm (fun m6 e1 => ?_)
  have h := h m6 e1
  exact aj_vret C K dX4_copyFrom_57 ⟨rfl, h⟩
