theorem dX12_feed_0 : decode cX12_feed 0 = .ok (.aload_n 0, 1) := by decide +kernel
theorem dX12_feed_1 : decode cX12_feed 1 = .ok (.iconst 0, 1) := by decide +kernel
theorem dX12_feed_2 : decode cX12_feed 2 = .ok (.putfield 1, 3) := by decide +kernel
theorem dX12_feed_5 : decode cX12_feed 5 = .ok (.aload_n 0, 1) := by decide +kernel
theorem dX12_feed_6 : decode cX12_feed 6 = .ok (.getfield 92, 3) := by decide +kernel
theorem dX12_feed_9 : decode cX12_feed 9 = .ok (.bipush 20, 2) := by decide +kernel
theorem dX12_feed_11 : decode cX12_feed 11 = .ok (.iadd, 1) := by decide +kernel
theorem dX12_feed_12 : decode cX12_feed 12 = .ok (.sipush 900, 3) := by decide +kernel
theorem dX12_feed_15 : decode cX12_feed 15 = .ok (.if_icmp .le 6, 3) := by decide +kernel
theorem dX12_feed_18 : decode cX12_feed 18 = .ok (.bipush (-5), 2) := by decide +kernel
theorem dX12_feed_20 : decode cX12_feed 20 = .ok (.ireturn, 1) := by decide +kernel
theorem dX12_feed_21 : decode cX12_feed 21 = .ok (.iconst 0, 1) := by decide +kernel
theorem dX12_feed_22 : decode cX12_feed 22 = .ok (.istore 6, 2) := by decide +kernel
theorem dX12_feed_24 : decode cX12_feed 24 = .ok (.iload 6, 2) := by decide +kernel
theorem dX12_feed_26 : decode cX12_feed 26 = .ok (.bipush 20, 2) := by decide +kernel
theorem dX12_feed_28 : decode cX12_feed 28 = .ok (.if_icmp .ge 93, 3) := by decide +kernel
theorem dX12_feed_31 : decode cX12_feed 31 = .ok (.iload 6, 2) := by decide +kernel
theorem dX12_feed_33 : decode cX12_feed 33 = .ok (.iconst 4, 1) := by decide +kernel
theorem dX12_feed_34 : decode cX12_feed 34 = .ok (.if_icmp .ge 7, 3) := by decide +kernel
theorem dX12_feed_37 : decode cX12_feed 37 = .ok (.iload_n 1, 1) := by decide +kernel
theorem dX12_feed_38 : decode cX12_feed 38 = .ok (.goto 39, 3) := by decide +kernel
theorem dX12_feed_41 : decode cX12_feed 41 = .ok (.iload 6, 2) := by decide +kernel
theorem dX12_feed_43 : decode cX12_feed 43 = .ok (.bipush 8, 2) := by decide +kernel
theorem dX12_feed_45 : decode cX12_feed 45 = .ok (.if_icmp .ge 7, 3) := by decide +kernel
theorem dX12_feed_48 : decode cX12_feed 48 = .ok (.iload_n 2, 1) := by decide +kernel
theorem dX12_feed_49 : decode cX12_feed 49 = .ok (.goto 28, 3) := by decide +kernel
theorem dX12_feed_52 : decode cX12_feed 52 = .ok (.iload 6, 2) := by decide +kernel
theorem dX12_feed_54 : decode cX12_feed 54 = .ok (.bipush 12, 2) := by decide +kernel
theorem dX12_feed_56 : decode cX12_feed 56 = .ok (.if_icmp .ge 7, 3) := by decide +kernel
theorem dX12_feed_59 : decode cX12_feed 59 = .ok (.iload_n 3, 1) := by decide +kernel
theorem dX12_feed_60 : decode cX12_feed 60 = .ok (.goto 17, 3) := by decide +kernel
theorem dX12_feed_63 : decode cX12_feed 63 = .ok (.iload 6, 2) := by decide +kernel
theorem dX12_feed_65 : decode cX12_feed 65 = .ok (.bipush 16, 2) := by decide +kernel
theorem dX12_feed_67 : decode cX12_feed 67 = .ok (.if_icmp .ge 8, 3) := by decide +kernel
theorem dX12_feed_70 : decode cX12_feed 70 = .ok (.iload 4, 2) := by decide +kernel
theorem dX12_feed_72 : decode cX12_feed 72 = .ok (.goto 5, 3) := by decide +kernel
theorem dX12_feed_75 : decode cX12_feed 75 = .ok (.iload 5, 2) := by decide +kernel
theorem dX12_feed_77 : decode cX12_feed 77 = .ok (.istore 7, 2) := by decide +kernel
theorem dX12_feed_79 : decode cX12_feed 79 = .ok (.aload_n 0, 1) := by decide +kernel
theorem dX12_feed_80 : decode cX12_feed 80 = .ok (.getfield 21, 3) := by decide +kernel
theorem dX12_feed_83 : decode cX12_feed 83 = .ok (.aload_n 0, 1) := by decide +kernel
theorem dX12_feed_84 : decode cX12_feed 84 = .ok (.getfield 92, 3) := by decide +kernel
theorem dX12_feed_87 : decode cX12_feed 87 = .ok (.iload 7, 2) := by decide +kernel
theorem dX12_feed_89 : decode cX12_feed 89 = .ok (.bipush 24, 2) := by decide +kernel
theorem dX12_feed_91 : decode cX12_feed 91 = .ok (.bipush 8, 2) := by decide +kernel
theorem dX12_feed_93 : decode cX12_feed 93 = .ok (.iload 6, 2) := by decide +kernel
theorem dX12_feed_95 : decode cX12_feed 95 = .ok (.iconst 4, 1) := by decide +kernel
theorem dX12_feed_96 : decode cX12_feed 96 = .ok (.irem, 1) := by decide +kernel
theorem dX12_feed_97 : decode cX12_feed 97 = .ok (.imul, 1) := by decide +kernel
theorem dX12_feed_98 : decode cX12_feed 98 = .ok (.isub, 1) := by decide +kernel
theorem dX12_feed_99 : decode cX12_feed 99 = .ok (.ishr, 1) := by decide +kernel
theorem dX12_feed_100 : decode cX12_feed 100 = .ok (.sipush 255, 3) := by decide +kernel
theorem dX12_feed_103 : decode cX12_feed 103 = .ok (.iand, 1) := by decide +kernel
theorem dX12_feed_104 : decode cX12_feed 104 = .ok (.iastore, 1) := by decide +kernel
theorem dX12_feed_105 : decode cX12_feed 105 = .ok (.aload_n 0, 1) := by decide +kernel
theorem dX12_feed_106 : decode cX12_feed 106 = .ok (.dup, 1) := by decide +kernel
theorem dX12_feed_107 : decode cX12_feed 107 = .ok (.getfield 92, 3) := by decide +kernel
theorem dX12_feed_110 : decode cX12_feed 110 = .ok (.iconst 1, 1) := by decide +kernel
theorem dX12_feed_111 : decode cX12_feed 111 = .ok (.iadd, 1) := by decide +kernel
theorem dX12_feed_112 : decode cX12_feed 112 = .ok (.putfield 92, 3) := by decide +kernel
theorem dX12_feed_115 : decode cX12_feed 115 = .ok (.iinc 6 1, 3) := by decide +kernel
theorem dX12_feed_118 : decode cX12_feed 118 = .ok (.goto (-94), 3) := by decide +kernel
theorem dX12_feed_121 : decode cX12_feed 121 = .ok (.aload_n 0, 1) := by decide +kernel
theorem dX12_feed_122 : decode cX12_feed 122 = .ok (.getfield 92, 3) := by decide +kernel
theorem dX12_feed_125 : decode cX12_feed 125 = .ok (.ireturn, 1) := by decide +kernel
def hX12_feed_77 (f : Nat) (Φ : Int → aj_M → Prop) (K24 : List Nat → Int → Int → Int → Int → Int → Int → aj_M → Prop) (q0 : List Nat) (v1 : Int) (v2 : Int) (v3 : Int) (v4 : Int) (v5 : Int) (v6 : Int) (vs0 : Int) (m : aj_M) : Prop := (0 ≤ v6 ∧ v6 < 2147483648) ∧ (0 ≤ (m q0 5) ∧ (m q0 5) < 900) ∧ ∀ m1, m1 = aj_u m (3 :: q0) (m q0 5).toNat (aj_and (aj_shr vs0 (24 - (8 * (v6 % 4)))) 255) → ∀ m2, m2 = aj_u m1 q0 5 ((m1 q0 5) + 1) → K24 q0 v1 v2 v3 v4 v5 (v6 + 1) m2
set_option maxHeartbeats 4000000 in
set_option maxRecDepth 100000 in
theorem tX12_feed_77 {X : aj_T} {n f : Nat} {Φ : Int → aj_M → Prop} (C : aj_Cx X cX12_feed RX12 8 n) (K : aj_Rt X (some .int) (fun r m => ∃ z, r = some (vI z) ∧ Φ z m)) {K24 : List Nat → Int → Int → Int → Int → Int → Int → aj_M → Prop} (HK24 : ∀ (q0 : List Nat) (v1 : Int) (v2 : Int) (v3 : Int) (v4 : Int) (v5 : Int) (v6 : Int) (m : aj_M) (hq0 : (.inl (12, q0) : aj_R) ∈ aj_pls), K24 q0 v1 v2 v3 v4 v5 v6 m → aj_J X 24 [some (vO 12 q0), some (vI v1), some (vI v2), some (vI v3), some (vI v4), some (vI v5), some (vI v6), none] [] m) (q0 : List Nat) (v1 : Int) (v2 : Int) (v3 : Int) (v4 : Int) (v5 : Int) (v6 : Int) (vs0 : Int) (m : aj_M) (hq0 : (.inl (12, q0) : aj_R) ∈ aj_pls) (h : hX12_feed_77 f Φ K24 q0 v1 v2 v3 v4 v5 v6 vs0 m) : aj_J X 77 [some (vO 12 q0), some (vI v1), some (vI v2), some (vI v3), some (vI v4), some (vI v5), some (vI v6), none] [vI vs0] m := by
  unfold hX12_feed_77 at h
  refine aj_istore (lv' := [some (vO 12 q0), some (vI v1), some (vI v2), some (vI v3), some (vI v4), some (vI v5), some (vI v6), some (vI vs0)]) C dX12_feed_77 (by decide) rfl ?_
  refine aj_aload_n C dX12_feed_79 rfl ?_
  refine aj_getA (x := 0) (y := 900) C flX12_21 hq0 rfl dX12_feed_80 ?_
  refine aj_aload_n C dX12_feed_83 rfl ?_
  refine aj_getI C flX12_92 hq0 (by decide) dX12_feed_84 rfl ?_
  refine aj_iload C dX12_feed_87 rfl ?_
  refine aj_bipush C dX12_feed_89 (by decide) ?_
  refine aj_bipush C dX12_feed_91 (by decide) ?_
  refine aj_iload C dX12_feed_93 rfl ?_
  refine aj_iconst C dX12_feed_95 ?_
  obtain ⟨r0, h⟩ := h
  refine aj_iremN C dX12_feed_96 r0 (by decide) ?_
  refine aj_imul C dX12_feed_97 ?_
  refine aj_isub C dX12_feed_98 ?_
  refine aj_ishr C dX12_feed_99 ?_
  refine aj_sipush C dX12_feed_100 (by decide) ?_
  refine aj_iand C dX12_feed_103 ?_
  obtain ⟨r0, h⟩ := h
  refine aj_iast C (aj_ca (e := 0) (n := 900) (j := 3) hq0 (by decide) rfl) (by decide) r0 dX12_feed_104 ?_
  refine aj_nm (fun m1 e1 => ?_)
  have h := h m1 e1
  refine aj_aload_n C dX12_feed_105 rfl ?_
  refine aj_dup C aj_nR dX12_feed_106 ?_
  refine aj_getI C flX12_92 hq0 (by decide) dX12_feed_107 rfl ?_
  refine aj_iconst C dX12_feed_110 ?_
  refine aj_iadd C dX12_feed_111 ?_
  refine aj_putI C fpX12_92 hq0 rfl dX12_feed_112 ?_
  refine aj_nm (fun m2 e1 => ?_)
  have h := h m2 e1
  refine aj_iinc (lv' := [some (vO 12 q0), some (vI v1), some (vI v2), some (vI v3), some (vI v4), some (vI v5), some (vI (v6 + 1)), some (vI vs0)]) C dX12_feed_115 rfl (by decide) rfl ?_
  refine aj_goto (tgt := 24) C dX12_feed_118 (by decide) ?_
  refine aj_wk (lv' := [some (vO 12 q0), some (vI v1), some (vI v2), some (vI v3), some (vI v4), some (vI v5), some (vI (v6 + 1)), none]) (⟨rfl, ⟨rfl, ⟨rfl, ⟨rfl, ⟨rfl, ⟨rfl, ⟨rfl, trivial⟩⟩⟩⟩⟩⟩⟩) ?_
  exact HK24 q0 v1 v2 v3 v4 v5 (v6 + 1) _ hq0 h
def hX12_feed_24 (f : Nat) (Φ : Int → aj_M → Prop) : Nat → List Nat → Int → Int → Int → Int → Int → Int → aj_M → Prop
  | 0, _, _, _, _, _, _, _, _ => False
  | k + 1, q0, v1, v2, v3, v4, v5, v6, m => rI v6 ∧ (20 ≤ v6 → Φ (m q0 5) m) ∧ (¬ (20 ≤ v6) → rI v6 ∧ (4 ≤ v6 → rI v6 ∧ (8 ≤ v6 → rI v6 ∧ (12 ≤ v6 → rI v6 ∧ (16 ≤ v6 → hX12_feed_77 f Φ (fun q0 v1 v2 v3 v4 v5 v6 m => hX12_feed_24 f Φ k q0 v1 v2 v3 v4 v5 v6 m) q0 v1 v2 v3 v4 v5 v6 v5 m) ∧ (¬ (16 ≤ v6) → hX12_feed_77 f Φ (fun q0 v1 v2 v3 v4 v5 v6 m => hX12_feed_24 f Φ k q0 v1 v2 v3 v4 v5 v6 m) q0 v1 v2 v3 v4 v5 v6 v4 m)) ∧ (¬ (12 ≤ v6) → hX12_feed_77 f Φ (fun q0 v1 v2 v3 v4 v5 v6 m => hX12_feed_24 f Φ k q0 v1 v2 v3 v4 v5 v6 m) q0 v1 v2 v3 v4 v5 v6 v3 m)) ∧ (¬ (8 ≤ v6) → hX12_feed_77 f Φ (fun q0 v1 v2 v3 v4 v5 v6 m => hX12_feed_24 f Φ k q0 v1 v2 v3 v4 v5 v6 m) q0 v1 v2 v3 v4 v5 v6 v2 m)) ∧ (¬ (4 ≤ v6) → hX12_feed_77 f Φ (fun q0 v1 v2 v3 v4 v5 v6 m => hX12_feed_24 f Φ k q0 v1 v2 v3 v4 v5 v6 m) q0 v1 v2 v3 v4 v5 v6 v1 m))
set_option maxHeartbeats 4000000 in
set_option maxRecDepth 100000 in
theorem tX12_feed_24 {X : aj_T} {n f : Nat} {Φ : Int → aj_M → Prop} (C : aj_Cx X cX12_feed RX12 8 n) (K : aj_Rt X (some .int) (fun r m => ∃ z, r = some (vI z) ∧ Φ z m)) : ∀ (k : Nat) (q0 : List Nat) (v1 : Int) (v2 : Int) (v3 : Int) (v4 : Int) (v5 : Int) (v6 : Int) (m : aj_M) (hq0 : (.inl (12, q0) : aj_R) ∈ aj_pls), hX12_feed_24 f Φ k q0 v1 v2 v3 v4 v5 v6 m → aj_J X 24 [some (vO 12 q0), some (vI v1), some (vI v2), some (vI v3), some (vI v4), some (vI v5), some (vI v6), none] [] m := by
  intro k
  induction k with
  | zero =>
    intro q0 v1 v2 v3 v4 v5 v6 m _ h
    exact h.elim
  | succ k ih =>
    intro q0 v1 v2 v3 v4 v5 v6 m hq0 h
    unfold hX12_feed_24 at h
    refine aj_iload C dX12_feed_24 rfl ?_
    refine aj_bipush C dX12_feed_26 (by decide) ?_
    obtain ⟨r0, h1, h2⟩ := h
    refine aj_icmp_ge (tgt := 121) C dX12_feed_28 (by decide) r0 (by decide) (fun e => ?_) (fun e => ?_)
    · have h := h1 e
      refine aj_aload_n C dX12_feed_121 rfl ?_
      refine aj_getI C flX12_92 hq0 (by decide) dX12_feed_122 rfl ?_
      exact aj_iret C K dX12_feed_125 ⟨_, rfl, h⟩
    · have h := h2 e
      refine aj_iload C dX12_feed_31 rfl ?_
      refine aj_iconst C dX12_feed_33 ?_
      obtain ⟨r0, h1, h2⟩ := h
      refine aj_icmp_ge (tgt := 41) C dX12_feed_34 (by decide) r0 (by decide) (fun e => ?_) (fun e => ?_)
      · have h := h1 e
        refine aj_iload C dX12_feed_41 rfl ?_
        refine aj_bipush C dX12_feed_43 (by decide) ?_
        obtain ⟨r0, h1, h2⟩ := h
        refine aj_icmp_ge (tgt := 52) C dX12_feed_45 (by decide) r0 (by decide) (fun e => ?_) (fun e => ?_)
        · have h := h1 e
          refine aj_iload C dX12_feed_52 rfl ?_
          refine aj_bipush C dX12_feed_54 (by decide) ?_
          obtain ⟨r0, h1, h2⟩ := h
          refine aj_icmp_ge (tgt := 63) C dX12_feed_56 (by decide) r0 (by decide) (fun e => ?_) (fun e => ?_)
          · have h := h1 e
            refine aj_iload C dX12_feed_63 rfl ?_
            refine aj_bipush C dX12_feed_65 (by decide) ?_
            obtain ⟨r0, h1, h2⟩ := h
            refine aj_icmp_ge (tgt := 75) C dX12_feed_67 (by decide) r0 (by decide) (fun e => ?_) (fun e => ?_)
            · have h := h1 e
              refine aj_iload C dX12_feed_75 rfl ?_
              exact tX12_feed_77 C K (fun q0 v1 v2 v3 v4 v5 v6 m hq0 hh => ih q0 v1 v2 v3 v4 v5 v6 m hq0 hh) q0 v1 v2 v3 v4 v5 v6 v5 _ hq0 h
            · have h := h2 e
              refine aj_iload C dX12_feed_70 rfl ?_
              refine aj_goto (tgt := 77) C dX12_feed_72 (by decide) ?_
              exact tX12_feed_77 C K (fun q0 v1 v2 v3 v4 v5 v6 m hq0 hh => ih q0 v1 v2 v3 v4 v5 v6 m hq0 hh) q0 v1 v2 v3 v4 v5 v6 v4 _ hq0 h
          · have h := h2 e
            refine aj_iload_n C dX12_feed_59 rfl ?_
            refine aj_goto (tgt := 77) C dX12_feed_60 (by decide) ?_
            exact tX12_feed_77 C K (fun q0 v1 v2 v3 v4 v5 v6 m hq0 hh => ih q0 v1 v2 v3 v4 v5 v6 m hq0 hh) q0 v1 v2 v3 v4 v5 v6 v3 _ hq0 h
        · have h := h2 e
          refine aj_iload_n C dX12_feed_48 rfl ?_
          refine aj_goto (tgt := 77) C dX12_feed_49 (by decide) ?_
          exact tX12_feed_77 C K (fun q0 v1 v2 v3 v4 v5 v6 m hq0 hh => ih q0 v1 v2 v3 v4 v5 v6 m hq0 hh) q0 v1 v2 v3 v4 v5 v6 v2 _ hq0 h
      · have h := h2 e
        refine aj_iload_n C dX12_feed_37 rfl ?_
        refine aj_goto (tgt := 77) C dX12_feed_38 (by decide) ?_
        exact tX12_feed_77 C K (fun q0 v1 v2 v3 v4 v5 v6 m hq0 hh => ih q0 v1 v2 v3 v4 v5 v6 m hq0 hh) q0 v1 v2 v3 v4 v5 v6 v1 _ hq0 h
def wX12_feed (f : Nat) (Φ : Int → aj_M → Prop) (q0 : List Nat) (v1 : Int) (v2 : Int) (v3 : Int) (v4 : Int) (v5 : Int) (m : aj_M) : Prop := ∀ m1, m1 = aj_u m q0 0 0 → rI ((m1 q0 5) + 20) ∧ (((m1 q0 5) + 20) ≤ 900 → hX12_feed_24 f Φ f q0 v1 v2 v3 v4 v5 0 m1) ∧ (¬ (((m1 q0 5) + 20) ≤ 900) → Φ (-5) m1)
set_option maxHeartbeats 4000000 in
set_option maxRecDepth 100000 in
theorem sX12_feed {n f : Nat} {Φ : Int → aj_M → Prop} {q0 : List Nat} {v1 : Int} {v2 : Int} {v3 : Int} {v4 : Int} {v5 : Int} {m : aj_M} (hq0 : (.inl (12, q0) : aj_R) ∈ aj_pls) (h : wX12_feed f Φ q0 v1 v2 v3 v4 v5 m) : aj_Ct n yX12_feed cX12_feed 8 (some .int) [vO 12 q0, vI v1, vI v2, vI v3, vI v4, vI v5] m (fun r m => ∃ z, r = some (vI z) ∧ Φ z m) := by
  refine aj_met (lv := [some (vO 12 q0), some (vI v1), some (vI v2), some (vI v3), some (vI v4), some (vI v5), none, none]) (by decide +kernel) rfl (Nat.le_of_ble_eq_true rfl) (fun X C K => ?_)
  unfold wX12_feed at h
  refine aj_aload_n C dX12_feed_0 rfl ?_
  refine aj_iconst C dX12_feed_1 ?_
  refine aj_putI C fpX12_1 hq0 rfl dX12_feed_2 ?_
  refine aj_nm (fun m1 e1 => ?_)
  have h := h m1 e1
  refine aj_aload_n C dX12_feed_5 rfl ?_
  refine aj_getI C flX12_92 hq0 (by decide) dX12_feed_6 rfl ?_
  refine aj_bipush C dX12_feed_9 (by decide) ?_
  refine aj_iadd C dX12_feed_11 ?_
  refine aj_sipush C dX12_feed_12 (by decide) ?_
  obtain ⟨r0, h1, h2⟩ := h
  refine aj_icmp_le (tgt := 21) C dX12_feed_15 (by decide) r0 (by decide) (fun e => ?_) (fun e => ?_)
  · have h := h1 e
    refine aj_iconst C dX12_feed_21 ?_
    refine aj_istore (lv' := [some (vO 12 q0), some (vI v1), some (vI v2), some (vI v3), some (vI v4), some (vI v5), some (vI 0), none]) C dX12_feed_22 (by decide) rfl ?_
    exact tX12_feed_24 C K f q0 v1 v2 v3 v4 v5 0 _ hq0 h
  · have h := h2 e
    refine aj_bipush C dX12_feed_18 (by decide) ?_
    exact aj_iret C K dX12_feed_20 ⟨_, rfl, h⟩
theorem dX12_see_0 : decode cX12_see 0 = .ok (.iload_n 1, 1) := by decide +kernel
theorem dX12_see_1 : decode cX12_see 1 = .ok (.aload_n 0, 1) := by decide +kernel
theorem dX12_see_2 : decode cX12_see 2 = .ok (.getfield 95, 3) := by decide +kernel
theorem dX12_see_5 : decode cX12_see 5 = .ok (.if_icmp .ge 12, 3) := by decide +kernel
theorem dX12_see_8 : decode cX12_see 8 = .ok (.aload_n 0, 1) := by decide +kernel
theorem dX12_see_9 : decode cX12_see 9 = .ok (.getfield 21, 3) := by decide +kernel
theorem dX12_see_12 : decode cX12_see 12 = .ok (.iload_n 1, 1) := by decide +kernel
theorem dX12_see_13 : decode cX12_see 13 = .ok (.iaload, 1) := by decide +kernel
theorem dX12_see_14 : decode cX12_see 14 = .ok (.goto 4, 3) := by decide +kernel
theorem dX12_see_17 : decode cX12_see 17 = .ok (.iconst (-1), 1) := by decide +kernel
theorem dX12_see_18 : decode cX12_see 18 = .ok (.ireturn, 1) := by decide +kernel
def wX12_see (f : Nat) (Φ : Int → aj_M → Prop) (q0 : List Nat) (v1 : Int) (m : aj_M) : Prop := rI v1 ∧ rI (m q0 8) ∧ ((m q0 8) ≤ v1 → Φ (-1) m) ∧ (¬ ((m q0 8) ≤ v1) → (0 ≤ v1 ∧ v1 < 900) ∧ Φ (m (3 :: q0) v1.toNat) m)
set_option maxHeartbeats 4000000 in
set_option maxRecDepth 100000 in
theorem sX12_see {n f : Nat} {Φ : Int → aj_M → Prop} {q0 : List Nat} {v1 : Int} {m : aj_M} (hq0 : (.inl (12, q0) : aj_R) ∈ aj_pls) (h : wX12_see f Φ q0 v1 m) : aj_Ct n yX12_see cX12_see 2 (some .int) [vO 12 q0, vI v1] m (fun r m => ∃ z, r = some (vI z) ∧ Φ z m) := by
  refine aj_met (lv := [some (vO 12 q0), some (vI v1)]) (by decide +kernel) rfl (Nat.le_of_ble_eq_true rfl) (fun X C K => ?_)
  unfold wX12_see at h
  refine aj_iload_n C dX12_see_0 rfl ?_
  refine aj_aload_n C dX12_see_1 rfl ?_
  refine aj_getI C flX12_95 hq0 (by decide) dX12_see_2 rfl ?_
  obtain ⟨r0, r1, h1, h2⟩ := h
  refine aj_icmp_ge (tgt := 17) C dX12_see_5 (by decide) r0 r1 (fun e => ?_) (fun e => ?_)
  · have h := h1 e
    refine aj_iconst C dX12_see_17 ?_
    exact aj_iret C K dX12_see_18 ⟨_, rfl, h⟩
  · have h := h2 e
    refine aj_aload_n C dX12_see_8 rfl ?_
    refine aj_getA (x := 0) (y := 900) C flX12_21 hq0 rfl dX12_see_9 ?_
    refine aj_iload_n C dX12_see_12 rfl ?_
    obtain ⟨r0, h⟩ := h
    refine aj_iald C (aj_ca (e := 0) (n := 900) (j := 3) hq0 (by decide) rfl) (by decide) r0 dX12_see_13 rfl ?_
    refine aj_goto (tgt := 18) C dX12_see_14 (by decide) ?_
    exact aj_iret C K dX12_see_18 ⟨_, rfl, h⟩
theorem dX12_isSmall_0 : decode cX12_isSmall 0 = .ok (.iload_n 0, 1) := by decide +kernel
theorem dX12_isSmall_1 : decode cX12_isSmall 1 = .ok (.bipush 97, 2) := by decide +kernel
theorem dX12_isSmall_3 : decode cX12_isSmall 3 = .ok (.if_icmp .lt 13, 3) := by decide +kernel
theorem dX12_isSmall_6 : decode cX12_isSmall 6 = .ok (.iload_n 0, 1) := by decide +kernel
theorem dX12_isSmall_7 : decode cX12_isSmall 7 = .ok (.bipush 122, 2) := by decide +kernel
theorem dX12_isSmall_9 : decode cX12_isSmall 9 = .ok (.if_icmp .gt 7, 3) := by decide +kernel
theorem dX12_isSmall_12 : decode cX12_isSmall 12 = .ok (.iconst 1, 1) := by decide +kernel
theorem dX12_isSmall_13 : decode cX12_isSmall 13 = .ok (.goto 4, 3) := by decide +kernel
theorem dX12_isSmall_16 : decode cX12_isSmall 16 = .ok (.iconst 0, 1) := by decide +kernel
theorem dX12_isSmall_17 : decode cX12_isSmall 17 = .ok (.ireturn, 1) := by decide +kernel
def wX12_isSmall (f : Nat) (Φ : Int → aj_M → Prop) (v0 : Int) (m : aj_M) : Prop := rI v0 ∧ (v0 < 97 → Φ 0 m) ∧ (¬ (v0 < 97) → rI v0 ∧ (122 < v0 → Φ 0 m) ∧ (¬ (122 < v0) → Φ 1 m))
set_option maxHeartbeats 4000000 in
set_option maxRecDepth 100000 in
theorem sX12_isSmall {n f : Nat} {Φ : Int → aj_M → Prop} {v0 : Int} {m : aj_M}  (h : wX12_isSmall f Φ v0 m) : aj_Ct n yX12_isSmall cX12_isSmall 1 (some .boolean) [vI v0] m (fun r m => ∃ z, r = some (vI z) ∧ Φ z m) := by
  refine aj_met (lv := [some (vI v0)]) (by decide +kernel) rfl (Nat.le_of_ble_eq_true rfl) (fun X C K => ?_)
  unfold wX12_isSmall at h
  refine aj_iload_n C dX12_isSmall_0 rfl ?_
  refine aj_bipush C dX12_isSmall_1 (by decide) ?_
  obtain ⟨r0, h1, h2⟩ := h
  refine aj_icmp_lt (tgt := 16) C dX12_isSmall_3 (by decide) r0 (by decide) (fun e => ?_) (fun e => ?_)
  · have h := h1 e
    refine aj_iconst C dX12_isSmall_16 ?_
    exact aj_zret C K (Or.inl rfl) dX12_isSmall_17 ⟨_, rfl, h⟩
  · have h := h2 e
    refine aj_iload_n C dX12_isSmall_6 rfl ?_
    refine aj_bipush C dX12_isSmall_7 (by decide) ?_
    obtain ⟨r0, h1, h2⟩ := h
    refine aj_icmp_gt (tgt := 16) C dX12_isSmall_9 (by decide) r0 (by decide) (fun e => ?_) (fun e => ?_)
    · have h := h1 e
      refine aj_iconst C dX12_isSmall_16 ?_
      exact aj_zret C K (Or.inl rfl) dX12_isSmall_17 ⟨_, rfl, h⟩
    · have h := h2 e
      refine aj_iconst C dX12_isSmall_12 ?_
      refine aj_goto (tgt := 17) C dX12_isSmall_13 (by decide) ?_
      exact aj_zret C K (Or.inr rfl) dX12_isSmall_17 ⟨_, rfl, h⟩
theorem dX12_isDigit_0 : decode cX12_isDigit 0 = .ok (.iload_n 0, 1) := by decide +kernel
theorem dX12_isDigit_1 : decode cX12_isDigit 1 = .ok (.bipush 48, 2) := by decide +kernel
theorem dX12_isDigit_3 : decode cX12_isDigit 3 = .ok (.if_icmp .lt 13, 3) := by decide +kernel
theorem dX12_isDigit_6 : decode cX12_isDigit 6 = .ok (.iload_n 0, 1) := by decide +kernel
theorem dX12_isDigit_7 : decode cX12_isDigit 7 = .ok (.bipush 57, 2) := by decide +kernel
theorem dX12_isDigit_9 : decode cX12_isDigit 9 = .ok (.if_icmp .gt 7, 3) := by decide +kernel
theorem dX12_isDigit_12 : decode cX12_isDigit 12 = .ok (.iconst 1, 1) := by decide +kernel
theorem dX12_isDigit_13 : decode cX12_isDigit 13 = .ok (.goto 4, 3) := by decide +kernel
theorem dX12_isDigit_16 : decode cX12_isDigit 16 = .ok (.iconst 0, 1) := by decide +kernel
theorem dX12_isDigit_17 : decode cX12_isDigit 17 = .ok (.ireturn, 1) := by decide +kernel
def wX12_isDigit (f : Nat) (Φ : Int → aj_M → Prop) (v0 : Int) (m : aj_M) : Prop := rI v0 ∧ (v0 < 48 → Φ 0 m) ∧ (¬ (v0 < 48) → rI v0 ∧ (57 < v0 → Φ 0 m) ∧ (¬ (57 < v0) → Φ 1 m))
set_option maxHeartbeats 4000000 in
set_option maxRecDepth 100000 in
theorem sX12_isDigit {n f : Nat} {Φ : Int → aj_M → Prop} {v0 : Int} {m : aj_M}  (h : wX12_isDigit f Φ v0 m) : aj_Ct n yX12_isDigit cX12_isDigit 1 (some .boolean) [vI v0] m (fun r m => ∃ z, r = some (vI z) ∧ Φ z m) := by
  refine aj_met (lv := [some (vI v0)]) (by decide +kernel) rfl (Nat.le_of_ble_eq_true rfl) (fun X C K => ?_)
  unfold wX12_isDigit at h
  refine aj_iload_n C dX12_isDigit_0 rfl ?_
  refine aj_bipush C dX12_isDigit_1 (by decide) ?_
  obtain ⟨r0, h1, h2⟩ := h
  refine aj_icmp_lt (tgt := 16) C dX12_isDigit_3 (by decide) r0 (by decide) (fun e => ?_) (fun e => ?_)
  · have h := h1 e
    refine aj_iconst C dX12_isDigit_16 ?_
    exact aj_zret C K (Or.inl rfl) dX12_isDigit_17 ⟨_, rfl, h⟩
  · have h := h2 e
    refine aj_iload_n C dX12_isDigit_6 rfl ?_
    refine aj_bipush C dX12_isDigit_7 (by decide) ?_
    obtain ⟨r0, h1, h2⟩ := h
    refine aj_icmp_gt (tgt := 16) C dX12_isDigit_9 (by decide) r0 (by decide) (fun e => ?_) (fun e => ?_)
    · have h := h1 e
      refine aj_iconst C dX12_isDigit_16 ?_
      exact aj_zret C K (Or.inl rfl) dX12_isDigit_17 ⟨_, rfl, h⟩
    · have h := h2 e
      refine aj_iconst C dX12_isDigit_12 ?_
      refine aj_goto (tgt := 17) C dX12_isDigit_13 (by decide) ?_
      exact aj_zret C K (Or.inr rfl) dX12_isDigit_17 ⟨_, rfl, h⟩
theorem dX12_keyAt_0 : decode cX12_keyAt 0 = .ok (.iconst 0, 1) := by decide +kernel
theorem dX12_keyAt_1 : decode cX12_keyAt 1 = .ok (.istore_n 1, 1) := by decide +kernel
theorem dX12_keyAt_2 : decode cX12_keyAt 2 = .ok (.iconst 1, 1) := by decide +kernel
theorem dX12_keyAt_3 : decode cX12_keyAt 3 = .ok (.istore_n 2, 1) := by decide +kernel
theorem dX12_keyAt_4 : decode cX12_keyAt 4 = .ok (.iload_n 2, 1) := by decide +kernel
theorem dX12_keyAt_5 : decode cX12_keyAt 5 = .ok (.ldc 98, 2) := by decide +kernel
theorem dX12_keyAt_7 : decode cX12_keyAt 7 = .ok (.invokevirtual 100, 3) := by decide +kernel
theorem dX12_keyAt_10 : decode cX12_keyAt 10 = .ok (.if_icmp .ge 113, 3) := by decide +kernel
theorem dX12_keyAt_13 : decode cX12_keyAt 13 = .ok (.iconst 0, 1) := by decide +kernel
theorem dX12_keyAt_14 : decode cX12_keyAt 14 = .ok (.istore_n 3, 1) := by decide +kernel
theorem dX12_keyAt_15 : decode cX12_keyAt 15 = .ok (.ldc 98, 2) := by decide +kernel
theorem dX12_keyAt_17 : decode cX12_keyAt 17 = .ok (.iload_n 2, 1) := by decide +kernel
theorem dX12_keyAt_18 : decode cX12_keyAt 18 = .ok (.iload_n 3, 1) := by decide +kernel
theorem dX12_keyAt_19 : decode cX12_keyAt 19 = .ok (.iadd, 1) := by decide +kernel
theorem dX12_keyAt_20 : decode cX12_keyAt 20 = .ok (.invokevirtual 106, 3) := by decide +kernel
theorem dX12_keyAt_23 : decode cX12_keyAt 23 = .ok (.bipush 32, 2) := by decide +kernel
theorem dX12_keyAt_25 : decode cX12_keyAt 25 = .ok (.if_icmp .eq 44, 3) := by decide +kernel
theorem dX12_keyAt_28 : decode cX12_keyAt 28 = .ok (.aload_n 0, 1) := by decide +kernel
theorem dX12_keyAt_29 : decode cX12_keyAt 29 = .ok (.getfield 110, 3) := by decide +kernel
theorem dX12_keyAt_32 : decode cX12_keyAt 32 = .ok (.iload_n 3, 1) := by decide +kernel
theorem dX12_keyAt_33 : decode cX12_keyAt 33 = .ok (.iadd, 1) := by decide +kernel
theorem dX12_keyAt_34 : decode cX12_keyAt 34 = .ok (.aload_n 0, 1) := by decide +kernel
theorem dX12_keyAt_35 : decode cX12_keyAt 35 = .ok (.getfield 113, 3) := by decide +kernel
theorem dX12_keyAt_38 : decode cX12_keyAt 38 = .ok (.if_icmp .ge 31, 3) := by decide +kernel
theorem dX12_keyAt_41 : decode cX12_keyAt 41 = .ok (.aload_n 0, 1) := by decide +kernel
theorem dX12_keyAt_42 : decode cX12_keyAt 42 = .ok (.getfield 21, 3) := by decide +kernel
theorem dX12_keyAt_45 : decode cX12_keyAt 45 = .ok (.aload_n 0, 1) := by decide +kernel
theorem dX12_keyAt_46 : decode cX12_keyAt 46 = .ok (.getfield 110, 3) := by decide +kernel
theorem dX12_keyAt_49 : decode cX12_keyAt 49 = .ok (.iload_n 3, 1) := by decide +kernel
theorem dX12_keyAt_50 : decode cX12_keyAt 50 = .ok (.iadd, 1) := by decide +kernel
theorem dX12_keyAt_51 : decode cX12_keyAt 51 = .ok (.iaload, 1) := by decide +kernel
theorem dX12_keyAt_52 : decode cX12_keyAt 52 = .ok (.ldc 98, 2) := by decide +kernel
theorem dX12_keyAt_54 : decode cX12_keyAt 54 = .ok (.iload_n 2, 1) := by decide +kernel
theorem dX12_keyAt_55 : decode cX12_keyAt 55 = .ok (.iload_n 3, 1) := by decide +kernel
theorem dX12_keyAt_56 : decode cX12_keyAt 56 = .ok (.iadd, 1) := by decide +kernel
theorem dX12_keyAt_57 : decode cX12_keyAt 57 = .ok (.invokevirtual 106, 3) := by decide +kernel
theorem dX12_keyAt_60 : decode cX12_keyAt 60 = .ok (.if_icmp .ne 9, 3) := by decide +kernel
theorem dX12_keyAt_63 : decode cX12_keyAt 63 = .ok (.iinc 3 1, 3) := by decide +kernel
theorem dX12_keyAt_66 : decode cX12_keyAt 66 = .ok (.goto (-51), 3) := by decide +kernel
theorem dX12_keyAt_69 : decode cX12_keyAt 69 = .ok (.ldc 98, 2) := by decide +kernel
theorem dX12_keyAt_71 : decode cX12_keyAt 71 = .ok (.iload_n 2, 1) := by decide +kernel
theorem dX12_keyAt_72 : decode cX12_keyAt 72 = .ok (.iload_n 3, 1) := by decide +kernel
theorem dX12_keyAt_73 : decode cX12_keyAt 73 = .ok (.iadd, 1) := by decide +kernel
theorem dX12_keyAt_74 : decode cX12_keyAt 74 = .ok (.invokevirtual 106, 3) := by decide +kernel
theorem dX12_keyAt_77 : decode cX12_keyAt 77 = .ok (.bipush 32, 2) := by decide +kernel
theorem dX12_keyAt_79 : decode cX12_keyAt 79 = .ok (.if_icmp .ne 18, 3) := by decide +kernel
theorem dX12_keyAt_82 : decode cX12_keyAt 82 = .ok (.aload_n 0, 1) := by decide +kernel
theorem dX12_keyAt_83 : decode cX12_keyAt 83 = .ok (.getfield 110, 3) := by decide +kernel
theorem dX12_keyAt_86 : decode cX12_keyAt 86 = .ok (.iload_n 3, 1) := by decide +kernel
theorem dX12_keyAt_87 : decode cX12_keyAt 87 = .ok (.iadd, 1) := by decide +kernel
theorem dX12_keyAt_88 : decode cX12_keyAt 88 = .ok (.aload_n 0, 1) := by decide +kernel
theorem dX12_keyAt_89 : decode cX12_keyAt 89 = .ok (.getfield 113, 3) := by decide +kernel
theorem dX12_keyAt_92 : decode cX12_keyAt 92 = .ok (.if_icmp .ne 5, 3) := by decide +kernel
theorem dX12_keyAt_95 : decode cX12_keyAt 95 = .ok (.iload_n 1, 1) := by decide +kernel
theorem dX12_keyAt_96 : decode cX12_keyAt 96 = .ok (.ireturn, 1) := by decide +kernel
theorem dX12_keyAt_97 : decode cX12_keyAt 97 = .ok (.ldc 98, 2) := by decide +kernel
theorem dX12_keyAt_99 : decode cX12_keyAt 99 = .ok (.iload_n 2, 1) := by decide +kernel
theorem dX12_keyAt_100 : decode cX12_keyAt 100 = .ok (.invokevirtual 106, 3) := by decide +kernel
theorem dX12_keyAt_103 : decode cX12_keyAt 103 = .ok (.bipush 32, 2) := by decide +kernel
theorem dX12_keyAt_105 : decode cX12_keyAt 105 = .ok (.if_icmp .eq 9, 3) := by decide +kernel
theorem dX12_keyAt_108 : decode cX12_keyAt 108 = .ok (.iinc 2 1, 3) := by decide +kernel
theorem dX12_keyAt_111 : decode cX12_keyAt 111 = .ok (.goto (-14), 3) := by decide +kernel
theorem dX12_keyAt_114 : decode cX12_keyAt 114 = .ok (.iinc 2 1, 3) := by decide +kernel
theorem dX12_keyAt_117 : decode cX12_keyAt 117 = .ok (.iinc 1 1, 3) := by decide +kernel
theorem dX12_keyAt_120 : decode cX12_keyAt 120 = .ok (.goto (-116), 3) := by decide +kernel
theorem dX12_keyAt_123 : decode cX12_keyAt 123 = .ok (.bipush 22, 2) := by decide +kernel
theorem dX12_keyAt_125 : decode cX12_keyAt 125 = .ok (.ireturn, 1) := by decide +kernel
def hX12_keyAt_97 (f : Nat) (Φ : Int → aj_M → Prop) (K4 : List Nat → Int → Int → aj_M → Prop) : Nat → List Nat → Int → Int → aj_M → Prop
  | 0, _, _, _, _ => False
  | k + 1, q0, v1, v2, m => wJ0_charAt_5068e f (fun z1 m1 => rI z1 ∧ (z1 = 32 → K4 q0 (v1 + 1) (v2 + 1) m1) ∧ (¬ (z1 = 32) → hX12_keyAt_97 f Φ K4 k q0 v1 (v2 + 1) m1)) [102] v2 m
set_option maxHeartbeats 4000000 in
set_option maxRecDepth 100000 in
theorem tX12_keyAt_97 {X : aj_T} {n f : Nat} {Φ : Int → aj_M → Prop} (C : aj_Cx X cX12_keyAt RX12 4 (n + 4)) (K : aj_Rt X (some .int) (fun r m => ∃ z, r = some (vI z) ∧ Φ z m)) {K4 : List Nat → Int → Int → aj_M → Prop} (HK4 : ∀ (q0 : List Nat) (v1 : Int) (v2 : Int) (m : aj_M) (hq0 : (.inl (12, q0) : aj_R) ∈ aj_pls), K4 q0 v1 v2 m → aj_J X 4 [some (vO 12 q0), some (vI v1), some (vI v2), none] [] m) : ∀ (k : Nat) (q0 : List Nat) (v1 : Int) (v2 : Int) (m : aj_M) (hq0 : (.inl (12, q0) : aj_R) ∈ aj_pls), hX12_keyAt_97 f Φ K4 k q0 v1 v2 m → aj_J X 97 [some (vO 12 q0), some (vI v1), some (vI v2), none] [] m := by
  intro k
  induction k with
  | zero =>
    intro q0 v1 v2 m _ h
    exact h.elim
  | succ k ih =>
    intro q0 v1 v2 m hq0 h
    unfold hX12_keyAt_97 at h
    refine aj_ldcS (q := [102]) C (fun E U h => h.2.2.2.1) dX12_keyAt_97 ?_
    refine aj_iload_n C dX12_keyAt_99 rfl ?_
    refine aj_callW (rest := []) C K mwX12_106 rfl (sJ0_charAt_5068e (⟨2, by decide, rfl⟩ : aj_S [102]) h) (⟨2, by decide, rfl⟩ : aj_S [102]) (aj_np 1 (by decide +kernel) rfl) (Nat.le_of_ble_eq_true rfl) rfl dX12_keyAt_100 (fun r m1 h => ?_)
    obtain ⟨z1, rfl, h⟩ := h
    refine aj_bipush C dX12_keyAt_103 (by decide) ?_
    obtain ⟨r0, h1, h2⟩ := h
    refine aj_icmp_eq (tgt := 114) C dX12_keyAt_105 (by decide) r0 (by decide) (fun e => ?_) (fun e => ?_)
    · have h := h1 e
      refine aj_iinc (lv' := [some (vO 12 q0), some (vI v1), some (vI (v2 + 1)), none]) C dX12_keyAt_114 rfl (by decide) rfl ?_
      refine aj_iinc (lv' := [some (vO 12 q0), some (vI (v1 + 1)), some (vI (v2 + 1)), none]) C dX12_keyAt_117 rfl (by decide) rfl ?_
      refine aj_goto (tgt := 4) C dX12_keyAt_120 (by decide) ?_
      exact HK4 q0 (v1 + 1) (v2 + 1) _ hq0 h
    · have h := h2 e
      refine aj_iinc (lv' := [some (vO 12 q0), some (vI v1), some (vI (v2 + 1)), none]) C dX12_keyAt_108 rfl (by decide) rfl ?_
      refine aj_goto (tgt := 97) C dX12_keyAt_111 (by decide) ?_
      exact ih q0 v1 (v2 + 1) _ hq0 h
def hX12_keyAt_69 (f : Nat) (Φ : Int → aj_M → Prop) (K4 : List Nat → Int → Int → aj_M → Prop) (q0 : List Nat) (v1 : Int) (v2 : Int) (v3 : Int) (m : aj_M) : Prop := wJ0_charAt_5068e f (fun z1 m1 => rI z1 ∧ (¬ z1 = 32 → hX12_keyAt_97 f Φ K4 f q0 v1 v2 m1) ∧ (z1 = 32 → rI ((m1 q0 6) + v3) ∧ rI (m1 q0 7) ∧ (¬ ((m1 q0 6) + v3) = (m1 q0 7) → hX12_keyAt_97 f Φ K4 f q0 v1 v2 m1) ∧ (((m1 q0 6) + v3) = (m1 q0 7) → Φ v1 m1))) [102] (v2 + v3) m
set_option maxHeartbeats 4000000 in
set_option maxRecDepth 100000 in
theorem tX12_keyAt_69 {X : aj_T} {n f : Nat} {Φ : Int → aj_M → Prop} (C : aj_Cx X cX12_keyAt RX12 4 (n + 4)) (K : aj_Rt X (some .int) (fun r m => ∃ z, r = some (vI z) ∧ Φ z m)) {K4 : List Nat → Int → Int → aj_M → Prop} (HK4 : ∀ (q0 : List Nat) (v1 : Int) (v2 : Int) (m : aj_M) (hq0 : (.inl (12, q0) : aj_R) ∈ aj_pls), K4 q0 v1 v2 m → aj_J X 4 [some (vO 12 q0), some (vI v1), some (vI v2), none] [] m) (q0 : List Nat) (v1 : Int) (v2 : Int) (v3 : Int) (m : aj_M) (hq0 : (.inl (12, q0) : aj_R) ∈ aj_pls) (h : hX12_keyAt_69 f Φ K4 q0 v1 v2 v3 m) : aj_J X 69 [some (vO 12 q0), some (vI v1), some (vI v2), some (vI v3)] [] m := by
  unfold hX12_keyAt_69 at h
  refine aj_ldcS (q := [102]) C (fun E U h => h.2.2.2.1) dX12_keyAt_69 ?_
  refine aj_iload_n C dX12_keyAt_71 rfl ?_
  refine aj_iload_n C dX12_keyAt_72 rfl ?_
  refine aj_iadd C dX12_keyAt_73 ?_
  refine aj_callW (rest := []) C K mwX12_106 rfl (sJ0_charAt_5068e (⟨2, by decide, rfl⟩ : aj_S [102]) h) (⟨2, by decide, rfl⟩ : aj_S [102]) (aj_np 1 (by decide +kernel) rfl) (Nat.le_of_ble_eq_true rfl) rfl dX12_keyAt_74 (fun r m1 h => ?_)
  obtain ⟨z1, rfl, h⟩ := h
  refine aj_bipush C dX12_keyAt_77 (by decide) ?_
  obtain ⟨r0, h1, h2⟩ := h
  refine aj_icmp_ne (tgt := 97) C dX12_keyAt_79 (by decide) r0 (by decide) (fun e => ?_) (fun e => ?_)
  · have h := h1 e
    refine aj_wk (lv' := [some (vO 12 q0), some (vI v1), some (vI v2), none]) (⟨rfl, ⟨rfl, ⟨rfl, trivial⟩⟩⟩) ?_
    exact tX12_keyAt_97 C K HK4 f q0 v1 v2 _ hq0 h
  · have h := h2 e
    refine aj_aload_n C dX12_keyAt_82 rfl ?_
    refine aj_getI C flX12_110 hq0 (by decide) dX12_keyAt_83 rfl ?_
    refine aj_iload_n C dX12_keyAt_86 rfl ?_
    refine aj_iadd C dX12_keyAt_87 ?_
    refine aj_aload_n C dX12_keyAt_88 rfl ?_
    refine aj_getI C flX12_113 hq0 (by decide) dX12_keyAt_89 rfl ?_
    obtain ⟨r0, r1, h1, h2⟩ := h
    refine aj_icmp_ne (tgt := 97) C dX12_keyAt_92 (by decide) r0 r1 (fun e => ?_) (fun e => ?_)
    · have h := h1 e
      refine aj_wk (lv' := [some (vO 12 q0), some (vI v1), some (vI v2), none]) (⟨rfl, ⟨rfl, ⟨rfl, trivial⟩⟩⟩) ?_
      exact tX12_keyAt_97 C K HK4 f q0 v1 v2 _ hq0 h
    · have h := h2 e
      refine aj_iload_n C dX12_keyAt_95 rfl ?_
      exact aj_iret C K dX12_keyAt_96 ⟨_, rfl, h⟩
def hX12_keyAt_15 (f : Nat) (Φ : Int → aj_M → Prop) (K4 : List Nat → Int → Int → aj_M → Prop) : Nat → List Nat → Int → Int → Int → aj_M → Prop
  | 0, _, _, _, _, _ => False
  | k + 1, q0, v1, v2, v3, m => wJ0_charAt_5068e f (fun z1 m1 => rI z1 ∧ (z1 = 32 → hX12_keyAt_69 f Φ K4 q0 v1 v2 v3 m1) ∧ (¬ (z1 = 32) → rI ((m1 q0 6) + v3) ∧ rI (m1 q0 7) ∧ ((m1 q0 7) ≤ ((m1 q0 6) + v3) → hX12_keyAt_69 f Φ K4 q0 v1 v2 v3 m1) ∧ (¬ ((m1 q0 7) ≤ ((m1 q0 6) + v3)) → (0 ≤ ((m1 q0 6) + v3) ∧ ((m1 q0 6) + v3) < 900) ∧ wJ0_charAt_5068e f (fun z2 m2 => rI (m1 (3 :: q0) ((m1 q0 6) + v3).toNat) ∧ rI z2 ∧ (¬ (m1 (3 :: q0) ((m1 q0 6) + v3).toNat) = z2 → hX12_keyAt_69 f Φ K4 q0 v1 v2 v3 m2) ∧ ((m1 (3 :: q0) ((m1 q0 6) + v3).toNat) = z2 → hX12_keyAt_15 f Φ K4 k q0 v1 v2 (v3 + 1) m2)) [102] (v2 + v3) m1))) [102] (v2 + v3) m
set_option maxHeartbeats 4000000 in
set_option maxRecDepth 100000 in
theorem tX12_keyAt_15 {X : aj_T} {n f : Nat} {Φ : Int → aj_M → Prop} (C : aj_Cx X cX12_keyAt RX12 4 (n + 4)) (K : aj_Rt X (some .int) (fun r m => ∃ z, r = some (vI z) ∧ Φ z m)) {K4 : List Nat → Int → Int → aj_M → Prop} (HK4 : ∀ (q0 : List Nat) (v1 : Int) (v2 : Int) (m : aj_M) (hq0 : (.inl (12, q0) : aj_R) ∈ aj_pls), K4 q0 v1 v2 m → aj_J X 4 [some (vO 12 q0), some (vI v1), some (vI v2), none] [] m) : ∀ (k : Nat) (q0 : List Nat) (v1 : Int) (v2 : Int) (v3 : Int) (m : aj_M) (hq0 : (.inl (12, q0) : aj_R) ∈ aj_pls), hX12_keyAt_15 f Φ K4 k q0 v1 v2 v3 m → aj_J X 15 [some (vO 12 q0), some (vI v1), some (vI v2), some (vI v3)] [] m := by
  intro k
  induction k with
  | zero =>
    intro q0 v1 v2 v3 m _ h
    exact h.elim
  | succ k ih =>
    intro q0 v1 v2 v3 m hq0 h
    unfold hX12_keyAt_15 at h
    refine aj_ldcS (q := [102]) C (fun E U h => h.2.2.2.1) dX12_keyAt_15 ?_
    refine aj_iload_n C dX12_keyAt_17 rfl ?_
    refine aj_iload_n C dX12_keyAt_18 rfl ?_
    refine aj_iadd C dX12_keyAt_19 ?_
    refine aj_callW (rest := []) C K mwX12_106 rfl (sJ0_charAt_5068e (⟨2, by decide, rfl⟩ : aj_S [102]) h) (⟨2, by decide, rfl⟩ : aj_S [102]) (aj_np 1 (by decide +kernel) rfl) (Nat.le_of_ble_eq_true rfl) rfl dX12_keyAt_20 (fun r m1 h => ?_)
    obtain ⟨z1, rfl, h⟩ := h
    refine aj_bipush C dX12_keyAt_23 (by decide) ?_
    obtain ⟨r0, h1, h2⟩ := h
    refine aj_icmp_eq (tgt := 69) C dX12_keyAt_25 (by decide) r0 (by decide) (fun e => ?_) (fun e => ?_)
    · have h := h1 e
      exact tX12_keyAt_69 C K HK4 q0 v1 v2 v3 _ hq0 h
    · have h := h2 e
      refine aj_aload_n C dX12_keyAt_28 rfl ?_
      refine aj_getI C flX12_110 hq0 (by decide) dX12_keyAt_29 rfl ?_
      refine aj_iload_n C dX12_keyAt_32 rfl ?_
      refine aj_iadd C dX12_keyAt_33 ?_
      refine aj_aload_n C dX12_keyAt_34 rfl ?_
      refine aj_getI C flX12_113 hq0 (by decide) dX12_keyAt_35 rfl ?_
      obtain ⟨r0, r1, h1, h2⟩ := h
      refine aj_icmp_ge (tgt := 69) C dX12_keyAt_38 (by decide) r0 r1 (fun e => ?_) (fun e => ?_)
      · have h := h1 e
        exact tX12_keyAt_69 C K HK4 q0 v1 v2 v3 _ hq0 h
      · have h := h2 e
        refine aj_aload_n C dX12_keyAt_41 rfl ?_
        refine aj_getA (x := 0) (y := 900) C flX12_21 hq0 rfl dX12_keyAt_42 ?_
        refine aj_aload_n C dX12_keyAt_45 rfl ?_
        refine aj_getI C flX12_110 hq0 (by decide) dX12_keyAt_46 rfl ?_
        refine aj_iload_n C dX12_keyAt_49 rfl ?_
        refine aj_iadd C dX12_keyAt_50 ?_
        obtain ⟨r0, h⟩ := h
        refine aj_iald C (aj_ca (e := 0) (n := 900) (j := 3) hq0 (by decide) rfl) (by decide) r0 dX12_keyAt_51 rfl ?_
        refine aj_ldcS (q := [102]) C (fun E U h => h.2.2.2.1) dX12_keyAt_52 ?_
        refine aj_iload_n C dX12_keyAt_54 rfl ?_
        refine aj_iload_n C dX12_keyAt_55 rfl ?_
        refine aj_iadd C dX12_keyAt_56 ?_
        refine aj_callW (rest := [vI (m1 (3 :: q0) ((m1 q0 6) + v3).toNat)]) C K mwX12_106 rfl (sJ0_charAt_5068e (⟨2, by decide, rfl⟩ : aj_S [102]) h) (⟨2, by decide, rfl⟩ : aj_S [102]) (aj_np 1 (by decide +kernel) rfl) (Nat.le_of_ble_eq_true rfl) rfl dX12_keyAt_57 (fun r m2 h => ?_)
        obtain ⟨z2, rfl, h⟩ := h
        obtain ⟨r0, r1, h1, h2⟩ := h
        refine aj_icmp_ne (tgt := 69) C dX12_keyAt_60 (by decide) r0 r1 (fun e => ?_) (fun e => ?_)
        · have h := h1 e
          exact tX12_keyAt_69 C K HK4 q0 v1 v2 v3 _ hq0 h
        · have h := h2 e
          refine aj_iinc (lv' := [some (vO 12 q0), some (vI v1), some (vI v2), some (vI (v3 + 1))]) C dX12_keyAt_63 rfl (by decide) rfl ?_
          refine aj_goto (tgt := 15) C dX12_keyAt_66 (by decide) ?_
          exact ih q0 v1 v2 (v3 + 1) _ hq0 h
def hX12_keyAt_4 (f : Nat) (Φ : Int → aj_M → Prop) : Nat → List Nat → Int → Int → aj_M → Prop
  | 0, _, _, _, _ => False
  | k + 1, q0, v1, v2, m => wJ0_length_8abf5 f (fun z1 m1 => rI v2 ∧ rI z1 ∧ (z1 ≤ v2 → Φ 22 m1) ∧ (¬ (z1 ≤ v2) → hX12_keyAt_15 f Φ (fun q0 v1 v2 m => hX12_keyAt_4 f Φ k q0 v1 v2 m) f q0 v1 v2 0 m1)) [102] m
set_option maxHeartbeats 4000000 in
set_option maxRecDepth 100000 in
theorem tX12_keyAt_4 {X : aj_T} {n f : Nat} {Φ : Int → aj_M → Prop} (C : aj_Cx X cX12_keyAt RX12 4 (n + 4)) (K : aj_Rt X (some .int) (fun r m => ∃ z, r = some (vI z) ∧ Φ z m)) : ∀ (k : Nat) (q0 : List Nat) (v1 : Int) (v2 : Int) (m : aj_M) (hq0 : (.inl (12, q0) : aj_R) ∈ aj_pls), hX12_keyAt_4 f Φ k q0 v1 v2 m → aj_J X 4 [some (vO 12 q0), some (vI v1), some (vI v2), none] [] m := by
  intro k
  induction k with
  | zero =>
    intro q0 v1 v2 m _ h
    exact h.elim
  | succ k ih =>
    intro q0 v1 v2 m hq0 h
    unfold hX12_keyAt_4 at h
    refine aj_iload_n C dX12_keyAt_4 rfl ?_
    refine aj_ldcS (q := [102]) C (fun E U h => h.2.2.2.1) dX12_keyAt_5 ?_
    refine aj_callW (rest := [vI v2]) C K mwX12_100 rfl (sJ0_length_8abf5 (⟨2, by decide, rfl⟩ : aj_S [102]) h) (⟨2, by decide, rfl⟩ : aj_S [102]) (aj_np 0 (by decide +kernel) rfl) (Nat.le_of_ble_eq_true rfl) rfl dX12_keyAt_7 (fun r m1 h => ?_)
    obtain ⟨z1, rfl, h⟩ := h
    obtain ⟨r0, r1, h1, h2⟩ := h
    refine aj_icmp_ge (tgt := 123) C dX12_keyAt_10 (by decide) r0 r1 (fun e => ?_) (fun e => ?_)
    · have h := h1 e
      refine aj_bipush C dX12_keyAt_123 (by decide) ?_
      exact aj_iret C K dX12_keyAt_125 ⟨_, rfl, h⟩
    · have h := h2 e
      refine aj_iconst C dX12_keyAt_13 ?_
      refine aj_istore_n (lv' := [some (vO 12 q0), some (vI v1), some (vI v2), some (vI 0)]) C dX12_keyAt_14 (by decide) rfl ?_
      exact tX12_keyAt_15 C K (fun q0 v1 v2 m hq0 hh => ih q0 v1 v2 m hq0 hh) f q0 v1 v2 0 _ hq0 h
def wX12_keyAt (f : Nat) (Φ : Int → aj_M → Prop) (q0 : List Nat) (m : aj_M) : Prop := hX12_keyAt_4 f Φ f q0 0 1 m
set_option maxHeartbeats 4000000 in
set_option maxRecDepth 100000 in
theorem sX12_keyAt {n f : Nat} {Φ : Int → aj_M → Prop} {q0 : List Nat} {m : aj_M} (hq0 : (.inl (12, q0) : aj_R) ∈ aj_pls) (h : wX12_keyAt f Φ q0 m) : aj_Ct (n + 4) yX12_keyAt cX12_keyAt 4 (some .int) [vO 12 q0] m (fun r m => ∃ z, r = some (vI z) ∧ Φ z m) := by
  refine aj_met (lv := [some (vO 12 q0), none, none, none]) (by decide +kernel) rfl (Nat.le_of_ble_eq_true rfl) (fun X C K => ?_)
  unfold wX12_keyAt at h
  refine aj_iconst C dX12_keyAt_0 ?_
  refine aj_istore_n (lv' := [some (vO 12 q0), some (vI 0), none, none]) C dX12_keyAt_1 (by decide) rfl ?_
  refine aj_iconst C dX12_keyAt_2 ?_
  refine aj_istore_n (lv' := [some (vO 12 q0), some (vI 0), some (vI 1), none]) C dX12_keyAt_3 (by decide) rfl ?_
  exact tX12_keyAt_4 C K f q0 0 1 _ hq0 h
theorem dX12_next_0 : decode cX12_next 0 = .ok (.aload_n 0, 1) := by decide +kernel
theorem dX12_next_1 : decode cX12_next 1 = .ok (.aload_n 0, 1) := by decide +kernel
theorem dX12_next_2 : decode cX12_next 2 = .ok (.getfield 113, 3) := by decide +kernel
theorem dX12_next_5 : decode cX12_next 5 = .ok (.putfield 110, 3) := by decide +kernel
theorem dX12_next_8 : decode cX12_next 8 = .ok (.aload_n 0, 1) := by decide +kernel
theorem dX12_next_9 : decode cX12_next 9 = .ok (.aload_n 0, 1) := by decide +kernel
theorem dX12_next_10 : decode cX12_next 10 = .ok (.getfield 110, 3) := by decide +kernel
theorem dX12_next_13 : decode cX12_next 13 = .ok (.invokevirtual 116, 3) := by decide +kernel
theorem dX12_next_16 : decode cX12_next 16 = .ok (.bipush 10, 2) := by decide +kernel
theorem dX12_next_18 : decode cX12_next 18 = .ok (.if_icmp .eq 16, 3) := by decide +kernel
theorem dX12_next_21 : decode cX12_next 21 = .ok (.aload_n 0, 1) := by decide +kernel
theorem dX12_next_22 : decode cX12_next 22 = .ok (.aload_n 0, 1) := by decide +kernel
theorem dX12_next_23 : decode cX12_next 23 = .ok (.getfield 110, 3) := by decide +kernel
theorem dX12_next_26 : decode cX12_next 26 = .ok (.invokevirtual 116, 3) := by decide +kernel
theorem dX12_next_29 : decode cX12_next 29 = .ok (.bipush 32, 2) := by decide +kernel
theorem dX12_next_31 : decode cX12_next 31 = .ok (.if_icmp .ne 16, 3) := by decide +kernel
theorem dX12_next_34 : decode cX12_next 34 = .ok (.aload_n 0, 1) := by decide +kernel
theorem dX12_next_35 : decode cX12_next 35 = .ok (.dup, 1) := by decide +kernel
theorem dX12_next_36 : decode cX12_next 36 = .ok (.getfield 110, 3) := by decide +kernel
theorem dX12_next_39 : decode cX12_next 39 = .ok (.iconst 1, 1) := by decide +kernel
theorem dX12_next_40 : decode cX12_next 40 = .ok (.iadd, 1) := by decide +kernel
theorem dX12_next_41 : decode cX12_next 41 = .ok (.putfield 110, 3) := by decide +kernel
theorem dX12_next_44 : decode cX12_next 44 = .ok (.goto (-36), 3) := by decide +kernel
theorem dX12_next_47 : decode cX12_next 47 = .ok (.aload_n 0, 1) := by decide +kernel
theorem dX12_next_48 : decode cX12_next 48 = .ok (.aload_n 0, 1) := by decide +kernel
theorem dX12_next_49 : decode cX12_next 49 = .ok (.getfield 110, 3) := by decide +kernel
theorem dX12_next_52 : decode cX12_next 52 = .ok (.putfield 113, 3) := by decide +kernel
theorem dX12_next_55 : decode cX12_next 55 = .ok (.aload_n 0, 1) := by decide +kernel
theorem dX12_next_56 : decode cX12_next 56 = .ok (.getfield 110, 3) := by decide +kernel
theorem dX12_next_59 : decode cX12_next 59 = .ok (.aload_n 0, 1) := by decide +kernel
theorem dX12_next_60 : decode cX12_next 60 = .ok (.getfield 95, 3) := by decide +kernel
theorem dX12_next_63 : decode cX12_next 63 = .ok (.if_icmp .lt 12, 3) := by decide +kernel
theorem dX12_next_66 : decode cX12_next 66 = .ok (.aload_n 0, 1) := by decide +kernel
theorem dX12_next_67 : decode cX12_next 67 = .ok (.bipush 24, 2) := by decide +kernel
theorem dX12_next_69 : decode cX12_next 69 = .ok (.putfield 120, 3) := by decide +kernel
theorem dX12_next_72 : decode cX12_next 72 = .ok (.goto 222, 3) := by decide +kernel
theorem dX12_next_75 : decode cX12_next 75 = .ok (.aload_n 0, 1) := by decide +kernel
theorem dX12_next_76 : decode cX12_next 76 = .ok (.aload_n 0, 1) := by decide +kernel
theorem dX12_next_77 : decode cX12_next 77 = .ok (.getfield 110, 3) := by decide +kernel
theorem dX12_next_80 : decode cX12_next 80 = .ok (.invokevirtual 116, 3) := by decide +kernel
theorem dX12_next_83 : decode cX12_next 83 = .ok (.invokestatic 123, 3) := by decide +kernel
theorem dX12_next_86 : decode cX12_next 86 = .ok (.ifCond .eq 41, 3) := by decide +kernel
theorem dX12_next_89 : decode cX12_next 89 = .ok (.aload_n 0, 1) := by decide +kernel
theorem dX12_next_90 : decode cX12_next 90 = .ok (.aload_n 0, 1) := by decide +kernel
theorem dX12_next_91 : decode cX12_next 91 = .ok (.getfield 113, 3) := by decide +kernel
theorem dX12_next_94 : decode cX12_next 94 = .ok (.invokevirtual 116, 3) := by decide +kernel
theorem dX12_next_97 : decode cX12_next 97 = .ok (.invokestatic 123, 3) := by decide +kernel
theorem dX12_next_100 : decode cX12_next 100 = .ok (.ifCond .eq 16, 3) := by decide +kernel
theorem dX12_next_103 : decode cX12_next 103 = .ok (.aload_n 0, 1) := by decide +kernel
theorem dX12_next_104 : decode cX12_next 104 = .ok (.dup, 1) := by decide +kernel
theorem dX12_next_105 : decode cX12_next 105 = .ok (.getfield 113, 3) := by decide +kernel
theorem dX12_next_108 : decode cX12_next 108 = .ok (.iconst 1, 1) := by decide +kernel
theorem dX12_next_109 : decode cX12_next 109 = .ok (.iadd, 1) := by decide +kernel
theorem dX12_next_110 : decode cX12_next 110 = .ok (.putfield 113, 3) := by decide +kernel
theorem dX12_next_113 : decode cX12_next 113 = .ok (.goto (-24), 3) := by decide +kernel
theorem dX12_next_116 : decode cX12_next 116 = .ok (.aload_n 0, 1) := by decide +kernel
theorem dX12_next_117 : decode cX12_next 117 = .ok (.aload_n 0, 1) := by decide +kernel
theorem dX12_next_118 : decode cX12_next 118 = .ok (.invokevirtual 127, 3) := by decide +kernel
theorem dX12_next_121 : decode cX12_next 121 = .ok (.putfield 120, 3) := by decide +kernel
theorem dX12_next_124 : decode cX12_next 124 = .ok (.goto 170, 3) := by decide +kernel
theorem dX12_next_127 : decode cX12_next 127 = .ok (.aload_n 0, 1) := by decide +kernel
theorem dX12_next_128 : decode cX12_next 128 = .ok (.aload_n 0, 1) := by decide +kernel
theorem dX12_next_129 : decode cX12_next 129 = .ok (.getfield 110, 3) := by decide +kernel
theorem dX12_next_132 : decode cX12_next 132 = .ok (.invokevirtual 116, 3) := by decide +kernel
theorem dX12_next_135 : decode cX12_next 135 = .ok (.invokestatic 130, 3) := by decide +kernel
theorem dX12_next_138 : decode cX12_next 138 = .ok (.ifCond .eq 98, 3) := by decide +kernel
theorem dX12_next_141 : decode cX12_next 141 = .ok (.aload_n 0, 1) := by decide +kernel
theorem dX12_next_142 : decode cX12_next 142 = .ok (.iconst 0, 1) := by decide +kernel
theorem dX12_next_143 : decode cX12_next 143 = .ok (.putfield 133, 3) := by decide +kernel
theorem dX12_next_146 : decode cX12_next 146 = .ok (.aload_n 0, 1) := by decide +kernel
theorem dX12_next_147 : decode cX12_next 147 = .ok (.aload_n 0, 1) := by decide +kernel
theorem dX12_next_148 : decode cX12_next 148 = .ok (.getfield 113, 3) := by decide +kernel
theorem dX12_next_151 : decode cX12_next 151 = .ok (.invokevirtual 116, 3) := by decide +kernel
theorem dX12_next_154 : decode cX12_next 154 = .ok (.invokestatic 130, 3) := by decide +kernel
theorem dX12_next_157 : decode cX12_next 157 = .ok (.ifCond .eq 52, 3) := by decide +kernel
theorem dX12_next_160 : decode cX12_next 160 = .ok (.aload_n 0, 1) := by decide +kernel
theorem dX12_next_161 : decode cX12_next 161 = .ok (.getfield 113, 3) := by decide +kernel
theorem dX12_next_164 : decode cX12_next 164 = .ok (.aload_n 0, 1) := by decide +kernel
theorem dX12_next_165 : decode cX12_next 165 = .ok (.getfield 110, 3) := by decide +kernel
theorem dX12_next_168 : decode cX12_next 168 = .ok (.isub, 1) := by decide +kernel
theorem dX12_next_169 : decode cX12_next 169 = .ok (.iconst 3, 1) := by decide +kernel
theorem dX12_next_170 : decode cX12_next 170 = .ok (.if_icmp .ge 26, 3) := by decide +kernel
theorem dX12_next_173 : decode cX12_next 173 = .ok (.aload_n 0, 1) := by decide +kernel
theorem dX12_next_174 : decode cX12_next 174 = .ok (.bipush 10, 2) := by decide +kernel
theorem dX12_next_176 : decode cX12_next 176 = .ok (.aload_n 0, 1) := by decide +kernel
theorem dX12_next_177 : decode cX12_next 177 = .ok (.getfield 133, 3) := by decide +kernel
theorem dX12_next_180 : decode cX12_next 180 = .ok (.imul, 1) := by decide +kernel
theorem dX12_next_181 : decode cX12_next 181 = .ok (.aload_n 0, 1) := by decide +kernel
theorem dX12_next_182 : decode cX12_next 182 = .ok (.aload_n 0, 1) := by decide +kernel
theorem dX12_next_183 : decode cX12_next 183 = .ok (.getfield 113, 3) := by decide +kernel
theorem dX12_next_186 : decode cX12_next 186 = .ok (.invokevirtual 116, 3) := by decide +kernel
theorem dX12_next_189 : decode cX12_next 189 = .ok (.iadd, 1) := by decide +kernel
theorem dX12_next_190 : decode cX12_next 190 = .ok (.bipush 48, 2) := by decide +kernel
theorem dX12_next_192 : decode cX12_next 192 = .ok (.isub, 1) := by decide +kernel
theorem dX12_next_193 : decode cX12_next 193 = .ok (.putfield 133, 3) := by decide +kernel
theorem dX12_next_196 : decode cX12_next 196 = .ok (.aload_n 0, 1) := by decide +kernel
theorem dX12_next_197 : decode cX12_next 197 = .ok (.dup, 1) := by decide +kernel
theorem dX12_next_198 : decode cX12_next 198 = .ok (.getfield 113, 3) := by decide +kernel
theorem dX12_next_201 : decode cX12_next 201 = .ok (.iconst 1, 1) := by decide +kernel
theorem dX12_next_202 : decode cX12_next 202 = .ok (.iadd, 1) := by decide +kernel
theorem dX12_next_203 : decode cX12_next 203 = .ok (.putfield 113, 3) := by decide +kernel
theorem dX12_next_206 : decode cX12_next 206 = .ok (.goto (-60), 3) := by decide +kernel
theorem dX12_next_209 : decode cX12_next 209 = .ok (.aload_n 0, 1) := by decide +kernel
theorem dX12_next_210 : decode cX12_next 210 = .ok (.aload_n 0, 1) := by decide +kernel
theorem dX12_next_211 : decode cX12_next 211 = .ok (.getfield 113, 3) := by decide +kernel
theorem dX12_next_214 : decode cX12_next 214 = .ok (.aload_n 0, 1) := by decide +kernel
theorem dX12_next_215 : decode cX12_next 215 = .ok (.getfield 110, 3) := by decide +kernel
theorem dX12_next_218 : decode cX12_next 218 = .ok (.isub, 1) := by decide +kernel
theorem dX12_next_219 : decode cX12_next 219 = .ok (.iconst 3, 1) := by decide +kernel
theorem dX12_next_220 : decode cX12_next 220 = .ok (.if_icmp .le 8, 3) := by decide +kernel
theorem dX12_next_223 : decode cX12_next 223 = .ok (.bipush 25, 2) := by decide +kernel
theorem dX12_next_225 : decode cX12_next 225 = .ok (.goto 5, 3) := by decide +kernel
theorem dX12_next_228 : decode cX12_next 228 = .ok (.bipush 23, 2) := by decide +kernel
theorem dX12_next_230 : decode cX12_next 230 = .ok (.putfield 120, 3) := by decide +kernel
theorem dX12_next_233 : decode cX12_next 233 = .ok (.goto 61, 3) := by decide +kernel
theorem dX12_next_236 : decode cX12_next 236 = .ok (.aload_n 0, 1) := by decide +kernel
theorem dX12_next_237 : decode cX12_next 237 = .ok (.dup, 1) := by decide +kernel
theorem dX12_next_238 : decode cX12_next 238 = .ok (.getfield 113, 3) := by decide +kernel
theorem dX12_next_241 : decode cX12_next 241 = .ok (.iconst 1, 1) := by decide +kernel
theorem dX12_next_242 : decode cX12_next 242 = .ok (.iadd, 1) := by decide +kernel
theorem dX12_next_243 : decode cX12_next 243 = .ok (.putfield 113, 3) := by decide +kernel
theorem dX12_next_246 : decode cX12_next 246 = .ok (.aload_n 0, 1) := by decide +kernel
theorem dX12_next_247 : decode cX12_next 247 = .ok (.bipush 25, 2) := by decide +kernel
theorem dX12_next_249 : decode cX12_next 249 = .ok (.putfield 120, 3) := by decide +kernel
theorem dX12_next_252 : decode cX12_next 252 = .ok (.iconst 0, 1) := by decide +kernel
theorem dX12_next_253 : decode cX12_next 253 = .ok (.istore_n 1, 1) := by decide +kernel
theorem dX12_next_254 : decode cX12_next 254 = .ok (.iload_n 1, 1) := by decide +kernel
theorem dX12_next_255 : decode cX12_next 255 = .ok (.ldc 136, 2) := by decide +kernel
theorem dX12_next_257 : decode cX12_next 257 = .ok (.invokevirtual 100, 3) := by decide +kernel
theorem dX12_next_260 : decode cX12_next 260 = .ok (.if_icmp .ge 34, 3) := by decide +kernel
theorem dX12_next_263 : decode cX12_next 263 = .ok (.aload_n 0, 1) := by decide +kernel
theorem dX12_next_264 : decode cX12_next 264 = .ok (.aload_n 0, 1) := by decide +kernel
theorem dX12_next_265 : decode cX12_next 265 = .ok (.getfield 110, 3) := by decide +kernel
theorem dX12_next_268 : decode cX12_next 268 = .ok (.invokevirtual 116, 3) := by decide +kernel
theorem dX12_next_271 : decode cX12_next 271 = .ok (.ldc 136, 2) := by decide +kernel
theorem dX12_next_273 : decode cX12_next 273 = .ok (.iload_n 1, 1) := by decide +kernel
theorem dX12_next_274 : decode cX12_next 274 = .ok (.invokevirtual 106, 3) := by decide +kernel
theorem dX12_next_277 : decode cX12_next 277 = .ok (.if_icmp .ne 11, 3) := by decide +kernel
theorem dX12_next_280 : decode cX12_next 280 = .ok (.aload_n 0, 1) := by decide +kernel
theorem dX12_next_281 : decode cX12_next 281 = .ok (.bipush 30, 2) := by decide +kernel
theorem dX12_next_283 : decode cX12_next 283 = .ok (.iload_n 1, 1) := by decide +kernel
theorem dX12_next_284 : decode cX12_next 284 = .ok (.iadd, 1) := by decide +kernel
theorem dX12_next_285 : decode cX12_next 285 = .ok (.putfield 120, 3) := by decide +kernel
theorem dX12_next_288 : decode cX12_next 288 = .ok (.iinc 1 1, 3) := by decide +kernel
theorem dX12_next_291 : decode cX12_next 291 = .ok (.goto (-37), 3) := by decide +kernel
theorem dX12_next_294 : decode cX12_next 294 = .ok (.return_, 1) := by decide +kernel
def hX12_next_254 (f : Nat) (Φ : aj_M → Prop) : Nat → List Nat → Int → aj_M → Prop
  | 0, _, _, _ => False
  | k + 1, q0, v1, m => wJ0_length_8abf5 f (fun z1 m1 => rI v1 ∧ rI z1 ∧ (z1 ≤ v1 → Φ m1) ∧ (¬ (z1 ≤ v1) → wX12_see f (fun z2 m2 => wJ0_charAt_5068e f (fun z3 m3 => rI z2 ∧ rI z3 ∧ (¬ z2 = z3 → hX12_next_254 f Φ k q0 (v1 + 1) m3) ∧ (z2 = z3 → ∀ m4, m4 = aj_u m3 q0 9 (30 + v1) → hX12_next_254 f Φ k q0 (v1 + 1) m4)) [101] v1 m2) q0 (m1 q0 6) m1)) [101] m
set_option maxHeartbeats 4000000 in
set_option maxRecDepth 100000 in
theorem tX12_next_254 {X : aj_T} {n f : Nat} {Φ : aj_M → Prop} (C : aj_Cx X cX12_next RX12 2 (n + 5)) (K : aj_Rt X none (fun r m => r = none ∧ Φ m)) : ∀ (k : Nat) (q0 : List Nat) (v1 : Int) (m : aj_M) (hq0 : (.inl (12, q0) : aj_R) ∈ aj_pls), hX12_next_254 f Φ k q0 v1 m → aj_J X 254 [some (vO 12 q0), some (vI v1)] [] m := by
  intro k
  induction k with
  | zero =>
    intro q0 v1 m _ h
    exact h.elim
  | succ k ih =>
    intro q0 v1 m hq0 h
    unfold hX12_next_254 at h
    refine aj_iload_n C dX12_next_254 rfl ?_
    refine aj_ldcS (q := [101]) C (fun E U h => h.2.2.2.2.1) dX12_next_255 ?_
    refine aj_callW (rest := [vI v1]) C K mwX12_100 rfl (sJ0_length_8abf5 (⟨1, by decide, rfl⟩ : aj_S [101]) h) (⟨1, by decide, rfl⟩ : aj_S [101]) (aj_np 0 (by decide +kernel) rfl) (Nat.le_of_ble_eq_true rfl) rfl dX12_next_257 (fun r m1 h => ?_)
    obtain ⟨z1, rfl, h⟩ := h
    obtain ⟨r0, r1, h1, h2⟩ := h
    refine aj_icmp_ge (tgt := 294) C dX12_next_260 (by decide) r0 r1 (fun e => ?_) (fun e => ?_)
    · have h := h1 e
      exact aj_vret C K dX12_next_294 ⟨rfl, h⟩
    · have h := h2 e
      refine aj_aload_n C dX12_next_263 rfl ?_
      refine aj_aload_n C dX12_next_264 rfl ?_
      refine aj_getI C flX12_110 hq0 (by decide) dX12_next_265 rfl ?_
      refine aj_callV (rest := []) C mvX12_116 (sX12_see hq0 h) hq0 (aj_np 1 (by decide +kernel) rfl) (Nat.le_of_ble_eq_true rfl) rfl dX12_next_268 (fun r m2 h => ?_)
      obtain ⟨z2, rfl, h⟩ := h
      refine aj_ldcS (q := [101]) C (fun E U h => h.2.2.2.2.1) dX12_next_271 ?_
      refine aj_iload_n C dX12_next_273 rfl ?_
      refine aj_callW (rest := [vI z2]) C K mwX12_106 rfl (sJ0_charAt_5068e (⟨1, by decide, rfl⟩ : aj_S [101]) h) (⟨1, by decide, rfl⟩ : aj_S [101]) (aj_np 1 (by decide +kernel) rfl) (Nat.le_of_ble_eq_true rfl) rfl dX12_next_274 (fun r m3 h => ?_)
      obtain ⟨z3, rfl, h⟩ := h
      obtain ⟨r0, r1, h1, h2⟩ := h
      refine aj_icmp_ne (tgt := 288) C dX12_next_277 (by decide) r0 r1 (fun e => ?_) (fun e => ?_)
      · have h := h1 e
        refine aj_iinc (lv' := [some (vO 12 q0), some (vI (v1 + 1))]) C dX12_next_288 rfl (by decide) rfl ?_
        refine aj_goto (tgt := 254) C dX12_next_291 (by decide) ?_
        exact ih q0 (v1 + 1) _ hq0 h
      · have h := h2 e
        refine aj_aload_n C dX12_next_280 rfl ?_
        refine aj_bipush C dX12_next_281 (by decide) ?_
        refine aj_iload_n C dX12_next_283 rfl ?_
        refine aj_iadd C dX12_next_284 ?_
        refine aj_putI C fpX12_120 hq0 rfl dX12_next_285 ?_
        refine aj_nm (fun m4 e1 => ?_)
        have h := h m4 e1
        refine aj_iinc (lv' := [some (vO 12 q0), some (vI (v1 + 1))]) C dX12_next_288 rfl (by decide) rfl ?_
        refine aj_goto (tgt := 254) C dX12_next_291 (by decide) ?_
        exact ih q0 (v1 + 1) _ hq0 h
def hX12_next_146 (f : Nat) (Φ : aj_M → Prop) : Nat → List Nat → aj_M → Prop
  | 0, _, _ => False
  | k + 1, q0, m => wX12_see f (fun z1 m1 => wX12_isDigit f (fun z2 m2 => rI z2 ∧ (z2 = 0 → rI ((m2 q0 7) - (m2 q0 6)) ∧ (((m2 q0 7) - (m2 q0 6)) ≤ 3 → ∀ m3, m3 = aj_u m2 q0 9 23 → Φ m3) ∧ (¬ (((m2 q0 7) - (m2 q0 6)) ≤ 3) → ∀ m4, m4 = aj_u m2 q0 9 25 → Φ m4)) ∧ (¬ (z2 = 0) → rI ((m2 q0 7) - (m2 q0 6)) ∧ (3 ≤ ((m2 q0 7) - (m2 q0 6)) → ∀ m5, m5 = aj_u m2 q0 7 ((m2 q0 7) + 1) → hX12_next_146 f Φ k q0 m5) ∧ (¬ (3 ≤ ((m2 q0 7) - (m2 q0 6))) → wX12_see f (fun z3 m6 => ∀ m7, m7 = aj_u m6 q0 10 (((10 * (m2 q0 10)) + z3) - 48) → ∀ m8, m8 = aj_u m7 q0 7 ((m7 q0 7) + 1) → hX12_next_146 f Φ k q0 m8) q0 (m2 q0 7) m2))) z1 m1) q0 (m q0 7) m
set_option maxHeartbeats 4000000 in
set_option maxRecDepth 100000 in
theorem tX12_next_146 {X : aj_T} {n f : Nat} {Φ : aj_M → Prop} (C : aj_Cx X cX12_next RX12 2 (n + 5)) (K : aj_Rt X none (fun r m => r = none ∧ Φ m)) : ∀ (k : Nat) (q0 : List Nat) (m : aj_M) (hq0 : (.inl (12, q0) : aj_R) ∈ aj_pls), hX12_next_146 f Φ k q0 m → aj_J X 146 [some (vO 12 q0), none] [] m := by
  intro k
  induction k with
  | zero =>
    intro q0 m _ h
    exact h.elim
  | succ k ih =>
    intro q0 m hq0 h
    unfold hX12_next_146 at h
    refine aj_aload_n C dX12_next_146 rfl ?_
    refine aj_aload_n C dX12_next_147 rfl ?_
    refine aj_getI C flX12_113 hq0 (by decide) dX12_next_148 rfl ?_
    refine aj_callV (rest := []) C mvX12_116 (sX12_see hq0 h) hq0 (aj_np 1 (by decide +kernel) rfl) (Nat.le_of_ble_eq_true rfl) rfl dX12_next_151 (fun r m1 h => ?_)
    obtain ⟨z1, rfl, h⟩ := h
    refine aj_callS (rest := []) C msX12_130 (sX12_isDigit  h) (aj_np 1 (by decide +kernel) rfl) (Nat.le_of_ble_eq_true rfl) rfl dX12_next_154 (fun r m2 h => ?_)
    obtain ⟨z2, rfl, h⟩ := h
    obtain ⟨r0, h1, h2⟩ := h
    refine aj_if_eq (tgt := 209) C dX12_next_157 (by decide) r0 (fun e => ?_) (fun e => ?_)
    · have h := h1 e
      refine aj_aload_n C dX12_next_209 rfl ?_
      refine aj_aload_n C dX12_next_210 rfl ?_
      refine aj_getI C flX12_113 hq0 (by decide) dX12_next_211 rfl ?_
      refine aj_aload_n C dX12_next_214 rfl ?_
      refine aj_getI C flX12_110 hq0 (by decide) dX12_next_215 rfl ?_
      refine aj_isub C dX12_next_218 ?_
      refine aj_iconst C dX12_next_219 ?_
      obtain ⟨r0, h1, h2⟩ := h
      refine aj_icmp_le (tgt := 228) C dX12_next_220 (by decide) r0 (by decide) (fun e => ?_) (fun e => ?_)
      · have h := h1 e
        refine aj_bipush C dX12_next_228 (by decide) ?_
        refine aj_putI C fpX12_120 hq0 rfl dX12_next_230 ?_
        refine aj_nm (fun m3 e1 => ?_)
        have h := h m3 e1
        refine aj_goto (tgt := 294) C dX12_next_233 (by decide) ?_
        exact aj_vret C K dX12_next_294 ⟨rfl, h⟩
      · have h := h2 e
        refine aj_bipush C dX12_next_223 (by decide) ?_
        refine aj_goto (tgt := 230) C dX12_next_225 (by decide) ?_
        refine aj_putI C fpX12_120 hq0 rfl dX12_next_230 ?_
        refine aj_nm (fun m4 e1 => ?_)
        have h := h m4 e1
        refine aj_goto (tgt := 294) C dX12_next_233 (by decide) ?_
        exact aj_vret C K dX12_next_294 ⟨rfl, h⟩
    · have h := h2 e
      refine aj_aload_n C dX12_next_160 rfl ?_
      refine aj_getI C flX12_113 hq0 (by decide) dX12_next_161 rfl ?_
      refine aj_aload_n C dX12_next_164 rfl ?_
      refine aj_getI C flX12_110 hq0 (by decide) dX12_next_165 rfl ?_
      refine aj_isub C dX12_next_168 ?_
      refine aj_iconst C dX12_next_169 ?_
      obtain ⟨r0, h1, h2⟩ := h
      refine aj_icmp_ge (tgt := 196) C dX12_next_170 (by decide) r0 (by decide) (fun e => ?_) (fun e => ?_)
      · have h := h1 e
        refine aj_aload_n C dX12_next_196 rfl ?_
        refine aj_dup C aj_nR dX12_next_197 ?_
        refine aj_getI C flX12_113 hq0 (by decide) dX12_next_198 rfl ?_
        refine aj_iconst C dX12_next_201 ?_
        refine aj_iadd C dX12_next_202 ?_
        refine aj_putI C fpX12_113 hq0 rfl dX12_next_203 ?_
        refine aj_nm (fun m5 e1 => ?_)
        have h := h m5 e1
        refine aj_goto (tgt := 146) C dX12_next_206 (by decide) ?_
        exact ih q0 _ hq0 h
      · have h := h2 e
        refine aj_aload_n C dX12_next_173 rfl ?_
        refine aj_bipush C dX12_next_174 (by decide) ?_
        refine aj_aload_n C dX12_next_176 rfl ?_
        refine aj_getI C flX12_133 hq0 (by decide) dX12_next_177 rfl ?_
        refine aj_imul C dX12_next_180 ?_
        refine aj_aload_n C dX12_next_181 rfl ?_
        refine aj_aload_n C dX12_next_182 rfl ?_
        refine aj_getI C flX12_113 hq0 (by decide) dX12_next_183 rfl ?_
        refine aj_callV (rest := [vI (10 * (m2 q0 10)), vO 12 q0]) C mvX12_116 (sX12_see hq0 h) hq0 (aj_np 1 (by decide +kernel) rfl) (Nat.le_of_ble_eq_true rfl) rfl dX12_next_186 (fun r m6 h => ?_)
        obtain ⟨z3, rfl, h⟩ := h
        refine aj_iadd C dX12_next_189 ?_
        refine aj_bipush C dX12_next_190 (by decide) ?_
        refine aj_isub C dX12_next_192 ?_
        refine aj_putI C fpX12_133 hq0 rfl dX12_next_193 ?_
        refine aj_nm (fun m7 e1 => ?_)
        have h := h m7 e1
        refine aj_aload_n C dX12_next_196 rfl ?_
        refine aj_dup C aj_nR dX12_next_197 ?_
        refine aj_getI C flX12_113 hq0 (by decide) dX12_next_198 rfl ?_
        refine aj_iconst C dX12_next_201 ?_
        refine aj_iadd C dX12_next_202 ?_
        refine aj_putI C fpX12_113 hq0 rfl dX12_next_203 ?_
        refine aj_nm (fun m8 e1 => ?_)
        have h := h m8 e1
        refine aj_goto (tgt := 146) C dX12_next_206 (by decide) ?_
        exact ih q0 _ hq0 h
def hX12_next_89 (f : Nat) (Φ : aj_M → Prop) : Nat → List Nat → aj_M → Prop
  | 0, _, _ => False
  | k + 1, q0, m => wX12_see f (fun z1 m1 => wX12_isSmall f (fun z2 m2 => rI z2 ∧ (z2 = 0 → wX12_keyAt f (fun z3 m3 => ∀ m4, m4 = aj_u m3 q0 9 z3 → Φ m4) q0 m2) ∧ (¬ (z2 = 0) → ∀ m5, m5 = aj_u m2 q0 7 ((m2 q0 7) + 1) → hX12_next_89 f Φ k q0 m5)) z1 m1) q0 (m q0 7) m
set_option maxHeartbeats 4000000 in
set_option maxRecDepth 100000 in
theorem tX12_next_89 {X : aj_T} {n f : Nat} {Φ : aj_M → Prop} (C : aj_Cx X cX12_next RX12 2 (n + 5)) (K : aj_Rt X none (fun r m => r = none ∧ Φ m)) : ∀ (k : Nat) (q0 : List Nat) (m : aj_M) (hq0 : (.inl (12, q0) : aj_R) ∈ aj_pls), hX12_next_89 f Φ k q0 m → aj_J X 89 [some (vO 12 q0), none] [] m := by
  intro k
  induction k with
  | zero =>
    intro q0 m _ h
    exact h.elim
  | succ k ih =>
    intro q0 m hq0 h
    unfold hX12_next_89 at h
    refine aj_aload_n C dX12_next_89 rfl ?_
    refine aj_aload_n C dX12_next_90 rfl ?_
    refine aj_getI C flX12_113 hq0 (by decide) dX12_next_91 rfl ?_
    refine aj_callV (rest := []) C mvX12_116 (sX12_see hq0 h) hq0 (aj_np 1 (by decide +kernel) rfl) (Nat.le_of_ble_eq_true rfl) rfl dX12_next_94 (fun r m1 h => ?_)
    obtain ⟨z1, rfl, h⟩ := h
    refine aj_callS (rest := []) C msX12_123 (sX12_isSmall  h) (aj_np 1 (by decide +kernel) rfl) (Nat.le_of_ble_eq_true rfl) rfl dX12_next_97 (fun r m2 h => ?_)
    obtain ⟨z2, rfl, h⟩ := h
    obtain ⟨r0, h1, h2⟩ := h
    refine aj_if_eq (tgt := 116) C dX12_next_100 (by decide) r0 (fun e => ?_) (fun e => ?_)
    · have h := h1 e
      refine aj_aload_n C dX12_next_116 rfl ?_
      refine aj_aload_n C dX12_next_117 rfl ?_
      refine aj_callV (rest := [vO 12 q0]) C mvX12_127 (sX12_keyAt hq0 h) hq0 (aj_np 0 (by decide +kernel) rfl) (Nat.le_of_ble_eq_true rfl) rfl dX12_next_118 (fun r m3 h => ?_)
      obtain ⟨z3, rfl, h⟩ := h
      refine aj_putI C fpX12_120 hq0 rfl dX12_next_121 ?_
      refine aj_nm (fun m4 e1 => ?_)
      have h := h m4 e1
      refine aj_goto (tgt := 294) C dX12_next_124 (by decide) ?_
      exact aj_vret C K dX12_next_294 ⟨rfl, h⟩
    · have h := h2 e
      refine aj_aload_n C dX12_next_103 rfl ?_
      refine aj_dup C aj_nR dX12_next_104 ?_
      refine aj_getI C flX12_113 hq0 (by decide) dX12_next_105 rfl ?_
      refine aj_iconst C dX12_next_108 ?_
      refine aj_iadd C dX12_next_109 ?_
      refine aj_putI C fpX12_113 hq0 rfl dX12_next_110 ?_
      refine aj_nm (fun m5 e1 => ?_)
      have h := h m5 e1
      refine aj_goto (tgt := 89) C dX12_next_113 (by decide) ?_
      exact ih q0 _ hq0 h
def hX12_next_8 (f : Nat) (Φ : aj_M → Prop) : Nat → List Nat → aj_M → Prop
  | 0, _, _ => False
  | k + 1, q0, m => wX12_see f (fun z1 m1 => rI z1 ∧ (z1 = 10 → ∀ m2, m2 = aj_u m1 q0 6 ((m1 q0 6) + 1) → hX12_next_8 f Φ k q0 m2) ∧ (¬ (z1 = 10) → wX12_see f (fun z2 m3 => rI z2 ∧ (¬ z2 = 32 → ∀ m4, m4 = aj_u m3 q0 7 (m3 q0 6) → rI (m4 q0 6) ∧ rI (m4 q0 8) ∧ ((m4 q0 6) < (m4 q0 8) → wX12_see f (fun z3 m5 => wX12_isSmall f (fun z4 m6 => rI z4 ∧ (z4 = 0 → wX12_see f (fun z5 m7 => wX12_isDigit f (fun z6 m8 => rI z6 ∧ (z6 = 0 → ∀ m9, m9 = aj_u m8 q0 7 ((m8 q0 7) + 1) → ∀ m10, m10 = aj_u m9 q0 9 25 → hX12_next_254 f Φ f q0 0 m10) ∧ (¬ (z6 = 0) → ∀ m11, m11 = aj_u m8 q0 10 0 → hX12_next_146 f Φ f q0 m11)) z5 m7) q0 (m6 q0 6) m6) ∧ (¬ (z4 = 0) → hX12_next_89 f Φ f q0 m6)) z3 m5) q0 (m4 q0 6) m4) ∧ (¬ ((m4 q0 6) < (m4 q0 8)) → ∀ m12, m12 = aj_u m4 q0 9 24 → Φ m12)) ∧ (z2 = 32 → ∀ m13, m13 = aj_u m3 q0 6 ((m3 q0 6) + 1) → hX12_next_8 f Φ k q0 m13)) q0 (m1 q0 6) m1)) q0 (m q0 6) m
set_option maxHeartbeats 4000000 in
set_option maxRecDepth 100000 in
theorem tX12_next_8 {X : aj_T} {n f : Nat} {Φ : aj_M → Prop} (C : aj_Cx X cX12_next RX12 2 (n + 5)) (K : aj_Rt X none (fun r m => r = none ∧ Φ m)) : ∀ (k : Nat) (q0 : List Nat) (m : aj_M) (hq0 : (.inl (12, q0) : aj_R) ∈ aj_pls), hX12_next_8 f Φ k q0 m → aj_J X 8 [some (vO 12 q0), none] [] m := by
  intro k
  induction k with
  | zero =>
    intro q0 m _ h
    exact h.elim
  | succ k ih =>
    intro q0 m hq0 h
    unfold hX12_next_8 at h
    refine aj_aload_n C dX12_next_8 rfl ?_
    refine aj_aload_n C dX12_next_9 rfl ?_
    refine aj_getI C flX12_110 hq0 (by decide) dX12_next_10 rfl ?_
    refine aj_callV (rest := []) C mvX12_116 (sX12_see hq0 h) hq0 (aj_np 1 (by decide +kernel) rfl) (Nat.le_of_ble_eq_true rfl) rfl dX12_next_13 (fun r m1 h => ?_)
    obtain ⟨z1, rfl, h⟩ := h
    refine aj_bipush C dX12_next_16 (by decide) ?_
    obtain ⟨r0, h1, h2⟩ := h
    refine aj_icmp_eq (tgt := 34) C dX12_next_18 (by decide) r0 (by decide) (fun e => ?_) (fun e => ?_)
    · have h := h1 e
      refine aj_aload_n C dX12_next_34 rfl ?_
      refine aj_dup C aj_nR dX12_next_35 ?_
      refine aj_getI C flX12_110 hq0 (by decide) dX12_next_36 rfl ?_
      refine aj_iconst C dX12_next_39 ?_
      refine aj_iadd C dX12_next_40 ?_
      refine aj_putI C fpX12_110 hq0 rfl dX12_next_41 ?_
      refine aj_nm (fun m2 e1 => ?_)
      have h := h m2 e1
      refine aj_goto (tgt := 8) C dX12_next_44 (by decide) ?_
      exact ih q0 _ hq0 h
    · have h := h2 e
      refine aj_aload_n C dX12_next_21 rfl ?_
      refine aj_aload_n C dX12_next_22 rfl ?_
      refine aj_getI C flX12_110 hq0 (by decide) dX12_next_23 rfl ?_
      refine aj_callV (rest := []) C mvX12_116 (sX12_see hq0 h) hq0 (aj_np 1 (by decide +kernel) rfl) (Nat.le_of_ble_eq_true rfl) rfl dX12_next_26 (fun r m3 h => ?_)
      obtain ⟨z2, rfl, h⟩ := h
      refine aj_bipush C dX12_next_29 (by decide) ?_
      obtain ⟨r0, h1, h2⟩ := h
      refine aj_icmp_ne (tgt := 47) C dX12_next_31 (by decide) r0 (by decide) (fun e => ?_) (fun e => ?_)
      · have h := h1 e
        refine aj_aload_n C dX12_next_47 rfl ?_
        refine aj_aload_n C dX12_next_48 rfl ?_
        refine aj_getI C flX12_110 hq0 (by decide) dX12_next_49 rfl ?_
        refine aj_putI C fpX12_113 hq0 rfl dX12_next_52 ?_
        refine aj_nm (fun m4 e1 => ?_)
        have h := h m4 e1
        refine aj_aload_n C dX12_next_55 rfl ?_
        refine aj_getI C flX12_110 hq0 (by decide) dX12_next_56 rfl ?_
        refine aj_aload_n C dX12_next_59 rfl ?_
        refine aj_getI C flX12_95 hq0 (by decide) dX12_next_60 rfl ?_
        obtain ⟨r0, r1, h1, h2⟩ := h
        refine aj_icmp_lt (tgt := 75) C dX12_next_63 (by decide) r0 r1 (fun e => ?_) (fun e => ?_)
        · have h := h1 e
          refine aj_aload_n C dX12_next_75 rfl ?_
          refine aj_aload_n C dX12_next_76 rfl ?_
          refine aj_getI C flX12_110 hq0 (by decide) dX12_next_77 rfl ?_
          refine aj_callV (rest := []) C mvX12_116 (sX12_see hq0 h) hq0 (aj_np 1 (by decide +kernel) rfl) (Nat.le_of_ble_eq_true rfl) rfl dX12_next_80 (fun r m5 h => ?_)
          obtain ⟨z3, rfl, h⟩ := h
          refine aj_callS (rest := []) C msX12_123 (sX12_isSmall  h) (aj_np 1 (by decide +kernel) rfl) (Nat.le_of_ble_eq_true rfl) rfl dX12_next_83 (fun r m6 h => ?_)
          obtain ⟨z4, rfl, h⟩ := h
          obtain ⟨r0, h1, h2⟩ := h
          refine aj_if_eq (tgt := 127) C dX12_next_86 (by decide) r0 (fun e => ?_) (fun e => ?_)
          · have h := h1 e
            refine aj_aload_n C dX12_next_127 rfl ?_
            refine aj_aload_n C dX12_next_128 rfl ?_
            refine aj_getI C flX12_110 hq0 (by decide) dX12_next_129 rfl ?_
            refine aj_callV (rest := []) C mvX12_116 (sX12_see hq0 h) hq0 (aj_np 1 (by decide +kernel) rfl) (Nat.le_of_ble_eq_true rfl) rfl dX12_next_132 (fun r m7 h => ?_)
            obtain ⟨z5, rfl, h⟩ := h
            refine aj_callS (rest := []) C msX12_130 (sX12_isDigit  h) (aj_np 1 (by decide +kernel) rfl) (Nat.le_of_ble_eq_true rfl) rfl dX12_next_135 (fun r m8 h => ?_)
            obtain ⟨z6, rfl, h⟩ := h
            obtain ⟨r0, h1, h2⟩ := h
            refine aj_if_eq (tgt := 236) C dX12_next_138 (by decide) r0 (fun e => ?_) (fun e => ?_)
            · have h := h1 e
              refine aj_aload_n C dX12_next_236 rfl ?_
              refine aj_dup C aj_nR dX12_next_237 ?_
              refine aj_getI C flX12_113 hq0 (by decide) dX12_next_238 rfl ?_
              refine aj_iconst C dX12_next_241 ?_
              refine aj_iadd C dX12_next_242 ?_
              refine aj_putI C fpX12_113 hq0 rfl dX12_next_243 ?_
              refine aj_nm (fun m9 e1 => ?_)
              have h := h m9 e1
              refine aj_aload_n C dX12_next_246 rfl ?_
              refine aj_bipush C dX12_next_247 (by decide) ?_
              refine aj_putI C fpX12_120 hq0 rfl dX12_next_249 ?_
              refine aj_nm (fun m10 e1 => ?_)
              have h := h m10 e1
              refine aj_iconst C dX12_next_252 ?_
              refine aj_istore_n (lv' := [some (vO 12 q0), some (vI 0)]) C dX12_next_253 (by decide) rfl ?_
              exact tX12_next_254 C K f q0 0 _ hq0 h
            · have h := h2 e
              refine aj_aload_n C dX12_next_141 rfl ?_
              refine aj_iconst C dX12_next_142 ?_
              refine aj_putI C fpX12_133 hq0 rfl dX12_next_143 ?_
              refine aj_nm (fun m11 e1 => ?_)
              have h := h m11 e1
              exact tX12_next_146 C K f q0 _ hq0 h
          · have h := h2 e
            exact tX12_next_89 C K f q0 _ hq0 h
        · have h := h2 e
          refine aj_aload_n C dX12_next_66 rfl ?_
          refine aj_bipush C dX12_next_67 (by decide) ?_
          refine aj_putI C fpX12_120 hq0 rfl dX12_next_69 ?_
          refine aj_nm (fun m12 e1 => ?_)
          have h := h m12 e1
          refine aj_goto (tgt := 294) C dX12_next_72 (by decide) ?_
          exact aj_vret C K dX12_next_294 ⟨rfl, h⟩
      · have h := h2 e
        refine aj_aload_n C dX12_next_34 rfl ?_
        refine aj_dup C aj_nR dX12_next_35 ?_
        refine aj_getI C flX12_110 hq0 (by decide) dX12_next_36 rfl ?_
        refine aj_iconst C dX12_next_39 ?_
        refine aj_iadd C dX12_next_40 ?_
        refine aj_putI C fpX12_110 hq0 rfl dX12_next_41 ?_
        refine aj_nm (fun m13 e1 => ?_)
        have h := h m13 e1
        refine aj_goto (tgt := 8) C dX12_next_44 (by decide) ?_
        exact ih q0 _ hq0 h
def wX12_next (f : Nat) (Φ : aj_M → Prop) (q0 : List Nat) (m : aj_M) : Prop := ∀ m1, m1 = aj_u m q0 6 (m q0 7) → hX12_next_8 f Φ f q0 m1
set_option maxHeartbeats 4000000 in
set_option maxRecDepth 100000 in
theorem sX12_next {n f : Nat} {Φ : aj_M → Prop} {q0 : List Nat} {m : aj_M} (hq0 : (.inl (12, q0) : aj_R) ∈ aj_pls) (h : wX12_next f Φ q0 m) : aj_Ct (n + 5) yX12_next cX12_next 2 none [vO 12 q0] m (fun r m => r = none ∧ Φ m) := by
  refine aj_met (lv := [some (vO 12 q0), none]) (by decide +kernel) rfl (Nat.le_of_ble_eq_true rfl) (fun X C K => ?_)
  unfold wX12_next at h
  refine aj_aload_n C dX12_next_0 rfl ?_
  refine aj_aload_n C dX12_next_1 rfl ?_
  refine aj_getI C flX12_113 hq0 (by decide) dX12_next_2 rfl ?_
  refine aj_putI C fpX12_110 hq0 rfl dX12_next_5 ?_
  refine aj_nm (fun m1 e1 => ?_)
  have h := h m1 e1
  exact tX12_next_8 C K f q0 _ hq0 h
theorem dX12_fails_0 : decode cX12_fails 0 = .ok (.aload_n 0, 1) := by decide +kernel
theorem dX12_fails_1 : decode cX12_fails 1 = .ok (.getfield 138, 3) := by decide +kernel
theorem dX12_fails_4 : decode cX12_fails 4 = .ok (.ifCond .eq 4, 3) := by decide +kernel
theorem dX12_fails_7 : decode cX12_fails 7 = .ok (.return_, 1) := by decide +kernel
theorem dX12_fails_8 : decode cX12_fails 8 = .ok (.aload_n 0, 1) := by decide +kernel
theorem dX12_fails_9 : decode cX12_fails 9 = .ok (.aload_n 0, 1) := by decide +kernel
theorem dX12_fails_10 : decode cX12_fails 10 = .ok (.getfield 120, 3) := by decide +kernel
theorem dX12_fails_13 : decode cX12_fails 13 = .ok (.bipush 25, 2) := by decide +kernel
theorem dX12_fails_15 : decode cX12_fails 15 = .ok (.if_icmp .ne 7, 3) := by decide +kernel
theorem dX12_fails_18 : decode cX12_fails 18 = .ok (.iconst 1, 1) := by decide +kernel
theorem dX12_fails_19 : decode cX12_fails 19 = .ok (.goto 4, 3) := by decide +kernel
theorem dX12_fails_22 : decode cX12_fails 22 = .ok (.iload_n 1, 1) := by decide +kernel
theorem dX12_fails_23 : decode cX12_fails 23 = .ok (.putfield 138, 3) := by decide +kernel
theorem dX12_fails_26 : decode cX12_fails 26 = .ok (.aload_n 0, 1) := by decide +kernel
theorem dX12_fails_27 : decode cX12_fails 27 = .ok (.aload_n 0, 1) := by decide +kernel
theorem dX12_fails_28 : decode cX12_fails 28 = .ok (.getfield 110, 3) := by decide +kernel
theorem dX12_fails_31 : decode cX12_fails 31 = .ok (.putfield 141, 3) := by decide +kernel
theorem dX12_fails_34 : decode cX12_fails 34 = .ok (.return_, 1) := by decide +kernel
def wX12_fails (f : Nat) (Φ : aj_M → Prop) (q0 : List Nat) (v1 : Int) (m : aj_M) : Prop := rI (m q0 11) ∧ ((m q0 11) = 0 → rI (m q0 9) ∧ (¬ (m q0 9) = 25 → ∀ m1, m1 = aj_u m q0 11 v1 → ∀ m2, m2 = aj_u m1 q0 12 (m1 q0 6) → Φ m2) ∧ ((m q0 9) = 25 → ∀ m3, m3 = aj_u m q0 11 1 → ∀ m4, m4 = aj_u m3 q0 12 (m3 q0 6) → Φ m4)) ∧ (¬ ((m q0 11) = 0) → Φ m)
set_option maxHeartbeats 4000000 in
set_option maxRecDepth 100000 in
theorem sX12_fails {n f : Nat} {Φ : aj_M → Prop} {q0 : List Nat} {v1 : Int} {m : aj_M} (hq0 : (.inl (12, q0) : aj_R) ∈ aj_pls) (h : wX12_fails f Φ q0 v1 m) : aj_Ct n yX12_fails cX12_fails 2 none [vO 12 q0, vI v1] m (fun r m => r = none ∧ Φ m) := by
  refine aj_met (lv := [some (vO 12 q0), some (vI v1)]) (by decide +kernel) rfl (Nat.le_of_ble_eq_true rfl) (fun X C K => ?_)
  unfold wX12_fails at h
  refine aj_aload_n C dX12_fails_0 rfl ?_
  refine aj_getI C flX12_138 hq0 (by decide) dX12_fails_1 rfl ?_
  obtain ⟨r0, h1, h2⟩ := h
  refine aj_if_eq (tgt := 8) C dX12_fails_4 (by decide) r0 (fun e => ?_) (fun e => ?_)
  · have h := h1 e
    refine aj_aload_n C dX12_fails_8 rfl ?_
    refine aj_aload_n C dX12_fails_9 rfl ?_
    refine aj_getI C flX12_120 hq0 (by decide) dX12_fails_10 rfl ?_
    refine aj_bipush C dX12_fails_13 (by decide) ?_
    obtain ⟨r0, h1, h2⟩ := h
    refine aj_icmp_ne (tgt := 22) C dX12_fails_15 (by decide) r0 (by decide) (fun e => ?_) (fun e => ?_)
    · have h := h1 e
      refine aj_iload_n C dX12_fails_22 rfl ?_
      refine aj_putI C fpX12_138 hq0 rfl dX12_fails_23 ?_
      refine aj_nm (fun m1 e1 => ?_)
      have h := h m1 e1
      refine aj_aload_n C dX12_fails_26 rfl ?_
      refine aj_aload_n C dX12_fails_27 rfl ?_
      refine aj_getI C flX12_110 hq0 (by decide) dX12_fails_28 rfl ?_
      refine aj_putI C fpX12_141 hq0 rfl dX12_fails_31 ?_
      refine aj_nm (fun m2 e1 => ?_)
      have h := h m2 e1
      exact aj_vret C K dX12_fails_34 ⟨rfl, h⟩
    · have h := h2 e
      refine aj_iconst C dX12_fails_18 ?_
      refine aj_goto (tgt := 23) C dX12_fails_19 (by decide) ?_
      refine aj_putI C fpX12_138 hq0 rfl dX12_fails_23 ?_
      refine aj_nm (fun m3 e1 => ?_)
      have h := h m3 e1
      refine aj_aload_n C dX12_fails_26 rfl ?_
      refine aj_aload_n C dX12_fails_27 rfl ?_
      refine aj_getI C flX12_110 hq0 (by decide) dX12_fails_28 rfl ?_
      refine aj_putI C fpX12_141 hq0 rfl dX12_fails_31 ?_
      refine aj_nm (fun m4 e1 => ?_)
      have h := h m4 e1
      exact aj_vret C K dX12_fails_34 ⟨rfl, h⟩
  · have h := h2 e
    exact aj_vret C K dX12_fails_7 ⟨rfl, h⟩
theorem dX12_is_0 : decode cX12_is 0 = .ok (.aload_n 0, 1) := by decide +kernel
theorem dX12_is_1 : decode cX12_is 1 = .ok (.getfield 138, 3) := by decide +kernel
theorem dX12_is_4 : decode cX12_is 4 = .ok (.ifCond .ne 15, 3) := by decide +kernel
theorem dX12_is_7 : decode cX12_is 7 = .ok (.aload_n 0, 1) := by decide +kernel
theorem dX12_is_8 : decode cX12_is 8 = .ok (.getfield 120, 3) := by decide +kernel
theorem dX12_is_11 : decode cX12_is 11 = .ok (.iload_n 1, 1) := by decide +kernel
theorem dX12_is_12 : decode cX12_is 12 = .ok (.if_icmp .ne 7, 3) := by decide +kernel
theorem dX12_is_15 : decode cX12_is 15 = .ok (.iconst 1, 1) := by decide +kernel
theorem dX12_is_16 : decode cX12_is 16 = .ok (.goto 4, 3) := by decide +kernel
theorem dX12_is_19 : decode cX12_is 19 = .ok (.iconst 0, 1) := by decide +kernel
theorem dX12_is_20 : decode cX12_is 20 = .ok (.ireturn, 1) := by decide +kernel
def wX12_is (f : Nat) (Φ : Int → aj_M → Prop) (q0 : List Nat) (v1 : Int) (m : aj_M) : Prop := rI (m q0 11) ∧ (¬ (m q0 11) = 0 → Φ 0 m) ∧ ((m q0 11) = 0 → rI (m q0 9) ∧ rI v1 ∧ (¬ (m q0 9) = v1 → Φ 0 m) ∧ ((m q0 9) = v1 → Φ 1 m))
set_option maxHeartbeats 4000000 in
set_option maxRecDepth 100000 in
theorem sX12_is {n f : Nat} {Φ : Int → aj_M → Prop} {q0 : List Nat} {v1 : Int} {m : aj_M} (hq0 : (.inl (12, q0) : aj_R) ∈ aj_pls) (h : wX12_is f Φ q0 v1 m) : aj_Ct n yX12_is cX12_is 2 (some .boolean) [vO 12 q0, vI v1] m (fun r m => ∃ z, r = some (vI z) ∧ Φ z m) := by
  refine aj_met (lv := [some (vO 12 q0), some (vI v1)]) (by decide +kernel) rfl (Nat.le_of_ble_eq_true rfl) (fun X C K => ?_)
  unfold wX12_is at h
  refine aj_aload_n C dX12_is_0 rfl ?_
  refine aj_getI C flX12_138 hq0 (by decide) dX12_is_1 rfl ?_
  obtain ⟨r0, h1, h2⟩ := h
  refine aj_if_ne (tgt := 19) C dX12_is_4 (by decide) r0 (fun e => ?_) (fun e => ?_)
  · have h := h1 e
    refine aj_iconst C dX12_is_19 ?_
    exact aj_zret C K (Or.inl rfl) dX12_is_20 ⟨_, rfl, h⟩
  · have h := h2 e
    refine aj_aload_n C dX12_is_7 rfl ?_
    refine aj_getI C flX12_120 hq0 (by decide) dX12_is_8 rfl ?_
    refine aj_iload_n C dX12_is_11 rfl ?_
    obtain ⟨r0, r1, h1, h2⟩ := h
    refine aj_icmp_ne (tgt := 19) C dX12_is_12 (by decide) r0 r1 (fun e => ?_) (fun e => ?_)
    · have h := h1 e
      refine aj_iconst C dX12_is_19 ?_
      exact aj_zret C K (Or.inl rfl) dX12_is_20 ⟨_, rfl, h⟩
    · have h := h2 e
      refine aj_iconst C dX12_is_15 ?_
      refine aj_goto (tgt := 20) C dX12_is_16 (by decide) ?_
      exact aj_zret C K (Or.inr rfl) dX12_is_20 ⟨_, rfl, h⟩
theorem dX12_eats_0 : decode cX12_eats 0 = .ok (.aload_n 0, 1) := by decide +kernel
theorem dX12_eats_1 : decode cX12_eats 1 = .ok (.iload_n 1, 1) := by decide +kernel
theorem dX12_eats_2 : decode cX12_eats 2 = .ok (.invokevirtual 144, 3) := by decide +kernel
theorem dX12_eats_5 : decode cX12_eats 5 = .ok (.ifCond .ne 5, 3) := by decide +kernel
theorem dX12_eats_8 : decode cX12_eats 8 = .ok (.iconst 0, 1) := by decide +kernel
theorem dX12_eats_9 : decode cX12_eats 9 = .ok (.ireturn, 1) := by decide +kernel
theorem dX12_eats_10 : decode cX12_eats 10 = .ok (.aload_n 0, 1) := by decide +kernel
theorem dX12_eats_11 : decode cX12_eats 11 = .ok (.invokevirtual 147, 3) := by decide +kernel
theorem dX12_eats_14 : decode cX12_eats 14 = .ok (.iconst 1, 1) := by decide +kernel
theorem dX12_eats_15 : decode cX12_eats 15 = .ok (.ireturn, 1) := by decide +kernel
def wX12_eats (f : Nat) (Φ : Int → aj_M → Prop) (q0 : List Nat) (v1 : Int) (m : aj_M) : Prop := wX12_is f (fun z1 m1 => rI z1 ∧ (¬ z1 = 0 → wX12_next f (fun m2 => Φ 1 m2) q0 m1) ∧ (z1 = 0 → Φ 0 m1)) q0 v1 m
set_option maxHeartbeats 4000000 in
set_option maxRecDepth 100000 in
theorem sX12_eats {n f : Nat} {Φ : Int → aj_M → Prop} {q0 : List Nat} {v1 : Int} {m : aj_M} (hq0 : (.inl (12, q0) : aj_R) ∈ aj_pls) (h : wX12_eats f Φ q0 v1 m) : aj_Ct (n + 6) yX12_eats cX12_eats 2 (some .boolean) [vO 12 q0, vI v1] m (fun r m => ∃ z, r = some (vI z) ∧ Φ z m) := by
  refine aj_met (lv := [some (vO 12 q0), some (vI v1)]) (by decide +kernel) rfl (Nat.le_of_ble_eq_true rfl) (fun X C K => ?_)
  unfold wX12_eats at h
  refine aj_aload_n C dX12_eats_0 rfl ?_
  refine aj_iload_n C dX12_eats_1 rfl ?_
  refine aj_callV (rest := []) C mvX12_144 (sX12_is hq0 h) hq0 (aj_np 1 (by decide +kernel) rfl) (Nat.le_of_ble_eq_true rfl) rfl dX12_eats_2 (fun r m1 h => ?_)
  obtain ⟨z1, rfl, h⟩ := h
  obtain ⟨r0, h1, h2⟩ := h
  refine aj_if_ne (tgt := 10) C dX12_eats_5 (by decide) r0 (fun e => ?_) (fun e => ?_)
  · have h := h1 e
    refine aj_aload_n C dX12_eats_10 rfl ?_
    refine aj_callV (rest := []) C mvX12_147 (sX12_next hq0 h) hq0 (aj_np 0 (by decide +kernel) rfl) (Nat.le_of_ble_eq_true rfl) rfl dX12_eats_11 (fun r m2 h => ?_)
    obtain ⟨rfl, h⟩ := h
    refine aj_iconst C dX12_eats_14 ?_
    exact aj_zret C K (Or.inr rfl) dX12_eats_15 ⟨_, rfl, h⟩
  · have h := h2 e
    refine aj_iconst C dX12_eats_8 ?_
    exact aj_zret C K (Or.inl rfl) dX12_eats_9 ⟨_, rfl, h⟩
theorem dX12_takes_0 : decode cX12_takes 0 = .ok (.aload_n 0, 1) := by decide +kernel
theorem dX12_takes_1 : decode cX12_takes 1 = .ok (.bipush 23, 2) := by decide +kernel
theorem dX12_takes_3 : decode cX12_takes 3 = .ok (.invokevirtual 144, 3) := by decide +kernel
theorem dX12_takes_6 : decode cX12_takes 6 = .ok (.ifCond .ne 11, 3) := by decide +kernel
theorem dX12_takes_9 : decode cX12_takes 9 = .ok (.aload_n 0, 1) := by decide +kernel
theorem dX12_takes_10 : decode cX12_takes 10 = .ok (.iconst 2, 1) := by decide +kernel
theorem dX12_takes_11 : decode cX12_takes 11 = .ok (.invokevirtual 150, 3) := by decide +kernel
theorem dX12_takes_14 : decode cX12_takes 14 = .ok (.goto 23, 3) := by decide +kernel
theorem dX12_takes_17 : decode cX12_takes 17 = .ok (.aload_n 0, 1) := by decide +kernel
theorem dX12_takes_18 : decode cX12_takes 18 = .ok (.getfield 133, 3) := by decide +kernel
theorem dX12_takes_21 : decode cX12_takes 21 = .ok (.i2l, 1) := by decide +kernel
theorem dX12_takes_22 : decode cX12_takes 22 = .ok (.iload_n 1, 1) := by decide +kernel
theorem dX12_takes_23 : decode cX12_takes 23 = .ok (.i2l, 1) := by decide +kernel
theorem dX12_takes_24 : decode cX12_takes 24 = .ok (.iload_n 2, 1) := by decide +kernel
theorem dX12_takes_25 : decode cX12_takes 25 = .ok (.i2l, 1) := by decide +kernel
theorem dX12_takes_26 : decode cX12_takes 26 = .ok (.invokestatic 154, 3) := by decide +kernel
theorem dX12_takes_29 : decode cX12_takes 29 = .ok (.ifCond .ne 8, 3) := by decide +kernel
theorem dX12_takes_32 : decode cX12_takes 32 = .ok (.aload_n 0, 1) := by decide +kernel
theorem dX12_takes_33 : decode cX12_takes 33 = .ok (.iconst 3, 1) := by decide +kernel
theorem dX12_takes_34 : decode cX12_takes 34 = .ok (.invokevirtual 150, 3) := by decide +kernel
theorem dX12_takes_37 : decode cX12_takes 37 = .ok (.aload_n 0, 1) := by decide +kernel
theorem dX12_takes_38 : decode cX12_takes 38 = .ok (.getfield 133, 3) := by decide +kernel
theorem dX12_takes_41 : decode cX12_takes 41 = .ok (.istore_n 3, 1) := by decide +kernel
theorem dX12_takes_42 : decode cX12_takes 42 = .ok (.aload_n 0, 1) := by decide +kernel
theorem dX12_takes_43 : decode cX12_takes 43 = .ok (.getfield 138, 3) := by decide +kernel
theorem dX12_takes_46 : decode cX12_takes 46 = .ok (.ifCond .ne 7, 3) := by decide +kernel
theorem dX12_takes_49 : decode cX12_takes 49 = .ok (.aload_n 0, 1) := by decide +kernel
theorem dX12_takes_50 : decode cX12_takes 50 = .ok (.invokevirtual 147, 3) := by decide +kernel
theorem dX12_takes_53 : decode cX12_takes 53 = .ok (.iload_n 3, 1) := by decide +kernel
theorem dX12_takes_54 : decode cX12_takes 54 = .ok (.ireturn, 1) := by decide +kernel
def wX12_takes (f : Nat) (Φ : Int → aj_M → Prop) (q0 : List Nat) (v1 : Int) (v2 : Int) (m : aj_M) : Prop := wX12_is f (fun z1 m1 => rI z1 ∧ (¬ z1 = 0 → rI (m1 q0 10) ∧ rI v1 ∧ rI v2 ∧ wX12_within f (fun z2 m2 => rI z2 ∧ (¬ z2 = 0 → rI (m2 q0 11) ∧ (¬ (m2 q0 11) = 0 → Φ (m2 q0 10) m2) ∧ ((m2 q0 11) = 0 → wX12_next f (fun m3 => Φ (m2 q0 10) m3) q0 m2)) ∧ (z2 = 0 → wX12_fails f (fun m4 => rI (m4 q0 11) ∧ (¬ (m4 q0 11) = 0 → Φ (m4 q0 10) m4) ∧ ((m4 q0 11) = 0 → wX12_next f (fun m5 => Φ (m4 q0 10) m5) q0 m4)) q0 3 m2)) (m1 q0 10) v1 v2 m1) ∧ (z1 = 0 → wX12_fails f (fun m6 => rI (m6 q0 11) ∧ (¬ (m6 q0 11) = 0 → Φ (m6 q0 10) m6) ∧ ((m6 q0 11) = 0 → wX12_next f (fun m7 => Φ (m6 q0 10) m7) q0 m6)) q0 2 m1)) q0 23 m
set_option maxHeartbeats 4000000 in
set_option maxRecDepth 100000 in
theorem sX12_takes {n f : Nat} {Φ : Int → aj_M → Prop} {q0 : List Nat} {v1 : Int} {v2 : Int} {m : aj_M} (hq0 : (.inl (12, q0) : aj_R) ∈ aj_pls) (h : wX12_takes f Φ q0 v1 v2 m) : aj_Ct (n + 6) yX12_takes cX12_takes 4 (some .int) [vO 12 q0, vI v1, vI v2] m (fun r m => ∃ z, r = some (vI z) ∧ Φ z m) := by
  refine aj_met (lv := [some (vO 12 q0), some (vI v1), some (vI v2), none]) (by decide +kernel) rfl (Nat.le_of_ble_eq_true rfl) (fun X C K => ?_)
  unfold wX12_takes at h
  refine aj_aload_n C dX12_takes_0 rfl ?_
  refine aj_bipush C dX12_takes_1 (by decide) ?_
  refine aj_callV (rest := []) C mvX12_144 (sX12_is hq0 h) hq0 (aj_np 1 (by decide +kernel) rfl) (Nat.le_of_ble_eq_true rfl) rfl dX12_takes_3 (fun r m1 h => ?_)
  obtain ⟨z1, rfl, h⟩ := h
  obtain ⟨r0, h1, h2⟩ := h
  refine aj_if_ne (tgt := 17) C dX12_takes_6 (by decide) r0 (fun e => ?_) (fun e => ?_)
  · have h := h1 e
    refine aj_aload_n C dX12_takes_17 rfl ?_
    refine aj_getI C flX12_133 hq0 (by decide) dX12_takes_18 rfl ?_
    obtain ⟨r0, h⟩ := h
    refine aj_i2l C dX12_takes_21 r0 ?_
    refine aj_iload_n C dX12_takes_22 rfl ?_
    obtain ⟨r0, h⟩ := h
    refine aj_i2l C dX12_takes_23 r0 ?_
    refine aj_iload_n C dX12_takes_24 rfl ?_
    obtain ⟨r0, h⟩ := h
    refine aj_i2l C dX12_takes_25 r0 ?_
    refine aj_callS (rest := []) C msX12_154 (sX12_within  h) (aj_np 3 (by decide +kernel) rfl) (Nat.le_of_ble_eq_true rfl) rfl dX12_takes_26 (fun r m2 h => ?_)
    obtain ⟨z2, rfl, h⟩ := h
    obtain ⟨r0, h1, h2⟩ := h
    refine aj_if_ne (tgt := 37) C dX12_takes_29 (by decide) r0 (fun e => ?_) (fun e => ?_)
    · have h := h1 e
      refine aj_aload_n C dX12_takes_37 rfl ?_
      refine aj_getI C flX12_133 hq0 (by decide) dX12_takes_38 rfl ?_
      refine aj_istore_n (lv' := [some (vO 12 q0), some (vI v1), some (vI v2), some (vI (m2 q0 10))]) C dX12_takes_41 (by decide) rfl ?_
      refine aj_aload_n C dX12_takes_42 rfl ?_
      refine aj_getI C flX12_138 hq0 (by decide) dX12_takes_43 rfl ?_
      obtain ⟨r0, h1, h2⟩ := h
      refine aj_if_ne (tgt := 53) C dX12_takes_46 (by decide) r0 (fun e => ?_) (fun e => ?_)
      · have h := h1 e
        refine aj_iload_n C dX12_takes_53 rfl ?_
        exact aj_iret C K dX12_takes_54 ⟨_, rfl, h⟩
      · have h := h2 e
        refine aj_aload_n C dX12_takes_49 rfl ?_
        refine aj_callV (rest := []) C mvX12_147 (sX12_next hq0 h) hq0 (aj_np 0 (by decide +kernel) rfl) (Nat.le_of_ble_eq_true rfl) rfl dX12_takes_50 (fun r m3 h => ?_)
        obtain ⟨rfl, h⟩ := h
        refine aj_iload_n C dX12_takes_53 rfl ?_
        exact aj_iret C K dX12_takes_54 ⟨_, rfl, h⟩
    · have h := h2 e
      refine aj_aload_n C dX12_takes_32 rfl ?_
      refine aj_iconst C dX12_takes_33 ?_
      refine aj_callV (rest := []) C mvX12_150 (sX12_fails hq0 h) hq0 (aj_np 1 (by decide +kernel) rfl) (Nat.le_of_ble_eq_true rfl) rfl dX12_takes_34 (fun r m4 h => ?_)
      obtain ⟨rfl, h⟩ := h
      refine aj_aload_n C dX12_takes_37 rfl ?_
      refine aj_getI C flX12_133 hq0 (by decide) dX12_takes_38 rfl ?_
      refine aj_istore_n (lv' := [some (vO 12 q0), some (vI v1), some (vI v2), some (vI (m4 q0 10))]) C dX12_takes_41 (by decide) rfl ?_
      refine aj_aload_n C dX12_takes_42 rfl ?_
      refine aj_getI C flX12_138 hq0 (by decide) dX12_takes_43 rfl ?_
      obtain ⟨r0, h1, h2⟩ := h
      refine aj_if_ne (tgt := 53) C dX12_takes_46 (by decide) r0 (fun e => ?_) (fun e => ?_)
      · have h := h1 e
        refine aj_iload_n C dX12_takes_53 rfl ?_
        exact aj_iret C K dX12_takes_54 ⟨_, rfl, h⟩
      · have h := h2 e
        refine aj_aload_n C dX12_takes_49 rfl ?_
        refine aj_callV (rest := []) C mvX12_147 (sX12_next hq0 h) hq0 (aj_np 0 (by decide +kernel) rfl) (Nat.le_of_ble_eq_true rfl) rfl dX12_takes_50 (fun r m5 h => ?_)
        obtain ⟨rfl, h⟩ := h
        refine aj_iload_n C dX12_takes_53 rfl ?_
        exact aj_iret C K dX12_takes_54 ⟨_, rfl, h⟩
  · have h := h2 e
    refine aj_aload_n C dX12_takes_9 rfl ?_
    refine aj_iconst C dX12_takes_10 ?_
    refine aj_callV (rest := []) C mvX12_150 (sX12_fails hq0 h) hq0 (aj_np 1 (by decide +kernel) rfl) (Nat.le_of_ble_eq_true rfl) rfl dX12_takes_11 (fun r m6 h => ?_)
    obtain ⟨rfl, h⟩ := h
    refine aj_goto (tgt := 37) C dX12_takes_14 (by decide) ?_
    refine aj_aload_n C dX12_takes_37 rfl ?_
    refine aj_getI C flX12_133 hq0 (by decide) dX12_takes_38 rfl ?_
    refine aj_istore_n (lv' := [some (vO 12 q0), some (vI v1), some (vI v2), some (vI (m6 q0 10))]) C dX12_takes_41 (by decide) rfl ?_
    refine aj_aload_n C dX12_takes_42 rfl ?_
    refine aj_getI C flX12_138 hq0 (by decide) dX12_takes_43 rfl ?_
    obtain ⟨r0, h1, h2⟩ := h
    refine aj_if_ne (tgt := 53) C dX12_takes_46 (by decide) r0 (fun e => ?_) (fun e => ?_)
    · have h := h1 e
      refine aj_iload_n C dX12_takes_53 rfl ?_
      exact aj_iret C K dX12_takes_54 ⟨_, rfl, h⟩
    · have h := h2 e
      refine aj_aload_n C dX12_takes_49 rfl ?_
      refine aj_callV (rest := []) C mvX12_147 (sX12_next hq0 h) hq0 (aj_np 0 (by decide +kernel) rfl) (Nat.le_of_ble_eq_true rfl) rfl dX12_takes_50 (fun r m7 h => ?_)
      obtain ⟨rfl, h⟩ := h
      refine aj_iload_n C dX12_takes_53 rfl ?_
      exact aj_iret C K dX12_takes_54 ⟨_, rfl, h⟩
theorem dX12_isIn_0 : decode cX12_isIn 0 = .ok (.lload_n 0, 1) := by decide +kernel
theorem dX12_isIn_1 : decode cX12_isIn 1 = .ok (.iload_n 2, 1) := by decide +kernel
theorem dX12_isIn_2 : decode cX12_isIn 2 = .ok (.lshr, 1) := by decide +kernel
theorem dX12_isIn_3 : decode cX12_isIn 3 = .ok (.lconst 1, 1) := by decide +kernel
theorem dX12_isIn_4 : decode cX12_isIn 4 = .ok (.land, 1) := by decide +kernel
theorem dX12_isIn_5 : decode cX12_isIn 5 = .ok (.lconst 1, 1) := by decide +kernel
theorem dX12_isIn_6 : decode cX12_isIn 6 = .ok (.lcmp, 1) := by decide +kernel
theorem dX12_isIn_7 : decode cX12_isIn 7 = .ok (.ifCond .ne 7, 3) := by decide +kernel
theorem dX12_isIn_10 : decode cX12_isIn 10 = .ok (.iconst 1, 1) := by decide +kernel
theorem dX12_isIn_11 : decode cX12_isIn 11 = .ok (.goto 4, 3) := by decide +kernel
theorem dX12_isIn_14 : decode cX12_isIn 14 = .ok (.iconst 0, 1) := by decide +kernel
theorem dX12_isIn_15 : decode cX12_isIn 15 = .ok (.ireturn, 1) := by decide +kernel
def wX12_isIn (f : Nat) (Φ : Int → aj_M → Prop) (w0 : Int) (v2 : Int) (m : aj_M) : Prop := rL (aj_landL (aj_lshr w0 v2) 1) ∧ (¬ (aj_landL (aj_lshr w0 v2) 1) = 1 → Φ 0 m) ∧ ((aj_landL (aj_lshr w0 v2) 1) = 1 → Φ 1 m)
set_option maxHeartbeats 4000000 in
set_option maxRecDepth 100000 in
theorem sX12_isIn {n f : Nat} {Φ : Int → aj_M → Prop} {w0 : Int} {v2 : Int} {m : aj_M}  (h : wX12_isIn f Φ w0 v2 m) : aj_Ct n yX12_isIn cX12_isIn 3 (some .boolean) [vL w0, vI v2] m (fun r m => ∃ z, r = some (vI z) ∧ Φ z m) := by
  refine aj_met (lv := [some (vL w0), none, some (vI v2)]) (by decide +kernel) rfl (Nat.le_of_ble_eq_true rfl) (fun X C K => ?_)
  unfold wX12_isIn at h
  refine aj_lload_n C dX12_isIn_0 rfl ?_
  refine aj_iload_n C dX12_isIn_1 rfl ?_
  refine aj_lshr_ C dX12_isIn_2 ?_
  refine aj_lconst (z := 1) C dX12_isIn_3 rfl ?_
  refine aj_land C dX12_isIn_4 ?_
  refine aj_lconst (z := 1) C dX12_isIn_5 rfl ?_
  obtain ⟨r0, h1, h2⟩ := h
  refine aj_lcmp_ne (tgt := 14) C dX12_isIn_6 dX12_isIn_7 (by decide) r0 (by decide) (fun e => ?_) (fun e => ?_)
  · have h := h1 e
    refine aj_iconst C dX12_isIn_14 ?_
    exact aj_zret C K (Or.inl rfl) dX12_isIn_15 ⟨_, rfl, h⟩
  · have h := h2 e
    refine aj_iconst C dX12_isIn_10 ?_
    refine aj_goto (tgt := 15) C dX12_isIn_11 (by decide) ?_
    exact aj_zret C K (Or.inr rfl) dX12_isIn_15 ⟨_, rfl, h⟩
theorem dX12_wordOf_0 : decode cX12_wordOf 0 = .ok (.iload_n 0, 1) := by decide +kernel
theorem dX12_wordOf_1 : decode cX12_wordOf 1 = .ok (.tableswitch 81 5 18 #[79, 81, 71, 81, 81, 81, 81, 81, 81, 81, 81, 73, 75, 77], 71) := by decide +kernel
theorem dX12_wordOf_72 : decode cX12_wordOf 72 = .ok (.iconst 0, 1) := by decide +kernel
theorem dX12_wordOf_73 : decode cX12_wordOf 73 = .ok (.ireturn, 1) := by decide +kernel
theorem dX12_wordOf_74 : decode cX12_wordOf 74 = .ok (.iconst 1, 1) := by decide +kernel
theorem dX12_wordOf_75 : decode cX12_wordOf 75 = .ok (.ireturn, 1) := by decide +kernel
theorem dX12_wordOf_76 : decode cX12_wordOf 76 = .ok (.iconst 2, 1) := by decide +kernel
theorem dX12_wordOf_77 : decode cX12_wordOf 77 = .ok (.ireturn, 1) := by decide +kernel
theorem dX12_wordOf_78 : decode cX12_wordOf 78 = .ok (.iconst 3, 1) := by decide +kernel
theorem dX12_wordOf_79 : decode cX12_wordOf 79 = .ok (.ireturn, 1) := by decide +kernel
theorem dX12_wordOf_80 : decode cX12_wordOf 80 = .ok (.iconst 4, 1) := by decide +kernel
theorem dX12_wordOf_81 : decode cX12_wordOf 81 = .ok (.ireturn, 1) := by decide +kernel
theorem dX12_wordOf_82 : decode cX12_wordOf 82 = .ok (.iconst (-1), 1) := by decide +kernel
theorem dX12_wordOf_83 : decode cX12_wordOf 83 = .ok (.ireturn, 1) := by decide +kernel
def wX12_wordOf (f : Nat) (Φ : Int → aj_M → Prop) (v0 : Int) (m : aj_M) : Prop := rI v0 ∧ (v0 < 5 ∨ 18 < v0 → Φ (-1) m) ∧ (v0 = 5 → Φ 4 m) ∧ (v0 = 6 → Φ (-1) m) ∧ (v0 = 7 → Φ 0 m) ∧ (v0 = 8 → Φ (-1) m) ∧ (v0 = 9 → Φ (-1) m) ∧ (v0 = 10 → Φ (-1) m) ∧ (v0 = 11 → Φ (-1) m) ∧ (v0 = 12 → Φ (-1) m) ∧ (v0 = 13 → Φ (-1) m) ∧ (v0 = 14 → Φ (-1) m) ∧ (v0 = 15 → Φ (-1) m) ∧ (v0 = 16 → Φ 1 m) ∧ (v0 = 17 → Φ 2 m) ∧ (v0 = 18 → Φ 3 m)
set_option maxHeartbeats 4000000 in
set_option maxRecDepth 100000 in
theorem sX12_wordOf {n f : Nat} {Φ : Int → aj_M → Prop} {v0 : Int} {m : aj_M}  (h : wX12_wordOf f Φ v0 m) : aj_Ct n yX12_wordOf cX12_wordOf 1 (some .int) [vI v0] m (fun r m => ∃ z, r = some (vI z) ∧ Φ z m) := by
  refine aj_met (lv := [some (vI v0)]) (by decide +kernel) rfl (Nat.le_of_ble_eq_true rfl) (fun X C K => ?_)
  unfold wX12_wordOf at h
  refine aj_iload_n C dX12_wordOf_0 rfl ?_
  obtain ⟨r0, hd, hc0, hc1, hc2, hc3, hc4, hc5, hc6, hc7, hc8, hc9, hc10, hc11, hc12, hc13⟩ := h
  rcases (by omega : (v0 < 5 ∨ 18 < v0) ∨ v0 = 5 ∨ v0 = 6 ∨ v0 = 7 ∨ v0 = 8 ∨ v0 = 9 ∨ v0 = 10 ∨ v0 = 11 ∨ v0 = 12 ∨ v0 = 13 ∨ v0 = 14 ∨ v0 = 15 ∨ v0 = 16 ∨ v0 = 17 ∨ v0 = 18) with e | e | e | e | e | e | e | e | e | e | e | e | e | e | e
  · have h := hd e
    refine aj_tout (tgt := 82) C dX12_wordOf_1 r0 e (by decide) ?_
    refine aj_iconst C dX12_wordOf_82 ?_
    exact aj_iret C K dX12_wordOf_83 ⟨_, rfl, h⟩
  · have h := hc0 e
    refine aj_tin (tgt := 80) (off := 79) C dX12_wordOf_1 r0 (by omega) (by omega) (by rw [e]; rfl) (by decide) ?_
    refine aj_iconst C dX12_wordOf_80 ?_
    exact aj_iret C K dX12_wordOf_81 ⟨_, rfl, h⟩
  · have h := hc1 e
    refine aj_tin (tgt := 82) (off := 81) C dX12_wordOf_1 r0 (by omega) (by omega) (by rw [e]; rfl) (by decide) ?_
    refine aj_iconst C dX12_wordOf_82 ?_
    exact aj_iret C K dX12_wordOf_83 ⟨_, rfl, h⟩
  · have h := hc2 e
    refine aj_tin (tgt := 72) (off := 71) C dX12_wordOf_1 r0 (by omega) (by omega) (by rw [e]; rfl) (by decide) ?_
    refine aj_iconst C dX12_wordOf_72 ?_
    exact aj_iret C K dX12_wordOf_73 ⟨_, rfl, h⟩
  · have h := hc3 e
    refine aj_tin (tgt := 82) (off := 81) C dX12_wordOf_1 r0 (by omega) (by omega) (by rw [e]; rfl) (by decide) ?_
    refine aj_iconst C dX12_wordOf_82 ?_
    exact aj_iret C K dX12_wordOf_83 ⟨_, rfl, h⟩
  · have h := hc4 e
    refine aj_tin (tgt := 82) (off := 81) C dX12_wordOf_1 r0 (by omega) (by omega) (by rw [e]; rfl) (by decide) ?_
    refine aj_iconst C dX12_wordOf_82 ?_
    exact aj_iret C K dX12_wordOf_83 ⟨_, rfl, h⟩
  · have h := hc5 e
    refine aj_tin (tgt := 82) (off := 81) C dX12_wordOf_1 r0 (by omega) (by omega) (by rw [e]; rfl) (by decide) ?_
    refine aj_iconst C dX12_wordOf_82 ?_
    exact aj_iret C K dX12_wordOf_83 ⟨_, rfl, h⟩
  · have h := hc6 e
    refine aj_tin (tgt := 82) (off := 81) C dX12_wordOf_1 r0 (by omega) (by omega) (by rw [e]; rfl) (by decide) ?_
    refine aj_iconst C dX12_wordOf_82 ?_
    exact aj_iret C K dX12_wordOf_83 ⟨_, rfl, h⟩
  · have h := hc7 e
    refine aj_tin (tgt := 82) (off := 81) C dX12_wordOf_1 r0 (by omega) (by omega) (by rw [e]; rfl) (by decide) ?_
    refine aj_iconst C dX12_wordOf_82 ?_
    exact aj_iret C K dX12_wordOf_83 ⟨_, rfl, h⟩
  · have h := hc8 e
    refine aj_tin (tgt := 82) (off := 81) C dX12_wordOf_1 r0 (by omega) (by omega) (by rw [e]; rfl) (by decide) ?_
    refine aj_iconst C dX12_wordOf_82 ?_
    exact aj_iret C K dX12_wordOf_83 ⟨_, rfl, h⟩
  · have h := hc9 e
    refine aj_tin (tgt := 82) (off := 81) C dX12_wordOf_1 r0 (by omega) (by omega) (by rw [e]; rfl) (by decide) ?_
    refine aj_iconst C dX12_wordOf_82 ?_
    exact aj_iret C K dX12_wordOf_83 ⟨_, rfl, h⟩
  · have h := hc10 e
    refine aj_tin (tgt := 82) (off := 81) C dX12_wordOf_1 r0 (by omega) (by omega) (by rw [e]; rfl) (by decide) ?_
    refine aj_iconst C dX12_wordOf_82 ?_
    exact aj_iret C K dX12_wordOf_83 ⟨_, rfl, h⟩
  · have h := hc11 e
    refine aj_tin (tgt := 74) (off := 73) C dX12_wordOf_1 r0 (by omega) (by omega) (by rw [e]; rfl) (by decide) ?_
    refine aj_iconst C dX12_wordOf_74 ?_
    exact aj_iret C K dX12_wordOf_75 ⟨_, rfl, h⟩
  · have h := hc12 e
    refine aj_tin (tgt := 76) (off := 75) C dX12_wordOf_1 r0 (by omega) (by omega) (by rw [e]; rfl) (by decide) ?_
    refine aj_iconst C dX12_wordOf_76 ?_
    exact aj_iret C K dX12_wordOf_77 ⟨_, rfl, h⟩
  · have h := hc13 e
    refine aj_tin (tgt := 78) (off := 77) C dX12_wordOf_1 r0 (by omega) (by omega) (by rw [e]; rfl) (by decide) ?_
    refine aj_iconst C dX12_wordOf_78 ?_
    exact aj_iret C K dX12_wordOf_79 ⟨_, rfl, h⟩
theorem dX12_codes_0 : decode cX12_codes 0 = .ok (.aload_n 0, 1) := by decide +kernel
theorem dX12_codes_1 : decode cX12_codes 1 = .ok (.getfield 138, 3) := by decide +kernel
theorem dX12_codes_4 : decode cX12_codes 4 = .ok (.ifCond .eq 4, 3) := by decide +kernel
theorem dX12_codes_7 : decode cX12_codes 7 = .ok (.return_, 1) := by decide +kernel
theorem dX12_codes_8 : decode cX12_codes 8 = .ok (.aload_n 0, 1) := by decide +kernel
theorem dX12_codes_9 : decode cX12_codes 9 = .ok (.getfield 24, 3) := by decide +kernel
theorem dX12_codes_12 : decode cX12_codes 12 = .ok (.sipush 205, 3) := by decide +kernel
theorem dX12_codes_15 : decode cX12_codes 15 = .ok (.aload_n 0, 1) := by decide +kernel
theorem dX12_codes_16 : decode cX12_codes 16 = .ok (.getfield 24, 3) := by decide +kernel
theorem dX12_codes_19 : decode cX12_codes 19 = .ok (.sipush 204, 3) := by decide +kernel
theorem dX12_codes_22 : decode cX12_codes 22 = .ok (.iaload, 1) := by decide +kernel
theorem dX12_codes_23 : decode cX12_codes 23 = .ok (.iadd, 1) := by decide +kernel
theorem dX12_codes_24 : decode cX12_codes 24 = .ok (.iload_n 1, 1) := by decide +kernel
theorem dX12_codes_25 : decode cX12_codes 25 = .ok (.iastore, 1) := by decide +kernel
theorem dX12_codes_26 : decode cX12_codes 26 = .ok (.aload_n 0, 1) := by decide +kernel
theorem dX12_codes_27 : decode cX12_codes 27 = .ok (.getfield 24, 3) := by decide +kernel
theorem dX12_codes_30 : decode cX12_codes 30 = .ok (.sipush 204, 3) := by decide +kernel
theorem dX12_codes_33 : decode cX12_codes 33 = .ok (.dup2, 1) := by decide +kernel
theorem dX12_codes_34 : decode cX12_codes 34 = .ok (.iaload, 1) := by decide +kernel
theorem dX12_codes_35 : decode cX12_codes 35 = .ok (.iconst 1, 1) := by decide +kernel
theorem dX12_codes_36 : decode cX12_codes 36 = .ok (.iadd, 1) := by decide +kernel
theorem dX12_codes_37 : decode cX12_codes 37 = .ok (.iastore, 1) := by decide +kernel
theorem dX12_codes_38 : decode cX12_codes 38 = .ok (.return_, 1) := by decide +kernel
def wX12_codes (f : Nat) (Φ : aj_M → Prop) (q0 : List Nat) (v1 : Int) (m : aj_M) : Prop := rI (m q0 11) ∧ ((m q0 11) = 0 → (0 ≤ (205 + (m (4 :: q0) (204 : Int).toNat)) ∧ (205 + (m (4 :: q0) (204 : Int).toNat)) < 1105) ∧ ∀ m1, m1 = aj_u m (4 :: q0) (205 + (m (4 :: q0) (204 : Int).toNat)).toNat v1 → ∀ m2, m2 = aj_u m1 (4 :: q0) (204 : Int).toNat ((m1 (4 :: q0) (204 : Int).toNat) + 1) → Φ m2) ∧ (¬ ((m q0 11) = 0) → Φ m)
set_option maxHeartbeats 4000000 in
set_option maxRecDepth 100000 in
theorem sX12_codes {n f : Nat} {Φ : aj_M → Prop} {q0 : List Nat} {v1 : Int} {m : aj_M} (hq0 : (.inl (12, q0) : aj_R) ∈ aj_pls) (h : wX12_codes f Φ q0 v1 m) : aj_Ct n yX12_codes cX12_codes 2 none [vO 12 q0, vI v1] m (fun r m => r = none ∧ Φ m) := by
  refine aj_met (lv := [some (vO 12 q0), some (vI v1)]) (by decide +kernel) rfl (Nat.le_of_ble_eq_true rfl) (fun X C K => ?_)
  unfold wX12_codes at h
  refine aj_aload_n C dX12_codes_0 rfl ?_
  refine aj_getI C flX12_138 hq0 (by decide) dX12_codes_1 rfl ?_
  obtain ⟨r0, h1, h2⟩ := h
  refine aj_if_eq (tgt := 8) C dX12_codes_4 (by decide) r0 (fun e => ?_) (fun e => ?_)
  · have h := h1 e
    refine aj_aload_n C dX12_codes_8 rfl ?_
    refine aj_getA (x := 0) (y := 1105) C flX12_24 hq0 rfl dX12_codes_9 ?_
    refine aj_sipush C dX12_codes_12 (by decide) ?_
    refine aj_aload_n C dX12_codes_15 rfl ?_
    refine aj_getA (x := 0) (y := 1105) C flX12_24 hq0 rfl dX12_codes_16 ?_
    refine aj_sipush C dX12_codes_19 (by decide) ?_
    refine aj_iald C (aj_ca (e := 0) (n := 1105) (j := 4) hq0 (by decide) rfl) (by decide) (by decide) dX12_codes_22 rfl ?_
    refine aj_iadd C dX12_codes_23 ?_
    refine aj_iload_n C dX12_codes_24 rfl ?_
    obtain ⟨r0, h⟩ := h
    refine aj_iast C (aj_ca (e := 0) (n := 1105) (j := 4) hq0 (by decide) rfl) (by decide) r0 dX12_codes_25 ?_
    refine aj_nm (fun m1 e1 => ?_)
    have h := h m1 e1
    refine aj_aload_n C dX12_codes_26 rfl ?_
    refine aj_getA (x := 0) (y := 1105) C flX12_24 hq0 rfl dX12_codes_27 ?_
    refine aj_sipush C dX12_codes_30 (by decide) ?_
    refine aj_dup2 C aj_nI aj_nR dX12_codes_33 ?_
    refine aj_iald C (aj_ca (e := 0) (n := 1105) (j := 4) hq0 (by decide) rfl) (by decide) (by decide) dX12_codes_34 rfl ?_
    refine aj_iconst C dX12_codes_35 ?_
    refine aj_iadd C dX12_codes_36 ?_
    refine aj_iast C (aj_ca (e := 0) (n := 1105) (j := 4) hq0 (by decide) rfl) (by decide) (by decide) dX12_codes_37 ?_
    refine aj_nm (fun m2 e1 => ?_)
    have h := h m2 e1
    exact aj_vret C K dX12_codes_38 ⟨rfl, h⟩
  · have h := h2 e
    exact aj_vret C K dX12_codes_7 ⟨rfl, h⟩
theorem dX12_goesIn_0 : decode cX12_goesIn 0 = .ok (.iload_n 1, 1) := by decide +kernel
theorem dX12_goesIn_1 : decode cX12_goesIn 1 = .ok (.bipush 6, 2) := by decide +kernel
theorem dX12_goesIn_3 : decode cX12_goesIn 3 = .ok (.if_icmp .ne 8, 3) := by decide +kernel
theorem dX12_goesIn_6 : decode cX12_goesIn 6 = .ok (.aload_n 0, 1) := by decide +kernel
theorem dX12_goesIn_7 : decode cX12_goesIn 7 = .ok (.iconst 4, 1) := by decide +kernel
theorem dX12_goesIn_8 : decode cX12_goesIn 8 = .ok (.invokevirtual 150, 3) := by decide +kernel
theorem dX12_goesIn_11 : decode cX12_goesIn 11 = .ok (.aload_n 0, 1) := by decide +kernel
theorem dX12_goesIn_12 : decode cX12_goesIn 12 = .ok (.getfield 138, 3) := by decide +kernel
theorem dX12_goesIn_15 : decode cX12_goesIn 15 = .ok (.ifCond .ne 7, 3) := by decide +kernel
theorem dX12_goesIn_18 : decode cX12_goesIn 18 = .ok (.aload_n 0, 1) := by decide +kernel
theorem dX12_goesIn_19 : decode cX12_goesIn 19 = .ok (.invokevirtual 147, 3) := by decide +kernel
theorem dX12_goesIn_22 : decode cX12_goesIn 22 = .ok (.aload_n 0, 1) := by decide +kernel
theorem dX12_goesIn_23 : decode cX12_goesIn 23 = .ok (.getfield 138, 3) := by decide +kernel
theorem dX12_goesIn_26 : decode cX12_goesIn 26 = .ok (.ifCond .ne 7, 3) := by decide +kernel
theorem dX12_goesIn_29 : decode cX12_goesIn 29 = .ok (.iconst 1, 1) := by decide +kernel
theorem dX12_goesIn_30 : decode cX12_goesIn 30 = .ok (.goto 4, 3) := by decide +kernel
theorem dX12_goesIn_33 : decode cX12_goesIn 33 = .ok (.iconst 0, 1) := by decide +kernel
theorem dX12_goesIn_34 : decode cX12_goesIn 34 = .ok (.ireturn, 1) := by decide +kernel
def hX12_goesIn_11 (f : Nat) (Φ : Int → aj_M → Prop) (q0 : List Nat) (m : aj_M) : Prop := rI (m q0 11) ∧ (¬ (m q0 11) = 0 → rI (m q0 11) ∧ (¬ (m q0 11) = 0 → Φ 0 m) ∧ ((m q0 11) = 0 → Φ 1 m)) ∧ ((m q0 11) = 0 → wX12_next f (fun m1 => rI (m1 q0 11) ∧ (¬ (m1 q0 11) = 0 → Φ 0 m1) ∧ ((m1 q0 11) = 0 → Φ 1 m1)) q0 m)
set_option maxHeartbeats 4000000 in
set_option maxRecDepth 100000 in
theorem tX12_goesIn_11 {X : aj_T} {n f : Nat} {Φ : Int → aj_M → Prop} (C : aj_Cx X cX12_goesIn RX12 2 (n + 6)) (K : aj_Rt X (some .boolean) (fun r m => ∃ z, r = some (vI z) ∧ Φ z m)) (q0 : List Nat) (m : aj_M) (hq0 : (.inl (12, q0) : aj_R) ∈ aj_pls) (h : hX12_goesIn_11 f Φ q0 m) : aj_J X 11 [some (vO 12 q0), none] [] m := by
  unfold hX12_goesIn_11 at h
  refine aj_aload_n C dX12_goesIn_11 rfl ?_
  refine aj_getI C flX12_138 hq0 (by decide) dX12_goesIn_12 rfl ?_
  obtain ⟨r0, h1, h2⟩ := h
  refine aj_if_ne (tgt := 22) C dX12_goesIn_15 (by decide) r0 (fun e => ?_) (fun e => ?_)
  · have h := h1 e
    refine aj_aload_n C dX12_goesIn_22 rfl ?_
    refine aj_getI C flX12_138 hq0 (by decide) dX12_goesIn_23 rfl ?_
    obtain ⟨r0, h1, h2⟩ := h
    refine aj_if_ne (tgt := 33) C dX12_goesIn_26 (by decide) r0 (fun e => ?_) (fun e => ?_)
    · have h := h1 e
      refine aj_iconst C dX12_goesIn_33 ?_
      exact aj_zret C K (Or.inl rfl) dX12_goesIn_34 ⟨_, rfl, h⟩
    · have h := h2 e
      refine aj_iconst C dX12_goesIn_29 ?_
      refine aj_goto (tgt := 34) C dX12_goesIn_30 (by decide) ?_
      exact aj_zret C K (Or.inr rfl) dX12_goesIn_34 ⟨_, rfl, h⟩
  · have h := h2 e
    refine aj_aload_n C dX12_goesIn_18 rfl ?_
    refine aj_callV (rest := []) C mvX12_147 (sX12_next hq0 h) hq0 (aj_np 0 (by decide +kernel) rfl) (Nat.le_of_ble_eq_true rfl) rfl dX12_goesIn_19 (fun r m1 h => ?_)
    obtain ⟨rfl, h⟩ := h
    refine aj_aload_n C dX12_goesIn_22 rfl ?_
    refine aj_getI C flX12_138 hq0 (by decide) dX12_goesIn_23 rfl ?_
    obtain ⟨r0, h1, h2⟩ := h
    refine aj_if_ne (tgt := 33) C dX12_goesIn_26 (by decide) r0 (fun e => ?_) (fun e => ?_)
    · have h := h1 e
      refine aj_iconst C dX12_goesIn_33 ?_
      exact aj_zret C K (Or.inl rfl) dX12_goesIn_34 ⟨_, rfl, h⟩
    · have h := h2 e
      refine aj_iconst C dX12_goesIn_29 ?_
      refine aj_goto (tgt := 34) C dX12_goesIn_30 (by decide) ?_
      exact aj_zret C K (Or.inr rfl) dX12_goesIn_34 ⟨_, rfl, h⟩
def wX12_goesIn (f : Nat) (Φ : Int → aj_M → Prop) (q0 : List Nat) (v1 : Int) (m : aj_M) : Prop := rI v1 ∧ (¬ v1 = 6 → hX12_goesIn_11 f Φ q0 m) ∧ (v1 = 6 → wX12_fails f (fun m1 => hX12_goesIn_11 f Φ q0 m1) q0 4 m)
set_option maxHeartbeats 4000000 in
set_option maxRecDepth 100000 in
theorem sX12_goesIn {n f : Nat} {Φ : Int → aj_M → Prop} {q0 : List Nat} {v1 : Int} {m : aj_M} (hq0 : (.inl (12, q0) : aj_R) ∈ aj_pls) (h : wX12_goesIn f Φ q0 v1 m) : aj_Ct (n + 6) yX12_goesIn cX12_goesIn 2 (some .boolean) [vO 12 q0, vI v1] m (fun r m => ∃ z, r = some (vI z) ∧ Φ z m) := by
  refine aj_met (lv := [some (vO 12 q0), some (vI v1)]) (by decide +kernel) rfl (Nat.le_of_ble_eq_true rfl) (fun X C K => ?_)
  unfold wX12_goesIn at h
  refine aj_iload_n C dX12_goesIn_0 rfl ?_
  refine aj_bipush C dX12_goesIn_1 (by decide) ?_
  obtain ⟨r0, h1, h2⟩ := h
  refine aj_icmp_ne (tgt := 11) C dX12_goesIn_3 (by decide) r0 (by decide) (fun e => ?_) (fun e => ?_)
  · have h := h1 e
    refine aj_wk (lv' := [some (vO 12 q0), none]) (⟨rfl, trivial⟩) ?_
    exact tX12_goesIn_11 C K q0 _ hq0 h
  · have h := h2 e
    refine aj_aload_n C dX12_goesIn_6 rfl ?_
    refine aj_iconst C dX12_goesIn_7 ?_
    refine aj_callV (rest := []) C mvX12_150 (sX12_fails hq0 h) hq0 (aj_np 1 (by decide +kernel) rfl) (Nat.le_of_ble_eq_true rfl) rfl dX12_goesIn_8 (fun r m1 h => ?_)
    obtain ⟨rfl, h⟩ := h
    refine aj_wk (lv' := [some (vO 12 q0), none]) (⟨rfl, trivial⟩) ?_
    exact tX12_goesIn_11 C K q0 _ hq0 h
