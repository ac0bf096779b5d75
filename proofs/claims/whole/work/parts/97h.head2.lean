/-! THE HEAD OF A WORKS, whole: both readers -/
section HDH
variable {f n b : Nat} {T : Nat → Int} {c : List Int} {P : Nat → Int} {pl : Int} {m : aj_M}
theorem pr_fails2 {Φ : aj_M → Prop} {x : Int} (h : prR m T n b c) (hK : ∀ m', prF m m' → prX m' (tkF T n b x) (tkA T n b) → rI (m' [1] 9) → Φ m') : wX12_fails f Φ [1] x m := by
  have r9 := pr_r9 h
  have go : ∀ y : Int, y = tkF T n b x → ∀ m1, m1 = aj_u m [1] 11 y → ∀ m2, m2 = aj_u m1 [1] 12 (m1 [1] 6) → Φ m2 := by
    intro y hy
    rintro _ rfl
    rintro _ rfl
    rw [zu_tup, tup_o (by omega), h.1.1]
    refine hK _ ⟨fun p hp => ?_, fun j hj => ?_, fun j _ => by rw [zu_off (by decide), zu_off (by decide)]⟩ ⟨?_, ?_⟩ ?_
    · have : p ≠ [1] := fun e => hp (by rw [e]; simp)
      rw [zu_off this, zu_off this]
    · rw [zu_tup, tup_o (by omega), zu_tup, tup_o (by omega)]
    · rw [zu_tup, tup_o (by omega), zu_tup, tup_s, hy]
    · rw [zu_tup, tup_s]
    · rw [zu_tup, tup_o (by omega), zu_tup, tup_o (by omega)]
      exact r9
  unfold wX12_fails
  rw [h.2.2.1]
  refine ⟨by decide, fun _ => ⟨r9, fun y => go x ?_, fun y => go 1 ?_⟩, fun y => absurd rfl y⟩
  · rw [h.1.2.2.1] at y
    rw [tkF, if_neg y]
  · rw [h.1.2.2.1] at y
    rw [tkF, if_pos y]
theorem dd_num {Ψ : aj_M → Prop} (hD : prD m) (hX : lDX Ψ m) : wX12_takes f (fun z3 m3 => ∀ m4, m4 = aj_u m3 [4, 1] (62 : Int).toNat z3 → wX12_closes f Ψ [1] m4) [1] 0 9 m := pr_takesD hD (fun z => by
  rintro _ rfl
  exact dd_closes (prD_u hD) (lDX_u hX))
theorem dd_tw {Ψ : aj_M → Prop} (hD : prD m) (hX : lDX Ψ m) : wX12_eats f (fun z2 m2 => rI z2 ∧ (¬ z2 = 0 → wX12_takes f (fun z3 m3 => ∀ m4, m4 = aj_u m3 [4, 1] (62 : Int).toNat z3 → wX12_closes f Ψ [1] m4) [1] 0 9 m2) ∧ (z2 = 0 → wX12_fails f (fun m6 => wX12_takes f (fun z6 m7 => ∀ m8, m8 = aj_u m7 [4, 1] (62 : Int).toNat z6 → wX12_closes f Ψ [1] m8) [1] 0 9 m6) [1] 2 m2)) [1] 5 m := pr_eatsD hD (zc0 (pr_failsD hD (dd_num hD hX)))
theorem dd_71 {Φ : Int → aj_M → Prop} (hD : prD m) (r9 : rI (m [1] 9)) (hX : lDX (fun m' => hX12_works_106 f Φ f [1] m') m) : hX12_works_71 f Φ [1] m := by
  have d22 : ∀ v, hX12_readGroup_22 f (fun m1 => wX12_eats f (fun z2 m2 => rI z2 ∧ (¬ z2 = 0 → wX12_takes f (fun z3 m3 => ∀ m4, m4 = aj_u m3 [4, 1] (62 : Int).toNat z3 → wX12_closes f (fun m5 => hX12_works_106 f Φ f [1] m5) [1] m4) [1] 0 9 m2) ∧ (z2 = 0 → wX12_fails f (fun m6 => wX12_takes f (fun z6 m7 => ∀ m8, m8 = aj_u m7 [4, 1] (62 : Int).toNat z6 → wX12_closes f (fun m9 => hX12_works_106 f Φ f [1] m9) [1] m8) [1] 0 9 m6) [1] 2 m2)) [1] 5 m1) [1] v m := fun v => ⟨hD.1, fun x => absurd x hD.2, fun _ => dd_tw hD hX⟩
  refine ⟨r9, pX12_within ⟨by omega, by omega⟩ (by decide) (by decide) ?_⟩
  by_cases g : 1 ≤ m [1] 9 ∧ m [1] 9 ≤ 4
  · rw [if_pos g]
    exact zc1 (d22 _)
  · rw [if_neg g]
    exact zc0 (pr_failsD hD (d22 _))
theorem lC_62 {v : Int} (h : lC m T n b c P pl) (h6 : P 6 ≤ 12) : lC (aj_u m [3, 0, 0] 2 v) T n b c (tup P 62 v) pl := by
  have h12 : ∀ j : Nat, (j : Int) < P 6 → j < 12 := fun j hj => by omega
  obtain ⟨hc, ⟨h1, h2, h3, h4, h5, h6, h7, h8⟩, hpl⟩ := h
  have o : ∀ p, p ≠ [3, 0, 0] → aj_u m [3, 0, 0] 2 v p = m p := fun p hp => zu_off hp
  have e3 : ∀ j, j ≠ 2 → aj_u m [3, 0, 0] 2 v [3, 0, 0] j = m [3, 0, 0] j := fun j hj => by rw [zu_tup, tup_o hj]
  refine ⟨pcC_off hc (fun j _ => by rw [o _ (by decide)]) (o _ (by decide)) (by rw [o _ (by decide)]) (o _ (by decide)), ⟨?_, by rw [zu_tup, tup_s, tup_s], by rw [e3 3 (by omega), tup_o (by omega)]; exact h3, by rw [e3 4 (by omega), tup_o (by omega)]; exact h4, by rw [e3 5 (by omega), tup_o (by omega)]; exact h5, ?_, fun j hj => ?_, ?_⟩, by rw [o _ (by decide)]; exact hpl⟩
  · rw [tup_o (by omega), tup_o (by omega), tup_o (by omega), tup_o (by omega)]
    exact gC_off h1 (o _ (by decide)) (o _ (by decide)) (o _ (by decide)) (o _ (by decide))
  · rw [e3 6 (by omega)]
    unfold lHv
    rw [tup_o (by omega)]
    obtain ⟨H, a1, a2, a3⟩ := h6
    exact ⟨H, a1, a2, fun j hj => by have := h12 j hj; rw [tup_o (by omega)]; exact a3 j hj⟩
  · rw [tup_o (by omega)] at hj
    have := h12 j hj
    rw [o _ (by decide), o _ (by decide), o _ (by decide), tup_o (by omega), tup_o (by omega), tup_o (by omega)]
    exact h7 j hj
  · unfold lGs
    rw [o _ (by decide), tup_o (by omega), tup_o (by omega), tup_o (by omega), tup_o (by omega), tup_o (by omega), tup_o (by omega)]
    exact h8
theorem lI_62 {b b' : Nat} {v : Int} (I : lI P c b) (h : 1 ≤ b') (hv : 0 ≤ v ∧ v ≤ 9) : lI (tup (tup P 62 v) 0 1) c b' := by
  obtain ⟨i1, i2, i3, i4, i5, i6, i7, i8, i9, i10⟩ := I
  refine ⟨by rw [tup_o (by omega), tup_o (by omega), tup_o (by omega), tup_o (by omega), tup_o (by omega), tup_o (by omega), tup_o (by omega), tup_o (by omega)]; exact i1, by rw [tup_o (by omega), tup_o (by omega)]; exact i2, by rw [tup_o (by omega), tup_o (by omega)]; exact i3, fun j hj => ?_, lLw_o i5 (by rw [tup_o (by omega), tup_o (by omega)]) (by rw [tup_o (by omega), tup_o (by omega)]) (by rw [tup_o (by omega), tup_o (by omega)]), lLw_o i6 (by rw [tup_o (by omega), tup_o (by omega)]) (by rw [tup_o (by omega), tup_o (by omega)]) (by rw [tup_o (by omega), tup_o (by omega)]), by rw [tup_o (by omega), tup_o (by omega)]; exact i7, by rw [tup_o (by omega), tup_o (by omega)]; exact i8, by rw [tup_o (by omega), tup_s]; exact hv, by rw [tup_s]; omega⟩
  rw [tup_o (by omega), tup_o (by omega)] at hj
  have e : ∀ k, k ≠ 0 → k ≠ 62 → tup (tup P 62 v) 0 1 k = P k := fun k a1 a2 => by rw [tup_o a1, tup_o a2]
  rw [e 1 (by omega) (by omega), e 2 (by omega) (by omega), e 3 (by omega) (by omega), e 4 (by omega) (by omega), e 5 (by omega) (by omega), e (13 + j) (by omega) (by omega), e (25 + j) (by omega) (by omega), e (37 + j) (by omega) (by omega), e (49 + j) (by omega) (by omega)]
  exact i4 j hj
def gdH (n : Nat) : (Nat × List Int × (Nat → Int) × Int) ⊕ (Int × Int) → Prop
  | .inl (b', c', P', pl') => b' ≤ n ∧ c' = [] ∧ pl' = 0 ∧ lI P' [] b'
  | .inr (k, a) => (1 ≤ k ∧ k ≤ 4) ∧ 0 ≤ a ∧ a ≤ 900
theorem hd_head (O : tpOK f T n) : ∃ r, gdH n r ∧ (∀ (Φ : Int → aj_M → Prop) (m : aj_M), lC m T n 0 [] pP0 0 → lcC Φ m T n r → wX7_readHead f Φ [0, 0] m) ∧ (∀ (Φ : Int → aj_M → Prop) (m : aj_M), lR m T n 0 [] pP0 0 → lcR (fun m' => hX12_works_106 f Φ f [1] m') m T n r → wX12_eats f (fun z4 m10 => rI z4 ∧ (¬ z4 = 0 → hX12_works_71 f Φ [1] m10) ∧ (z4 = 0 → wX12_fails f (fun m11 => hX12_works_71 f Φ [1] m11) [1] 2 m10)) [1] 0 m) := by
  have hf := O.1
  have hn := O.2.2
  have b0 : 0 ≤ n := Nat.zero_le _
  have hE := tkE_b (T := T) b0
  by_cases g0 : tkK T n 0 = 0
  · obtain ⟨hE1, hE2⟩ := tk_more (T := T) b0 (by omega)
    have b1 := hE.2
    generalize eb1 : tkE T n 0 = B1 at hE1 b1 hE
    obtain ⟨r1, k1, k2, k3⟩ := hd_group (T := T) O b1
    have goC : ∀ (Φ : Int → aj_M → Prop) (m : aj_M), lC m T n 0 [] pP0 0 → _ → wX7_readHead f Φ [0, 0] m := fun Φ m h (hK : ∀ m1, lFC m m1 → lC m1 T n B1 [] pP0 0 → wX7_readKind f (fun z2 m2 => rI z2 ∧ (z2 = 0 → Φ 0 m2) ∧ (¬ (z2 = 0) → wX7_take f (fun z3 m3 => rI z3 ∧ (¬ z3 = 0 → wX7_takeNumber f (fun z4 m4 => ∀ m5, m5 = aj_u m4 [3, 0, 0] 2 z4 → ∀ m6, m6 = aj_u m5 [3, 0, 0] 5 1 → rI (m6 [3, 0, 0] 2) ∧ ((m6 [3, 0, 0] 2) < 0 → Φ 0 m6) ∧ (¬ ((m6 [3, 0, 0] 2) < 0) → wX7_take f (fun z5 m7 => rI z5 ∧ (z5 = 0 → Φ 0 m7) ∧ (¬ (z5 = 0) → Φ 1 m7)) [0, 0] 59 m6)) [0, 0] 0 9 m3) ∧ (z3 = 0 → Φ 0 m3)) [0, 0] 205 m2)) [0, 0] m1) => pc_take (k := 0) O b0 h.1 (Or.inl (by omega)) (by decide) (fun _ m1 f1 p1 => zb1 (hK m1 (lFC_p f1) (lC_s h f1 (by rw [eb1] at p1; exact p1)))) (fun x => absurd g0 x)
    have goR : ∀ (Φ : Int → aj_M → Prop) (m : aj_M), lR m T n 0 [] pP0 0 → (∀ m1, lFR m m1 → lR m1 T n B1 [] pP0 0 → hX12_works_71 f Φ [1] m1) → wX12_eats f (fun z4 m10 => rI z4 ∧ (¬ z4 = 0 → hX12_works_71 f Φ [1] m10) ∧ (z4 = 0 → wX12_fails f (fun m11 => hX12_works_71 f Φ [1] m11) [1] 2 m10)) [1] 0 m := fun Φ m h hK => pr_eats O b0 h.1 (Or.inl (by omega)) (fun _ m1 f1 p1 => zc1 (hK m1 (lFR_p f1) (lR_s h f1 (by rw [eb1] at p1; exact p1)))) (fun x => absurd g0 x)
    rcases r1 with ⟨B2, c2, P2, pl2⟩ | ⟨x1, a1⟩
    · obtain ⟨q1, q2, rfl, rfl, I2⟩ := k1
      have hEc := tkE_b (T := T) q2
      have z6 : P2 6 ≤ 12 := I2.2.2.1.2
      by_cases g1 : tkK T n B2 = 5
      · obtain ⟨hE3, hE4⟩ := tk_more (T := T) q2 (by omega)
        have b3 := hEc.2
        generalize eb3 : tkE T n B2 = B3 at hE3 b3 hEc
        have hEd := tkE_b (T := T) b3
        have goC2 : ∀ (Φ : Int → aj_M → Prop) (m : aj_M), lC m T n 0 [] pP0 0 → (∀ m3, lFC m m3 → lC m3 T n B3 [] P2 0 → wX7_takeNumber f (fun z4 m4 => ∀ m5, m5 = aj_u m4 [3, 0, 0] 2 z4 → ∀ m6, m6 = aj_u m5 [3, 0, 0] 5 1 → rI (m6 [3, 0, 0] 2) ∧ ((m6 [3, 0, 0] 2) < 0 → Φ 0 m6) ∧ (¬ ((m6 [3, 0, 0] 2) < 0) → wX7_take f (fun z5 m7 => rI z5 ∧ (z5 = 0 → Φ 0 m7) ∧ (¬ (z5 = 0) → Φ 1 m7)) [0, 0] 59 m6)) [0, 0] 0 9 m3) → wX7_readHead f Φ [0, 0] m := by
          intro Φ m h hK
          refine goC Φ m h (fun m1 f1 l1 => k2 _ m1 l1 (fun m2 f2 l2 => zb1 (pc_take (k := 5) O q2 l2.1 (Or.inl (by omega)) (by decide) (fun _ m3 f3 p3 => zc1 ?_) (fun x => absurd g1 x))))
          rw [eb3] at p3
          exact hK m3 (lFC_t f1 (lFC_t f2 (lFC_p f3))) (lC_s l2 f3 p3)
        have goR2 : ∀ (Φ : Int → aj_M → Prop) (m : aj_M), lR m T n 0 [] pP0 0 → (∀ m3, lFR m m3 → lR m3 T n B3 [] P2 0 → wX12_takes f (fun z3 m3 => ∀ m4, m4 = aj_u m3 [4, 1] (62 : Int).toNat z3 → wX12_closes f (fun m5 => hX12_works_106 f Φ f [1] m5) [1] m4) [1] 0 9 m3) → wX12_eats f (fun z4 m10 => rI z4 ∧ (¬ z4 = 0 → hX12_works_71 f Φ [1] m10) ∧ (z4 = 0 → wX12_fails f (fun m11 => hX12_works_71 f Φ [1] m11) [1] 2 m10)) [1] 0 m := by
          intro Φ m h hK
          refine goR Φ m h (fun m1 f1 l1 => k3 _ m1 l1 (fun m2 f2 l2 => pr_eats O q2 l2.1 (Or.inl (by omega)) (fun _ m3 f3 p3 => zc1 ?_) (fun x => absurd g1 x)))
          rw [eb3] at p3
          exact hK m3 (lFR_t f1 (lFR_t f2 (lFR_p f3))) (lR_s l2 f3 p3)
        by_cases g2 : tkK T n B3 = 23
        · have hN := tkN_b g2
          by_cases g3 : tkN T n B3 ≤ 9
          · obtain ⟨hE5, hE6⟩ := tk_more (T := T) b3 (by omega)
            have b4 := hEd.2
            generalize eb4 : tkE T n B3 = B4 at hE5 b4 hEd
            generalize ew : tkN T n B3 = w at hN g3
            have hEe := tkE_b (T := T) b4
            have goC3 : ∀ (Φ : Int → aj_M → Prop) (m : aj_M), lC m T n 0 [] pP0 0 → (∀ m3, lFC m m3 → lC m3 T n B4 [] (tup (tup P2 62 w) 0 1) 0 → wX7_take f (fun z5 m7 => rI z5 ∧ (z5 = 0 → Φ 0 m7) ∧ (¬ (z5 = 0) → Φ 1 m7)) [0, 0] 59 m3) → wX7_readHead f Φ [0, 0] m := by
              intro Φ m h hK
              refine goC2 Φ m h (fun m3 f3 l3 => pc_num O b3 l3.1 (by decide) (by decide) (fun _ _ _ m4 f4 p4 => ?_) (fun _ x => absurd (by omega) x) (fun x => absurd g2 x))
              rw [eb4] at p4
              rw [ew]
              rintro _ rfl
              rintro _ rfl
              have l4 := lC_0 (v := 1) (lC_62 (v := w) (lC_s l3 f4 p4) z6)
              have e2 : aj_u (aj_u m4 [3, 0, 0] 2 w) [3, 0, 0] 5 1 [3, 0, 0] 2 = w := by rw [zu_tup, tup_o (by omega), zu_tup, tup_s]
              rw [e2]
              exact ⟨⟨by omega, by omega⟩, fun x => by omega, fun _ => hK _ (lFC_u (lFC_u (lFC_t f3 (lFC_p f4)) (by decide)) (by decide)) l4⟩
            have goR3 : ∀ (Φ : Int → aj_M → Prop) (m : aj_M), lR m T n 0 [] pP0 0 → (∀ m3, lFR m m3 → lR m3 T n B4 [] (tup P2 62 w) 0 → wX12_closes f (fun m5 => hX12_works_106 f Φ f [1] m5) [1] m3) → wX12_eats f (fun z4 m10 => rI z4 ∧ (¬ z4 = 0 → hX12_works_71 f Φ [1] m10) ∧ (z4 = 0 → wX12_fails f (fun m11 => hX12_works_71 f Φ [1] m11) [1] 2 m10)) [1] 0 m := by
              intro Φ m h hK
              refine goR2 Φ m h (fun m3 f3 l3 => pr_takes O b3 l3.1 (by decide) (by decide) (fun _ _ _ m4 f4 p4 => ?_) (fun _ x => absurd (by omega) x) (fun x => absurd g2 x))
              rw [eb4] at p4
              rw [ew]
              rintro _ rfl
              exact hK _ (lFR_4 (lFR_t f3 (lFR_p f4))) (lR_u (lR_s l3 f4 p4) (by decide))
            by_cases g4 : tkK T n B4 = 30
            · obtain ⟨hE7, hE8⟩ := tk_more (T := T) b4 (by omega)
              refine ⟨.inl (tkE T n B4, [], tup (tup P2 62 w) 0 1, 0), ⟨hEe.2, rfl, rfl, lI_62 I2 (by omega) ⟨hN.1, g3⟩⟩, fun Φ m h hΦ => goC3 Φ m h (fun m3 f3 l3 => ?_), fun Φ m h hΨ => goR3 Φ m h (fun m3 f3 l3 => ?_)⟩
              · exact pc_take (k := 30) O b4 l3.1 (Or.inr (by omega)) (by decide) (fun _ m4 f4 p4 => zb1 (hΦ m4 (lFC_t f3 (lFC_p f4)) (lC_s l3 f4 p4))) (fun x => absurd g4 x)
              · refine pr_eats O b4 l3.1 (Or.inr (by omega)) (fun _ m4 f4 p4 => zc1 ?_) (fun x => absurd g4 x)
                rintro _ rfl
                have l4 := lR_s l3 f4 p4
                have e0 : m4 [4, 1] 0 = 0 := by
                  rw [l4.2.1 0 (by omega), tup_o (by omega)]
                  have := I2.2.2.2.2.2.2.2.2.2
                  omega
                rw [show (0 : Int).toNat = 0 from rfl, e0]
                exact hΨ _ (lFR_4 (lFR_t f3 (lFR_p f4))) (lR_u l4 (by omega))
            · refine ⟨.inr (tkF T n B4 2, (tkA T n B4 : Nat)), ⟨tkF_g (by omega), tkA_g hn b4⟩, fun Φ m h hΦ => goC3 Φ m h (fun m3 f3 l3 => ?_), fun Φ m h hΨ => goR3 Φ m h (fun m3 f3 l3 => ?_)⟩
              · exact pc_take (k := 30) O b4 l3.1 (Or.inr (by omega)) (by decide) (fun x => absurd x g4) (fun _ m4 f4 p4 => zb0 (hΦ m4 (lFC_t f3 (lFC_p f4)) p4))
              · refine pr_eats O b4 l3.1 (Or.inr (by omega)) (fun x => absurd x g4) (fun _ => zc0 (pr_fails l3.1 (fun m4 f4 p4 => ?_)))
                rintro _ rfl
                exact hΨ _ (lFR_4 (lFR_t f3 (lFR_p f4))) (prX_u p4)
          · refine ⟨.inr (3, (tkA T n B3 : Nat)), ⟨by omega, tkA_g hn b3⟩, fun Φ m h hΦ => goC2 Φ m h (fun m3 f3 l3 => ?_), fun Φ m h hΨ => goR2 Φ m h (fun m3 f3 l3 => ?_)⟩
            · refine pc_num O b3 l3.1 (by decide) (by decide) (fun _ _ x => absurd x g3) (fun _ _ m4 f4 p4 => ?_) (fun x => absurd g2 x)
              rintro _ rfl
              rintro _ rfl
              have e2 : aj_u (aj_u m4 [3, 0, 0] 2 (-1)) [3, 0, 0] 5 1 [3, 0, 0] 2 = -1 := by rw [zu_tup, tup_o (by omega), zu_tup, tup_s]
              rw [e2]
              refine ⟨by decide, fun _ => hΦ _ (lFC_u (lFC_u (lFC_t f3 (lFC_p f4)) (by decide)) (by decide)) ?_, fun x => absurd (by decide) x⟩
              unfold pcX
              rw [zu_off (by decide), zu_off (by decide)]
              exact p4
            · refine pr_takes O b3 l3.1 (by decide) (by decide) (fun _ _ x => absurd x g3) (fun _ _ m4 z f4 p4 => ?_) (fun x => absurd g2 x)
              rintro _ rfl
              exact dd_closes (prD_u (prX_D p4 (by omega))) (lDX_u (fun m' f' x' => hΨ m' (lFR_t f3 (lFR_t (lFR_p f4) f')) (x' _ _ p4)))
        · refine ⟨.inr (tkF T n B3 2, (tkA T n B3 : Nat)), ⟨tkF_g (by omega), tkA_g hn b3⟩, fun Φ m h hΦ => goC2 Φ m h (fun m3 f3 l3 => ?_), fun Φ m h hΨ => goR2 Φ m h (fun m3 f3 l3 => ?_)⟩
          · refine pc_num O b3 l3.1 (by decide) (by decide) (fun x => absurd x g2) (fun x => absurd x g2) (fun _ m4 f4 p4 => ?_)
            rintro _ rfl
            rintro _ rfl
            have e2 : aj_u (aj_u m4 [3, 0, 0] 2 (-1)) [3, 0, 0] 5 1 [3, 0, 0] 2 = -1 := by rw [zu_tup, tup_o (by omega), zu_tup, tup_s]
            rw [e2]
            refine ⟨by decide, fun _ => hΦ _ (lFC_u (lFC_u (lFC_t f3 (lFC_p f4)) (by decide)) (by decide)) ?_, fun x => absurd (by decide) x⟩
            unfold pcX
            rw [zu_off (by decide), zu_off (by decide)]
            exact p4
          · refine pr_takes O b3 l3.1 (by decide) (by decide) (fun x => absurd x g2) (fun x => absurd x g2) (fun _ m4 z f4 p4 => ?_)
            rintro _ rfl
            exact dd_closes (prD_u (prX_D p4 (tkF_g (by omega)))) (lDX_u (fun m' f' x' => hΨ m' (lFR_t f3 (lFR_t (lFR_p f4) f')) (x' _ _ p4)))
      · refine ⟨.inr (tkF T n B2 2, (tkA T n B2 : Nat)), ⟨tkF_g (by omega), tkA_g hn q2⟩, fun Φ m h hΦ => ?_, fun Φ m h hΨ => ?_⟩
        · exact goC Φ m h (fun m1 f1 l1 => k2 _ m1 l1 (fun m2 f2 l2 => zb1 (pc_take (k := 5) O q2 l2.1 (Or.inl (by omega)) (by decide) (fun x => absurd x g1) (fun _ m3 f3 p3 => zc0 (hΦ m3 (lFC_t f1 (lFC_t f2 (lFC_p f3))) p3)))))
        · refine goR Φ m h (fun m1 f1 l1 => k3 _ m1 l1 (fun m2 f2 l2 => pr_eats O q2 l2.1 (Or.inl (by omega)) (fun x => absurd x g1) (fun _ => zc0 (pr_fails l2.1 (fun m3 f3 p3 => ?_)))))
          exact dd_num (prX_D p3 (tkF_g (by omega))) (fun m' f' x' => hΨ m' (lFR_t f1 (lFR_t f2 (lFR_t (lFR_p f3) f'))) (x' _ _ p3))
    · refine ⟨.inr (x1, a1), k1, fun Φ m h hΦ => ?_, fun Φ m h hΨ => ?_⟩
      · exact goC Φ m h (fun m1 f1 l1 => k2 _ m1 l1 (fun m2 f2 l2 => zb0 (hΦ m2 (lFC_t f1 f2) l2)))
      · exact goR Φ m h (fun m1 f1 l1 => k3 _ m1 l1 (fun m2 f2 l2 => dd_tw (prX_D l2 k1.1) (fun m' f' x' => hΨ m' (lFR_t f1 (lFR_t f2 f')) (x' _ _ l2))))
  · refine ⟨.inr (tkF T n 0 2, (tkA T n 0 : Nat)), ⟨tkF_g (by omega), tkA_g hn b0⟩, fun Φ m h hΦ => ?_, fun Φ m h hΨ => ?_⟩
    · exact pc_take (k := 0) O b0 h.1 (Or.inl (by omega)) (by decide) (fun x => absurd x g0) (fun _ m1 f1 p1 => zb0 (hΦ m1 (lFC_p f1) p1))
    · refine pr_eats O b0 h.1 (Or.inl (by omega)) (fun x => absurd x g0) (fun _ => zc0 (pr_fails2 h.1 (fun m1 f1 p1 r9 => ?_)))
      exact dd_71 (prX_D p1 (tkF_g (by omega))) r9 (fun m' f' x' => hΨ m' (lFR_t (lFR_p f1) f') (x' _ _ p1))
end HDH
