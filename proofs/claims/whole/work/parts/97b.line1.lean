/-! A LINE WITH AN ARC, A HALF -/
def lAd (P : Nat → Int) (a : Nat) (u w g h : Int) : Nat → Int := tup (tup (tup (tup (tup P (13 + a) u) (25 + a) w) (49 + a) g) (37 + a) h) 6 ((a : Int) + 1)
theorem lAd_o {P : Nat → Int} {a : Nat} {u w g h : Int} {j : Nat} (h1 : j ≠ 13 + a) (h2 : j ≠ 25 + a) (h3 : j ≠ 49 + a) (h4 : j ≠ 37 + a) (h5 : j ≠ 6) : lAd P a u w g h j = P j := by
  unfold lAd
  rw [tup_o h5, tup_o h4, tup_o h3, tup_o h2, tup_o h1]
theorem lAd_6 {P : Nat → Int} {a : Nat} {u w g h : Int} : lAd P a u w g h 6 = (a : Int) + 1 := tup_s
theorem lAd_13 {P : Nat → Int} {a : Nat} {u w g h : Int} (ha : a < 12) : lAd P a u w g h (13 + a) = u ∧ lAd P a u w g h (25 + a) = w ∧ lAd P a u w g h (37 + a) = h ∧ lAd P a u w g h (49 + a) = g := by
  unfold lAd
  refine ⟨?_, ?_, ?_, ?_⟩
  · rw [tup_o (by omega), tup_o (by omega), tup_o (by omega), tup_o (by omega), tup_s]
  · rw [tup_o (by omega), tup_o (by omega), tup_o (by omega), tup_s]
  · rw [tup_o (by omega), tup_s]
  · rw [tup_o (by omega), tup_o (by omega), tup_s]
theorem lAd_I {P : Nat → Int} {c : List Int} {b a : Nat} {u w g h : Int} (I : lI P c b) (ea : P 6 = a) (ha : a < 12) (hu : 0 ≤ u ∧ u < P 5) (hw : 0 ≤ w ∧ w < P 5) (hg : 0 ≤ g ∧ g < P 4) (hh : h = 0 ∨ (h = 1 ∧ gO (P 1) (P 2) (P 3) g = 2)) : lI (lAd P a u w g h) c b := by
  obtain ⟨i1, i2, i3, i4, i5, i6, i7, i8, i9, i10⟩ := I
  have o : ∀ j, j < 13 ∨ 60 < j → j ≠ 6 → lAd P a u w g h j = P j := fun j h1 h2 => lAd_o (by omega) (by omega) (by omega) (by omega) h2
  obtain ⟨q1, q2, q3, q4⟩ := lAd_13 (P := P) (u := u) (w := w) (g := g) (h := h) ha
  refine ⟨by rw [o 1 (by omega) (by omega), o 2 (by omega) (by omega), o 3 (by omega) (by omega), o 4 (by omega) (by omega)]; exact i1, by rw [o 5 (by omega) (by omega)]; exact i2, by rw [lAd_6]; omega, fun j hj => ?_, lLw_o i5 (o _ (by omega) (by omega)) (o _ (by omega) (by omega)) (o _ (by omega) (by omega)), lLw_o i6 (o _ (by omega) (by omega)) (o _ (by omega) (by omega)) (o _ (by omega) (by omega)), by rw [o 61 (by omega) (by omega)]; exact i7, by rw [o 63 (by omega) (by omega)]; exact i8, by rw [o 62 (by omega) (by omega)]; exact i9, by rw [o 0 (by omega) (by omega)]; exact i10⟩
  rw [lAd_6] at hj
  rw [o 1 (by omega) (by omega), o 2 (by omega) (by omega), o 3 (by omega) (by omega), o 4 (by omega) (by omega), o 5 (by omega) (by omega)]
  by_cases e : j = a
  · subst e
    rw [q1, q2, q3, q4]
    exact ⟨hu, hw, hh, hg⟩
  · rw [lAd_o (j := 13 + j) (by omega) (by omega) (by omega) (by omega) (by omega), lAd_o (j := 25 + j) (by omega) (by omega) (by omega) (by omega) (by omega), lAd_o (j := 37 + j) (by omega) (by omega) (by omega) (by omega) (by omega), lAd_o (j := 49 + j) (by omega) (by omega) (by omega) (by omega) (by omega)]
    exact i4 j (by omega)
section LNA
variable {f n b : Nat} {T : Nat → Int} {c : List Int} {P : Nat → Int} {pl : Int}
theorem pX6_addArcL {Φ : aj_M → Prop} {m m0 : aj_M} {a : Nat} {u g h : Int} {w : Int} (I : lI P c b) (hC : lC m T n b c P pl) (f0 : lFC m0 m) (ea : P 6 = a) (ha : a < 12) (hh : h = 0 ∨ h = 1) (hK : ∀ m', lFC m0 m' → lC m' T n b c (lAd P a u w g h) pl → Φ m') : wX6_addArc f Φ [3, 0, 0] u w g h m := by
  obtain ⟨hc, ⟨h1, h2, h3, h4, h5, ⟨H, k1, k2, k3⟩, h7, h8⟩, hpl⟩ := hC
  have h4a : m [3, 0, 0] 4 = a := h4.trans ea
  rw [ea] at k2 k3
  rw [Int.toNat_natCast] at k2
  have k2' : H < 2 ^ 12 := Nat.lt_of_lt_of_le k2 (Nat.pow_le_pow_right (by decide) (by omega))
  have last : ∀ (x : Int) (H' : Nat), x = H' → H' < 2 ^ (a + 1) → (∀ j, j < a → H'.testBit j = H.testBit j) → H'.testBit a = decide (h = 1) → Φ (aj_u (aj_u (aj_u (aj_u (aj_u m [7, 3, 0, 0] a u) [8, 3, 0, 0] a w) [9, 3, 0, 0] a g) [3, 0, 0] 6 x) [3, 0, 0] 4 ((a : Int) + 1)) := by
    intro x H' hx hH hlo hat
    generalize hm' : aj_u (aj_u (aj_u (aj_u (aj_u m [7, 3, 0, 0] a u) [8, 3, 0, 0] a w) [9, 3, 0, 0] a g) [3, 0, 0] 6 x) [3, 0, 0] 4 ((a : Int) + 1) = m'
    have off : ∀ p, p ≠ [3, 0, 0] → p ≠ [7, 3, 0, 0] → p ≠ [8, 3, 0, 0] → p ≠ [9, 3, 0, 0] → m' p = m p := fun p a1 a2 a3 a4 => by
      rw [← hm', zu_off a1, zu_off a1, zu_off a4, zu_off a3, zu_off a2]
    have e3 : ∀ j, j ≠ 6 → j ≠ 4 → m' [3, 0, 0] j = m [3, 0, 0] j := fun j a1 a2 => by
      rw [← hm', zu_tup, tup_o a2, zu_tup, tup_o a1, zu_off (by decide), zu_off (by decide), zu_off (by decide)]
    have e4 : m' [3, 0, 0] 4 = (a : Int) + 1 := by rw [← hm', zu_tup, tup_s]
    have e6 : m' [3, 0, 0] 6 = x := by rw [← hm', zu_tup, tup_o (by omega), zu_tup, tup_s]
    have e7 : m' [7, 3, 0, 0] = tup (m [7, 3, 0, 0]) a u := by rw [← hm', zu_off (by decide), zu_off (by decide), zu_off (by decide), zu_off (by decide), zu_tup]
    have e8 : m' [8, 3, 0, 0] = tup (m [8, 3, 0, 0]) a w := by rw [← hm', zu_off (by decide), zu_off (by decide), zu_off (by decide), zu_tup, zu_off (by decide)]
    have e9 : m' [9, 3, 0, 0] = tup (m [9, 3, 0, 0]) a g := by rw [← hm', zu_off (by decide), zu_off (by decide), zu_tup, zu_off (by decide), zu_off (by decide)]
    have fr : lFC m0 m' := by
      rw [← hm']
      exact lFC_u (lFC_u (lFC_u (lFC_u (lFC_u f0 (by decide)) (by decide)) (by decide)) (by decide)) (by decide)
    have o : ∀ j, j < 13 ∨ 60 < j → j ≠ 6 → lAd P a u w g h j = P j := fun j h1 h2 => lAd_o (by omega) (by omega) (by omega) (by omega) h2
    obtain ⟨q1, q2, q3, q4⟩ := lAd_13 (P := P) (u := u) (w := w) (g := g) (h := h) ha
    refine hK m' fr ⟨pcC_off hc (fun j _ => by rw [off _ (by decide) (by decide) (by decide) (by decide)]) (off _ (by decide) (by decide) (by decide) (by decide)) (by rw [off _ (by decide) (by decide) (by decide) (by decide)]) (off _ (by decide) (by decide) (by decide) (by decide)), ⟨?_, ?_, ?_, ?_, ?_, ?_, fun j hj => ?_, ?_⟩, by rw [off _ (by decide) (by decide) (by decide) (by decide)]; exact hpl⟩
    · rw [o 1 (by omega) (by omega), o 2 (by omega) (by omega), o 3 (by omega) (by omega), o 4 (by omega) (by omega)]
      exact gC_off h1 (off _ (by decide) (by decide) (by decide) (by decide)) (off _ (by decide) (by decide) (by decide) (by decide)) (off _ (by decide) (by decide) (by decide) (by decide)) (off _ (by decide) (by decide) (by decide) (by decide))
    · rw [e3 2 (by omega) (by omega), o 62 (by omega) (by omega)]; exact h2
    · rw [e3 3 (by omega) (by omega), o 5 (by omega) (by omega)]; exact h3
    · rw [e4, lAd_6]
    · rw [e3 5 (by omega) (by omega), o 0 (by omega) (by omega)]; exact h5
    · rw [e6]
      unfold lHv
      rw [lAd_6]
      refine ⟨H', hx, by rw [show ((a : Int) + 1).toNat = a + 1 by omega]; exact hH, fun j hj => ?_⟩
      by_cases e : j = a
      · subst e
        rw [hat, q3]
      · rw [lAd_o (by omega) (by omega) (by omega) (by omega) (by omega), hlo j (by omega)]
        exact k3 j (by omega)
    · rw [lAd_6] at hj
      rw [e7, e8, e9]
      by_cases e : j = a
      · subst e
        rw [tup_s, tup_s, tup_s, q1, q2, q4]
        exact ⟨rfl, rfl, rfl⟩
      · rw [tup_o e, tup_o e, tup_o e, lAd_o (j := 13 + j) (by omega) (by omega) (by omega) (by omega) (by omega), lAd_o (j := 25 + j) (by omega) (by omega) (by omega) (by omega) (by omega), lAd_o (j := 49 + j) (by omega) (by omega) (by omega) (by omega) (by omega)]
        exact h7 j (by omega)
    · unfold lGs
      rw [off _ (by decide) (by decide) (by decide) (by decide), o 7 (by omega) (by omega), o 8 (by omega) (by omega), o 9 (by omega) (by omega), o 10 (by omega) (by omega), o 11 (by omega) (by omega), o 12 (by omega) (by omega)]
      exact h8
  have hbit : H.testBit a = false := Nat.testBit_lt_two_pow k2
  unfold wX6_addArc
  rw [h4a]
  refine ⟨⟨by omega, by omega⟩, fun _ => ⟨⟨by omega, by omega⟩, ?_⟩, fun x => by omega⟩
  rintro _ rfl
  rw [Int.toNat_natCast, zu_off (by decide), h4a]
  refine ⟨⟨by omega, by omega⟩, ?_⟩
  rintro _ rfl
  rw [Int.toNat_natCast, zu_off (by decide), zu_off (by decide), h4a]
  refine ⟨⟨by omega, by omega⟩, ?_⟩
  rintro _ rfl
  rw [Int.toNat_natCast, zu_off (by decide), zu_off (by decide), zu_off (by decide)]
  refine ⟨⟨by omega, by omega⟩, fun x => ?_, fun x => ?_⟩
  · rintro _ rfl
    rintro _ rfl
    have e0 : aj_or (H : Int) 0 = (H : Int) := (zi_or (n := H) (k := 0) (by omega) (by omega)).trans (by rw [Nat.or_zero])
    rw [k1, e0]
    have := last (H : Int) H rfl (Nat.lt_of_lt_of_le k2 (Nat.pow_le_pow_right (by decide) (by omega))) (fun j _ => rfl) (by rw [hbit, x]; rfl)
    rw [zu_tup, tup_o (by omega), zu_off (by decide), zu_off (by decide), zu_off (by decide), h4a]
    exact this
  · rintro _ rfl
    rintro _ rfl
    have h1' : h = 1 := by omega
    rw [k1, h4a, zi_shl (by omega), zi_or (by omega) (Nat.pow_lt_pow_right (by decide) (by omega))]
    have hp : 2 ^ a < 2 ^ (a + 1) := Nat.pow_lt_pow_right (by decide) (by omega)
    have := last _ (H ||| 2 ^ a) rfl (Nat.or_lt_two_pow (Nat.lt_trans k2 hp) hp) (fun j hj => by rw [zt_or, decide_eq_false (by omega), Bool.or_false]) (by rw [zt_or, h1']; simp)
    rw [zu_tup, tup_o (by omega), zu_off (by decide), zu_off (by decide), zu_off (by decide), h4a]
    exact this
/-- the last number of the line -/
theorem ln_last (O : tpOK f T n) {b0 a : Nat} (hb0 : b0 ≤ n) (hbb : b ≤ b0) (hc : c.length ≤ b0) (I : lI P c b) (hpl : pl = 0 ∨ pl = 1) (ea : P 6 = a) (ha : a < 12) (u w h : Int) (hu : 0 ≤ u ∧ u < P 5) (hw : 0 ≤ w ∧ w < P 5) (hh : h = 0 ∨ h = 1) (hord : tkK T n b0 = 23 → 0 ≤ tkN T n b0 → tkN T n b0 < P 4 → h = 1 → gO (P 1) (P 2) (P 3) (tkN T n b0) = 2) : ∃ r, gdL n b r ∧ (∀ (Φ : Int → aj_M → Prop) (m0 m : aj_M), lFC m0 m → lC m T n b0 c P pl → lcC Φ m0 T n r → wX7_takeNumber f (fun z1 m1 => rI z1 ∧ (0 ≤ z1 → wX6_addArc f (fun m2 => Φ 1 m2) [3, 0, 0] u w z1 h m1) ∧ (¬ (0 ≤ z1) → Φ 0 m1)) [0, 0] 0 (P 4 - 1) m) ∧ (∀ (Ψ : aj_M → Prop) (m0 m : aj_M), lFR m0 m → lR m T n b0 c (tup (tup P (13 + a) u) (25 + a) w) pl → lcR Ψ m0 T n r → hX12_readArc_166 f Ψ [1] (a : Int) h m) := by
  have hn := O.2.2
  have h4 := gOK_n I.1
  have hE := tkE_b (T := T) hb0
  have r4 : rI (P 4 - 1) := ⟨by omega, by omega⟩
  have e4 : ∀ {m : aj_M}, lR m T n b0 c (tup (tup P (13 + a) u) (25 + a) w) pl → m [4, 1] 4 = P 4 := fun h => by rw [h.2.1 4 (by omega), tup_o (by omega), tup_o (by omega)]
  have n49 : (49 + (a : Int)).toNat = 49 + a := by omega
  have n37 : (37 + (a : Int)).toNat = 37 + a := by omega
  -- the reference's end, once a fault is met
  have dead : ∀ (Ψ : aj_M → Prop) (m1 : aj_M) (z : Int), prD m1 → (∀ m', lFR m1 m' → (∀ k a, prX m1 k a → prX m' k a) → Ψ m') → (0 ≤ (49 + (a : Int)) ∧ (49 + (a : Int)) < 1105) ∧ ∀ m2, m2 = aj_u m1 [4, 1] (49 + (a : Int)).toNat z → rI h ∧ (h = 0 → (0 ≤ (37 + (a : Int)) ∧ (37 + (a : Int)) < 1105) ∧ ∀ m3, m3 = aj_u m2 [4, 1] (37 + (a : Int)).toNat 0 → rI (m3 [1] 11) ∧ (¬ (m3 [1] 11) = 0 → Ψ m3) ∧ ((m3 [1] 11) = 0 → ∀ m4, m4 = aj_u m3 [4, 1] (6 : Int).toNat ((m3 [4, 1] (6 : Int).toNat) + 1) → Ψ m4)) ∧ (¬ (h = 0) → (0 ≤ (37 + (a : Int)) ∧ (37 + (a : Int)) < 1105) ∧ ∀ m5, m5 = aj_u m2 [4, 1] (37 + (a : Int)).toNat 1 → rI (m5 [1] 11) ∧ (¬ (m5 [1] 11) = 0 → Ψ m5) ∧ ((m5 [1] 11) = 0 → ∀ m6, m6 = aj_u m5 [4, 1] (6 : Int).toNat ((m5 [4, 1] (6 : Int).toNat) + 1) → Ψ m6)) := by
    intro Ψ m1 z hD hK
    refine ⟨⟨by omega, by omega⟩, ?_⟩
    rintro _ rfl
    refine ⟨⟨by omega, by omega⟩, fun _ => ⟨⟨by omega, by omega⟩, ?_⟩, fun _ => ⟨⟨by omega, by omega⟩, ?_⟩⟩
    · rintro _ rfl
      have hD3 : prD (aj_u (aj_u m1 [4, 1] (49 + (a : Int)).toNat z) [4, 1] (37 + (a : Int)).toNat 0) := prD_u (prD_u hD)
      exact ⟨hD3.1, fun _ => hK _ (lFR_4 (lFR_4 lFR_r)) (fun k a x => prX_u (prX_u x)), fun x => absurd x hD3.2⟩
    · rintro _ rfl
      have hD3 : prD (aj_u (aj_u m1 [4, 1] (49 + (a : Int)).toNat z) [4, 1] (37 + (a : Int)).toNat 1) := prD_u (prD_u hD)
      exact ⟨hD3.1, fun _ => hK _ (lFR_4 (lFR_4 lFR_r)) (fun k a x => prX_u (prX_u x)), fun x => absurd x hD3.2⟩
  by_cases g1 : tkK T n b0 = 23
  · have hN := tkN_b g1
    by_cases g2 : tkN T n b0 < P 4
    · obtain ⟨hE1, hE2⟩ := tk_more (T := T) hb0 (by omega)
      refine ⟨.inl (tkE T n b0, c, lAd P a u w (tkN T n b0) h, pl), ⟨by omega, hE.2, by omega, lAd_I I ea ha hu hw ⟨hN.1, g2⟩ ?_, hpl⟩, fun Φ m0 m f0 hC hΦ => ?_, fun Ψ m0 m f0 hR hΨ => ?_⟩
      · rcases hh with x | x
        · exact Or.inl x
        · exact Or.inr ⟨x, hord g1 hN.1 g2 x⟩
      · refine pc_num O hb0 hC.1 (by decide) r4 (fun _ _ _ m1 f1 p1 => ⟨⟨by omega, by omega⟩, fun _ => ?_, fun x => by omega⟩) (fun _ x => absurd ⟨hN.1, by omega⟩ x) (fun x => absurd g1 x)
        exact pX6_addArcL (b := tkE T n b0) (I := ⟨I.1, I.2.1, I.2.2.1, I.2.2.2.1, I.2.2.2.2.1, I.2.2.2.2.2.1, I.2.2.2.2.2.2.1, I.2.2.2.2.2.2.2.1, I.2.2.2.2.2.2.2.2.1, I.2.2.2.2.2.2.2.2.2.1, by have := I.2.2.2.2.2.2.2.2.2.2; omega⟩) (lC_s hC f1 p1) (lFC_t f0 (lFC_p f1)) ea ha hh (fun m2 f2 l2 => hΦ m2 f2 l2)
      · unfold hX12_readArc_166
        rw [show (4 : Int).toNat = 4 from rfl, e4 hR]
        refine pr_takes O hb0 hR.1 (by decide) r4 (fun _ _ _ m1 f1 p1 => ⟨⟨by omega, by omega⟩, ?_⟩) (fun _ x => absurd ⟨hN.1, by omega⟩ x) (fun x => absurd g1 x)
        rintro _ rfl
        rw [n49]
        have l1 := lR_u (k := 49 + a) (v := tkN T n b0) (lR_s hR f1 p1) (by omega)
        have f1' := lFR_4 (j := 49 + a) (v := tkN T n b0) (lFR_t f0 (lFR_p f1))
        have fin : ∀ h' : Int, h' = h → ∀ m3, m3 = aj_u (aj_u m1 [4, 1] (49 + a) (tkN T n b0)) [4, 1] (37 + (a : Int)).toNat h' → rI (m3 [1] 11) ∧ (¬ (m3 [1] 11) = 0 → Ψ m3) ∧ ((m3 [1] 11) = 0 → ∀ m4, m4 = aj_u m3 [4, 1] (6 : Int).toNat ((m3 [4, 1] (6 : Int).toNat) + 1) → Ψ m4) := by
          intro h' eh
          rintro _ rfl
          rw [n37, eh]
          have l2 := lR_u (k := 37 + a) (v := h) l1 (by omega)
          have f2 := lFR_4 (j := 37 + a) (v := h) f1'
          refine ⟨by rw [l2.1.2.2.1]; decide, fun x => absurd l2.1.2.2.1 x, fun _ => ?_⟩
          rintro _ rfl
          rw [show (6 : Int).toNat = 6 from rfl]
          have e6 : aj_u (aj_u m1 [4, 1] (49 + a) (tkN T n b0)) [4, 1] (37 + a) h [4, 1] 6 = a := by
            rw [l2.2.1 6 (by omega), tup_o (by omega), tup_o (by omega), tup_o (by omega), tup_o (by omega)]
            exact ea
          rw [e6]
          exact hΨ _ (lFR_4 f2) (lR_u l2 (by omega))
        refine ⟨⟨by omega, by omega⟩, fun x => ⟨⟨by omega, by omega⟩, fin 0 x.symm⟩, fun x => ⟨⟨by omega, by omega⟩, fin 1 (by omega)⟩⟩
    · refine ⟨.inr (3, (tkA T n b0 : Nat)), ⟨by omega, tkA_g hn hb0⟩, fun Φ m0 m f0 hC hΦ => ?_, fun Ψ m0 m f0 hR hΨ => ?_⟩
      · exact pc_num O hb0 hC.1 (by decide) r4 (fun _ _ x => by omega) (fun _ _ m1 f1 p1 => ⟨by decide, fun x => absurd x (by decide), fun _ => hΦ m1 (lFC_t f0 (lFC_p f1)) p1⟩) (fun x => absurd g1 x)
      · unfold hX12_readArc_166
        rw [show (4 : Int).toNat = 4 from rfl, e4 hR]
        exact pr_takes O hb0 hR.1 (by decide) r4 (fun _ _ x => by omega) (fun _ _ m1 z f1 p1 => dead Ψ m1 z (prX_D p1 (by omega)) (fun m' f' x' => hΨ m' (lFR_t f0 (lFR_t (lFR_p f1) f')) (x' _ _ p1))) (fun x => absurd g1 x)
  · refine ⟨.inr (tkF T n b0 2, (tkA T n b0 : Nat)), ⟨tkF_g (by omega), tkA_g hn hb0⟩, fun Φ m0 m f0 hC hΦ => ?_, fun Ψ m0 m f0 hR hΨ => ?_⟩
    · exact pc_num O hb0 hC.1 (by decide) r4 (fun x => absurd x g1) (fun x => absurd x g1) (fun _ m1 f1 p1 => ⟨by decide, fun x => absurd x (by decide), fun _ => hΦ m1 (lFC_t f0 (lFC_p f1)) p1⟩)
    · unfold hX12_readArc_166
      rw [show (4 : Int).toNat = 4 from rfl, e4 hR]
      exact pr_takes O hb0 hR.1 (by decide) r4 (fun x => absurd x g1) (fun x => absurd x g1) (fun _ m1 z f1 p1 => dead Ψ m1 z (prX_D p1 (tkF_g (by omega))) (fun m' f' x' => hΨ m' (lFR_t f0 (lFR_t (lFR_p f1) f')) (x' _ _ p1)))
end LNA
