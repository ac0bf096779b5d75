/-! LINES WITH A LAW; ANY LINE: both readers -/
section LNW
variable {f n b : Nat} {T : Nat → Int} {c : List Int} {P : Nat → Int} {pl : Int}
theorem dd_Unit (hf : 1 ≤ f) {Ψ : aj_M → Prop} {d : Nat} {v : Int} {m : aj_M} (hd : 4 ≤ d) (h : prD m) (h0 : Ψ m) : rG8 f d 2 Ψ [1] v m := by
  obtain ⟨d, rfl⟩ : ∃ d', d = d' + 1 := ⟨d - 1, by omega⟩
  exact rG8_2 (pr_isD h (zb0 (pr_isD h (zb0 (dd_Sum hf (by omega) h (dd_cmp hf (by omega) h h0))))))
theorem dd_Truth (hf : 1 ≤ f) {Ψ : aj_M → Prop} {d : Nat} {v : Int} {m : aj_M} (hd : 6 ≤ d) (h : prD m) (h0 : Ψ m) : rG8 f d 0 Ψ [1] v m := by
  obtain ⟨d, rfl⟩ : ∃ d', d = d' + 1 + 1 := ⟨d - 2, by omega⟩
  exact rG8_0 (rG8_1 (dd_Unit hf (by omega) h (lpD_Both h (lpD_Truth h h0 f (by omega)) f (by omega))))
def lLa (P : Nat → Int) (lw : Nat) (x y : Int) : Nat → Int := tup (tup (tup P (7 + lw) 1) (9 + lw) x) (11 + lw) y
theorem lLa_o {lw : Nat} {x y : Int} {j : Nat} (h1 : j ≠ 7 + lw) (h2 : j ≠ 9 + lw) (h3 : j ≠ 11 + lw) : lLa P lw x y j = P j := by
  unfold lLa
  rw [tup_o h3, tup_o h2, tup_o h1]
theorem lLa_y {lw : Nat} {x y : Int} (hl : lw < 2) : lLa P lw x y (7 + lw) = 1 ∧ lLa P lw x y (9 + lw) = x ∧ lLa P lw x y (11 + lw) = y := by
  unfold lLa
  refine ⟨?_, ?_, ?_⟩
  · rw [tup_o (by omega), tup_o (by omega), tup_s]
  · rw [tup_o (by omega), tup_s]
  · rw [tup_s]
theorem ln_law (O : tpOK f T n) (hb : b ≤ n) (hc : c.length ≤ b) (I : lI P c b) (hpl : pl = 0 ∨ pl = 1) {lw t t' k D : Nat} {ty : Bool} (hlw : lw < 2) (hty : lw = 0 ∧ ty = true ∨ lw = 1 ∧ ty = false) (hN : zPN f T n t t' k D ty 0) (hk70 : 48 + k ≤ 70) (hD : D ≤ 60) (hk : tkK T n b = 10 + lw) (dd : ∀ (Ψ : aj_M → Prop) (m : aj_M), prD m → Ψ m → rG8 f 70 t' Ψ [1] 0 m) : ∃ r, gdL n b r ∧ (∀ (Φ : Int → aj_M → Prop) (m : aj_M), lC m T n b c P pl → lcC Φ m T n r → wX7_step f (fun m1 => wX7_take f (fun z2 m2 => rI z2 ∧ (z2 = 0 → Φ 0 m2) ∧ (¬ (z2 = 0) → rG7 f 70 t (fun z3 m3 => rI z3 ∧ (¬ z3 = 0 → ∀ m4, m4 = aj_u m3 [1, 3, 0, 0] (2 + 2 * lw) (m1 [1, 3, 0, 0] 1) → ∀ m5, m5 = aj_u m4 [1, 3, 0, 0] (3 + 2 * lw) (m4 [1, 3, 0, 0] 1) → Φ 1 m5) ∧ (z3 = 0 → Φ 0 m3)) [0, 0] 0 m2)) [0, 0] 58 m1) [0, 0] m) ∧ (∀ (Ψ : aj_M → Prop) (m : aj_M), lR m T n b c P pl → lcR Ψ m T n r → wX12_next f (fun m1 => wX12_eats f (fun z2 m2 => rI z2 ∧ (¬ z2 = 0 → rG8 f 70 t' (fun m3 => hX12_readLaw_45 f Ψ [1] (lw : Int) (m2 [4, 1] 204) m3) [1] 0 m2) ∧ (z2 = 0 → wX12_fails f (fun m3 => rG8 f 70 t' (fun m4 => hX12_readLaw_45 f Ψ [1] (lw : Int) (m3 [4, 1] 204) m4) [1] 0 m3) [1] 2 m2)) [1] 31 m1) [1] m) := by
  have hf := O.1
  have hn := O.2.2
  obtain ⟨hE1, hE2⟩ := tk_more (T := T) hb (by omega)
  have hE := tkE_b (T := T) hb
  have d45 : ∀ (Ψ : aj_M → Prop) (m : aj_M) (x : Int), prD m → Ψ m → hX12_readLaw_45 f Ψ [1] (lw : Int) x m := fun Ψ m x hD h => ⟨hD.1, fun y => absurd y hD.2, fun _ => h⟩
  have b1 := hE.2
  generalize eb1 : tkE T n b = B1 at hE1 b1 hE
  have hEb := tkE_b (T := T) b1
  by_cases g1 : tkK T n B1 = 31
  · obtain ⟨hE3, hE4⟩ := tk_more (T := T) b1 (by omega)
    have b2 := hEb.2
    generalize eb2 : tkE T n B1 = B2 at hE3 b2 hEb
    obtain ⟨r1, k1, k2, k3⟩ := hN B2 c b2 (by omega)
    have goC : ∀ (Φ : Int → aj_M → Prop) (m : aj_M), lC m T n b c P pl → (∀ m2, pcF m m2 → lC m2 T n B2 c P pl → rG7 f 70 t (fun z3 m3 => rI z3 ∧ (¬ z3 = 0 → ∀ m4, m4 = aj_u m3 [1, 3, 0, 0] (2 + 2 * lw) (c.length : Int) → ∀ m5, m5 = aj_u m4 [1, 3, 0, 0] (3 + 2 * lw) (m4 [1, 3, 0, 0] 1) → Φ 1 m5) ∧ (z3 = 0 → Φ 0 m3)) [0, 0] 0 m2) → wX7_step f (fun m1 => wX7_take f (fun z2 m2 => rI z2 ∧ (z2 = 0 → Φ 0 m2) ∧ (¬ (z2 = 0) → rG7 f 70 t (fun z3 m3 => rI z3 ∧ (¬ z3 = 0 → ∀ m4, m4 = aj_u m3 [1, 3, 0, 0] (2 + 2 * lw) (m1 [1, 3, 0, 0] 1) → ∀ m5, m5 = aj_u m4 [1, 3, 0, 0] (3 + 2 * lw) (m4 [1, 3, 0, 0] 1) → Φ 1 m5) ∧ (z3 = 0 → Φ 0 m3)) [0, 0] 0 m2)) [0, 0] 58 m1) [0, 0] m := by
      intro Φ m h hK
      refine pc_step O hb h.1 (fun m1 f1 p1 => ?_)
      rw [eb1] at p1
      rw [p1.2.2.2.2.1]
      refine pc_take (k := 31) O b1 p1 (Or.inr (by omega)) (by decide) (fun _ m2 f2 p2 => zb1 ?_) (fun x => absurd g1 x)
      rw [eb2] at p2
      exact hK m2 (pcF_t f1 f2) (lC_s (lC_s h f1 p1) f2 p2)
    have goR : ∀ (Ψ : aj_M → Prop) (m : aj_M), lR m T n b c P pl → (∀ m2, prF m m2 → lR m2 T n B2 c P pl → rG8 f 70 t' (fun m3 => hX12_readLaw_45 f Ψ [1] (lw : Int) (c.length : Int) m3) [1] 0 m2) → wX12_next f (fun m1 => wX12_eats f (fun z2 m2 => rI z2 ∧ (¬ z2 = 0 → rG8 f 70 t' (fun m3 => hX12_readLaw_45 f Ψ [1] (lw : Int) (m2 [4, 1] 204) m3) [1] 0 m2) ∧ (z2 = 0 → wX12_fails f (fun m3 => rG8 f 70 t' (fun m4 => hX12_readLaw_45 f Ψ [1] (lw : Int) (m3 [4, 1] 204) m4) [1] 0 m3) [1] 2 m2)) [1] 31 m1) [1] m := by
      intro Ψ m h hK
      refine pr_next O hb h.1 (fun m1 f1 p1 => ?_)
      rw [eb1] at p1
      refine pr_eats O b1 p1 (Or.inr (by omega)) (fun _ m2 f2 p2 => zc1 ?_) (fun x => absurd g1 x)
      rw [eb2] at p2
      rw [p2.2.2.2.2.1]
      exact hK m2 (prF_t f1 f2) (lR_s (lR_s h f1 p1) f2 p2)
    rcases r1 with ⟨b3, e⟩ | ⟨x1, a1⟩
    · obtain ⟨q1, q2, q3, q4⟩ := k1
      have hty1 : zts e [] = some [ty] := q4 [] (by simp only [List.length_nil]; omega)
      have he1 : 1 ≤ e.length := by
        rcases e with _ | ⟨x, e⟩
        · have hty2 : some ([] : List Bool) = some [ty] := hty1
          cases hty2
        · simp only [List.length_cons]
          omega
      obtain ⟨y7, y9, y11⟩ := lLa_y (P := P) (lw := lw) (x := (c.length : Int)) (y := (e.length : Int)) hlw
      have o : ∀ j, j < 7 ∨ 12 < j → lLa P lw (c.length : Int) (e.length : Int) j = P j := fun j hj => lLa_o (by omega) (by omega) (by omega)
      refine ⟨.inl (b3, c ++ e, lLa P lw c.length e.length, pl), ⟨by omega, q2, by simp only [List.length_append]; omega, ?_, hpl⟩, fun Φ m h hΦ => goC Φ m h (fun m2 f2 l2 => k2 70 (by omega) _ m2 l2.1 (fun m3 f3 p3 => zc1 ?_)), fun Ψ m h hΨ => goR Ψ m h (fun m2 f2 l2 => k3 70 (by omega) _ m2 l2.1 (fun m3 f3 p3 => ?_))⟩
      · obtain ⟨i1, i2, i3, i4, i5, i6, i7, i8, i9, i10⟩ := I
        have self : lLw (lLa P lw c.length e.length) (c ++ e) lw ty := Or.inr ⟨y7, c, e, [], by rw [List.append_nil], y9, y11, he1, hty1⟩
        refine ⟨by rw [o 1 (by omega), o 2 (by omega), o 3 (by omega), o 4 (by omega)]; exact i1, by rw [o 5 (by omega)]; exact i2, by rw [o 6 (by omega)]; exact i3, fun j hj => ?_, ?_, ?_, by rw [o 61 (by omega)]; exact i7, by rw [o 63 (by omega)]; exact i8, by rw [o 62 (by omega)]; exact i9, by rw [o 0 (by omega)]; exact i10⟩
        · rw [o 6 (by omega)] at hj
          rw [o 1 (by omega), o 2 (by omega), o 3 (by omega), o 4 (by omega), o 5 (by omega), o (13 + j) (by omega), o (25 + j) (by omega), o (37 + j) (by omega), o (49 + j) (by omega)]
          exact i4 j hj
        · rcases hty with ⟨rfl, rfl⟩ | ⟨rfl, rfl⟩
          · exact self
          · exact lLw_o (lLw_g i5) (lLa_o (by omega) (by omega) (by omega)) (lLa_o (by omega) (by omega) (by omega)) (lLa_o (by omega) (by omega) (by omega))
        · rcases hty with ⟨rfl, rfl⟩ | ⟨rfl, rfl⟩
          · exact lLw_o (lLw_g i6) (lLa_o (by omega) (by omega) (by omega)) (lLa_o (by omega) (by omega) (by omega)) (lLa_o (by omega) (by omega) (by omega))
          · exact self
      · rintro _ rfl
        rintro _ rfl
        have l3 := lC_s l2 f3 p3
        have e1 : aj_u m3 [1, 3, 0, 0] (2 + 2 * lw) (c.length : Int) [1, 3, 0, 0] 1 = ((c ++ e).length : Nat) := by
          rw [zu_tup, tup_o (by omega)]
          exact p3.2.2.2.2.1
        rw [e1]
        have of : ∀ p, p ≠ [1, 3, 0, 0] → aj_u (aj_u m3 [1, 3, 0, 0] (2 + 2 * lw) (c.length : Int)) [1, 3, 0, 0] (3 + 2 * lw) (((c ++ e).length : Nat) : Int) p = m3 p := fun p hp => by rw [zu_off hp, zu_off hp]
        have ed : aj_u (aj_u m3 [1, 3, 0, 0] (2 + 2 * lw) (c.length : Int)) [1, 3, 0, 0] (3 + 2 * lw) (((c ++ e).length : Nat) : Int) [1, 3, 0, 0] = tup (tup (m3 [1, 3, 0, 0]) (2 + 2 * lw) (c.length : Int)) (3 + 2 * lw) (((c ++ e).length : Nat) : Int) := by rw [zu_tup, zu_tup]
        refine hΦ _ (lFC_u (lFC_u (lFC_t (lFC_p f2) (lFC_p f3)) (by decide)) (by decide)) ⟨pcC_off p3 (fun j _ => by rw [of _ (by decide)]) (of _ (by decide)) (by rw [ed, tup_o (by omega), tup_o (by omega)]) (of _ (by decide)), ?_, by rw [of _ (by decide)]; exact l3.2.2⟩
        obtain ⟨h1, h2, h3, h4, h5, h6, h7, h8⟩ := l3.2.1
        refine ⟨?_, by rw [of _ (by decide), o 62 (by omega)]; exact h2, by rw [of _ (by decide), o 5 (by omega)]; exact h3, by rw [of _ (by decide), o 6 (by omega)]; exact h4, by rw [of _ (by decide), o 0 (by omega)]; exact h5, ?_, fun j hj => ?_, ?_⟩
        · rw [o 1 (by omega), o 2 (by omega), o 3 (by omega), o 4 (by omega)]
          exact gC_off h1 (of _ (by decide)) (of _ (by decide)) (of _ (by decide)) (of _ (by decide))
        · rw [of _ (by decide)]
          unfold lHv
          rw [o 6 (by omega)]
          obtain ⟨H, a1, a2, a3⟩ := h6
          exact ⟨H, a1, a2, fun j hj => by rw [o _ (by omega)]; exact a3 j hj⟩
        · rw [o 6 (by omega)] at hj
          rw [of _ (by decide), of _ (by decide), of _ (by decide), o _ (by omega), o _ (by omega), o _ (by omega)]
          exact h7 j hj
        · have hl1 : c.length ≤ 900 := by omega
          have hl2 : (c ++ e).length ≤ 900 := by simp only [List.length_append]; omega
          have hl3 : (c ++ e).length = c.length + e.length := List.length_append
          unfold lGs at h8 ⊢
          rw [ed]
          rcases hty with ⟨rfl, rfl⟩ | ⟨rfl, rfl⟩
          · have w2 : tup (tup (m3 [1, 3, 0, 0]) (2 + 2 * 0) (c.length : Int)) (3 + 2 * 0) (((c ++ e).length : Nat) : Int) 2 = (c.length : Int) := by rw [tup_o (by decide)]; exact tup_s
            have w3 : tup (tup (m3 [1, 3, 0, 0]) (2 + 2 * 0) (c.length : Int)) (3 + 2 * 0) (((c ++ e).length : Nat) : Int) 3 = (((c ++ e).length : Nat) : Int) := tup_s
            have w4 : tup (tup (m3 [1, 3, 0, 0]) (2 + 2 * 0) (c.length : Int)) (3 + 2 * 0) (((c ++ e).length : Nat) : Int) 4 = m3 [1, 3, 0, 0] 4 := by rw [tup_o (by decide), tup_o (by decide)]
            have w5 : tup (tup (m3 [1, 3, 0, 0]) (2 + 2 * 0) (c.length : Int)) (3 + 2 * 0) (((c ++ e).length : Nat) : Int) 5 = m3 [1, 3, 0, 0] 5 := by rw [tup_o (by decide), tup_o (by decide)]
            have z7 : lLa P 0 (c.length : Int) (e.length : Int) 7 = 1 := y7
            have z9 : lLa P 0 (c.length : Int) (e.length : Int) 9 = (c.length : Int) := y9
            have z11 : lLa P 0 (c.length : Int) (e.length : Int) 11 = (e.length : Int) := y11
            rw [w2, w3, w4, w5, z7, z9, z11, lLa_o (j := 8) (by decide) (by decide) (by decide), lLa_o (j := 10) (by decide) (by decide) (by decide), lLa_o (j := 12) (by decide) (by decide) (by decide)]
            exact ⟨⟨by omega, by omega⟩, ⟨by omega, by omega⟩, h8.2.2.1, h8.2.2.2.1, fun x => absurd x (by decide), fun _ => ⟨rfl, by omega⟩, h8.2.2.2.2.2.2.1, h8.2.2.2.2.2.2.2⟩
          · have w2 : tup (tup (m3 [1, 3, 0, 0]) (2 + 2 * 1) (c.length : Int)) (3 + 2 * 1) (((c ++ e).length : Nat) : Int) 4 = (c.length : Int) := by rw [tup_o (by decide)]; exact tup_s
            have w3 : tup (tup (m3 [1, 3, 0, 0]) (2 + 2 * 1) (c.length : Int)) (3 + 2 * 1) (((c ++ e).length : Nat) : Int) 5 = (((c ++ e).length : Nat) : Int) := tup_s
            have w4 : tup (tup (m3 [1, 3, 0, 0]) (2 + 2 * 1) (c.length : Int)) (3 + 2 * 1) (((c ++ e).length : Nat) : Int) 2 = m3 [1, 3, 0, 0] 2 := by rw [tup_o (by decide), tup_o (by decide)]
            have w5 : tup (tup (m3 [1, 3, 0, 0]) (2 + 2 * 1) (c.length : Int)) (3 + 2 * 1) (((c ++ e).length : Nat) : Int) 3 = m3 [1, 3, 0, 0] 3 := by rw [tup_o (by decide), tup_o (by decide)]
            have z7 : lLa P 1 (c.length : Int) (e.length : Int) 8 = 1 := y7
            have z9 : lLa P 1 (c.length : Int) (e.length : Int) 10 = (c.length : Int) := y9
            have z11 : lLa P 1 (c.length : Int) (e.length : Int) 12 = (e.length : Int) := y11
            rw [w2, w3, w4, w5, z7, z9, z11, lLa_o (j := 7) (by decide) (by decide) (by decide), lLa_o (j := 9) (by decide) (by decide) (by decide), lLa_o (j := 11) (by decide) (by decide) (by decide)]
            exact ⟨h8.1, h8.2.1, ⟨by omega, by omega⟩, ⟨by omega, by omega⟩, h8.2.2.2.2.1, h8.2.2.2.2.2.1, fun x => absurd x (by decide), fun _ => ⟨rfl, by omega⟩⟩
      · unfold hX12_readLaw_45
        have l3 := lR_s l2 f3 p3
        rw [p3.2.2.1]
        refine ⟨by decide, fun _ => ⟨⟨by omega, by omega⟩, ?_⟩, fun x => absurd rfl x⟩
        rintro _ rfl
        refine ⟨⟨by omega, by omega⟩, ?_⟩
        rintro _ rfl
        refine ⟨⟨by omega, by omega⟩, ?_⟩
        rintro _ rfl
        rw [show (7 + (lw : Int)).toNat = 7 + lw by omega, show (9 + (lw : Int)).toNat = 9 + lw by omega, show (11 + (lw : Int)).toNat = 11 + lw by omega, show (204 : Int).toNat = 204 from rfl, zu_tup, tup_o (by omega), zu_tup, tup_o (by omega), p3.2.2.2.2.1, show (((c ++ e).length : Nat) : Int) - (c.length : Int) = (e.length : Int) by rw [List.length_append]; omega]
        exact hΨ _ (lFR_4 (lFR_4 (lFR_4 (lFR_t (lFR_p f2) (lFR_p f3))))) (lR_u (lR_u (lR_u l3 (by omega)) (by omega)) (by omega))
    · refine ⟨.inr (x1, a1), k1, fun Φ m h hΦ => goC Φ m h (fun m2 f2 l2 => k2 70 (by omega) _ m2 l2.1 (fun m3 f3 p3 => zc0 (hΦ m3 (lFC_t (lFC_p f2) (lFC_p f3)) p3))), fun Ψ m h hΨ => goR Ψ m h (fun m2 f2 l2 => k3 70 (by omega) _ m2 l2.1 (fun m3 f3 p3 => d45 Ψ m3 _ (prX_D p3 k1.1) (hΨ m3 (lFR_t (lFR_p f2) (lFR_p f3)) p3)))⟩
  · refine ⟨.inr (tkF T n B1 2, (tkA T n B1 : Nat)), ⟨tkF_g (by omega), tkA_g hn b1⟩, fun Φ m h hΦ => ?_, fun Ψ m h hΨ => ?_⟩
    · refine pc_step O hb h.1 (fun m1 f1 p1 => ?_)
      rw [eb1] at p1
      exact pc_take (k := 31) O b1 p1 (Or.inr (by omega)) (by decide) (fun x => absurd x g1) (fun _ m2 f2 p2 => zb0 (hΦ m2 (lFC_t (lFC_p f1) (lFC_p f2)) p2))
    · refine pr_next O hb h.1 (fun m1 f1 p1 => ?_)
      rw [eb1] at p1
      refine pr_eats O b1 p1 (Or.inr (by omega)) (fun x => absurd x g1) (fun _ => zc0 (pr_fails p1 (fun m2 f2 p2 => ?_)))
      have hD2 := prX_D p2 (tkF_g (by omega))
      exact dd _ m2 hD2 (d45 Ψ m2 _ hD2 (hΨ m2 (lFR_t (lFR_p f1) (lFR_p f2)) p2))
end LNW
