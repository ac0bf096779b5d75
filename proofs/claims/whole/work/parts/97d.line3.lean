/-! LINES WITH A HALF: both readers -/
theorem rI_gO {k a b n x : Int} (h : gOK k a b n) (hx : 0 ≤ x) (hx2 : x < n) : rI (gO k a b x) := by
  have := g_fact h hx hx2 hx hx2
  exact ⟨by omega, by omega⟩
section LNH
variable {f n b : Nat} {T : Nat → Int} {c : List Int} {P : Nat → Int} {pl : Int}
theorem ln_half (O : tpOK f T n) (hb : b ≤ n) (hc : c.length ≤ b) (I : lI P c b) (hpl : pl = 0 ∨ pl = 1) (hk : tkK T n b = 9) : ∃ r, gdL n b r ∧ (∀ (Φ : Int → aj_M → Prop) (m : aj_M), lC m T n b c P pl → lcC Φ m T n r → wX7_readHalf f Φ [0, 0] m) ∧ (∀ (Ψ : aj_M → Prop) (m : aj_M), lR m T n b c P pl → lcR Ψ m T n r → wX12_readArc f Ψ [1] m) := by
  have hf := O.1
  have hn := O.2.2
  obtain ⟨hE1, hE2⟩ := tk_more (T := T) hb (by omega)
  have hE := tkE_b (T := T) hb
  have h6 := I.2.2.1
  have h5 := I.2.1
  have h4 := gOK_n I.1
  have r5 := lI_5 I
  obtain ⟨a, ea⟩ : ∃ a : Nat, P 6 = a := ⟨(P 6).toNat, by omega⟩
  by_cases h12 : P 6 = 12
  · refine ⟨.inr (4, (tkA T n b : Nat)), ⟨by omega, tkA_g hn hb⟩, fun Φ m h hΦ => ?_, fun Ψ m h hΨ => ?_⟩
    · refine ⟨by rw [h.2.1.2.2.2.1]; exact ⟨by omega, by omega⟩, fun x => by rw [h.2.1.2.2.2.1] at x; omega, fun _ => pc_faulty h.1 (fun m1 f1 p1 => ⟨Or.inl rfl, hΦ m1 (lFC_p f1) p1⟩)⟩
    · have e6 : m [4, 1] 6 = 12 := (h.2.1 6 (by omega)).trans h12
      unfold wX12_readArc
      rw [show (6 : Int).toNat = 6 from rfl, e6]
      refine pr_is h.1 (Or.inl (by omega)) (fun _ => ⟨by decide, fun y => absurd rfl y, fun _ => pr_fails h.1 (fun m1 f1 p1 => ?_)⟩) (fun x => absurd hk x)
      rw [tkF_o (by omega)] at p1
      have hD := prX_D p1 (by omega)
      exact ⟨hD.1, fun x => absurd x hD.2, fun _ => hΨ m1 (lFR_p f1) p1⟩
  · have ha : a < 12 := by omega
    have n13 : (13 + (a : Int)).toNat = 13 + a := by omega
    have n25 : (25 + (a : Int)).toNat = 25 + a := by omega
    have hh : (1 : Int) = 0 ∨ (1 : Int) = 1 := Or.inr rfl
    have begC : ∀ (Φ : Int → aj_M → Prop) (m : aj_M), lC m T n b c P pl → (∀ m1, pcF m m1 → lC m1 T n (tkE T n b) c P pl → wX7_takeNumber f (fun z2 m2 => rI z2 ∧ (z2 < 0 → Φ 0 m2) ∧ (¬ (z2 < 0) → wX7_take f (fun z3 m3 => rI z3 ∧ (¬ z3 = 0 → rI (m3 [0, 0] 7) ∧ (¬ (m3 [0, 0] 7) = 2 → hX7_readHalf_103 f Φ [0, 0] z2 m3) ∧ ((m3 [0, 0] 7) = 2 → wX0_has f (fun z4 m4 => rI z4 ∧ (z4 = 0 → hX7_readHalf_103 f Φ [0, 0] z2 m4) ∧ (¬ (z4 = 0) → (0 ≤ (m4 [0, 0] 8) ∧ (m4 [0, 0] 8) < 12) ∧ rI (m4 [3, 0, 3, 0, 0] (m4 [0, 0] 8).toNat) ∧ ((m4 [3, 0, 3, 0, 0] (m4 [0, 0] 8).toNat) = 2 → hX7_readHalf_103 f Φ [0, 0] z2 m4) ∧ (¬ ((m4 [3, 0, 3, 0, 0] (m4 [0, 0] 8).toNat) = 2) → wX7_faulty f (fun z5 m5 => (z5 = 0 ∨ z5 = 1) ∧ Φ z5 m5) [0, 0] 3 m4))) [0, 3, 0, 0] (m3 [0, 0] 8) m3)) ∧ (z3 = 0 → Φ 0 m3)) [0, 0] 209 m2)) [0, 0] 0 (P 5 - 1) m1) → wX7_readHalf f Φ [0, 0] m := by
      intro Φ m h hK
      refine ⟨by rw [h.2.1.2.2.2.1]; exact ⟨by omega, by omega⟩, fun _ => pc_step O hb h.1 (fun m1 f1 p1 => ?_), fun x => by rw [h.2.1.2.2.2.1] at x; omega⟩
      have l1 := lC_s h f1 p1
      rw [l1.2.1.2.2.1]
      exact hK m1 f1 l1
    have begR : ∀ (Ψ : aj_M → Prop) (m : aj_M), lR m T n b c P pl → _ → wX12_readArc f Ψ [1] m := fun Ψ m hR hK => rA_beg (h := 1) O hb hc I ea ha hh (by constructor <;> intro x <;> omega) hR hK
    -- a fault at the first number
    have flt1 : ∀ (k1 a1 : Int), (1 ≤ k1 ∧ k1 ≤ 4) → ∀ (Ψ : aj_M → Prop) (m m2 : aj_M) (z : Int), lFR m m2 → prX m2 k1 a1 → (∀ m', lFR m m' → prX m' k1 a1 → Ψ m') → (0 ≤ (13 + (a : Int)) ∧ (13 + (a : Int)) < 1105) ∧ ∀ m3, m3 = aj_u m2 [4, 1] (13 + (a : Int)).toNat z → rI 1 ∧ ((1 : Int) = 0 → wX12_takes f (fun z3 m4 => (0 ≤ (25 + (a : Int)) ∧ (25 + (a : Int)) < 1105) ∧ ∀ m5, m5 = aj_u m4 [4, 1] (25 + (a : Int)).toNat z3 → wX12_eats f (fun z4 m6 => rI z4 ∧ (¬ z4 = 0 → hX12_readArc_112 f Ψ [1] (a : Int) 1 m6) ∧ (z4 = 0 → wX12_fails f (fun m7 => hX12_readArc_112 f Ψ [1] (a : Int) 1 m7) [1] 2 m6)) [1] 8 m5) [1] 0 ((m3 [4, 1] (5 : Int).toNat) - 1) m3) ∧ (¬ ((1 : Int) = 0) → (0 ≤ (13 + (a : Int)) ∧ (13 + (a : Int)) < 1105) ∧ (0 ≤ (25 + (a : Int)) ∧ (25 + (a : Int)) < 1105) ∧ ∀ m8, m8 = aj_u m3 [4, 1] (25 + (a : Int)).toNat (m3 [4, 1] (13 + (a : Int)).toNat) → wX12_eats f (fun z6 m9 => rI z6 ∧ (¬ z6 = 0 → hX12_readArc_112 f Ψ [1] (a : Int) 1 m9) ∧ (z6 = 0 → wX12_fails f (fun m10 => hX12_readArc_112 f Ψ [1] (a : Int) 1 m10) [1] 2 m9)) [1] 8 m8) := by
      intro k1 a1 hk1 Ψ m m2 z f2 p2 hΨ
      have hD := prX_D p2 hk1
      have hX : lDX Ψ m2 := fun m' f' x' => hΨ m' (lFR_t f2 f') (x' _ _ p2)
      refine ⟨⟨by omega, by omega⟩, ?_⟩
      rintro _ rfl
      refine ⟨by decide, fun x => absurd x (by decide), fun _ => ⟨⟨by omega, by omega⟩, ⟨by omega, by omega⟩, ?_⟩⟩
      rintro _ rfl
      exact dd_by ha hh (prD_u (prD_u hD)) (lDX_u (lDX_u hX))
    have hEb := tkE_b (T := T) hE.2
    by_cases g1 : tkK T n (tkE T n b) = 23
    · have hN1 := tkN_b g1
      by_cases g2 : tkN T n (tkE T n b) < P 5
      · obtain ⟨hE3, hE4⟩ := tk_more (T := T) hE.2 (by omega)
        have b2 := hEb.2
        have hEc := tkE_b (T := T) b2
        generalize eu : tkN T n (tkE T n b) = u at hN1 g2
        generalize eb2 : tkE T n (tkE T n b) = B2 at hE3 b2 hEb hEc
        have goC1 : ∀ (Φ : Int → aj_M → Prop) (m : aj_M), lC m T n b c P pl → (∀ m2, lFC m m2 → lC m2 T n B2 c P pl → wX7_take f (fun z3 m3 => rI z3 ∧ (¬ z3 = 0 → rI (m3 [0, 0] 7) ∧ (¬ (m3 [0, 0] 7) = 2 → hX7_readHalf_103 f Φ [0, 0] u m3) ∧ ((m3 [0, 0] 7) = 2 → wX0_has f (fun z4 m4 => rI z4 ∧ (z4 = 0 → hX7_readHalf_103 f Φ [0, 0] u m4) ∧ (¬ (z4 = 0) → (0 ≤ (m4 [0, 0] 8) ∧ (m4 [0, 0] 8) < 12) ∧ rI (m4 [3, 0, 3, 0, 0] (m4 [0, 0] 8).toNat) ∧ ((m4 [3, 0, 3, 0, 0] (m4 [0, 0] 8).toNat) = 2 → hX7_readHalf_103 f Φ [0, 0] u m4) ∧ (¬ ((m4 [3, 0, 3, 0, 0] (m4 [0, 0] 8).toNat) = 2) → wX7_faulty f (fun z5 m5 => (z5 = 0 ∨ z5 = 1) ∧ Φ z5 m5) [0, 0] 3 m4))) [0, 3, 0, 0] (m3 [0, 0] 8) m3)) ∧ (z3 = 0 → Φ 0 m3)) [0, 0] 209 m2) → wX7_readHalf f Φ [0, 0] m := by
          intro Φ m h hK
          refine begC Φ m h (fun m1 f1 l1 => pc_num O hE.2 l1.1 (by decide) r5 (fun _ _ _ m2 f2 p2 => ?_) (fun _ x => absurd ⟨by omega, by omega⟩ x) (fun x => absurd g1 x))
          rw [eu]
          rw [eb2] at p2
          exact ⟨⟨by omega, by omega⟩, fun x => by omega, fun _ => hK m2 (lFC_t (lFC_p f1) (lFC_p f2)) (lC_s l1 f2 p2)⟩
        have goR1 : ∀ (Ψ : aj_M → Prop) (m : aj_M), lR m T n b c P pl → (∀ m2, lFR m m2 → lR m2 T n B2 c (tup (tup P (13 + a) u) (25 + a) u) pl → wX12_eats f (fun z6 m9 => rI z6 ∧ (¬ z6 = 0 → hX12_readArc_112 f Ψ [1] (a : Int) 1 m9) ∧ (z6 = 0 → wX12_fails f (fun m10 => hX12_readArc_112 f Ψ [1] (a : Int) 1 m10) [1] 2 m9)) [1] 8 m2) → wX12_readArc f Ψ [1] m := by
          intro Ψ m h hK
          refine begR Ψ m h (fun m1 f1 l1 => pr_takes O hE.2 l1.1 (by decide) r5 (fun _ _ _ m2 f2 p2 => ⟨⟨by omega, by omega⟩, ?_⟩) (fun _ x => absurd ⟨by omega, by omega⟩ x) (fun x => absurd g1 x))
          rintro _ rfl
          rw [n13, n25, eu]
          rw [eb2] at p2
          have l2 := lR_u (k := 13 + a) (v := u) (lR_s l1 f2 p2) (by omega)
          refine ⟨by decide, fun x => absurd x (by decide), fun _ => ⟨⟨by omega, by omega⟩, ⟨by omega, by omega⟩, ?_⟩⟩
          rintro _ rfl
          rw [l2.2.1 (13 + a) (by omega), tup_s]
          exact hK _ (lFR_4 (lFR_4 (lFR_t (lFR_p f1) (lFR_p f2)))) (lR_u l2 (by omega))
        by_cases g5 : tkK T n B2 = 8
        · obtain ⟨hE7, hE8⟩ := tk_more (T := T) b2 (by omega)
          have b3 := hEc.2
          generalize eb3 : tkE T n B2 = B3 at hE7 b3 hEc
          by_cases g6 : tkK T n B3 = 23 ∧ tkN T n B3 < P 4 ∧ gO (P 1) (P 2) (P 3) (tkN T n B3) ≠ 2
          · obtain ⟨g61, g62, g63⟩ := g6
            have hN3 := tkN_b g61
            refine ⟨.inr (3, (tkA T n B3 : Nat)), ⟨by omega, tkA_g hn b3⟩, fun Φ m h hΦ => goC1 Φ m h (fun m2 f2 l2 => ?_), fun Ψ m h hΨ => goR1 Ψ m h (fun m2 f2 l2 => ?_)⟩
            · refine pc_take (k := 8) O b2 l2.1 (Or.inl (by omega)) (by decide) (fun _ m3 f3 p3 => zc1 ?_) (fun x => absurd g5 x)
              rw [eb3] at p3
              have l3 := lC_s l2 f3 p3
              refine ⟨pc_r7 p3, fun x => absurd ((pc_is p3 (k := 23) (Or.inl (by omega)) (by decide)).mpr g61) x, fun _ => ?_⟩
              have e8 : m3 [0, 0] 8 = tkN T n B3 := p3.1.2.2.2 g61
              have s4 : m3 [0, 3, 0, 0] 0 = P 4 := l3.2.1.1.1
              rw [e8]
              refine pX0_has ⟨by omega, by omega⟩ (by rw [s4]; exact ⟨by omega, by omega⟩) (fun _ _ => zb1 ?_) (fun x => absurd ⟨hN3.1, by rw [s4]; exact g62⟩ x)
              rw [e8]
              have eo : m3 [3, 0, 3, 0, 0] (tkN T n B3).toNat = gO (P 1) (P 2) (P 3) (tkN T n B3) := l3.2.1.1.2.2.2 _ hN3.1 g62
              rw [eo]
              refine ⟨⟨by omega, by omega⟩, rI_gO I.1 hN3.1 g62, fun x => absurd x g63, fun _ => pc_faulty p3 (fun m4 f4 p4 => ⟨Or.inl rfl, hΦ m4 (lFC_t f2 (lFC_t (lFC_p f3) (lFC_p f4))) p4⟩)⟩
            · refine pr_eats O b2 l2.1 (Or.inl (by omega)) (fun _ m3 f3 p3 => zc1 ?_) (fun x => absurd g5 x)
              rw [eb3] at p3
              have l3 := lR_s l2 f3 p3
              refine ⟨by decide, fun x => absurd x (by decide), fun _ => pr_is p3 (Or.inl (by omega)) (fun _ => zb1 ?_) (fun x => absurd g61 x)⟩
              have e10 : m3 [1] 10 = tkN T n B3 := p3.1.2.2.2 g61
              have e1 : ∀ j, j < 13 → m3 [4, 1] j = P j := fun j hj => by rw [l3.2.1 j (by omega), tup_o (by omega), tup_o (by omega)]
              rw [show (4 : Int).toNat = 4 from rfl, e10, e1 4 (by omega)]
              refine ⟨⟨by omega, by omega⟩, ⟨by omega, by omega⟩, pX12_within ⟨by omega, by omega⟩ (by decide) ⟨by omega, by omega⟩ ?_⟩
              rw [if_pos ⟨hN3.1, by omega⟩]
              refine zb1 ?_
              rw [e10]
              refine pX12_ordersOf (k := P 1) (a := P 2) (b := P 3) (n := P 4) (by omega) (by omega) (e1 1 (by omega)) (e1 2 (by omega)) (e1 3 (by omega)) I.1 hN3.1 g62 ?_
              refine ⟨rI_gO I.1 hN3.1 g62, fun x => absurd x g63, fun _ => pr_fails p3 (fun m4 f4 p4 => ?_)⟩
              rw [tkF_o (by omega)] at p4
              exact dd_166 ha hh (prX_D p4 (by omega)) (fun m' f' x' => hΨ m' (lFR_t (lFR_t f2 (lFR_t (lFR_p f3) (lFR_p f4))) f') (x' _ _ p4))
          · have hord : tkK T n B3 = 23 → 0 ≤ tkN T n B3 → tkN T n B3 < P 4 → (1 : Int) = 1 → gO (P 1) (P 2) (P 3) (tkN T n B3) = 2 := fun x1 x2 x3 _ => Classical.byContradiction fun x => g6 ⟨x1, x3, x⟩
            obtain ⟨r, k1, k2, k3⟩ := ln_last (b := b) (pl := pl) O b3 (by omega) (by omega) I hpl ea ha u u 1 ⟨by omega, g2⟩ ⟨by omega, g2⟩ hh hord
            refine ⟨r, k1, fun Φ m h hΦ => goC1 Φ m h (fun m2 f2 l2 => ?_), fun Ψ m h hΨ => goR1 Ψ m h (fun m2 f2 l2 => ?_)⟩
            · refine pc_take (k := 8) O b2 l2.1 (Or.inl (by omega)) (by decide) (fun _ m3 f3 p3 => zc1 ?_) (fun x => absurd g5 x)
              rw [eb3] at p3
              have l3 := lC_s l2 f3 p3
              have s4 : m3 [0, 3, 0, 0] 0 = P 4 := l3.2.1.1.1
              have s103 : hX7_readHalf_103 f Φ [0, 0] u m3 := by
                unfold hX7_readHalf_103
                rw [s4]
                exact k2 Φ m m3 (lFC_t f2 (lFC_p f3)) l3 hΦ
              refine ⟨pc_r7 p3, fun _ => s103, fun x => ?_⟩
              have g61 := (pc_is p3 (k := 23) (Or.inl (by omega)) (by decide)).mp x
              have hN3 := tkN_b g61
              have e8 : m3 [0, 0] 8 = tkN T n B3 := p3.1.2.2.2 g61
              rw [e8]
              refine pX0_has ⟨by omega, by omega⟩ (by rw [s4]; exact ⟨by omega, by omega⟩) (fun _ y => zb1 ?_) (fun _ => zb0 s103)
              rw [s4] at y
              rw [e8]
              have eo : m3 [3, 0, 3, 0, 0] (tkN T n B3).toNat = gO (P 1) (P 2) (P 3) (tkN T n B3) := l3.2.1.1.2.2.2 _ hN3.1 y
              rw [eo]
              exact ⟨⟨by omega, by omega⟩, rI_gO I.1 hN3.1 y, fun _ => s103, fun z => absurd (hord g61 hN3.1 y rfl) z⟩
            · refine pr_eats O b2 l2.1 (Or.inl (by omega)) (fun _ m3 f3 p3 => zc1 ?_) (fun x => absurd g5 x)
              rw [eb3] at p3
              have l3 := lR_s l2 f3 p3
              have s166 : hX12_readArc_166 f Ψ [1] (a : Int) 1 m3 := k3 Ψ m m3 (lFR_t f2 (lFR_p f3)) l3 hΨ
              refine ⟨by decide, fun x => absurd x (by decide), fun _ => pr_is p3 (Or.inl (by omega)) (fun g61 => zb1 ?_) (fun _ => zb0 s166)⟩
              have hN3 := tkN_b g61
              have e10 : m3 [1] 10 = tkN T n B3 := p3.1.2.2.2 g61
              have e1 : ∀ j, j < 13 → m3 [4, 1] j = P j := fun j hj => by rw [l3.2.1 j (by omega), tup_o (by omega), tup_o (by omega)]
              rw [show (4 : Int).toNat = 4 from rfl, e10, e1 4 (by omega)]
              refine ⟨⟨by omega, by omega⟩, ⟨by omega, by omega⟩, pX12_within ⟨by omega, by omega⟩ (by decide) ⟨by omega, by omega⟩ ?_⟩
              by_cases g62 : tkN T n B3 < P 4
              · rw [if_pos ⟨hN3.1, by omega⟩]
                refine zb1 ?_
                rw [e10]
                refine pX12_ordersOf (k := P 1) (a := P 2) (b := P 3) (n := P 4) (by omega) (by omega) (e1 1 (by omega)) (e1 2 (by omega)) (e1 3 (by omega)) I.1 hN3.1 g62 ?_
                exact ⟨rI_gO I.1 hN3.1 g62, fun _ => s166, fun z => absurd (hord g61 hN3.1 g62 rfl) z⟩
              · rw [if_neg (by omega)]
                exact zb0 s166
        · refine ⟨.inr (tkF T n B2 2, (tkA T n B2 : Nat)), ⟨tkF_g (by omega), tkA_g hn b2⟩, fun Φ m h hΦ => goC1 Φ m h (fun m2 f2 l2 => ?_), fun Ψ m h hΨ => goR1 Ψ m h (fun m2 f2 l2 => ?_)⟩
          · exact pc_take (k := 8) O b2 l2.1 (Or.inl (by omega)) (by decide) (fun x => absurd x g5) (fun _ m4 f4 p4 => zc0 (hΦ m4 (lFC_t f2 (lFC_p f4)) p4))
          · refine pr_eats O b2 l2.1 (Or.inl (by omega)) (fun x => absurd x g5) (fun _ => zc0 (pr_fails l2.1 (fun m4 f4 p4 => ?_)))
            exact dd_112 ha hh (prX_D p4 (tkF_g (by omega))) (fun m' f' x' => hΨ m' (lFR_t (lFR_t f2 (lFR_p f4)) f') (x' _ _ p4))
      · refine ⟨.inr (3, (tkA T n (tkE T n b) : Nat)), ⟨by omega, tkA_g hn hE.2⟩, fun Φ m h hΦ => begC Φ m h (fun m1 f1 l1 => ?_), fun Ψ m h hΨ => begR Ψ m h (fun m1 f1 l1 => ?_)⟩
        · exact pc_num O hE.2 l1.1 (by decide) r5 (fun _ _ x => by omega) (fun _ _ m2 f2 p2 => ⟨by decide, fun _ => hΦ m2 (lFC_t (lFC_p f1) (lFC_p f2)) p2, fun x => absurd (by decide) x⟩) (fun x => absurd g1 x)
        · exact pr_takes O hE.2 l1.1 (by decide) r5 (fun _ _ x => by omega) (fun _ _ m2 z f2 p2 => flt1 _ _ (by omega) Ψ m m2 z (lFR_t (lFR_p f1) (lFR_p f2)) p2 hΨ) (fun x => absurd g1 x)
    · refine ⟨.inr (tkF T n (tkE T n b) 2, (tkA T n (tkE T n b) : Nat)), ⟨tkF_g (by omega), tkA_g hn hE.2⟩, fun Φ m h hΦ => begC Φ m h (fun m1 f1 l1 => ?_), fun Ψ m h hΨ => begR Ψ m h (fun m1 f1 l1 => ?_)⟩
      · exact pc_num O hE.2 l1.1 (by decide) r5 (fun x => absurd x g1) (fun x => absurd x g1) (fun _ m2 f2 p2 => ⟨by decide, fun _ => hΦ m2 (lFC_t (lFC_p f1) (lFC_p f2)) p2, fun x => absurd (by decide) x⟩)
      · exact pr_takes O hE.2 l1.1 (by decide) r5 (fun x => absurd x g1) (fun x => absurd x g1) (fun _ m2 z f2 p2 => flt1 _ _ (tkF_g (by omega)) Ψ m m2 z (lFR_t (lFR_p f1) (lFR_p f2)) p2 hΨ)
end LNH
