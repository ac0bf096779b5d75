/-! LINES WITH AN ARC, A HALF: both readers -/
def lDX (Ψ : aj_M → Prop) (m : aj_M) : Prop := ∀ m', lFR m m' → (∀ k a, prX m k a → prX m' k a) → Ψ m'
theorem lDX_u {Ψ : aj_M → Prop} {m : aj_M} {j : Nat} {v : Int} (h : lDX Ψ m) : lDX Ψ (aj_u m [4, 1] j v) := fun m' f1 x1 => h m' (lFR_t (lFR_4 lFR_r) f1) (fun k a x => x1 k a (prX_u x))
section LNB
variable {f n b : Nat} {T : Nat → Int} {c : List Int} {P : Nat → Int} {pl : Int}
theorem dd_166 {Ψ : aj_M → Prop} {m : aj_M} {a : Nat} {h : Int} (ha : a < 12) (hh : h = 0 ∨ h = 1) (hD : prD m) (hK : lDX Ψ m) : hX12_readArc_166 f Ψ [1] (a : Int) h m := by
  refine pr_takesD hD (fun z => ⟨⟨by omega, by omega⟩, ?_⟩)
  rintro _ rfl
  have fin : ∀ h' : Int, ∀ m3, m3 = aj_u (aj_u m [4, 1] (49 + (a : Int)).toNat z) [4, 1] (37 + (a : Int)).toNat h' → rI (m3 [1] 11) ∧ (¬ (m3 [1] 11) = 0 → Ψ m3) ∧ ((m3 [1] 11) = 0 → ∀ m4, m4 = aj_u m3 [4, 1] (6 : Int).toNat ((m3 [4, 1] (6 : Int).toNat) + 1) → Ψ m4) := by
    intro h'
    rintro _ rfl
    have hD3 : prD (aj_u (aj_u m [4, 1] (49 + (a : Int)).toNat z) [4, 1] (37 + (a : Int)).toNat h') := prD_u (prD_u hD)
    exact ⟨hD3.1, fun _ => hK _ (lFR_4 (lFR_4 lFR_r)) (fun k a x => prX_u (prX_u x)), fun x => absurd x hD3.2⟩
  exact ⟨⟨by omega, by omega⟩, fun _ => ⟨⟨by omega, by omega⟩, fin 0⟩, fun _ => ⟨⟨by omega, by omega⟩, fin 1⟩⟩
theorem dd_112 {Ψ : aj_M → Prop} {m : aj_M} {a : Nat} {h : Int} (ha : a < 12) (hh : h = 0 ∨ h = 1) (hD : prD m) (hK : lDX Ψ m) : hX12_readArc_112 f Ψ [1] (a : Int) h m :=
  ⟨⟨by omega, by omega⟩, fun _ => dd_166 ha hh hD hK, fun _ => pr_isD hD (zb0 (dd_166 ha hh hD hK))⟩
theorem dd_by {Ψ : aj_M → Prop} {m : aj_M} {a : Nat} {h : Int} (ha : a < 12) (hh : h = 0 ∨ h = 1) (hD : prD m) (hK : lDX Ψ m) : wX12_eats f (fun z4 m6 => rI z4 ∧ (¬ z4 = 0 → hX12_readArc_112 f Ψ [1] (a : Int) h m6) ∧ (z4 = 0 → wX12_fails f (fun m7 => hX12_readArc_112 f Ψ [1] (a : Int) h m7) [1] 2 m6)) [1] 8 m := pr_eatsD hD (zc0 (pr_failsD hD (dd_112 ha hh hD hK)))
theorem lI_5 (I : lI P c b) : rI (P 5 - 1) := by
  have := I.2.1
  exact ⟨by omega, by omega⟩
/-- the reference comes to the first number -/
theorem rA_beg {Ψ : aj_M → Prop} (O : tpOK f T n) (hb : b ≤ n) (hc : c.length ≤ b) (I : lI P c b) {a : Nat} {h : Int} (ea : P 6 = a) (ha : a < 12) (hh : h = 0 ∨ h = 1) (hk : (tkK T n b = 9 ↔ h = 1)) {m : aj_M} (hR : lR m T n b c P pl) (hK : ∀ m1, prF m m1 → lR m1 T n (tkE T n b) c P pl → wX12_takes f (fun z2 m2 => (0 ≤ (13 + (a : Int)) ∧ (13 + (a : Int)) < 1105) ∧ ∀ m3, m3 = aj_u m2 [4, 1] (13 + (a : Int)).toNat z2 → rI h ∧ (h = 0 → wX12_takes f (fun z3 m4 => (0 ≤ (25 + (a : Int)) ∧ (25 + (a : Int)) < 1105) ∧ ∀ m5, m5 = aj_u m4 [4, 1] (25 + (a : Int)).toNat z3 → wX12_eats f (fun z4 m6 => rI z4 ∧ (¬ z4 = 0 → hX12_readArc_112 f Ψ [1] (a : Int) h m6) ∧ (z4 = 0 → wX12_fails f (fun m7 => hX12_readArc_112 f Ψ [1] (a : Int) h m7) [1] 2 m6)) [1] 8 m5) [1] 0 ((m3 [4, 1] (5 : Int).toNat) - 1) m3) ∧ (¬ (h = 0) → (0 ≤ (13 + (a : Int)) ∧ (13 + (a : Int)) < 1105) ∧ (0 ≤ (25 + (a : Int)) ∧ (25 + (a : Int)) < 1105) ∧ ∀ m8, m8 = aj_u m3 [4, 1] (25 + (a : Int)).toNat (m3 [4, 1] (13 + (a : Int)).toNat) → wX12_eats f (fun z6 m9 => rI z6 ∧ (¬ z6 = 0 → hX12_readArc_112 f Ψ [1] (a : Int) h m9) ∧ (z6 = 0 → wX12_fails f (fun m10 => hX12_readArc_112 f Ψ [1] (a : Int) h m10) [1] 2 m9)) [1] 8 m8)) [1] 0 (P 5 - 1) m1) : wX12_readArc f Ψ [1] m := by
  have e6 : m [4, 1] 6 = a := (hR.2.1 6 (by omega)).trans ea
  have s26 : hX12_readArc_26 f Ψ [1] (a : Int) h m := by
    refine ⟨by rw [hR.1.2.2.1]; decide, fun _ => pr_next O hb hR.1 (fun m1 f1 p1 => ?_), fun x => absurd hR.1.2.2.1 x⟩
    have l1 := lR_s hR f1 p1
    rw [show (5 : Int).toNat = 5 from rfl, l1.2.1 5 (by omega)]
    exact hK m1 f1 l1
  unfold wX12_readArc
  rw [show (6 : Int).toNat = 6 from rfl, e6]
  refine pr_is hR.1 (Or.inl (by omega)) (fun x => ⟨⟨by omega, by omega⟩, fun _ => ?_, fun y => by omega⟩) (fun x => ⟨⟨by omega, by omega⟩, fun _ => ?_, fun y => by omega⟩)
  · rw [← hk.mp x]
    exact s26
  · have : h = 0 := by
      rcases hh with e | e
      · exact e
      · exact absurd (hk.mpr e) x
    rw [← this]
    exact s26
theorem ln_arc (O : tpOK f T n) (hb : b ≤ n) (hc : c.length ≤ b) (I : lI P c b) (hpl : pl = 0 ∨ pl = 1) (hk : tkK T n b = 7) : ∃ r, gdL n b r ∧ (∀ (Φ : Int → aj_M → Prop) (m : aj_M), lC m T n b c P pl → lcC Φ m T n r → wX7_readArc f Φ [0, 0] m) ∧ (∀ (Ψ : aj_M → Prop) (m : aj_M), lR m T n b c P pl → lcR Ψ m T n r → wX12_readArc f Ψ [1] m) := by
  have hn := O.2.2
  obtain ⟨hE1, hE2⟩ := tk_more (T := T) hb (by omega)
  have hE := tkE_b (T := T) hb
  have h6 := I.2.2.1
  have h5 := I.2.1
  have r5 := lI_5 I
  obtain ⟨a, ea⟩ : ∃ a : Nat, P 6 = a := ⟨(P 6).toNat, by omega⟩
  by_cases h12 : P 6 = 12
  · refine ⟨.inr (4, (tkA T n b : Nat)), ⟨by omega, tkA_g hn hb⟩, fun Φ m h hΦ => ?_, fun Ψ m h hΨ => ?_⟩
    · refine ⟨by rw [h.2.1.2.2.2.1]; exact ⟨by omega, by omega⟩, fun x => by rw [h.2.1.2.2.2.1] at x; omega, fun _ => pc_faulty h.1 (fun m1 f1 p1 => ⟨Or.inl rfl, hΦ m1 (lFC_p f1) p1⟩)⟩
    · have e6 : m [4, 1] 6 = 12 := (h.2.1 6 (by omega)).trans h12
      unfold wX12_readArc
      rw [show (6 : Int).toNat = 6 from rfl, e6]
      refine pr_is h.1 (Or.inl (by omega)) (fun x => by omega) (fun _ => ⟨by decide, fun y => absurd rfl y, fun _ => pr_fails h.1 (fun m1 f1 p1 => ?_)⟩)
      rw [tkF_o (by omega)] at p1
      have hD := prX_D p1 (by omega)
      exact ⟨hD.1, fun x => absurd x hD.2, fun _ => hΨ m1 (lFR_p f1) p1⟩
  · have ha : a < 12 := by omega
    have n13 : (13 + (a : Int)).toNat = 13 + a := by omega
    have n25 : (25 + (a : Int)).toNat = 25 + a := by omega
    have hh : (0 : Int) = 0 ∨ (0 : Int) = 1 := Or.inl rfl
    have begC : ∀ (Φ : Int → aj_M → Prop) (m : aj_M), lC m T n b c P pl → (∀ m1, pcF m m1 → lC m1 T n (tkE T n b) c P pl → wX7_takeNumber f (fun z2 m2 => rI z2 ∧ (0 ≤ z2 → wX7_takeNumber f (fun z3 m3 => rI z3 ∧ (z3 < 0 → Φ 0 m3) ∧ (¬ (z3 < 0) → wX7_take f (fun z4 m4 => rI z4 ∧ (¬ z4 = 0 → wX7_takeNumber f (fun z5 m5 => rI z5 ∧ (0 ≤ z5 → wX6_addArc f (fun m6 => Φ 1 m6) [3, 0, 0] z2 z3 z5 0 m5) ∧ (¬ (0 ≤ z5) → Φ 0 m5)) [0, 0] 0 ((m4 [0, 3, 0, 0] 0) - 1) m4) ∧ (z4 = 0 → Φ 0 m4)) [0, 0] 209 m3)) [0, 0] 0 ((m2 [3, 0, 0] 3) - 1) m2) ∧ (¬ (0 ≤ z2) → Φ 0 m2)) [0, 0] 0 (P 5 - 1) m1) → wX7_readArc f Φ [0, 0] m := by
      intro Φ m h hK
      refine ⟨by rw [h.2.1.2.2.2.1]; exact ⟨by omega, by omega⟩, fun _ => pc_step O hb h.1 (fun m1 f1 p1 => ?_), fun x => by rw [h.2.1.2.2.2.1] at x; omega⟩
      have l1 := lC_s h f1 p1
      rw [l1.2.1.2.2.1]
      exact hK m1 f1 l1
    have begR : ∀ (Ψ : aj_M → Prop) (m : aj_M), lR m T n b c P pl → _ → wX12_readArc f Ψ [1] m := fun Ψ m hR hK => rA_beg (h := 0) O hb hc I ea ha hh (by constructor <;> intro x <;> omega) hR hK
    -- a fault at the first number
    have flt1 : ∀ (k1 a1 : Int), (1 ≤ k1 ∧ k1 ≤ 4) → ∀ (Ψ : aj_M → Prop) (m m2 : aj_M) (z : Int), lFR m m2 → prX m2 k1 a1 → (∀ m', lFR m m' → prX m' k1 a1 → Ψ m') → (0 ≤ (13 + (a : Int)) ∧ (13 + (a : Int)) < 1105) ∧ ∀ m3, m3 = aj_u m2 [4, 1] (13 + (a : Int)).toNat z → rI 0 ∧ ((0 : Int) = 0 → wX12_takes f (fun z3 m4 => (0 ≤ (25 + (a : Int)) ∧ (25 + (a : Int)) < 1105) ∧ ∀ m5, m5 = aj_u m4 [4, 1] (25 + (a : Int)).toNat z3 → wX12_eats f (fun z4 m6 => rI z4 ∧ (¬ z4 = 0 → hX12_readArc_112 f Ψ [1] (a : Int) 0 m6) ∧ (z4 = 0 → wX12_fails f (fun m7 => hX12_readArc_112 f Ψ [1] (a : Int) 0 m7) [1] 2 m6)) [1] 8 m5) [1] 0 ((m3 [4, 1] (5 : Int).toNat) - 1) m3) ∧ (¬ ((0 : Int) = 0) → (0 ≤ (13 + (a : Int)) ∧ (13 + (a : Int)) < 1105) ∧ (0 ≤ (25 + (a : Int)) ∧ (25 + (a : Int)) < 1105) ∧ ∀ m8, m8 = aj_u m3 [4, 1] (25 + (a : Int)).toNat (m3 [4, 1] (13 + (a : Int)).toNat) → wX12_eats f (fun z6 m9 => rI z6 ∧ (¬ z6 = 0 → hX12_readArc_112 f Ψ [1] (a : Int) 0 m9) ∧ (z6 = 0 → wX12_fails f (fun m10 => hX12_readArc_112 f Ψ [1] (a : Int) 0 m10) [1] 2 m9)) [1] 8 m8) := by
      intro k1 a1 hk1 Ψ m m2 z f2 p2 hΨ
      have hD := prX_D p2 hk1
      have hX : lDX Ψ m2 := fun m' f' x' => hΨ m' (lFR_t f2 f') (x' _ _ p2)
      refine ⟨⟨by omega, by omega⟩, ?_⟩
      rintro _ rfl
      refine ⟨by decide, fun _ => pr_takesD (prD_u hD) (fun z3 => ⟨⟨by omega, by omega⟩, ?_⟩), fun x => absurd rfl x⟩
      rintro _ rfl
      exact dd_by ha hh (prD_u (prD_u hD)) (lDX_u (lDX_u hX))
    have hEb := tkE_b (T := T) hE.2
    by_cases g1 : tkK T n (tkE T n b) = 23
    · have hN1 := tkN_b g1
      by_cases g2 : tkN T n (tkE T n b) < P 5
      · obtain ⟨hE3, hE4⟩ := tk_more (T := T) hE.2 (by omega)
        -- behind the first number
        have b2 := hEb.2
        have hEc := tkE_b (T := T) b2
        have goC1 : ∀ (Φ : Int → aj_M → Prop) (m : aj_M), lC m T n b c P pl → (∀ m2, lFC m m2 → lC m2 T n (tkE T n (tkE T n b)) c P pl → wX7_takeNumber f (fun z3 m3 => rI z3 ∧ (z3 < 0 → Φ 0 m3) ∧ (¬ (z3 < 0) → wX7_take f (fun z4 m4 => rI z4 ∧ (¬ z4 = 0 → wX7_takeNumber f (fun z5 m5 => rI z5 ∧ (0 ≤ z5 → wX6_addArc f (fun m6 => Φ 1 m6) [3, 0, 0] (tkN T n (tkE T n b)) z3 z5 0 m5) ∧ (¬ (0 ≤ z5) → Φ 0 m5)) [0, 0] 0 ((m4 [0, 3, 0, 0] 0) - 1) m4) ∧ (z4 = 0 → Φ 0 m4)) [0, 0] 209 m3)) [0, 0] 0 (P 5 - 1) m2) → wX7_readArc f Φ [0, 0] m := by
          intro Φ m h hK
          refine begC Φ m h (fun m1 f1 l1 => pc_num O hE.2 l1.1 (by decide) r5 (fun _ _ _ m2 f2 p2 => ⟨⟨by omega, by omega⟩, fun _ => ?_, fun x => by omega⟩) (fun _ x => absurd ⟨hN1.1, by omega⟩ x) (fun x => absurd g1 x))
          have l2 := lC_s l1 f2 p2
          rw [l2.2.1.2.2.1]
          exact hK m2 (lFC_t (lFC_p f1) (lFC_p f2)) l2
        have goR1 : ∀ (Ψ : aj_M → Prop) (m : aj_M), lR m T n b c P pl → (∀ m2, lFR m m2 → lR m2 T n (tkE T n (tkE T n b)) c (tup P (13 + a) (tkN T n (tkE T n b))) pl → wX12_takes f (fun z3 m4 => (0 ≤ (25 + (a : Int)) ∧ (25 + (a : Int)) < 1105) ∧ ∀ m5, m5 = aj_u m4 [4, 1] (25 + (a : Int)).toNat z3 → wX12_eats f (fun z4 m6 => rI z4 ∧ (¬ z4 = 0 → hX12_readArc_112 f Ψ [1] (a : Int) 0 m6) ∧ (z4 = 0 → wX12_fails f (fun m7 => hX12_readArc_112 f Ψ [1] (a : Int) 0 m7) [1] 2 m6)) [1] 8 m5) [1] 0 (P 5 - 1) m2) → wX12_readArc f Ψ [1] m := by
          intro Ψ m h hK
          refine begR Ψ m h (fun m1 f1 l1 => pr_takes O hE.2 l1.1 (by decide) r5 (fun _ _ _ m2 f2 p2 => ⟨⟨by omega, by omega⟩, ?_⟩) (fun _ x => absurd ⟨hN1.1, by omega⟩ x) (fun x => absurd g1 x))
          rintro _ rfl
          rw [n13]
          have l2 := lR_u (k := 13 + a) (v := tkN T n (tkE T n b)) (lR_s l1 f2 p2) (by omega)
          refine ⟨by decide, fun _ => ?_, fun x => absurd rfl x⟩
          rw [show (5 : Int).toNat = 5 from rfl, l2.2.1 5 (by omega), tup_o (by omega)]
          exact hK _ (lFR_4 (lFR_t (lFR_p f1) (lFR_p f2))) l2
        by_cases g3 : tkK T n (tkE T n (tkE T n b)) = 23
        · have hN2 := tkN_b g3
          by_cases g4 : tkN T n (tkE T n (tkE T n b)) < P 5
          · obtain ⟨hE5, hE6⟩ := tk_more (T := T) b2 (by omega)
            have b3 := hEc.2
            have hEd := tkE_b (T := T) b3
            by_cases g5 : tkK T n (tkE T n (tkE T n (tkE T n b))) = 8
            · obtain ⟨hE7, hE8⟩ := tk_more (T := T) b3 (by omega)
              obtain ⟨r, k1, k2, k3⟩ := ln_last (b := b) (pl := pl) O hEd.2 (by omega) (by omega) I hpl ea ha (tkN T n (tkE T n b)) (tkN T n (tkE T n (tkE T n b))) 0 ⟨hN1.1, g2⟩ ⟨hN2.1, g4⟩ hh (fun _ _ _ x => absurd x (by decide))
              refine ⟨r, k1, fun Φ m h hΦ => goC1 Φ m h (fun m2 f2 l2 => ?_), fun Ψ m h hΨ => goR1 Ψ m h (fun m2 f2 l2 => ?_)⟩
              · refine pc_num O b2 l2.1 (by decide) r5 (fun _ _ _ m3 f3 p3 => ⟨⟨by omega, by omega⟩, fun x => by omega, fun _ => ?_⟩) (fun _ x => absurd ⟨hN2.1, by omega⟩ x) (fun x => absurd g3 x)
                refine pc_take (k := 8) O b3 p3 (Or.inl (by omega)) (by decide) (fun _ m4 f4 p4 => zc1 ?_) (fun x => absurd g5 x)
                have l4 := lC_s (lC_s l2 f3 p3) f4 p4
                rw [l4.2.1.1.1]
                exact k2 Φ m m4 (lFC_t f2 (lFC_t (lFC_p f3) (lFC_p f4))) l4 hΦ
              · refine pr_takes O b2 l2.1 (by decide) r5 (fun _ _ _ m3 f3 p3 => ⟨⟨by omega, by omega⟩, ?_⟩) (fun _ x => absurd ⟨hN2.1, by omega⟩ x) (fun x => absurd g3 x)
                rintro _ rfl
                rw [n25]
                have l3 := lR_u (k := 25 + a) (v := tkN T n (tkE T n (tkE T n b))) (lR_s l2 f3 p3) (by omega)
                refine pr_eats O b3 l3.1 (Or.inl (by omega)) (fun _ m4 f4 p4 => zc1 ⟨by decide, fun _ => ?_, fun x => absurd rfl x⟩) (fun x => absurd g5 x)
                exact k3 Ψ m m4 (lFR_t (lFR_4 (lFR_t f2 (lFR_p f3))) (lFR_p f4)) (lR_s l3 f4 p4) hΨ
            · refine ⟨.inr (tkF T n (tkE T n (tkE T n (tkE T n b))) 2, (tkA T n (tkE T n (tkE T n (tkE T n b))) : Nat)), ⟨tkF_g (by omega), tkA_g hn b3⟩, fun Φ m h hΦ => goC1 Φ m h (fun m2 f2 l2 => ?_), fun Ψ m h hΨ => goR1 Ψ m h (fun m2 f2 l2 => ?_)⟩
              · refine pc_num O b2 l2.1 (by decide) r5 (fun _ _ _ m3 f3 p3 => ⟨⟨by omega, by omega⟩, fun x => by omega, fun _ => ?_⟩) (fun _ x => absurd ⟨hN2.1, by omega⟩ x) (fun x => absurd g3 x)
                exact pc_take (k := 8) O b3 p3 (Or.inl (by omega)) (by decide) (fun x => absurd x g5) (fun _ m4 f4 p4 => zc0 (hΦ m4 (lFC_t f2 (lFC_t (lFC_p f3) (lFC_p f4))) p4))
              · refine pr_takes O b2 l2.1 (by decide) r5 (fun _ _ _ m3 f3 p3 => ⟨⟨by omega, by omega⟩, ?_⟩) (fun _ x => absurd ⟨hN2.1, by omega⟩ x) (fun x => absurd g3 x)
                rintro _ rfl
                rw [n25]
                have l3 := lR_u (k := 25 + a) (v := tkN T n (tkE T n (tkE T n b))) (lR_s l2 f3 p3) (by omega)
                refine pr_eats O b3 l3.1 (Or.inl (by omega)) (fun x => absurd x g5) (fun _ => zc0 (pr_fails l3.1 (fun m4 f4 p4 => ?_)))
                exact dd_112 ha hh (prX_D p4 (tkF_g (by omega))) (fun m' f' x' => hΨ m' (lFR_t (lFR_t (lFR_4 (lFR_t f2 (lFR_p f3))) (lFR_p f4)) f') (x' _ _ p4))
          · refine ⟨.inr (3, (tkA T n (tkE T n (tkE T n b)) : Nat)), ⟨by omega, tkA_g hn b2⟩, fun Φ m h hΦ => goC1 Φ m h (fun m2 f2 l2 => ?_), fun Ψ m h hΨ => goR1 Ψ m h (fun m2 f2 l2 => ?_)⟩
            · exact pc_num O b2 l2.1 (by decide) r5 (fun _ _ x => by omega) (fun _ _ m3 f3 p3 => ⟨by decide, fun _ => hΦ m3 (lFC_t f2 (lFC_p f3)) p3, fun x => absurd (by decide) x⟩) (fun x => absurd g3 x)
            · refine pr_takes O b2 l2.1 (by decide) r5 (fun _ _ x => by omega) (fun _ _ m3 z f3 p3 => ⟨⟨by omega, by omega⟩, ?_⟩) (fun x => absurd g3 x)
              rintro _ rfl
              exact dd_by ha hh (prD_u (prX_D p3 (by omega))) (lDX_u (fun m' f' x' => hΨ m' (lFR_t (lFR_t f2 (lFR_p f3)) f') (x' _ _ p3)))
        · refine ⟨.inr (tkF T n (tkE T n (tkE T n b)) 2, (tkA T n (tkE T n (tkE T n b)) : Nat)), ⟨tkF_g (by omega), tkA_g hn b2⟩, fun Φ m h hΦ => goC1 Φ m h (fun m2 f2 l2 => ?_), fun Ψ m h hΨ => goR1 Ψ m h (fun m2 f2 l2 => ?_)⟩
          · exact pc_num O b2 l2.1 (by decide) r5 (fun x => absurd x g3) (fun x => absurd x g3) (fun _ m3 f3 p3 => ⟨by decide, fun _ => hΦ m3 (lFC_t f2 (lFC_p f3)) p3, fun x => absurd (by decide) x⟩)
          · refine pr_takes O b2 l2.1 (by decide) r5 (fun x => absurd x g3) (fun x => absurd x g3) (fun _ m3 z f3 p3 => ⟨⟨by omega, by omega⟩, ?_⟩)
            rintro _ rfl
            exact dd_by ha hh (prD_u (prX_D p3 (tkF_g (by omega)))) (lDX_u (fun m' f' x' => hΨ m' (lFR_t (lFR_t f2 (lFR_p f3)) f') (x' _ _ p3)))
      · refine ⟨.inr (3, (tkA T n (tkE T n b) : Nat)), ⟨by omega, tkA_g hn hE.2⟩, fun Φ m h hΦ => begC Φ m h (fun m1 f1 l1 => ?_), fun Ψ m h hΨ => begR Ψ m h (fun m1 f1 l1 => ?_)⟩
        · exact pc_num O hE.2 l1.1 (by decide) r5 (fun _ _ x => by omega) (fun _ _ m2 f2 p2 => ⟨by decide, fun x => absurd x (by decide), fun _ => hΦ m2 (lFC_t (lFC_p f1) (lFC_p f2)) p2⟩) (fun x => absurd g1 x)
        · exact pr_takes O hE.2 l1.1 (by decide) r5 (fun _ _ x => by omega) (fun _ _ m2 z f2 p2 => flt1 _ _ (by omega) Ψ m m2 z (lFR_t (lFR_p f1) (lFR_p f2)) p2 hΨ) (fun x => absurd g1 x)
    · refine ⟨.inr (tkF T n (tkE T n b) 2, (tkA T n (tkE T n b) : Nat)), ⟨tkF_g (by omega), tkA_g hn hE.2⟩, fun Φ m h hΦ => begC Φ m h (fun m1 f1 l1 => ?_), fun Ψ m h hΨ => begR Ψ m h (fun m1 f1 l1 => ?_)⟩
      · exact pc_num O hE.2 l1.1 (by decide) r5 (fun x => absurd x g1) (fun x => absurd x g1) (fun _ m2 f2 p2 => ⟨by decide, fun x => absurd x (by decide), fun _ => hΦ m2 (lFC_t (lFC_p f1) (lFC_p f2)) p2⟩)
      · exact pr_takes O hE.2 l1.1 (by decide) r5 (fun x => absurd x g1) (fun x => absurd x g1) (fun _ m2 z f2 p2 => flt1 _ _ (tkF_g (by omega)) Ψ m m2 z (lFR_t (lFR_p f1) (lFR_p f2)) p2 hΨ)
end LNB
