/-! READING A UNIT OF A TRUTH: both readers at once -/
section RLS3
variable {f n : Nat} {T : Nat → Int}
theorem tkF_o {b : Nat} {x : Int} (h : tkK T n b ≠ 25) : tkF T n b x = x := if_neg h
/-- the rest of a comparison in the reference, once a fault is met -/
theorem dd_111 (hf : 1 ≤ f) {Ψ : aj_M → Prop} {d : Nat} {v x : Int} {m : aj_M} (hd : 3 ≤ d) (h : prD m) (h0 : Ψ m) : hX12_readUnit_111 f Ψ (rG8 f d) [1] v x m :=
  pr_isD h (zc0 (pr_isD h (zc0 (pr_isD h (zb0 (pr_failsD h (dd_Sum hf hd h (pr_codesD h h0))))))))
theorem dd_cmp (hf : 1 ≤ f) {Ψ : aj_M → Prop} {d : Nat} {v : Int} {m : aj_M} (hd : 3 ≤ d) (h : prD m) (h0 : Ψ m) : wX12_is f (fun z4 m4 => rI z4 ∧ (z4 = 0 → wX12_is f (fun z5 m5 => rI z5 ∧ (z5 = 0 → hX12_readUnit_111 f Ψ (rG8 f d) [1] v 3005 m5) ∧ (¬ (z5 = 0) → hX12_readUnit_111 f Ψ (rG8 f d) [1] v 3004 m5)) [1] 40 m4) ∧ (¬ (z4 = 0) → hX12_readUnit_111 f Ψ (rG8 f d) [1] v 3003 m4)) [1] 39 m :=
  pr_isD h (zb0 (pr_isD h (zb0 (dd_111 hf hd h h0))))
theorem pn_Unit (O : tpOK f T n) {v : Nat} (hv : v ≤ 6) (hS : zPN f T n 4 3 4 (3 + 5 * (6 - v)) false v) (hT : v < 6 → zPN f T n 0 0 8 (6 + 5 * (6 - (v + 1))) true (v + 1)) (hU : v < 6 → zPN f T n 2 2 6 (4 + 5 * (6 - (v + 1))) true (v + 1)) : zPN f T n 2 2 6 (4 + 5 * (6 - v)) true v := by
  have hf := O.1
  have hn := O.2.2
  intro b c hb hc
  have hA := tkA_b (T := T) hb
  have hE := tkE_b (T := T) hb
  have hAg := tkA_g (T := T) hn hb
  by_cases g1 : tkK T n b = 21
  · obtain ⟨hE1, hE2⟩ := tk_more (T := T) hb (by omega)
    have i219 : ∀ {m : aj_M}, pcC m T n b c → m [0, 0] 7 = 219 := fun hC => (pc_is hC (k := 21) (Or.inl (by omega)) (by decide)).mpr g1
    by_cases hv6 : v < 6
    · obtain ⟨r1, k1, k2, k3⟩ := hU hv6 (tkE T n b) c hE.2 (by omega)
      have goC : ∀ (d : Nat) (Φ : Int → aj_M → Prop) (m : aj_M), pcC m T n b c → (∀ m1, pcF m m1 → pcC m1 T n (tkE T n b) c → rG7 f d 2 (fun z2 m2 => rI z2 ∧ (¬ z2 = 0 → wX4_add f (fun m3 => Φ 1 m3) [1, 3, 0, 0] 12 0 m2) ∧ (z2 = 0 → Φ 0 m2)) [0, 0] ((v : Int) + 1) m1) → rG7 f (d + 1) 2 Φ [0, 0] (v : Int) m := by
        intro d Φ m hC hK
        refine rG7_2 ⟨pc_r7 hC, fun _ => ⟨⟨by omega, by omega⟩, fun _ => ⟨pc_r7 hC, fun y => absurd (i219 hC) y, fun _ => ?_⟩, fun x => absurd hv6 (by omega)⟩, fun x => absurd (i219 hC) x⟩
        exact pc_step O hb hC (fun m1 f1 p1 => ⟨by decide, fun _ => hK m1 f1 p1, fun x => absurd x (by decide)⟩)
      have goR : ∀ (d : Nat) (Ψ : aj_M → Prop) (m : aj_M), prR m T n b c → (∀ m1, prF m m1 → prR m1 T n (tkE T n b) c → rG8 f d 2 (fun m11 => wX12_codes f (fun m12 => Ψ m12) [1] 3006 m11) [1] ((v : Int) + 1) m1) → rG8 f (d + 1) 2 Ψ [1] (v : Int) m := by
        intro d Ψ m hR hK
        refine rG8_2 (pr_is hR (Or.inl (by omega)) (fun _ => zb1 ?_) (fun x => absurd g1 x))
        exact pr_goesIn O hb hR hv (fun _ m1 f1 p1 => zc1 (hK m1 f1 p1)) (fun x => absurd hv6 (by omega))
      rcases r1 with ⟨b2, e1⟩ | ⟨x1, a1⟩
      · obtain ⟨q1, q2, q3, q4⟩ := k1
        refine ⟨.inl (b2, e1 ++ [3006]), ⟨by omega, q2, by simp only [List.length_append, List.length_singleton]; omega, fun ts hts => ?_⟩, fun d hd Φ m hC hΦ => ?_, fun d hd Ψ m hR hΨ => ?_⟩
        · rw [zts_app (q4 ts (by omega))]
          exact zts_1 rfl (by simp only [List.length_cons]; omega)
        · obtain ⟨d, rfl⟩ : ∃ d', d = d' + 1 := ⟨d - 1, by omega⟩
          refine goC d Φ m hC (fun m1 f1 p1 => k2 d (by omega) _ m1 p1 (fun m2 f2 p2 => zc1 ?_))
          refine pc_add (cd := 3006) (by simp only [List.length_append]; omega) (by decide) p2 (fun m3 f3 p3 => ?_)
          rw [List.append_assoc] at p3
          exact hΦ m3 (pcF_t f1 (pcF_t f2 f3)) p3
        · obtain ⟨d, rfl⟩ : ∃ d', d = d' + 1 := ⟨d - 1, by omega⟩
          refine goR d Ψ m hR (fun m1 f1 p1 => k3 d (by omega) _ m1 p1 (fun m2 f2 p2 => ?_))
          refine pr_codes (by simp only [List.length_append]; omega) p2 (fun m3 f3 p3 => ?_)
          rw [List.append_assoc] at p3
          exact hΨ m3 (prF_t f1 (prF_t f2 f3)) p3
      · refine ⟨.inr (x1, a1), k1, fun d hd Φ m hC hΦ => ?_, fun d hd Ψ m hR hΨ => ?_⟩
        · obtain ⟨d, rfl⟩ : ∃ d', d = d' + 1 := ⟨d - 1, by omega⟩
          exact goC d Φ m hC (fun m1 f1 p1 => k2 d (by omega) _ m1 p1 (fun m2 f2 p2 => zc0 (hΦ m2 (pcF_t f1 f2) p2)))
        · obtain ⟨d, rfl⟩ : ∃ d', d = d' + 1 := ⟨d - 1, by omega⟩
          exact goR d Ψ m hR (fun m1 f1 p1 => k3 d (by omega) _ m1 p1 (fun m2 f2 p2 => pr_codesD (prX_D p2 k1.1) (hΨ m2 (prF_t f1 f2) p2)))
    · refine ⟨.inr (4, (tkA T n b : Nat)), ⟨by omega, hAg⟩, fun d hd Φ m hC hΦ => ?_, fun d hd Ψ m hR hΨ => ?_⟩
      · obtain ⟨d, rfl⟩ : ∃ d', d = d' + 1 := ⟨d - 1, by omega⟩
        exact rG7_2 ⟨pc_r7 hC, fun _ => ⟨⟨by omega, by omega⟩, fun x => absurd x (by omega), fun _ => pc_faulty hC (fun m1 f1 p1 => ⟨Or.inl rfl, hΦ m1 f1 p1⟩)⟩, fun x => absurd (i219 hC) x⟩
      · obtain ⟨d, rfl⟩ : ∃ d', d = d' + 1 := ⟨d - 1, by omega⟩
        refine rG8_2 (pr_is hR (Or.inl (by omega)) (fun _ => zb1 ?_) (fun x => absurd g1 x))
        refine pr_goesIn O hb hR hv (fun x => absurd x hv6) (fun _ m1 f1 p1 => zc0 (hΨ m1 f1 ?_))
        rw [tkF_o (by omega)] at p1
        exact p1
  · by_cases g2 : tkK T n b = 37
    · obtain ⟨hE1, hE2⟩ := tk_more (T := T) hb (by omega)
      have i219 : ∀ {m : aj_M}, pcC m T n b c → ¬ m [0, 0] 7 = 219 := fun hC x => g1 ((pc_is hC (k := 21) (Or.inl (by omega)) (by decide)).mp x)
      have i91 : ∀ {m : aj_M}, pcC m T n b c → m [0, 0] 7 = 91 := fun hC => (pc_is hC (k := 37) (Or.inr (by omega)) (by decide)).mpr g2
      by_cases hv6 : v < 6
      · obtain ⟨r1, k1, k2, k3⟩ := hT hv6 (tkE T n b) c hE.2 (by omega)
        have goC : ∀ (d : Nat) (Φ : Int → aj_M → Prop) (m : aj_M), pcC m T n b c → (∀ m1, pcF m m1 → pcC m1 T n (tkE T n b) c → rG7 f d 0 (fun z4 m4 => rI z4 ∧ (z4 = 0 → Φ 0 m4) ∧ (¬ (z4 = 0) → wX7_take f (fun z5 m5 => rI z5 ∧ (z5 = 0 → Φ 0 m5) ∧ (¬ (z5 = 0) → Φ 1 m5)) [0, 0] 93 m4)) [0, 0] ((v : Int) + 1) m1) → rG7 f (d + 1) 2 Φ [0, 0] (v : Int) m := by
          intro d Φ m hC hK
          refine rG7_2 ⟨pc_r7 hC, fun x => absurd x (i219 hC), fun _ => ⟨pc_r7 hC, fun _ => ⟨⟨by omega, by omega⟩, fun _ => ⟨pc_r7 hC, fun _ => ?_, fun y => absurd y (i219 hC)⟩, fun x => absurd hv6 (by omega)⟩, fun x => absurd (i91 hC) x⟩⟩
          exact pc_step O hb hC (fun m1 f1 p1 => ⟨by decide, fun x => absurd rfl x, fun _ => hK m1 f1 p1⟩)
        have goR : ∀ (d : Nat) (Ψ : aj_M → Prop) (m : aj_M), prR m T n b c → (∀ m1, prF m m1 → prR m1 T n (tkE T n b) c → rG8 f d 0 (fun m7 => wX12_eats f (fun z8 m8 => rI z8 ∧ (¬ z8 = 0 → Ψ m8) ∧ (z8 = 0 → wX12_fails f (fun m9 => Ψ m9) [1] 2 m8)) [1] 38 m7) [1] ((v : Int) + 1) m1) → rG8 f (d + 1) 2 Ψ [1] (v : Int) m := by
          intro d Ψ m hR hK
          refine rG8_2 (pr_is hR (Or.inl (by omega)) (fun x => absurd x g1) (fun _ => zb0 (pr_is hR (Or.inr (by omega)) (fun _ => zb1 ?_) (fun x => absurd g2 x))))
          exact pr_goesIn O hb hR hv (fun _ m1 f1 p1 => zc1 (hK m1 f1 p1)) (fun x => absurd hv6 (by omega))
        rcases r1 with ⟨b2, e1⟩ | ⟨x1, a1⟩
        · obtain ⟨q1, q2, q3, q4⟩ := k1
          have hE' := tkE_b (T := T) q2
          by_cases g3 : tkK T n b2 = 38
          · obtain ⟨hE3, hE4⟩ := tk_more (T := T) q2 (by omega)
            refine ⟨.inl (tkE T n b2, e1), ⟨by omega, hE'.2, by omega, fun ts hts => q4 ts (by omega)⟩, fun d hd Φ m hC hΦ => ?_, fun d hd Ψ m hR hΨ => ?_⟩
            · obtain ⟨d, rfl⟩ : ∃ d', d = d' + 1 := ⟨d - 1, by omega⟩
              refine goC d Φ m hC (fun m1 f1 p1 => k2 d (by omega) _ m1 p1 (fun m2 f2 p2 => zb1 ?_))
              exact pc_take (k := 38) O q2 p2 (Or.inr (by omega)) (by decide) (fun _ m3 f3 p3 => zb1 (hΦ m3 (pcF_t f1 (pcF_t f2 f3)) p3)) (fun x => absurd g3 x)
            · obtain ⟨d, rfl⟩ : ∃ d', d = d' + 1 := ⟨d - 1, by omega⟩
              refine goR d Ψ m hR (fun m1 f1 p1 => k3 d (by omega) _ m1 p1 (fun m2 f2 p2 => ?_))
              exact pr_eats O q2 p2 (Or.inr (by omega)) (fun _ m3 f3 p3 => zc1 (hΨ m3 (prF_t f1 (prF_t f2 f3)) p3)) (fun x => absurd g3 x)
          · refine ⟨.inr (tkF T n b2 2, (tkA T n b2 : Nat)), ⟨tkF_g (by omega), tkA_g hn q2⟩, fun d hd Φ m hC hΦ => ?_, fun d hd Ψ m hR hΨ => ?_⟩
            · obtain ⟨d, rfl⟩ : ∃ d', d = d' + 1 := ⟨d - 1, by omega⟩
              refine goC d Φ m hC (fun m1 f1 p1 => k2 d (by omega) _ m1 p1 (fun m2 f2 p2 => zb1 ?_))
              exact pc_take (k := 38) O q2 p2 (Or.inr (by omega)) (by decide) (fun x => absurd x g3) (fun _ m3 f3 p3 => zb0 (hΦ m3 (pcF_t f1 (pcF_t f2 f3)) p3))
            · obtain ⟨d, rfl⟩ : ∃ d', d = d' + 1 := ⟨d - 1, by omega⟩
              refine goR d Ψ m hR (fun m1 f1 p1 => k3 d (by omega) _ m1 p1 (fun m2 f2 p2 => ?_))
              exact pr_eats O q2 p2 (Or.inr (by omega)) (fun x => absurd x g3) (fun _ => zc0 (pr_fails p2 (fun m3 f3 p3 => hΨ m3 (prF_t f1 (prF_t f2 f3)) p3)))
        · refine ⟨.inr (x1, a1), k1, fun d hd Φ m hC hΦ => ?_, fun d hd Ψ m hR hΨ => ?_⟩
          · obtain ⟨d, rfl⟩ : ∃ d', d = d' + 1 := ⟨d - 1, by omega⟩
            exact goC d Φ m hC (fun m1 f1 p1 => k2 d (by omega) _ m1 p1 (fun m2 f2 p2 => zb0 (hΦ m2 (pcF_t f1 f2) p2)))
          · obtain ⟨d, rfl⟩ : ∃ d', d = d' + 1 := ⟨d - 1, by omega⟩
            exact goR d Ψ m hR (fun m1 f1 p1 => k3 d (by omega) _ m1 p1 (fun m2 f2 p2 => pr_eatsD (prX_D p2 k1.1) (zc0 (pr_failsD (prX_D p2 k1.1) (hΨ m2 (prF_t f1 f2) p2)))))
      · refine ⟨.inr (4, (tkA T n b : Nat)), ⟨by omega, hAg⟩, fun d hd Φ m hC hΦ => ?_, fun d hd Ψ m hR hΨ => ?_⟩
        · obtain ⟨d, rfl⟩ : ∃ d', d = d' + 1 := ⟨d - 1, by omega⟩
          exact rG7_2 ⟨pc_r7 hC, fun x => absurd x (i219 hC), fun _ => ⟨pc_r7 hC, fun _ => ⟨⟨by omega, by omega⟩, fun x => absurd x (by omega), fun _ => pc_faulty hC (fun m1 f1 p1 => ⟨Or.inl rfl, hΦ m1 f1 p1⟩)⟩, fun x => absurd (i91 hC) x⟩⟩
        · obtain ⟨d, rfl⟩ : ∃ d', d = d' + 1 := ⟨d - 1, by omega⟩
          refine rG8_2 (pr_is hR (Or.inl (by omega)) (fun x => absurd x g1) (fun _ => zb0 (pr_is hR (Or.inr (by omega)) (fun _ => zb1 ?_) (fun x => absurd g2 x))))
          refine pr_goesIn O hb hR hv (fun x => absurd x hv6) (fun _ m1 f1 p1 => zc0 (hΨ m1 f1 ?_))
          rw [tkF_o (by omega)] at p1
          exact p1
    · have i219 : ∀ {m : aj_M}, pcC m T n b c → ¬ m [0, 0] 7 = 219 := fun hC x => g1 ((pc_is hC (k := 21) (Or.inl (by omega)) (by decide)).mp x)
      have i91 : ∀ {m : aj_M}, pcC m T n b c → ¬ m [0, 0] 7 = 91 := fun hC x => g2 ((pc_is hC (k := 37) (Or.inr (by omega)) (by decide)).mp x)
      obtain ⟨r1, k1, k2, k3⟩ := hS b c hb hc
      have goC : ∀ (d : Nat) (Φ : Int → aj_M → Prop) (m : aj_M), pcC m T n b c → wbX7_readComparison f (fun z3 m3 => (z3 = 0 ∨ z3 = 1) ∧ Φ z3 m3) (rG7 f d) [0, 0] (v : Int) m → rG7 f (d + 1 + 1) 2 Φ [0, 0] (v : Int) m := by
        intro d Φ m hC hK
        exact rG7_2 ⟨pc_r7 hC, fun x => absurd x (i219 hC), fun _ => ⟨pc_r7 hC, fun x => absurd x (i91 hC), fun _ => rG7_3 hK⟩⟩
      have goR : ∀ (d : Nat) (Ψ : aj_M → Prop) (m : aj_M), prR m T n b c → rG8 f d 3 (fun m3 => wX12_is f (fun z4 m4 => rI z4 ∧ (z4 = 0 → wX12_is f (fun z5 m5 => rI z5 ∧ (z5 = 0 → hX12_readUnit_111 f Ψ (rG8 f d) [1] (v : Int) 3005 m5) ∧ (¬ (z5 = 0) → hX12_readUnit_111 f Ψ (rG8 f d) [1] (v : Int) 3004 m5)) [1] 40 m4) ∧ (¬ (z4 = 0) → hX12_readUnit_111 f Ψ (rG8 f d) [1] (v : Int) 3003 m4)) [1] 39 m3) [1] (v : Int) m → rG8 f (d + 1) 2 Ψ [1] (v : Int) m := by
        intro d Ψ m hR hK
        exact rG8_2 (pr_is hR (Or.inl (by omega)) (fun x => absurd x g1) (fun _ => zb0 (pr_is hR (Or.inr (by omega)) (fun x => absurd x g2) (fun _ => zb0 hK))))
      rcases r1 with ⟨b1, e1⟩ | ⟨x1, a1⟩
      · obtain ⟨q1, q2, q3, q4⟩ := k1
        have hE' := tkE_b (T := T) q2
        by_cases g3 : tkK T n b1 = 39 ∨ tkK T n b1 = 40 ∨ tkK T n b1 = 41
        · obtain ⟨hE3, hE4⟩ := tk_more (T := T) q2 (by omega)
          obtain ⟨r2, l1, l2, l3⟩ := hS (tkE T n b1) (c ++ e1) hE'.2 (by simp only [List.length_append]; omega)
          obtain ⟨cd, hcd, c39, c40, c41⟩ : ∃ cd : Int, (3003 ≤ cd ∧ cd ≤ 3005) ∧ (tkK T n b1 = 39 → cd = 3003) ∧ (tkK T n b1 = 40 → cd = 3004) ∧ (tkK T n b1 = 41 → cd = 3005) := by
            rcases g3 with g | g | g
            · exact ⟨3003, by omega, fun _ => rfl, fun _ => by omega, fun _ => by omega⟩
            · exact ⟨3004, by omega, fun _ => by omega, fun _ => rfl, fun _ => by omega⟩
            · exact ⟨3005, by omega, fun _ => by omega, fun _ => by omega, fun _ => rfl⟩
          -- behind the sign, class
          have goC2 : ∀ (d : Nat) (Φ : Int → aj_M → Prop) (m : aj_M), pcC m T n b1 (c ++ e1) → (∀ m1, pcF m m1 → pcC m1 T n (tkE T n b1) (c ++ e1) → rG7 f d 4 (fun z2 m2 => rI z2 ∧ (¬ z2 = 0 → wX4_add f (fun m3 => Φ 1 m3) [1, 3, 0, 0] (cd - 2994) 0 m2) ∧ (z2 = 0 → Φ 0 m2)) [0, 0] (v : Int) m1) → rI (m [0, 0] 7) ∧ ((m [0, 0] 7) = 61 → hX7_readComparison_38 f Φ (rG7 f d) [0, 0] (v : Int) (m [0, 0] 7) m) ∧ (¬ ((m [0, 0] 7) = 61) → rI (m [0, 0] 7) ∧ ((m [0, 0] 7) = 60 → hX7_readComparison_38 f Φ (rG7 f d) [0, 0] (v : Int) (m [0, 0] 7) m) ∧ (¬ ((m [0, 0] 7) = 60) → rI (m [0, 0] 7) ∧ ((m [0, 0] 7) = 62 → hX7_readComparison_38 f Φ (rG7 f d) [0, 0] (v : Int) (m [0, 0] 7) m) ∧ (¬ ((m [0, 0] 7) = 62) → wX7_cantStand f (fun z2 m2 => (z2 = 0 ∨ z2 = 1) ∧ Φ z2 m2) [0, 0] m))) := by
            intro d Φ m hC hK
            have i61 := pc_is hC (k := 39) (v := 61) (Or.inr (by omega)) (by decide)
            have i60 := pc_is hC (k := 40) (v := 60) (Or.inr (by omega)) (by decide)
            have i62 := pc_is hC (k := 41) (v := 62) (Or.inr (by omega)) (by decide)
            have r7 := pc_r7 hC
            have s38 : hX7_readComparison_38 f Φ (rG7 f d) [0, 0] (v : Int) (m [0, 0] 7) m := by
              refine pc_step O q2 hC (fun m1 f1 p1 => ?_)
              have hk := hK m1 f1 p1
              have e : (fun z2 m2 => rI z2 ∧ (¬ z2 = 0 → wX4_add f (fun m3 => Φ 1 m3) [1, 3, 0, 0] (cd - 2994) 0 m2) ∧ (z2 = 0 → Φ 0 m2)) = (fun z2 m2 => rI z2 ∧ (¬ z2 = 0 → rI (m [0, 0] 7) ∧ (¬ (m [0, 0] 7) = 61 → rI (m [0, 0] 7) ∧ (¬ (m [0, 0] 7) = 60 → wX4_add f (fun m3 => Φ 1 m3) [1, 3, 0, 0] 11 0 m2) ∧ ((m [0, 0] 7) = 60 → wX4_add f (fun m4 => Φ 1 m4) [1, 3, 0, 0] 10 0 m2)) ∧ ((m [0, 0] 7) = 61 → wX4_add f (fun m5 => Φ 1 m5) [1, 3, 0, 0] 9 0 m2)) ∧ (z2 = 0 → Φ 0 m2)) := by
                funext z2 m2
                refine propext ⟨fun h => ⟨h.1, fun a => ⟨r7, fun x => ⟨r7, fun y => ?_, fun y => ?_⟩, fun x => ?_⟩, h.2.2⟩, fun h => ⟨h.1, fun a => ?_, h.2.2⟩⟩
                · have h2 := h.2.1 a
                  rw [c41 (by rcases g3 with g | g | g; exact absurd (i61.mpr g) x; exact absurd (i60.mpr g) y; exact g)] at h2
                  exact h2
                · have h2 := h.2.1 a
                  rw [c40 (i60.mp y)] at h2
                  exact h2
                · have h2 := h.2.1 a
                  rw [c39 (i61.mp x)] at h2
                  exact h2
                · have h2 := h.2.1 a
                  rcases g3 with g | g | g
                  · rw [c39 g]
                    exact h2.2.2 (i61.mpr g)
                  · rw [c40 g]
                    exact (h2.2.1 (fun x => by have := i61.mp x; omega)).2.2 (i60.mpr g)
                  · rw [c41 g]
                    exact (h2.2.1 (fun x => by have := i61.mp x; omega)).2.1 (fun x => by have := i60.mp x; omega)
              rw [e] at hk
              exact hk
            exact ⟨r7, fun _ => s38, fun x => ⟨r7, fun _ => s38, fun y => ⟨r7, fun _ => s38, fun z => by
              rcases g3 with g | g | g
              · exact absurd (i61.mpr g) x
              · exact absurd (i60.mpr g) y
              · exact absurd (i62.mpr g) z⟩⟩⟩
          have goR2 : ∀ (d : Nat) (Ψ : aj_M → Prop) (m : aj_M), prR m T n b1 (c ++ e1) → (∀ m1, prF m m1 → prR m1 T n (tkE T n b1) (c ++ e1) → rG8 f d 3 (fun m3 => wX12_codes f (fun m4 => Ψ m4) [1] cd m3) [1] (v : Int) m1) → wX12_is f (fun z4 m4 => rI z4 ∧ (z4 = 0 → wX12_is f (fun z5 m5 => rI z5 ∧ (z5 = 0 → hX12_readUnit_111 f Ψ (rG8 f d) [1] (v : Int) 3005 m5) ∧ (¬ (z5 = 0) → hX12_readUnit_111 f Ψ (rG8 f d) [1] (v : Int) 3004 m5)) [1] 40 m4) ∧ (¬ (z4 = 0) → hX12_readUnit_111 f Ψ (rG8 f d) [1] (v : Int) 3003 m4)) [1] 39 m := by
            intro d Ψ m hR hK
            have s111 : hX12_readUnit_111 f Ψ (rG8 f d) [1] (v : Int) cd m := by
              have go := pr_next O q2 hR hK
              exact pr_is hR (Or.inr (by omega)) (fun _ => zc1 go) (fun x => zc0 (pr_is hR (Or.inr (by omega)) (fun _ => zc1 go) (fun y => zc0 (pr_is hR (Or.inr (by omega)) (fun _ => zb1 go) (fun z => by omega)))))
            refine pr_is hR (Or.inr (by omega)) (fun x => zb1 ?_) (fun x => zb0 (pr_is hR (Or.inr (by omega)) (fun y => zb1 ?_) (fun y => zb0 ?_)))
            · rw [c39 x] at s111
              exact s111
            · rw [c40 y] at s111
              exact s111
            · rw [c41 (by omega)] at s111
              exact s111
          rcases r2 with ⟨b2, e2⟩ | ⟨x2, a2⟩
          · obtain ⟨p1, p2, p3, p4⟩ := l1
            refine ⟨.inl (b2, e1 ++ (e2 ++ [cd])), ⟨by omega, p2, by simp only [List.length_append, List.length_singleton]; omega, fun ts hts => ?_⟩, fun d hd Φ m hC hΦ => ?_, fun d hd Ψ m hR hΨ => ?_⟩
            · rw [zts_app (q4 ts (by omega)), zts_app (p4 (false :: ts) (by simp only [List.length_cons]; omega))]
              refine zts_1 ?_ (by simp only [List.length_cons]; omega)
              rcases g3 with g | g | g
              · rw [c39 g]; rfl
              · rw [c40 g]; rfl
              · rw [c41 g]; rfl
            · obtain ⟨d, rfl⟩ : ∃ d', d = d' + 1 + 1 := ⟨d - 2, by omega⟩
              refine goC d Φ m hC (k2 d (by omega) _ m hC (fun m1 f1 q1 => zc1 (goC2 d _ m1 q1 (fun m2 f2 q2 => l2 d (by omega) _ m2 q2 (fun m3 f3 q3 => zc1 ?_)))))
              refine pc_add (cd := cd) (by simp only [List.length_append]; omega) (by unfold zenc; rw [if_neg (by omega), if_neg (by omega)]; omega) q3 (fun m4 f4 q4 => ?_)
              rw [List.append_assoc, List.append_assoc] at q4
              exact ⟨Or.inr rfl, hΦ m4 (pcF_t f1 (pcF_t f2 (pcF_t f3 f4))) q4⟩
            · obtain ⟨d, rfl⟩ : ∃ d', d = d' + 1 := ⟨d - 1, by omega⟩
              refine goR d Ψ m hR (k3 d (by omega) _ m hR (fun m1 f1 q1 => goR2 d _ m1 q1 (fun m2 f2 q2 => l3 d (by omega) _ m2 q2 (fun m3 f3 q3 => ?_))))
              refine pr_codes (by simp only [List.length_append]; omega) q3 (fun m4 f4 q4 => ?_)
              rw [List.append_assoc, List.append_assoc] at q4
              exact hΨ m4 (prF_t f1 (prF_t f2 (prF_t f3 f4))) q4
          · refine ⟨.inr (x2, a2), l1, fun d hd Φ m hC hΦ => ?_, fun d hd Ψ m hR hΨ => ?_⟩
            · obtain ⟨d, rfl⟩ : ∃ d', d = d' + 1 + 1 := ⟨d - 2, by omega⟩
              exact goC d Φ m hC (k2 d (by omega) _ m hC (fun m1 f1 q1 => zc1 (goC2 d _ m1 q1 (fun m2 f2 q2 => l2 d (by omega) _ m2 q2 (fun m3 f3 q3 => zc0 ⟨Or.inl rfl, hΦ m3 (pcF_t f1 (pcF_t f2 f3)) q3⟩)))))
            · obtain ⟨d, rfl⟩ : ∃ d', d = d' + 1 := ⟨d - 1, by omega⟩
              exact goR d Ψ m hR (k3 d (by omega) _ m hR (fun m1 f1 q1 => goR2 d _ m1 q1 (fun m2 f2 q2 => l3 d (by omega) _ m2 q2 (fun m3 f3 q3 => pr_codesD (prX_D q3 l1.1) (hΨ m3 (prF_t f1 (prF_t f2 f3)) q3)))))
        · refine ⟨.inr (tkF T n b1 2, (tkA T n b1 : Nat)), ⟨tkF_g (by omega), tkA_g hn q2⟩, fun d hd Φ m hC hΦ => ?_, fun d hd Ψ m hR hΨ => ?_⟩
          · obtain ⟨d, rfl⟩ : ∃ d', d = d' + 1 + 1 := ⟨d - 2, by omega⟩
            refine goC d Φ m hC (k2 d (by omega) _ m hC (fun m1 f1 q1 => zc1 ?_))
            have i61 := pc_is q1 (k := 39) (v := 61) (Or.inr (by omega)) (by decide)
            have i60 := pc_is q1 (k := 40) (v := 60) (Or.inr (by omega)) (by decide)
            have i62 := pc_is q1 (k := 41) (v := 62) (Or.inr (by omega)) (by decide)
            have r7 := pc_r7 q1
            exact ⟨r7, fun x => absurd (i61.mp x) (by omega), fun _ => ⟨r7, fun x => absurd (i60.mp x) (by omega), fun _ => ⟨r7, fun x => absurd (i62.mp x) (by omega), fun _ => pc_cant q1 (fun m2 f2 q2 => ⟨Or.inl rfl, Or.inl rfl, hΦ m2 (pcF_t f1 f2) q2⟩)⟩⟩⟩
          · obtain ⟨d, rfl⟩ : ∃ d', d = d' + 1 := ⟨d - 1, by omega⟩
            refine goR d Ψ m hR (k3 d (by omega) _ m hR (fun m1 f1 q1 => ?_))
            have s111 : hX12_readUnit_111 f Ψ (rG8 f d) [1] (v : Int) 3005 m1 := by
              refine pr_is q1 (Or.inr (by omega)) (fun x => by omega) (fun _ => zc0 (pr_is q1 (Or.inr (by omega)) (fun x => by omega) (fun _ => zc0 (pr_is q1 (Or.inr (by omega)) (fun x => by omega) (fun _ => zb0 (pr_fails q1 (fun m2 f2 q2 => ?_)))))))
              have hD := prX_D q2 (tkF_g (by omega))
              exact dd_Sum (by omega) (by omega) hD (pr_codesD hD (hΨ m2 (prF_t f1 f2) q2))
            exact pr_is q1 (Or.inr (by omega)) (fun x => by omega) (fun _ => zb0 (pr_is q1 (Or.inr (by omega)) (fun x => by omega) (fun _ => zb0 s111)))
      · refine ⟨.inr (x1, a1), k1, fun d hd Φ m hC hΦ => ?_, fun d hd Ψ m hR hΨ => ?_⟩
        · obtain ⟨d, rfl⟩ : ∃ d', d = d' + 1 + 1 := ⟨d - 2, by omega⟩
          exact goC d Φ m hC (k2 d (by omega) _ m hC (fun m1 f1 q1 => zc0 ⟨Or.inl rfl, hΦ m1 f1 q1⟩))
        · obtain ⟨d, rfl⟩ : ∃ d', d = d' + 1 := ⟨d - 1, by omega⟩
          exact goR d Ψ m hR (k3 d (by omega) _ m hR (fun m1 f1 q1 => dd_cmp (by omega) (by omega) (prX_D q1 k1.1) (hΨ m1 f1 q1)))
end RLS3
