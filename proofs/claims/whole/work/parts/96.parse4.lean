/-! READING AN ATOM, A LAW: both readers at once -/
def wOf (v : Int) : Int := if v = 5 then 4 else if v = 7 then 0 else if v = 16 then 1 else if v = 17 then 2 else if v = 18 then 3 else -1
theorem pWordOf {f : Nat} {Φ : Int → aj_M → Prop} {m : aj_M} {v : Int} (hv : rI v) (h : Φ (wOf v) m) : wX12_wordOf f Φ v m := by
  unfold wOf at h
  refine ⟨hv, fun x => ?_, fun x => ?_, fun x => ?_, fun x => ?_, fun x => ?_, fun x => ?_, fun x => ?_, fun x => ?_, fun x => ?_, fun x => ?_, fun x => ?_, fun x => ?_, fun x => ?_, fun x => ?_, fun x => ?_⟩
  · rwa [if_neg (by omega), if_neg (by omega), if_neg (by omega), if_neg (by omega), if_neg (by omega)] at h
  all_goals (subst x; simpa using h)
section RLS4
variable {f n : Nat} {T : Nat → Int}
theorem dd_51 (hf : 1 ≤ f) {Ψ : aj_M → Prop} {d : Nat} {v : Int} {m : aj_M} (hd : 3 ≤ d) (h : prD m) (h0 : Ψ m) : hX12_readIf_51 f Ψ (rG8 f d) [1] v m := dd_Sum hf hd h (pr_eatsD h (zc0 (pr_failsD h (pr_codesD h h0))))
theorem dd_If2 (hf : 1 ≤ f) {Ψ : aj_M → Prop} {d : Nat} {v : Int} {m : aj_M} (hd : 3 ≤ d) (h : prD m) (h0 : Ψ m) : rG8 f d 3 (fun m8 => wX12_eats f (fun z9 m9 => rI z9 ∧ (¬ z9 = 0 → hX12_readIf_51 f Ψ (rG8 f d) [1] v m9) ∧ (z9 = 0 → wX12_fails f (fun m10 => hX12_readIf_51 f Ψ (rG8 f d) [1] v m10) [1] 2 m9)) [1] 14 m8) [1] (v + 1) m :=
  dd_Sum hf hd h (pr_eatsD h (zc0 (pr_failsD h (dd_51 hf hd h h0))))
/-- an atom of one token -/
theorem pn_At1 (O : tpOK f T n) {v D b : Nat} {c : List Int} (hD : 1 ≤ D) (hb : b ≤ n) (hc : c.length ≤ b) (kd cd : Int) (h24 : tkK T n b ≠ 24) (hcd : 0 ≤ cd ∧ cd < 1005) (gC : ∀ (R : Nat → (Int → aj_M → Prop) → List Nat → Int → aj_M → Prop) (Φ : Int → aj_M → Prop) (m : aj_M), pcC m T n b c → (∀ nu, nu * 16 + kd = zenc cd → wX7_addAtom f (fun z2 m2 => (z2 = 0 ∨ z2 = 1) ∧ Φ z2 m2) [0, 0] kd nu m) → wbX7_readAtom f Φ R [0, 0] (v : Int) m) (gR : ∀ (R : Nat → (aj_M → Prop) → List Nat → Int → aj_M → Prop) (Ψ : aj_M → Prop) (m : aj_M), prR m T n b c → wX12_codes f (fun m4 => wX12_next f (fun m5 => Ψ m5) [1] m4) [1] cd m → wbX12_readAtom f Ψ R [1] (v : Int) m) : ∃ r, gd n b D false r ∧ (∀ d, 8 * (6 - v) + 2 ≤ d → ∀ (Φ : Int → aj_M → Prop) (m : aj_M), pcC m T n b c → cnC Φ m T n c r → rG7 f d 6 Φ [0, 0] (v : Int) m) ∧ (∀ d, 8 * (6 - v) + 2 ≤ d → ∀ (Ψ : aj_M → Prop) (m : aj_M), prR m T n b c → cnR Ψ m T n c r → rG8 f d 5 Ψ [1] (v : Int) m) := by
  have hf := O.1
  have hn := O.2.2
  have hE := tkE_b (T := T) hb
  obtain ⟨hE1, hE2⟩ := tk_more (T := T) hb h24
  have hA := tkA_b (T := T) hb
  refine ⟨.inl (tkE T n b, [cd]), ⟨hE1, hE.2, by simp only [List.length_singleton]; omega, fun ts hts => ?_⟩, fun d hd Φ m hC hΦ => ?_, fun d hd Ψ m hR hΨ => ?_⟩
  · refine zts_1 ?_ (by simp only [List.length_cons]; omega)
    unfold ztc
    rw [if_pos hcd]
  · obtain ⟨d, rfl⟩ : ∃ d', d = d' + 1 := ⟨d - 1, by omega⟩
    refine rG7_6 (gC _ Φ m hC (fun nu hnu => pc_add (cd := cd) (by omega) hnu hC (fun m1 f1 p1 => pc_step O hb p1 (fun m2 f2 p2 => ⟨Or.inr rfl, hΦ m2 (pcF_t f1 f2) p2⟩))))
  · obtain ⟨d, rfl⟩ : ∃ d', d = d' + 1 := ⟨d - 1, by omega⟩
    exact rG8_5 (gR _ Ψ m hR (pr_codes (by omega) hR (fun m1 f1 p1 => pr_next O hb p1 (fun m2 f2 p2 => hΨ m2 (prF_t f1 f2) p2))))
theorem pn_Atom (O : tpOK f T n) {v : Nat} (hv : v ≤ 6) (hS : v < 6 → zPN f T n 4 3 4 (3 + 5 * (6 - (v + 1))) false (v + 1)) (hT : v < 6 → zPN f T n 0 0 8 (6 + 5 * (6 - (v + 1))) true (v + 1)) : zPN f T n 6 5 2 (1 + 5 * (6 - v)) false v := by
  have hf := O.1
  have hn := O.2.2
  intro b c hb hc
  have hA := tkA_b (T := T) hb
  have hE := tkE_b (T := T) hb
  have hAg := tkA_g (T := T) hn hb
  have i2 : ∀ {m : aj_M}, pcC m T n b c → (m [0, 0] 7 = 2 ↔ tkK T n b = 23) := fun hC => pc_is hC (Or.inl (by omega)) (by decide)
  have i40 : ∀ {m : aj_M}, pcC m T n b c → (m [0, 0] 7 = 40 ↔ tkK T n b = 35) := fun hC => pc_is hC (Or.inr (by omega)) (by decide)
  have i205 : ∀ {m : aj_M}, pcC m T n b c → (m [0, 0] 7 = 205 ↔ tkK T n b = 5) := fun hC => pc_is hC (Or.inl (by omega)) (by decide)
  have i207 : ∀ {m : aj_M}, pcC m T n b c → (m [0, 0] 7 = 207 ↔ tkK T n b = 7) := fun hC => pc_is hC (Or.inl (by omega)) (by decide)
  have i212 : ∀ {m : aj_M}, pcC m T n b c → (m [0, 0] 7 = 212 ↔ tkK T n b = 12) := fun hC => pc_is hC (Or.inl (by omega)) (by decide)
  have i216 : ∀ {m : aj_M}, pcC m T n b c → (m [0, 0] 7 = 216 ↔ tkK T n b = 16) := fun hC => pc_is hC (Or.inl (by omega)) (by decide)
  have i217 : ∀ {m : aj_M}, pcC m T n b c → (m [0, 0] 7 = 217 ↔ tkK T n b = 17) := fun hC => pc_is hC (Or.inl (by omega)) (by decide)
  have i218 : ∀ {m : aj_M}, pcC m T n b c → (m [0, 0] 7 = 218 ↔ tkK T n b = 18) := fun hC => pc_is hC (Or.inl (by omega)) (by decide)
  -- a word
  have wd : ∀ (k kd : Int), tkK T n b = k → (k = 5 ∧ kd = 5 ∨ k = 7 ∧ kd = 1 ∨ k = 16 ∧ kd = 2 ∨ k = 17 ∧ kd = 3 ∨ k = 18 ∧ kd = 4) → ∃ r, gd n b (1 + 5 * (6 - v)) false r ∧ (∀ d, 8 * (6 - v) + 2 ≤ d → ∀ (Φ : Int → aj_M → Prop) (m : aj_M), pcC m T n b c → cnC Φ m T n c r → rG7 f d 6 Φ [0, 0] (v : Int) m) ∧ (∀ d, 8 * (6 - v) + 2 ≤ d → ∀ (Ψ : aj_M → Prop) (m : aj_M), prR m T n b c → cnR Ψ m T n c r → rG8 f d 5 Ψ [1] (v : Int) m) := by
    intro k kd hk hkd
    have hz : (0 : Int) * 16 + kd = zenc (999 + kd) := by
      unfold zenc
      rw [if_neg (by omega), if_pos (by omega)]
      omega
    refine pn_At1 O (by omega) hb hc kd (999 + kd) (by omega) (by omega) (fun R Φ m hC hK => ?_) (fun R Ψ m hR hK => ?_)
    · have h0 := hK 0 hz
      have y2 := i2 hC
      have y40 := i40 hC
      have y205 := i205 hC
      have y207 := i207 hC
      have y212 := i212 hC
      have y216 := i216 hC
      have y217 := i217 hC
      have y218 := i218 hC
      refine ⟨pc_r7 hC, fun x => ?_, fun x => absurd (y2.mp x) (by omega), fun x => absurd (y40.mp x) (by omega), fun x => ?_, fun x => ?_, fun x => absurd (y212.mp x) (by omega), fun x => ?_, fun x => ?_, fun x => ?_⟩
      · exfalso
        obtain ⟨x1, x2, x3, x4, x5, x6, x7, x8⟩ := x
        rcases hkd with h | h | h | h | h
        · exact x3 (y205.mpr (by omega))
        · exact x4 (y207.mpr (by omega))
        · exact x6 (y216.mpr (by omega))
        · exact x7 (y217.mpr (by omega))
        · exact x8 (y218.mpr (by omega))
      · have := y205.mp x
        rw [show kd = 5 by omega] at h0
        exact h0
      · have := y207.mp x
        rw [show kd = 1 by omega] at h0
        exact h0
      · have := y216.mp x
        rw [show kd = 2 by omega] at h0
        exact h0
      · have := y217.mp x
        rw [show kd = 3 by omega] at h0
        exact h0
      · have := y218.mp x
        rw [show kd = 4 by omega] at h0
        exact h0
    · have e9 : m [1] 9 = k := by rw [hR.1.2.2.1, hk]
      have ew : wOf k = kd - 1 := by
        unfold wOf
        rcases hkd with ⟨rfl, rfl⟩ | ⟨rfl, rfl⟩ | ⟨rfl, rfl⟩ | ⟨rfl, rfl⟩ | ⟨rfl, rfl⟩ <;> rfl
      have rk : rI k := ⟨by omega, by omega⟩
      refine pr_is hR (Or.inl (by omega)) (fun x => by omega) (fun _ => zb0 ⟨by rw [hR.2.2.1]; decide, fun x => absurd hR.2.2.1 x, fun _ => ?_⟩)
      rw [e9]
      refine pWordOf rk ?_
      rw [e9, ew]
      refine ⟨⟨by omega, by omega⟩, fun x => by omega, fun _ => pWordOf rk ?_⟩
      rw [ew, show 1000 + (kd - 1) = 999 + kd by omega]
      exact hK
  by_cases g23 : tkK T n b = 23
  · have hN := tkN_b g23
    refine pn_At1 O (by omega) hb hc 0 (tkN T n b) (by omega) (by omega) (fun R Φ m hC hK => ?_) (fun R Ψ m hR hK => ?_)
    · have h0 := hK (tkN T n b) (by unfold zenc; rw [if_pos (by omega)]; omega)
      refine ⟨pc_r7 hC, fun x => absurd ((i2 hC).mpr g23) x.1, fun x => ?_, fun x => absurd ((i40 hC).mp x) (by omega), fun x => absurd ((i205 hC).mp x) (by omega), fun x => absurd ((i207 hC).mp x) (by omega), fun x => absurd ((i212 hC).mp x) (by omega), fun x => absurd ((i216 hC).mp x) (by omega), fun x => absurd ((i217 hC).mp x) (by omega), fun x => absurd ((i218 hC).mp x) (by omega)⟩
      rw [hC.1.2.2.2 g23]
      exact h0
    · refine pr_is hR (Or.inl (by omega)) (fun _ => zb1 ?_) (fun x => absurd g23 x)
      rw [hR.1.2.2.2 g23]
      exact hK
  by_cases g5 : tkK T n b = 5
  · exact wd 5 5 g5 (by omega)
  by_cases g7 : tkK T n b = 7
  · exact wd 7 1 g7 (by omega)
  by_cases g16 : tkK T n b = 16
  · exact wd 16 2 g16 (by omega)
  by_cases g17 : tkK T n b = 17
  · exact wd 17 3 g17 (by omega)
  by_cases g18 : tkK T n b = 18
  · exact wd 18 4 g18 (by omega)
  -- the reference comes to what is left
  have go64 : ∀ (d : Nat) (Ψ : aj_M → Prop) (m : aj_M), prR m T n b c → hX12_readAtom_64 f Ψ (rG8 f d) [1] (v : Int) m → rG8 f (d + 1) 5 Ψ [1] (v : Int) m := by
    intro d Ψ m hR hK
    have e9 : m [1] 9 = tkK T n b := hR.1.2.2.1
    have rk : rI (tkK T n b) := by
      have := tkK_b (T := T) (n := n) (b := b)
      exact ⟨by omega, by omega⟩
    have ew : wOf (tkK T n b) = -1 := by
      unfold wOf
      rw [if_neg g5, if_neg g7, if_neg g16, if_neg g17, if_neg g18]
    refine rG8_5 (pr_is hR (Or.inl (by omega)) (fun x => absurd x g23) (fun _ => zb0 ⟨by rw [hR.2.2.1]; decide, fun x => absurd hR.2.2.1 x, fun _ => ?_⟩))
    rw [e9]
    refine pWordOf rk ?_
    rw [ew]
    exact ⟨by decide, fun _ => hK, fun x => absurd rfl x⟩
  by_cases g35 : tkK T n b = 35
  · obtain ⟨hE1, hE2⟩ := tk_more (T := T) hb (by omega)
    by_cases hv6 : v < 6
    · obtain ⟨r1, k1, k2, k3⟩ := hS hv6 (tkE T n b) c hE.2 (by omega)
      have goC : ∀ (d : Nat) (Φ : Int → aj_M → Prop) (m : aj_M), pcC m T n b c → (∀ m1, pcF m m1 → pcC m1 T n (tkE T n b) c → rG7 f d 4 (fun z9 m9 => rI z9 ∧ (z9 = 0 → (((0 : Int) = 0 ∨ (0 : Int) = 1) ∧ Φ 0 m9)) ∧ (¬ (z9 = 0) → wX7_take f (fun z10 m10 => rI z10 ∧ (z10 = 0 → (((0 : Int) = 0 ∨ (0 : Int) = 1) ∧ Φ 0 m10)) ∧ (¬ (z10 = 0) → (((1 : Int) = 0 ∨ (1 : Int) = 1) ∧ Φ 1 m10))) [0, 0] 41 m9)) [0, 0] ((v : Int) + 1) m1) → rG7 f (d + 1 + 1) 6 Φ [0, 0] (v : Int) m := by
        intro d Φ m hC hK
        refine rG7_6 ⟨pc_r7 hC, fun x => absurd ((i40 hC).mpr g35) x.2.1, fun x => absurd ((i2 hC).mp x) g23, fun _ => ⟨⟨by omega, by omega⟩, fun _ => rG7_7 ⟨pc_r7 hC, fun x => absurd ((i40 hC).mpr g35) x, fun _ => ?_⟩, fun x => absurd hv6 (by omega)⟩, fun x => absurd ((i205 hC).mp x) g5, fun x => absurd ((i207 hC).mp x) g7, fun x => absurd ((i212 hC).mp x) (by omega), fun x => absurd ((i216 hC).mp x) g16, fun x => absurd ((i217 hC).mp x) g17, fun x => absurd ((i218 hC).mp x) g18⟩
        exact pc_step O hb hC (fun m1 f1 p1 => ⟨by decide, fun x => absurd x (by decide), fun _ => hK m1 f1 p1⟩)
      have goR : ∀ (d : Nat) (Ψ : aj_M → Prop) (m : aj_M), prR m T n b c → (∀ m1, prF m m1 → prR m1 T n (tkE T n b) c → rG8 f d 3 (fun m6 => wX12_eats f (fun z7 m7 => rI z7 ∧ (¬ z7 = 0 → Ψ m7) ∧ (z7 = 0 → wX12_fails f (fun m8 => Ψ m8) [1] 2 m7)) [1] 36 m6) [1] ((v : Int) + 1) m1) → rG8 f (d + 1) 5 Ψ [1] (v : Int) m := by
        intro d Ψ m hR hK
        refine go64 d Ψ m hR (pr_is hR (Or.inr (by omega)) (fun _ => zb1 ?_) (fun x => absurd g35 x))
        exact pr_goesIn O hb hR hv (fun _ m1 f1 p1 => zc1 (hK m1 f1 p1)) (fun x => absurd hv6 (by omega))
      rcases r1 with ⟨b2, e1⟩ | ⟨x1, a1⟩
      · obtain ⟨q1, q2, q3, q4⟩ := k1
        have hE' := tkE_b (T := T) q2
        by_cases g3 : tkK T n b2 = 36
        · obtain ⟨hE3, hE4⟩ := tk_more (T := T) q2 (by omega)
          refine ⟨.inl (tkE T n b2, e1), ⟨by omega, hE'.2, by omega, fun ts hts => q4 ts (by omega)⟩, fun d hd Φ m hC hΦ => ?_, fun d hd Ψ m hR hΨ => ?_⟩
          · obtain ⟨d, rfl⟩ : ∃ d', d = d' + 1 + 1 := ⟨d - 2, by omega⟩
            refine goC d Φ m hC (fun m1 f1 p1 => k2 d (by omega) _ m1 p1 (fun m2 f2 p2 => zb1 ?_))
            exact pc_take (k := 36) O q2 p2 (Or.inr (by omega)) (by decide) (fun _ m3 f3 p3 => zb1 ⟨Or.inr rfl, hΦ m3 (pcF_t f1 (pcF_t f2 f3)) p3⟩) (fun x => absurd g3 x)
          · obtain ⟨d, rfl⟩ : ∃ d', d = d' + 1 := ⟨d - 1, by omega⟩
            refine goR d Ψ m hR (fun m1 f1 p1 => k3 d (by omega) _ m1 p1 (fun m2 f2 p2 => ?_))
            exact pr_eats O q2 p2 (Or.inr (by omega)) (fun _ m3 f3 p3 => zc1 (hΨ m3 (prF_t f1 (prF_t f2 f3)) p3)) (fun x => absurd g3 x)
        · refine ⟨.inr (tkF T n b2 2, (tkA T n b2 : Nat)), ⟨tkF_g (by omega), tkA_g hn q2⟩, fun d hd Φ m hC hΦ => ?_, fun d hd Ψ m hR hΨ => ?_⟩
          · obtain ⟨d, rfl⟩ : ∃ d', d = d' + 1 + 1 := ⟨d - 2, by omega⟩
            refine goC d Φ m hC (fun m1 f1 p1 => k2 d (by omega) _ m1 p1 (fun m2 f2 p2 => zb1 ?_))
            exact pc_take (k := 36) O q2 p2 (Or.inr (by omega)) (by decide) (fun x => absurd x g3) (fun _ m3 f3 p3 => zb0 ⟨Or.inl rfl, hΦ m3 (pcF_t f1 (pcF_t f2 f3)) p3⟩)
          · obtain ⟨d, rfl⟩ : ∃ d', d = d' + 1 := ⟨d - 1, by omega⟩
            refine goR d Ψ m hR (fun m1 f1 p1 => k3 d (by omega) _ m1 p1 (fun m2 f2 p2 => ?_))
            exact pr_eats O q2 p2 (Or.inr (by omega)) (fun x => absurd x g3) (fun _ => zc0 (pr_fails p2 (fun m3 f3 p3 => hΨ m3 (prF_t f1 (prF_t f2 f3)) p3)))
      · refine ⟨.inr (x1, a1), k1, fun d hd Φ m hC hΦ => ?_, fun d hd Ψ m hR hΨ => ?_⟩
        · obtain ⟨d, rfl⟩ : ∃ d', d = d' + 1 + 1 := ⟨d - 2, by omega⟩
          exact goC d Φ m hC (fun m1 f1 p1 => k2 d (by omega) _ m1 p1 (fun m2 f2 p2 => zb0 ⟨Or.inl rfl, hΦ m2 (pcF_t f1 f2) p2⟩))
        · obtain ⟨d, rfl⟩ : ∃ d', d = d' + 1 := ⟨d - 1, by omega⟩
          exact goR d Ψ m hR (fun m1 f1 p1 => k3 d (by omega) _ m1 p1 (fun m2 f2 p2 => pr_eatsD (prX_D p2 k1.1) (zc0 (pr_failsD (prX_D p2 k1.1) (hΨ m2 (prF_t f1 f2) p2)))))
    · refine ⟨.inr (4, (tkA T n b : Nat)), ⟨by omega, hAg⟩, fun d hd Φ m hC hΦ => ?_, fun d hd Ψ m hR hΨ => ?_⟩
      · obtain ⟨d, rfl⟩ : ∃ d', d = d' + 1 := ⟨d - 1, by omega⟩
        exact rG7_6 ⟨pc_r7 hC, fun x => absurd ((i40 hC).mpr g35) x.2.1, fun x => absurd ((i2 hC).mp x) g23, fun _ => ⟨⟨by omega, by omega⟩, fun x => absurd x (by omega), fun _ => pc_faulty hC (fun m1 f1 p1 => ⟨Or.inl rfl, hΦ m1 f1 p1⟩)⟩, fun x => absurd ((i205 hC).mp x) g5, fun x => absurd ((i207 hC).mp x) g7, fun x => absurd ((i212 hC).mp x) (by omega), fun x => absurd ((i216 hC).mp x) g16, fun x => absurd ((i217 hC).mp x) g17, fun x => absurd ((i218 hC).mp x) g18⟩
      · obtain ⟨d, rfl⟩ : ∃ d', d = d' + 1 := ⟨d - 1, by omega⟩
        refine go64 d Ψ m hR (pr_is hR (Or.inr (by omega)) (fun _ => zb1 ?_) (fun x => absurd g35 x))
        refine pr_goesIn O hb hR hv (fun x => absurd x hv6) (fun _ m1 f1 p1 => zc0 (hΨ m1 f1 ?_))
        rw [tkF_o (by omega)] at p1
        exact p1
  by_cases g12 : tkK T n b = 12
  · obtain ⟨hE1, hE2⟩ := tk_more (T := T) hb (by omega)
    by_cases hv6 : v < 6
    · obtain ⟨r1, k1, k2, k3⟩ := hT hv6 (tkE T n b) c hE.2 (by omega)
      have goC : ∀ (d : Nat) (Φ : Int → aj_M → Prop) (m : aj_M), pcC m T n b c → (∀ m1, pcF m m1 → pcC m1 T n (tkE T n b) c → rG7 f d 0 (fun z2 m2 => rI z2 ∧ (z2 = 0 → (((0 : Int) = 0 ∨ (0 : Int) = 1) ∧ Φ 0 m2)) ∧ (¬ (z2 = 0) → wX7_take f (fun z3 m3 => rI z3 ∧ (z3 = 0 → (((0 : Int) = 0 ∨ (0 : Int) = 1) ∧ Φ 0 m3)) ∧ (¬ (z3 = 0) → rG7 f d 4 (fun z4 m4 => rI z4 ∧ (¬ z4 = 0 → wX7_take f (fun z5 m5 => rI z5 ∧ (z5 = 0 → (((0 : Int) = 0 ∨ (0 : Int) = 1) ∧ Φ 0 m5)) ∧ (¬ (z5 = 0) → rG7 f d 4 (fun z6 m6 => rI z6 ∧ (z6 = 0 → (((0 : Int) = 0 ∨ (0 : Int) = 1) ∧ Φ 0 m6)) ∧ (¬ (z6 = 0) → wX7_take f (fun z7 m7 => rI z7 ∧ (¬ z7 = 0 → wX4_add f (fun m8 => (((1 : Int) = 0 ∨ (1 : Int) = 1) ∧ Φ 1 m8)) [1, 3, 0, 0] 15 0 m7) ∧ (z7 = 0 → (((0 : Int) = 0 ∨ (0 : Int) = 1) ∧ Φ 0 m7))) [0, 0] 215 m6)) [0, 0] ((v : Int) + 1) m5)) [0, 0] 214 m4) ∧ (z4 = 0 → (((0 : Int) = 0 ∨ (0 : Int) = 1) ∧ Φ 0 m4))) [0, 0] ((v : Int) + 1) m3)) [0, 0] 213 m2)) [0, 0] ((v : Int) + 1) m1) → rG7 f (d + 1 + 1) 6 Φ [0, 0] (v : Int) m := by
        intro d Φ m hC hK
        refine rG7_6 ⟨pc_r7 hC, fun x => absurd ((i212 hC).mpr g12) x.2.2.2.2.1, fun x => absurd ((i2 hC).mp x) g23, fun x => absurd ((i40 hC).mp x) g35, fun x => absurd ((i205 hC).mp x) g5, fun x => absurd ((i207 hC).mp x) g7, fun _ => ⟨⟨by omega, by omega⟩, fun _ => rG7_7 ⟨pc_r7 hC, fun _ => ?_, fun x => absurd ((i40 hC).mp x) g35⟩, fun x => absurd hv6 (by omega)⟩, fun x => absurd ((i216 hC).mp x) g16, fun x => absurd ((i217 hC).mp x) g17, fun x => absurd ((i218 hC).mp x) g18⟩
        exact pc_step O hb hC (fun m1 f1 p1 => ⟨by decide, fun _ => hK m1 f1 p1, fun x => absurd rfl x⟩)
      have goR : ∀ (d : Nat) (Ψ : aj_M → Prop) (m : aj_M), prR m T n b c → (∀ m1, prF m m1 → prR m1 T n (tkE T n b) c → rG8 f d 0 (fun m2 => wX12_eats f (fun z3 m3 => rI z3 ∧ (¬ z3 = 0 → rG8 f d 3 (fun m4 => wX12_eats f (fun z5 m5 => rI z5 ∧ (¬ z5 = 0 → hX12_readIf_51 f Ψ (rG8 f d) [1] (v : Int) m5) ∧ (z5 = 0 → wX12_fails f (fun m6 => hX12_readIf_51 f Ψ (rG8 f d) [1] (v : Int) m6) [1] 2 m5)) [1] 14 m4) [1] ((v : Int) + 1) m3) ∧ (z3 = 0 → wX12_fails f (fun m7 => rG8 f d 3 (fun m8 => wX12_eats f (fun z9 m9 => rI z9 ∧ (¬ z9 = 0 → hX12_readIf_51 f Ψ (rG8 f d) [1] (v : Int) m9) ∧ (z9 = 0 → wX12_fails f (fun m10 => hX12_readIf_51 f Ψ (rG8 f d) [1] (v : Int) m10) [1] 2 m9)) [1] 14 m8) [1] ((v : Int) + 1) m7) [1] 2 m3)) [1] 13 m2) [1] ((v : Int) + 1) m1) → rG8 f (d + 1 + 1) 5 Ψ [1] (v : Int) m := by
        intro d Ψ m hR hK
        refine go64 (d + 1) Ψ m hR (pr_is hR (Or.inr (by omega)) (fun x => absurd x g35) (fun _ => zb0 (pr_is hR (Or.inl (by omega)) (fun _ => zb1 (rG8_6 ?_)) (fun x => absurd g12 x))))
        exact pr_goesIn O hb hR hv (fun _ m1 f1 p1 => zc1 (hK m1 f1 p1)) (fun x => absurd hv6 (by omega))
      rcases r1 with ⟨b2, e1⟩ | ⟨x1, a1⟩
      · obtain ⟨q1, q2, q3, q4⟩ := k1
        have hE' := tkE_b (T := T) q2
        by_cases g3 : tkK T n b2 = 13
        · obtain ⟨hE3, hE4⟩ := tk_more (T := T) q2 (by omega)
          obtain ⟨r2, l1, l2, l3⟩ := hS hv6 (tkE T n b2) (c ++ e1) hE'.2 (by simp only [List.length_append]; omega)
          rcases r2 with ⟨b4, e2⟩ | ⟨x2, a2⟩
          · obtain ⟨s1, s2, s3, s4⟩ := l1
            have hE5 := tkE_b (T := T) s2
            by_cases g4 : tkK T n b4 = 14
            · obtain ⟨hE6, hE7⟩ := tk_more (T := T) s2 (by omega)
              obtain ⟨r3, y1, y2, y3⟩ := hS hv6 (tkE T n b4) (c ++ e1 ++ e2) hE5.2 (by simp only [List.length_append]; omega)
              rcases r3 with ⟨b6, e3⟩ | ⟨x3, a3⟩
              · obtain ⟨t1, t2, t3, t4⟩ := y1
                have hE8 := tkE_b (T := T) t2
                by_cases g5' : tkK T n b6 = 15
                · obtain ⟨hE9, hE10⟩ := tk_more (T := T) t2 (by omega)
                  refine ⟨.inl (tkE T n b6, e1 ++ (e2 ++ (e3 ++ [3009]))), ⟨by omega, hE8.2, by simp only [List.length_append, List.length_singleton]; omega, fun ts hts => ?_⟩, fun d hd Φ m hC hΦ => ?_, fun d hd Ψ m hR hΨ => ?_⟩
                  · rw [zts_app (q4 ts (by omega)), zts_app (s4 (true :: ts) (by simp only [List.length_cons]; omega)), zts_app (t4 (false :: true :: ts) (by simp only [List.length_cons]; omega))]
                    exact zts_1 rfl (by simp only [List.length_cons]; omega)
                  · obtain ⟨d, rfl⟩ : ∃ d', d = d' + 1 + 1 := ⟨d - 2, by omega⟩
                    refine goC d Φ m hC (fun m1 f1 p1 => k2 d (by omega) _ m1 p1 (fun m2 f2 p2 => zb1 ?_))
                    refine pc_take (k := 13) O q2 p2 (Or.inl (by omega)) (by decide) (fun _ m3 f3 p3 => zb1 (l2 d (by omega) _ m3 p3 (fun m4 f4 p4 => zc1 ?_))) (fun x => absurd g3 x)
                    refine pc_take (k := 14) O s2 p4 (Or.inl (by omega)) (by decide) (fun _ m5 f5 p5 => zb1 (y2 d (by omega) _ m5 p5 (fun m6 f6 p6 => zb1 ?_))) (fun x => absurd g4 x)
                    refine pc_take (k := 15) O t2 p6 (Or.inl (by omega)) (by decide) (fun _ m7 f7 p7 => zc1 ?_) (fun x => absurd g5' x)
                    refine pc_add (cd := 3009) (by simp only [List.length_append]; omega) (by decide) p7 (fun m8 f8 p8 => ⟨Or.inr rfl, hΦ m8 (pcF_t f1 (pcF_t f2 (pcF_t f3 (pcF_t f4 (pcF_t f5 (pcF_t f6 (pcF_t f7 f8))))))) ?_⟩)
                    rw [List.append_assoc, List.append_assoc, List.append_assoc] at p8
                    exact p8
                  · obtain ⟨d, rfl⟩ : ∃ d', d = d' + 1 + 1 := ⟨d - 2, by omega⟩
                    refine goR d Ψ m hR (fun m1 f1 p1 => k3 d (by omega) _ m1 p1 (fun m2 f2 p2 => ?_))
                    refine pr_eats O q2 p2 (Or.inl (by omega)) (fun _ m3 f3 p3 => zc1 (l3 d (by omega) _ m3 p3 (fun m4 f4 p4 => ?_))) (fun x => absurd g3 x)
                    refine pr_eats O s2 p4 (Or.inl (by omega)) (fun _ m5 f5 p5 => zc1 (y3 d (by omega) _ m5 p5 (fun m6 f6 p6 => ?_))) (fun x => absurd g4 x)
                    refine pr_eats O t2 p6 (Or.inl (by omega)) (fun _ m7 f7 p7 => zc1 ?_) (fun x => absurd g5' x)
                    refine pr_codes (by simp only [List.length_append]; omega) p7 (fun m8 f8 p8 => hΨ m8 (prF_t f1 (prF_t f2 (prF_t f3 (prF_t f4 (prF_t f5 (prF_t f6 (prF_t f7 f8))))))) ?_)
                    rw [List.append_assoc, List.append_assoc, List.append_assoc] at p8
                    exact p8
                · refine ⟨.inr (tkF T n b6 2, (tkA T n b6 : Nat)), ⟨tkF_g (by omega), tkA_g hn t2⟩, fun d hd Φ m hC hΦ => ?_, fun d hd Ψ m hR hΨ => ?_⟩
                  · obtain ⟨d, rfl⟩ : ∃ d', d = d' + 1 + 1 := ⟨d - 2, by omega⟩
                    refine goC d Φ m hC (fun m1 f1 p1 => k2 d (by omega) _ m1 p1 (fun m2 f2 p2 => zb1 ?_))
                    refine pc_take (k := 13) O q2 p2 (Or.inl (by omega)) (by decide) (fun _ m3 f3 p3 => zb1 (l2 d (by omega) _ m3 p3 (fun m4 f4 p4 => zc1 ?_))) (fun x => absurd g3 x)
                    refine pc_take (k := 14) O s2 p4 (Or.inl (by omega)) (by decide) (fun _ m5 f5 p5 => zb1 (y2 d (by omega) _ m5 p5 (fun m6 f6 p6 => zb1 ?_))) (fun x => absurd g4 x)
                    exact pc_take (k := 15) O t2 p6 (Or.inl (by omega)) (by decide) (fun x => absurd x g5') (fun _ m7 f7 p7 => zc0 ⟨Or.inl rfl, hΦ m7 (pcF_t f1 (pcF_t f2 (pcF_t f3 (pcF_t f4 (pcF_t f5 (pcF_t f6 f7)))))) p7⟩)
                  · obtain ⟨d, rfl⟩ : ∃ d', d = d' + 1 + 1 := ⟨d - 2, by omega⟩
                    refine goR d Ψ m hR (fun m1 f1 p1 => k3 d (by omega) _ m1 p1 (fun m2 f2 p2 => ?_))
                    refine pr_eats O q2 p2 (Or.inl (by omega)) (fun _ m3 f3 p3 => zc1 (l3 d (by omega) _ m3 p3 (fun m4 f4 p4 => ?_))) (fun x => absurd g3 x)
                    refine pr_eats O s2 p4 (Or.inl (by omega)) (fun _ m5 f5 p5 => zc1 (y3 d (by omega) _ m5 p5 (fun m6 f6 p6 => ?_))) (fun x => absurd g4 x)
                    exact pr_eats O t2 p6 (Or.inl (by omega)) (fun x => absurd x g5') (fun _ => zc0 (pr_fails p6 (fun m7 f7 p7 => pr_codesD (prX_D p7 (tkF_g (by omega))) (hΨ m7 (prF_t f1 (prF_t f2 (prF_t f3 (prF_t f4 (prF_t f5 (prF_t f6 f7)))))) p7))))
              · refine ⟨.inr (x3, a3), y1, fun d hd Φ m hC hΦ => ?_, fun d hd Ψ m hR hΨ => ?_⟩
                · obtain ⟨d, rfl⟩ : ∃ d', d = d' + 1 + 1 := ⟨d - 2, by omega⟩
                  refine goC d Φ m hC (fun m1 f1 p1 => k2 d (by omega) _ m1 p1 (fun m2 f2 p2 => zb1 ?_))
                  refine pc_take (k := 13) O q2 p2 (Or.inl (by omega)) (by decide) (fun _ m3 f3 p3 => zb1 (l2 d (by omega) _ m3 p3 (fun m4 f4 p4 => zc1 ?_))) (fun x => absurd g3 x)
                  exact pc_take (k := 14) O s2 p4 (Or.inl (by omega)) (by decide) (fun _ m5 f5 p5 => zb1 (y2 d (by omega) _ m5 p5 (fun m6 f6 p6 => zb0 ⟨Or.inl rfl, hΦ m6 (pcF_t f1 (pcF_t f2 (pcF_t f3 (pcF_t f4 (pcF_t f5 f6))))) p6⟩))) (fun x => absurd g4 x)
                · obtain ⟨d, rfl⟩ : ∃ d', d = d' + 1 + 1 := ⟨d - 2, by omega⟩
                  refine goR d Ψ m hR (fun m1 f1 p1 => k3 d (by omega) _ m1 p1 (fun m2 f2 p2 => ?_))
                  refine pr_eats O q2 p2 (Or.inl (by omega)) (fun _ m3 f3 p3 => zc1 (l3 d (by omega) _ m3 p3 (fun m4 f4 p4 => ?_))) (fun x => absurd g3 x)
                  refine pr_eats O s2 p4 (Or.inl (by omega)) (fun _ m5 f5 p5 => zc1 (y3 d (by omega) _ m5 p5 (fun m6 f6 p6 => ?_))) (fun x => absurd g4 x)
                  have hD := prX_D p6 y1.1
                  exact pr_eatsD hD (zc0 (pr_failsD hD (pr_codesD hD (hΨ m6 (prF_t f1 (prF_t f2 (prF_t f3 (prF_t f4 (prF_t f5 f6))))) p6))))
            · refine ⟨.inr (tkF T n b4 2, (tkA T n b4 : Nat)), ⟨tkF_g (by omega), tkA_g hn s2⟩, fun d hd Φ m hC hΦ => ?_, fun d hd Ψ m hR hΨ => ?_⟩
              · obtain ⟨d, rfl⟩ : ∃ d', d = d' + 1 + 1 := ⟨d - 2, by omega⟩
                refine goC d Φ m hC (fun m1 f1 p1 => k2 d (by omega) _ m1 p1 (fun m2 f2 p2 => zb1 ?_))
                refine pc_take (k := 13) O q2 p2 (Or.inl (by omega)) (by decide) (fun _ m3 f3 p3 => zb1 (l2 d (by omega) _ m3 p3 (fun m4 f4 p4 => zc1 ?_))) (fun x => absurd g3 x)
                exact pc_take (k := 14) O s2 p4 (Or.inl (by omega)) (by decide) (fun x => absurd x g4) (fun _ m5 f5 p5 => zb0 ⟨Or.inl rfl, hΦ m5 (pcF_t f1 (pcF_t f2 (pcF_t f3 (pcF_t f4 f5)))) p5⟩)
              · obtain ⟨d, rfl⟩ : ∃ d', d = d' + 1 + 1 := ⟨d - 2, by omega⟩
                refine goR d Ψ m hR (fun m1 f1 p1 => k3 d (by omega) _ m1 p1 (fun m2 f2 p2 => ?_))
                refine pr_eats O q2 p2 (Or.inl (by omega)) (fun _ m3 f3 p3 => zc1 (l3 d (by omega) _ m3 p3 (fun m4 f4 p4 => ?_))) (fun x => absurd g3 x)
                exact pr_eats O s2 p4 (Or.inl (by omega)) (fun x => absurd x g4) (fun _ => zc0 (pr_fails p4 (fun m5 f5 p5 => dd_51 (by omega) (by omega) (prX_D p5 (tkF_g (by omega))) (hΨ m5 (prF_t f1 (prF_t f2 (prF_t f3 (prF_t f4 f5)))) p5))))
          · refine ⟨.inr (x2, a2), l1, fun d hd Φ m hC hΦ => ?_, fun d hd Ψ m hR hΨ => ?_⟩
            · obtain ⟨d, rfl⟩ : ∃ d', d = d' + 1 + 1 := ⟨d - 2, by omega⟩
              refine goC d Φ m hC (fun m1 f1 p1 => k2 d (by omega) _ m1 p1 (fun m2 f2 p2 => zb1 ?_))
              exact pc_take (k := 13) O q2 p2 (Or.inl (by omega)) (by decide) (fun _ m3 f3 p3 => zb1 (l2 d (by omega) _ m3 p3 (fun m4 f4 p4 => zc0 ⟨Or.inl rfl, hΦ m4 (pcF_t f1 (pcF_t f2 (pcF_t f3 f4))) p4⟩))) (fun x => absurd g3 x)
            · obtain ⟨d, rfl⟩ : ∃ d', d = d' + 1 + 1 := ⟨d - 2, by omega⟩
              refine goR d Ψ m hR (fun m1 f1 p1 => k3 d (by omega) _ m1 p1 (fun m2 f2 p2 => ?_))
              refine pr_eats O q2 p2 (Or.inl (by omega)) (fun _ m3 f3 p3 => zc1 (l3 d (by omega) _ m3 p3 (fun m4 f4 p4 => ?_))) (fun x => absurd g3 x)
              have hD := prX_D p4 l1.1
              exact pr_eatsD hD (zc0 (pr_failsD hD (dd_51 (by omega) (by omega) hD (hΨ m4 (prF_t f1 (prF_t f2 (prF_t f3 f4))) p4))))
        · refine ⟨.inr (tkF T n b2 2, (tkA T n b2 : Nat)), ⟨tkF_g (by omega), tkA_g hn q2⟩, fun d hd Φ m hC hΦ => ?_, fun d hd Ψ m hR hΨ => ?_⟩
          · obtain ⟨d, rfl⟩ : ∃ d', d = d' + 1 + 1 := ⟨d - 2, by omega⟩
            refine goC d Φ m hC (fun m1 f1 p1 => k2 d (by omega) _ m1 p1 (fun m2 f2 p2 => zb1 ?_))
            exact pc_take (k := 13) O q2 p2 (Or.inl (by omega)) (by decide) (fun x => absurd x g3) (fun _ m3 f3 p3 => zb0 ⟨Or.inl rfl, hΦ m3 (pcF_t f1 (pcF_t f2 f3)) p3⟩)
          · obtain ⟨d, rfl⟩ : ∃ d', d = d' + 1 + 1 := ⟨d - 2, by omega⟩
            refine goR d Ψ m hR (fun m1 f1 p1 => k3 d (by omega) _ m1 p1 (fun m2 f2 p2 => ?_))
            exact pr_eats O q2 p2 (Or.inl (by omega)) (fun x => absurd x g3) (fun _ => zc0 (pr_fails p2 (fun m3 f3 p3 => dd_If2 (by omega) (by omega) (prX_D p3 (tkF_g (by omega))) (hΨ m3 (prF_t f1 (prF_t f2 f3)) p3))))
      · refine ⟨.inr (x1, a1), k1, fun d hd Φ m hC hΦ => ?_, fun d hd Ψ m hR hΨ => ?_⟩
        · obtain ⟨d, rfl⟩ : ∃ d', d = d' + 1 + 1 := ⟨d - 2, by omega⟩
          exact goC d Φ m hC (fun m1 f1 p1 => k2 d (by omega) _ m1 p1 (fun m2 f2 p2 => zb0 ⟨Or.inl rfl, hΦ m2 (pcF_t f1 f2) p2⟩))
        · obtain ⟨d, rfl⟩ : ∃ d', d = d' + 1 + 1 := ⟨d - 2, by omega⟩
          refine goR d Ψ m hR (fun m1 f1 p1 => k3 d (by omega) _ m1 p1 (fun m2 f2 p2 => ?_))
          have hD := prX_D p2 k1.1
          exact pr_eatsD hD (zc0 (pr_failsD hD (dd_If2 (by omega) (by omega) hD (hΨ m2 (prF_t f1 f2) p2))))
    · refine ⟨.inr (4, (tkA T n b : Nat)), ⟨by omega, hAg⟩, fun d hd Φ m hC hΦ => ?_, fun d hd Ψ m hR hΨ => ?_⟩
      · obtain ⟨d, rfl⟩ : ∃ d', d = d' + 1 := ⟨d - 1, by omega⟩
        exact rG7_6 ⟨pc_r7 hC, fun x => absurd ((i212 hC).mpr g12) x.2.2.2.2.1, fun x => absurd ((i2 hC).mp x) g23, fun x => absurd ((i40 hC).mp x) g35, fun x => absurd ((i205 hC).mp x) g5, fun x => absurd ((i207 hC).mp x) g7, fun _ => ⟨⟨by omega, by omega⟩, fun x => absurd x (by omega), fun _ => pc_faulty hC (fun m1 f1 p1 => ⟨Or.inl rfl, hΦ m1 f1 p1⟩)⟩, fun x => absurd ((i216 hC).mp x) g16, fun x => absurd ((i217 hC).mp x) g17, fun x => absurd ((i218 hC).mp x) g18⟩
      · obtain ⟨d, rfl⟩ : ∃ d', d = d' + 1 + 1 := ⟨d - 2, by omega⟩
        refine go64 (d + 1) Ψ m hR (pr_is hR (Or.inr (by omega)) (fun x => absurd x g35) (fun _ => zb0 (pr_is hR (Or.inl (by omega)) (fun _ => zb1 (rG8_6 ?_)) (fun x => absurd g12 x))))
        refine pr_goesIn O hb hR hv (fun x => absurd x hv6) (fun _ m1 f1 p1 => zc0 (hΨ m1 f1 ?_))
        rw [tkF_o (by omega)] at p1
        exact p1
  · refine ⟨.inr (tkF T n b 2, (tkA T n b : Nat)), ⟨tkF_g (by omega), hAg⟩, fun d hd Φ m hC hΦ => ?_, fun d hd Ψ m hR hΨ => ?_⟩
    · obtain ⟨d, rfl⟩ : ∃ d', d = d' + 1 := ⟨d - 1, by omega⟩
      exact rG7_6 ⟨pc_r7 hC, fun _ => pc_cant hC (fun m1 f1 p1 => ⟨Or.inl rfl, hΦ m1 f1 p1⟩), fun x => absurd ((i2 hC).mp x) g23, fun x => absurd ((i40 hC).mp x) g35, fun x => absurd ((i205 hC).mp x) g5, fun x => absurd ((i207 hC).mp x) g7, fun x => absurd ((i212 hC).mp x) g12, fun x => absurd ((i216 hC).mp x) g16, fun x => absurd ((i217 hC).mp x) g17, fun x => absurd ((i218 hC).mp x) g18⟩
    · obtain ⟨d, rfl⟩ : ∃ d', d = d' + 1 := ⟨d - 1, by omega⟩
      exact go64 d Ψ m hR (pr_is hR (Or.inr (by omega)) (fun x => absurd x g35) (fun _ => zb0 (pr_is hR (Or.inl (by omega)) (fun x => absurd x g12) (fun _ => zb0 (pr_fails hR (fun m1 f1 p1 => hΨ m1 f1 p1))))))
/-- all of it, from the deepest nesting up -/
theorem pn_all (O : tpOK f T n) : ∀ (j v : Nat), v + j = 6 → zPN f T n 4 3 4 (3 + 5 * (6 - v)) false v ∧ zPN f T n 2 2 6 (4 + 5 * (6 - v)) true v ∧ zPN f T n 0 0 8 (6 + 5 * (6 - v)) true v := by
  have up : ∀ v, v ≤ 6 → (v < 6 → zPN f T n 4 3 4 (3 + 5 * (6 - (v + 1))) false (v + 1) ∧ zPN f T n 2 2 6 (4 + 5 * (6 - (v + 1))) true (v + 1) ∧ zPN f T n 0 0 8 (6 + 5 * (6 - (v + 1))) true (v + 1)) → zPN f T n 4 3 4 (3 + 5 * (6 - v)) false v ∧ zPN f T n 2 2 6 (4 + 5 * (6 - v)) true v ∧ zPN f T n 0 0 8 (6 + 5 * (6 - v)) true v := by
    intro v hv h
    have a := pn_Atom O hv (fun x => (h x).1) (fun x => (h x).2.2)
    have s := pn_Sum O (pn_Term O a)
    rw [show 1 + 5 * (6 - v) + 1 + 1 = 3 + 5 * (6 - v) by omega] at s
    have u := pn_Unit O hv s (fun x => (h x).2.2) (fun x => (h x).2.1)
    have t := pn_Truth O (pn_Both O u)
    rw [show 4 + 5 * (6 - v) + 1 + 1 = 6 + 5 * (6 - v) by omega] at t
    exact ⟨s, u, t⟩
  intro j
  induction j with
  | zero => intro v hv; exact up v (by omega) (fun x => absurd x (by omega))
  | succ j ih => intro v hv; exact up v (by omega) (fun _ => ih (v + 1) (by omega))
end RLS4
