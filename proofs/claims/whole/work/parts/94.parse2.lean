/-! READING A SUM: both readers at once -/
section RLS2
variable {f n : Nat} {T : Nat → Int}
theorem lpD_Sum {Ψ : aj_M → Prop} {R : Nat → (aj_M → Prop) → List Nat → Int → aj_M → Prop} {v : Int} {m : aj_M} (h : prD m) (h0 : Ψ m) : ∀ k, 0 < k → hX12_readSum_5 f Ψ R k [1] v m
  | 0, x => absurd x (by omega)
  | k + 1, _ => pr_isD h (zc0 (pr_isD h (zb0 h0)))
/-- the loop of a sum is left -/
theorem lp_SumE (O : tpOK f T n) {v D b : Nat} {c : List Int} (hb : b ≤ n) (g : tkK T n b ≠ 32) (g' : tkK T n b ≠ 33) : ∃ r, gl n b D false r ∧ (∀ (R : Nat → (Int → aj_M → Prop) → List Nat → Int → aj_M → Prop) (Φ : Int → aj_M → Prop) (m : aj_M) (i k : Nat), i ≤ b → n - b < k → pcC m T n b c → cnC Φ m T n c r → hX7_readSum_12 f Φ R k [0, 0] (v : Int) (i : Int) m) ∧ (∀ (R : Nat → (aj_M → Prop) → List Nat → Int → aj_M → Prop) (Ψ : aj_M → Prop) (m : aj_M) (k : Nat), n - b < k → prR m T n b c → cnR Ψ m T n c r → hX12_readSum_5 f Ψ R k [1] (v : Int) m) := by
  have hn := O.2.2
  refine ⟨.inl (b, []), ⟨by omega, hb, by simp, fun ts _ => rfl⟩, fun R Φ m i k hi hk hC hΦ => ?_, fun R Ψ m k hk hR hΨ => ?_⟩
  · obtain ⟨k, rfl⟩ : ∃ k', k = k' + 1 := ⟨k - 1, by omega⟩
    have e := hΦ m pcF_r (by rw [List.append_nil]; exact hC)
    have i43 := pc_is hC (k := 32) (v := 43) (Or.inr (by omega)) (by decide)
    have i45 := pc_is hC (k := 33) (v := 45) (Or.inr (by omega)) (by decide)
    exact ⟨⟨by omega, by omega⟩, by rw [hC.2.1]; exact ⟨by omega, by omega⟩, fun _ => e, fun _ => ⟨pc_r7 hC, fun x => absurd (i43.mp x) g, fun _ => ⟨pc_r7 hC, fun _ => e, fun x => absurd (i45.mp x) g'⟩⟩⟩
  · obtain ⟨k, rfl⟩ : ∃ k', k = k' + 1 := ⟨k - 1, by omega⟩
    exact pr_is hR (Or.inr (by omega)) (fun x => absurd x g) (fun _ => zc0 (pr_is hR (Or.inr (by omega)) (fun x => absurd x g') (fun _ => zb0 (hΨ m prF_r (by rw [List.append_nil]; exact hR)))))
theorem lp_Sum (O : tpOK f T n) {v D : Nat} (hP : zPN f T n 5 4 3 D false v) : ∀ (w b : Nat) (c : List Int), n - b ≤ w → b ≤ n → c.length ≤ b → ∃ r, gl n b (D + 1) false r ∧ (∀ d, 8 * (6 - v) + 3 ≤ d → ∀ (Φ : Int → aj_M → Prop) (m : aj_M) (i k : Nat), i ≤ b → n - b < k → pcC m T n b c → cnC Φ m T n c r → hX7_readSum_12 f Φ (rG7 f d) k [0, 0] (v : Int) (i : Int) m) ∧ (∀ d, 8 * (6 - v) + 3 ≤ d → ∀ (Ψ : aj_M → Prop) (m : aj_M) (k : Nat), n - b < k → prR m T n b c → cnR Ψ m T n c r → hX12_readSum_5 f Ψ (rG8 f d) k [1] (v : Int) m) := by
  have hf := O.1
  have hn := O.2.2
  intro w
  induction w with
  | zero =>
    intro b c hw hb hc
    have hA := tkA_b (T := T) hb
    have q : ∀ z : Int, z ≠ 24 → tkK T n b ≠ z := fun z hz x => by
      have := tk_more (T := T) hb (by omega)
      omega
    obtain ⟨r, l1, l2, l3⟩ := lp_SumE (T := T) O (v := v) (D := D + 1) (c := c) hb (q 32 (by omega)) (q 33 (by omega))
    exact ⟨r, l1, fun d hd => l2 _, fun d hd => l3 _⟩
  | succ w ih =>
    intro b c hw hb hc
    have hA := tkA_b (T := T) hb
    by_cases g : tkK T n b = 32 ∨ tkK T n b = 33
    · obtain ⟨hE1, hE2⟩ := tk_more (T := T) hb (by omega)
      have hE := tkE_b (T := T) hb
      obtain ⟨r1, g1, g2, g3⟩ := hP (tkE T n b) c hE.2 (by omega)
      -- how each side comes to the term
      have goC : ∀ (Φ : Int → aj_M → Prop) (R : Nat → (Int → aj_M → Prop) → List Nat → Int → aj_M → Prop) (m : aj_M) (i k : Nat) (kd : Int), i ≤ b → (tkK T n b = 32 → kd = 6) → (tkK T n b = 33 → kd = 7) → pcC m T n b c → hX7_readSum_54 f Φ R (fun q0 v1 v2 m => hX7_readSum_12 f Φ R k q0 v1 v2 m) [0, 0] (v : Int) (i : Int) kd m → hX7_readSum_12 f Φ R (k + 1) [0, 0] (v : Int) (i : Int) m := by
        intro Φ R m i k kd hi h6 h7 hC hS
        have i43 := pc_is hC (k := 32) (v := 43) (Or.inr (by omega)) (by decide)
        have i45 := pc_is hC (k := 33) (v := 45) (Or.inr (by omega)) (by decide)
        refine ⟨⟨by omega, by omega⟩, by rw [hC.2.1]; exact ⟨by omega, by omega⟩, fun x => by rw [hC.2.1] at x; omega, fun _ => ⟨pc_r7 hC, fun x => ⟨pc_r7 hC, fun y => absurd x y, fun _ => ?_⟩, fun x => ⟨pc_r7 hC, fun y => ?_, fun y => ⟨pc_r7 hC, fun _ => ?_, fun z => absurd z x⟩⟩⟩⟩
        · rw [h6 (i43.mp x)] at hS
          exact hS
        · rcases g with g | g
          · exact absurd (i43.mpr g) x
          · exact absurd (i45.mpr g) y
        · rw [h7 (i45.mp y)] at hS
          exact hS
      have goR : ∀ (Ψ : aj_M → Prop) (R : Nat → (aj_M → Prop) → List Nat → Int → aj_M → Prop) (m : aj_M) (k : Nat) (cd : Int), (tkK T n b = 32 → cd = 3000) → (tkK T n b = 33 → cd = 3001) → prR m T n b c → wX12_next f (fun m1 => R 4 (fun m2 => wX12_codes f (fun m3 => hX12_readSum_5 f Ψ R k [1] (v : Int) m3) [1] cd m2) [1] (v : Int) m1) [1] m → hX12_readSum_5 f Ψ R (k + 1) [1] (v : Int) m := by
        intro Ψ R m k cd h6 h7 hR hS
        have s23 : hX12_readSum_23 f Ψ R (fun q0 v1 m => hX12_readSum_5 f Ψ R k q0 v1 m) [1] (v : Int) m := by
          refine ⟨pr_r9 hR, fun x => ?_, fun x => ?_⟩
          · rw [hR.1.2.2.1] at x
            rcases g with g | g
            · exact absurd g x
            · rw [h7 g] at hS
              exact hS
          · rw [hR.1.2.2.1] at x
            rw [h6 x] at hS
            exact hS
        exact pr_is hR (Or.inr (by omega)) (fun _ => zc1 s23) (fun _ => zc0 (pr_is hR (Or.inr (by omega)) (fun _ => zb1 s23) (fun y => by omega)))
      obtain ⟨kd, cd, hkd6, hkd7, hcd6, hcd7, henc, htc⟩ : ∃ kd cd : Int, (tkK T n b = 32 → kd = 6) ∧ (tkK T n b = 33 → kd = 7) ∧ (tkK T n b = 32 → cd = 3000) ∧ (tkK T n b = 33 → cd = 3001) ∧ 0 * 16 + kd = zenc cd ∧ ∀ ts : List Bool, ztc cd (false :: false :: ts) = some (false :: ts) := by
        rcases g with g | g
        · exact ⟨6, 3000, fun _ => rfl, fun _ => by omega, fun _ => rfl, fun _ => by omega, by decide, fun _ => rfl⟩
        · exact ⟨7, 3001, fun _ => by omega, fun _ => rfl, fun _ => by omega, fun _ => rfl, by decide, fun _ => rfl⟩
      rcases r1 with ⟨b2, e1⟩ | ⟨k1, a1⟩
      · obtain ⟨q1, q2, q3, q4⟩ := g1
        obtain ⟨r2, l1, l2, l3⟩ := ih b2 (c ++ (e1 ++ [cd])) (by omega) q2 (by simp only [List.length_append, List.length_singleton]; omega)
        refine ⟨zpre (e1 ++ [cd]) r2, ?_, fun d hd Φ m i k hi hk hC hΦ => ?_, fun d hd Ψ m k hk hR hΨ => ?_⟩
        · rcases r2 with ⟨b3, e3⟩ | ⟨k3, a3⟩
          · obtain ⟨p1, p2, p3, p4⟩ := l1
            refine ⟨by omega, p2, by simp only [List.length_append, List.length_singleton]; omega, fun ts hts => ?_⟩
            have t1 := q4 (false :: ts) (by simp only [List.length_cons]; omega)
            have t2 : zts [cd] (false :: false :: ts) = some (false :: ts) := zts_1 (htc ts) (by simp only [List.length_cons]; omega)
            rw [zts_app ((zts_app t1).trans t2)]
            exact p4 ts hts
          · exact l1
        · obtain ⟨k, rfl⟩ : ∃ k', k = k' + 1 := ⟨k - 1, by omega⟩
          refine goC Φ (rG7 f d) m i k kd hi hkd6 hkd7 hC (pc_step O hb hC (fun m1 f1 p1 => g2 d hd _ m1 p1 (fun m2 f2 p2 => zc1 ?_)))
          refine pc_add (cd := cd) (by simp only [List.length_append]; omega) henc p2 (fun m3 f3 p3 => ?_)
          rw [List.append_assoc] at p3
          exact l2 d hd Φ m3 (i + 1) k (by omega) (by omega) p3 (cnC_pre (pcF_t f1 (pcF_t f2 f3)) hΦ)
        · obtain ⟨k, rfl⟩ : ∃ k', k = k' + 1 := ⟨k - 1, by omega⟩
          refine goR Ψ (rG8 f d) m k cd hcd6 hcd7 hR (pr_next O hb hR (fun m1 f1 p1 => g3 d hd _ m1 p1 (fun m2 f2 p2 => ?_)))
          refine pr_codes (by simp only [List.length_append]; omega) p2 (fun m3 f3 p3 => ?_)
          rw [List.append_assoc] at p3
          exact l3 d hd Ψ m3 k (by omega) p3 (cnR_pre (prF_t f1 (prF_t f2 f3)) hΨ)
      · refine ⟨.inr (k1, a1), g1, fun d hd Φ m i k hi hk hC hΦ => ?_, fun d hd Ψ m k hk hR hΨ => ?_⟩
        · obtain ⟨k, rfl⟩ : ∃ k', k = k' + 1 := ⟨k - 1, by omega⟩
          exact goC Φ (rG7 f d) m i k kd hi hkd6 hkd7 hC (pc_step O hb hC (fun m1 f1 p1 => g2 d hd _ m1 p1 (fun m2 f2 p2 => zc0 (hΦ m2 (pcF_t f1 f2) p2))))
        · obtain ⟨k, rfl⟩ : ∃ k', k = k' + 1 := ⟨k - 1, by omega⟩
          refine goR Ψ (rG8 f d) m k cd hcd6 hcd7 hR (pr_next O hb hR (fun m1 f1 p1 => g3 d hd _ m1 p1 (fun m2 f2 p2 => ?_)))
          have hD := prX_D p2 g1.1
          exact pr_codesD hD (lpD_Sum hD (hΨ m2 (prF_t f1 f2) p2) k (by omega))
    · obtain ⟨r, l1, l2, l3⟩ := lp_SumE (T := T) O (v := v) (D := D + 1) (c := c) hb (fun x => g (Or.inl x)) (fun x => g (Or.inr x))
      exact ⟨r, l1, fun d hd => l2 _, fun d hd => l3 _⟩
theorem pn_Sum (O : tpOK f T n) {v D : Nat} (hP : zPN f T n 5 4 3 D false v) : zPN f T n 4 3 4 (D + 1) false v := by
  have hf := O.1
  have hn := O.2.2
  intro b c hb hc
  obtain ⟨r1, g1, g2, g3⟩ := hP b c hb hc
  rcases r1 with ⟨b1, e1⟩ | ⟨k1, a1⟩
  · obtain ⟨q1, q2, q3, q4⟩ := g1
    obtain ⟨r2, l1, l2, l3⟩ := lp_Sum O hP (n - b1) b1 (c ++ e1) (by omega) q2 (by simp only [List.length_append]; omega)
    refine ⟨zpre e1 r2, ?_, fun d hd Φ m hC hΦ => ?_, fun d hd Ψ m hR hΨ => ?_⟩
    · rcases r2 with ⟨b3, e3⟩ | ⟨k3, a3⟩
      · obtain ⟨p1, p2, p3, p4⟩ := l1
        refine ⟨by omega, p2, by simp only [List.length_append]; omega, fun ts hts => ?_⟩
        rw [zts_app (q4 ts (by omega))]
        exact p4 ts (by omega)
      · exact l1
    · obtain ⟨d, rfl⟩ : ∃ d', d = d' + 1 := ⟨d - 1, by omega⟩
      exact rG7_4 (g2 d (by omega) _ m hC (fun m1 f1 p1 => zc1 (l2 d (by omega) Φ m1 0 f (by omega) (by omega) p1 (cnC_pre f1 hΦ))))
    · obtain ⟨d, rfl⟩ : ∃ d', d = d' + 1 := ⟨d - 1, by omega⟩
      exact rG8_3 (g3 d (by omega) _ m hR (fun m1 f1 p1 => l3 d (by omega) Ψ m1 f (by omega) p1 (cnR_pre f1 hΨ)))
  · refine ⟨.inr (k1, a1), g1, fun d hd Φ m hC hΦ => ?_, fun d hd Ψ m hR hΨ => ?_⟩
    · obtain ⟨d, rfl⟩ : ∃ d', d = d' + 1 := ⟨d - 1, by omega⟩
      exact rG7_4 (g2 d (by omega) _ m hC (fun m1 f1 p1 => zc0 (hΦ m1 f1 p1)))
    · obtain ⟨d, rfl⟩ : ∃ d', d = d' + 1 := ⟨d - 1, by omega⟩
      exact rG8_3 (g3 d (by omega) _ m hR (fun m1 f1 p1 => lpD_Sum (prX_D p1 g1.1) (hΨ m1 f1 p1) f (by omega)))
/-! the reference, once a fault is met: nothing more is done -/
theorem dd_Atom {Ψ : aj_M → Prop} {d : Nat} {v : Int} {m : aj_M} (hd : 1 ≤ d) (h : prD m) (h0 : Ψ m) : rG8 f d 5 Ψ [1] v m := by
  obtain ⟨d, rfl⟩ : ∃ d', d = d' + 1 := ⟨d - 1, by omega⟩
  have h64 : hX12_readAtom_64 f Ψ (rG8 f d) [1] v m := pr_isD h (zb0 (pr_isD h (zb0 (pr_failsD h h0))))
  exact rG8_5 (pr_isD h (zb0 ⟨h.1, fun _ => h64, fun x => absurd x h.2⟩))
theorem dd_Term (hf : 1 ≤ f) {Ψ : aj_M → Prop} {d : Nat} {v : Int} {m : aj_M} (hd : 2 ≤ d) (h : prD m) (h0 : Ψ m) : rG8 f d 4 Ψ [1] v m := by
  obtain ⟨d, rfl⟩ : ∃ d', d = d' + 1 := ⟨d - 1, by omega⟩
  exact rG8_4 (dd_Atom (by omega) h (lpD_Term h h0 f (by omega)))
theorem dd_Sum (hf : 1 ≤ f) {Ψ : aj_M → Prop} {d : Nat} {v : Int} {m : aj_M} (hd : 3 ≤ d) (h : prD m) (h0 : Ψ m) : rG8 f d 3 Ψ [1] v m := by
  obtain ⟨d, rfl⟩ : ∃ d', d = d' + 1 := ⟨d - 1, by omega⟩
  exact rG8_3 (dd_Term hf (by omega) h (lpD_Sum h h0 f (by omega)))
theorem tkF_g {b : Nat} {x : Int} (hx : 1 ≤ x ∧ x ≤ 4) : 1 ≤ tkF T n b x ∧ tkF T n b x ≤ 4 := by
  unfold tkF
  split <;> omega
theorem tkA_g (hn : n ≤ 900) {b : Nat} (hb : b ≤ n) : (0 : Int) ≤ (tkA T n b : Nat) ∧ ((tkA T n b : Nat) : Int) ≤ 900 := by
  have := tkA_b (T := T) hb
  omega
end RLS2
