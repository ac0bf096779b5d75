/-! TUNE: one trial of the class -/
theorem pX11_ringBy {f : Nat} {Φ : Int → aj_M → Prop} {m m1 : aj_M} {A : Nat → Int} {a g : Nat} (hf : 1000 ≤ f) (hA : wA A) (hg : zWht A a g = 0) (h : zGs m m1 A) (hS : wS m1 [2, 0] A) (hK : ∀ (m' : aj_M) (z : Int), zGs m m' A → zGir (zNn (tup A (49 + a) g)) (zLk (tup A (49 + a) g)).length (zFa (tup A (49 + a) g)) (zFb (tup A (49 + a) g)) 1000000 z → Φ z m') : wX11_ringBy f Φ [0] a g m1 := by
  have h6 := hA.2.2.1
  obtain ⟨c1, c2, c3⟩ := zWht_0 hg
  have hT := zA_turn hA hg
  rw [Int.toNat_natCast] at hT
  refine pX9_copyFrom (by decide) (by decide) (by decide) ?_
  intro m2 z2 s2
  have s2 := s2 A h6.2 hS
  have g2 := zGs_s h z2
  refine ⟨⟨by omega, by omega⟩, ?_⟩
  rintro m3 rfl
  rw [Int.toNat_natCast]
  have z3 : zo [[4, 0], [0, 4, 0]] m2 (aj_u m2 [0, 4, 0] a g) := fun p hp => by
    simp only [List.mem_cons, List.not_mem_nil, or_false, not_or] at hp
    exact zu_off hp.2
  have s3 : wS (aj_u m2 [0, 4, 0] a g) [4, 0] (tup A (49 + a) g) := by
    refine ⟨fun j hj => ?_, ?_, ?_⟩
    · rw [tup_o (by omega)] at hj
      rw [zu_tup]
      by_cases e : j = a
      · subst e
        rw [tup_s, tup_s]
      · rw [tup_o e, tup_o (by omega)]
        exact s2.1 j hj
    · rw [zu_off (by decide), tup_o (by omega)]
      exact s2.2.1
    · rw [zu_off (by decide), tup_o (by omega)]
      exact s2.2.2
  exact pGuessRing hf hA hT.1 (zSg_tup (by omega)) (zGs_s g2 z3) s3 (fun m' z g gi _ _ => hK m' z g gi)
