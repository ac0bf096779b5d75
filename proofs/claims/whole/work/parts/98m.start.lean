/-! THE BEGINNING -/
theorem st_r12 : ∀ k, rI (st_m0 [12, 3, 8, 0] k) := fun k => by
  show rI (st_rd [12, 3, 8, 0] k st_ex)
  simp [st_rd, st_ex, aj_leq, rI]
theorem st_r9 : ∀ k, rI (st_m0 [12, 9, 0] k) := fun k => by
  show rI (st_rd [12, 9, 0] k st_ex)
  simp [st_rd, st_ex, aj_leq, rI]
theorem st_wA : wA (st_m0 [1, 1]) := by
  have h6 : st_m0 [1, 1] 6 = 0 := by decide
  refine ⟨Or.inl ⟨by decide, by decide, by decide, by decide⟩, by decide, by decide, fun j hj => absurd hj (by omega), ⟨0, by decide, by decide⟩, by decide, by decide, by decide, Or.inl (by decide), Or.inl (by decide)⟩
theorem st_pl : wP st_m0 [1, 0] (st_m0 [1, 1]) := by
  have h6 : st_m0 [1, 1] 6 = 0 := by decide
  have h204 : st_m0 [1, 1] 204 = 0 := by decide
  have h4 : st_m0 [1, 1] 4 = 1 := by decide
  refine ⟨⟨by decide, fun x y a b c d => ?_, fun x a b => ?_, fun x a b => ?_⟩, by decide, by decide, by decide, ⟨0, by decide, by decide, fun j hj => absurd hj (by omega)⟩, fun j hj => absurd hj (by omega), by decide, fun i hi => absurd hi (by omega), by decide, by decide, by decide, by decide, by decide, by decide, by decide, by decide⟩
  · have e1 : x = 0 := by omega
    have e2 : y = 0 := by omega
    subst e1
    subst e2
    decide
  · have e1 : x = 0 := by omega
    subst e1
    decide
  · have e1 : x = 0 := by omega
    subst e1
    decide
theorem st_gInv : gInv st_m0 := by
  have h6 : st_m0 [1, 1] 6 = 0 := by decide
  have h63 : st_m0 [1, 1] 63 = 0 := by decide
  refine ⟨st_m0 [1, 1], fun _ => 0, fun _ => -1, fun _ _ => 0, fun _ => false, fun _ => 0, 0, 0, -1, ⟨st_wA, ⟨by decide, fun i hi => absurd hi (by omega)⟩, fun i hi e => (nomatch e), fun t _ => Or.inl rfl, fun j => ⟨by show (0 : Int) ≤ 0; decide, by show (0 : Int) < 256; decide⟩, by decide, by decide, by decide⟩, ?_, ?_⟩
  · refine ⟨⟨⟨0, by decide, by decide, by decide, fun i hi => absurd hi (by omega)⟩, fun i hi => ⟨?_, fun e => (nomatch e)⟩, fun t ht => ⟨?_, fun e => absurd (show (0 : Int) ≤ -1 from e) (by decide)⟩, ⟨by decide, fun j hj => absurd hj (by omega)⟩, by decide, by decide⟩, ⟨st_pl, Or.inl (by decide)⟩, ⟨fun j hj => absurd hj (by omega), by decide, by decide⟩, ⟨Or.inl (by decide), ?_⟩, ⟨by decide, st_r12, Or.inl (by decide)⟩, st_r9⟩
    · have : i = 0 ∨ i = 1 := by omega
      rcases this with rfl | rfl <;> decide
    · exact t4 (P := fun t => st_m0 [t, 7, 0] 2 = -1) (by decide) (by decide) (by decide) (by decide) t ht
    · intro j hj
      have : j = 0 ∨ j = 1 ∨ j = 2 := by omega
      rcases this with rfl | rfl | rfl <;> decide
  · refine ⟨rfl, fun i hi => ?_, fun t ht => ⟨fun _ => ?_, fun e => absurd (show (0 : Int) ≤ -1 from e) (by decide)⟩, ⟨by decide, fun j hj => absurd hj (by omega)⟩, by decide, by decide⟩
    · have : i = 0 ∨ i = 1 := by omega
      rcases this with rfl | rfl <;> decide
    · exact t4 (P := fun t => st_m0 [44, 1] t = -1) (by decide) (by decide) (by decide) (by decide) t ht
