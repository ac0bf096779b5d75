/-! LOTS, the reference; in lowest terms -/
theorem pX12_timesNow1 {f : Nat} {Φ : Int → aj_M → Prop} {m : aj_M} {B : Nat → Int} {x y : Int} (hB : wA B) (hm : m [1, 1] = B) (hx : 0 ≤ x ∧ x < B 4) (hy : 0 ≤ y ∧ y < B 4) (h : Φ (gT (B 1) (B 2) (B 3) x y) m) : wX12_timesNow f Φ [1] x y m := by
  sorry
