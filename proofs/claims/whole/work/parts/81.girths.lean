/-! THE GIRTH AS IT IS TOLD: one number for both -/
def zGp (N L : Nat) (a b : Nat → Nat) (w : Int) : Prop := (w = -1 ∧ ∀ r k, ¬ zTW N L a b r k) ∨ (∃ r k : Nat, w = k ∧ zTW N L a b r k ∧ ∀ r' k', zTW N L a b r' k' → k ≤ k')
theorem zGp_u {N L : Nat} {a b : Nat → Nat} {w w' : Int} (h : zGp N L a b w) (h' : zGp N L a b w') : w = w' := by
  rcases h with ⟨h1, h2⟩ | ⟨r, k, h1, h2, h3⟩
  · rcases h' with ⟨g1, g2⟩ | ⟨r', k', g1, g2, g3⟩
    · rw [h1, g1]
    · exact absurd g2 (h2 r' k')
  · rcases h' with ⟨g1, g2⟩ | ⟨r', k', g1, g2, g3⟩
    · exact absurd h2 (g2 r k)
    · have e1 := h3 r' k' g2
      have e2 := g3 r k h2
      have : k = k' := by omega
      rw [h1, g1, this]
theorem zGir_b {N L : Nat} {a b : Nat → Nat} {inf z : Int} (h : zGir N L a b inf z) (hi : 2 * (N : Int) < inf) : 0 ≤ z ∧ z ≤ inf := by
  rcases h with ⟨h1, h2⟩ | ⟨r, k, h1, h2, h3⟩
  · omega
  · omega
theorem zGir_lt {N L : Nat} {a b : Nat → Nat} {inf z : Int} (h : zGir N L a b inf z) (hi : 2 * (N : Int) < inf) (c : z < inf) : zGp N L a b z := by
  rcases h with ⟨h1, h2⟩ | ⟨r, k, h1, h2, h3, h4⟩
  · omega
  · exact Or.inr ⟨r, k, h1, h3, h4⟩
theorem zGir_inf {N L : Nat} {a b : Nat → Nat} {inf z : Int} (h : zGir N L a b inf z) (hi : 2 * (N : Int) < inf) (c : ¬ z < inf) : zGp N L a b (-1) := by
  rcases h with ⟨h1, h2⟩ | ⟨r, k, h1, h2, h3, h4⟩
  · exact Or.inl ⟨rfl, h2⟩
  · omega
theorem zGir_2 {N L : Nat} {a b : Nat → Nat} {inf z : Int} (h : zGir N L a b inf z) : z = inf ∨ z ≤ 2 * N := by
  rcases h with ⟨h1, h2⟩ | ⟨r, k, h1, h2, h3⟩
  · exact Or.inl h1
  · exact Or.inr (by omega)
theorem pOrNone {f : Nat} {Φ : Int → aj_M → Prop} {N L : Nat} {a b : Nat → Nat} {z : Int} {m : aj_M} (h : zGir N L a b 1000000 z) (hN : N ≤ 60) (hK : ∀ w, zGp N L a b w → -1 ≤ w → w ≤ 120 → Φ w m) : wX11_orNone f Φ z m := by
  have hb := zGir_b h (by omega)
  have h2 := zGir_2 h
  refine pX11_orNone ⟨by omega, by omega⟩ (fun c => ?_) (fun c => ?_)
  · exact hK _ (zGir_lt h (by omega) c) (by omega) (by omega)
  · exact hK _ (zGir_inf h (by omega) (by omega)) (by decide) (by decide)
theorem pToldFar {f : Nat} {Φ : Int → aj_M → Prop} {N L : Nat} {a b : Nat → Nat} {z : Int} {m : aj_M} (h : zGir N L a b 268435456 z) (hN : N ≤ 60) (hK : ∀ w, zGp N L a b w → -1 ≤ w → w ≤ 120 → Φ w m) : wX12_toldFar f Φ z m := by
  have hb := zGir_b h (by omega)
  have h2 := zGir_2 h
  refine pX12_toldFar hb (fun c => ?_) (fun c => ?_)
  · exact hK _ (zGir_lt h (by omega) c) (by omega) (by omega)
  · exact hK _ (zGir_inf h (by omega) (by omega)) (by decide) (by decide)
/-- the row is again as it was -/
theorem hX12_aga {f : Nat} {Φ : aj_M → Prop} {m : aj_M} {R W : Nat → Int} (hW : m [27, 1] = W) (h : Φ (aj_ur m [1, 1] (fun j => if 49 ≤ j ∧ j < 63 then W (j - 49) else R j))) : ∀ (k i : Nat) (X : Nat → Int), i ≤ 14 → 14 - i < k → (∀ j, X j = if 49 ≤ j ∧ j < 49 + i then W (j - 49) else R j) → hX12_isAgain_2 f Φ k [1] (i : Int) (aj_ur m [1, 1] X) := by
  intro k
  induction k with
  | zero => intro i X h1 h2; omega
  | succ k ih =>
    intro i X h1 h2 h3
    refine ⟨⟨by omega, by omega⟩, fun c => ?_, fun c => ⟨⟨by omega, by omega⟩, ⟨by omega, by omega⟩, ?_⟩⟩
    · have e : X = (fun j => if 49 ≤ j ∧ j < 63 then W (j - 49) else R j) := by
        funext j
        have ei : i = 14 := by omega
        rw [h3 j, ei]
      rw [e]
      exact h
    · rintro m1 rfl
      rw [zm_urt, zm_uro (by decide), hW, Int.toNat_natCast, show (49 + (i : Int)).toNat = 49 + i by omega]
      refine ih (i + 1) _ (by omega) (by omega) (fun j => ?_)
      show (if j = 49 + i then W i else X j) = _
      by_cases c : j = 49 + i
      · rw [if_pos c, if_pos (by omega)]
        exact congrArg W (by omega)
      · rw [if_neg c, h3 j]
        by_cases d : 49 ≤ j ∧ j < 49 + i
        · rw [if_pos d, if_pos (by omega)]
        · rw [if_neg d, if_neg (by omega)]
theorem pX12_isAgain {f : Nat} {Φ : aj_M → Prop} {m : aj_M} {A B : Nat → Int} (hf : 50 ≤ f) (hm : m [1, 1] = B) (sg : zSg A B) (hW : ∀ k, k < 14 → m [27, 1] k = A (49 + k)) (h : Φ (aj_ur m [1, 1] A)) : wX12_isAgain f Φ [1] m := by
  have e : A = (fun j => if 49 ≤ j ∧ j < 63 then m [27, 1] (j - 49) else B j) := by
    funext j
    by_cases c : 49 ≤ j ∧ j < 63
    · rw [if_pos c, hW _ (by omega)]
      exact congrArg A (by omega)
    · rw [if_neg c, sg j c]
  rw [e] at h
  have := hX12_aga (f := f) (Φ := Φ) (m := m) (R := B) (W := m [27, 1]) rfl h f 0 B (by omega) (by omega) (fun j => by rw [if_neg (by omega)])
  rw [← hm, zm_id] at this
  exact this
