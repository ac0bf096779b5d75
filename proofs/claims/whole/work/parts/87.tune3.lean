/-! TUNE, TUNED, the class -/
theorem pX11_tune {f : Nat} {Φ : Int → aj_M → Prop} {m : aj_M} {A : Nat → Int} {v : Int} (hf : 1000 ≤ f) (hA : wA A) (hP : wP m [1, 0] A) (hKp : wK m [1, 0] A) (hvi : ∀ k, rI (m [12, 9, 0] k)) (hS : wS m [2, 0] A) (hv : rI v) (hbad : ¬ (0 ≤ v ∧ v < A 6) → Φ (-2) m) (hK : ∀ a : Nat, v = a → (a : Int) < A 6 → ∀ m' s, zGs m m' A → zTu A a (A 4).toNat s → zTok s → Φ s.1 m') : wX11_tune f Φ [0] v m := by
  have h6 := hA.2.2.1
  have h12 := gOK_n hA.1
  refine pX6_hasArc hv hP.2.2.1 h6 (fun a1 a2 => zc1 ?_) (fun c => zc0 (hbad c))
  obtain ⟨a, rfl⟩ : ∃ a : Nat, v = a := ⟨v.toNat, by omega⟩
  have := hX11_tun (f := f) hf hA a2 hS (hK a rfl a2) f 0 m (-1, 0) (by omega) (by omega) (zGs_0 hP hKp hvi) rfl (Or.inl rfl)
  exact this
