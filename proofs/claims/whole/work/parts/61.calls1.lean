/-! CENTRE -/
def zCm (A : Nat → Int) (x : Nat) : Nat → Int
  | 0 => 1
  | y + 1 => if gT (A 1) (A 2) (A 3) x y = gT (A 1) (A 2) (A 3) y x then zCm A x y else 0
theorem zCm_b {A : Nat → Int} {x : Nat} : ∀ y, zCm A x y = 0 ∨ zCm A x y = 1
  | 0 => Or.inr rfl
  | y + 1 => by
    unfold zCm
    split
    · exact zCm_b y
    · exact Or.inl rfl
def zCn (A : Nat → Int) : Nat → Int
  | 0 => 0
  | x + 1 => zCn A x + zCm A x (A 4).toNat
theorem zCm_and0 {v : Int} (h : v = 0 ∨ v = 1) : aj_and v 0 = 0 ∧ aj_and v 1 = v := by
  rcases h with rfl | rfl <;> decide
theorem hX0_cen_in {f : Nat} {Φ : Int → aj_M → Prop} {K : List Nat → Int → Int → aj_M → Prop} {m : aj_M} {q : List Nat} {A : Nat → Int} {c : Int} {x : Nat} (hA : wA A) (hC : gC m q (A 1) (A 2) (A 3) (A 4)) (hx : (x : Int) < A 4) (hK : K q (c + zCm A x (A 4).toNat) ((x : Int) + 1) m) : ∀ (k y : Nat) (v : Int), y ≤ (A 4).toNat → (A 4).toNat - y < k → v = zCm A x y → hX0_centrals_17 f Φ K k q c x v (y : Int) m := by
  have h12 := gOK_n hA.1
  intro k
  induction k with
  | zero => intro y v h1 h2; omega
  | succ k ih =>
    intro y v h1 h2 hv
    have hb := zCm_b (A := A) (x := x) y
    refine ⟨⟨by omega, by omega⟩, by rw [hC.1]; exact rI_gOK hA.1, fun e => ?_, fun e => ?_⟩
    · rw [hC.1] at e
      have ey : y = (A 4).toNat := by omega
      subst ey
      rw [← hv] at hK hb
      refine ⟨?_, fun e => ?_, fun e => ?_⟩
      · rcases hb with h | h <;> rw [h] <;> decide
      · rw [e] at hK
        exact hK
      · rcases hb with h | h
        · exact absurd h e
        · rw [h] at hK
          exact hK
    · rw [hC.1] at e
      refine pX0_times hC.1 h12.2 (by omega) hx (by omega) (by omega) (hC.2.1 x y (by omega) hx (by omega) (by omega)) ?_
      refine pX0_times hC.1 h12.2 (by omega) (by omega) (by omega) hx (hC.2.1 y x (by omega) (by omega) (by omega) hx) ?_
      have f1 := g_fact hA.1 (x := (x : Int)) (y := (y : Int)) (by omega) hx (by omega) (by omega)
      have f2 := g_fact hA.1 (x := (y : Int)) (y := (x : Int)) (by omega) (by omega) (by omega) hx
      refine ⟨⟨by omega, by omega⟩, ⟨by omega, by omega⟩, fun e2 => ?_, fun e2 => ?_⟩
      · rw [hv, (zCm_and0 hb).1]
        refine ih (y + 1) 0 (by omega) (by omega) ?_
        rw [zCm, if_neg e2]
      · rw [hv, (zCm_and0 hb).2]
        refine ih (y + 1) _ (by omega) (by omega) ?_
        rw [zCm, if_pos e2]
theorem hX0_cen {f : Nat} {Φ : Int → aj_M → Prop} {m : aj_M} {q : List Nat} {A : Nat → Int} (hf : 20 ≤ f) (hA : wA A) (hC : gC m q (A 1) (A 2) (A 3) (A 4)) (hK : Φ (zCn A (A 4).toNat) m) : ∀ (k x : Nat) (c : Int), x ≤ (A 4).toNat → (A 4).toNat - x < k → c = zCn A x → hX0_centrals_4 f Φ k q c (x : Int) m := by
  have h12 := gOK_n hA.1
  intro k
  induction k with
  | zero => intro x c h1 h2; omega
  | succ k ih =>
    intro x c h1 h2 hv
    refine ⟨⟨by omega, by omega⟩, by rw [hC.1]; exact rI_gOK hA.1, fun e => ?_, fun e => ?_⟩
    · rw [hC.1] at e
      have ex : x = (A 4).toNat := by omega
      rw [← ex, ← hv] at hK
      exact hK
    · rw [hC.1] at e
      refine hX0_cen_in hA hC (by omega) ?_ f 0 1 (by omega) (by omega) rfl
      exact ih (x + 1) _ (by omega) (by omega) (by rw [zCn, hv])
theorem pX11_centre {f : Nat} {Φ : Int → aj_M → Prop} {m : aj_M} {A : Nat → Int} (hf : 20 ≤ f) (hA : wA A) (hP : wP m [1, 0] A) (h : Φ (zCn A (A 4).toNat) m) : wX11_centre f Φ [0] m :=
  have h12 := gOK_n hA.1
  hX0_cen hf hA hP.1 h f 0 0 (by omega) (by omega) rfl
theorem hX12_cen_in {f : Nat} {Φ : Int → aj_M → Prop} {K : List Nat → Int → Int → aj_M → Prop} {m : aj_M} {A : Nat → Int} {c : Int} {x : Nat} (hA : wA A) (hm : ∀ j, j < 1105 → m [1, 1] j = A j) (hx : (x : Int) < A 4) (hK : K [1] (c + zCm A x (A 4).toNat) ((x : Int) + 1) m) : ∀ (k y : Nat) (v : Int), y ≤ (A 4).toNat → (A 4).toNat - y < k → v = zCm A x y → hX12_centre_24 f Φ K k [1] c x v (y : Int) m := by
  have h12 := gOK_n hA.1
  have h4 : m [1, 1] (4 : Int).toNat = A 4 := hm 4 (by decide)
  intro k
  induction k with
  | zero => intro y v h1 h2; omega
  | succ k ih =>
    intro y v h1 h2 hv
    have hb := zCm_b (A := A) (x := x) y
    refine ⟨⟨by omega, by omega⟩, by rw [h4]; exact rI_gOK hA.1, fun e => ?_, fun e => ?_⟩
    · rw [h4] at e
      have ey : y = (A 4).toNat := by omega
      subst ey
      rw [← hv] at hK hb
      refine ⟨?_, fun e => ?_, fun e => ?_⟩
      · rcases hb with h | h <;> rw [h] <;> decide
      · rw [e] at hK
        exact hK
      · rcases hb with h | h
        · exact absurd h e
        · rw [h] at hK
          exact hK
    · rw [h4] at e
      refine pX12_times (by decide) (hm 1 (by decide)) (hm 2 (by decide)) (hm 3 (by decide)) hA.1 (by omega) hx (by omega) (by omega) ?_
      refine pX12_times (by decide) (hm 1 (by decide)) (hm 2 (by decide)) (hm 3 (by decide)) hA.1 (by omega) (by omega) (by omega) hx ?_
      have f1 := g_fact hA.1 (x := (x : Int)) (y := (y : Int)) (by omega) hx (by omega) (by omega)
      have f2 := g_fact hA.1 (x := (y : Int)) (y := (x : Int)) (by omega) (by omega) (by omega) hx
      refine ⟨⟨by omega, by omega⟩, ⟨by omega, by omega⟩, fun e2 => ?_, fun e2 => ?_⟩
      · rw [hv, (zCm_and0 hb).1]
        refine ih (y + 1) 0 (by omega) (by omega) ?_
        rw [zCm, if_neg e2]
      · rw [hv, (zCm_and0 hb).2]
        refine ih (y + 1) _ (by omega) (by omega) ?_
        rw [zCm, if_pos e2]
theorem hX12_cen {f : Nat} {Φ : Int → aj_M → Prop} {m : aj_M} {A : Nat → Int} (hf : 20 ≤ f) (hA : wA A) (hm : ∀ j, j < 1105 → m [1, 1] j = A j) (hK : Φ (zCn A (A 4).toNat) m) : ∀ (k x : Nat) (c : Int), x ≤ (A 4).toNat → (A 4).toNat - x < k → c = zCn A x → hX12_centre_9 f Φ k [1] c (x : Int) m := by
  have h12 := gOK_n hA.1
  have h4 : m [1, 1] (4 : Int).toNat = A 4 := hm 4 (by decide)
  intro k
  induction k with
  | zero => intro x c h1 h2; omega
  | succ k ih =>
    intro x c h1 h2 hv
    refine ⟨⟨by omega, by omega⟩, by rw [h4]; exact rI_gOK hA.1, fun e => ?_, fun e => ?_⟩
    · rw [h4] at e
      have ex : x = (A 4).toNat := by omega
      rw [← ex, ← hv] at hK
      exact hK
    · rw [h4] at e
      refine hX12_cen_in hA hm (by omega) ?_ f 0 1 (by omega) (by omega) rfl
      exact ih (x + 1) _ (by omega) (by omega) (by rw [zCn, hv])
theorem pX12_centre {f : Nat} {Φ : Int → aj_M → Prop} {m : aj_M} {A : Nat → Int} (hf : 20 ≤ f) (hA : wA A) (hm : ∀ j, j < 1105 → m [1, 1] j = A j) (h : Φ (zCn A (A 4).toNat) (aj_u m [1] 0 0)) : wX12_centre f Φ [1] m := by
  have h12 := gOK_n hA.1
  rintro m1 rfl
  exact hX12_cen hf hA (fun j hj => by rw [← hm j hj]; rfl) h f 0 0 (by omega) (by omega) rfl
