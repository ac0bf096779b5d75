/-! THE SIMPLE CALLS, class and reference: product, inverse, orderOf, centre, bound, arc, fault -/
theorem rI_gOK {k a b n : Int} (h : gOK k a b n) : rI n := by
  have h1 := gOK_n h
  exact ⟨by omega, by omega⟩
theorem rL_rI {v : Int} (h : rI v) : rL v := ⟨by have := h.1; omega, by have := h.2; omega⟩
def zPrd (A : Nat → Int) (x y : Int) : Int := if (0 ≤ x ∧ x < A 4) ∧ (0 ≤ y ∧ y < A 4) then gT (A 1) (A 2) (A 3) x y else -2
theorem pX11_product {f : Nat} {Φ : Int → aj_M → Prop} {m : aj_M} {A : Nat → Int} {x y : Int} (hA : wA A) (hP : wP m [1, 0] A) (hx : rI x) (hy : rI y) (h : Φ (zPrd A x y) m) : wX11_product f Φ [0] x y m := by
  have hg := hA.1
  have h12 := gOK_n hg
  have hn : m [0, 1, 0] 0 = A 4 := hP.1.1
  have hr : rI (m [0, 1, 0] 0) := by rw [hn]; exact rI_gOK hg
  refine pX0_has hx hr (fun a1 a2 => zb1 ?_) (fun a => zb0 ?_)
  · rw [hn] at a2
    refine pX0_has hy hr (fun b1 b2 => zc1 ?_) (fun b => zc0 ?_)
    · rw [hn] at b2
      refine pX0_times hn h12.2 a1 a2 b1 b2 (hP.1.2.1 x y a1 a2 b1 b2) ?_
      rw [zPrd, if_pos ⟨⟨a1, a2⟩, b1, b2⟩] at h
      exact h
    · rw [hn] at b
      rw [zPrd, if_neg (fun c => b c.2)] at h
      exact h
  · rw [hn] at a
    rw [zPrd, if_neg (fun c => a c.1)] at h
    exact h
theorem pX12_product {f : Nat} {Φ : Int → aj_M → Prop} {m : aj_M} {A : Nat → Int} {x y : Int} (hA : wA A) (hm : ∀ j, j < 1105 → m [1, 1] j = A j) (hx : rI x) (hy : rI y) (h : Φ (zPrd A x y) (aj_u m [1] 0 0)) : wX12_product f Φ [1] x y m := by
  rintro m1 rfl
  have hg := hA.1
  have h12 := gOK_n hg
  have hm1 : ∀ j, j < 1105 → aj_u m [1] 0 0 [1, 1] j = A j := fun j hj => by rw [← hm j hj]; rfl
  refine ⟨hx, pX12_isMember (rL_rI hx) (hm1 4 (by decide)) ⟨by omega, h12.2⟩ (fun a1 a2 => zb1 ⟨hy, ?_⟩) (fun a => zb0 ?_)⟩
  · refine pX12_isMember (rL_rI hy) (hm1 4 (by decide)) ⟨by omega, h12.2⟩ (fun b1 b2 => zb1 ?_) (fun b => zb0 ?_)
    · refine pX12_times (by decide) (hm1 1 (by decide)) (hm1 2 (by decide)) (hm1 3 (by decide)) hg a1 a2 b1 b2 ?_
      rw [zPrd, if_pos ⟨⟨a1, a2⟩, b1, b2⟩] at h
      exact h
    · rw [zPrd, if_neg (fun c => b c.2)] at h
      exact h
  · rw [zPrd, if_neg (fun c => a c.1)] at h
    exact h
def zInv (A : Nat → Int) (x : Int) : Int := if 0 ≤ x ∧ x < A 4 then gI (A 1) (A 2) (A 3) x else -2
def zOdr (A : Nat → Int) (x : Int) : Int := if 0 ≤ x ∧ x < A 4 then gO (A 1) (A 2) (A 3) x else -2
theorem pX11_inverse {f : Nat} {Φ : Int → aj_M → Prop} {m : aj_M} {A : Nat → Int} {x : Int} (hA : wA A) (hP : wP m [1, 0] A) (hx : rI x) (h : Φ (zInv A x) m) : wX11_inverse f Φ [0] x m := by
  have h12 := gOK_n hA.1
  have hn : m [0, 1, 0] 0 = A 4 := hP.1.1
  refine pX0_has hx (by rw [hn]; exact rI_gOK hA.1) (fun a1 a2 => zb1 ⟨⟨a1, by omega⟩, ?_⟩) (fun a => zb0 ?_)
  · rw [hn] at a2
    rw [zInv, if_pos ⟨a1, a2⟩, ← hP.1.2.2.1 x a1 a2] at h
    exact h
  · rw [hn] at a
    rw [zInv, if_neg a] at h
    exact h
theorem pX11_orderOf {f : Nat} {Φ : Int → aj_M → Prop} {m : aj_M} {A : Nat → Int} {x : Int} (hA : wA A) (hP : wP m [1, 0] A) (hx : rI x) (h : Φ (zOdr A x) m) : wX11_orderOf f Φ [0] x m := by
  have h12 := gOK_n hA.1
  have hn : m [0, 1, 0] 0 = A 4 := hP.1.1
  refine pX0_has hx (by rw [hn]; exact rI_gOK hA.1) (fun a1 a2 => zb1 ⟨⟨a1, by omega⟩, ?_⟩) (fun a => zb0 ?_)
  · rw [hn] at a2
    rw [zOdr, if_pos ⟨a1, a2⟩, ← hP.1.2.2.2 x a1 a2] at h
    exact h
  · rw [hn] at a
    rw [zOdr, if_neg a] at h
    exact h
theorem pX12_inverse {f : Nat} {Φ : Int → aj_M → Prop} {m : aj_M} {A : Nat → Int} {x : Int} (hf : 20 ≤ f) (hA : wA A) (hm : ∀ j, j < 1105 → m [1, 1] j = A j) (hx : rI x) (h : Φ (zInv A x) (aj_u m [1] 0 0)) : wX12_inverse f Φ [1] x m := by
  rintro m1 rfl
  have hg := hA.1
  have h12 := gOK_n hg
  have hm1 : ∀ j, j < 1105 → aj_u m [1] 0 0 [1, 1] j = A j := fun j hj => by rw [← hm j hj]; rfl
  refine ⟨hx, pX12_isMember (rL_rI hx) (hm1 4 (by decide)) ⟨by omega, h12.2⟩ (fun a1 a2 => zb1 ?_) (fun a => zb0 ?_)⟩
  · refine pX12_inverseOf hf (hm1 1 (by decide)) (hm1 2 (by decide)) (hm1 3 (by decide)) hg a1 a2 ?_
    rw [zInv, if_pos ⟨a1, a2⟩] at h
    exact h
  · rw [zInv, if_neg a] at h
    exact h
theorem pX12_orderOf {f : Nat} {Φ : Int → aj_M → Prop} {m : aj_M} {A : Nat → Int} {x : Int} (hf : 20 ≤ f) (hA : wA A) (hm : ∀ j, j < 1105 → m [1, 1] j = A j) (hx : rI x) (h : Φ (zOdr A x) (aj_u m [1] 0 0)) : wX12_orderOf f Φ [1] x m := by
  rintro m1 rfl
  have hg := hA.1
  have h12 := gOK_n hg
  have hm1 : ∀ j, j < 1105 → aj_u m [1] 0 0 [1, 1] j = A j := fun j hj => by rw [← hm j hj]; rfl
  refine ⟨hx, pX12_isMember (rL_rI hx) (hm1 4 (by decide)) ⟨by omega, h12.2⟩ (fun a1 a2 => zb1 ?_) (fun a => zb0 ?_)⟩
  · refine pX12_ordersOf hf (by decide) (hm1 1 (by decide)) (hm1 2 (by decide)) (hm1 3 (by decide)) hg a1 a2 ?_
    rw [zOdr, if_pos ⟨a1, a2⟩] at h
    exact h
  · rw [zOdr, if_neg a] at h
    exact h
/-- the bound, both -/
def zBo (d : Int) : Nat → Int → Int → Int
  | 0, s, _ => s
  | k + 1, s, l => zBo d k (s + l) (l * (d - 1))
def zBd (d g : Int) : Int := if g % 2 = 1 then 1 + d * zBo d (g / 2).toNat 0 1 else 2 * zBo d (g / 2).toNat 0 1
theorem hX11_tree {f : Nat} {Φ : Int → aj_M → Prop} {d g L : Int} {m : aj_M} (hd : 2 ≤ d ∧ d ≤ 9) (hg : 3 ≤ g ∧ g ≤ 12) (hL : L = g / 2) (h : Φ (zBd d g) m) : ∀ (k : Nat) (i : Nat) (s l : Int), (i : Int) ≤ L → L - i < k → zBo d (L - i).toNat s l = zBo d L.toNat 0 1 → hX11_treeBound_27 f Φ k d g L s l (i : Int) m := by
  intro k
  induction k with
  | zero => intro i s l h1 h2; omega
  | succ k ih =>
    intro i s l h1 h2 h3
    refine ⟨⟨by omega, by omega⟩, ⟨by omega, by omega⟩, fun c => ?_, fun c => ?_⟩
    · have e : (L - i).toNat = 0 := by omega
      rw [e] at h3
      have h3 : s = zBo d L.toNat 0 1 := h3
      subst hL
      refine ⟨⟨by omega, by omega⟩, ⟨by omega, by omega⟩, fun e => ?_, fun e => ⟨⟨by omega, by omega⟩, ?_⟩⟩
      · rw [h3]
        rw [zBd, if_neg e] at h
        exact h
      · rw [h3]
        rw [zBd, if_pos e] at h
        exact h
    · refine ⟨⟨by omega, by omega⟩, ?_⟩
      have e : (L - i).toNat = (L - ((i + 1 : Nat) : Int)).toNat + 1 := by omega
      rw [e] at h3
      have := ih (i + 1) (s + l) (l * (d - 1)) (by omega) (by omega) h3
      simpa using this
theorem hX12_tree {f : Nat} {Φ : Int → aj_M → Prop} {d g : Int} {m : aj_M} (hd : 2 ≤ d ∧ d ≤ 9) (hg : 3 ≤ g ∧ g ≤ 12) (h : Φ (zBd d g) m) : ∀ (k : Nat) (i : Nat) (s l : Int), (i : Int) ≤ g / 2 → g / 2 - i < k → zBo d (g / 2 - i).toNat s l = zBo d (g / 2).toNat 0 1 → hX12_boundOf_8 f Φ k d g s l (i : Int) m := by
  intro k
  induction k with
  | zero => intro i s l h1 h2; omega
  | succ k ih =>
    intro i s l h1 h2 h3
    refine ⟨⟨by omega, by omega⟩, ⟨by omega, by omega⟩, ⟨by omega, by omega⟩, fun c => ?_, fun c => ?_⟩
    · have e : (g / 2 - i).toNat = 0 := by omega
      rw [e] at h3
      have h3 : s = zBo d (g / 2).toNat 0 1 := h3
      refine ⟨⟨by omega, by omega⟩, ⟨by omega, by omega⟩, fun e => ?_, fun e => ⟨⟨by omega, by omega⟩, ?_⟩⟩
      · rw [h3]
        rw [zBd, if_neg e] at h
        exact h
      · rw [h3]
        rw [zBd, if_pos e] at h
        exact h
    · refine ⟨⟨by omega, by omega⟩, ?_⟩
      have e : (g / 2 - i).toNat = (g / 2 - ((i + 1 : Nat) : Int)).toNat + 1 := by omega
      rw [e] at h3
      have := ih (i + 1) (s + l) (l * (d - 1)) (by omega) (by omega) h3
      simpa using this
theorem pX11_treeBound {f : Nat} {Φ : Int → aj_M → Prop} {d g : Int} {m : aj_M} (hf : 20 ≤ f) (hd : 2 ≤ d ∧ d ≤ 9) (hg : 3 ≤ g ∧ g ≤ 12) (h : Φ (zBd d g) m) : wX11_treeBound f Φ d g m := by
  refine ⟨⟨by omega, by omega⟩, ⟨by omega, by omega⟩, fun e => ⟨⟨by omega, by omega⟩, ?_⟩, fun e => ⟨⟨by omega, by omega⟩, ?_⟩⟩
  · have := hX11_tree (f := f) (L := g / 2) hd hg rfl h f 0 0 1 (by omega) (by omega) (by rw [show g / 2 - ((0 : Nat) : Int) = g / 2 by omega])
    exact this
  · have := hX11_tree (f := f) (L := (g - 1) / 2) hd hg (by omega) h f 0 0 1 (by omega) (by omega) (by rw [show (g - 1) / 2 - ((0 : Nat) : Int) = (g - 1) / 2 by omega])
    exact this
theorem pX12_boundOf {f : Nat} {Φ : Int → aj_M → Prop} {d g : Int} {m : aj_M} (hf : 20 ≤ f) (hd : 2 ≤ d ∧ d ≤ 9) (hg : 3 ≤ g ∧ g ≤ 12) (h : Φ (zBd d g) m) : wX12_boundOf f Φ d g m := by
  have := hX12_tree (f := f) hd hg h f 0 0 1 (by omega) (by omega) (by rw [show g / 2 - ((0 : Nat) : Int) = g / 2 by omega])
  exact this
def zBnd (d g : Int) : Int := if 2 ≤ d ∧ d ≤ 9 ∧ 3 ≤ g ∧ g ≤ 12 then zBd d g else -3
theorem pX11_bound {f : Nat} {Φ : Int → aj_M → Prop} {d g : Int} {m : aj_M} (hf : 20 ≤ f) (hd : rI d) (hg : rI g) (h : Φ (zBnd d g) m) : wX11_bound f Φ [0] d g m := by
  refine pX11_isBounded hd hg ?_
  by_cases c : 2 ≤ d ∧ d ≤ 9 ∧ 3 ≤ g ∧ g ≤ 12
  · rw [if_pos c]
    rw [zBnd, if_pos c] at h
    exact zb1 (pX11_treeBound hf ⟨c.1, c.2.1⟩ c.2.2 h)
  · rw [if_neg c]
    rw [zBnd, if_neg c] at h
    exact zb0 h
theorem pX12_bound {f : Nat} {Φ : Int → aj_M → Prop} {d g : Int} {m : aj_M} (hf : 20 ≤ f) (hd : rI d) (hg : rI g) (h : Φ (zBnd d g) (aj_u m [1] 0 0)) : wX12_bound f Φ [1] d g m := by
  rintro m1 rfl
  refine pX12_isBound hd hg ?_
  by_cases c : 2 ≤ d ∧ d ≤ 9 ∧ 3 ≤ g ∧ g ≤ 12
  · rw [if_pos c]
    rw [zBnd, if_pos c] at h
    exact zb1 (pX12_boundOf hf ⟨c.1, c.2.1⟩ c.2.2 h)
  · rw [if_neg c]
    rw [zBnd, if_neg c] at h
    exact zb0 h
/-- arc -/
def zArc (A : Nat → Int) (a w : Int) : Int := if 0 ≤ a ∧ a < A 6 then (if w = 0 then A (13 + a.toNat) else if w = 1 then A (25 + a.toNat) else if w = 2 then A (49 + a.toNat) else if w = 3 then A (37 + a.toNat) else if w = 4 then (if (A 61).toNat.testBit a.toNat then 1 else 0) else -2) else -2
theorem pX11_arc {f : Nat} {Φ : Int → aj_M → Prop} {m : aj_M} {A : Nat → Int} {a w : Int} (hA : wA A) (hP : wP m [1, 0] A) (hS : wS m [2, 0] A) (ha : rI a) (hw : rI w) (h : Φ (zArc A a w) m) : wX11_arc f Φ [0] a w m := by
  have h6 := hA.2.2.1
  refine pX6_hasArc ha hP.2.2.1 h6 (fun a1 a2 => zc1 ?_) (fun c => zc0 ?_)
  · obtain ⟨n, rfl⟩ : ∃ n : Nat, a = n := ⟨a.toNat, by omega⟩
    rw [zArc, if_pos ⟨a1, a2⟩] at h
    obtain ⟨p1, p2⟩ := hP.2.2.2.2.2.1 n a2
    have p3 := hS.1 n a2
    have q := hA.2.2.2.1 n a2
    simp only [Int.toNat_natCast] at h
    refine ⟨hw, fun c => ?_, ?_, ?_, ?_, ?_, ?_⟩
    · rw [if_neg (by omega), if_neg (by omega), if_neg (by omega), if_neg (by omega), if_neg (by omega)] at h
      exact h
    · rintro rfl
      refine ⟨⟨a1, by omega⟩, ?_⟩
      simp only [Int.toNat_natCast]
      rw [p1]
      exact h
    · rintro rfl
      refine ⟨⟨a1, by omega⟩, ?_⟩
      simp only [Int.toNat_natCast]
      rw [p2]
      exact h
    · rintro rfl
      refine ⟨⟨a1, by omega⟩, ?_⟩
      simp only [Int.toNat_natCast]
      rw [p3]
      exact h
    · rintro rfl
      have h : Φ (A (37 + n)) m := h
      refine pX6_isHalf hA hP ha (fun _ _ e => zb1 ?_) (fun c => zb0 ?_)
      · simp only [Int.toNat_natCast] at e
        rw [e] at h
        exact h
      · simp only [Int.toNat_natCast] at c
        rcases q.2.2.1 with e | e
        · rw [e] at h
          exact h
        · exact absurd ⟨a1, a2, e.1⟩ c
    · rintro rfl
      obtain ⟨C, hC, hC2⟩ := hA.2.2.2.2.1
      have h : Φ (if (A 61).toNat.testBit n then 1 else 0) m := h
      rw [hC, Int.toNat_natCast] at h
      refine pX9_isOut (hS.2.1.trans hC) hC2 (by omega) (fun e => zb1 ?_) (fun e => zb0 ?_)
      · rw [e] at h
        exact h
      · rw [e] at h
        exact h
  · rw [zArc, if_neg c] at h
    exact h
theorem pX12_arc {f : Nat} {Φ : Int → aj_M → Prop} {m : aj_M} {A : Nat → Int} {a w : Int} (hA : wA A) (hm : ∀ j, j < 1105 → m [1, 1] j = A j) (ha : rI a) (hw : rI w) (h : Φ (zArc A a w) (aj_u m [1] 0 0)) : wX12_arc f Φ [1] a w m := by
  rintro m1 rfl
  have h6 := hA.2.2.1
  have hm1 : ∀ j, j < 1105 → aj_u m [1] 0 0 [1, 1] j = A j := fun j hj => by rw [← hm j hj]; rfl
  refine ⟨ha, pX12_isArc (rL_rI ha) (hm1 6 (by decide)) h6 (fun a1 a2 => zc1 ?_) (fun c => zc0 ?_)⟩
  · obtain ⟨n, rfl⟩ : ∃ n : Nat, a = n := ⟨a.toNat, by omega⟩
    rw [zArc, if_pos ⟨a1, a2⟩] at h
    simp only [Int.toNat_natCast] at h
    refine ⟨hw, fun c => ?_, ?_, ?_, ?_, ?_, ?_⟩
    · rw [if_neg (by omega), if_neg (by omega), if_neg (by omega), if_neg (by omega), if_neg (by omega)] at h
      exact h
    · rintro rfl
      refine ⟨⟨by omega, by omega⟩, ?_⟩
      rw [show (13 + (n : Int)).toNat = 13 + n by omega, hm1 _ (by omega)]
      exact h
    · rintro rfl
      refine ⟨⟨by omega, by omega⟩, ?_⟩
      rw [show (25 + (n : Int)).toNat = 25 + n by omega, hm1 _ (by omega)]
      exact h
    · rintro rfl
      refine ⟨⟨by omega, by omega⟩, ?_⟩
      rw [show (49 + (n : Int)).toNat = 49 + n by omega, hm1 _ (by omega)]
      exact h
    · rintro rfl
      refine ⟨⟨by omega, by omega⟩, ?_⟩
      rw [show (37 + (n : Int)).toNat = 37 + n by omega, hm1 _ (by omega)]
      exact h
    · rintro rfl
      obtain ⟨C, hC, hC2⟩ := hA.2.2.2.2.1
      have h : Φ (if (A 61).toNat.testBit n then 1 else 0) (aj_u m [1] 0 0) := h
      rw [hC, Int.toNat_natCast] at h
      rw [show (61 : Int).toNat = 61 from rfl, hm1 61 (by decide), hC]
      refine ⟨⟨by omega, by omega⟩, pX12_isIn (Nat.lt_trans hC2 (by decide)) (by omega) (fun e => zb1 ?_) (fun e => zb0 ?_)⟩
      · rw [e] at h
        exact h
      · rw [e] at h
        exact h
  · rw [zArc, if_neg c] at h
    exact h
/-- fault -/
def zFlt (a b w : Int) : Int := if w = 0 then a else if w = 1 then b else -1
theorem pX11_fault {f : Nat} {Φ : Int → aj_M → Prop} {m : aj_M} {w : Int} (hw : rI w) (h : Φ (zFlt (m [0, 0] 9) (m [0, 0] 10) w) m) : wX11_fault f Φ [0] w m := by
  refine ⟨hw, fun c => ?_, ?_, ?_⟩
  · rw [zFlt, if_neg c.1, if_neg c.2] at h
    exact h
  · rintro rfl
    exact h
  · rintro rfl
    exact h
theorem pX12_fault {f : Nat} {Φ : Int → aj_M → Prop} {m : aj_M} {w : Int} (hw : rI w) (h : Φ (zFlt (m [1] 13) (m [1] 14) w) (aj_u m [1] 0 0)) : wX12_fault f Φ [1] w m := by
  rintro m1 rfl
  refine ⟨hw, fun c => ⟨hw, fun d => ?_, ?_⟩, ?_⟩
  · rw [zFlt, if_neg c, if_neg d] at h
    exact h
  · rintro rfl
    exact h
  · rintro rfl
    exact h
