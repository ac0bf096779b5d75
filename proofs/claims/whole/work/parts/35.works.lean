/-! A WORKS AS A ROW OF NUMBERS (as the reference has it), AND THE CLASS'S PICTURE OF IT -/
def zLawOK (A : Nat → Int) (lw : Nat) (ty : Bool) : Prop := A (7 + lw) = 0 ∨ (A (7 + lw) = 1 ∧ ∃ fr many : Nat, A (9 + lw) = fr ∧ A (11 + lw) = many ∧ 1 ≤ many ∧ fr + many ≤ 900 ∧ ((fr + many : Nat) : Int) ≤ A 204 ∧ zty (fun i => A (205 + i)) fr many [] = some [ty])
def wA (A : Nat → Int) : Prop :=
  gOK (A 1) (A 2) (A 3) (A 4) ∧ (1 ≤ A 5 ∧ A 5 ≤ 5) ∧ (0 ≤ A 6 ∧ A 6 ≤ 12) ∧
  (∀ j : Nat, (j : Int) < A 6 → (0 ≤ A (13 + j) ∧ A (13 + j) < A 5) ∧ (0 ≤ A (25 + j) ∧ A (25 + j) < A 5) ∧ (A (37 + j) = 0 ∨ (A (37 + j) = 1 ∧ gO (A 1) (A 2) (A 3) (A (49 + j)) = 2)) ∧ 0 ≤ A (49 + j) ∧ A (49 + j) < A 4) ∧
  (∃ C : Nat, A 61 = C ∧ C < 4096) ∧ (0 ≤ A 62 ∧ A 62 ≤ 9) ∧ (0 ≤ A 0 ∧ A 0 ≤ 1000) ∧ (0 ≤ A 204 ∧ A 204 ≤ 900) ∧ zLawOK A 0 true ∧ zLawOK A 1 false
def zW (A : Nat → Int) (ar : Nat) (x t : Int) : Nat → Int := fun j => if j = 0 then ar else if j = 1 then A (13 + ar) else if j = 2 then A (25 + ar) else if j = 3 then x else t
def zLaw (A : Nat → Int) (lw ar : Nat) (x t : Int) : Int := (zrun (zW A ar x t) (fun i => A (205 + i)) (A (9 + lw)).toNat (A (11 + lw)).toNat []).headD 0
def zKept (A : Nat → Int) (ar : Nat) (x t : Int) : Prop := A 7 = 0 ∨ zLaw A 0 ar x t = 1
def zWt (A : Nat → Int) (ar : Nat) (x t : Int) : Int := if A 8 = 1 then max 1 (min 99 (zLaw A 1 ar x t)) else 1
theorem zWt_b {A : Nat → Int} {ar : Nat} {x t : Int} : 1 ≤ zWt A ar x t ∧ zWt A ar x t ≤ 99 := by
  unfold zWt
  split <;> omega
theorem zW_b {A : Nat → Int} (h : wA A) {ar : Nat} (har : (ar : Int) < A 6) {x t : Int} (hx : 0 ≤ x ∧ x < 12) (ht : 0 ≤ t ∧ t ≤ 9) : ∀ j, j < 5 → -1000000 ≤ zW A ar x t j ∧ zW A ar x t j ≤ 1000000 := by
  have h1 := h.2.2.2.1 ar har
  have h2 := h.2.1
  have h3 := h.2.2.1
  intro j hj
  unfold zW
  split
  · omega
  · split
    · omega
    · split
      · omega
      · split <;> omega
/-- the class's plan at p and setting at s -/
def wPl (m : aj_M) (p : List Nat) (A : Nat → Int) : Prop :=
  m (1 :: p) 1 = A 204 ∧ (∀ i : Nat, (i : Int) < A 204 → m (0 :: 1 :: p) i = zenc (A (205 + i))) ∧
  (0 ≤ m (1 :: p) 2 ∧ m (1 :: p) 2 ≤ 900) ∧ (0 ≤ m (1 :: p) 3 ∧ m (1 :: p) 3 ≤ 900) ∧ (0 ≤ m (1 :: p) 4 ∧ m (1 :: p) 4 ≤ 900) ∧ (0 ≤ m (1 :: p) 5 ∧ m (1 :: p) 5 ≤ 900) ∧
  (A 7 = 0 → m (1 :: p) 3 ≤ m (1 :: p) 2) ∧ (A 7 = 1 → m (1 :: p) 2 = A 9 ∧ m (1 :: p) 3 = A 9 + A 11) ∧
  (A 8 = 0 → m (1 :: p) 5 ≤ m (1 :: p) 4) ∧ (A 8 = 1 → m (1 :: p) 4 = A 10 ∧ m (1 :: p) 5 = A 10 + A 12)
def wP (m : aj_M) (p : List Nat) (A : Nat → Int) : Prop :=
  gC m (0 :: p) (A 1) (A 2) (A 3) (A 4) ∧ m p 3 = A 5 ∧ m p 4 = A 6 ∧ m p 5 = A 0 ∧
  (∃ H : Nat, m p 6 = H ∧ H < 4096 ∧ ∀ j : Nat, (j : Int) < A 6 → H.testBit j = decide (A (37 + j) = 1)) ∧
  (∀ j : Nat, (j : Int) < A 6 → m (7 :: p) j = A (13 + j) ∧ m (8 :: p) j = A (25 + j)) ∧ wPl m p A
def wS (m : aj_M) (s : List Nat) (A : Nat → Int) : Prop := (∀ j : Nat, (j : Int) < A 6 → m (0 :: s) j = A (49 + j)) ∧ m s 1 = A 61 ∧ m s 2 = A 62
/-- the kept members that are known -/
def wK (m : aj_M) (p : List Nat) (A : Nat → Int) : Prop := m p 10 = -1 ∨ (0 ≤ m p 10 ∧ m p 10 ≤ 9 ∧ ∀ ar : Nat, (ar : Int) < A 6 → ∃ B : Nat, m (11 :: p) ar = B ∧ B < 4096 ∧ ∀ x : Nat, (x : Int) < A 4 → (B.testBit x = true ↔ zKept A ar x (m p 10)))
theorem zLaw_run {A : Nat → Int} {lw : Nat} {ty : Bool} (h : zLawOK A lw ty) (h1 : A (7 + lw) = 1) {ar : Nat} {x t v : Int} {fr many : Nat} (e1 : A (9 + lw) = fr) (e2 : A (11 + lw) = many) (hv : zrun (zW A ar x t) (fun i => A (205 + i)) fr many [] = [v]) : v = zLaw A lw ar x t := by
  unfold zLaw
  rw [e1, e2, Int.toNat_natCast, Int.toNat_natCast, hv]
  rfl
theorem pX4_value {f : Nat} {Φ : Int → aj_M → Prop} {p : List Nat} {m : aj_M} {A : Nat → Int} {lw ar : Nat} {x t v1 v2 : Int} {ty : Bool} (hA : wA A) (hlw : lw < 2) (hty : zLawOK A lw ty) (h1 : A (7 + lw) = 1) (e1 : v1 = A (9 + lw)) (e2 : v2 = A (9 + lw) + A (11 + lw)) (hst : ∀ i : Nat, (i : Int) < A 204 → m (0 :: 1 :: p) i = zenc (A (205 + i))) (h78 : m (7 :: p) ar = A (13 + ar) ∧ m (8 :: p) ar = A (25 + ar)) (har : (ar : Int) < A 6) (hx : 0 ≤ x ∧ x < 12) (ht : 0 ≤ t ∧ t ≤ 9) (hf : 1000 ≤ f) (hK : ∀ S : Nat → Int, zv ty (zLaw A lw ar x t) → Φ (zLaw A lw ar x t) (aj_ur m (6 :: 1 :: p) S)) : wX4_value f Φ (1 :: p) v1 v2 p ar x t m := by
  have h12 := hA.2.2.1
  unfold wX4_value
  rcases id hty with h0 | ⟨_, fr, many, f1, f2, f3, f4, f5, f6⟩
  · omega
  · rw [e1, e2, f1, f2, ← zm_ur_self (m := m) (p := 6 :: 1 :: p)]
    refine cv_go (e := fr + many) (cd := fun i => A (205 + i)) (w := zW A ar x t) (by omega) f4 (fun i hi => hst i (by omega)) rfl h78.1 h78.2 rfl rfl (zW_b hA har hx ht) (by simp) (by simp) many f fr [] [] _ rfl (by omega) f6 True.intro (by simp) True.intro ?_
    intro S v hv hzv
    rw [zLaw_run hty h1 f1 f2 hv] at hzv ⊢
    exact hK S hzv
theorem pX12_reckons {f : Nat} {Φ : Int → aj_M → Prop} {q : List Nat} {m : aj_M} {A : Nat → Int} {lw ar : Nat} {x t : Int} {ty : Bool} (hA : wA A) (hlw : lw < 2) (hty : zLawOK A lw ty) (h1 : A (7 + lw) = 1) (hm : ∀ j, j < 1105 → m (1 :: q) j = A j) (hw : ∀ j, j < 5 → m (17 :: q) j = zW A ar x t j) (har : (ar : Int) < A 6) (hx : 0 ≤ x ∧ x < 12) (ht : 0 ≤ t ∧ t ≤ 9) (hf : 1000 ≤ f) (hK : ∀ S : Nat → Int, zv ty (zLaw A lw ar x t) → Φ (zLaw A lw ar x t) (aj_ur m (16 :: q) S)) : wX12_reckons f Φ q lw m := by
  unfold wX12_reckons
  rcases id hty with h0 | ⟨_, fr, many, f1, f2, f3, f4, f5, f6⟩
  · omega
  · rw [← zm_ur_self (m := m) (p := 16 :: q)]
    refine rk_go (cd := fun i => A (205 + i)) (w := zW A ar x t) (fr := fr) (many := many) hlw (by rw [hm _ (by omega), f1]) (by rw [hm _ (by omega), f2]) f4 (fun i h1 h2 => hm _ (by omega)) hw (zW_b hA har hx ht) many f 0 [] [] _ (by omega) (by omega) f6 True.intro (by simp) True.intro ?_
    intro S v hv hzv
    rw [zLaw_run hty h1 f1 f2 hv] at hzv ⊢
    exact hK S hzv
/-- the reference's words and stack -/
def rW (m : aj_M) (q : List Nat) (w S : Nat → Int) : aj_M := aj_ur (aj_ur m (17 :: q) w) (16 :: q) S
theorem rW_off {m : aj_M} {q p : List Nat} {w S : Nat → Int} (h : p ≠ 17 :: q) (h' : p ≠ 16 :: q) : rW m q w S p = m p := by simp [rW, zr_ur, h, h']
theorem rW_rW {m : aj_M} {q : List Nat} {w S w' S' : Nat → Int} : rW (rW m q w S) q w' S' = rW m q w' S' := by
  funext p k
  simp only [rW, aj_ur]
  grind
theorem rW_17 {m : aj_M} {q : List Nat} {w S : Nat → Int} : rW m q w S (17 :: q) = w := by simp [rW, zr_ur]
theorem rW_16 {m : aj_M} {q : List Nat} {w S : Nat → Int} : rW m q w S (16 :: q) = S := by simp [rW, zr_ur]
theorem pX12_laysWords {f : Nat} {Φ : aj_M → Prop} {q : List Nat} {m : aj_M} {A : Nat → Int} {ar : Nat} {x t : Int} (hm : ∀ j, j < 1105 → m (1 :: q) j = A j) (har : ar < 12) (hK : ∀ w : Nat → Int, (∀ j, j < 5 → w j = zW A ar x t j) → Φ (rW m q w (m (16 :: q)))) : wX12_laysWords f Φ q ar x t m := by
  unfold wX12_laysWords
  have e13 : (13 + (ar : Int)).toNat = 13 + ar := by omega
  have e25 : (25 + (ar : Int)).toNat = 25 + ar := by omega
  simp only [e13, e25]
  rintro _ rfl
  refine ⟨⟨by omega, by omega⟩, ?_⟩
  rintro _ rfl
  refine ⟨⟨by omega, by omega⟩, ?_⟩
  rintro _ rfl
  rintro _ rfl
  rintro _ rfl
  have r1 : ∀ (m' : aj_M) (j : Nat) (z : Int), aj_u m' (17 :: q) j z (1 :: q) = m' (1 :: q) := fun m' j z => aj_u_off (by simp)
  simp only [r1, hm (13 + ar) (by omega), hm (25 + ar) (by omega)]
  have e : ∀ (m' : aj_M) (g : Nat → Int) (j : Nat) (z : Int), aj_u (rW m' q g (m' (16 :: q))) (17 :: q) j z = rW m' q (st g j z) (m' (16 :: q)) := by
    intro m' g j z
    simp [rW, zu_push]
  have e0 : m = rW m q (m (17 :: q)) (m (16 :: q)) := by
    funext p k
    simp only [rW, aj_ur]
    split
    · next h => subst h; rfl
    · split
      · next h => subst h; rfl
      · rfl
  have e1 := congrArg (fun m' => aj_u (aj_u (aj_u (aj_u (aj_u m' (17 :: q) (0 : Int).toNat ar) (17 :: q) (1 : Int).toNat (A (13 + ar))) (17 :: q) (2 : Int).toNat (A (25 + ar))) (17 :: q) (3 : Int).toNat x) (17 :: q) (4 : Int).toNat t) e0
  simp only [e] at e1
  rw [e1]
  refine hK _ (fun j hj => ?_)
  unfold zW
  simp only [st]
  have : j = 0 ∨ j = 1 ∨ j = 2 ∨ j = 3 ∨ j = 4 := by omega
  rcases this with rfl | rfl | rfl | rfl | rfl <;> rfl
theorem pX12_isKept {f : Nat} {Φ : Int → aj_M → Prop} {q : List Nat} {m : aj_M} {A : Nat → Int} {ar : Nat} {x : Int} (hA : wA A) (hm : ∀ j, j < 1105 → m (1 :: q) j = A j) (har : (ar : Int) < A 6) (hx : 0 ≤ x ∧ x < 12) (hf : 1000 ≤ f) (hK : ∀ w S : Nat → Int, (zKept A ar x (A 62) → Φ 1 (rW m q w S)) ∧ (¬ zKept A ar x (A 62) → Φ 0 (rW m q w S))) : wX12_isKept f Φ q ar x m := by
  have h12 := hA.2.2.1
  have ht := hA.2.2.2.2.2.1
  have hl := hA.2.2.2.2.2.2.2.2.1
  unfold wX12_isKept
  simp only [Int.reduceToNat, hm 62 (by omega)]
  refine pX12_laysWords hm (by omega) (fun w hw => ?_)
  have r1 : rW m q w (m (16 :: q)) (1 :: q) = m (1 :: q) := rW_off (by simp) (by simp)
  rw [r1, hm 7 (by omega)]
  have h7 : A 7 = 0 ∨ A 7 = 1 := by
    rcases hl with h | h
    · exact Or.inl h
    · exact Or.inr h.1
  refine ⟨⟨by omega, by omega⟩, fun c => (hK w _).1 (Or.inl c), fun c => ?_⟩
  have h71 : A 7 = 1 := by omega
  refine pX12_reckons (lw := 0) (ty := true) hA (by omega) hl h71 (fun j hj => by rw [r1]; exact hm j hj) (fun j hj => by rw [rW_17]; exact hw j hj) har hx ht hf (fun S hv => ?_)
  have e : aj_ur (rW m q w (m (16 :: q))) (16 :: q) S = rW m q w S := by
    funext p k
    simp only [rW, aj_ur]
    grind
  rw [e]
  have hv2 := hv.2
  refine ⟨⟨by omega, by omega⟩, fun c => (hK w S).2 (fun h => ?_), fun c => (hK w S).1 (Or.inr c)⟩
  rcases h with h | h
  · omega
  · exact c h
theorem pX12_weightOf {f : Nat} {Φ : Int → aj_M → Prop} {q : List Nat} {m : aj_M} {A : Nat → Int} {ar : Nat} {x t : Int} (hA : wA A) (hm : ∀ j, j < 1105 → m (1 :: q) j = A j) (har : (ar : Int) < A 6) (hx : 0 ≤ x ∧ x < 12) (ht : 0 ≤ t ∧ t ≤ 9) (hf : 1000 ≤ f) (hK : ∀ w S : Nat → Int, Φ (zWt A ar x t) (rW m q w S)) : wX12_weightOf f Φ q ar x t m := by
  have h12 := hA.2.2.1
  have hl := hA.2.2.2.2.2.2.2.2.2
  unfold wX12_weightOf
  simp only [Int.reduceToNat]
  refine pX12_laysWords hm (by omega) (fun w hw => ?_)
  have r1 : rW m q w (m (16 :: q)) (1 :: q) = m (1 :: q) := rW_off (by simp) (by simp)
  rw [r1, hm 8 (by omega)]
  have h8 : A 8 = 0 ∨ A 8 = 1 := by
    rcases hl with h | h
    · exact Or.inl h
    · exact Or.inr h.1
  refine ⟨⟨by omega, by omega⟩, fun c => ?_, fun c => ?_⟩
  · unfold hX12_weightOf_27
    have := hK w (m (16 :: q))
    unfold zWt at this
    rw [if_neg c] at this
    exact ⟨by decide, fun _ => ⟨by decide, fun _ => this, fun c => absurd (by decide) c⟩, fun c => absurd (by decide) c⟩
  · refine pX12_reckons (lw := 1) (ty := false) hA (by omega) hl c (fun j hj => by rw [r1]; exact hm j hj) (fun j hj => by rw [rW_17]; exact hw j hj) har hx ht hf (fun S hv => ?_)
    have e : aj_ur (rW m q w (m (16 :: q))) (16 :: q) S = rW m q w S := by
      funext p k
      simp only [rW, aj_ur]
      grind
    rw [e]
    have hv2 := hv.2
    have := hK w S
    unfold zWt at this
    rw [if_pos c] at this
    unfold hX12_weightOf_27
    generalize zLaw A 1 ar x t = v at this hv2
    refine ⟨⟨by omega, by omega⟩, fun c1 => ⟨⟨by omega, by omega⟩, fun c2 => ?_, fun c2 => ?_⟩, fun c1 => ?_⟩
    · rwa [show max 1 (min 99 v) = v by omega] at this
    · rwa [show max 1 (min 99 v) = 99 by omega] at this
    · rwa [show max 1 (min 99 v) = 1 by omega] at this
theorem pX6_hasArc {f : Nat} {Φ : Int → aj_M → Prop} {p : List Nat} {m : aj_M} {n v : Int} (hv : rI v) (hn : m p 4 = n) (hn2 : 0 ≤ n ∧ n ≤ 12) (h1 : 0 ≤ v → v < n → Φ 1 m) (h0 : ¬ (0 ≤ v ∧ v < n) → Φ 0 m) : wX6_hasArc f Φ p v m := by
  unfold wX6_hasArc
  rw [hn]
  exact ⟨hv, fun c => h0 (by omega), fun c => ⟨hv, ⟨by omega, by omega⟩, fun c2 => h0 (by omega), fun c2 => h1 (by omega) (by omega)⟩⟩
theorem pX6_isHalf {f : Nat} {Φ : Int → aj_M → Prop} {p : List Nat} {m : aj_M} {A : Nat → Int} {v : Int} (hA : wA A) (hP : wP m p A) (hv : rI v) (h1 : 0 ≤ v → v < A 6 → A (37 + v.toNat) = 1 → Φ 1 m) (h0 : ¬ (0 ≤ v ∧ v < A 6 ∧ A (37 + v.toNat) = 1) → Φ 0 m) : wX6_isHalf f Φ p v m := by
  have h12 := hA.2.2.1
  obtain ⟨H, e1, e2, e3⟩ := hP.2.2.2.2.1
  unfold wX6_isHalf
  refine pX6_hasArc hv hP.2.2.1 h12 (fun c1 c2 => zb1 ?_) (fun c => zb0 (h0 (fun h => c ⟨h.1, h.2.1⟩)))
  have e4 := e3 v.toNat (by omega)
  rw [e1, show v = ((v.toNat : Nat) : Int) by omega, zi_bit (by omega) (by omega), e4]
  have e5 : ((v.toNat : Nat) : Int).toNat = v.toNat := by omega
  by_cases hh : A (37 + v.toNat) = 1
  · simp only [hh, decide_true, if_true]
    exact ⟨by decide, fun c => absurd trivial c, fun _ => h1 c1 c2 hh⟩
  · simp only [hh, decide_false]
    refine ⟨by decide, fun _ => h0 (fun h => hh h.2.2), fun c => ?_⟩
    exact absurd c (by decide)
theorem pX6_weightOf {f : Nat} {Φ : Int → aj_M → Prop} {p : List Nat} {m : aj_M} {A : Nat → Int} {ar : Nat} {x t : Int} (hA : wA A) (hP : wP m p A) (har : (ar : Int) < A 6) (hx : 0 ≤ x ∧ x < 12) (ht : 0 ≤ t ∧ t ≤ 9) (hf : 1000 ≤ f) (hK : ∀ S : Nat → Int, Φ (zWt A ar x t) (aj_ur m (6 :: 1 :: p) S)) : wX6_weightOf f Φ p ar x t m := by
  have h12 := hA.2.2.1
  have hl := hA.2.2.2.2.2.2.2.2.2
  obtain ⟨l1, l2, l3, l4, l5, l6, l7, l8, l9, l10⟩ := hP.2.2.2.2.2.2
  unfold wX6_weightOf
  refine pX6_hasArc ⟨by omega, by omega⟩ hP.2.2.1 h12 (fun c1 c2 => zb1 ?_) (fun c => absurd ⟨by omega, har⟩ c)
  have h8 : A 8 = 0 ∨ A 8 = 1 := by
    rcases hl with h | h
    · exact Or.inl h
    · exact Or.inr h.1
  rcases h8 with h8 | h8
  · have := l9 h8
    refine ⟨⟨by omega, by omega⟩, ⟨by omega, by omega⟩, fun c => by omega, fun c => ?_⟩
    have := hK (m (6 :: 1 :: p))
    unfold zWt at this
    rwa [if_neg (by omega), zm_ur_self] at this
  · have e := l10 h8
    rcases id hl with h0 | ⟨_, fr, many, f1, f2, f3, f4, f5, f6⟩
    · have h0' : A 8 = 0 := h0
      omega
    have f1' : A 10 = fr := f1
    have f2' : A 12 = many := f2
    refine ⟨⟨by omega, by omega⟩, ⟨by omega, by omega⟩, fun c => ?_, fun c => by omega⟩
    refine pX4_value (lw := 1) (ty := false) hA (by omega) hl h8 e.1 e.2 l2 (hP.2.2.2.2.2.1 ar har) har hx ht hf (fun S hv => ?_)
    have hv2 := hv.2
    have := hK S
    unfold zWt at this
    rw [if_pos h8] at this
    exact ⟨⟨by omega, by omega⟩, ⟨by omega, by omega⟩, this⟩
