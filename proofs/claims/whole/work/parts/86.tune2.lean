/-! TUNE, the class -/
def zTb (s : Int × Int) (w : Int) : Bool := decide (s.1 = -1 ∨ (s.2 ≠ -1 ∧ (w = -1 ∨ s.2 < w)))
def zTg (A : Nat → Int) (a g : Nat) (w : Int) : Prop := zGp (zNn (tup A (49 + a) g)) (zLk (tup A (49 + a) g)).length (zFa (tup A (49 + a) g)) (zFb (tup A (49 + a) g)) w
def zTu (A : Nat → Int) (a : Nat) : Nat → Int × Int → Prop
  | 0, s => s = (-1, 0)
  | g + 1, s => ∃ s0, zTu A a g s0 ∧ (zWht A a g ≠ 0 → s = s0) ∧ (zWht A a g = 0 → ∃ w, zTg A a g w ∧ s = if zTb s0 w then ((g : Int), w) else s0)
theorem zTu_u {A : Nat → Int} {a : Nat} : ∀ (g : Nat) (s s' : Int × Int), zTu A a g s → zTu A a g s' → s = s'
  | 0, s, s', h, h' => h.trans h'.symm
  | g + 1, s, s', ⟨s0, h1, h2, h3⟩, ⟨t0, k1, k2, k3⟩ => by
    have e := zTu_u g s0 t0 h1 k1
    subst e
    by_cases c : zWht A a g = 0
    · obtain ⟨w, w1, w2⟩ := h3 c
      obtain ⟨x, x1, x2⟩ := k3 c
      have := zGp_u w1 x1
      subst this
      rw [w2, x2]
    · rw [h2 c, k2 c]
def zTok (s : Int × Int) : Prop := s.1 = -1 ∨ (0 ≤ s.1 ∧ s.1 < 12 ∧ (s.2 = -1 ∨ (1 ≤ s.2 ∧ s.2 ≤ 120)))
def zTl (lo inf : Int) (s : Int × Int) : Int := if s.1 = -1 then lo else if s.2 = -1 then inf else s.2
theorem zGir_v {N L : Nat} {a b : Nat → Nat} {inf z : Int} (h : zGir N L a b inf z) (hN : N ≤ 60) (hi : 1000 < inf) : ∃ w, zGp N L a b w ∧ ((w = -1 ∧ z = inf) ∨ (z = w ∧ 1 ≤ w ∧ w ≤ 120)) := by
  rcases h with ⟨h1, h2⟩ | ⟨r, k, h1, h2, h3, h4⟩
  · exact ⟨-1, Or.inl ⟨rfl, h2⟩, Or.inl ⟨rfl, h1⟩⟩
  · have := h3.1
    exact ⟨k, Or.inr ⟨r, k, rfl, h3, h4⟩, Or.inr ⟨h1, by omega, by omega⟩⟩
theorem zTb_z {s : Int × Int} {w z lo inf : Int} (hs : zTok s) (hlo : lo ≤ 0) (hi : 1000 < inf) (hw : (w = -1 ∧ z = inf) ∨ (z = w ∧ 1 ≤ w ∧ w ≤ 120)) : zTb s w = true ↔ zTl lo inf s < z := by
  unfold zTb zTl
  rw [decide_eq_true_iff]
  unfold zTok at hs
  by_cases c1 : s.1 = -1
  · rw [if_pos c1]
    omega
  · rw [if_neg c1]
    by_cases c2 : s.2 = -1
    · rw [if_pos c2]
      omega
    · rw [if_neg c2]
      omega
theorem hX11_tun {f : Nat} {Φ : Int → aj_M → Prop} {m : aj_M} {A : Nat → Int} {a : Nat} (hf : 1000 ≤ f) (hA : wA A) (ha : (a : Int) < A 6) (hS : wS m [2, 0] A) (hK : ∀ m' s, zGs m m' A → zTu A a (A 4).toNat s → zTok s → Φ s.1 m') : ∀ (k g : Nat) (m1 : aj_M) (s : Int × Int), g ≤ (A 4).toNat → (A 4).toNat - g < k → zGs m m1 A → zTu A a g s → zTok s → hX11_tune_21 f Φ k [0] a s.1 (zTl 0 1000000 s) (g : Int) m1 := by
  have h6 := hA.2.2.1
  have h12 := gOK_n hA.1
  intro k
  induction k with
  | zero => intro g m1 s h1 h2; omega
  | succ k ih =>
    intro g m1 s h1 h2 gs hu hs
    have hP := gs.2.2.2.2.1
    unfold hX11_tune_21
    rw [hP.1.1]
    refine ⟨⟨by omega, by omega⟩, rI_gOK hA.1, fun c => ?_, fun c => ?_⟩
    · have eg : g = (A 4).toNat := by omega
      subst eg
      exact hK m1 s gs hu hs
    · refine pX6_whyNotBy hA hP ⟨by omega, by omega⟩ ⟨by omega, by omega⟩ ⟨zWht_r, fun d => ?_, fun d => ?_⟩
      · exact ih (g + 1) m1 s (by omega) (by omega) gs ⟨s, hu, fun _ => rfl, fun e => absurd e d⟩ hs
      · have hS1 : wS m1 [2, 0] A := wS_off hS (gs.1 _ (by decide)) (gs.1 _ (by decide))
        have hT := zA_turn hA d
        rw [Int.toNat_natCast] at hT
        have hN := (zNn_b hT.1).2.2
        refine pX11_ringBy hf hA d gs hS1 (fun m2 z gs2 gi => ?_)
        obtain ⟨w, w1, w2⟩ := zGir_v gi hN (by decide)
        have hb := zTb_z (s := s) (lo := 0) (inf := 1000000) hs (by decide) (by decide) w2
        have hl : 0 ≤ zTl 0 1000000 s ∧ zTl 0 1000000 s ≤ 1000000 := by
          unfold zTok at hs
          unfold zTl
          split
          · decide
          · split
            · decide
            · omega
        refine ⟨⟨by omega, by omega⟩, ⟨by omega, by omega⟩, fun e => ?_, fun e => ?_⟩
        · have nb : ¬ (zTb s w = true) := fun x => by
            have := hb.mp x
            omega
          exact ih (g + 1) m2 s (by omega) (by omega) gs2 ⟨s, hu, fun x => absurd d x, fun _ => ⟨w, w1, by rw [if_neg nb]⟩⟩ hs
        · have yb : zTb s w = true := hb.mpr (by omega)
          have ez : z = zTl 0 1000000 ((g : Int), w) := by
            unfold zTl
            rw [if_neg (by show ¬ (g : Int) = -1; omega)]
            show z = if w = -1 then 1000000 else w
            split <;> omega
          rw [ez]
          refine ih (g + 1) m2 ((g : Int), w) (by omega) (by omega) gs2 ⟨s, hu, fun x => absurd d x, fun _ => ⟨w, w1, by rw [if_pos yb]⟩⟩ (Or.inr ⟨by show 0 ≤ (g : Int); omega, by show (g : Int) < 12; omega, ?_⟩)
          show w = -1 ∨ (1 ≤ w ∧ w ≤ 120)
          omega
