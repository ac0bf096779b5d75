/-! TUNE, TUNED: the reference, and the class's tuned -/
theorem tup_tu {A : Nat → Int} {j : Nat} {x y : Int} : tup (tup A j x) j y = tup A j y := by
  funext u
  unfold tup
  split <;> rfl
theorem rSt_row {m m1 : aj_M} {B : Nat → Int} {j : Nat} {v : Int} (s : rSt m m1 B) : rSt m (aj_u m1 [1, 1] j v) (tup B j v) :=
  ⟨fun p hp => by rw [zu_off (fun e => hp (by rw [e]; decide))]; exact s.1 p hp, by rw [zu_off (by decide)]; exact s.2.1, by rw [zu_tup, s.2.2]⟩
theorem rSt_fld {m m1 : aj_M} {B : Nat → Int} {k : Nat} {v : Int} (s : rSt m m1 B) (h5 : k ≠ 5) (h13 : k ≠ 13) (h14 : k ≠ 14) : rSt m (aj_u m1 [1] k v) B := by
  refine ⟨fun p hp => by rw [zu_off (fun e => hp (by rw [e]; decide))]; exact s.1 p hp, ?_, by rw [zu_off (by decide)]; exact s.2.2⟩
  rw [zu_tup, tup_o (by omega), tup_o (by omega), tup_o (by omega)]
  exact s.2.1
theorem rSt_0 {m : aj_M} {A : Nat → Int} (hm : m [1, 1] = A) : rSt m m A := ⟨fun _ _ => rfl, ⟨rfl, rfl, rfl⟩, hm⟩
theorem pNetGirth {f : Nat} {Φ : Int → aj_M → Prop} {m m1 : aj_M} {B : Nat → Int} (hf : 4000 ≤ f) (hB : wA B) (s : rSt m m1 B) (hK : ∀ (m' : aj_M) (z : Int), rSt m m' B → (∀ j, j ≠ 22 → j ≠ 23 → m' [1] j = m1 [1] j) → zGir (zNn B) (zLk B).length (zFa B) (zFb B) 268435456 z → Φ z m') : wX12_laysNet f (fun m4 => wX12_girthNow f Φ [1] m4) [1] m1 := by
  refine pX12_laysNet hB (fun j _ => congrFun s.2.2 j) hf ?_
  intro m4 n1 _ _ n4 n5
  refine pX12_girthNow n1 (by omega) ?_
  intro z d br qu gi
  have e1 : rB m4 [1] d br qu [1] = m4 [1] := rB_off (by decide) (by decide) (by decide)
  refine hK _ z ⟨fun p hp => ?_, ?_, ?_⟩ (fun j h1 h2 => by rw [e1]; exact n5 j h1 h2) gi
  · rw [← s.1 p hp]
    simp only [rSl, List.mem_cons, List.not_mem_nil, or_false, not_or] at hp
    obtain ⟨p0, p1, p16, p17, p18, p19, p20, p21, p24, p25, p26, p27, p41⟩ := hp
    rw [rB_off p24 p25 p26, n4 p (by simp [p0, p16, p17, p18, p19, p20, p21])]
  · rw [e1, n5 5 (by decide) (by decide), n5 13 (by decide) (by decide), n5 14 (by decide) (by decide)]
    exact s.2.1
  · rw [rB_off (by decide) (by decide) (by decide), n4 _ (by decide)]
    exact s.2.2
theorem zWht_tup {A : Nat → Int} {a : Nat} {x : Int} {b g : Int} (ha : a < 12) (hb : b < 12) : zWht (tup A (49 + a) x) b g = zWht A b g := by
  unfold zWht
  rw [tup_o (by omega), tup_o (by omega), tup_o (by omega), tup_o (by omega), tup_o (by omega), tup_o (by omega)]
theorem hX12_tun {f : Nat} {Φ : Int → aj_M → Prop} {m : aj_M} {A : Nat → Int} {a : Nat} (hf : 4000 ≤ f) (hA : wA A) (ha : (a : Int) < A 6) (hK : ∀ m' s, rSt m m' A → m' [1] 33 = zTl (-1) 268435456 s → zTu A a (A 4).toNat s → zTok s → Φ s.1 m') : ∀ (k g : Nat) (m1 : aj_M) (s : Int × Int) (x : Int), g ≤ (A 4).toNat → (A 4).toNat - g < k → rSt m m1 (tup A (49 + a) x) → wA (tup A (49 + a) x) → m1 [1] 33 = zTl (-1) 268435456 s → zTu A a g s → zTok s → hX12_laysTune_20 f Φ k [1] a (A (49 + a)) s.1 (g : Int) m1 := by
  have h6 := hA.2.2.1
  have h12 := gOK_n hA.1
  intro k
  induction k with
  | zero => intro g m1 s x h1 h2; omega
  | succ k ih =>
    intro g m1 s x h1 h2 st hx h33 hu hs
    have e4 : m1 [1, 1] 4 = A 4 := by rw [st.2.2, tup_o (by omega)]
    have et : (49 + (a : Int)).toNat = 49 + a := by omega
    unfold hX12_laysTune_20
    simp only [Int.reduceToNat, e4, et]
    refine ⟨⟨by omega, by omega⟩, rI_gOK hA.1, fun c => ⟨⟨by omega, by omega⟩, ?_⟩, fun c => ⟨⟨by omega, by omega⟩, ⟨by omega, by omega⟩, ?_⟩⟩
    · rintro m2 rfl
      have st2 := rSt_row (j := 49 + a) (v := A (49 + a)) st
      rw [tup_tu, tup_id] at st2
      have eg : g = (A 4).toNat := by omega
      subst eg
      exact hK _ s st2 (by rw [zu_off (by decide)]; exact h33) hu hs
    · refine pX12_whyTurn (by omega) hx (fun j _ => congrFun st.2.2 j) ⟨by omega, by omega⟩ ⟨by omega, by omega⟩ ?_
      rw [zWht_tup (by omega) (by omega)]
      refine ⟨zWht_r, fun d => ⟨⟨by omega, by omega⟩, ?_⟩, fun d => ?_⟩
      · rintro m3 rfl
        have st2 := rSt_row (j := 49 + a) (v := (g : Int)) st
        rw [tup_tu] at st2
        have hT := (zA_turn hA d).1
        rw [Int.toNat_natCast] at hT
        have hN := (zNn_b hT).2.2
        refine pNetGirth hf hT st2 ?_
        intro m5 z st5 e5 gi
        have e33 : m5 [1] 33 = zTl (-1) 268435456 s := by rw [e5 33 (by decide) (by decide), zu_off (by decide)]; exact h33
        obtain ⟨w, w1, w2⟩ := zGir_v gi hN (by decide)
        have hb := zTb_z (s := s) (lo := -1) (inf := 268435456) hs (by decide) (by decide) w2
        have hl : -1 ≤ zTl (-1) 268435456 s ∧ zTl (-1) 268435456 s ≤ 268435456 := by
          unfold zTok at hs
          unfold zTl
          split
          · decide
          · split
            · decide
            · omega
        rw [e33]
        refine ⟨⟨by omega, by omega⟩, ⟨by omega, by omega⟩, fun e => ?_, fun e => ?_⟩
        · rintro m6 rfl
          have yb : zTb s w = true := hb.mpr e
          have ez : z = zTl (-1) 268435456 ((g : Int), w) := by
            unfold zTl
            rw [if_neg (by show ¬ (g : Int) = -1; omega)]
            show z = if w = -1 then 268435456 else w
            split <;> omega
          refine ih (g + 1) _ ((g : Int), w) g (by omega) (by omega) (rSt_fld st5 (by decide) (by decide) (by decide)) hT ?_ ⟨s, hu, fun x => absurd d x, fun _ => ⟨w, w1, by rw [if_pos yb]⟩⟩ (Or.inr ⟨by show 0 ≤ (g : Int); omega, by show (g : Int) < 12; omega, ?_⟩)
          · rw [zu_tup, tup_s]
            exact ez
          · show w = -1 ∨ (1 ≤ w ∧ w ≤ 120)
            omega
        · have nb : ¬ (zTb s w = true) := fun x => e (hb.mp x)
          exact ih (g + 1) m5 s g (by omega) (by omega) st5 hT e33 ⟨s, hu, fun x => absurd d x, fun _ => ⟨w, w1, by rw [if_neg nb]⟩⟩ hs
      · exact ih (g + 1) m1 s x (by omega) (by omega) st hx h33 ⟨s, hu, fun _ => rfl, fun e => absurd e d⟩ hs
theorem pX12_laysTune {f : Nat} {Φ : Int → aj_M → Prop} {m m1 : aj_M} {A : Nat → Int} {a : Nat} (hf : 4000 ≤ f) (hA : wA A) (ha : (a : Int) < A 6) (st : rSt m m1 A) (hK : ∀ m' s, rSt m m' A → m' [1] 33 = zTl (-1) 268435456 s → zTu A a (A 4).toNat s → zTok s → Φ s.1 m') : wX12_laysTune f Φ [1] a m1 := by
  have h6 := hA.2.2.1
  have h12 := gOK_n hA.1
  have et : (49 + (a : Int)).toNat = 49 + a := by omega
  unfold wX12_laysTune
  rw [et]
  refine ⟨⟨by omega, by omega⟩, ?_⟩
  rintro m2 rfl
  have e : m1 [1, 1] (49 + a) = A (49 + a) := by rw [st.2.2]
  rw [e]
  have st2 := rSt_fld (k := 33) (v := -1) st (by decide) (by decide) (by decide)
  refine hX12_tun hf hA ha hK f 0 _ (-1, 0) (A (49 + a)) (by omega) (by omega) (by rw [tup_id]; exact st2) (by rw [tup_id]; exact hA) ?_ rfl (Or.inl rfl)
  rw [zu_tup, tup_s]
  rfl
theorem pX12_tune {f : Nat} {Φ : Int → aj_M → Prop} {m : aj_M} {A : Nat → Int} {v : Int} (hf : 4000 ≤ f) (hA : wA A) (hm : m [1, 1] = A) (hv : rI v) (hbad : ¬ (0 ≤ v ∧ v < A 6) → Φ (-2) (rZ m)) (hK : ∀ a : Nat, v = a → (a : Int) < A 6 → ∀ m' s, rSt m m' A → zTu A a (A 4).toNat s → zTok s → Φ s.1 m') : wX12_tune f Φ [1] v m := by
  have h6 := hA.2.2.1
  have st : rSt m (aj_u m [1] 0 0) A := rSt_fld (rSt_0 hm) (by decide) (by decide) (by decide)
  rintro m1 rfl
  refine ⟨hv, pX12_isArc (rL_rI hv) (congrFun st.2.2 6) h6 (fun a1 a2 => zb1 ?_) (fun c => zb0 (hbad c))⟩
  obtain ⟨a, rfl⟩ : ∃ a : Nat, v = a := ⟨v.toNat, by omega⟩
  exact pX12_laysTune hf hA a2 st (fun m' s s1 _ s3 s4 => hK a rfl a2 m' s s1 s3 s4)
def zTd (s : Int × Int) : Int := if s.1 = -1 then -1 else s.2
theorem pX12_tuned {f : Nat} {Φ : Int → aj_M → Prop} {m : aj_M} {A : Nat → Int} {v : Int} (hf : 4000 ≤ f) (hA : wA A) (hm : m [1, 1] = A) (hv : rI v) (hbad : ¬ (0 ≤ v ∧ v < A 6) → Φ (-2) (rZ m)) (hK : ∀ a : Nat, v = a → (a : Int) < A 6 → ∀ m' s, rSt m m' A → zTu A a (A 4).toNat s → zTok s → Φ (zTd s) m') : wX12_tuned f Φ [1] v m := by
  have h6 := hA.2.2.1
  have st : rSt m (aj_u m [1] 0 0) A := rSt_fld (rSt_0 hm) (by decide) (by decide) (by decide)
  rintro m1 rfl
  refine ⟨hv, pX12_isArc (rL_rI hv) (congrFun st.2.2 6) h6 (fun a1 a2 => zc1 ?_) (fun c => zc0 (hbad c))⟩
  obtain ⟨a, rfl⟩ : ∃ a : Nat, v = a := ⟨v.toNat, by omega⟩
  refine pX12_laysTune hf hA a2 st (fun m' s s1 s2 s3 s4 => ?_)
  have hk := hK a rfl a2 m' s s1 s3 s4
  rw [s2]
  unfold zTd at hk
  unfold zTok at s4
  unfold zTl wX12_toldFar
  by_cases c1 : s.1 = -1
  · rw [if_pos c1] at hk ⊢
    exact ⟨by decide, fun _ => hk, fun e => absurd e (by decide)⟩
  · rw [if_neg c1] at hk ⊢
    by_cases c2 : s.2 = -1
    · rw [if_pos c2]
      rw [c2] at hk
      exact ⟨by decide, fun e => absurd rfl e, fun _ => hk⟩
    · rw [if_neg c2]
      exact ⟨⟨by omega, by omega⟩, fun _ => hk, fun e => by omega⟩
theorem zTu_w {A : Nat → Int} {a : Nat} : ∀ (g : Nat) (s : Int × Int), zTu A a g s → s.1 ≠ -1 → ∃ h : Nat, s.1 = h ∧ h < g ∧ zWht A a h = 0 ∧ zTg A a h s.2
  | 0, s, h, c => absurd (by rw [show s = (-1, 0) from h]) c
  | g + 1, s, ⟨s0, h1, h2, h3⟩, c => by
    by_cases d : zWht A a g = 0
    · obtain ⟨w, w1, w2⟩ := h3 d
      by_cases b : zTb s0 w = true
      · rw [if_pos b] at w2
        subst w2
        exact ⟨g, rfl, by omega, d, w1⟩
      · rw [if_neg b] at w2
        subst w2
        obtain ⟨h, e1, e2, e3, e4⟩ := zTu_w g _ h1 c
        exact ⟨h, e1, by omega, e3, e4⟩
    · have := h2 d
      subst this
      obtain ⟨h, e1, e2, e3, e4⟩ := zTu_w g _ h1 c
      exact ⟨h, e1, by omega, e3, e4⟩
theorem pX11_tuned {f : Nat} {Φ : Int → aj_M → Prop} {m : aj_M} {A : Nat → Int} {v : Int} (hf : 1000 ≤ f) (hA : wA A) (hP : wP m [1, 0] A) (hKp : wK m [1, 0] A) (hvi : ∀ k, rI (m [12, 9, 0] k)) (hS : wS m [2, 0] A) (hv : rI v) (hbad : ¬ (0 ≤ v ∧ v < A 6) → Φ (-2) m) (hK : ∀ a : Nat, v = a → (a : Int) < A 6 → ∀ m' s, zGs m m' A → zTu A a (A 4).toNat s → zTok s → Φ (zTd s) m') : wX11_tuned f Φ [0] v m := by
  refine pX11_tune hf hA hP hKp hvi hS hv (fun c => ⟨by decide, fun e => absurd e (by decide), fun _ => hbad c⟩) ?_
  intro a ea a2 m1 s gs hu hs
  have hk := hK a ea a2
  have hs' := hs
  unfold zTok at hs'
  refine ⟨⟨by omega, by omega⟩, fun c => ?_, fun c => ?_⟩
  · obtain ⟨h, e1, e2, e3, e4⟩ := zTu_w _ s hu (by omega)
    rw [e1, ea]
    have hT := (zA_turn hA e3).1
    rw [Int.toNat_natCast] at hT
    have hN := (zNn_b hT).2.2
    refine pX11_ringBy hf hA e3 gs (wS_off hS (gs.1 _ (by decide)) (gs.1 _ (by decide))) (fun m2 z gs2 gi => ?_)
    refine pOrNone gi hN (fun w hw _ _ => ?_)
    have := zGp_u hw e4
    subst this
    have := hk m2 s gs2 hu hs
    unfold zTd at this
    rwa [if_neg (by omega)] at this
  · have e : s.1 = -1 := by omega
    have := hk m1 s gs hu hs
    unfold zTd at this
    rw [if_pos e] at this
    rw [e]
    exact this
