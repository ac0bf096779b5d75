/-! WEIGH: the most alike, the reference -/
def rMl : List (List Nat) := [[17, 1], [16, 1], [41, 1]]
theorem zMw_eq {A : Nat → Int} {b a : Nat} {x : Int} {t u : Nat} (ht : b.testBit t = true) : (b.testBit u = true ∧ zWt A a x t = zWt A a x u) ↔ zMw A b a x u = zMw A b a x t := by
  have w1 := zWt_b (A := A) (ar := a) (x := x) (t := (t : Int))
  unfold zMw
  rw [ht, if_pos rfl]
  cases e : b.testBit u with
  | true =>
    rw [if_pos rfl]
    exact ⟨fun h => h.2.symm, fun h => ⟨rfl, h.symm⟩⟩
  | false =>
    rw [if_neg (by decide)]
    exact ⟨fun h => absurd h.1 (by decide), fun h => by omega⟩
theorem hX12_ma50 {f : Nat} {Φ : Int → aj_M → Prop} {K : List Nat → Int → Int → Int → aj_M → Prop} {m : aj_M} {A : Nat → Int} {b a t : Nat} {x : Int} {g : Nat} (hb : b < 1024) (ht : t < 10) (hg : g ≤ 10) (hw : ∀ u : Nat, u < 10 → m [41, 1] u = zWt A a x u) (h : K [1] b ((if b.testBit t then max g (zMc (zMw A b a x) (zMw A b a x t) 10) else g : Nat) : Int) ((t : Int) + 1) m) : ∀ (k u : Nat), u ≤ 10 → 10 - u < k → hX12_mostAlike_50 f Φ K k [1] b g t ((if b.testBit t then zMc (zMw A b a x) (zMw A b a x t) u else 0 : Nat) : Int) (u : Int) m := by
  intro k
  induction k with
  | zero => intro u h1 h2; omega
  | succ k ih =>
    intro u h1 h2
    have cb := zMc_b (w := zMw A b a x) (x := zMw A b a x t) u
    have hvb : (if b.testBit t then zMc (zMw A b a x) (zMw A b a x t) u else 0) ≤ 10 := by split <;> omega
    refine ⟨⟨by omega, by omega⟩, fun c => ⟨⟨by omega, by omega⟩, ⟨by omega, by omega⟩, ?_⟩, fun c => ⟨⟨by omega, by omega⟩, ?_⟩⟩
    · have eu : u = 10 := by omega
      subst eu
      cases e : b.testBit t with
      | true =>
        rw [e, if_pos rfl] at h
        rw [if_pos rfl]
        refine ⟨fun d => ?_, fun d => ?_⟩
        · rw [Nat.max_eq_left (by omega)] at h
          exact h
        · rw [Nat.max_eq_right (by omega)] at h
          exact h
      | false =>
        rw [e, if_neg (by decide)] at h
        rw [if_neg (by decide)]
        exact ⟨fun _ => h, fun d => by omega⟩
    · have hu : u < 10 := by omega
      have ih' := ih (u + 1) (by omega) (by omega)
      refine pX12_isIn (C := b) (ar := t) (by omega) (by omega) (fun e => zb1 ⟨⟨by omega, by omega⟩, ?_⟩) (fun e => zb0 ?_)
      · rw [e, if_pos rfl] at ih' ⊢
        refine pX12_isIn (C := b) (ar := u) (by omega) (by omega) (fun e2 => zb1 ⟨⟨by omega, by omega⟩, ⟨by omega, by omega⟩, ?_⟩) (fun e2 => zb0 ?_)
        · rw [Int.toNat_natCast, Int.toNat_natCast, hw t ht, hw u hu]
          have w1 := zWt_b (A := A) (ar := a) (x := x) (t := (t : Int))
          have w2 := zWt_b (A := A) (ar := a) (x := x) (t := (u : Int))
          refine ⟨⟨by omega, by omega⟩, ⟨by omega, by omega⟩, fun d => ?_, fun d => ?_⟩
          · rw [zMc, if_neg (fun x => d ((zMw_eq e).mpr x).2)] at ih'
            simpa using ih'
          · rw [zMc, if_pos ((zMw_eq e).mp ⟨e2, d⟩)] at ih'
            simpa using ih'
        · rw [zMc, if_neg (fun x => by
            have := ((zMw_eq e).mpr x).1
            rw [e2] at this
            exact absurd this (by decide))] at ih'
          simpa using ih'
      · rw [e, if_neg (by decide)] at ih' ⊢
        simpa using ih'
theorem zMq_b {w : Nat → Int} : ∀ n, zMq w n ≤ 10
  | 0 => by
    show (0 : Nat) ≤ 10
    decide
  | n + 1 => by
    have h1 := zMq_b (w := w) n
    have h2 := zMc_b (w := w) (x := w n) 10
    unfold zMq
    split <;> omega
theorem zMw_0 {A : Nat → Int} {b a t : Nat} {x : Int} : zMw A b a x t = 0 ↔ b.testBit t = false := by
  have w1 := zWt_b (A := A) (ar := a) (x := x) (t := (t : Int))
  unfold zMw
  cases e : b.testBit t with
  | true =>
    rw [if_pos rfl]
    exact ⟨fun h => by omega, fun h => absurd h (by decide)⟩
  | false =>
    rw [if_neg (by decide)]
    exact ⟨fun _ => rfl, fun _ => rfl⟩
theorem hX12_ma37 {f : Nat} {Φ : Int → aj_M → Prop} {m : aj_M} {A : Nat → Int} {b a : Nat} {x : Int} (hf : 50 ≤ f) (hb : b < 1024) (hw : ∀ u : Nat, u < 10 → m [41, 1] u = zWt A a x u) (h : Φ ((zMq (zMw A b a x) 10 : Nat) : Int) m) : ∀ (k t : Nat), t ≤ 10 → 10 - t < k → hX12_mostAlike_37 f Φ k [1] b ((zMq (zMw A b a x) t : Nat) : Int) (t : Int) m := by
  intro k
  induction k with
  | zero => intro t h1 h2; omega
  | succ k ih =>
    intro t h1 h2
    refine ⟨⟨by omega, by omega⟩, fun c => ?_, fun c => ?_⟩
    · have et : t = 10 := by omega
      subst et
      exact h
    · have key := hX12_ma50 (f := f) (Φ := Φ) (K := fun q0 v1 v4 v5 m => hX12_mostAlike_37 f Φ k q0 v1 v4 v5 m) (m := m) (A := A) (b := b) (a := a) (t := t) (x := x) (g := zMq (zMw A b a x) t) hb (by omega) (zMq_b t) hw ?_ f 0 (by omega) (by omega)
      · have e0 : ((if b.testBit t then zMc (zMw A b a x) (zMw A b a x t) 0 else 0 : Nat) : Int) = 0 := by
          split <;> rfl
        rw [e0] at key
        exact key
      · have e : (if b.testBit t then max (zMq (zMw A b a x) t) (zMc (zMw A b a x) (zMw A b a x t) 10) else zMq (zMw A b a x) t) = zMq (zMw A b a x) (t + 1) := by
          rw [zMq]
          cases q : b.testBit t with
          | true =>
            rw [if_pos rfl, if_neg (fun z => by rw [zMw_0.mp z] at q; exact absurd q (by decide))]
          | false =>
            rw [if_neg (by decide), if_pos (zMw_0.mpr q)]
        rw [e]
        exact ih (t + 1) (by omega) (by omega)
theorem hX12_ma3 {f : Nat} {Φ : Int → aj_M → Prop} {m0 : aj_M} {A : Nat → Int} {b a : Nat} {x : Int} (hf : 1000 ≤ f) (hA : wA A) (hm : ∀ j, j < 1105 → m0 [1, 1] j = A j) (hb : b < 1024) (ha : (a : Int) < A 6) (hx : 0 ≤ x ∧ x < 12) (h : ∀ m', zo rMl m0 m' → Φ ((zMp (zMw A b a x) 10 : Nat) : Int) m') : ∀ (k t : Nat) (m : aj_M), t ≤ 10 → 10 - t < k → zo rMl m0 m → (∀ u : Nat, u < t → m [41, 1] u = zWt A a x u) → hX12_mostAlike_3 f Φ k [1] b a x (t : Int) m := by
  intro k
  induction k with
  | zero => intro t m h1 h2; omega
  | succ k ih =>
    intro t m h1 h2 z hw
    have t3 : m [1, 1] = m0 [1, 1] := z _ (by decide)
    refine ⟨⟨by omega, by omega⟩, fun c => ?_, fun c => ?_⟩
    · have et : t = 10 := by omega
      subst et
      have h := h m z
      rw [zMpq] at h
      exact hX12_ma37 (by omega) hb hw h f 0 (by omega) (by omega)
    · refine pX12_weightOf hA (fun j hj => by rw [t3]; exact hm j hj) ha hx ⟨by omega, by omega⟩ hf (fun w1 S => ⟨⟨by omega, by omega⟩, ?_⟩)
      rintro m2 rfl
      rw [Int.toNat_natCast]
      refine ih (t + 1) _ (by omega) (by omega) (fun p hp => ?_) (fun u hu => ?_)
      · rw [← z p hp]
        simp only [rMl, List.mem_cons, List.not_mem_nil, or_false, not_or] at hp
        rw [zu_off hp.2.2]
        exact rW_off hp.1 hp.2.1
      · rw [zu_tup]
        by_cases e : u = t
        · rw [e, tup_s]
        · rw [tup_o e, rW_off (by decide) (by decide)]
          exact hw u (by omega)
theorem pX12_mostAlike {f : Nat} {Φ : Int → aj_M → Prop} {m : aj_M} {A : Nat → Int} {b a : Nat} {x : Int} (hf : 1000 ≤ f) (hA : wA A) (hm : ∀ j, j < 1105 → m [1, 1] j = A j) (hb : b < 1024) (ha : (a : Int) < A 6) (hx : 0 ≤ x ∧ x < 12) (h : ∀ m', zo rMl m m' → Φ ((zMp (zMw A b a x) 10 : Nat) : Int) m') : wX12_mostAlike f Φ [1] b a x m :=
  hX12_ma3 hf hA hm hb ha hx h f 0 m (by omega) (by omega) (fun p _ => rfl) (fun u hu => by omega)
