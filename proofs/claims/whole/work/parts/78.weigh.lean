/-! WEIGH: the most alike, the class -/
def zMw (A : Nat → Int) (b a : Nat) (x : Int) (t : Nat) : Int := if b.testBit t then zWt A a x t else 0
def zMc (w : Nat → Int) (x : Int) : Nat → Nat
  | 0 => 0
  | u + 1 => zMc w x u + (if w u = x then 1 else 0)
theorem zMc_b {w : Nat → Int} {x : Int} : ∀ u, zMc w x u ≤ u
  | 0 => Nat.le_refl _
  | u + 1 => by
    have := zMc_b (w := w) (x := x) u
    unfold zMc
    split <;> omega
theorem zMc_m {w : Nat → Int} {x : Int} {u : Nat} : ∀ v, u ≤ v → zMc w x u ≤ zMc w x v
  | 0, h => by
    have : u = 0 := by omega
    rw [this]
    exact Nat.le_refl _
  | v + 1, h => by
    by_cases c : u ≤ v
    · have := zMc_m (w := w) (x := x) v c
      rw [zMc]
      omega
    · have : u = v + 1 := by omega
      rw [this]
      exact Nat.le_refl _
theorem zMc_l {w : Nat → Int} {x : Int} : ∀ N, 0 < zMc w x N → ∃ t, t < N ∧ w t = x ∧ zMc w x (t + 1) = zMc w x N
  | 0, h => absurd h (Nat.lt_irrefl 0)
  | N + 1, h => by
    by_cases c : w N = x
    · exact ⟨N, by omega, c, rfl⟩
    · have e : zMc w x (N + 1) = zMc w x N := by rw [zMc, if_neg c]; rfl
      rw [e] at h ⊢
      obtain ⟨t, t1, t2, t3⟩ := zMc_l N h
      exact ⟨t, by omega, t2, t3⟩
def zMp (w : Nat → Int) : Nat → Nat
  | 0 => 0
  | t + 1 => if w t = 0 then zMp w t else max (zMp w t) (zMc w (w t) (t + 1))
/-- as the reference counts -/
def zMq (w : Nat → Int) : Nat → Nat
  | 0 => 0
  | t + 1 => if w t = 0 then zMq w t else max (zMq w t) (zMc w (w t) 10)
theorem zMp_ge {w : Nat → Int} {t : Nat} : ∀ n, t < n → w t ≠ 0 → zMc w (w t) (t + 1) ≤ zMp w n
  | 0, h, _ => absurd h (Nat.not_lt_zero _)
  | n + 1, h, c => by
    unfold zMp
    by_cases e : t = n
    · subst e
      rw [if_neg c]
      omega
    · have := zMp_ge (w := w) (t := t) n (by omega) c
      split <;> omega
theorem zMp_le {w : Nat → Int} : ∀ n, n ≤ 10 → zMp w n ≤ zMq w n
  | 0, _ => Nat.le_refl _
  | n + 1, h => by
    have h1 := zMp_le (w := w) n (by omega)
    have h2 := zMc_m (w := w) (x := w n) (u := n + 1) 10 (by omega)
    unfold zMp zMq
    split
    · exact h1
    · omega
theorem zMq_le {w : Nat → Int} : ∀ n, n ≤ 10 → zMq w n ≤ zMp w 10
  | 0, _ => Nat.zero_le _
  | n + 1, h => by
    have h1 := zMq_le (w := w) n (by omega)
    unfold zMq
    split
    · exact h1
    · rename_i c
      have hp : 0 < zMc w (w n) 10 := by
        have := zMc_m (w := w) (x := w n) (u := n + 1) 10 (by omega)
        rw [zMc, if_pos rfl] at this
        omega
      obtain ⟨t, t1, t2, t3⟩ := zMc_l 10 hp
      have := zMp_ge (w := w) (t := t) 10 t1 (by rw [t2]; exact c)
      rw [t2] at this
      omega
theorem zMpq {w : Nat → Int} : zMp w 10 = zMq w 10 := Nat.le_antisymm (zMp_le 10 (Nat.le_refl _)) (zMq_le 10 (Nat.le_refl _))
theorem zMp_b {w : Nat → Int} : ∀ n, zMp w n ≤ n
  | 0 => Nat.le_refl _
  | n + 1 => by
    have h1 := zMp_b (w := w) n
    have h2 := zMc_b (w := w) (x := w n) (n + 1)
    unfold zMp
    split <;> omega
def zMl : List (List Nat) := [[6, 1, 1, 0], [11, 0]]
theorem hX11_ma51 {f : Nat} {Φ : Int → aj_M → Prop} {K : List Nat → Int → Int → Int → Int → Int → aj_M → Prop} {m : aj_M} {w : Nat → Int} {b v2 v3 : Int} {t : Nat} (ht : t < 10) (hw : ∀ u, u ≤ t → m [11, 0] u = w u) (hwb : ∀ u, 0 ≤ w u ∧ w u ≤ 99) (h : K [0] b v2 v3 ((zMp w (t + 1) : Nat) : Int) ((t : Int) + 1) m) : ∀ (k u : Nat), u ≤ t + 1 → t + 1 - u < k → hX11_mostAlike_51 f Φ K k [0] b v2 v3 ((zMp w t : Nat) : Int) t ((zMc w (w t) u : Nat) : Int) (u : Int) m := by
  have b1 := zMp_b (w := w) t
  have wt := hwb t
  intro k
  induction k with
  | zero => intro u h1 h2; omega
  | succ k ih =>
    intro u h1 h2
    have b2 := zMc_b (w := w) (x := w t) u
    have wu := hwb u
    unfold hX11_mostAlike_51
    rw [Int.toNat_natCast, Int.toNat_natCast, hw t (Nat.le_refl _)]
    refine ⟨⟨by omega, by omega⟩, ⟨by omega, by omega⟩, fun c => ⟨⟨by omega, by omega⟩, ⟨by omega, by omega⟩, fun d => ⟨⟨by omega, by omega⟩, ⟨by omega, by omega⟩, ?_⟩, fun d => ?_⟩, fun c => ⟨⟨by omega, by omega⟩, ⟨by omega, by omega⟩, ?_⟩⟩
    · have eu : u = t + 1 := by omega
      subst eu
      rw [zMp, if_neg d] at h
      have e : max ((zMp w t : Nat) : Int) ((zMc w (w t) (t + 1) : Nat) : Int) = ((max (zMp w t) (zMc w (w t) (t + 1)) : Nat) : Int) := by omega
      rw [e]
      exact h
    · rw [zMp, if_pos d] at h
      exact h
    · rw [hw u (by omega)]
      refine ⟨⟨by omega, by omega⟩, ⟨by omega, by omega⟩, fun d => ?_, fun d => ?_⟩
      · have e := ih (u + 1) (by omega) (by omega)
        rw [zMc, if_neg d] at e
        simpa using e
      · have e := ih (u + 1) (by omega) (by omega)
        rw [zMc, if_pos d] at e
        simpa using e
theorem zMl_P {m m' : aj_M} {A : Nat → Int} (z : zo zMl m m') (hP : wP m [1, 0] A) : wP m' [1, 0] A := wP_zo hP (fun r hr => z r (by
  have q : ∀ r ∈ zcpl [1, 0], r ∉ zMl := by decide
  exact q r hr))
theorem hX11_ma6 {f : Nat} {Φ : Int → aj_M → Prop} {m0 : aj_M} {A : Nat → Int} {b a : Nat} {x : Int} (hf : 1000 ≤ f) (hA : wA A) (hP : wP m0 [1, 0] A) (hb : b < 1024) (ha : (a : Int) < A 6) (hx : 0 ≤ x ∧ x < 12) (h : ∀ m', zo zMl m0 m' → Φ ((zMp (zMw A b a x) 10 : Nat) : Int) m') : ∀ (k t : Nat) (m : aj_M), t ≤ 10 → 10 - t < k → zo zMl m0 m → (∀ u, u < t → m [11, 0] u = zMw A b a x u) → hX11_mostAlike_6 f Φ k [0] b a x ((zMp (zMw A b a x) t : Nat) : Int) (t : Int) m := by
  have hwb : ∀ u, 0 ≤ zMw A b a x u ∧ zMw A b a x u ≤ 99 := fun u => by
    unfold zMw
    have := zWt_b (A := A) (ar := a) (x := x) (t := (u : Int))
    split <;> omega
  intro k
  induction k with
  | zero => intro t m h1 h2; omega
  | succ k ih =>
    intro t m h1 h2 z hw
    refine ⟨⟨by omega, by omega⟩, fun c => ?_, fun c => ?_⟩
    · have et : t = 10 := by omega
      subst et
      exact h m z
    · have step : ∀ m1 : aj_M, zo zMl m0 m1 → (∀ u, u < t → m1 [11, 0] u = zMw A b a x u) → hX11_mostAlike_51 f Φ (fun q0 v1 v2 v3 v4 v5 m => hX11_mostAlike_6 f Φ k q0 v1 v2 v3 v4 v5 m) f [0] b a x ((zMp (zMw A b a x) t : Nat) : Int) t 0 0 (aj_u m1 [11, 0] t (zMw A b a x t)) := by
        intro m1 z1 w1
        have z' : zo zMl m0 (aj_u m1 [11, 0] t (zMw A b a x t)) := fun p hp => by
          rw [← z1 p hp]
          simp only [zMl, List.mem_cons, List.not_mem_nil, or_false, not_or] at hp
          exact zu_off hp.2
        have w' : ∀ u, u ≤ t → aj_u m1 [11, 0] t (zMw A b a x t) [11, 0] u = zMw A b a x u := fun u hu => by
          rw [zu_tup]
          by_cases e : u = t
          · rw [e, tup_s]
          · rw [tup_o e]
            exact w1 u (by omega)
        exact hX11_ma51 (by omega) w' hwb (ih (t + 1) _ (by omega) (by omega) z' (fun u hu => w' u (by omega))) f 0 (by omega) (by omega)
      rw [zi_bit (n := b) (i := t) (by omega) (by omega)]
      cases e : b.testBit t with
      | true =>
        rw [if_pos rfl]
        refine ⟨by decide, fun d => absurd rfl d, fun _ => ?_⟩
        refine pX6_weightOf hA (zMl_P z hP) ha hx ⟨by omega, by omega⟩ hf (fun S => ⟨⟨by omega, by omega⟩, ?_⟩)
        rintro m3 rfl
        rw [Int.toNat_natCast]
        have ew : zWt A a x t = zMw A b a x t := by rw [zMw, e, if_pos rfl]
        rw [ew]
        refine step _ (fun p hp => ?_) (fun u hu => ?_)
        · rw [← z p hp]
          simp only [zMl, List.mem_cons, List.not_mem_nil, or_false, not_or] at hp
          exact zm_uro hp.1
        · rw [zm_uro (by decide)]
          exact hw u hu
      | false =>
        rw [if_neg (by decide)]
        refine ⟨by decide, fun _ => ⟨⟨by omega, by omega⟩, ?_⟩, fun d => absurd d (by decide)⟩
        rintro m1 rfl
        rw [Int.toNat_natCast]
        have ew : zMw A b a x t = 0 := by rw [zMw, e, if_neg (by decide)]
        have := step m z hw
        rw [ew] at this
        exact this
theorem pX11_mostAlike {f : Nat} {Φ : Int → aj_M → Prop} {m : aj_M} {A : Nat → Int} {b a : Nat} {x : Int} (hf : 1000 ≤ f) (hA : wA A) (hP : wP m [1, 0] A) (hb : b < 1024) (ha : (a : Int) < A 6) (hx : 0 ≤ x ∧ x < 12) (h : ∀ m', zo zMl m m' → Φ ((zMp (zMw A b a x) 10 : Nat) : Int) m') : wX11_mostAlike f Φ [0] b a x m :=
  hX11_ma6 hf hA hP hb ha hx h f 0 m (by omega) (by omega) (fun p _ => rfl) (fun u hu => by omega)
