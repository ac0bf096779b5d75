/-! TRAYS: sort S, size N (-1: missing) and numbers V of the four trays; the class's picture tC, the reference's tR -/
def tC (m : aj_M) (S N : Nat → Int) (V : Nat → Nat → Int) : Prop := ∀ t : Nat, t < 4 → m [t, 7, 0] 2 = N t ∧ (0 ≤ N t → m [t, 7, 0] 1 = S t ∧ ∀ i : Nat, (i : Int) < N t → m [0, t, 7, 0] i = V t i)
def tR (m : aj_M) (S N : Nat → Int) (V : Nat → Nat → Int) : Prop := ∀ t : Nat, t < 4 → (N t = -1 → m [44, 1] t = -1) ∧ (0 ≤ N t → m [44, 1] t = S t ∧ m [45, 1] t = N t ∧ ∀ i : Nat, (i : Int) < N t → m [46, 1] (40 * t + i) = V t i)
def tO1 (s n : Int) (V : Nat → Int) : Prop := n = -1 ∨ ((0 ≤ n ∧ n ≤ 40) ∧ (0 ≤ s ∧ s ≤ 3) ∧ ∀ i : Nat, (i : Int) < n → rL (V i))
def tO (S N : Nat → Int) (V : Nat → Nat → Int) : Prop := ∀ t : Nat, t < 4 → tO1 (S t) (N t) (V t)
theorem tO_b {S N : Nat → Int} {V : Nat → Nat → Int} (h : tO S N V) {t : Nat} (ht : t < 4) : -1 ≤ N t ∧ N t ≤ 40 := by
  rcases h t ht with e | e
  · omega
  · have := e.1
    omega
theorem tO_s {S N : Nat → Int} {V : Nat → Nat → Int} (h : tO S N V) {t : Nat} (ht : t < 4) (hn : 0 ≤ N t) : (0 ≤ S t ∧ S t ≤ 3) ∧ ∀ i : Nat, (i : Int) < N t → rL (V t i) := by
  rcases h t ht with e | e
  · omega
  · exact e.2
theorem tO_n {S N : Nat → Int} {V : Nat → Nat → Int} (h : tO S N V) {t : Nat} (ht : t < 4) (hn : ¬ 0 ≤ N t) : N t = -1 := by
  have := tO_b h ht
  omega
/-- what a tray's number is answered: 0 where it is there -/
def tA (N : Nat → Int) (v : Int) : Int := if 0 ≤ v ∧ v < 4 then (if 0 ≤ N v.toNat then 0 else -6) else -2
theorem pX11_isTray {f : Nat} {Φ : Int → aj_M → Prop} {v : Int} {m : aj_M} (hv : rI v) (h1 : 0 ≤ v → v < 4 → Φ 1 m) (h0 : ¬ (0 ≤ v ∧ v < 4) → Φ 0 m) : wX11_isTray f Φ v m :=
  ⟨hv, fun c => h0 (by omega), fun c => ⟨hv, fun d => h0 (by omega), fun d => h1 (by omega) (by omega)⟩⟩
theorem pX11_trayCode {f : Nat} {Φ : Int → aj_M → Prop} {v : Int} {m : aj_M} {S N : Nat → Int} {V : Nat → Nat → Int} (hO : tO S N V) (hC : tC m S N V) (hv : rI v) (h : Φ (tA N v) m) : wX11_trayCode f Φ [0] v m := by
  refine pX11_isTray hv (fun a b => zc1 ⟨⟨a, b⟩, ?_⟩) (fun c => zc0 ?_)
  · obtain ⟨t, rfl⟩ : ∃ t : Nat, v = t := ⟨v.toNat, by omega⟩
    have ht : t < 4 := by omega
    have hb := tO_b hO ht
    have hc := (hC t ht).1
    rw [tA, if_pos ⟨a, b⟩, Int.toNat_natCast] at h
    rw [Int.toNat_natCast]
    refine ⟨by rw [hc]; exact ⟨by omega, by omega⟩, fun d => zb0 ?_, fun d => zb1 ?_⟩
    · rw [hc] at d
      rw [if_pos d] at h
      exact h
    · rw [hc] at d
      rw [if_neg d] at h
      exact h
  · rw [tA, if_neg c] at h
    exact h
theorem pX12_noTray {f : Nat} {Φ : Int → aj_M → Prop} {v : Int} {m : aj_M} {S N : Nat → Int} {V : Nat → Nat → Int} (hO : tO S N V) (hR : tR m S N V) (hv : rI v) (h : Φ (tA N v) m) : wX12_noTray f Φ [1] v m := by
  refine ⟨hv, pW12_within (rL_rI hv) (by decide) (by decide) (fun a b => zc1 ⟨⟨a, by omega⟩, ?_⟩) (fun c => zc0 ?_)⟩
  · obtain ⟨t, rfl⟩ : ∃ t : Nat, v = t := ⟨v.toNat, by omega⟩
    have ht : t < 4 := by omega
    have hc := hR t ht
    rw [tA, if_pos ⟨a, by omega⟩, Int.toNat_natCast] at h
    rw [Int.toNat_natCast]
    by_cases d : 0 ≤ N t
    · have hs := (tO_s hO ht d).1
      have e := (hc.2 d).1
      rw [if_pos d] at h
      rw [e]
      exact ⟨⟨by omega, by omega⟩, fun _ => h, fun c => absurd c (by omega)⟩
    · have e := hc.1 (tO_n hO ht d)
      rw [if_neg d] at h
      rw [e]
      exact ⟨by decide, fun c => absurd rfl c, fun _ => h⟩
  · rw [tA, if_neg (by omega)] at h
    exact h
/-- numbers -/
def tN (t s n : Int) : Int := if (0 ≤ t ∧ t < 4) ∧ (0 ≤ s ∧ s ≤ 3) then (if 0 ≤ n ∧ n ≤ 40 then 0 else -3) else -2
def tup (S : Nat → Int) (t : Nat) (s : Int) : Nat → Int := fun u => if u = t then s else S u
def tuv (V : Nat → Nat → Int) (t : Nat) (R : Nat → Int) : Nat → Nat → Int := fun u => if u = t then R else V u
theorem tup_s {S : Nat → Int} {t : Nat} {s : Int} : tup S t s t = s := if_pos rfl
theorem tup_o {S : Nat → Int} {t u : Nat} {s : Int} (h : u ≠ t) : tup S t s u = S u := if_neg h
theorem tuv_s {V : Nat → Nat → Int} {t : Nat} {R : Nat → Int} : tuv V t R t = R := if_pos rfl
theorem tuv_o {V : Nat → Nat → Int} {t u : Nat} {R : Nat → Int} (h : u ≠ t) : tuv V t R u = V u := if_neg h
theorem tO_up {S N : Nat → Int} {V : Nat → Nat → Int} (hO : tO S N V) {t : Nat} {s n : Int} {R : Nat → Int} (hs : 0 ≤ s ∧ s ≤ 3) (hn : 0 ≤ n ∧ n ≤ 40) (hR : ∀ i : Nat, (i : Int) < n → rL (R i)) : tO (tup S t s) (tup N t n) (tuv V t R) := by
  intro u hu
  by_cases e : u = t
  · subst e
    rw [tup_s, tup_s, tuv_s]
    exact Or.inr ⟨hn, hs, hR⟩
  · rw [tup_o e, tup_o e, tuv_o e]
    exact hO u hu
/-- a tray of the class laid anew -/
theorem tC_up {m m' : aj_M} {S N : Nat → Int} {V : Nat → Nat → Int} (hC : tC m S N V) {t : Nat} {s n : Int} {R : Nat → Int} (hz : zo [[t, 7, 0], [0, t, 7, 0]] m m') (h1 : m' [t, 7, 0] 1 = s) (h2 : m' [t, 7, 0] 2 = n) (h3 : ∀ i : Nat, (i : Int) < n → m' [0, t, 7, 0] i = R i) : tC m' (tup S t s) (tup N t n) (tuv V t R) := by
  intro u hu
  by_cases e : u = t
  · subst e
    rw [tup_s, tup_s, tuv_s]
    exact ⟨h2, fun _ => ⟨h1, h3⟩⟩
  · rw [tup_o e, tup_o e, tuv_o e, hz [u, 7, 0] (by simp [e]), hz [0, u, 7, 0] (by simp [e])]
    exact hC u hu
theorem tR_up {m m' : aj_M} {S N : Nat → Int} {V : Nat → Nat → Int} (hR : tR m S N V) (hO : tO S N V) {t : Nat} (ht : t < 4) {s n : Int} {R : Nat → Int} (h0 : 0 ≤ n) (h1 : m' [44, 1] = tup (m [44, 1]) t s) (h2 : m' [45, 1] = tup (m [45, 1]) t n) (h3 : ∀ i : Nat, (i : Int) < n → m' [46, 1] (40 * t + i) = R i) (h4 : ∀ j : Nat, ¬ (40 * t ≤ j ∧ j < 40 * t + 40) → m' [46, 1] j = m [46, 1] j) : tR m' (tup S t s) (tup N t n) (tuv V t R) := by
  intro u hu
  by_cases e : u = t
  · subst e
    rw [tup_s, tup_s, tuv_s, h1, h2, tup_s, tup_s]
    exact ⟨fun c => by omega, fun _ => ⟨rfl, rfl, h3⟩⟩
  · rw [tup_o e, tup_o e, tuv_o e, h1, h2, tup_o e, tup_o e]
    have hb := tO_b hO hu
    obtain ⟨a, b⟩ := hR u hu
    exact ⟨a, fun c => ⟨(b c).1, (b c).2.1, fun i hi => by rw [h4 _ (by omega)]; exact (b c).2.2 i hi⟩⟩
theorem zu_tup {m : aj_M} {p : List Nat} {t : Nat} {s : Int} : aj_u m p t s p = tup (m p) t s := by
  funext k
  by_cases h : k = t <;> simp [aj_u, tup, h]
theorem zu_off {m : aj_M} {p q : List Nat} {t : Nat} {s : Int} (h : q ≠ p) : aj_u m p t s q = m q := by
  funext k
  simp [aj_u, h]
theorem pX11_numbers {f : Nat} {Φ : Int → aj_M → Prop} {v s n : Int} {m : aj_M} {S N : Nat → Int} {V : Nat → Nat → Int} (hf : 50 ≤ f) (hC : tC m S N V) (hv : rI v) (hs : rI s) (hn : rI n) (hbad : tN v s n ≠ 0 → Φ (tN v s n) m) (hok : ∀ t : Nat, v = t → t < 4 → (0 ≤ s ∧ s ≤ 3) → (0 ≤ n ∧ n ≤ 40) → ∀ m', zo [[t, 7, 0], [0, t, 7, 0]] m m' → tC m' (tup S t s) (tup N t n) (tuv V t fun _ => 0) → Φ 0 m') : wX11_numbers f Φ [0] v s n m := by
  refine pX11_isTray hv (fun a b => zb1 ⟨hs, fun c => ?_, fun c => ⟨hs, fun d => ⟨hn, fun e => ?_, fun e => ⟨hn, fun g => ⟨⟨a, b⟩, ?_⟩, fun g => ?_⟩⟩, fun d => ?_⟩⟩) (fun c => zb0 ?_)
  · rw [tN, if_neg (by omega)] at hbad
    exact hbad (by decide)
  · rw [tN, if_pos ⟨⟨a, b⟩, by omega, d⟩, if_neg (by omega)] at hbad
    exact hbad (by decide)
  · obtain ⟨t, rfl⟩ : ∃ t : Nat, v = t := ⟨v.toNat, by omega⟩
    rw [Int.toNat_natCast]
    rintro m1 rfl m2 rfl
    refine pJ7_fillL (by omega) (by decide) ?_
    have hz : zo [[t, 7, 0], [0, t, 7, 0]] m (aj_ur (aj_u (aj_u m [t, 7, 0] 1 s) [t, 7, 0] 2 n) [0, t, 7, 0] (fun k => if k < 40 then 0 else aj_u (aj_u m [t, 7, 0] 1 s) [t, 7, 0] 2 n [0, t, 7, 0] k)) := by
      intro p hp
      simp only [List.mem_cons, List.not_mem_nil, or_false, not_or] at hp
      funext k
      simp [aj_ur, aj_u, hp.1, hp.2]
    refine hok t rfl (by omega) ⟨by omega, d⟩ ⟨by omega, g⟩ _ hz (tC_up hC hz ?_ ?_ ?_)
    · simp [aj_ur, aj_u]
    · simp [aj_ur, aj_u]
    · intro i hi
      have : i < 40 := by omega
      simp [aj_ur, this]
  · rw [tN, if_pos ⟨⟨a, b⟩, by omega, d⟩, if_neg (by omega)] at hbad
    exact hbad (by decide)
  · rw [tN, if_neg (by omega)] at hbad
    exact hbad (by decide)
  · rw [tN, if_neg (by omega)] at hbad
    exact hbad (by decide)
def rZ (m : aj_M) : aj_M := aj_u m [1] 0 0
theorem hX12_numb {f : Nat} {Φ : Int → aj_M → Prop} {m : aj_M} {t : Nat} {n : Int} (ht : t < 4) (hn : 0 ≤ n ∧ n ≤ 40) (h : ∀ R : Nat → Int, (∀ i : Nat, (i : Int) < n → R (40 * t + i) = 0) → (∀ j : Nat, ¬ (40 * t ≤ j ∧ j < 40 * t + 40) → R j = m [46, 1] j) → Φ 0 (aj_ur m [46, 1] R)) : ∀ (k i : Nat) (R : Nat → Int), (i : Int) ≤ n → n - i < k → (∀ j : Nat, j < i → R (40 * t + j) = 0) → (∀ j : Nat, ¬ (40 * t ≤ j ∧ j < 40 * t + 40) → R j = m [46, 1] j) → hX12_numbers_64 f Φ k [1] t n (i : Int) (aj_ur m [46, 1] R) := by
  intro k
  induction k with
  | zero => intro i R h1 h2; omega
  | succ k ih =>
    intro i R h1 h2 h3 h4
    refine ⟨⟨by omega, by omega⟩, ⟨by omega, by omega⟩, fun c => h R (fun j hj => h3 j (by omega)) h4, fun c => ⟨⟨by omega, by omega⟩, ?_⟩⟩
    rintro m1 rfl
    have e : aj_u (aj_ur m [46, 1] R) [46, 1] (40 * (t : Int) + i).toNat 0 = aj_ur m [46, 1] (tup R (40 * t + i) 0) := by
      rw [show (40 * (t : Int) + i).toNat = 40 * t + i by omega]
      funext p j
      by_cases hp : p = [46, 1] <;> by_cases hj : j = 40 * t + i <;> simp [aj_u, aj_ur, tup, hp, hj]
    rw [e]
    refine ih (i + 1) _ (by omega) (by omega) (fun j hj => ?_) (fun j hj => ?_)
    · by_cases hji : j = i
      · subst hji
        exact tup_s
      · rw [tup_o (by omega)]
        exact h3 j (by omega)
    · rw [tup_o (by omega)]
      exact h4 j hj
theorem pX12_numbers {f : Nat} {Φ : Int → aj_M → Prop} {v s n : Int} {m : aj_M} {S N : Nat → Int} {V : Nat → Nat → Int} (hf : 50 ≤ f) (hO : tO S N V) (hR : tR m S N V) (hv : rI v) (hs : rI s) (hn : rI n) (hbad : tN v s n ≠ 0 → Φ (tN v s n) (rZ m)) (hok : ∀ t : Nat, v = t → t < 4 → (0 ≤ s ∧ s ≤ 3) → (0 ≤ n ∧ n ≤ 40) → ∀ m', zo [[44, 1], [45, 1], [46, 1]] (rZ m) m' → tR m' (tup S t s) (tup N t n) (tuv V t fun _ => 0) → Φ 0 m') : wX12_numbers f Φ [1] v s n m := by
  rintro m1 rfl
  refine ⟨hv, pW12_within (rL_rI hv) (by decide) (by decide) (fun a b => zb1 ⟨hs, ?_⟩) (fun c => zb0 ?_)⟩
  · refine pW12_within (rL_rI hs) (by decide) (by decide) (fun c d => zc1 ⟨hn, ?_⟩) (fun c => zc0 ?_)
    · refine pW12_within (rL_rI hn) (by decide) (by decide) (fun e g => zc1 ⟨⟨a, by omega⟩, ?_⟩) (fun e => zc0 ?_)
      · obtain ⟨t, rfl⟩ : ∃ t : Nat, v = t := ⟨v.toNat, by omega⟩
        rw [Int.toNat_natCast]
        rintro m5 rfl
        refine ⟨⟨a, by omega⟩, ?_⟩
        rintro m6 rfl
        have := hX12_numb (f := f) (Φ := Φ) (m := aj_u (aj_u (aj_u m [1] 0 0) [44, 1] t s) [45, 1] t n) (t := t) (n := n) (by omega) ⟨e, g⟩ ?_ f 0 (m [46, 1]) e (by omega) (fun j hj => by omega) (fun j hj => rfl)
        · have e2 : aj_ur (aj_u (aj_u (aj_u m [1] 0 0) [44, 1] t s) [45, 1] t n) [46, 1] (m [46, 1]) = aj_u (aj_u (aj_u m [1] 0 0) [44, 1] t s) [45, 1] t n := by
            funext p j
            by_cases hp : p = [46, 1] <;> simp [aj_ur, aj_u, hp]
          rw [e2] at this
          exact this
        · intro R h1 h2
          refine hok t rfl (by omega) ⟨c, d⟩ ⟨e, g⟩ _ ?_ (tR_up hR hO (by omega) e ?_ ?_ ?_ ?_)
          · intro p hp
            simp only [List.mem_cons, List.not_mem_nil, or_false, not_or] at hp
            funext k
            simp [aj_ur, aj_u, rZ, hp.1, hp.2.1, hp.2.2]
          · funext k
            by_cases hk : k = t <;> simp [aj_ur, aj_u, tup, hk]
          · funext k
            by_cases hk : k = t <;> simp [aj_ur, aj_u, tup, hk]
          · intro i hi
            have := h1 i hi
            simp [aj_ur, this]
          · intro j hj
            have := h2 j hj
            simp only [aj_ur]
            rw [if_pos trivial, this]
            rfl
      · rw [tN, if_pos ⟨⟨a, by omega⟩, c, d⟩, if_neg e] at hbad
        exact hbad (by decide)
    · rw [tN, if_neg (by omega)] at hbad
      exact hbad (by decide)
  · rw [tN, if_neg (by omega)] at hbad
    exact hbad (by decide)
