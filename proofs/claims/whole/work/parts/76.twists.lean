/-! TWISTS -/
def tq1 (A U : Nat → Int) (i : Nat) : Bool := decide (0 ≤ U i ∧ U i / 10000 < A 6 ∧ U i / 100 % 100 < A 4 ∧ 0 < U i % 100)
def tqs (A U : Nat → Int) : Nat → Bool
  | 0 => true
  | i + 1 => tqs A U i && tq1 A U i
theorem tqs_f {A U : Nat → Int} {i : Nat} : ∀ n, i ≤ n → tqs A U i = false → tqs A U n = false
  | 0, h, e => by
    have : i = 0 := by omega
    rw [this] at e
    exact e
  | n + 1, h, e => by
    by_cases c : i ≤ n
    · rw [tqs, tqs_f n c e]
      rfl
    · have : i = n + 1 := by omega
      rw [← this]
      exact e
theorem tqs_1 {A U : Nat → Int} {n i : Nat} (h : tqs A U n = true) (hi : i < n) : 0 ≤ U i ∧ U i / 10000 < A 6 ∧ U i / 100 % 100 < A 4 ∧ 0 < U i % 100 := by
  have : tqs A U (i + 1) = true := by
    cases e : tqs A U (i + 1)
    · rw [tqs_f n (by omega) e] at h
      exact h
    · rfl
  rw [tqs, Bool.and_eq_true] at this
  exact of_decide_eq_true this.2
def twO (A U : Nat → Int) (t : Int) (i : Nat) : Bool := decide (zWt A (U i / 10000).toNat (U i / 100 % 100) t = U i % 100)
def twA (A U : Nat → Int) (t : Int) : Nat → Bool
  | 0 => true
  | i + 1 => twA A U t i && twO A U t i
theorem twA_f {A U : Nat → Int} {t : Int} {i : Nat} : ∀ n, i ≤ n → twA A U t i = false → twA A U t n = false
  | 0, h, e => by
    have : i = 0 := by omega
    rw [this] at e
    exact e
  | n + 1, h, e => by
    by_cases c : i ≤ n
    · rw [twA, twA_f n c e]
      rfl
    · have : i = n + 1 := by omega
      rw [← this]
      exact e
def twB (A U : Nat → Int) (n : Nat) : Nat → Nat
  | 0 => 0
  | t + 1 => if twA A U t n then twB A U n t ||| 2 ^ t else twB A U n t
theorem twB_b {A U : Nat → Int} {n : Nat} : ∀ t, twB A U n t < 2 ^ t
  | 0 => Nat.zero_lt_one
  | t + 1 => by
    unfold twB
    have h := twB_b (A := A) (U := U) (n := n) t
    have h2 : 2 ^ (t + 1) = 2 * 2 ^ t := by rw [Nat.pow_succ, Nat.mul_comm]
    split
    · exact Nat.or_lt_two_pow (by omega) (by omega)
    · omega
def tTw (A : Nat → Int) (n : Int) (U : Nat → Int) : Int := if 1 ≤ n ∧ n ≤ 8 then (if tqs A U n.toNat then (twB A U n.toNat 10 : Nat) else -3) else -4
def zTwl : List (List Nat) := [[6, 1, 1, 0]]
theorem zTw_P {m m' : aj_M} {A : Nat → Int} (z : zo zTwl m m') (hP : wP m [1, 0] A) : wP m' [1, 0] A := wP_zo hP (fun r hr => z r (by
  have q : ∀ r ∈ zcpl [1, 0], r ∉ zTwl := by decide
  exact q r hr))
theorem zTw_t {m m' : aj_M} (z : zo zTwl m m') {t : Nat} : m' [t, 7, 0] = m [t, 7, 0] ∧ m' [0, t, 7, 0] = m [0, t, 7, 0] := ⟨z _ (by simp [zTwl]), z _ (by simp [zTwl])⟩
theorem hX11_aws {f : Nat} {Φ : Int → aj_M → Prop} {m0 : aj_M} {A U : Nat → Int} {t n : Nat} {s : Int} (hf : 1000 ≤ f) (hA : wA A) (hP : wP m0 [1, 0] A) (hs : 0 ≤ s ∧ s ≤ 9) (hn : m0 [t, 7, 0] 2 = n) (hn2 : n ≤ 40) (hU : ∀ i : Nat, i < n → m0 [0, t, 7, 0] i = U i) (hQ : tqs A U n = true) (h : ∀ m', zo zTwl m0 m' → Φ (if twA A U s n then 1 else 0) m') : ∀ (k i : Nat) (m : aj_M), i ≤ n → n - i < k → zo zTwl m0 m → twA A U s i = true → hX11_allWeighSo_2 f Φ k [0] [t, 7, 0] s (i : Int) m := by
  have h6 := hA.2.2.1
  have h12 := gOK_n hA.1
  intro k
  induction k with
  | zero => intro i m h1 h2; omega
  | succ k ih =>
    intro i m h1 h2 z q
    obtain ⟨t1, t2⟩ := zTw_t z (t := t)
    unfold hX11_allWeighSo_2
    rw [t1, t2, hn]
    refine ⟨⟨by omega, by omega⟩, ⟨by omega, by omega⟩, fun c => ?_, fun c => ?_⟩
    · have ei : i = n := by omega
      subst ei
      have h := h m z
      rw [if_pos q] at h
      exact h
    · have hi : i < n := by omega
      obtain ⟨u1, u2, u3, u4⟩ := tqs_1 hQ hi
      rw [Int.toNat_natCast, hU i hi]
      refine ⟨⟨by omega, by omega⟩, ⟨by omega, by omega⟩, ⟨by omega, by omega⟩, ⟨by omega, by omega⟩, ?_⟩
      have ea : U i / 10000 = ((U i / 10000).toNat : Int) := by omega
      have key := pX6_weightOf (f := f) (Φ := fun z1 m1 => (0 ≤ U i ∧ U i < 2147483648) ∧ rI z1 ∧ rI (U i % 100) ∧ (z1 = U i % 100 → hX11_allWeighSo_2 f Φ k [0] [t, 7, 0] s ((i : Int) + 1) m1) ∧ (¬ (z1 = U i % 100) → Φ 0 m1)) hA (zTw_P z hP) (ar := (U i / 10000).toNat) (x := U i / 100 % 100) (t := s) (by omega) ⟨by omega, by omega⟩ hs hf (fun S => ?_)
      · rw [← ea] at key
        exact key
      · have wb := zWt_b (A := A) (ar := (U i / 10000).toNat) (x := U i / 100 % 100) (t := s)
        have z' : zo zTwl m0 (aj_ur m [6, 1, 1, 0] S) := fun p hp => by
          rw [← z p hp]
          exact zm_uro (by simpa [zTwl] using hp)
        refine ⟨⟨by omega, by omega⟩, ⟨by omega, by omega⟩, ⟨by omega, by omega⟩, fun c => ?_, fun c => ?_⟩
        · refine ih (i + 1) _ (by omega) (by omega) z' ?_
          rw [twA, q, Bool.true_and]
          exact decide_eq_true c
        · have e : twA A U s n = false := twA_f n (i := i + 1) (by omega) (by
            rw [twA, q, Bool.true_and]
            exact decide_eq_false c)
          have h := h _ z'
          rw [e] at h
          exact h
theorem hX11_tw80 {f : Nat} {Φ : Int → aj_M → Prop} {m0 : aj_M} {A U : Nat → Int} {t n : Nat} (hf : 1000 ≤ f) (hA : wA A) (hP : wP m0 [1, 0] A) (hn : m0 [t, 7, 0] 2 = n) (hn2 : n ≤ 40) (hU : ∀ i : Nat, i < n → m0 [0, t, 7, 0] i = U i) (hQ : tqs A U n = true) (h : ∀ m', zo zTwl m0 m' → Φ (twB A U n 10 : Nat) m') : ∀ (k s : Nat) (b : Int) (m : aj_M), s ≤ 10 → 10 - s < k → zo zTwl m0 m → b = (twB A U n s : Nat) → hX11_twists_80 f Φ k [0] [t, 7, 0] b (s : Int) m := by
  intro k
  induction k with
  | zero => intro s b m h1 h2; omega
  | succ k ih =>
    intro s b m h1 h2 z hb
    refine ⟨⟨by omega, by omega⟩, fun c => ?_, fun c => ?_⟩
    · have es : s = 10 := by omega
      subst es
      rw [hb]
      exact h m z
    · obtain ⟨t1, t2⟩ := zTw_t z (t := t)
      refine hX11_aws hf hA (zTw_P z hP) (s := (s : Int)) ⟨by omega, by omega⟩ (n := n) (by rw [t1]; exact hn) hn2 (fun i hi => by rw [t2]; exact hU i hi) hQ ?_ f 0 m (by omega) (by omega) (fun p _ => rfl) rfl
      intro m1 z1
      have z' := zo_t z z1
      cases e : twA A U s n with
      | true =>
        rw [if_pos rfl]
        refine zb1 ?_
        have hbb := twB_b (A := A) (U := U) (n := n) s
        have hp : 2 ^ s ≤ 2 ^ 10 := Nat.pow_le_pow_right (by decide) h1
        rw [hb, zi_shl (by omega), zi_or (by omega) (by omega)]
        refine ih (s + 1) _ m1 (by omega) (by omega) z' ?_
        rw [twB, e, if_pos rfl]
      | false =>
        rw [if_neg (by decide)]
        refine zb0 (ih (s + 1) _ m1 (by omega) (by omega) z' ?_)
        rw [twB, e, if_neg (by decide)]
        exact hb
theorem pX11_isWeighing {f : Nat} {Φ : Int → aj_M → Prop} {m : aj_M} {A U : Nat → Int} {i : Nat} (hA : wA A) (hP : wP m [1, 0] A) (hu : rL (U i)) (h1 : tq1 A U i = true → Φ 1 m) (h0 : tq1 A U i = false → Φ 0 m) : wX11_isWeighing f Φ [0] (U i) m := by
  have h6 := hA.2.2.1
  have h12 := gOK_n hA.1
  unfold wX11_isWeighing
  rw [hP.2.2.1, hP.1.1]
  refine ⟨hu, fun c => h0 (decide_eq_false (fun x => by omega)), fun c => ⟨⟨by omega, by have := hu.2; omega⟩, ⟨by omega, by omega⟩, ⟨by omega, by have := hu.2; omega⟩, ⟨by omega, by omega⟩, fun d => h0 (decide_eq_false (fun x => by omega)), fun d => ⟨⟨by omega, by omega⟩, ⟨by omega, by omega⟩, ⟨by omega, by omega⟩, ⟨by omega, by omega⟩, ⟨by omega, by omega⟩, fun e => h0 (decide_eq_false (fun x => by omega)), fun e => ⟨⟨by omega, by omega⟩, ⟨by omega, by omega⟩, fun g => h0 (decide_eq_false (fun x => by omega)), fun g => h1 (decide_eq_true ⟨by omega, by omega, by omega, by omega⟩)⟩⟩⟩⟩
theorem hX11_tw42 {f : Nat} {Φ : Int → aj_M → Prop} {m : aj_M} {A U : Nat → Int} {t n : Nat} (hf : 1000 ≤ f) (hA : wA A) (hP : wP m [1, 0] A) (hn : m [t, 7, 0] 2 = n) (hn2 : n ≤ 40) (hU : ∀ i : Nat, i < n → m [0, t, 7, 0] i = U i ∧ rL (U i)) (h1 : tqs A U n = false → Φ (-3) m) (h : tqs A U n = true → ∀ m', zo zTwl m m' → Φ (twB A U n 10 : Nat) m') : ∀ (k i : Nat), i ≤ n → n - i < k → tqs A U i = true → hX11_twists_42 f Φ k [0] [t, 7, 0] (i : Int) m := by
  intro k
  induction k with
  | zero => intro i a1 a2; omega
  | succ k ih =>
    intro i a1 a2 q
    unfold hX11_twists_42
    rw [hn]
    refine ⟨⟨by omega, by omega⟩, ⟨by omega, by omega⟩, fun c => ?_, fun c => ⟨⟨by omega, by omega⟩, ?_⟩⟩
    · have ei : i = n := by omega
      subst ei
      exact hX11_tw80 hf hA hP hn hn2 (fun i hi => (hU i hi).1) q (h q) f 0 0 m (by omega) (by omega) (fun p _ => rfl) rfl
    · have hi : i < n := by omega
      rw [Int.toNat_natCast, (hU i hi).1]
      refine pX11_isWeighing hA hP (hU i hi).2 (fun e => zc1 (ih (i + 1) (by omega) (by omega) (by rw [tqs, q, e]; rfl))) (fun e => zc0 (h1 (tqs_f n (i := i + 1) (by omega) (by rw [tqs, q, e]; rfl))))
def tTs (A N : Nat → Int) (V : Nat → Nat → Int) (v : Int) : Int := if tA N v = 0 then tTw A (N v.toNat) (V v.toNat) else tA N v
theorem pX11_twists {f : Nat} {Φ : Int → aj_M → Prop} {v : Int} {m : aj_M} {A : Nat → Int} {S N : Nat → Int} {V : Nat → Nat → Int} (hf : 1000 ≤ f) (hA : wA A) (hP : wP m [1, 0] A) (hO : tO S N V) (hC : tC m S N V) (hv : rI v) (h : ∀ m', zo zTwl m m' → Φ (tTs A N V v) m') : wX11_twists f Φ [0] v m := by
  have hid : zo zTwl m m := fun p _ => rfl
  refine pX11_trayCode hO hC hv ⟨tA_r, fun c => ?_, fun c => ?_⟩
  · obtain ⟨t, rfl, ht, hn⟩ := tA_0 c
    rw [tTs, if_pos c, Int.toNat_natCast] at h
    rw [Int.toNat_natCast]
    have hb := tO_b hO ht
    have hs := (tO_s hO ht hn).2
    have hc := hC t ht
    rw [hc.1]
    refine ⟨⟨by omega, by omega⟩, ⟨by omega, by omega⟩, fun d => ?_, fun d => ⟨⟨by omega, by omega⟩, fun e => ?_, fun e => ?_⟩⟩
    · rw [tTw, if_neg (by omega)] at h
      exact h m hid
    · rw [tTw, if_pos ⟨by omega, e⟩] at h
      refine hX11_tw42 hf hA hP (n := (N t).toNat) (by rw [hc.1]; omega) (by omega) (fun i hi => ⟨(hc.2 hn).2 i (by omega), hs i (by omega)⟩) (fun g => ?_) (fun g m' z => ?_) f 0 (by omega) (by omega) rfl
      · rw [g] at h
        exact h m hid
      · rw [if_pos g] at h
        exact h m' z
    · rw [tTw, if_neg (by omega)] at h
      exact h m hid
  · rw [tTs, if_neg c] at h
    exact h m hid
