/-! TWISTS: the reference -/
def rTwl : List (List Nat) := [[17, 1], [16, 1]]
theorem hX12_nwe {f : Nat} {Φ : Int → aj_M → Prop} {t n : Nat} {m : aj_M} {A U : Nat → Int} (hA : wA A) (hm : ∀ j, j < 1105 → m [1, 1] j = A j) (ht : t < 4) (hn : m [45, 1] t = n) (hn2 : n ≤ 40) (hU : ∀ i : Nat, i < n → m [46, 1] (40 * t + i) = U i ∧ rL (U i)) (h : Φ (if tqs A U n then 0 else -3) m) : ∀ (k i : Nat), i ≤ n → n - i < k → tqs A U i = true → hX12_noWeighed_34 f Φ k [1] t (i : Int) m := by
  have h6 := hA.2.2.1
  have h12 := gOK_n hA.1
  intro k
  induction k with
  | zero => intro i h1 h2; omega
  | succ k ih =>
    intro i h1 h2 hq
    unfold hX12_noWeighed_34
    rw [Int.toNat_natCast, hn]
    refine ⟨⟨by omega, by omega⟩, ⟨by omega, by omega⟩, ⟨by omega, by omega⟩, fun c => ?_, fun c => ?_⟩
    · have e : i = n := by omega
      subst e
      rw [if_pos hq] at h
      exact h
    · have hin : i < n := by omega
      obtain ⟨e, er⟩ := hU i hin
      have er2 := er.2
      have hfail : tq1 A U i = false → Φ (-3) m := by
        intro c
        have : tqs A U n = false := tqs_f n (i := i + 1) (by omega) (by rw [tqs, c, Bool.and_false])
        rw [this] at h
        exact h
      rw [show (40 * (t : Int) + i).toNat = 40 * t + i by omega, e]
      refine ⟨⟨by omega, by omega⟩, er, fun c => hfail (decide_eq_false (fun x => by omega)), fun c => ⟨⟨by omega, by omega⟩, ?_⟩⟩
      refine pX12_isArc ⟨by omega, by omega⟩ (hm 6 (by decide)) h6 (fun a b => zb1 ⟨⟨by omega, by omega⟩, ⟨by omega, by omega⟩, ?_⟩) (fun a => zb0 (hfail (decide_eq_false (fun x => by omega))))
      refine pX12_isMember ⟨by omega, by omega⟩ (hm 4 (by decide)) ⟨by omega, h12.2⟩ (fun a2 b2 => zb1 ⟨⟨by omega, by omega⟩, ⟨by omega, by omega⟩, fun g => ?_, fun g => hfail (decide_eq_false (fun x => by omega))⟩) (fun a2 => zb0 (hfail (decide_eq_false (fun x => by omega))))
      refine ih (i + 1) (by omega) (by omega) ?_
      rw [tqs, hq, Bool.true_and]
      exact decide_eq_true ⟨by omega, by omega, by omega, by omega⟩
def tNe (A : Nat → Int) (n : Int) (U : Nat → Int) : Int := if 1 ≤ n ∧ n ≤ 8 then (if tqs A U n.toNat then 0 else -3) else -4
theorem tNe_r {A : Nat → Int} {n : Int} {U : Nat → Int} : rI (tNe A n U) := by
  unfold tNe
  split
  · split <;> decide
  · decide
theorem tNe_0 {A : Nat → Int} {n : Int} {U : Nat → Int} (h : tNe A n U = 0) : (1 ≤ n ∧ n ≤ 8) ∧ tqs A U n.toNat = true := by
  unfold tNe at h
  split at h
  case isFalse => exact absurd h (by decide)
  case isTrue c =>
    split at h
    case isFalse => exact absurd h (by decide)
    case isTrue d => exact ⟨c, d⟩
theorem tNe_tw {A : Nat → Int} {n : Int} {U : Nat → Int} : tTw A n U = if tNe A n U = 0 then ((twB A U n.toNat 10 : Nat) : Int) else tNe A n U := by
  unfold tTw tNe
  split
  · split
    · rw [if_pos rfl]
    · rw [if_neg (by decide)]
  · rw [if_neg (by decide)]
theorem pX12_noWeighed {f : Nat} {Φ : Int → aj_M → Prop} {v : Int} {m : aj_M} {A : Nat → Int} {S N : Nat → Int} {V : Nat → Nat → Int} (hf : 50 ≤ f) (hA : wA A) (hm : ∀ j, j < 1105 → m [1, 1] j = A j) (hO : tO S N V) (hR : tR m S N V) (hv : rI v) (hbad : tA N v ≠ 0 → Φ (tA N v) m) (h : ∀ t : Nat, v = t → t < 4 → 0 ≤ N t → tA N v = 0 → Φ (tNe A (N t) (V t)) m) : wX12_noWeighed f Φ [1] v m := by
  refine pX12_noTray hO hR hv ⟨tA_r, fun c => ?_, hbad⟩
  obtain ⟨t, rfl, ht, hn⟩ := tA_0 c
  have h := h t rfl ht hn c
  have hb := tO_b hO ht
  have hs := (tO_s hO ht hn).2
  have hc := (hR t ht).2 hn
  rw [Int.toNat_natCast, hc.2.1]
  refine ⟨⟨by omega, by omega⟩, ⟨by omega, by omega⟩, pW12_within ⟨by omega, by omega⟩ (by decide) (by decide) (fun a b => zc1 ?_) (fun a => zc0 ?_)⟩
  · rw [tNe, if_pos ⟨a, b⟩] at h
    exact hX12_nwe hA hm ht (n := (N t).toNat) (by rw [hc.2.1]; omega) (by omega) (fun i hi => ⟨hc.2.2 i (by omega), hs i (by omega)⟩) h f 0 (by omega) (by omega) rfl
  · rw [tNe, if_neg a] at h
    exact h
theorem hX12_tw16 {f : Nat} {Φ : Int → aj_M → Prop} {K : List Nat → Int → Int → Int → aj_M → Prop} {m0 : aj_M} {A U : Nat → Int} {t n s : Nat} {b : Int} (hf : 1000 ≤ f) (hA : wA A) (hm : ∀ j, j < 1105 → m0 [1, 1] j = A j) (ht : t < 4) (hs : s < 10) (hn : m0 [45, 1] t = n) (hn2 : n ≤ 40) (hU : ∀ i : Nat, i < n → m0 [46, 1] (40 * t + i) = U i) (hQ : tqs A U n = true) (h : ∀ m', zo rTwl m0 m' → K [1] t (if twA A U s n then aj_or b (aj_shl 1 s) else aj_or b 0) ((s : Int) + 1) m') : ∀ (k i : Nat) (m : aj_M) (w : Int), i ≤ n → n - i < k → zo rTwl m0 m → w = (if twA A U s i then 1 else 0) → hX12_twistsOf_16 f Φ K k [1] t b s w (i : Int) m := by
  have h6 := hA.2.2.1
  have h12 := gOK_n hA.1
  intro k
  induction k with
  | zero => intro i m w h1 h2; omega
  | succ k ih =>
    intro i m w h1 h2 z hw
    have t1 : m [45, 1] = m0 [45, 1] := z _ (by decide)
    have t2 : m [46, 1] = m0 [46, 1] := z _ (by decide)
    have t3 : m [1, 1] = m0 [1, 1] := z _ (by decide)
    have hw01 : w = 0 ∨ w = 1 := by
      rw [hw]
      split
      · exact Or.inr rfl
      · exact Or.inl rfl
    unfold hX12_twistsOf_16
    rw [t1, t2, Int.toNat_natCast, hn]
    refine ⟨⟨by omega, by omega⟩, ⟨by omega, by omega⟩, ⟨by omega, by omega⟩, fun c => ?_, fun c => ⟨⟨by omega, by omega⟩, ?_⟩⟩
    · have ei : i = n := by omega
      subst ei
      have h := h m z
      refine ⟨by rcases hw01 with e | e <;> rw [e] <;> decide, fun e => ?_, fun e => ?_⟩
      · cases q : twA A U s i with
        | true =>
          rw [q, if_pos rfl] at hw
          omega
        | false =>
          rw [q, if_neg (by decide)] at h
          exact h
      · cases q : twA A U s i with
        | true =>
          rw [q, if_pos rfl] at h
          exact h
        | false =>
          rw [q, if_neg (by decide)] at hw
          exact absurd hw e
    · have hi : i < n := by omega
      obtain ⟨u1, u2, u3, u4⟩ := tqs_1 hQ hi
      rw [show (40 * (t : Int) + i).toNat = 40 * t + i by omega, hU i hi]
      refine ⟨⟨by omega, by omega⟩, ⟨by omega, by omega⟩, ⟨by omega, by omega⟩, ?_⟩
      have ea : U i / 10000 = ((U i / 10000).toNat : Int) := by omega
      have ex : U i % 10000 / 100 = U i / 100 % 100 := by omega
      have key := pX12_weightOf (f := f) (Φ := fun z1 m1 => (0 ≤ U i ∧ U i < 2147483648) ∧ rI z1 ∧ rI (U i % 100) ∧ (¬ z1 = U i % 100 → hX12_twistsOf_16 f Φ K k [1] t b s (aj_and w 0) ((i : Int) + 1) m1) ∧ (z1 = U i % 100 → hX12_twistsOf_16 f Φ K k [1] t b s (aj_and w 1) ((i : Int) + 1) m1)) (q := [1]) (m := m) hA (fun j hj => by rw [t3]; exact hm j hj) (ar := (U i / 10000).toNat) (x := U i / 100 % 100) (t := (s : Int)) (by omega) ⟨by omega, by omega⟩ ⟨by omega, by omega⟩ hf (fun w1 S => ?_)
      · rw [← ea, ← ex] at key
        exact key
      · have wb := zWt_b (A := A) (ar := (U i / 10000).toNat) (x := U i / 100 % 100) (t := (s : Int))
        have z' : zo rTwl m0 (rW m [1] w1 S) := fun p hp => by
          rw [← z p hp]
          simp only [rTwl, List.mem_cons, List.not_mem_nil, or_false, not_or] at hp
          exact rW_off hp.1 hp.2
        refine ⟨⟨by omega, by omega⟩, ⟨by omega, by omega⟩, ⟨by omega, by omega⟩, fun c => ?_, fun c => ?_⟩
        · rw [(zCm_and0 hw01).1]
          refine ih (i + 1) _ _ (by omega) (by omega) z' ?_
          have e : twO A U s i = false := decide_eq_false c
          rw [twA, e, Bool.and_false]
          rfl
        · rw [(zCm_and0 hw01).2]
          refine ih (i + 1) _ _ (by omega) (by omega) z' ?_
          have e : twO A U s i = true := decide_eq_true c
          rw [twA, e, Bool.and_true]
          exact hw
theorem hX12_tw4 {f : Nat} {Φ : Int → aj_M → Prop} {m0 : aj_M} {A U : Nat → Int} {t n : Nat} (hf : 1000 ≤ f) (hA : wA A) (hm : ∀ j, j < 1105 → m0 [1, 1] j = A j) (ht : t < 4) (hn : m0 [45, 1] t = n) (hn2 : n ≤ 40) (hU : ∀ i : Nat, i < n → m0 [46, 1] (40 * t + i) = U i) (hQ : tqs A U n = true) (h : ∀ m', zo rTwl m0 m' → Φ (twB A U n 10 : Nat) m') : ∀ (k s : Nat) (b : Int) (m : aj_M), s ≤ 10 → 10 - s < k → zo rTwl m0 m → b = (twB A U n s : Nat) → hX12_twistsOf_4 f Φ k [1] t b (s : Int) m := by
  intro k
  induction k with
  | zero => intro s b m h1 h2; omega
  | succ k ih =>
    intro s b m h1 h2 z hb
    have t1 : m [45, 1] = m0 [45, 1] := z _ (by decide)
    have t2 : m [46, 1] = m0 [46, 1] := z _ (by decide)
    have t3 : m [1, 1] = m0 [1, 1] := z _ (by decide)
    refine ⟨⟨by omega, by omega⟩, fun c => ?_, fun c => ?_⟩
    · have es : s = 10 := by omega
      subst es
      rw [hb]
      exact h m z
    · refine hX12_tw16 hf hA (fun j hj => by rw [t3]; exact hm j hj) ht (s := s) (by omega) (n := n) (by rw [t1]; exact hn) hn2 (fun i hi => by rw [t2]; exact hU i hi) hQ ?_ f 0 m 1 (by omega) (by omega) (fun p _ => rfl) rfl
      intro m1 z1
      refine ih (s + 1) _ m1 (by omega) (by omega) (zo_t z z1) ?_
      have hbb := twB_b (A := A) (U := U) (n := n) s
      have hp : 2 ^ s ≤ 2 ^ 10 := Nat.pow_le_pow_right (by decide) h1
      cases e : twA A U s n with
      | true =>
        rw [if_pos rfl, hb, zi_shl (by omega), zi_or (by omega) (by omega), twB, e, if_pos rfl]
      | false =>
        have e0 : (0 : Int) = ((0 : Nat) : Int) := rfl
        rw [if_neg (by decide), hb, e0, zi_or (by omega) (by omega), twB, e, if_neg (by decide), Nat.or_zero]
theorem pX12_twistsOf {f : Nat} {Φ : Int → aj_M → Prop} {m : aj_M} {A : Nat → Int} {S N : Nat → Int} {V : Nat → Nat → Int} {t : Nat} (hf : 1000 ≤ f) (hA : wA A) (hm : ∀ j, j < 1105 → m [1, 1] j = A j) (hO : tO S N V) (hR : tR m S N V) (ht : t < 4) (hn : 0 ≤ N t) (hd : tNe A (N t) (V t) = 0) (h : ∀ m', zo rTwl m m' → Φ (twB A (V t) (N t).toNat 10 : Nat) m') : wX12_twistsOf f Φ [1] t m := by
  have hc := (hR t ht).2 hn
  have h0 := tNe_0 hd
  exact hX12_tw4 hf hA hm ht (n := (N t).toNat) (by rw [hc.2.1]; omega) (by omega) (fun i hi => hc.2.2 i (by omega)) h0.2 h f 0 0 m (by omega) (by omega) (fun p _ => rfl) rfl
theorem pX12_twists {f : Nat} {Φ : Int → aj_M → Prop} {v : Int} {m : aj_M} {A : Nat → Int} {S N : Nat → Int} {V : Nat → Nat → Int} (hf : 1000 ≤ f) (hA : wA A) (hm : ∀ j, j < 1105 → m [1, 1] j = A j) (hO : tO S N V) (hR : tR m S N V) (hv : rI v) (h : ∀ m', zo rTwl (rZ m) m' → Φ (tTs A N V v) m') : wX12_twists f Φ [1] v m := by
  rintro m1 rfl
  have hm := hm_rZ hm
  have hR := tR_rZ hR
  have hid : zo rTwl (rZ m) (rZ m) := fun p _ => rfl
  refine pX12_noWeighed (by omega) hA hm hO hR hv (fun c => ⟨tA_r, fun d => absurd d c, fun _ => ?_⟩) (fun t et ht hn c => ⟨tNe_r, fun d => ?_, fun d => ?_⟩)
  · rw [tTs, if_neg c] at h
    exact h _ hid
  · subst et
    rw [tTs, if_pos c, Int.toNat_natCast, tNe_tw, if_pos d] at h
    exact pX12_twistsOf hf hA hm hO hR ht hn d h
  · subst et
    rw [tTs, if_pos c, Int.toNat_natCast, tNe_tw, if_neg d] at h
    exact h _ hid
