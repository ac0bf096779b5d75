/-! WALK, LIFTED -/
theorem pX11_stepBegins {f : Nat} {Φ : Int → aj_M → Prop} {m : aj_M} {A : Nat → Int} {s : Int} (hA : wA A) (hP : wP m [1, 0] A) (hs : 0 ≤ s ∧ s < 2 * A 6) (h : Φ (tBg A s) m) : wX11_stepBegins f Φ [0] s m := by
  have h6 := hA.2.2.1
  obtain ⟨p1, p2⟩ := hP.2.2.2.2.2.1 (s / 2).toNat (by omega)
  refine ⟨⟨by omega, by omega⟩, ⟨by omega, by omega⟩, fun c => ⟨⟨by omega, by omega⟩, ⟨by omega, by omega⟩, ?_⟩, fun c => ⟨⟨by omega, by omega⟩, ⟨by omega, by omega⟩, ?_⟩⟩
  · rw [tBg, if_neg c] at h
    rw [p2]
    exact h
  · rw [tBg, if_pos c] at h
    rw [p1]
    exact h
theorem pX11_stepEnds {f : Nat} {Φ : Int → aj_M → Prop} {m : aj_M} {A : Nat → Int} {s : Int} (hA : wA A) (hP : wP m [1, 0] A) (hs : 0 ≤ s ∧ s < 2 * A 6) (h : Φ (tEn A s) m) : wX11_stepEnds f Φ [0] s m := by
  have h6 := hA.2.2.1
  obtain ⟨p1, p2⟩ := hP.2.2.2.2.2.1 (s / 2).toNat (by omega)
  refine ⟨⟨by omega, by omega⟩, ⟨by omega, by omega⟩, fun c => ⟨⟨by omega, by omega⟩, ⟨by omega, by omega⟩, ?_⟩, fun c => ⟨⟨by omega, by omega⟩, ⟨by omega, by omega⟩, ?_⟩⟩
  · rw [tEn, if_neg c] at h
    rw [p1]
    exact h
  · rw [tEn, if_pos c] at h
    rw [p2]
    exact h
theorem hX11_gat88 {f : Nat} {Φ : Int → aj_M → Prop} {K : List Nat → List Nat → Int → Int → Int → aj_M → Prop} {q : List Nat} {m : aj_M} {A : Nat → Int} {v s i : Int} (hA : wA A) (hP : wP m [1, 0] A) (hS : wS m [2, 0] A) (hv : 0 ≤ v ∧ v < A 4) (hs : 0 ≤ s ∧ s < 2 * A 6) (h : K [0] q (gT (A 1) (A 2) (A 3) v (tVo A s)) (tEn A s) (i + 1) m) : hX11_gathered_88 f Φ K [0] q v i s m := by
  have h6 := hA.2.2.1
  have h12 := gOK_n hA.1
  have hj : ((s / 2).toNat : Int) < A 6 := by omega
  have hg := hA.2.2.2.1 (s / 2).toNat hj
  have e : m [0, 2, 0] (s / 2).toNat = A (49 + (s / 2).toNat) := hS.1 _ hj
  have hb := tVo_b hA hs
  refine ⟨⟨by omega, by omega⟩, ⟨by omega, by omega⟩, ⟨by omega, by omega⟩, ⟨by omega, by omega⟩, fun c => ?_, fun c => ?_⟩
  · rw [e]
    refine ⟨⟨hg.2.2.2.1, by omega⟩, ?_⟩
    have e2 : m [2, 0, 1, 0] (A (49 + (s / 2).toNat)).toNat = tVo A s := by
      rw [hP.1.2.2.1 _ hg.2.2.2.1 hg.2.2.2.2, tVo, if_neg c]
    rw [e2]
    refine pX0_times hP.1.1 h12.2 hv.1 hv.2 hb.1 hb.2 (hP.1.2.1 _ _ hv.1 hv.2 hb.1 hb.2) ?_
    exact pX11_stepEnds hA hP hs h
  · have e2 : m [0, 2, 0] (s / 2).toNat = tVo A s := by
      rw [e, tVo, if_pos c]
    rw [e2]
    refine pX0_times hP.1.1 h12.2 hv.1 hv.2 hb.1 hb.2 (hP.1.2.1 _ _ hv.1 hv.2 hb.1 hb.2) ?_
    exact pX11_stepEnds hA hP hs h
theorem hX11_gat {f : Nat} {Φ : Int → aj_M → Prop} {t n : Nat} {m : aj_M} {A U : Nat → Int} (hA : wA A) (hP : wP m [1, 0] A) (hS : wS m [2, 0] A) (hn : m [t, 7, 0] 2 = n) (hn2 : n ≤ 12) (hU : ∀ i : Nat, i < n → m [0, t, 7, 0] i = U i ∧ rL (U i)) (h : Φ (if tQ A U n then tGa A U n else -3) m) : ∀ (k i : Nat) (v w : Int), i ≤ n → n - i < k → tQ A U i = true → v = tGa A U i → w = (if i = 0 then -1 else tEn A (U (i - 1))) → hX11_gathered_27 f Φ k [0] [t, 7, 0] v w (i : Int) m := by
  have h6 := hA.2.2.1
  intro k
  induction k with
  | zero => intro i v w h1 h2; omega
  | succ k ih =>
    intro i v w h1 h2 hq hv hw
    have hvb := tGa_b (U := U) hA i hq
    have h4 : m [1, 0] 4 = A 6 := hP.2.2.1
    refine ⟨⟨by omega, by omega⟩, by rw [hn]; exact ⟨by omega, by omega⟩, fun c => ?_, fun c => ?_⟩
    · rw [hn] at c
      have e : i = n := by omega
      subst e
      rw [if_pos hq, ← hv] at h
      exact h
    · rw [hn] at c
      have hin : i < n := by omega
      obtain ⟨e, er⟩ := hU i hin
      refine ⟨⟨by omega, by omega⟩, ?_⟩
      rw [Int.toNat_natCast, e, h4]
      have hfail : tQ1 A U i = false → Φ (-3) m := by
        intro c
        have : tQ A U n = false := tQ_f n (i := i + 1) (by omega) (by rw [tQ, c, Bool.and_false])
        rw [this] at h
        exact h
      refine ⟨er, fun c => ?_, fun c => ⟨⟨by omega, by omega⟩, er, ⟨by omega, by omega⟩, fun d => ?_, fun d => ?_⟩⟩
      · exact hfail (decide_eq_false (fun x => by omega))
      · exact hfail (decide_eq_false (fun x => by omega))
      · have hs : 0 ≤ U i ∧ U i < 2 * A 6 := by omega
        have hb := tE_b hA hs
        have go : (i = 0 ∨ tEn A (U (i - 1)) = tBg A (U i)) → hX11_gathered_88 f Φ (fun q0 q1 v2 v3 v4 m => hX11_gathered_27 f Φ k q0 q1 v2 v3 v4 m) [0] [t, 7, 0] v i (U i) m := by
          intro c
          refine hX11_gat88 hA hP hS (by rw [hv]; exact hvb) hs ?_
          refine ih (i + 1) _ _ (by omega) (by omega) ?_ (by rw [tGa, hv]) ?_
          · rw [tQ, hq, Bool.true_and]
            exact decide_eq_true ⟨hs, c⟩
          · rw [if_neg (by omega)]
            rfl
        by_cases hi : i = 0
        · rw [if_pos hi] at hw
          rw [hw]
          exact ⟨by decide, fun _ => go (Or.inl hi), fun x => absurd rfl x⟩
        · rw [if_neg hi] at hw
          have hq2 : tQ A U ((i - 1) + 1) = true := by rw [show i - 1 + 1 = i by omega]; exact hq
          have hb2 := tE_b hA (tQ_1 hq2).1
          rw [hw]
          refine ⟨⟨by omega, by omega⟩, fun c => by omega, fun c => pX11_stepBegins hA hP hs ⟨⟨by omega, by omega⟩, ⟨by omega, by omega⟩, fun x => go (Or.inr x), fun x => ?_⟩⟩
          exact hfail (decide_eq_false (fun y => by
            rcases y.2 with z | z
            · exact hi z
            · exact x z))
theorem pX11_gathered {f : Nat} {Φ : Int → aj_M → Prop} {t : Nat} {m : aj_M} {A : Nat → Int} {S N : Nat → Int} {V : Nat → Nat → Int} (hf : 50 ≤ f) (hA : wA A) (hP : wP m [1, 0] A) (hS : wS m [2, 0] A) (hO : tO S N V) (hC : tC m S N V) (ht : t < 4) (hn : 0 ≤ N t) (h : Φ (tWk A (N t) (V t)) m) : wX11_gathered f Φ [0] [t, 7, 0] m := by
  have hb := tO_b hO ht
  have hs := (tO_s hO ht hn).2
  have hc := hC t ht
  unfold wX11_gathered
  rw [hc.1]
  refine ⟨⟨by omega, by omega⟩, fun c => ?_, fun c => ⟨⟨by omega, by omega⟩, fun d => ?_, fun d => ?_⟩⟩
  · rw [tWk, if_neg (by omega)] at h
    exact h
  · rw [tWk, if_pos ⟨by omega, d⟩] at h
    exact hX11_gat hA hP hS (n := (N t).toNat) (by rw [hc.1]; omega) (by omega) (fun i hi => ⟨(hc.2 hn).2 i (by omega), hs i (by omega)⟩) h f 0 0 (-1) (by omega) (by omega) rfl rfl rfl
  · rw [tWk, if_neg (by omega)] at h
    exact h
def tWa (A N : Nat → Int) (V : Nat → Nat → Int) (v : Int) : Int := if tA N v = 0 then tWk A (N v.toNat) (V v.toNat) else tA N v
theorem pX11_walk {f : Nat} {Φ : Int → aj_M → Prop} {v : Int} {m : aj_M} {A : Nat → Int} {S N : Nat → Int} {V : Nat → Nat → Int} (hf : 50 ≤ f) (hA : wA A) (hP : wP m [1, 0] A) (hS : wS m [2, 0] A) (hO : tO S N V) (hC : tC m S N V) (hv : rI v) (h : Φ (tWa A N V v) m) : wX11_walk f Φ [0] v m := by
  refine pX11_trayCode hO hC hv ⟨tA_r, fun c => ?_, fun c => ?_⟩
  · obtain ⟨t, rfl, ht, hn⟩ := tA_0 c
    rw [tWa, if_pos c, Int.toNat_natCast] at h
    rw [Int.toNat_natCast]
    exact ⟨⟨by omega, by omega⟩, pX11_gathered hf hA hP hS hO hC ht hn h⟩
  · rw [tWa, if_neg c] at h
    exact h
/-- the reference -/
theorem pX12_endOf {f : Nat} {Φ : Int → aj_M → Prop} {m : aj_M} {A : Nat → Int} {s : Int} (hA : wA A) (hm : ∀ j, j < 1105 → m [1, 1] j = A j) (hs : 0 ≤ s ∧ s < 2 * A 6) (h : Φ (tEn A s) m) : wX12_endOf f Φ [1] s m := by
  have h6 := hA.2.2.1
  refine ⟨⟨by omega, by omega⟩, ⟨by omega, by omega⟩, fun c => ⟨⟨by omega, by omega⟩, ⟨by omega, by omega⟩, ?_⟩, fun c => ⟨⟨by omega, by omega⟩, ⟨by omega, by omega⟩, ?_⟩⟩
  · rw [tEn, if_neg c] at h
    rw [show (13 + s / 2).toNat = 13 + (s / 2).toNat by omega, hm _ (by omega)]
    exact h
  · rw [tEn, if_pos c] at h
    rw [show (25 + s / 2).toNat = 25 + (s / 2).toNat by omega, hm _ (by omega)]
    exact h
theorem pX12_beginOf {f : Nat} {Φ : Int → aj_M → Prop} {m : aj_M} {A : Nat → Int} {s : Int} (hA : wA A) (hm : ∀ j, j < 1105 → m [1, 1] j = A j) (hs : 0 ≤ s ∧ s < 2 * A 6) (h : Φ (tBg A s) m) : wX12_beginOf f Φ [1] s m := by
  have h6 := hA.2.2.1
  refine ⟨⟨by omega, by omega⟩, ⟨by omega, by omega⟩, fun c => ⟨⟨by omega, by omega⟩, ⟨by omega, by omega⟩, ?_⟩, fun c => ⟨⟨by omega, by omega⟩, ⟨by omega, by omega⟩, ?_⟩⟩
  · rw [tBg, if_neg c] at h
    rw [show (25 + s / 2).toNat = 25 + (s / 2).toNat by omega, hm _ (by omega)]
    exact h
  · rw [tBg, if_pos c] at h
    rw [show (13 + s / 2).toNat = 13 + (s / 2).toNat by omega, hm _ (by omega)]
    exact h
theorem hX12_now {f : Nat} {Φ : Int → aj_M → Prop} {t n : Nat} {m : aj_M} {A U : Nat → Int} (hA : wA A) (hm : ∀ j, j < 1105 → m [1, 1] j = A j) (ht : t < 4) (hn : m [45, 1] t = n) (hn2 : n ≤ 12) (hU : ∀ i : Nat, i < n → m [46, 1] (40 * t + i) = U i ∧ rL (U i)) (h : Φ (if tQ A U n then 0 else -3) m) : ∀ (k i : Nat), i ≤ n → n - i < k → tQ A U i = true → hX12_noWalk_34 f Φ k [1] t (i : Int) m := by
  have h6 := hA.2.2.1
  have h4 : m [1, 1] (6 : Int).toNat = A 6 := hm 6 (by decide)
  intro k
  induction k with
  | zero => intro i h1 h2; omega
  | succ k ih =>
    intro i h1 h2 hq
    refine ⟨⟨by omega, by omega⟩, ⟨by omega, by omega⟩, by rw [Int.toNat_natCast, hn]; exact ⟨by omega, by omega⟩, fun c => ?_, fun c => ?_⟩
    · rw [Int.toNat_natCast, hn] at c
      have e : i = n := by omega
      subst e
      rw [if_pos hq] at h
      exact h
    · rw [Int.toNat_natCast, hn] at c
      have hin : i < n := by omega
      obtain ⟨e, er⟩ := hU i hin
      have hfail : tQ1 A U i = false → Φ (-3) m := by
        intro c
        have : tQ A U n = false := tQ_f n (i := i + 1) (by omega) (by rw [tQ, c, Bool.and_false])
        rw [this] at h
        exact h
      refine ⟨⟨by omega, by omega⟩, by rw [h4]; exact ⟨by omega, by omega⟩, ?_⟩
      rw [h4, show (40 * (t : Int) + i).toNat = 40 * t + i by omega, e]
      refine pW12_within er (by decide) ⟨by omega, by omega⟩ (fun a b => zc1 ⟨⟨by omega, by omega⟩, fun c => ?_, fun c => ?_⟩) (fun a => zc0 (hfail (decide_eq_false (fun x => by omega))))
      · refine ih (i + 1) (by omega) (by omega) ?_
        rw [tQ, hq, Bool.true_and]
        exact decide_eq_true ⟨⟨a, by omega⟩, Or.inl (by omega)⟩
      · have hq2 : tQ A U ((i - 1) + 1) = true := by rw [show i - 1 + 1 = i by omega]; exact hq
        have hs2 := (tQ_1 hq2).1
        have hb2 := tE_b hA hs2
        have hb := tE_b hA (s := U i) ⟨a, by omega⟩
        refine ⟨⟨by omega, by omega⟩, ?_⟩
        rw [show (40 * (t : Int) + ((i : Int) - 1)).toNat = 40 * t + (i - 1) by omega, (hU (i - 1) (by omega)).1]
        refine pX12_endOf hA hm hs2 ⟨⟨by omega, by omega⟩, ?_⟩
        rw [show (40 * (t : Int) + i).toNat = 40 * t + i by omega, e]
        refine pX12_beginOf hA hm ⟨a, by omega⟩ ⟨⟨by omega, by omega⟩, ⟨by omega, by omega⟩, fun x => ?_, fun x => ?_⟩
        · refine ih (i + 1) (by omega) (by omega) ?_
          rw [tQ, hq, Bool.true_and]
          exact decide_eq_true ⟨⟨a, by omega⟩, Or.inr x⟩
        · exact hfail (decide_eq_false (fun y => by
            rcases y.2 with z | z
            · omega
            · exact x z))
def tNw (A : Nat → Int) (n : Int) (U : Nat → Int) : Int := if 1 ≤ n ∧ n ≤ 12 then (if tQ A U n.toNat then 0 else -3) else -4
theorem tNw_r {A : Nat → Int} {n : Int} {U : Nat → Int} : rI (tNw A n U) := by
  unfold tNw
  split
  · split <;> decide
  · decide
theorem tNw_0 {A : Nat → Int} {n : Int} {U : Nat → Int} (h : tNw A n U = 0) : (1 ≤ n ∧ n ≤ 12) ∧ tQ A U n.toNat = true := by
  unfold tNw at h
  split at h
  case isFalse => exact absurd h (by decide)
  case isTrue c =>
    split at h
    case isFalse => exact absurd h (by decide)
    case isTrue d => exact ⟨c, d⟩
theorem tNw_wk {A : Nat → Int} {n : Int} {U : Nat → Int} : tWk A n U = if tNw A n U = 0 then tGa A U n.toNat else tNw A n U := by
  unfold tWk tNw
  split
  · split
    · rw [if_pos rfl]
    · rw [if_neg (by decide)]
  · rw [if_neg (by decide)]
theorem pX12_noWalk {f : Nat} {Φ : Int → aj_M → Prop} {v : Int} {m : aj_M} {A : Nat → Int} {S N : Nat → Int} {V : Nat → Nat → Int} (hf : 50 ≤ f) (hA : wA A) (hm : ∀ j, j < 1105 → m [1, 1] j = A j) (hO : tO S N V) (hR : tR m S N V) (hv : rI v) (hbad : tA N v ≠ 0 → Φ (tA N v) m) (h : ∀ t : Nat, v = t → t < 4 → 0 ≤ N t → tA N v = 0 → Φ (tNw A (N t) (V t)) m) : wX12_noWalk f Φ [1] v m := by
  refine pX12_noTray hO hR hv ⟨tA_r, fun c => ?_, hbad⟩
  obtain ⟨t, rfl, ht, hn⟩ := tA_0 c
  have h := h t rfl ht hn c
  have hb := tO_b hO ht
  have hs := (tO_s hO ht hn).2
  have hc := (hR t ht).2 hn
  rw [Int.toNat_natCast, hc.2.1]
  refine ⟨⟨by omega, by omega⟩, ⟨by omega, by omega⟩, pW12_within ⟨by omega, by omega⟩ (by decide) (by decide) (fun a b => zc1 ?_) (fun a => zc0 ?_)⟩
  · rw [tNw, if_pos ⟨a, b⟩] at h
    exact hX12_now hA hm ht (n := (N t).toNat) (by rw [hc.2.1]; omega) (by omega) (fun i hi => ⟨hc.2.2 i (by omega), hs i (by omega)⟩) h f 0 (by omega) (by omega) rfl
  · rw [tNw, if_neg a] at h
    exact h
theorem hX12_gat {f : Nat} {Φ : Int → aj_M → Prop} {t n : Nat} {m : aj_M} {A U : Nat → Int} (hf : 50 ≤ f) (hA : wA A) (hm : ∀ j, j < 1105 → m [1, 1] j = A j) (ht : t < 4) (hn : m [45, 1] t = n) (hn2 : n ≤ 12) (hU : ∀ i : Nat, i < n → m [46, 1] (40 * t + i) = U i) (hQ : tQ A U n = true) (h : Φ (tGa A U n) m) : ∀ (k i : Nat) (v : Int), i ≤ n → n - i < k → v = tGa A U i → hX12_gathered_4 f Φ k [1] t v (i : Int) m := by
  have h6 := hA.2.2.1
  intro k
  induction k with
  | zero => intro i v h1 h2; omega
  | succ k ih =>
    intro i v h1 h2 hv
    refine ⟨⟨by omega, by omega⟩, ⟨by omega, by omega⟩, by rw [Int.toNat_natCast, hn]; exact ⟨by omega, by omega⟩, fun c => ?_, fun c => ⟨⟨by omega, by omega⟩, ?_⟩⟩
    · rw [Int.toNat_natCast, hn] at c
      have e : i = n := by omega
      subst e
      rw [← hv] at h
      exact h
    · rw [Int.toNat_natCast, hn] at c
      have hin : i < n := by omega
      have hq := tQ_t hQ (i := i + 1) (by omega)
      have hs := (tQ_1 hq).1
      have hvb := tGa_b (U := U) hA i (tQ_t hQ (by omega))
      have hg := hA.2.2.2.1 (U i / 2).toNat (by omega)
      have hb := tVo_b hA hs
      rw [show (40 * (t : Int) + i).toNat = 40 * t + i by omega, hU i hin]
      refine ⟨⟨by omega, by omega⟩, ⟨by omega, by omega⟩, ⟨by omega, by omega⟩, ⟨by omega, by omega⟩, ?_⟩
      rw [show (49 + U i / 2).toNat = 49 + (U i / 2).toNat by omega, hm (49 + (U i / 2).toNat) (by omega)]
      refine ⟨fun c => ?_, fun c => ?_⟩
      · refine pX12_inverseOf (by omega) (hm 1 (by decide)) (hm 2 (by decide)) (hm 3 (by decide)) hA.1 hg.2.2.2.1 hg.2.2.2.2 ?_
        have e : gI (A 1) (A 2) (A 3) (A (49 + (U i / 2).toNat)) = tVo A (U i) := by rw [tVo, if_neg c]
        rw [e]
        refine pX12_times (by decide) (hm 1 (by decide)) (hm 2 (by decide)) (hm 3 (by decide)) hA.1 (by omega) (by omega) hb.1 hb.2 ?_
        exact ih (i + 1) _ (by omega) (by omega) (by rw [tGa, hv])
      · have e : A (49 + (U i / 2).toNat) = tVo A (U i) := by rw [tVo, if_pos c]
        rw [e]
        refine pX12_times (by decide) (hm 1 (by decide)) (hm 2 (by decide)) (hm 3 (by decide)) hA.1 (by omega) (by omega) hb.1 hb.2 ?_
        exact ih (i + 1) _ (by omega) (by omega) (by rw [tGa, hv])
theorem tR_rZ {m : aj_M} {S N : Nat → Int} {V : Nat → Nat → Int} (hR : tR m S N V) : tR (rZ m) S N V := by
  intro t ht
  unfold rZ
  rw [zu_off (by decide), zu_off (by decide), zu_off (by decide)]
  exact hR t ht
theorem hm_rZ {m : aj_M} {A : Nat → Int} (hm : ∀ j, j < 1105 → m [1, 1] j = A j) : ∀ j, j < 1105 → rZ m [1, 1] j = A j := fun j hj => by rw [← hm j hj]; rfl
theorem pX12_walk {f : Nat} {Φ : Int → aj_M → Prop} {v : Int} {m : aj_M} {A : Nat → Int} {S N : Nat → Int} {V : Nat → Nat → Int} (hf : 50 ≤ f) (hA : wA A) (hm : ∀ j, j < 1105 → m [1, 1] j = A j) (hO : tO S N V) (hR : tR m S N V) (hv : rI v) (h : Φ (tWa A N V v) (rZ m)) : wX12_walk f Φ [1] v m := by
  rintro m1 rfl
  have hm := hm_rZ hm
  have hR := tR_rZ hR
  refine pX12_noWalk hf hA hm hO hR hv (fun c => ⟨tA_r, fun d => absurd d c, fun _ => ?_⟩) (fun t et ht hn c => ⟨tNw_r, fun d => ?_, fun d => ?_⟩)
  · rw [tWa, if_neg c] at h
    exact h
  · subst et
    rw [tWa, if_pos c, Int.toNat_natCast, tNw_wk, if_pos d] at h
    have hc := (hR t ht).2 hn
    have hd := tNw_0 d
    exact hX12_gat hf hA hm ht (n := (N t).toNat) (by rw [hc.2.1]; omega) (by omega) (fun i hi => hc.2.2 i (by omega)) hd.2 h f 0 0 (by omega) (by omega) rfl
  · subst et
    rw [tWa, if_pos c, Int.toNat_natCast, tNw_wk, if_neg d] at h
    exact h
def tLi (A N : Nat → Int) (V : Nat → Nat → Int) (v : Int) : Int := if tA N v = 0 then (if tNw A (N v.toNat) (V v.toNat) = 0 then (if tBg A (V v.toNat 0) = tEn A (V v.toNat ((N v.toNat).toNat - 1)) then N v.toNat * gO (A 1) (A 2) (A 3) (tGa A (V v.toNat) (N v.toNat).toNat) else -1) else tNw A (N v.toNat) (V v.toNat)) else tA N v
theorem tNw_n {A : Nat → Int} {n : Int} {U : Nat → Int} (h : tNw A n U ≠ 0) : tNw A n U < 0 := by
  unfold tNw at h ⊢
  split
  · split
    · rename_i a b
      rw [if_pos a, if_pos b] at h
      exact absurd rfl h
    · decide
  · decide
theorem tA_n {N : Nat → Int} {v : Int} (h : tA N v ≠ 0) : tA N v < 0 := by
  unfold tA at h ⊢
  split
  · split
    · rename_i a b
      rw [if_pos a, if_pos b] at h
      exact absurd rfl h
    · decide
  · decide
theorem pX11_lifted {f : Nat} {Φ : Int → aj_M → Prop} {v : Int} {m : aj_M} {A : Nat → Int} {S N : Nat → Int} {V : Nat → Nat → Int} (hf : 50 ≤ f) (hA : wA A) (hP : wP m [1, 0] A) (hS : wS m [2, 0] A) (hO : tO S N V) (hC : tC m S N V) (hv : rI v) (h : Φ (tLi A N V v) m) : wX11_lifted f Φ [0] v m := by
  have h12 := gOK_n hA.1
  refine pX11_walk hf hA hP hS hO hC hv ?_
  have hs0 : m [0, 1, 0] 0 = A 4 := hP.1.1
  have hrs : rI (m [0, 1, 0] 0) := by rw [hs0]; exact rI_gOK hA.1
  by_cases c : tA N v = 0
  · obtain ⟨t, rfl, ht, hn⟩ := tA_0 c
    rw [tLi, if_pos c, Int.toNat_natCast] at h
    rw [tWa, if_pos c, Int.toNat_natCast, tNw_wk]
    by_cases d : tNw A (N t) (V t) = 0
    · rw [if_pos d] at h
      rw [if_pos d]
      have hd := tNw_0 d
      have hgb := tGa_b hA _ hd.2
      have hc := hC t ht
      refine pX0_has ⟨by omega, by omega⟩ hrs (fun _ _ => zc1 ⟨⟨by omega, by omega⟩, ?_⟩) (fun x => absurd ⟨hgb.1, by rw [hs0]; exact hgb.2⟩ x)
      rw [show (0 : Int).toNat = 0 from rfl, (hc.2 hn).2 0 (by omega)]
      have q0 := tQ_1 (tQ_t hd.2 (i := 0 + 1) (by omega))
      have ql := tQ_1 (A := A) (U := V t) (i := (N t).toNat - 1) (by rw [show (N t).toNat - 1 + 1 = (N t).toNat by omega]; exact hd.2)
      have b0 := tE_b hA q0.1
      have bl := tE_b hA ql.1
      refine pX11_stepBegins hA hP q0.1 ⟨by rw [hc.1]; omega, ?_⟩
      rw [hc.1, show (N t - 1).toNat = (N t).toNat - 1 by omega, (hc.2 hn).2 _ (by omega)]
      refine pX11_stepEnds hA hP ql.1 ⟨⟨by omega, by omega⟩, ⟨by omega, by omega⟩, fun x => ?_, fun x => ⟨⟨hgb.1, by omega⟩, ?_⟩⟩
      · rw [if_neg x] at h
        exact h
      · rw [if_pos x] at h
        rw [hc.1, hP.1.2.2.2 _ hgb.1 hgb.2]
        exact h
    · rw [if_neg d] at h
      rw [if_neg d]
      have := tNw_n d
      exact pX0_has tNw_r hrs (fun x _ => by omega) (fun _ => zc0 h)
  · rw [tLi, if_neg c] at h
    rw [tWa, if_neg c]
    have := tA_n c
    exact pX0_has tA_r hrs (fun x _ => by omega) (fun _ => zc0 h)
theorem pX12_lifted {f : Nat} {Φ : Int → aj_M → Prop} {v : Int} {m : aj_M} {A : Nat → Int} {S N : Nat → Int} {V : Nat → Nat → Int} (hf : 50 ≤ f) (hA : wA A) (hm : ∀ j, j < 1105 → m [1, 1] j = A j) (hO : tO S N V) (hR : tR m S N V) (hv : rI v) (h : Φ (tLi A N V v) (rZ m)) : wX12_lifted f Φ [1] v m := by
  rintro m1 rfl
  have hm := hm_rZ hm
  have hR := tR_rZ hR
  refine pX12_noWalk hf hA hm hO hR hv (fun c => ⟨tA_r, fun d => absurd d c, fun _ => ?_⟩) (fun t et ht hn c => ⟨tNw_r, fun d => ⟨⟨by omega, by omega⟩, ?_⟩, fun d => ?_⟩)
  · rw [tLi, if_neg c] at h
    exact h
  · subst et
    rw [tLi, if_pos c, Int.toNat_natCast, if_pos d] at h
    have hc := (hR t ht).2 hn
    have hd := tNw_0 d
    have q0 := tQ_1 (tQ_t hd.2 (i := 0 + 1) (by omega))
    have ql := tQ_1 (A := A) (U := V t) (i := (N t).toNat - 1) (by rw [show (N t).toNat - 1 + 1 = (N t).toNat by omega]; exact hd.2)
    have b0 := tE_b hA q0.1
    have bl := tE_b hA ql.1
    have h45 : aj_u m [1] 0 0 [45, 1] t = N t := hc.2.1
    have h46 : ∀ i : Nat, (i : Int) < N t → aj_u m [1] 0 0 [46, 1] (40 * t + i) = V t i := hc.2.2
    rw [Int.toNat_natCast, h45]
    refine ⟨⟨by omega, by omega⟩, ?_⟩
    rw [show (40 * (t : Int) + (N t - 1)).toNat = 40 * t + ((N t).toNat - 1) by omega, h46 _ (by omega)]
    refine pX12_endOf hA hm ql.1 ⟨⟨by omega, by omega⟩, ?_⟩
    rw [show (40 * (t : Int) + 0).toNat = 40 * t + 0 by omega, h46 0 (by omega)]
    refine pX12_beginOf hA hm q0.1 ⟨⟨by omega, by omega⟩, ⟨by omega, by omega⟩, fun x => ?_, fun x => ?_⟩
    · rw [if_neg (fun y => x y.symm)] at h
      exact h
    · rw [if_pos x.symm] at h
      have hgb := tGa_b hA _ hd.2
      refine hX12_gat hf hA hm ht (n := (N t).toNat) (by rw [hc.2.1]; omega) (by omega) (fun i hi => hc.2.2 i (by omega)) hd.2 ?_ f 0 0 (by omega) (by omega) rfl
      exact pX12_ordersOf (by omega) (by decide) (hm 1 (by decide)) (hm 2 (by decide)) (hm 3 (by decide)) hA.1 hgb.1 hgb.2 h
  · subst et
    rw [tLi, if_pos c, Int.toNat_natCast, if_neg d] at h
    exact h
