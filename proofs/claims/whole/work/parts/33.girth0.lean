/-! RINGS OUT OF A TREE AND ONE MORE LINK -/
def zTr (N L : Nat) (a b : Nat → Nat) (r : Nat) (d vi : Nat → Int) : Prop := d r = 0 ∧ vi r = -1 ∧ ∀ v, v < N → v ≠ r → 0 ≤ d v → ∃ l u, zJ N L a b l u v ∧ vi v = l ∧ 0 ≤ d u ∧ d v = d u + 1
def zLeg (N L : Nat) (a b : Nat → Nat) (d vi : Nat → Int) (w v p : Nat) (c le : Nat → Nat) : Prop := c 0 = w ∧ c p = v ∧ (∀ i, i < p → zJ N L a b (le i) (c i) (c (i + 1)) ∧ vi (c (i + 1)) = le i) ∧ ∀ i, i ≤ p → d (c i) = d w + i
def zMeet (N L : Nat) (a b : Nat → Nat) (d vi : Nat → Int) (u v : Nat) : Prop := ∃ (w p s : Nat) (cP lP cQ lQ : Nat → Nat), 0 ≤ d w ∧ zLeg N L a b d vi w u p cP lP ∧ zLeg N L a b d vi w v s cQ lQ ∧ (p = 0 ∨ s = 0 ∨ lP 0 ≠ lQ 0)
theorem zMeet_sym {N L : Nat} {a b : Nat → Nat} {d vi : Nat → Int} {u v : Nat} (h : zMeet N L a b d vi u v) : zMeet N L a b d vi v u := by
  obtain ⟨w, p, s, cP, lP, cQ, lQ, h0, h1, h2, h3⟩ := h
  exact ⟨w, s, p, cQ, lQ, cP, lP, h0, h2, h1, by rcases h3 with h | h | h; exact Or.inr (Or.inl h); exact Or.inl h; exact Or.inr (Or.inr (Ne.symm h))⟩
theorem zMeet_step {N L : Nat} {a b : Nat → Nat} {r : Nat} {d vi : Nat → Int} (T : zTr N L a b r d vi) {n : Nat} (ih : ∀ u v, u < N → v < N → 0 ≤ d u → 0 ≤ d v → u ≠ v → d u + d v < n + 1 → zMeet N L a b d vi u v) {u v : Nat} (hu : u < N) (hv : v < N) (du : 0 ≤ d u) (dv : 0 ≤ d v) (hne : u ≠ v) (hn : d u + d v < n + 1 + 1) (hle : d v ≤ d u) : zMeet N L a b d vi u v := by
  have hur : u ≠ r := by
    rintro rfl
    rw [T.1] at hle
    have : v = u := by
      by_cases e : v = u
      · exact e
      · obtain ⟨_, _, _, _, h3, h4⟩ := T.2.2 v hv e dv
        omega
    exact hne this.symm
  obtain ⟨l, p', hj, hvi, dp, ed⟩ := T.2.2 u hu hur du
  by_cases e : p' = v
  · subst e
    refine ⟨p', 1, 0, fun i => if i = 0 then p' else u, fun _ => l, fun _ => p', fun _ => 0, dp, ⟨rfl, rfl, fun i hi => ?_, fun i hi => ?_⟩, ⟨rfl, rfl, fun i hi => by omega, fun i hi => by rw [show i = 0 by omega]; show d p' = d p' + 0; omega⟩, Or.inr (Or.inl rfl)⟩
    · rw [show i = 0 by omega]; exact ⟨hj, hvi⟩
    · by_cases e0 : i = 0
      · subst e0; show d p' = d p' + 0; omega
      · rw [show i = 1 by omega]; show d u = d p' + 1; omega
  · obtain ⟨w, p, s, cP, lP, cQ, lQ, h0, ⟨P0, P1, P2, P3⟩, ⟨Q0, Q1, Q2, Q3⟩, h3⟩ := ih p' v hj.2.1 hv dp dv e (by omega)
    have hc : ∀ i, i ≤ p → sn cP (p + 1) u i = cP i := fun i hi => sn_ne (by omega)
    have hl : ∀ i, i < p → sn lP p l i = lP i := fun i hi => sn_ne (by omega)
    refine ⟨w, p + 1, s, sn cP (p + 1) u, sn lP p l, cQ, lQ, h0, ⟨by rw [hc 0 (by omega)]; exact P0, sn_at, fun i hi => ?_, fun i hi => ?_⟩, ⟨Q0, Q1, Q2, Q3⟩, ?_⟩
    · by_cases ei : i = p
      · subst ei
        rw [sn_at, sn_at, hc i (by omega), P1]; exact ⟨hj, hvi⟩
      · rw [hl i (by omega), hc i (by omega), hc (i + 1) (by omega)]
        exact P2 i (by omega)
    · by_cases ei : i = p + 1
      · subst ei
        have := P3 p (by omega)
        rw [P1] at this
        rw [sn_at]; omega
      · rw [hc i (by omega)]; exact P3 i (by omega)
    · by_cases hs : s = 0
      · exact Or.inr (Or.inl hs)
      · refine Or.inr (Or.inr ?_)
        by_cases hp : p = 0
        · subst hp
          rw [sn_at]
          intro el
          have j1 := (Q2 0 (by omega)).1
          rw [Q0, ← el] at j1
          have ew : w = p' := by rw [← P0, P1]
          rw [ew] at j1
          have eu : u = cQ 1 := zJ_other hj j1
          have d1 := Q3 s (by omega)
          rw [Q1] at d1
          have d2 := Q3 1 (by omega)
          rw [← eu] at d2
          have : s = 1 := by omega
          subst this
          exact hne (eu.trans Q1)
        · rw [hl 0 (by omega)]
          rcases h3 with h | h | h
          · exact absurd h hp
          · exact absurd h hs
          · exact h
theorem zMeet_all {N L : Nat} {a b : Nat → Nat} {r : Nat} {d vi : Nat → Int} (T : zTr N L a b r d vi) : ∀ (n : Nat) (u v : Nat), u < N → v < N → 0 ≤ d u → 0 ≤ d v → u ≠ v → d u + d v < n + 1 → zMeet N L a b d vi u v := by
  intro n
  induction n with
  | zero =>
    intro u v hu hv du dv hne hn
    exfalso
    have h0 : ∀ v, v < N → d v = 0 → v = r := by
      intro v hv e
      by_cases hr : v = r
      · exact hr
      · obtain ⟨_, _, _, _, h3, h4⟩ := T.2.2 v hv hr (by omega)
        omega
    exact hne ((h0 u hu (by omega)).trans (h0 v hv (by omega)).symm)
  | succ n ih =>
    intro u v hu hv du dv hne hn
    rcases (by omega : d v ≤ d u ∨ d u ≤ d v) with h | h
    · exact zMeet_step T ih hu hv du dv hne (by omega) h
    · exact zMeet_sym (zMeet_step T ih hv hu dv du (Ne.symm hne) (by omega) h)
theorem zTr_TW {N L : Nat} {a b : Nat → Nat} {r : Nat} {d vi : Nat → Int} (T : zTr N L a b r d vi) {l u v : Nat} (hj : zJ N L a b l u v) (du : 0 ≤ d u) (dv : 0 ≤ d v) (h1 : vi u ≠ l) (h2 : vi v ≠ l) : ∃ w k : Nat, (k : Int) ≤ d u + d v + 1 ∧ zTW N L a b w k := by
  by_cases e : u = v
  · subst e
    exact ⟨u, 1, by omega, by omega, fun _ => u, fun _ => l, rfl, rfl, fun i _ => hj, fun i h1 h2 => by omega, fun h => by omega⟩
  · obtain ⟨w, p, s, cP, lP, cQ, lQ, h0, ⟨P0, P1, P2, P3⟩, ⟨Q0, Q1, Q2, Q3⟩, h3⟩ := zMeet_all T (d u + d v).toNat u v hj.2.1 hj.2.2.1 du dv e (by omega)
    have ep := P3 p (by omega)
    have eq := Q3 s (by omega)
    rw [P1] at ep
    rw [Q1] at eq
    refine ⟨w, p + s + 1, by omega, by omega, fun i => if i ≤ p then cP i else cQ (p + s + 1 - i), fun i => if i < p then lP i else if i = p then l else lQ (p + s - i), ?_, ?_, ?_, ?_, ?_⟩
    · show (if 0 ≤ p then cP 0 else _) = w
      rw [if_pos (by omega), P0]
    · show (if p + s + 1 ≤ p then _ else cQ (p + s + 1 - (p + s + 1))) = w
      rw [if_neg (by omega), Nat.sub_self, Q0]
    · intro i hi
      show zJ N L a b (if i < p then lP i else if i = p then l else lQ (p + s - i)) (if i ≤ p then cP i else cQ (p + s + 1 - i)) (if i + 1 ≤ p then cP (i + 1) else cQ (p + s + 1 - (i + 1)))
      by_cases c1 : i < p
      · rw [if_pos c1, if_pos (by omega), if_pos (by omega)]; exact (P2 i c1).1
      · by_cases c2 : i = p
        · subst c2
          rw [if_neg (by omega), if_pos rfl, if_pos (by omega), if_neg (by omega), P1, show i + s + 1 - (i + 1) = s by omega, Q1]
          exact hj
        · rw [if_neg c1, if_neg c2, if_neg (by omega), if_neg (by omega)]
          have := (Q2 (p + s - i) (by omega)).1
          rw [show p + s - i + 1 = p + s + 1 - i by omega] at this
          rw [show p + s + 1 - (i + 1) = p + s - i by omega]
          exact zJ_sym this
    · intro i i1 i2
      show (if i ≤ p then cP i else cQ (p + s + 1 - i)) ≠ w
      intro e
      by_cases c3 : i ≤ p
      · rw [if_pos c3] at e
        have := P3 i c3
        rw [e] at this; omega
      · rw [if_neg c3] at e
        have := Q3 (p + s + 1 - i) (by omega)
        rw [e] at this; omega
    · intro hk
      show (if 0 < p then lP 0 else if 0 = p then l else lQ (p + s - 0)) ≠ (if p + s + 1 - 1 < p then lP (p + s + 1 - 1) else if p + s + 1 - 1 = p then l else lQ (p + s - (p + s + 1 - 1)))
      rw [if_neg (show ¬ (p + s + 1 - 1 < p) by omega), show p + s - (p + s + 1 - 1) = 0 by omega]
      by_cases hp0 : 0 < p
      · rw [if_pos hp0]
        by_cases hs0 : 0 < s
        · rw [if_neg (by omega)]
          rcases h3 with h | h | h
          · omega
          · omega
          · exact h
        · rw [if_pos (by omega)]
          have hs00 : s = 0 := by omega
          subst hs00
          have hwv : v = w := by rw [← Q1, Q0]
          intro el
          have j1 := (P2 0 hp0)
          rw [P0, el, ← hwv] at j1
          have : u = cP 1 := zJ_other (zJ_sym hj) j1.1
          rw [this] at h1
          exact h1 j1.2
      · have hp00 : p = 0 := by omega
        rw [if_neg hp0, if_pos (by omega)]
        by_cases hs0 : 0 < s
        · rw [if_neg (by omega)]
          subst hp00
          have hwu : u = w := by rw [← P1, P0]
          intro el
          have j1 := (Q2 0 hs0)
          rw [Q0, ← el, ← hwu] at j1
          have : v = cQ 1 := zJ_other hj j1.1
          rw [this] at h2
          exact h2 j1.2
        · omega
theorem zBI_Tr {N : Nat} {L : Nat} {a b : Nat → Nat} {bar : Nat → Bool} {c : Nat → Nat → Int} {r t h : Nat} {d vi lb : Nat → Int} {x : Nat → Nat} (H : zBI N bar (zJ N L a b) c r t h d vi lb x) : zTr N L a b r d vi := by
  obtain ⟨h1, h2, h3, h4, h5, h6, h7, h8, h13, h14, h15⟩ := H
  refine ⟨h8.2.1, h8.2.2.1, fun v hv hr hd => ?_⟩
  obtain ⟨_, l, u, b2, b3, b4, b5, b6⟩ := h14 v hv hr hd
  exact ⟨l, u, b2, b3, b4, b5⟩
/-- what the pruned spreading knows of the nodes that it went through -/
def zPQ (N L : Nat) (a b : Nat → Nat) (h : Nat) (d vi : Nat → Int) (x : Nat → Nat) (best : Int) : Prop := ∀ i, i < h → ∀ l v, zJ N L a b l (x i) v → 0 ≤ d v ∧ d v ≤ d (x i) + 1 ∧ (vi (x i) = l ∨ vi v = l ∨ best ≤ d (x i) + d v + 1)
theorem zprune {N L : Nat} {a b : Nat → Nat} {r t h : Nat} {d vi lb : Nat → Int} {x : Nat → Nat} {best : Int} (hL : L ≤ 144) (HB : zBI N zNo (zJ N L a b) zc1000 r t h d vi lb x) (HQ : zPQ N L a b h d vi x best) (hend : h = t ∨ (h < t ∧ best ≤ 2 * d (x h) + 1)) {k : Nat} (hk : zTW N L a b r k) : best ≤ k := by
  obtain ⟨h1, h2, h3, h4, h5, h6, h7, h8, h13, h14, h15⟩ := HB
  rcases (by omega : best ≤ k ∨ (k : Int) < best) with hb | hb
  · exact hb
  exfalso
  obtain ⟨k1, c, le, c0, ck, cj, ci, cf⟩ := hk
  have hr0 := h8.2.1
  have proc : ∀ v, v < N → 0 ≤ d v → 2 * d v < k → ∃ i, i < h ∧ x i = v := by
    intro v hv hd h2d
    obtain ⟨j, hj, e⟩ := h5 v hv hd
    refine ⟨j, ?_, e⟩
    rcases Nat.lt_or_ge j h with hjh | hjh
    · exact hjh
    · exfalso
      rcases hend with he | he
      · omega
      · have := h6 h j hjh hj
        rw [e] at this
        omega
  have cN : ∀ i, i ≤ k → c i < N := by
    intro i hi
    by_cases e : i = k
    · subst e
      have := (cj (i - 1) (by omega)).2.2.1
      rwa [show i - 1 + 1 = i by omega] at this
    · exact (cj i (by omega)).2.1
  have fw : ∀ i, 2 * i ≤ k + 1 → i ≤ k → 0 ≤ d (c i) ∧ d (c i) ≤ i := by
    intro i
    induction i with
    | zero => intro _ _; rw [c0, hr0]; omega
    | succ i ih =>
      intro e1 e2
      have h9 := ih (by omega) (by omega)
      obtain ⟨j, hj, e⟩ := proc (c i) (cN i (by omega)) h9.1 (by omega)
      have h10 := HQ j hj (le i) (c (i + 1)) (by rw [e]; exact cj i (by omega))
      rw [e] at h10
      omega
  have bw : ∀ j i, i + j = k → 2 * j ≤ k + 1 → 0 ≤ d (c i) ∧ d (c i) ≤ j := by
    intro j
    induction j with
    | zero => intro i e _; rw [show i = k by omega, ck, hr0]; omega
    | succ j ih =>
      intro i e1 e2
      have h9 := ih (i + 1) (by omega) (by omega)
      obtain ⟨j', hj', e⟩ := proc (c (i + 1)) (cN (i + 1) (by omega)) h9.1 (by omega)
      have h10 := HQ j' hj' (le i) (c i) (by rw [e]; exact zJ_sym (cj i (by omega)))
      rw [e] at h10
      omega
  have rch : ∀ i, i ≤ k → 0 ≤ d (c i) ∧ (2 * i ≤ k → d (c i) ≤ i) ∧ (k ≤ 2 * i → d (c i) ≤ k - i) := by
    intro i hi
    rcases (by omega : 2 * i ≤ k ∨ k ≤ 2 * i) with h | h
    · have := fw i (by omega) hi
      refine ⟨this.1, fun _ => this.2, fun h' => ?_⟩
      have := (bw (k - i) i (by omega) (by omega)).2
      omega
    · have h9 := bw (k - i) i (by omega) (by omega)
      refine ⟨h9.1, fun h' => (fw i (by omega) hi).2, fun _ => by omega⟩
  have tree : ∀ i, i < k → vi (c i) = le i ∨ vi (c (i + 1)) = le i := by
    intro i hi
    have r1 := rch i (by omega)
    have r2 := rch (i + 1) (by omega)
    by_cases hc : 2 * i < k
    · have hd1 := r1.2.1 (by omega)
      obtain ⟨j, hj, e⟩ := proc (c i) (cN i (by omega)) r1.1 (by omega)
      have h10 := HQ j hj (le i) (c (i + 1)) (by rw [e]; exact cj i hi)
      rw [e] at h10
      rcases h10.2.2 with h | h | h
      · exact Or.inl h
      · exact Or.inr h
      · exfalso
        by_cases hc2 : 2 * (i + 1) ≤ k
        · have := r2.2.1 hc2; omega
        · have := r2.2.2 (by omega); omega
    · have hd2 := r2.2.2 (by omega)
      have hd1 := r1.2.2 (by omega)
      obtain ⟨j, hj, e⟩ := proc (c (i + 1)) (cN (i + 1) (by omega)) r2.1 (by omega)
      have h10 := HQ j hj (le i) (c i) (by rw [e]; exact zJ_sym (cj i hi))
      rw [e] at h10
      rcases h10.2.2 with h | h | h
      · exact Or.inr h
      · exact Or.inl h
      · exfalso; omega
  have hvr := h8.2.2.1
  by_cases hk1 : k = 1
  · subst hk1
    rcases tree 0 (by omega) with h | h
    · rw [c0, hvr] at h; omega
    · rw [ck, hvr] at h; omega
  · have t0 : vi (c 1) = le 0 := by
      rcases tree 0 (by omega) with h | h
      · rw [c0, hvr] at h; omega
      · exact h
    have tk : vi (c (k - 1)) = le (k - 1) := by
      rcases tree (k - 1) (by omega) with h | h
      · exact h
      · rw [show k - 1 + 1 = k by omega, ck, hvr] at h; omega
    have par : ∀ v w l, v < N → v ≠ r → 0 ≤ d v → vi v = (l : Nat) → zJ N L a b l w v → lb v = if w = r then (l : Int) else lb w := by
      intro v w l hv hvr hd hvi hj
      obtain ⟨_, l', u', b2, b3, b4, b5, b6⟩ := h14 v hv hvr hd
      have el : l' = l := by omega
      subst el
      have eu : u' = w := zJ_other (zJ_sym b2) (zJ_sym hj)
      subst eu
      rw [b6]
      have := hj.1
      unfold zc1000
      rw [if_neg (show ¬ l' = 1000 by omega)]
    have l1 : lb (c 1) = le 0 := by
      have := par (c 1) r (le 0) (cN 1 (by omega)) (ci 1 (by omega) (by omega)) (rch 1 (by omega)).1 t0 (by rw [← c0]; exact cj 0 (by omega))
      rwa [if_pos rfl] at this
    have l2 : lb (c (k - 1)) = le (k - 1) := by
      have j := zJ_sym (cj (k - 1) (by omega))
      rw [show k - 1 + 1 = k by omega, ck] at j
      have := par (c (k - 1)) r (le (k - 1)) (cN (k - 1) (by omega)) (ci (k - 1) (by omega) (by omega)) (rch (k - 1) (by omega)).1 tk j
      rwa [if_pos rfl] at this
    have same : ∀ i, 1 ≤ i → i ≤ k - 1 → lb (c i) = lb (c 1) := by
      intro i
      induction i with
      | zero => intro h; omega
      | succ i ih =>
        intro _ e2
        by_cases ei : i = 0
        · subst ei; rfl
        · rw [← ih (by omega) (by omega)]
          have n1 := ci i (by omega) (by omega)
          have n2 := ci (i + 1) (by omega) (by omega)
          rcases tree i (by omega) with h | h
          · have := par (c i) (c (i + 1)) (le i) (cN i (by omega)) n1 (rch i (by omega)).1 h (zJ_sym (cj i (by omega)))
            rw [if_neg n2] at this
            exact this.symm
          · have := par (c (i + 1)) (c i) (le i) (cN (i + 1) (by omega)) n2 (rch (i + 1) (by omega)).1 h (cj i (by omega))
            rw [if_neg n1] at this
            exact this
    have := same (k - 1) (by omega) (by omega)
    rw [l1, l2] at this
    exact cf (by omega) (by omega)
