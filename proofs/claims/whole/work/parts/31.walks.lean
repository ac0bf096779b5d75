/-! CLOSED WALKS, AND THE SHORTEST OF THEM THROUGH A NODE -/
def zTW (N L : Nat) (a b : Nat → Nat) (r k : Nat) : Prop := 1 ≤ k ∧ ∃ c le : Nat → Nat, c 0 = r ∧ c k = r ∧ (∀ i, i < k → zJ N L a b (le i) (c i) (c (i + 1))) ∧ (∀ i, 0 < i → i < k → c i ≠ r) ∧ (2 ≤ k → le 0 ≠ le (k - 1))
def zNo : Nat → Bool := fun _ => false
theorem zpath {N L : Nat} {a b : Nat → Nat} {bar : Nat → Bool} {cl : Nat → Nat → Int} {r : Nat} {d vi lb : Nat → Int} (H : zBC N bar (zJ N L a b) cl r d vi lb) : ∀ (k v : Nat), v < N → d v = k → ∃ c le : Nat → Nat, c 0 = r ∧ c k = v ∧ (∀ i, i < k → zJ N L a b (le i) (c i) (c (i + 1))) ∧ (∀ i, i ≤ k → d (c i) = i) ∧ (1 ≤ k → lb v = cl (le 0) (c 1) ∧ vi v = le (k - 1)) ∧ (∀ i, 0 < i → i ≤ k → bar (c i) = false) := by
  intro k
  induction k with
  | zero =>
    intro v hv e
    have : v = r := by
      by_cases h : v = r
      · exact h
      · obtain ⟨_, l, u, _, _, h4, h5, _⟩ := H.2.2.1 v hv h (by omega)
        omega
    subst this
    exact ⟨fun _ => v, fun _ => 0, rfl, rfl, fun i hi => by omega, fun i hi => by rw [show i = 0 by omega]; exact e, fun h => by omega, fun i h1 h2 => by omega⟩
  | succ k ih =>
    intro v hv e
    have hvr : v ≠ r := by
      rintro rfl
      have := H.1.2.1
      omega
    obtain ⟨hb, l, u, hj, h3, h4, h5, h6⟩ := H.2.2.1 v hv hvr (by omega)
    obtain ⟨c, le, c0, ck, cj, cd, cl', cb⟩ := ih u hj.2.1 (by omega)
    have hc : ∀ i, i ≤ k → sn c (k + 1) v i = c i := fun i hi => sn_ne (by omega)
    have hl : ∀ i, i < k → sn le k l i = le i := fun i hi => sn_ne (by omega)
    refine ⟨sn c (k + 1) v, sn le k l, by rw [hc 0 (by omega)]; exact c0, sn_at, ?_, ?_, ?_, ?_⟩
    · intro i hi
      by_cases ei : i = k
      · subst ei
        rw [sn_at, sn_at, hc i (by omega), ck]; exact hj
      · rw [hl i (by omega), hc i (by omega), hc (i + 1) (by omega)]
        exact cj i (by omega)
    · intro i hi
      by_cases ei : i = k + 1
      · subst ei; rw [sn_at]; exact e
      · rw [hc i (by omega)]; exact cd i (by omega)
    · intro _
      refine ⟨?_, by rw [show k + 1 - 1 = k by omega, sn_at]; exact h3⟩
      rw [h6]
      by_cases eu : u = r
      · have hk0 : k = 0 := by
          have := H.1.2.1
          rw [← eu] at this
          omega
        subst hk0
        rw [if_pos eu, sn_at, sn_at]
      · have hk0 : 1 ≤ k := by
          rcases Nat.eq_zero_or_pos k with h | h
          · subst h; exact absurd (ck.symm.trans c0) eu
          · exact h
        rw [if_neg eu, (cl' hk0).1, hl 0 (by omega), hc 1 (by omega)]
    · intro i h1 h2
      by_cases ei : i = k + 1
      · subst ei; rw [sn_at]; exact hb
      · rw [hc i (by omega)]; exact cb i h1 (by omega)
/-- a link that closes a ring through r -/
def zCt (a b : Nat → Nat) (r : Nat) (d vi lb : Nat → Int) (l : Nat) : Prop := 0 ≤ d (a l) ∧ 0 ≤ d (b l) ∧ ((a l = r ∧ b l = r) ∨ (a l = r ∧ b l ≠ r ∧ vi (b l) ≠ l) ∨ (a l ≠ r ∧ b l = r ∧ vi (a l) ≠ l) ∨ (a l ≠ r ∧ b l ≠ r ∧ lb (a l) ≠ lb (b l)))
theorem zJ_other {N L : Nat} {a b : Nat → Nat} {l u v w : Nat} (h : zJ N L a b l u v) (h' : zJ N L a b l u w) : v = w := by
  have h1 := h.2.2.2
  have h2 := h'.2.2.2
  omega
theorem zCt_TW {N L : Nat} {a b : Nat → Nat} {cl : Nat → Nat → Int} {r : Nat} {d vi lb : Nat → Int} (H : zBC N zNo (zJ N L a b) cl r d vi lb) (hab : ∀ l, l < L → a l < N ∧ b l < N) {l : Nat} (hl : l < L) (hc : zCt a b r d vi lb l) : ∃ k : Nat, (k : Int) = d (a l) + d (b l) + 1 ∧ zTW N L a b r k := by
  obtain ⟨hu, hv, hcs⟩ := hc
  have hN := hab l hl
  obtain ⟨cP, lP, p0, pk, pj, pd, pl, _⟩ := zpath H (d (a l)).toNat (a l) hN.1 (by omega)
  obtain ⟨cQ, lQ, q0, qk, qj, qd, ql, _⟩ := zpath H (d (b l)).toNat (b l) hN.2 (by omega)
  generalize hp : (d (a l)).toNat = p at *
  generalize hs : (d (b l)).toNat = s at *
  have hr0 := H.1.2.1
  have hjl : zJ N L a b l (a l) (b l) := ⟨hl, hN.1, hN.2, Or.inl ⟨rfl, rfl⟩⟩
  have hcl1 : a l = r → d (b l) ≤ 1 := by
    intro e
    have := (H.2.2.2 l (a l) (b l) hjl hu rfl).2
    rw [e, hr0] at this; omega
  have hcl2 : b l = r → d (a l) ≤ 1 := by
    intro e
    have := (H.2.2.2 l (b l) (a l) (zJ_sym hjl) hv rfl).2
    rw [e, hr0] at this; omega
  refine ⟨p + s + 1, by omega, by omega, fun i => if i ≤ p then cP i else cQ (p + s + 1 - i), fun i => if i < p then lP i else if i = p then l else lQ (p + s - i), ?_, ?_, ?_, ?_, ?_⟩
  · show (if 0 ≤ p then cP 0 else _) = r
    rw [if_pos (by omega), p0]
  · show (if p + s + 1 ≤ p then _ else cQ (p + s + 1 - (p + s + 1))) = r
    rw [if_neg (by omega), Nat.sub_self, q0]
  · intro i hi
    show zJ N L a b (if i < p then lP i else if i = p then l else lQ (p + s - i)) (if i ≤ p then cP i else cQ (p + s + 1 - i)) (if i + 1 ≤ p then cP (i + 1) else cQ (p + s + 1 - (i + 1)))
    by_cases h1 : i < p
    · rw [if_pos h1, if_pos (by omega), if_pos (by omega)]; exact pj i h1
    · by_cases h2 : i = p
      · subst h2
        rw [if_neg (by omega), if_pos rfl, if_pos (by omega), if_neg (by omega), pk, show i + s + 1 - (i + 1) = s by omega, qk]
        exact hjl
      · rw [if_neg h1, if_neg h2, if_neg (by omega), if_neg (by omega)]
        have := qj (p + s - i) (by omega)
        rw [show p + s - i + 1 = p + s + 1 - i by omega] at this
        rw [show p + s + 1 - (i + 1) = p + s - i by omega]
        exact zJ_sym this
  · intro i h1 h2
    show (if i ≤ p then cP i else cQ (p + s + 1 - i)) ≠ r
    intro e
    by_cases h3 : i ≤ p
    · rw [if_pos h3] at e
      have := pd i h3
      rw [e, hr0] at this; omega
    · rw [if_neg h3] at e
      have := qd (p + s + 1 - i) (by omega)
      rw [e, hr0] at this; omega
  · intro h2
    show (if 0 < p then lP 0 else if 0 = p then l else lQ (p + s - 0)) ≠ (if p + s + 1 - 1 < p then lP (p + s + 1 - 1) else if p + s + 1 - 1 = p then l else lQ (p + s - (p + s + 1 - 1)))
    rw [if_neg (show ¬ (p + s + 1 - 1 < p) by omega), show p + s - (p + s + 1 - 1) = 0 by omega]
    by_cases hp0 : 0 < p
    · rw [if_pos hp0]
      have ha : a l ≠ r := by intro e; rw [e, hr0] at hp; omega
      by_cases hs0 : 0 < s
      · rw [if_neg (by omega)]
        have hb : b l ≠ r := by intro e; rw [e, hr0] at hs; omega
        have hlb : lb (a l) ≠ lb (b l) := by
          rcases hcs with h | h | h | h
          · exact absurd h.1 ha
          · exact absurd h.1 ha
          · exact absurd h.2.1 hb
          · exact h.2.2
        intro e
        apply hlb
        rw [(pl hp0).1, (ql hs0).1, e]
        have j1 := pj 0 hp0
        have j2 := qj 0 hs0
        rw [p0] at j1
        rw [q0, ← e] at j2
        rw [zJ_other j1 j2]
      · rw [if_pos (by omega)]
        have hs00 : s = 0 := by omega
        have hb : b l = r := by rw [← qk, hs00, q0]
        have hp1 : p = 1 := by have := hcl2 hb; omega
        have := (pl hp0).2
        rw [hp1] at this
        have hvi : vi (a l) ≠ l := by
          rcases hcs with h | h | h | h
          · exact absurd h.1 ha
          · exact absurd h.1 ha
          · exact h.2.2
          · exact absurd hb h.2.1
        intro e
        apply hvi
        rw [this, ← e]
    · have hp00 : p = 0 := by omega
      have ha : a l = r := by rw [← pk, hp00, p0]
      rw [if_neg hp0, if_pos (by omega)]
      by_cases hs0 : 0 < s
      · rw [if_neg (by omega)]
        have hb : b l ≠ r := by intro e; rw [e, hr0] at hs; omega
        have hs1 : s = 1 := by have := hcl1 ha; omega
        have := (ql hs0).2
        rw [hs1] at this
        have hvi : vi (b l) ≠ l := by
          rcases hcs with h | h | h | h
          · exact absurd h.2 hb
          · exact h.2.2
          · exact absurd ha h.1
          · exact absurd ha h.1
        intro e
        apply hvi
        rw [this, e]
      · omega
theorem zwalk_d {N L : Nat} {a b : Nat → Nat} {cl : Nat → Nat → Int} {r : Nat} {d vi lb : Nat → Int} (H : zBC N zNo (zJ N L a b) cl r d vi lb) {k : Nat} {c le : Nat → Nat} (c0 : c 0 = r) (cj : ∀ i, i < k → zJ N L a b (le i) (c i) (c (i + 1))) : ∀ i, i ≤ k → 0 ≤ d (c i) ∧ d (c i) ≤ i := by
  intro i
  induction i with
  | zero => intro _; rw [c0, H.1.2.1]; omega
  | succ i ih =>
    intro hi
    have h1 := ih (by omega)
    have h2 := H.2.2.2 _ _ _ (cj i (by omega)) h1.1 rfl
    omega
theorem zwalk_e {N L : Nat} {a b : Nat → Nat} {cl : Nat → Nat → Int} {r : Nat} {d vi lb : Nat → Int} (H : zBC N zNo (zJ N L a b) cl r d vi lb) {k : Nat} {c le : Nat → Nat} (ck : c k = r) (cj : ∀ i, i < k → zJ N L a b (le i) (c i) (c (i + 1))) : ∀ j i, i + j = k → 0 ≤ d (c i) ∧ d (c i) ≤ j := by
  intro j
  induction j with
  | zero => intro i hi; rw [show i = k by omega, ck, H.1.2.1]; omega
  | succ j ih =>
    intro i hi
    have h1 := ih (i + 1) (by omega)
    have h2 := H.2.2.2 _ _ _ (zJ_sym (cj i (by omega))) h1.1 rfl
    omega
/-- the value of a link that joins u and v -/
theorem zJ_val {N L : Nat} {a b : Nat → Nat} {d : Nat → Int} {l u v : Nat} (h : zJ N L a b l u v) : d (a l) + d (b l) = d u + d v := by
  rcases h.2.2.2 with ⟨rfl, rfl⟩ | ⟨rfl, rfl⟩ <;> omega
theorem zTW_Ct {N L : Nat} {a b : Nat → Nat} {cl : Nat → Nat → Int} {r : Nat} {d vi lb : Nat → Int} (H : zBC N zNo (zJ N L a b) cl r d vi lb) (hcl : ∀ l l' v v', l < L → l' < L → cl l v = cl l' v' → l = l' ∨ v = v') {k : Nat} (hk : zTW N L a b r k) : ∃ l, l < L ∧ zCt a b r d vi lb l ∧ d (a l) + d (b l) + 1 ≤ k := by
  obtain ⟨k1, c, le, c0, ck, cj, ci, cf⟩ := hk
  have dd := zwalk_d H c0 cj
  have de := zwalk_e H ck cj
  have hr0 := H.1.2.1
  by_cases hk1 : k = 1
  · subst hk1
    have j := cj 0 (by omega)
    rw [c0, ck] at j
    refine ⟨le 0, j.1, ⟨?_, ?_, Or.inl ?_⟩, ?_⟩
    · have := j.2.2.2; rw [show a (le 0) = r by omega, hr0]; omega
    · have := j.2.2.2; rw [show b (le 0) = r by omega, hr0]; omega
    · have := j.2.2.2; omega
    · rw [zJ_val j, hr0]; omega
  · have hcf := cf (by omega)
    have pos : ∀ i, i ≤ k → 0 ≤ d (c i) := fun i hi => (dd i hi).1
    -- at r itself
    have atr : ∀ l v, v ≠ r → zJ N L a b l r v → 0 ≤ d v → vi v ≠ l → ∃ l, l < L ∧ zCt a b r d vi lb l ∧ d (a l) + d (b l) + 1 ≤ k := by
      intro l v hv hj hd hvi
      have hd1 := (H.2.2.2 l r v hj (by omega) rfl).2
      refine ⟨l, hj.1, ?_, by rw [zJ_val hj, hr0]; omega⟩
      rcases hj.2.2.2 with ⟨e1, e2⟩ | ⟨e1, e2⟩
      · exact ⟨by rw [e1, hr0]; omega, by rw [e2]; exact hd, Or.inr (Or.inl ⟨e1, by rw [e2]; exact hv, by rw [e2]; exact hvi⟩)⟩
      · exact ⟨by rw [e1]; exact hd, by rw [e2, hr0]; omega, Or.inr (Or.inr (Or.inl ⟨by rw [e1]; exact hv, e2, by rw [e1]; exact hvi⟩))⟩
    have j0 := cj 0 (by omega)
    rw [c0] at j0
    have jk := cj (k - 1) (by omega)
    rw [show k - 1 + 1 = k by omega, ck] at jk
    have jk := zJ_sym jk
    by_cases h0 : vi (c 1) = le 0
    · by_cases h1 : vi (c (k - 1)) = le (k - 1)
      · -- labels at both ends
        have lab : ∀ (v l : Nat), v < N → v ≠ r → 0 ≤ d v → vi v = l → zJ N L a b l r v → lb v = cl l v := by
          intro v l hvN hv hd hvi hj
          obtain ⟨_, l', u', b2, b3, b4, b5, b6⟩ := H.2.2.1 v hvN hv hd
          have el : l' = l := by omega
          subst el
          have : u' = r := zJ_other (zJ_sym b2) (zJ_sym hj)
          rw [b6, if_pos this]
        have l1 := lab (c 1) (le 0) j0.2.2.1 (ci 1 (by omega) (by omega)) (pos 1 (by omega)) h0 j0
        have l2 := lab (c (k - 1)) (le (k - 1)) jk.2.2.1 (ci (k - 1) (by omega) (by omega)) (pos (k - 1) (by omega)) h1 jk
        -- somewhere labels differ
        have hne : lb (c 1) ≠ lb (c (k - 1)) := by
          rw [l1, l2]
          intro e
          rcases hcl _ _ _ _ j0.1 jk.1 e with h | h
          · exact hcf h
          · rw [h, h1] at h0; omega
        have : ∃ i, 1 ≤ i ∧ i < k - 1 ∧ lb (c i) ≠ lb (c (i + 1)) := by
          by_cases hex : ∃ i, 1 ≤ i ∧ i < k - 1 ∧ lb (c i) ≠ lb (c (i + 1))
          · exact hex
          · exfalso
            apply hne
            have : ∀ i, 1 ≤ i → i ≤ k - 1 → lb (c 1) = lb (c i) := by
              intro i
              induction i with
              | zero => intro h; omega
              | succ i ih =>
                intro _ h2
                by_cases hi : i = 0
                · subst hi; rfl
                · rw [ih (by omega) (by omega)]
                  by_cases he : lb (c i) = lb (c (i + 1))
                  · exact he
                  · exact absurd ⟨i, by omega, by omega, he⟩ hex
            exact this (k - 1) (by omega) (by omega)
        obtain ⟨i, i1, i2, i3⟩ := this
        have ji := cj i (by omega)
        have d1 := (dd i (by omega)).2
        have d2 := (de (k - (i + 1)) (i + 1) (by omega)).2
        refine ⟨le i, ji.1, ?_, by rw [zJ_val ji]; omega⟩
        have n1 := ci i (by omega) (by omega)
        have n2 := ci (i + 1) (by omega) (by omega)
        have p1 := pos i (by omega)
        have p2 := pos (i + 1) (by omega)
        rcases ji.2.2.2 with ⟨e1, e2⟩ | ⟨e1, e2⟩
        · refine ⟨by rw [e1]; exact p1, by rw [e2]; exact p2, Or.inr (Or.inr (Or.inr ?_))⟩
          rw [e1, e2]; exact ⟨n1, n2, i3⟩
        · refine ⟨by rw [e1]; exact p2, by rw [e2]; exact p1, Or.inr (Or.inr (Or.inr ?_))⟩
          rw [e1, e2]; exact ⟨n2, n1, Ne.symm i3⟩
      · exact atr (le (k - 1)) (c (k - 1)) (ci (k - 1) (by omega) (by omega)) jk (pos (k - 1) (by omega)) h1
    · exact atr (le 0) (c 1) (ci 1 (by omega) (by omega)) j0 (pos 1 (by omega)) h0
/-- the shortest through r: none, or a number -/
def zThr (N L : Nat) (a b : Nat → Nat) (r : Nat) (inf z : Int) : Prop := (z = inf ∧ ∀ k, ¬ zTW N L a b r k) ∨ (∃ k : Nat, z = k ∧ k ≤ 2 * N ∧ zTW N L a b r k ∧ ∀ k', zTW N L a b r k' → k ≤ k')
/-- a search through links for the least value -/
def zLe (a b : Nat → Nat) (r : Nat) (d vi lb : Nat → Int) (inf : Int) (l : Nat) (best : Int) : Prop := best ≤ inf ∧ (best = inf ∨ ∃ j, j < l ∧ zCt a b r d vi lb j ∧ best = d (a j) + d (b j) + 1) ∧ ∀ j, j < l → zCt a b r d vi lb j → best ≤ d (a j) + d (b j) + 1
theorem zLe_thr {N L : Nat} {a b : Nat → Nat} {cl : Nat → Nat → Int} {r : Nat} {d vi lb : Nat → Int} {inf best : Int} (H : zBC N zNo (zJ N L a b) cl r d vi lb) (hcl : ∀ l l' v v', l < L → l' < L → cl l v = cl l' v' → l = l' ∨ v = v') (hab : ∀ l, l < L → a l < N ∧ b l < N) (hd : ∀ v, v < N → d v < N) (hinf : 2 * (N : Int) < inf) (h : zLe a b r d vi lb inf L best) : zThr N L a b r inf best := by
  obtain ⟨h1, h2, h3⟩ := h
  rcases h2 with h2 | ⟨j, hj, hc, e⟩
  · left
    refine ⟨h2, fun k hk => ?_⟩
    obtain ⟨l, hl, hc, hv⟩ := zTW_Ct H hcl hk
    have := h3 l hl hc
    have e1 := hd (a l) (hab l hl).1
    have e2 := hd (b l) (hab l hl).2
    omega
  · right
    obtain ⟨k, ek, hk⟩ := zCt_TW H hab hj hc
    have e1 := hd (a j) (hab j hj).1
    have e2 := hd (b j) (hab j hj).2
    refine ⟨k, by omega, by omega, hk, fun k' hk' => ?_⟩
    obtain ⟨l, hl, hc', hv⟩ := zTW_Ct H hcl hk'
    have := h3 l hl hc'
    omega
theorem zLe_0 {a b : Nat → Nat} {r : Nat} {d vi lb : Nat → Int} {inf : Int} : zLe a b r d vi lb inf 0 inf := ⟨Int.le_refl _, Or.inl rfl, fun j hj => by omega⟩
theorem zLe_no {a b : Nat → Nat} {r : Nat} {d vi lb : Nat → Int} {inf best : Int} {l : Nat} (h : zLe a b r d vi lb inf l best) (hc : ¬ zCt a b r d vi lb l) : zLe a b r d vi lb inf (l + 1) best := by
  refine ⟨h.1, h.2.1.imp id (fun ⟨j, h1, h2⟩ => ⟨j, by omega, h2⟩), fun j hj hcj => ?_⟩
  by_cases e : j = l
  · subst e; exact absurd hcj hc
  · exact h.2.2 j (by omega) hcj
theorem zLe_yes {a b : Nat → Nat} {r : Nat} {d vi lb : Nat → Int} {inf best : Int} {l : Nat} (h : zLe a b r d vi lb inf l best) (hc : zCt a b r d vi lb l) : zLe a b r d vi lb inf (l + 1) (min best (d (a l) + d (b l) + 1)) := by
  refine ⟨by have := h.1; omega, ?_, fun j hj hcj => ?_⟩
  · by_cases c : best ≤ d (a l) + d (b l) + 1
    · rw [show min best (d (a l) + d (b l) + 1) = best by omega]
      exact h.2.1.imp id (fun ⟨j, h1, h2⟩ => ⟨j, by omega, h2⟩)
    · rw [show min best (d (a l) + d (b l) + 1) = d (a l) + d (b l) + 1 by omega]
      exact Or.inr ⟨l, by omega, hc, rfl⟩
  · by_cases e : j = l
    · subst e; omega
    · have := h.2.2 j (by omega) hcj; omega
